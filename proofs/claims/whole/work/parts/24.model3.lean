def f_X11_teachesAtOnce  (m : Sg) (a1 : Int32) : Option (Sg) :=
  cal (f_X11_countOf 39 m a1) (fun x2 m1 => bnd (x2 / 10) (fun x3 => (if 9 ≤ x3 then some m1 else
  calv (f_X11_isRight 39 m1 a1 x3) (fun m4 => some m4))))
set_option maxRecDepth 4000 in
theorem c_X11_teachesAtOnce {g : Cf} {m mm : Sg} {a1 : Int32} (hm : f_X11_teachesAtOnce  m a1 = some mm) : Cl g 2 yX11_teachesAtOnce cX11_teachesAtOnce 3 none [.ref (g.ad 27), .int a1] m none mm := by
  refine cl_of (by decide) (Nat.le_of_ble_eq_true rfl) (vs := [some (.ref (g.ad 27)), some (.int a1), none]) rfl rfl ?_
  show GX g 2 RX11 cX11_teachesAtOnce 3 none none mm 0 _ [] m
  unfold f_X11_teachesAtOnce at hm
  refine g_aloadn_0 dX11_teachesAtOnce_0 ?_
  refine g_getr (q := 39) fo_11_30 pn_27 pc_27 rfl rfl dX11_teachesAtOnce_1 ?_
  refine g_iloadn_1 dX11_teachesAtOnce_4 ?_
  refine g_s2 hm (fun _ _ h => c_X11_countOf ar_39 h) ce_X11_countOf lk_X11_284 rfl rfl dX11_teachesAtOnce_5 (fun x2 m1 hm => ?_)
  refine g_bipush 10 dX11_teachesAtOnce_8 rfl ?_
  refine g_idiv dX11_teachesAtOnce_10 (by decide) ?_
  refine g_istoreBn_2 hm dX11_teachesAtOnce_11 rfl (fun x3 hm => ?_)
  refine g_iloadn_2 dX11_teachesAtOnce_12 ?_
  refine g_bipush 9 dX11_teachesAtOnce_13 rfl ?_
  refine g_icmp_ge 27 hm dX11_teachesAtOnce_15 (by decide) (fun hm => ?_) (fun hm => ?_)
  · exact g_vret hm dX11_teachesAtOnce_27
  · refine g_aloadn_0 dX11_teachesAtOnce_18 ?_
    refine g_getr (q := 39) fo_11_30 pn_27 pc_27 rfl rfl dX11_teachesAtOnce_19 ?_
    refine g_iloadn_1 dX11_teachesAtOnce_22 ?_
    refine g_iloadn_2 dX11_teachesAtOnce_23 ?_
    refine g_s3V hm (fun _ h => c_X11_isRight ar_39 h) ce_X11_isRight lk_X11_365 rfl rfl dX11_teachesAtOnce_24 (fun m4 hm => ?_)
    exact g_vret hm dX11_teachesAtOnce_27
def f_X11_isOf  (m : Sg) (a1 : Int32) (a2 : Int32) : Option (Int32 × Sg) :=
  cal (f_X11_isChild m a1) (fun x2 m1 => (if x2 = 0 then some (0, m1) else
  if inr ((6 * a1) + 3) 48 = true then (if (m1.1 32 ((6 * a1) + 3).toNatClampNeg) = a2 then some (1, m1) else
  some (0, m1)) else none))
set_option maxRecDepth 4000 in
theorem c_X11_isOf {g : Cf} {m mm : Sg} {r : Int32} {a1 : Int32} {a2 : Int32} (hm : f_X11_isOf  m a1 a2 = some (r, mm)) : Cl g 1 yX11_isOf cX11_isOf 3 (some .boolean) [.ref (g.ad 27), .int a1, .int a2] m (some (.int r)) mm := by
  refine cl_of (by decide) (Nat.le_of_ble_eq_true rfl) (vs := [some (.ref (g.ad 27)), some (.int a1), some (.int a2)]) rfl rfl ?_
  show GX g 1 RX11 cX11_isOf 3 (some .boolean) (some (.int r)) mm 0 _ [] m
  unfold f_X11_isOf at hm
  refine g_aloadn_0 dX11_isOf_0 ?_
  refine g_iloadn_1 dX11_isOf_1 ?_
  refine g_v1 hm (fun _ _ h => c_X11_isChild h) pn_27 (pc_27 _ _) rfl ce_X11_isChild lk_X11_296 rfl rfl dX11_isOf_2 (fun x2 m1 hm => ?_)
  refine g_if_eq 27 hm dX11_isOf_5 (by decide) (fun hm => ?_) (fun hm => ?_)
  · refine g_iconst 0 dX11_isOf_27 rfl ?_
    exact g_zretc hm rfl dX11_isOf_28
  · refine g_aloadn_0 dX11_isOf_8 ?_
    refine g_getr (q := 32) fo_11_18 pn_27 pc_27 rfl rfl dX11_isOf_9 ?_
    refine g_bipush 6 dX11_isOf_12 rfl ?_
    refine g_iloadn_1 dX11_isOf_14 ?_
    refine g_imul dX11_isOf_15 ?_
    refine g_iconst 3 dX11_isOf_16 rfl ?_
    refine g_iadd dX11_isOf_17 ?_
    refine g_iaload hm ar_32.1 ar_32.2 dX11_isOf_18 (fun hm => ?_)
    refine g_iloadn_2 dX11_isOf_19 ?_
    refine g_icmp_ne 27 hm dX11_isOf_20 (by decide) (fun hm => ?_) (fun hm => ?_)
    · refine g_iconst 0 dX11_isOf_27 rfl ?_
      exact g_zretc hm rfl dX11_isOf_28
    · refine g_iconst 1 dX11_isOf_23 rfl ?_
      refine g_goto 28 dX11_isOf_24 (by decide) ?_
      exact g_zretc hm rfl dX11_isOf_28
def f_X11_isRest_L17 (a1 : Int32) (a2 : Int32) (a3 : Int32) (a4 : Int32) (x1 : Int32) : (Sg × Int32) → Option (((Sg) ⊕ (Sg)) ⊕ (Sg × Int32)) := fun s => match s with
  | (m2, x3) => 
  (if (m2.1 27 24) ≤ x3 then some (.inl (.inr m2)) else
  cal (f_X11_isOf m2 x3 a1) (fun x9 m8 => bnd (fun (m10 : Sg) => cal (f_X11_isOf m10 x3 a2) (fun x13 m12 => bnd (fun (m14 : Sg) => bnd (x3 + 1) (fun x16 => some (.inr (m14, x16)))) (fun (k15 : Sg → Option (((Sg) ⊕ (Sg)) ⊕ (Sg × Int32))) =>
  (if x13 = 0 then k15 m12 else
  if inr ((8 * a3) + x3) 64 = true then (if x1 ≤ (m12.1 42 ((8 * a3) + x3).toNatClampNeg) then k15 m12 else
  some (.inl (.inl m12))) else none)))) (fun (k11 : Sg → Option (((Sg) ⊕ (Sg)) ⊕ (Sg × Int32))) =>
  (if x9 = 0 then k11 m8 else
  if inr ((8 * x3) + a4) 64 = true then (if x1 < (m8.1 42 ((8 * x3) + a4).toNatClampNeg) then some (.inl (.inl m8)) else
  k11 m8) else none))))
def f_X11_isRest  (m : Sg) (a1 : Int32) (a2 : Int32) (a3 : Int32) (a4 : Int32) : Option (Int32 × Sg) :=
  if inr ((8 * a3) + a4) 64 = true then bnd (m.1 42 ((8 * a3) + a4).toNatClampNeg) (fun x1 => lpk (f_X11_isRest_L17 a1 a2 a3 a4 x1) (m, 0) (fun x => match x with
  | .inl m4 => some (0, m4)
  | .inr m5 => some (1, m5))) else none
set_option maxRecDepth 4000 in
theorem c_X11_isRest {g : Cf} {m mm : Sg} {r : Int32} {a1 : Int32} {a2 : Int32} {a3 : Int32} {a4 : Int32} (hm : f_X11_isRest  m a1 a2 a3 a4 = some (r, mm)) : Cl g 2 yX11_isRest cX11_isRest 7 (some .boolean) [.ref (g.ad 27), .int a1, .int a2, .int a3, .int a4] m (some (.int r)) mm := by
  refine cl_of (by decide) (Nat.le_of_ble_eq_true rfl) (vs := [some (.ref (g.ad 27)), some (.int a1), some (.int a2), some (.int a3), some (.int a4), none, none]) rfl rfl ?_
  show GX g 2 RX11 cX11_isRest 7 (some .boolean) (some (.int r)) mm 0 _ [] m
  unfold f_X11_isRest at hm
  refine g_aloadn_0 dX11_isRest_0 ?_
  refine g_getr (q := 42) fo_11_43 pn_27 pc_27 rfl rfl dX11_isRest_1 ?_
  refine g_bipush 8 dX11_isRest_4 rfl ?_
  refine g_iloadn_3 dX11_isRest_6 ?_
  refine g_imul dX11_isRest_7 ?_
  refine g_iload_4 dX11_isRest_8 ?_
  refine g_iadd dX11_isRest_10 ?_
  refine g_iaload hm ar_42.1 ar_42.2 dX11_isRest_11 (fun hm => ?_)
  refine g_istoreB_5 hm dX11_isRest_12 rfl (fun x1 hm => ?_)
  refine g_iconst 0 dX11_isRest_14 rfl ?_
  refine g_istore_6 dX11_isRest_15 rfl ?_
  refine g_lp (I := fun (s : Sg × Int32) => GX g 2 RX11 cX11_isRest 7 (some .boolean) (some (.int r)) mm 17 [some (.ref (g.ad 27)), some (.int a1), some (.int a2), some (.int a3), some (.int a4), some (.int x1), some (.int (s.2))] [] s.1) (E := fun (x : (Sg) ⊕ (Sg)) => match x with | .inl m4 => GX g 2 RX11 cX11_isRest 7 (some .boolean) (some (.int r)) mm 81 [none, none, none, none, none, none, none] [] m4 | .inr m5 => GX g 2 RX11 cX11_isRest 7 (some .boolean) (some (.int r)) mm 89 [none, none, none, none, none, none, none] [] m5) hm ?_ ?_
  · rintro (m4 | m5) hm
    · (try dsimp only at hm)
      (try dsimp only)
      refine g_iconst 0 dX11_isRest_81 rfl ?_
      exact g_zretc hm rfl dX11_isRest_82
    · (try dsimp only at hm)
      (try dsimp only)
      refine g_iconst 1 dX11_isRest_89 rfl ?_
      exact g_zretc hm rfl dX11_isRest_90
  · rintro ⟨m2, x3⟩ o hm hx7 hi6
    (try dsimp only [f_X11_isRest_L17] at hm)
    (try dsimp only)
    refine g_iload_6 dX11_isRest_17 ?_
    refine g_aloadn_0 dX11_isRest_19 ?_
    refine g_geti fo_11_24 pn_27 pc_27 rfl dX11_isRest_20 ?_
    refine g_icmp_ge 89 hm dX11_isRest_23 (by decide) (fun hm => ?_) (fun hm => ?_)
    · refine g_weak (vs' := [none, none, none, none, none, none, none]) trivial ?_
      cases hm
      exact hx7 _ rfl
    · refine g_aloadn_0 dX11_isRest_26 ?_
      refine g_iload_6 dX11_isRest_27 ?_
      refine g_iloadn_1 dX11_isRest_29 ?_
      refine g_v2 hm (fun _ _ h => c_X11_isOf h) pn_27 (pc_27 _ _) rfl ce_X11_isOf lk_X11_422 rfl rfl dX11_isRest_30 (fun x9 m8 hm => ?_)
      refine g_jn (J := fun (s : Sg) => GX g 2 RX11 cX11_isRest 7 (some .boolean) (some (.int r)) mm 54 [some (.ref (g.ad 27)), some (.int a1), some (.int a2), some (.int a3), some (.int a4), some (.int x1), some (.int x3)] [] s) hm ?_ ?_
      · intro m10 hm
        refine g_aloadn_0 dX11_isRest_54 ?_
        refine g_iload_6 dX11_isRest_55 ?_
        refine g_iloadn_2 dX11_isRest_57 ?_
        refine g_v2 hm (fun _ _ h => c_X11_isOf h) pn_27 (pc_27 _ _) rfl ce_X11_isOf lk_X11_422 rfl rfl dX11_isRest_58 (fun x13 m12 hm => ?_)
        refine g_jn (J := fun (s : Sg) => GX g 2 RX11 cX11_isRest 7 (some .boolean) (some (.int r)) mm 83 [some (.ref (g.ad 27)), some (.int a1), some (.int a2), some (.int a3), some (.int a4), some (.int x1), some (.int x3)] [] s) hm ?_ ?_
        · intro m14 hm
          refine g_iinc_6 1 hm dX11_isRest_83 rfl rfl (fun x16 hm => ?_)
          refine g_goto 17 dX11_isRest_86 (by decide) ?_
          cases hm
          exact hi6 _ rfl
        · intro k15 hk15 hm
          refine g_if_eq 83 hm dX11_isRest_61 (by decide) (fun hm => ?_) (fun hm => ?_)
          · exact hk15 _ hm
          · refine g_aloadn_0 dX11_isRest_64 ?_
            refine g_getr (q := 42) fo_11_43 pn_27 pc_27 rfl rfl dX11_isRest_65 ?_
            refine g_bipush 8 dX11_isRest_68 rfl ?_
            refine g_iloadn_3 dX11_isRest_70 ?_
            refine g_imul dX11_isRest_71 ?_
            refine g_iload_6 dX11_isRest_72 ?_
            refine g_iadd dX11_isRest_74 ?_
            refine g_iaload hm ar_42.1 ar_42.2 dX11_isRest_75 (fun hm => ?_)
            refine g_iload_5 dX11_isRest_76 ?_
            refine g_icmp_ge 83 hm dX11_isRest_78 (by decide) (fun hm => ?_) (fun hm => ?_)
            · exact hk15 _ hm
            · refine g_weak (vs' := [none, none, none, none, none, none, none]) trivial ?_
              cases hm
              exact hx7 _ rfl
      · intro k11 hk11 hm
        refine g_if_eq 54 hm dX11_isRest_33 (by decide) (fun hm => ?_) (fun hm => ?_)
        · exact hk11 _ hm
        · refine g_aloadn_0 dX11_isRest_36 ?_
          refine g_getr (q := 42) fo_11_43 pn_27 pc_27 rfl rfl dX11_isRest_37 ?_
          refine g_bipush 8 dX11_isRest_40 rfl ?_
          refine g_iload_6 dX11_isRest_42 ?_
          refine g_imul dX11_isRest_44 ?_
          refine g_iload_4 dX11_isRest_45 ?_
          refine g_iadd dX11_isRest_47 ?_
          refine g_iaload hm ar_42.1 ar_42.2 dX11_isRest_48 (fun hm => ?_)
          refine g_iload_5 dX11_isRest_49 ?_
          refine g_icmp_gt 81 hm dX11_isRest_51 (by decide) (fun hm => ?_) (fun hm => ?_)
          · refine g_weak (vs' := [none, none, none, none, none, none, none]) trivial ?_
            cases hm
            exact hx7 _ rfl
          · exact hk11 _ hm
def f_X11_couldTeach_L5 (a2 : Int32) : (Sg × Int32 × Int32) → Option (((Sg × Int32)) ⊕ (Sg × Int32 × Int32)) := fun s => match s with
  | (m1, x2, x3) => 
  (if (m1.1 27 25) ≤ x3 then some (.inl (m1, x2)) else
  cal (f_X11_has m1 a2 x3) (fun x9 m8 => bnd (fun ((m10, x11) : Sg × Int32) => bnd (x2 ||| x11) (fun x13 => bnd (x3 + 1) (fun x14 => some (.inr (m10, x13, x14))))) (fun (k12 : Sg × Int32 → Option (((Sg × Int32)) ⊕ (Sg × Int32 × Int32))) =>
  (if x9 = 0 then k12 (m8, 0) else
  if inr (56 + x3) 244 = true then k12 (m8, (m8.1 38 (56 + x3).toNatClampNeg)) else none))))
def f_X11_couldTeach  (m : Sg) (a1 : Int32) (a2 : Int32) : Option (Int32 × Sg) :=
  lpk (f_X11_couldTeach_L5 a2) (m, 0, 0) (fun ((m4, x5) : Sg × Int32) => cal (f_X11_rightOf 38 m4 a1) (fun x16 m15 => (if (x16 &&& (x5 ^^^ (-1))) = 0 then if inr ((7 * a1) + 2) 244 = true then (if ((m15.1 38 ((7 * a1) + 2).toNatClampNeg) &&& x5) = 0 then some (1, m15) else
  some (0, m15)) else none else
  some (0, m15))))
set_option maxRecDepth 4000 in
theorem c_X11_couldTeach {g : Cf} {m mm : Sg} {r : Int32} {a1 : Int32} {a2 : Int32} (hm : f_X11_couldTeach  m a1 a2 = some (r, mm)) : Cl g 1 yX11_couldTeach cX11_couldTeach 5 (some .boolean) [.ref (g.ad 27), .int a1, .int a2] m (some (.int r)) mm := by
  refine cl_of (by decide) (Nat.le_of_ble_eq_true rfl) (vs := [some (.ref (g.ad 27)), some (.int a1), some (.int a2), none, none]) rfl rfl ?_
  show GX g 1 RX11 cX11_couldTeach 5 (some .boolean) (some (.int r)) mm 0 _ [] m
  unfold f_X11_couldTeach at hm
  refine g_iconst 0 dX11_couldTeach_0 rfl ?_
  refine g_istoren_3 dX11_couldTeach_1 rfl ?_
  refine g_iconst 0 dX11_couldTeach_2 rfl ?_
  refine g_istore_4 dX11_couldTeach_3 rfl ?_
  refine g_lp (I := fun (s : Sg × Int32 × Int32) => GX g 1 RX11 cX11_couldTeach 5 (some .boolean) (some (.int r)) mm 5 [some (.ref (g.ad 27)), some (.int a1), some (.int a2), some (.int (s.2.1)), some (.int (s.2.2))] [] s.1) (E := fun (s : Sg × Int32) => GX g 1 RX11 cX11_couldTeach 5 (some .boolean) (some (.int r)) mm 46 [some (.ref (g.ad 27)), some (.int a1), none, some (.int (s.2)), none] [] s.1) hm ?_ ?_
  · rintro ⟨m4, x5⟩ hm
    (try dsimp only at hm)
    (try dsimp only)
    refine g_aloadn_0 dX11_couldTeach_46 ?_
    refine g_getr (q := 38) fo_11_29 pn_27 pc_27 rfl rfl dX11_couldTeach_47 ?_
    refine g_iloadn_1 dX11_couldTeach_50 ?_
    refine g_s2 hm (fun _ _ h => c_X11_rightOf ar_38 h) ce_X11_rightOf lk_X11_272 rfl rfl dX11_couldTeach_51 (fun x16 m15 hm => ?_)
    refine g_iloadn_3 dX11_couldTeach_54 ?_
    refine g_iconst (-1) dX11_couldTeach_55 rfl ?_
    refine g_ixor dX11_couldTeach_56 ?_
    refine g_iand dX11_couldTeach_57 ?_
    refine g_if_ne 81 hm dX11_couldTeach_58 (by decide) (fun hm => ?_) (fun hm => ?_)
    · refine g_iconst 0 dX11_couldTeach_81 rfl ?_
      exact g_zretc hm rfl dX11_couldTeach_82
    · refine g_aloadn_0 dX11_couldTeach_61 ?_
      refine g_getr (q := 38) fo_11_29 pn_27 pc_27 rfl rfl dX11_couldTeach_62 ?_
      refine g_bipush 7 dX11_couldTeach_65 rfl ?_
      refine g_iloadn_1 dX11_couldTeach_67 ?_
      refine g_imul dX11_couldTeach_68 ?_
      refine g_iconst 2 dX11_couldTeach_69 rfl ?_
      refine g_iadd dX11_couldTeach_70 ?_
      refine g_iaload hm ar_38.1 ar_38.2 dX11_couldTeach_71 (fun hm => ?_)
      refine g_iloadn_3 dX11_couldTeach_72 ?_
      refine g_iand dX11_couldTeach_73 ?_
      refine g_if_ne 81 hm dX11_couldTeach_74 (by decide) (fun hm => ?_) (fun hm => ?_)
      · refine g_iconst 0 dX11_couldTeach_81 rfl ?_
        exact g_zretc hm rfl dX11_couldTeach_82
      · refine g_iconst 1 dX11_couldTeach_77 rfl ?_
        refine g_goto 82 dX11_couldTeach_78 (by decide) ?_
        exact g_zretc hm rfl dX11_couldTeach_82
  · rintro ⟨m1, x2, x3⟩ o hm hx7 hi6
    (try dsimp only [f_X11_couldTeach_L5] at hm)
    (try dsimp only)
    refine g_iload_4 dX11_couldTeach_5 ?_
    refine g_aloadn_0 dX11_couldTeach_7 ?_
    refine g_geti fo_11_25 pn_27 pc_27 rfl dX11_couldTeach_8 ?_
    refine g_icmp_ge 46 hm dX11_couldTeach_11 (by decide) (fun hm => ?_) (fun hm => ?_)
    · refine g_weak (vs' := [some (.ref (g.ad 27)), some (.int a1), none, some (.int x2), none]) ⟨rfl, ⟨rfl, ⟨rfl, trivial⟩⟩⟩ ?_
      cases hm
      exact hx7 _ rfl
    · refine g_iloadn_3 dX11_couldTeach_14 ?_
      refine g_iloadn_2 dX11_couldTeach_15 ?_
      refine g_iload_4 dX11_couldTeach_16 ?_
      refine g_s2 hm (fun _ _ h => c_X11_has h) ce_X11_has lk_X11_213 rfl rfl dX11_couldTeach_18 (fun x9 m8 hm => ?_)
      refine g_jn (J := fun (s : Sg × Int32) => GX g 1 RX11 cX11_couldTeach 5 (some .boolean) (some (.int r)) mm 38 [some (.ref (g.ad 27)), some (.int a1), some (.int a2), none, some (.int x3)] [.int (s.2), .int x2] s.1) hm ?_ ?_
      · rintro ⟨m10, x11⟩ hm
        (try dsimp only at hm)
        (try dsimp only)
        refine g_ior dX11_couldTeach_38 ?_
        refine g_istoreBn_3 hm dX11_couldTeach_39 rfl (fun x13 hm => ?_)
        refine g_iinc_4 1 hm dX11_couldTeach_40 rfl rfl (fun x14 hm => ?_)
        refine g_goto 5 dX11_couldTeach_43 (by decide) ?_
        cases hm
        exact hi6 _ rfl
      · intro k12 hk12 hm
        refine g_if_eq 37 hm dX11_couldTeach_21 (by decide) (fun hm => ?_) (fun hm => ?_)
        · refine g_iconst 0 dX11_couldTeach_37 rfl ?_
          refine g_weak (vs' := [some (.ref (g.ad 27)), some (.int a1), some (.int a2), none, some (.int x3)]) ⟨rfl, ⟨rfl, ⟨rfl, ⟨rfl, trivial⟩⟩⟩⟩ ?_
          exact hk12 _ hm
        · refine g_aloadn_0 dX11_couldTeach_24 ?_
          refine g_getr (q := 38) fo_11_29 pn_27 pc_27 rfl rfl dX11_couldTeach_25 ?_
          refine g_bipush 56 dX11_couldTeach_28 rfl ?_
          refine g_iload_4 dX11_couldTeach_30 ?_
          refine g_iadd dX11_couldTeach_32 ?_
          refine g_iaload hm ar_38.1 ar_38.2 dX11_couldTeach_33 (fun hm => ?_)
          refine g_goto 38 dX11_couldTeach_34 (by decide) ?_
          refine g_weak (vs' := [some (.ref (g.ad 27)), some (.int a1), some (.int a2), none, some (.int x3)]) ⟨rfl, ⟨rfl, ⟨rfl, ⟨rfl, trivial⟩⟩⟩⟩ ?_
          exact hk12 _ hm
def f_X11_teachers_L25 (a1 : Int32) (a2 : Int32) : (Sg × Int32 × Int32) → Option (((Sg × Int32) ⊕ (Sg × Int32)) ⊕ (Sg × Int32 × Int32)) := fun s => match s with
  | (m4, x5, x6) => 
  (if (1 <<< ((m4.1 27 25) &&& 31)) ≤ x6 then some (.inl (.inr (m4, x5))) else
  cal (f_X11_couldTeach m4 a1 x6) (fun x14 m13 => bnd (fun ((m15, x16) : Sg × Int32) => bnd (x6 + 1) (fun x18 => some (.inr (m15, x16, x18)))) (fun (k17 : Sg × Int32 → Option (((Sg × Int32) ⊕ (Sg × Int32)) ⊕ (Sg × Int32 × Int32))) =>
  (if x14 = 0 then k17 (m13, x5) else
  (if x5 = a2 then some (.inl (.inl (m13, x6))) else
  bnd (x5 + 1) (fun x19 => k17 (m13, x19)))))))
def f_X11_teachers  (m : Sg) (a1 : Int32) (a2 : Int32) : Option (Int32 × Sg) :=
  bnd (wr m 27 0 0) (fun m1 => cal (f_X11_isChild m1 a1) (fun x3 m2 => (if x3 = 0 then some ((-1), m2) else
  (if (-1) ≤ a2 then lpk (f_X11_teachers_L25 a1 a2) (m2, 0, 1) (fun x => match x with
  | .inl (m7, x8) => some (x8, m7)
  | .inr (m9, x10) => (if a2 = (-1) then some (x10, m9) else
  some ((-1), m9))) else
  some ((-1), m2)))))
set_option maxRecDepth 4000 in
theorem c_X11_teachers {g : Cf} {m mm : Sg} {r : Int32} {a1 : Int32} {a2 : Int32} (hm : f_X11_teachers  m a1 a2 = some (r, mm)) : Cl g 2 yX11_teachers cX11_teachers 5 (some .int) [.ref (g.ad 27), .int a1, .int a2] m (some (.int r)) mm := by
  refine cl_of (by decide) (Nat.le_of_ble_eq_true rfl) (vs := [some (.ref (g.ad 27)), some (.int a1), some (.int a2), none, none]) rfl rfl ?_
  show GX g 2 RX11 cX11_teachers 5 (some .int) (some (.int r)) mm 0 _ [] m
  unfold f_X11_teachers at hm
  refine g_aloadn_0 dX11_teachers_0 ?_
  refine g_iconst 0 dX11_teachers_1 rfl ?_
  refine g_put hm fo_11_0 fp_11_0 pn_27 pc_27 rfl dX11_teachers_2 (fun m1 hm => ?_)
  refine g_aloadn_0 dX11_teachers_5 ?_
  refine g_iloadn_1 dX11_teachers_6 ?_
  refine g_v1 hm (fun _ _ h => c_X11_isChild h) pn_27 (pc_27 _ _) rfl ce_X11_isChild lk_X11_296 rfl rfl dX11_teachers_7 (fun x3 m2 hm => ?_)
  refine g_if_eq 18 hm dX11_teachers_10 (by decide) (fun hm => ?_) (fun hm => ?_)
  · refine g_iconst (-1) dX11_teachers_18 rfl ?_
    exact g_iret hm dX11_teachers_19
  · refine g_iloadn_2 dX11_teachers_13 ?_
    refine g_iconst (-1) dX11_teachers_14 rfl ?_
    refine g_icmp_ge 20 hm dX11_teachers_15 (by decide) (fun hm => ?_) (fun hm => ?_)
    · refine g_iconst 0 dX11_teachers_20 rfl ?_
      refine g_istoren_3 dX11_teachers_21 rfl ?_
      refine g_iconst 1 dX11_teachers_22 rfl ?_
      refine g_istore_4 dX11_teachers_23 rfl ?_
      refine g_lp (I := fun (s : Sg × Int32 × Int32) => GX g 2 RX11 cX11_teachers 5 (some .int) (some (.int r)) mm 25 [some (.ref (g.ad 27)), some (.int a1), some (.int a2), some (.int (s.2.1)), some (.int (s.2.2))] [] s.1) (E := fun (x : (Sg × Int32) ⊕ (Sg × Int32)) => match x with | .inl (m7, x8) => GX g 2 RX11 cX11_teachers 5 (some .int) (some (.int r)) mm 54 [none, none, none, none, some (.int x8)] [] m7 | .inr (m9, x10) => GX g 2 RX11 cX11_teachers 5 (some .int) (some (.int r)) mm 66 [none, none, some (.int a2), some (.int x10), none] [] m9) hm ?_ ?_
      · rintro (⟨m7, x8⟩ | ⟨m9, x10⟩) hm
        · (try dsimp only at hm)
          (try dsimp only)
          refine g_iload_4 dX11_teachers_54 ?_
          exact g_iret hm dX11_teachers_56
        · (try dsimp only at hm)
          (try dsimp only)
          refine g_iloadn_2 dX11_teachers_66 ?_
          refine g_iconst (-1) dX11_teachers_67 rfl ?_
          refine g_icmp_ne 75 hm dX11_teachers_68 (by decide) (fun hm => ?_) (fun hm => ?_)
          · refine g_iconst (-1) dX11_teachers_75 rfl ?_
            exact g_iret hm dX11_teachers_76
          · refine g_iloadn_3 dX11_teachers_71 ?_
            refine g_goto 76 dX11_teachers_72 (by decide) ?_
            exact g_iret hm dX11_teachers_76
      · rintro ⟨m4, x5, x6⟩ o hm hx12 hi11
        (try dsimp only [f_X11_teachers_L25] at hm)
        (try dsimp only)
        refine g_iload_4 dX11_teachers_25 ?_
        refine g_iconst 1 dX11_teachers_27 rfl ?_
        refine g_aloadn_0 dX11_teachers_28 ?_
        refine g_geti fo_11_25 pn_27 pc_27 rfl dX11_teachers_29 ?_
        refine g_ishl dX11_teachers_32 ?_
        refine g_icmp_ge 66 hm dX11_teachers_33 (by decide) (fun hm => ?_) (fun hm => ?_)
        · refine g_weak (vs' := [none, none, some (.int a2), some (.int x5), none]) ⟨rfl, ⟨rfl, trivial⟩⟩ ?_
          cases hm
          exact hx12 _ rfl
        · refine g_aloadn_0 dX11_teachers_36 ?_
          refine g_iloadn_1 dX11_teachers_37 ?_
          refine g_iload_4 dX11_teachers_38 ?_
          refine g_v2 hm (fun _ _ h => c_X11_couldTeach h) pn_27 (pc_27 _ _) rfl ce_X11_couldTeach lk_X11_432 rfl rfl dX11_teachers_40 (fun x14 m13 hm => ?_)
          refine g_jn (J := fun (s : Sg × Int32) => GX g 2 RX11 cX11_teachers 5 (some .int) (some (.int r)) mm 60 [some (.ref (g.ad 27)), some (.int a1), some (.int a2), some (.int (s.2)), some (.int x6)] [] s.1) hm ?_ ?_
          · rintro ⟨m15, x16⟩ hm
            (try dsimp only at hm)
            (try dsimp only)
            refine g_iinc_4 1 hm dX11_teachers_60 rfl rfl (fun x18 hm => ?_)
            refine g_goto 25 dX11_teachers_63 (by decide) ?_
            cases hm
            exact hi11 _ rfl
          · intro k17 hk17 hm
            refine g_if_ne 49 hm dX11_teachers_43 (by decide) (fun hm => ?_) (fun hm => ?_)
            · refine g_iloadn_3 dX11_teachers_49 ?_
              refine g_iloadn_2 dX11_teachers_50 ?_
              refine g_icmp_ne 57 hm dX11_teachers_51 (by decide) (fun hm => ?_) (fun hm => ?_)
              · refine g_iinc_3 1 hm dX11_teachers_57 rfl rfl (fun x19 hm => ?_)
                exact hk17 _ hm
              · refine g_weak (vs' := [none, none, none, none, some (.int x6)]) ⟨rfl, trivial⟩ ?_
                cases hm
                exact hx12 _ rfl
            · refine g_goto 60 dX11_teachers_46 (by decide) ?_
              exact hk17 _ hm
    · refine g_iconst (-1) dX11_teachers_18 rfl ?_
      exact g_iret hm dX11_teachers_19
def f_X11_spans_L32 (a1 : Int32) (a2 : Int32) : (Sg × Int32 × Int32) → Option (((Sg × Int32)) ⊕ (Sg × Int32 × Int32)) := fun s => match s with
  | (m6, x7, x8) => 
  (if 9 < x8 then some (.inl (m6, x7)) else
  if inr ((7 * a1) + 0) 244 = true then if inr ((6 * a1) + 3) 48 = true then cal (f_X11_taxBy m6 (10 * x8) (m6.1 38 ((7 * a1) + 0).toNatClampNeg) x8 (m6.1 32 ((6 * a1) + 3).toNatClampNeg) (m6.1 38 60) 0) (fun x14 m13 => bnd (fun ((m15, x16) : Sg × Int32) => bnd (x7 ||| x16) (fun x18 => bnd (x8 + 1) (fun x19 => some (.inr (m15, x18, x19))))) (fun (k17 : Sg × Int32 → Option (((Sg × Int32)) ⊕ (Sg × Int32 × Int32))) =>
  (if x14 = a2 then k17 (m13, (1 <<< (x8 &&& 31))) else
  k17 (m13, 0)))) else none else none)
def f_X11_spans  (m : Sg) (a1 : Int32) (a2 : Int32) : Option (Int32 × Sg) :=
  bnd (wr m 27 0 0) (fun m1 => cal (f_X11_isChild m1 a1) (fun x3 m2 => (if x3 = 0 then some ((-1), m2) else
  cal (f_X11_isIn m2 ((a2 : Int32).toInt64) 0 99) (fun x5 m4 => (if x5 = 0 then some ((-1), m4) else
  lpk (f_X11_spans_L32 a1 a2) (m4, 0, 0) (fun ((m9, x10) : Sg × Int32) => some (x10, m9)))))))
set_option maxRecDepth 4000 in
theorem c_X11_spans {g : Cf} {m mm : Sg} {r : Int32} {a1 : Int32} {a2 : Int32} (HX : XOK g) (hm : f_X11_spans  m a1 a2 = some (r, mm)) : Cl g 77 yX11_spans cX11_spans 5 (some .int) [.ref (g.ad 27), .int a1, .int a2] m (some (.int r)) mm := by
  refine cl_of (by decide) (Nat.le_of_ble_eq_true rfl) (vs := [some (.ref (g.ad 27)), some (.int a1), some (.int a2), none, none]) rfl rfl ?_
  show GX g 77 RX11 cX11_spans 5 (some .int) (some (.int r)) mm 0 _ [] m
  unfold f_X11_spans at hm
  refine g_aloadn_0 dX11_spans_0 ?_
  refine g_iconst 0 dX11_spans_1 rfl ?_
  refine g_put hm fo_11_0 fp_11_0 pn_27 pc_27 rfl dX11_spans_2 (fun m1 hm => ?_)
  refine g_aloadn_0 dX11_spans_5 ?_
  refine g_iloadn_1 dX11_spans_6 ?_
  refine g_v1 hm (fun _ _ h => c_X11_isChild h) pn_27 (pc_27 _ _) rfl ce_X11_isChild lk_X11_296 rfl rfl dX11_spans_7 (fun x3 m2 hm => ?_)
  refine g_if_eq 25 hm dX11_spans_10 (by decide) (fun hm => ?_) (fun hm => ?_)
  · refine g_iconst (-1) dX11_spans_25 rfl ?_
    exact g_iret hm dX11_spans_26
  · refine g_iloadn_2 dX11_spans_13 ?_
    refine g_i2l dX11_spans_14 ?_
    refine g_lconst 0 dX11_spans_15 rfl ?_
    refine g_ldc2_w dX11_spans_16 ck_X11_309 ?_
    refine g_s3 hm (fun _ _ h => c_X11_isIn h) ce_X11_isIn lk_X11_201 rfl rfl dX11_spans_19 (fun x5 m4 hm => ?_)
    refine g_if_ne 27 hm dX11_spans_22 (by decide) (fun hm => ?_) (fun hm => ?_)
    · refine g_iconst 0 dX11_spans_27 rfl ?_
      refine g_istoren_3 dX11_spans_28 rfl ?_
      refine g_iconst 0 dX11_spans_29 rfl ?_
      refine g_istore_4 dX11_spans_30 rfl ?_
      refine g_lp (I := fun (s : Sg × Int32 × Int32) => GX g 77 RX11 cX11_spans 5 (some .int) (some (.int r)) mm 32 [some (.ref (g.ad 27)), some (.int a1), some (.int a2), some (.int (s.2.1)), some (.int (s.2.2))] [] s.1) (E := fun (s : Sg × Int32) => GX g 77 RX11 cX11_spans 5 (some .int) (some (.int r)) mm 101 [none, none, none, some (.int (s.2)), none] [] s.1) hm ?_ ?_
      · rintro ⟨m9, x10⟩ hm
        (try dsimp only at hm)
        (try dsimp only)
        refine g_iloadn_3 dX11_spans_101 ?_
        exact g_iret hm dX11_spans_102
      · rintro ⟨m6, x7, x8⟩ o hm hx12 hi11
        (try dsimp only [f_X11_spans_L32] at hm)
        (try dsimp only)
        refine g_iload_4 dX11_spans_32 ?_
        refine g_bipush 9 dX11_spans_34 rfl ?_
        refine g_icmp_gt 101 hm dX11_spans_36 (by decide) (fun hm => ?_) (fun hm => ?_)
        · refine g_weak (vs' := [none, none, none, some (.int x7), none]) ⟨rfl, trivial⟩ ?_
          cases hm
          exact hx12 _ rfl
        · refine g_iloadn_3 dX11_spans_39 ?_
          refine g_aloadn_0 dX11_spans_40 ?_
          refine g_bipush 10 dX11_spans_41 rfl ?_
          refine g_iload_4 dX11_spans_43 ?_
          refine g_imul dX11_spans_45 ?_
          refine g_aloadn_0 dX11_spans_46 ?_
          refine g_getr (q := 38) fo_11_29 pn_27 pc_27 rfl rfl dX11_spans_47 ?_
          refine g_bipush 7 dX11_spans_50 rfl ?_
          refine g_iloadn_1 dX11_spans_52 ?_
          refine g_imul dX11_spans_53 ?_
          refine g_iconst 0 dX11_spans_54 rfl ?_
          refine g_iadd dX11_spans_55 ?_
          refine g_iaload hm ar_38.1 ar_38.2 dX11_spans_56 (fun hm => ?_)
          refine g_iload_4 dX11_spans_57 ?_
          refine g_aloadn_0 dX11_spans_59 ?_
          refine g_getr (q := 32) fo_11_18 pn_27 pc_27 rfl rfl dX11_spans_60 ?_
          refine g_bipush 6 dX11_spans_63 rfl ?_
          refine g_iloadn_1 dX11_spans_65 ?_
          refine g_imul dX11_spans_66 ?_
          refine g_iconst 3 dX11_spans_67 rfl ?_
          refine g_iadd dX11_spans_68 ?_
          refine g_iaload hm ar_32.1 ar_32.2 dX11_spans_69 (fun hm => ?_)
          refine g_aloadn_0 dX11_spans_70 ?_
          refine g_getr (q := 38) fo_11_29 pn_27 pc_27 rfl rfl dX11_spans_71 ?_
          refine g_bipush 60 dX11_spans_74 rfl ?_
          refine g_ialoadc 60 rfl rfl ar_38.1 ar_38.2 dX11_spans_76 ?_
          refine g_iconst 0 dX11_spans_77 rfl ?_
          refine g_v6 hm (fun _ _ h => c_X11_taxBy HX h) pn_27 (pc_27 _ _) rfl ce_X11_taxBy lk_X11_292 rfl rfl dX11_spans_78 (fun x14 m13 hm => ?_)
          refine g_iloadn_2 dX11_spans_81 ?_
          refine g_jn (J := fun (s : Sg × Int32) => GX g 77 RX11 cX11_spans 5 (some .int) (some (.int r)) mm 93 [some (.ref (g.ad 27)), some (.int a1), some (.int a2), none, some (.int x8)] [.int (s.2), .int x7] s.1) hm ?_ ?_
          · rintro ⟨m15, x16⟩ hm
            (try dsimp only at hm)
            (try dsimp only)
            refine g_ior dX11_spans_93 ?_
            refine g_istoreBn_3 hm dX11_spans_94 rfl (fun x18 hm => ?_)
            refine g_iinc_4 1 hm dX11_spans_95 rfl rfl (fun x19 hm => ?_)
            refine g_goto 32 dX11_spans_98 (by decide) ?_
            cases hm
            exact hi11 _ rfl
          · intro k17 hk17 hm
            refine g_icmp_ne 92 hm dX11_spans_82 (by decide) (fun hm => ?_) (fun hm => ?_)
            · refine g_iconst 0 dX11_spans_92 rfl ?_
              refine g_weak (vs' := [some (.ref (g.ad 27)), some (.int a1), some (.int a2), none, some (.int x8)]) ⟨rfl, ⟨rfl, ⟨rfl, ⟨rfl, trivial⟩⟩⟩⟩ ?_
              exact hk17 _ hm
            · refine g_iconst 1 dX11_spans_85 rfl ?_
              refine g_iload_4 dX11_spans_86 ?_
              refine g_ishl dX11_spans_88 ?_
              refine g_goto 93 dX11_spans_89 (by decide) ?_
              refine g_weak (vs' := [some (.ref (g.ad 27)), some (.int a1), some (.int a2), none, some (.int x8)]) ⟨rfl, ⟨rfl, ⟨rfl, ⟨rfl, trivial⟩⟩⟩⟩ ?_
              exact hk17 _ hm
    · refine g_iconst (-1) dX11_spans_25 rfl ?_
      exact g_iret hm dX11_spans_26
def f_X11_isChain_L12 (a1 : Int32) (x2 : Int32) : (Sg × Int32) → Option (((Sg) ⊕ (Sg)) ⊕ (Sg × Int32)) := fun s => match s with
  | (m7, x8) => 
  (if (m7.1 27 24) ≤ x8 then some (.inl (.inr m7)) else
  bnd (fun (m13 : Sg) => bnd (x8 + 1) (fun x15 => some (.inr (m13, x15)))) (fun (k14 : Sg → Option (((Sg) ⊕ (Sg)) ⊕ (Sg × Int32))) =>
  (if x2 = x8 then k14 m7 else
  cal (f_X11_has m7 a1 x2) (fun x17 m16 => (if x17 = 0 then k14 m16 else
  cal (f_X11_has m16 a1 x8) (fun x19 m18 => (if x19 = 0 then k14 m18 else
  if inr ((7 * x2) + 0) 244 = true then if inr ((7 * x8) + 0) 244 = true then bnd ((m18.1 38 ((7 * x2) + 0).toNatClampNeg) - (m18.1 38 ((7 * x8) + 0).toNatClampNeg)) (fun x20 => (if x20 = 0 then some (.inl (.inl m18)) else
  (if 0 ≤ x20 then k14 m18 else
  cal (f_X11_countOf 38 m18 x2) (fun x22 m21 => cal (f_X11_countOf 38 m21 x8) (fun x24 m23 => (if x22 < x24 then k14 m23 else
  some (.inl (.inl m23)))))))) else none else none)))))))
def f_X11_isChain_L2 (a1 : Int32) : (Sg × Int32) → Option (((Sg) ⊕ (Sg)) ⊕ (Sg × Int32)) := fun s => match s with
  | (m1, x2) => 
  (if (m1.1 27 24) ≤ x2 then some (.inl (.inr m1)) else
  lpk (f_X11_isChain_L12 a1 x2) (m1, 0) (fun x => match x with
  | .inl m9 => some (.inl (.inl m9))
  | .inr m10 => bnd (x2 + 1) (fun x25 => some (.inr (m10, x25)))))
def f_X11_isChain  (m : Sg) (a1 : Int32) : Option (Int32 × Sg) :=
  lpk (f_X11_isChain_L2 a1) (m, 0) (fun x => match x with
  | .inl m3 => some (0, m3)
  | .inr m4 => some (1, m4))
set_option maxRecDepth 4000 in
theorem c_X11_isChain {g : Cf} {m mm : Sg} {r : Int32} {a1 : Int32} (hm : f_X11_isChain  m a1 = some (r, mm)) : Cl g 2 yX11_isChain cX11_isChain 5 (some .boolean) [.ref (g.ad 27), .int a1] m (some (.int r)) mm := by
  refine cl_of (by decide) (Nat.le_of_ble_eq_true rfl) (vs := [some (.ref (g.ad 27)), some (.int a1), none, none, none]) rfl rfl ?_
  show GX g 2 RX11 cX11_isChain 5 (some .boolean) (some (.int r)) mm 0 _ [] m
  unfold f_X11_isChain at hm
  refine g_iconst 0 dX11_isChain_0 rfl ?_
  refine g_istoren_2 dX11_isChain_1 rfl ?_
  refine g_lp (I := fun (s : Sg × Int32) => GX g 2 RX11 cX11_isChain 5 (some .boolean) (some (.int r)) mm 2 [some (.ref (g.ad 27)), some (.int a1), some (.int (s.2)), none, none] [] s.1) (E := fun (x : (Sg) ⊕ (Sg)) => match x with | .inl m3 => GX g 2 RX11 cX11_isChain 5 (some .boolean) (some (.int r)) mm 98 [none, none, none, none, none] [] m3 | .inr m4 => GX g 2 RX11 cX11_isChain 5 (some .boolean) (some (.int r)) mm 112 [none, none, none, none, none] [] m4) hm ?_ ?_
  · rintro (m3 | m4) hm
    · (try dsimp only at hm)
      (try dsimp only)
      refine g_iconst 0 dX11_isChain_98 rfl ?_
      exact g_zretc hm rfl dX11_isChain_99
    · (try dsimp only at hm)
      (try dsimp only)
      refine g_iconst 1 dX11_isChain_112 rfl ?_
      exact g_zretc hm rfl dX11_isChain_113
  · rintro ⟨m1, x2⟩ o hm hx6 hi5
    (try dsimp only [f_X11_isChain_L2] at hm)
    (try dsimp only)
    refine g_iloadn_2 dX11_isChain_2 ?_
    refine g_aloadn_0 dX11_isChain_3 ?_
    refine g_geti fo_11_24 pn_27 pc_27 rfl dX11_isChain_4 ?_
    refine g_icmp_ge 112 hm dX11_isChain_7 (by decide) (fun hm => ?_) (fun hm => ?_)
    · refine g_weak (vs' := [none, none, none, none, none]) trivial ?_
      cases hm
      exact hx6 _ rfl
    · refine g_iconst 0 dX11_isChain_10 rfl ?_
      refine g_istoren_3 dX11_isChain_11 rfl ?_
      refine g_lp (I := fun (s : Sg × Int32) => GX g 2 RX11 cX11_isChain 5 (some .boolean) (some (.int r)) mm 12 [some (.ref (g.ad 27)), some (.int a1), some (.int x2), some (.int (s.2)), none] [] s.1) (E := fun (x : (Sg) ⊕ (Sg)) => match x with | .inl m9 => GX g 2 RX11 cX11_isChain 5 (some .boolean) (some (.int r)) mm 98 [none, none, none, none, none] [] m9 | .inr m10 => GX g 2 RX11 cX11_isChain 5 (some .boolean) (some (.int r)) mm 106 [some (.ref (g.ad 27)), some (.int a1), some (.int x2), none, none] [] m10) hm ?_ ?_
      · rintro (m9 | m10) hm
        · (try dsimp only at hm)
          (try dsimp only)
          cases hm
          exact hx6 _ rfl
        · (try dsimp only at hm)
          (try dsimp only)
          refine g_iinc_2 1 hm dX11_isChain_106 rfl rfl (fun x25 hm => ?_)
          refine g_goto 2 dX11_isChain_109 (by decide) ?_
          cases hm
          exact hi5 _ rfl
      · rintro ⟨m7, x8⟩ o hm hx12 hi11
        (try dsimp only [f_X11_isChain_L12] at hm)
        (try dsimp only)
        refine g_iloadn_3 dX11_isChain_12 ?_
        refine g_aloadn_0 dX11_isChain_13 ?_
        refine g_geti fo_11_24 pn_27 pc_27 rfl dX11_isChain_14 ?_
        refine g_icmp_ge 106 hm dX11_isChain_17 (by decide) (fun hm => ?_) (fun hm => ?_)
        · refine g_weak (vs' := [some (.ref (g.ad 27)), some (.int a1), some (.int x2), none, none]) ⟨rfl, ⟨rfl, ⟨rfl, trivial⟩⟩⟩ ?_
          cases hm
          exact hx12 _ rfl
        · refine g_iloadn_2 dX11_isChain_20 ?_
          refine g_iloadn_3 dX11_isChain_21 ?_
          refine g_jn (J := fun (s : Sg) => GX g 2 RX11 cX11_isChain 5 (some .boolean) (some (.int r)) mm 100 [some (.ref (g.ad 27)), some (.int a1), some (.int x2), some (.int x8), none] [] s) hm ?_ ?_
          · intro m13 hm
            refine g_iinc_3 1 hm dX11_isChain_100 rfl rfl (fun x15 hm => ?_)
            refine g_goto 12 dX11_isChain_103 (by decide) ?_
            cases hm
            exact hi11 _ rfl
          · intro k14 hk14 hm
            refine g_icmp_eq 100 hm dX11_isChain_22 (by decide) (fun hm => ?_) (fun hm => ?_)
            · exact hk14 _ hm
            · refine g_iloadn_1 dX11_isChain_25 ?_
              refine g_iloadn_2 dX11_isChain_26 ?_
              refine g_s2 hm (fun _ _ h => c_X11_has h) ce_X11_has lk_X11_213 rfl rfl dX11_isChain_27 (fun x17 m16 hm => ?_)
              refine g_if_eq 100 hm dX11_isChain_30 (by decide) (fun hm => ?_) (fun hm => ?_)
              · exact hk14 _ hm
              · refine g_iloadn_1 dX11_isChain_33 ?_
                refine g_iloadn_3 dX11_isChain_34 ?_
                refine g_s2 hm (fun _ _ h => c_X11_has h) ce_X11_has lk_X11_213 rfl rfl dX11_isChain_35 (fun x19 m18 hm => ?_)
                refine g_if_ne 44 hm dX11_isChain_38 (by decide) (fun hm => ?_) (fun hm => ?_)
                · refine g_aloadn_0 dX11_isChain_44 ?_
                  refine g_getr (q := 38) fo_11_29 pn_27 pc_27 rfl rfl dX11_isChain_45 ?_
                  refine g_bipush 7 dX11_isChain_48 rfl ?_
                  refine g_iloadn_2 dX11_isChain_50 ?_
                  refine g_imul dX11_isChain_51 ?_
                  refine g_iconst 0 dX11_isChain_52 rfl ?_
                  refine g_iadd dX11_isChain_53 ?_
                  refine g_iaload hm ar_38.1 ar_38.2 dX11_isChain_54 (fun hm => ?_)
                  refine g_aloadn_0 dX11_isChain_55 ?_
                  refine g_getr (q := 38) fo_11_29 pn_27 pc_27 rfl rfl dX11_isChain_56 ?_
                  refine g_bipush 7 dX11_isChain_59 rfl ?_
                  refine g_iloadn_3 dX11_isChain_61 ?_
                  refine g_imul dX11_isChain_62 ?_
                  refine g_iconst 0 dX11_isChain_63 rfl ?_
                  refine g_iadd dX11_isChain_64 ?_
                  refine g_iaload hm ar_38.1 ar_38.2 dX11_isChain_65 (fun hm => ?_)
                  refine g_isub dX11_isChain_66 ?_
                  refine g_istoreB_4 hm dX11_isChain_67 rfl (fun x20 hm => ?_)
                  refine g_iload_4 dX11_isChain_69 ?_
                  refine g_if_eq 98 hm dX11_isChain_71 (by decide) (fun hm => ?_) (fun hm => ?_)
                  · refine g_weak (vs' := [none, none, none, none, none]) trivial ?_
                    cases hm
                    exact hx12 _ rfl
                  · refine g_iload_4 dX11_isChain_74 ?_
                    refine g_if_ge 100 hm dX11_isChain_76 (by decide) (fun hm => ?_) (fun hm => ?_)
                    · refine g_weak (vs' := [some (.ref (g.ad 27)), some (.int a1), some (.int x2), some (.int x8), none]) ⟨rfl, ⟨rfl, ⟨rfl, ⟨rfl, trivial⟩⟩⟩⟩ ?_
                      exact hk14 _ hm
                    · refine g_aloadn_0 dX11_isChain_79 ?_
                      refine g_getr (q := 38) fo_11_29 pn_27 pc_27 rfl rfl dX11_isChain_80 ?_
                      refine g_iloadn_2 dX11_isChain_83 ?_
                      refine g_s2 hm (fun _ _ h => c_X11_countOf ar_38 h) ce_X11_countOf lk_X11_284 rfl rfl dX11_isChain_84 (fun x22 m21 hm => ?_)
                      refine g_aloadn_0 dX11_isChain_87 ?_
                      refine g_getr (q := 38) fo_11_29 pn_27 pc_27 rfl rfl dX11_isChain_88 ?_
                      refine g_iloadn_3 dX11_isChain_91 ?_
                      refine g_s2 hm (fun _ _ h => c_X11_countOf ar_38 h) ce_X11_countOf lk_X11_284 rfl rfl dX11_isChain_92 (fun x24 m23 hm => ?_)
                      refine g_icmp_lt 100 hm dX11_isChain_95 (by decide) (fun hm => ?_) (fun hm => ?_)
                      · refine g_weak (vs' := [some (.ref (g.ad 27)), some (.int a1), some (.int x2), some (.int x8), none]) ⟨rfl, ⟨rfl, ⟨rfl, ⟨rfl, trivial⟩⟩⟩⟩ ?_
                        exact hk14 _ hm
                      · refine g_weak (vs' := [none, none, none, none, none]) trivial ?_
                        cases hm
                        exact hx12 _ rfl
                · refine g_goto 100 dX11_isChain_41 (by decide) ?_
                  exact hk14 _ hm
def f_X11_chain_L28  : (Sg × Int32 × Int32) → Option (((Sg × Int32)) ⊕ (Sg × Int32 × Int32)) := fun s => match s with
  | (m4, x5, x6) => 
  (if (1 <<< ((m4.1 27 24) &&& 31)) ≤ x6 then some (.inl (m4, x5)) else
  cal (f_J6_bitCount_0f7a4 m4 x6) (fun x12 m11 => cal (f_J6_bitCount_0f7a4 m11 x5) (fun x14 m13 => bnd (fun ((m15, x16) : Sg × Int32) => bnd (x6 + 1) (fun x18 => some (.inr (m15, x16, x18)))) (fun (k17 : Sg × Int32 → Option (((Sg × Int32)) ⊕ (Sg × Int32 × Int32))) =>
  (if x12 ≤ x14 then k17 (m13, x5) else
  cal (f_X11_isChain m13 x6) (fun x20 m19 => (if x20 = 0 then k17 (m19, x5) else
  k17 (m19, x6))))))))
def f_X11_chain  (m : Sg) (a1 : Int32) : Option (Int32 × Sg) :=
  bnd (wr m 27 0 0) (fun m1 => (if (m1.1 27 24) = 0 then some ((-1), m1) else
  cal (f_X11_isIn m1 ((a1 : Int32).toInt64) 0 1) (fun x3 m2 => (if x3 = 0 then some ((-1), m2) else
  lpk (f_X11_chain_L28) (m2, 0, 1) (fun ((m7, x8) : Sg × Int32) => (if a1 = 0 then cal (f_J6_bitCount_0f7a4 m7 x8) (fun x22 m21 => some (x22, m21)) else
  some (x8, m7)))))))
set_option maxRecDepth 4000 in
theorem c_X11_chain {g : Cf} {m mm : Sg} {r : Int32} {a1 : Int32} (hm : f_X11_chain  m a1 = some (r, mm)) : Cl g 3 yX11_chain cX11_chain 4 (some .int) [.ref (g.ad 27), .int a1] m (some (.int r)) mm := by
  refine cl_of (by decide) (Nat.le_of_ble_eq_true rfl) (vs := [some (.ref (g.ad 27)), some (.int a1), none, none]) rfl rfl ?_
  show GX g 3 RX11 cX11_chain 4 (some .int) (some (.int r)) mm 0 _ [] m
  unfold f_X11_chain at hm
  refine g_aloadn_0 dX11_chain_0 ?_
  refine g_iconst 0 dX11_chain_1 rfl ?_
  refine g_put hm fo_11_0 fp_11_0 pn_27 pc_27 rfl dX11_chain_2 (fun m1 hm => ?_)
  refine g_aloadn_0 dX11_chain_5 ?_
  refine g_geti fo_11_24 pn_27 pc_27 rfl dX11_chain_6 ?_
  refine g_if_eq 22 hm dX11_chain_9 (by decide) (fun hm => ?_) (fun hm => ?_)
  · refine g_iconst (-1) dX11_chain_22 rfl ?_
    exact g_iret hm dX11_chain_23
  · refine g_iloadn_1 dX11_chain_12 ?_
    refine g_i2l dX11_chain_13 ?_
    refine g_lconst 0 dX11_chain_14 rfl ?_
    refine g_lconst 1 dX11_chain_15 rfl ?_
    refine g_s3 hm (fun _ _ h => c_X11_isIn h) ce_X11_isIn lk_X11_201 rfl rfl dX11_chain_16 (fun x3 m2 hm => ?_)
    refine g_if_ne 24 hm dX11_chain_19 (by decide) (fun hm => ?_) (fun hm => ?_)
    · refine g_iconst 0 dX11_chain_24 rfl ?_
      refine g_istoren_2 dX11_chain_25 rfl ?_
      refine g_iconst 1 dX11_chain_26 rfl ?_
      refine g_istoren_3 dX11_chain_27 rfl ?_
      refine g_lp (I := fun (s : Sg × Int32 × Int32) => GX g 3 RX11 cX11_chain 4 (some .int) (some (.int r)) mm 28 [some (.ref (g.ad 27)), some (.int a1), some (.int (s.2.1)), some (.int (s.2.2))] [] s.1) (E := fun (s : Sg × Int32) => GX g 3 RX11 cX11_chain 4 (some .int) (some (.int r)) mm 65 [none, some (.int a1), some (.int (s.2)), none] [] s.1) hm ?_ ?_
      · rintro ⟨m7, x8⟩ hm
        (try dsimp only at hm)
        (try dsimp only)
        refine g_iloadn_1 dX11_chain_65 ?_
        refine g_if_ne 76 hm dX11_chain_66 (by decide) (fun hm => ?_) (fun hm => ?_)
        · refine g_iloadn_2 dX11_chain_76 ?_
          exact g_iret hm dX11_chain_77
        · refine g_iloadn_2 dX11_chain_69 ?_
          refine g_s1 hm (fun _ _ h => c_J6_bitCount_0f7a4 h) ce_J6_bitCount_0f7a4 lk_X11_287 rfl rfl dX11_chain_70 (fun x22 m21 hm => ?_)
          refine g_goto 77 dX11_chain_73 (by decide) ?_
          exact g_iret hm dX11_chain_77
      · rintro ⟨m4, x5, x6⟩ o hm hx10 hi9
        (try dsimp only [f_X11_chain_L28] at hm)
        (try dsimp only)
        refine g_iloadn_3 dX11_chain_28 ?_
        refine g_iconst 1 dX11_chain_29 rfl ?_
        refine g_aloadn_0 dX11_chain_30 ?_
        refine g_geti fo_11_24 pn_27 pc_27 rfl dX11_chain_31 ?_
        refine g_ishl dX11_chain_34 ?_
        refine g_icmp_ge 65 hm dX11_chain_35 (by decide) (fun hm => ?_) (fun hm => ?_)
        · refine g_weak (vs' := [none, some (.int a1), some (.int x5), none]) ⟨rfl, ⟨rfl, trivial⟩⟩ ?_
          cases hm
          exact hx10 _ rfl
        · refine g_iloadn_3 dX11_chain_38 ?_
          refine g_s1 hm (fun _ _ h => c_J6_bitCount_0f7a4 h) ce_J6_bitCount_0f7a4 lk_X11_287 rfl rfl dX11_chain_39 (fun x12 m11 hm => ?_)
          refine g_iloadn_2 dX11_chain_42 ?_
          refine g_s1 hm (fun _ _ h => c_J6_bitCount_0f7a4 h) ce_J6_bitCount_0f7a4 lk_X11_287 rfl rfl dX11_chain_43 (fun x14 m13 hm => ?_)
          refine g_jn (J := fun (s : Sg × Int32) => GX g 3 RX11 cX11_chain 4 (some .int) (some (.int r)) mm 59 [some (.ref (g.ad 27)), some (.int a1), some (.int (s.2)), some (.int x6)] [] s.1) hm ?_ ?_
          · rintro ⟨m15, x16⟩ hm
            (try dsimp only at hm)
            (try dsimp only)
            refine g_iinc_3 1 hm dX11_chain_59 rfl rfl (fun x18 hm => ?_)
            refine g_goto 28 dX11_chain_62 (by decide) ?_
            cases hm
            exact hi9 _ rfl
          · intro k17 hk17 hm
            refine g_icmp_le 59 hm dX11_chain_46 (by decide) (fun hm => ?_) (fun hm => ?_)
            · exact hk17 _ hm
            · refine g_aloadn_0 dX11_chain_49 ?_
              refine g_iloadn_3 dX11_chain_50 ?_
              refine g_v1 hm (fun _ _ h => c_X11_isChain h) pn_27 (pc_27 _ _) rfl ce_X11_isChain lk_X11_435 rfl rfl dX11_chain_51 (fun x20 m19 hm => ?_)
              refine g_if_eq 59 hm dX11_chain_54 (by decide) (fun hm => ?_) (fun hm => ?_)
              · exact hk17 _ hm
              · refine g_iloadn_3 dX11_chain_57 ?_
                refine g_istoren_2 dX11_chain_58 rfl ?_
                exact hk17 _ hm
    · refine g_iconst (-1) dX11_chain_22 rfl ?_
      exact g_iret hm dX11_chain_23
def f_X11_threes_L21 (x3 : Int32) : (Sg × Int32 × Int32) → Option (((Sg × Int32)) ⊕ (Sg × Int32 × Int32)) := fun s => match s with
  | (m4, x5, x6) => 
  (if (m4.1 27 24) ≤ x6 then some (.inl (m4, x5)) else
  cal (f_X11_slipsOf 38 m4 x6 x3) (fun x12 m11 => bnd (fun ((m13, x14) : Sg × Int32) => bnd (x5 ||| x14) (fun x16 => bnd (x6 + 1) (fun x17 => some (.inr (m13, x16, x17))))) (fun (k15 : Sg × Int32 → Option (((Sg × Int32)) ⊕ (Sg × Int32 × Int32))) =>
  bnd (fun (m18 : Sg) => k15 (m18, 0)) (fun (k19 : Sg → Option (((Sg × Int32)) ⊕ (Sg × Int32 × Int32))) =>
  (if x12 = 0 then cal (f_X11_asks 38 m11 x3 1) (fun x21 m20 => cal (f_X11_rightOf 38 m20 x6) (fun x23 m22 => (if (x21 &&& (x23 ^^^ (-1))) = 0 then k19 m22 else
  k15 (m22, (1 <<< (x6 &&& 31)))))) else
  k19 m11)))))
def f_X11_threes  (m : Sg)  : Option (Int32 × Sg) :=
  bnd (wr m 27 0 0) (fun m1 => cal (f_X11_examiner m1) (fun x3 m2 => (if x3 = (-1) then some ((-1), m2) else
  lpk (f_X11_threes_L21 x3) (m2, 0, 0) (fun ((m7, x8) : Sg × Int32) => some (x8, m7)))))
set_option maxRecDepth 4000 in
theorem c_X11_threes {g : Cf} {m mm : Sg} {r : Int32} (hm : f_X11_threes  m  = some (r, mm)) : Cl g 4 yX11_threes cX11_threes 4 (some .int) [.ref (g.ad 27)] m (some (.int r)) mm := by
  refine cl_of (by decide) (Nat.le_of_ble_eq_true rfl) (vs := [some (.ref (g.ad 27)), none, none, none]) rfl rfl ?_
  show GX g 4 RX11 cX11_threes 4 (some .int) (some (.int r)) mm 0 _ [] m
  unfold f_X11_threes at hm
  refine g_aloadn_0 dX11_threes_0 ?_
  refine g_iconst 0 dX11_threes_1 rfl ?_
  refine g_put hm fo_11_0 fp_11_0 pn_27 pc_27 rfl dX11_threes_2 (fun m1 hm => ?_)
  refine g_aloadn_0 dX11_threes_5 ?_
  refine g_v0 hm (fun _ _ h => c_X11_examiner h) pn_27 (pc_27 _ _) rfl ce_X11_examiner lk_X11_438 rfl rfl dX11_threes_6 (fun x3 m2 hm => ?_)
  refine g_istoren_1 dX11_threes_9 rfl ?_
  refine g_iloadn_1 dX11_threes_10 ?_
  refine g_iconst (-1) dX11_threes_11 rfl ?_
  refine g_icmp_ne 17 hm dX11_threes_12 (by decide) (fun hm => ?_) (fun hm => ?_)
  · refine g_iconst 0 dX11_threes_17 rfl ?_
    refine g_istoren_2 dX11_threes_18 rfl ?_
    refine g_iconst 0 dX11_threes_19 rfl ?_
    refine g_istoren_3 dX11_threes_20 rfl ?_
    refine g_lp (I := fun (s : Sg × Int32 × Int32) => GX g 4 RX11 cX11_threes 4 (some .int) (some (.int r)) mm 21 [some (.ref (g.ad 27)), some (.int x3), some (.int (s.2.1)), some (.int (s.2.2))] [] s.1) (E := fun (s : Sg × Int32) => GX g 4 RX11 cX11_threes 4 (some .int) (some (.int r)) mm 82 [none, none, some (.int (s.2)), none] [] s.1) hm ?_ ?_
    · rintro ⟨m7, x8⟩ hm
      (try dsimp only at hm)
      (try dsimp only)
      refine g_iloadn_2 dX11_threes_82 ?_
      exact g_iret hm dX11_threes_83
    · rintro ⟨m4, x5, x6⟩ o hm hx10 hi9
      (try dsimp only [f_X11_threes_L21] at hm)
      (try dsimp only)
      refine g_iloadn_3 dX11_threes_21 ?_
      refine g_aloadn_0 dX11_threes_22 ?_
      refine g_geti fo_11_24 pn_27 pc_27 rfl dX11_threes_23 ?_
      refine g_icmp_ge 82 hm dX11_threes_26 (by decide) (fun hm => ?_) (fun hm => ?_)
      · refine g_weak (vs' := [none, none, some (.int x5), none]) ⟨rfl, trivial⟩ ?_
        cases hm
        exact hx10 _ rfl
      · refine g_iloadn_2 dX11_threes_29 ?_
        refine g_aloadn_0 dX11_threes_30 ?_
        refine g_aloadn_0 dX11_threes_31 ?_
        refine g_getr (q := 38) fo_11_29 pn_27 pc_27 rfl rfl dX11_threes_32 ?_
        refine g_iloadn_3 dX11_threes_35 ?_
        refine g_iloadn_1 dX11_threes_36 ?_
        refine g_v3 hm (fun _ _ h => c_X11_slipsOf ar_38 h) pn_27 (pc_27 _ _) rfl ce_X11_slipsOf lk_X11_314 rfl rfl dX11_threes_37 (fun x12 m11 hm => ?_)
        refine g_jn (J := fun (s : Sg × Int32) => GX g 4 RX11 cX11_threes 4 (some .int) (some (.int r)) mm 74 [some (.ref (g.ad 27)), some (.int x3), none, some (.int x6)] [.int (s.2), .int x5] s.1) hm ?_ ?_
        · rintro ⟨m13, x14⟩ hm
          (try dsimp only at hm)
          (try dsimp only)
          refine g_ior dX11_threes_74 ?_
          refine g_istoreBn_2 hm dX11_threes_75 rfl (fun x16 hm => ?_)
          refine g_iinc_3 1 hm dX11_threes_76 rfl rfl (fun x17 hm => ?_)
          refine g_goto 21 dX11_threes_79 (by decide) ?_
          cases hm
          exact hi9 _ rfl
        · intro k15 hk15 hm
          refine g_jn (J := fun (s : Sg) => GX g 4 RX11 cX11_threes 4 (some .int) (some (.int r)) mm 73 [some (.ref (g.ad 27)), some (.int x3), none, some (.int x6)] [.int x5] s) hm ?_ ?_
          · intro m18 hm
            refine g_iconst 0 dX11_threes_73 rfl ?_
            exact hk15 _ hm
          · intro k19 hk19 hm
            refine g_if_ne 73 hm dX11_threes_40 (by decide) (fun hm => ?_) (fun hm => ?_)
            · refine g_weak (vs' := [some (.ref (g.ad 27)), some (.int x3), none, some (.int x6)]) ⟨rfl, ⟨rfl, ⟨rfl, trivial⟩⟩⟩ ?_
              exact hk19 _ hm
            · refine g_aloadn_0 dX11_threes_43 ?_
              refine g_aloadn_0 dX11_threes_44 ?_
              refine g_getr (q := 38) fo_11_29 pn_27 pc_27 rfl rfl dX11_threes_45 ?_
              refine g_iloadn_1 dX11_threes_48 ?_
              refine g_iconst 1 dX11_threes_49 rfl ?_
              refine g_v3 hm (fun _ _ h => c_X11_asks ar_38 h) pn_27 (pc_27 _ _) rfl ce_X11_asks lk_X11_276 rfl rfl dX11_threes_50 (fun x21 m20 hm => ?_)
              refine g_aloadn_0 dX11_threes_53 ?_
              refine g_getr (q := 38) fo_11_29 pn_27 pc_27 rfl rfl dX11_threes_54 ?_
              refine g_iloadn_3 dX11_threes_57 ?_
              refine g_s2 hm (fun _ _ h => c_X11_rightOf ar_38 h) ce_X11_rightOf lk_X11_272 rfl rfl dX11_threes_58 (fun x23 m22 hm => ?_)
              refine g_iconst (-1) dX11_threes_61 rfl ?_
              refine g_ixor dX11_threes_62 ?_
              refine g_iand dX11_threes_63 ?_
              refine g_if_eq 73 hm dX11_threes_64 (by decide) (fun hm => ?_) (fun hm => ?_)
              · refine g_weak (vs' := [some (.ref (g.ad 27)), some (.int x3), none, some (.int x6)]) ⟨rfl, ⟨rfl, ⟨rfl, trivial⟩⟩⟩ ?_
                exact hk19 _ hm
              · refine g_iconst 1 dX11_threes_67 rfl ?_
                refine g_iloadn_3 dX11_threes_68 ?_
                refine g_ishl dX11_threes_69 ?_
                refine g_goto 74 dX11_threes_70 (by decide) ?_
                refine g_weak (vs' := [some (.ref (g.ad 27)), some (.int x3), none, some (.int x6)]) ⟨rfl, ⟨rfl, ⟨rfl, trivial⟩⟩⟩ ?_
                exact hk15 _ hm
  · refine g_iconst (-1) dX11_threes_15 rfl ?_
    exact g_iret hm dX11_threes_16
def f_X11_party_L19 (a1 : Int32) : (Sg × Int32 × Int32) → Option (((Sg × Int32)) ⊕ (Sg × Int32 × Int32)) := fun s => match s with
  | (m4, x5, x6) => 
  (if (m4.1 27 24) ≤ x6 then some (.inl (m4, x5)) else
  cal (f_X11_isOf m4 x6 a1) (fun x12 m11 => bnd (fun ((m13, x14) : Sg × Int32) => bnd (x5 ||| x14) (fun x16 => bnd (x6 + 1) (fun x17 => some (.inr (m13, x16, x17))))) (fun (k15 : Sg × Int32 → Option (((Sg × Int32)) ⊕ (Sg × Int32 × Int32))) =>
  (if x12 = 0 then k15 (m11, 0) else
  cal (f_X11_rightOf 38 m11 x6) (fun x19 m18 => k15 (m18, x19))))))
def f_X11_party  (m : Sg) (a1 : Int32) : Option (Int32 × Sg) :=
  bnd (wr m 27 0 0) (fun m1 => cal (f_X11_isNursery m1 a1) (fun x3 m2 => (if x3 = 0 then some ((-1), m2) else
  lpk (f_X11_party_L19 a1) (m2, 0, 0) (fun ((m7, x8) : Sg × Int32) => some (x8, m7)))))
set_option maxRecDepth 4000 in
theorem c_X11_party {g : Cf} {m mm : Sg} {r : Int32} {a1 : Int32} (hm : f_X11_party  m a1 = some (r, mm)) : Cl g 2 yX11_party cX11_party 4 (some .int) [.ref (g.ad 27), .int a1] m (some (.int r)) mm := by
  refine cl_of (by decide) (Nat.le_of_ble_eq_true rfl) (vs := [some (.ref (g.ad 27)), some (.int a1), none, none]) rfl rfl ?_
  show GX g 2 RX11 cX11_party 4 (some .int) (some (.int r)) mm 0 _ [] m
  unfold f_X11_party at hm
  refine g_aloadn_0 dX11_party_0 ?_
  refine g_iconst 0 dX11_party_1 rfl ?_
  refine g_put hm fo_11_0 fp_11_0 pn_27 pc_27 rfl dX11_party_2 (fun m1 hm => ?_)
  refine g_aloadn_0 dX11_party_5 ?_
  refine g_iloadn_1 dX11_party_6 ?_
  refine g_v1 hm (fun _ _ h => c_X11_isNursery h) pn_27 (pc_27 _ _) rfl ce_X11_isNursery lk_X11_385 rfl rfl dX11_party_7 (fun x3 m2 hm => ?_)
  refine g_if_ne 15 hm dX11_party_10 (by decide) (fun hm => ?_) (fun hm => ?_)
  · refine g_iconst 0 dX11_party_15 rfl ?_
    refine g_istoren_2 dX11_party_16 rfl ?_
    refine g_iconst 0 dX11_party_17 rfl ?_
    refine g_istoren_3 dX11_party_18 rfl ?_
    refine g_lp (I := fun (s : Sg × Int32 × Int32) => GX g 2 RX11 cX11_party 4 (some .int) (some (.int r)) mm 19 [some (.ref (g.ad 27)), some (.int a1), some (.int (s.2.1)), some (.int (s.2.2))] [] s.1) (E := fun (s : Sg × Int32) => GX g 2 RX11 cX11_party 4 (some .int) (some (.int r)) mm 57 [none, none, some (.int (s.2)), none] [] s.1) hm ?_ ?_
    · rintro ⟨m7, x8⟩ hm
      (try dsimp only at hm)
      (try dsimp only)
      refine g_iloadn_2 dX11_party_57 ?_
      exact g_iret hm dX11_party_58
    · rintro ⟨m4, x5, x6⟩ o hm hx10 hi9
      (try dsimp only [f_X11_party_L19] at hm)
      (try dsimp only)
      refine g_iloadn_3 dX11_party_19 ?_
      refine g_aloadn_0 dX11_party_20 ?_
      refine g_geti fo_11_24 pn_27 pc_27 rfl dX11_party_21 ?_
      refine g_icmp_ge 57 hm dX11_party_24 (by decide) (fun hm => ?_) (fun hm => ?_)
      · refine g_weak (vs' := [none, none, some (.int x5), none]) ⟨rfl, trivial⟩ ?_
        cases hm
        exact hx10 _ rfl
      · refine g_iloadn_2 dX11_party_27 ?_
        refine g_aloadn_0 dX11_party_28 ?_
        refine g_iloadn_3 dX11_party_29 ?_
        refine g_iloadn_1 dX11_party_30 ?_
        refine g_v2 hm (fun _ _ h => c_X11_isOf h) pn_27 (pc_27 _ _) rfl ce_X11_isOf lk_X11_422 rfl rfl dX11_party_31 (fun x12 m11 hm => ?_)
        refine g_jn (J := fun (s : Sg × Int32) => GX g 2 RX11 cX11_party 4 (some .int) (some (.int r)) mm 49 [some (.ref (g.ad 27)), some (.int a1), none, some (.int x6)] [.int (s.2), .int x5] s.1) hm ?_ ?_
        · rintro ⟨m13, x14⟩ hm
          (try dsimp only at hm)
          (try dsimp only)
          refine g_ior dX11_party_49 ?_
          refine g_istoreBn_2 hm dX11_party_50 rfl (fun x16 hm => ?_)
          refine g_iinc_3 1 hm dX11_party_51 rfl rfl (fun x17 hm => ?_)
          refine g_goto 19 dX11_party_54 (by decide) ?_
          cases hm
          exact hi9 _ rfl
        · intro k15 hk15 hm
          refine g_if_eq 48 hm dX11_party_34 (by decide) (fun hm => ?_) (fun hm => ?_)
          · refine g_iconst 0 dX11_party_48 rfl ?_
            refine g_weak (vs' := [some (.ref (g.ad 27)), some (.int a1), none, some (.int x6)]) ⟨rfl, ⟨rfl, ⟨rfl, trivial⟩⟩⟩ ?_
            exact hk15 _ hm
          · refine g_aloadn_0 dX11_party_37 ?_
            refine g_getr (q := 38) fo_11_29 pn_27 pc_27 rfl rfl dX11_party_38 ?_
            refine g_iloadn_3 dX11_party_41 ?_
            refine g_s2 hm (fun _ _ h => c_X11_rightOf ar_38 h) ce_X11_rightOf lk_X11_272 rfl rfl dX11_party_42 (fun x19 m18 hm => ?_)
            refine g_goto 49 dX11_party_45 (by decide) ?_
            refine g_weak (vs' := [some (.ref (g.ad 27)), some (.int a1), none, some (.int x6)]) ⟨rfl, ⟨rfl, ⟨rfl, trivial⟩⟩⟩ ?_
            exact hk15 _ hm
  · refine g_iconst (-1) dX11_party_13 rfl ?_
    exact g_iret hm dX11_party_14
def f_X11_heir_L14 (x3 : Int32) : (Sg × Int32 × Int32) → Option (((Sg × Int32)) ⊕ (Sg × Int32 × Int32)) := fun s => match s with
  | (m4, x5, x6) => 
  (if (m4.1 27 24) ≤ x6 then some (.inl (m4, x5)) else
  (if x3 = (-1) then some (.inl (m4, x5)) else
  bnd (fun ((m11, x12) : Sg × Int32) => bnd (x6 + 1) (fun x14 => some (.inr (m11, x12, x14)))) (fun (k13 : Sg × Int32 → Option (((Sg × Int32)) ⊕ (Sg × Int32 × Int32))) =>
  (if x6 = (m4.1 38 61) then k13 (m4, x5) else
  if inr ((7 * x6) + 0) 244 = true then (if (m4.1 36 0) ≤ (m4.1 38 ((7 * x6) + 0).toNatClampNeg) then k13 (m4, x5) else
  cal (f_X11_slipsOf 38 m4 x6 x3) (fun x16 m15 => (if x16 = 0 then bnd (fun (m17 : Sg) => k13 (m17, x6)) (fun (k18 : Sg → Option (((Sg × Int32)) ⊕ (Sg × Int32 × Int32))) =>
  (if x5 = (-1) then k18 m15 else
  if inr ((7 * x6) + 0) 244 = true then if inr ((7 * x5) + 0) 244 = true then (if (m15.1 38 ((7 * x5) + 0).toNatClampNeg) ≤ (m15.1 38 ((7 * x6) + 0).toNatClampNeg) then k13 (m15, x5) else
  k18 m15) else none else none)) else
  k13 (m15, x5)))) else none))))
def f_X11_heir  (m : Sg)  : Option (Int32 × Sg) :=
  bnd (wr m 27 0 0) (fun m1 => cal (f_X11_examiner m1) (fun x3 m2 => lpk (f_X11_heir_L14 x3) (m2, (-1), 0) (fun ((m7, x8) : Sg × Int32) => some (x8, m7))))
set_option maxRecDepth 4000 in
theorem c_X11_heir {g : Cf} {m mm : Sg} {r : Int32} (hm : f_X11_heir  m  = some (r, mm)) : Cl g 4 yX11_heir cX11_heir 4 (some .int) [.ref (g.ad 27)] m (some (.int r)) mm := by
  refine cl_of (by decide) (Nat.le_of_ble_eq_true rfl) (vs := [some (.ref (g.ad 27)), none, none, none]) rfl rfl ?_
  show GX g 4 RX11 cX11_heir 4 (some .int) (some (.int r)) mm 0 _ [] m
  unfold f_X11_heir at hm
  refine g_aloadn_0 dX11_heir_0 ?_
  refine g_iconst 0 dX11_heir_1 rfl ?_
  refine g_put hm fo_11_0 fp_11_0 pn_27 pc_27 rfl dX11_heir_2 (fun m1 hm => ?_)
  refine g_aloadn_0 dX11_heir_5 ?_
  refine g_v0 hm (fun _ _ h => c_X11_examiner h) pn_27 (pc_27 _ _) rfl ce_X11_examiner lk_X11_438 rfl rfl dX11_heir_6 (fun x3 m2 hm => ?_)
  refine g_istoren_1 dX11_heir_9 rfl ?_
  refine g_iconst (-1) dX11_heir_10 rfl ?_
  refine g_istoren_2 dX11_heir_11 rfl ?_
  refine g_iconst 0 dX11_heir_12 rfl ?_
  refine g_istoren_3 dX11_heir_13 rfl ?_
  refine g_lp (I := fun (s : Sg × Int32 × Int32) => GX g 4 RX11 cX11_heir 4 (some .int) (some (.int r)) mm 14 [some (.ref (g.ad 27)), some (.int x3), some (.int (s.2.1)), some (.int (s.2.2))] [] s.1) (E := fun (s : Sg × Int32) => GX g 4 RX11 cX11_heir 4 (some .int) (some (.int r)) mm 112 [none, none, some (.int (s.2)), none] [] s.1) hm ?_ ?_
  · rintro ⟨m7, x8⟩ hm
    (try dsimp only at hm)
    (try dsimp only)
    refine g_iloadn_2 dX11_heir_112 ?_
    exact g_iret hm dX11_heir_113
  · rintro ⟨m4, x5, x6⟩ o hm hx10 hi9
    (try dsimp only [f_X11_heir_L14] at hm)
    (try dsimp only)
    refine g_iloadn_3 dX11_heir_14 ?_
    refine g_aloadn_0 dX11_heir_15 ?_
    refine g_geti fo_11_24 pn_27 pc_27 rfl dX11_heir_16 ?_
    refine g_icmp_ge 112 hm dX11_heir_19 (by decide) (fun hm => ?_) (fun hm => ?_)
    · refine g_weak (vs' := [none, none, some (.int x5), none]) ⟨rfl, trivial⟩ ?_
      cases hm
      exact hx10 _ rfl
    · refine g_iloadn_1 dX11_heir_22 ?_
      refine g_iconst (-1) dX11_heir_23 rfl ?_
      refine g_icmp_eq 112 hm dX11_heir_24 (by decide) (fun hm => ?_) (fun hm => ?_)
      · refine g_weak (vs' := [none, none, some (.int x5), none]) ⟨rfl, trivial⟩ ?_
        cases hm
        exact hx10 _ rfl
      · refine g_iloadn_3 dX11_heir_27 ?_
        refine g_aloadn_0 dX11_heir_28 ?_
        refine g_getr (q := 38) fo_11_29 pn_27 pc_27 rfl rfl dX11_heir_29 ?_
        refine g_bipush 61 dX11_heir_32 rfl ?_
        refine g_ialoadc 61 rfl rfl ar_38.1 ar_38.2 dX11_heir_34 ?_
        refine g_jn (J := fun (s : Sg × Int32) => GX g 4 RX11 cX11_heir 4 (some .int) (some (.int r)) mm 106 [some (.ref (g.ad 27)), some (.int x3), some (.int (s.2)), some (.int x6)] [] s.1) hm ?_ ?_
        · rintro ⟨m11, x12⟩ hm
          (try dsimp only at hm)
          (try dsimp only)
          refine g_iinc_3 1 hm dX11_heir_106 rfl rfl (fun x14 hm => ?_)
          refine g_goto 14 dX11_heir_109 (by decide) ?_
          cases hm
          exact hi9 _ rfl
        · intro k13 hk13 hm
          refine g_icmp_eq 106 hm dX11_heir_35 (by decide) (fun hm => ?_) (fun hm => ?_)
          · exact hk13 _ hm
          · refine g_aloadn_0 dX11_heir_38 ?_
            refine g_getr (q := 38) fo_11_29 pn_27 pc_27 rfl rfl dX11_heir_39 ?_
            refine g_bipush 7 dX11_heir_42 rfl ?_
            refine g_iloadn_3 dX11_heir_44 ?_
            refine g_imul dX11_heir_45 ?_
            refine g_iconst 0 dX11_heir_46 rfl ?_
            refine g_iadd dX11_heir_47 ?_
            refine g_iaload hm ar_38.1 ar_38.2 dX11_heir_48 (fun hm => ?_)
            refine g_aloadn_0 dX11_heir_49 ?_
            refine g_getr (q := 36) fo_11_22 pn_27 pc_27 rfl rfl dX11_heir_50 ?_
            refine g_iconst 0 dX11_heir_53 rfl ?_
            refine g_ialoadc 0 rfl rfl ar_36.1 ar_36.2 dX11_heir_54 ?_
            refine g_icmp_ge 106 hm dX11_heir_55 (by decide) (fun hm => ?_) (fun hm => ?_)
            · exact hk13 _ hm
            · refine g_aloadn_0 dX11_heir_58 ?_
              refine g_aloadn_0 dX11_heir_59 ?_
              refine g_getr (q := 38) fo_11_29 pn_27 pc_27 rfl rfl dX11_heir_60 ?_
              refine g_iloadn_3 dX11_heir_63 ?_
              refine g_iloadn_1 dX11_heir_64 ?_
              refine g_v3 hm (fun _ _ h => c_X11_slipsOf ar_38 h) pn_27 (pc_27 _ _) rfl ce_X11_slipsOf lk_X11_314 rfl rfl dX11_heir_65 (fun x16 m15 hm => ?_)
              refine g_if_eq 74 hm dX11_heir_68 (by decide) (fun hm => ?_) (fun hm => ?_)
              · refine g_iloadn_2 dX11_heir_74 ?_
                refine g_iconst (-1) dX11_heir_75 rfl ?_
                refine g_jn (J := fun (s : Sg) => GX g 4 RX11 cX11_heir 4 (some .int) (some (.int r)) mm 104 [some (.ref (g.ad 27)), some (.int x3), none, some (.int x6)] [] s) hm ?_ ?_
                · intro m17 hm
                  refine g_iloadn_3 dX11_heir_104 ?_
                  refine g_istoren_2 dX11_heir_105 rfl ?_
                  exact hk13 _ hm
                · intro k18 hk18 hm
                  refine g_icmp_eq 104 hm dX11_heir_76 (by decide) (fun hm => ?_) (fun hm => ?_)
                  · refine g_weak (vs' := [some (.ref (g.ad 27)), some (.int x3), none, some (.int x6)]) ⟨rfl, ⟨rfl, ⟨rfl, trivial⟩⟩⟩ ?_
                    exact hk18 _ hm
                  · refine g_aloadn_0 dX11_heir_79 ?_
                    refine g_getr (q := 38) fo_11_29 pn_27 pc_27 rfl rfl dX11_heir_80 ?_
                    refine g_bipush 7 dX11_heir_83 rfl ?_
                    refine g_iloadn_3 dX11_heir_85 ?_
                    refine g_imul dX11_heir_86 ?_
                    refine g_iconst 0 dX11_heir_87 rfl ?_
                    refine g_iadd dX11_heir_88 ?_
                    refine g_iaload hm ar_38.1 ar_38.2 dX11_heir_89 (fun hm => ?_)
                    refine g_aloadn_0 dX11_heir_90 ?_
                    refine g_getr (q := 38) fo_11_29 pn_27 pc_27 rfl rfl dX11_heir_91 ?_
                    refine g_bipush 7 dX11_heir_94 rfl ?_
                    refine g_iloadn_2 dX11_heir_96 ?_
                    refine g_imul dX11_heir_97 ?_
                    refine g_iconst 0 dX11_heir_98 rfl ?_
                    refine g_iadd dX11_heir_99 ?_
                    refine g_iaload hm ar_38.1 ar_38.2 dX11_heir_100 (fun hm => ?_)
                    refine g_icmp_ge 106 hm dX11_heir_101 (by decide) (fun hm => ?_) (fun hm => ?_)
                    · exact hk13 _ hm
                    · refine g_weak (vs' := [some (.ref (g.ad 27)), some (.int x3), none, some (.int x6)]) ⟨rfl, ⟨rfl, ⟨rfl, trivial⟩⟩⟩ ?_
                      exact hk18 _ hm
              · refine g_goto 106 dX11_heir_71 (by decide) ?_
                exact hk13 _ hm
def f_X11_before_L19 (a1 : Int32) : (Sg × Int32 × Int32) → Option (((Sg × Int32)) ⊕ (Sg × Int32 × Int32)) := fun s => match s with
  | (m4, x5, x6) => 
  (if (m4.1 27 25) ≤ x6 then some (.inl (m4, x5)) else
  cal (f_X11_slipsOf 38 m4 a1 x6) (fun x12 m11 => bnd (fun ((m13, x14) : Sg × Int32) => bnd (x5 ||| x14) (fun x16 => bnd (x6 + 1) (fun x17 => some (.inr (m13, x16, x17))))) (fun (k15 : Sg × Int32 → Option (((Sg × Int32)) ⊕ (Sg × Int32 × Int32))) =>
  (if x12 = 0 then k15 (m11, (1 <<< (x6 &&& 31))) else
  k15 (m11, 0)))))
def f_X11_before  (m : Sg) (a1 : Int32) : Option (Int32 × Sg) :=
  bnd (wr m 27 0 0) (fun m1 => cal (f_X11_isChild m1 a1) (fun x3 m2 => (if x3 = 0 then some ((-1), m2) else
  lpk (f_X11_before_L19 a1) (m2, 0, 0) (fun ((m7, x8) : Sg × Int32) => some (x8, m7)))))
set_option maxRecDepth 4000 in
theorem c_X11_before {g : Cf} {m mm : Sg} {r : Int32} {a1 : Int32} (hm : f_X11_before  m a1 = some (r, mm)) : Cl g 3 yX11_before cX11_before 4 (some .int) [.ref (g.ad 27), .int a1] m (some (.int r)) mm := by
  refine cl_of (by decide) (Nat.le_of_ble_eq_true rfl) (vs := [some (.ref (g.ad 27)), some (.int a1), none, none]) rfl rfl ?_
  show GX g 3 RX11 cX11_before 4 (some .int) (some (.int r)) mm 0 _ [] m
  unfold f_X11_before at hm
  refine g_aloadn_0 dX11_before_0 ?_
  refine g_iconst 0 dX11_before_1 rfl ?_
  refine g_put hm fo_11_0 fp_11_0 pn_27 pc_27 rfl dX11_before_2 (fun m1 hm => ?_)
  refine g_aloadn_0 dX11_before_5 ?_
  refine g_iloadn_1 dX11_before_6 ?_
  refine g_v1 hm (fun _ _ h => c_X11_isChild h) pn_27 (pc_27 _ _) rfl ce_X11_isChild lk_X11_296 rfl rfl dX11_before_7 (fun x3 m2 hm => ?_)
  refine g_if_ne 15 hm dX11_before_10 (by decide) (fun hm => ?_) (fun hm => ?_)
  · refine g_iconst 0 dX11_before_15 rfl ?_
    refine g_istoren_2 dX11_before_16 rfl ?_
    refine g_iconst 0 dX11_before_17 rfl ?_
    refine g_istoren_3 dX11_before_18 rfl ?_
    refine g_lp (I := fun (s : Sg × Int32 × Int32) => GX g 3 RX11 cX11_before 4 (some .int) (some (.int r)) mm 19 [some (.ref (g.ad 27)), some (.int a1), some (.int (s.2.1)), some (.int (s.2.2))] [] s.1) (E := fun (s : Sg × Int32) => GX g 3 RX11 cX11_before 4 (some .int) (some (.int r)) mm 56 [none, none, some (.int (s.2)), none] [] s.1) hm ?_ ?_
    · rintro ⟨m7, x8⟩ hm
      (try dsimp only at hm)
      (try dsimp only)
      refine g_iloadn_2 dX11_before_56 ?_
      exact g_iret hm dX11_before_57
    · rintro ⟨m4, x5, x6⟩ o hm hx10 hi9
      (try dsimp only [f_X11_before_L19] at hm)
      (try dsimp only)
      refine g_iloadn_3 dX11_before_19 ?_
      refine g_aloadn_0 dX11_before_20 ?_
      refine g_geti fo_11_25 pn_27 pc_27 rfl dX11_before_21 ?_
      refine g_icmp_ge 56 hm dX11_before_24 (by decide) (fun hm => ?_) (fun hm => ?_)
      · refine g_weak (vs' := [none, none, some (.int x5), none]) ⟨rfl, trivial⟩ ?_
        cases hm
        exact hx10 _ rfl
      · refine g_iloadn_2 dX11_before_27 ?_
        refine g_aloadn_0 dX11_before_28 ?_
        refine g_aloadn_0 dX11_before_29 ?_
        refine g_getr (q := 38) fo_11_29 pn_27 pc_27 rfl rfl dX11_before_30 ?_
        refine g_iloadn_1 dX11_before_33 ?_
        refine g_iloadn_3 dX11_before_34 ?_
        refine g_v3 hm (fun _ _ h => c_X11_slipsOf ar_38 h) pn_27 (pc_27 _ _) rfl ce_X11_slipsOf lk_X11_314 rfl rfl dX11_before_35 (fun x12 m11 hm => ?_)
        refine g_jn (J := fun (s : Sg × Int32) => GX g 3 RX11 cX11_before 4 (some .int) (some (.int r)) mm 48 [some (.ref (g.ad 27)), some (.int a1), none, some (.int x6)] [.int (s.2), .int x5] s.1) hm ?_ ?_
        · rintro ⟨m13, x14⟩ hm
          (try dsimp only at hm)
          (try dsimp only)
          refine g_ior dX11_before_48 ?_
          refine g_istoreBn_2 hm dX11_before_49 rfl (fun x16 hm => ?_)
          refine g_iinc_3 1 hm dX11_before_50 rfl rfl (fun x17 hm => ?_)
          refine g_goto 19 dX11_before_53 (by decide) ?_
          cases hm
          exact hi9 _ rfl
        · intro k15 hk15 hm
          refine g_if_ne 47 hm dX11_before_38 (by decide) (fun hm => ?_) (fun hm => ?_)
          · refine g_iconst 0 dX11_before_47 rfl ?_
            refine g_weak (vs' := [some (.ref (g.ad 27)), some (.int a1), none, some (.int x6)]) ⟨rfl, ⟨rfl, ⟨rfl, trivial⟩⟩⟩ ?_
            exact hk15 _ hm
          · refine g_iconst 1 dX11_before_41 rfl ?_
            refine g_iloadn_3 dX11_before_42 ?_
            refine g_ishl dX11_before_43 ?_
            refine g_goto 48 dX11_before_44 (by decide) ?_
            refine g_weak (vs' := [some (.ref (g.ad 27)), some (.int a1), none, some (.int x6)]) ⟨rfl, ⟨rfl, ⟨rfl, trivial⟩⟩⟩ ?_
            exact hk15 _ hm
  · refine g_iconst (-1) dX11_before_13 rfl ?_
    exact g_iret hm dX11_before_14
def f_X11_without_L19 (a1 : Int32) : (Sg × Int32 × Int32) → Option (((Sg × Int32)) ⊕ (Sg × Int32 × Int32)) := fun s => match s with
  | (m4, x5, x6) => 
  (if (1 <<< ((m4.1 27 25) &&& 31)) ≤ x6 then some (.inl (m4, x5)) else
  cal (f_X11_examinerOf 38 m4 x6) (fun x12 m11 => bnd (fun ((m13, x14) : Sg × Int32) => bnd (x6 + 1) (fun x16 => some (.inr (m13, x14, x16)))) (fun (k15 : Sg × Int32 → Option (((Sg × Int32)) ⊕ (Sg × Int32 × Int32))) =>
  (if x12 = (-1) then k15 (m11, x5) else
  cal (f_X11_slipsOf 38 m11 a1 x12) (fun x18 m17 => (if x18 = 0 then bnd (fun (m19 : Sg) => k15 (m19, x6)) (fun (k20 : Sg → Option (((Sg × Int32)) ⊕ (Sg × Int32 × Int32))) =>
  (if x5 = (-1) then k20 m17 else
  cal (f_J6_bitCount_0f7a4 m17 x6) (fun x22 m21 => cal (f_J6_bitCount_0f7a4 m21 x5) (fun x24 m23 => (if x24 ≤ x22 then k15 (m23, x5) else
  k20 m23))))) else
  k15 (m17, x5)))))))
def f_X11_without  (m : Sg) (a1 : Int32) : Option (Int32 × Sg) :=
  bnd (wr m 27 0 0) (fun m1 => cal (f_X11_isChild m1 a1) (fun x3 m2 => (if x3 = 0 then some ((-1), m2) else
  lpk (f_X11_without_L19 a1) (m2, (-1), 0) (fun ((m7, x8) : Sg × Int32) => some (x8, m7)))))
set_option maxRecDepth 4000 in
theorem c_X11_without {g : Cf} {m mm : Sg} {r : Int32} {a1 : Int32} (hm : f_X11_without  m a1 = some (r, mm)) : Cl g 3 yX11_without cX11_without 5 (some .int) [.ref (g.ad 27), .int a1] m (some (.int r)) mm := by
  refine cl_of (by decide) (Nat.le_of_ble_eq_true rfl) (vs := [some (.ref (g.ad 27)), some (.int a1), none, none, none]) rfl rfl ?_
  show GX g 3 RX11 cX11_without 5 (some .int) (some (.int r)) mm 0 _ [] m
  unfold f_X11_without at hm
  refine g_aloadn_0 dX11_without_0 ?_
  refine g_iconst 0 dX11_without_1 rfl ?_
  refine g_put hm fo_11_0 fp_11_0 pn_27 pc_27 rfl dX11_without_2 (fun m1 hm => ?_)
  refine g_aloadn_0 dX11_without_5 ?_
  refine g_iloadn_1 dX11_without_6 ?_
  refine g_v1 hm (fun _ _ h => c_X11_isChild h) pn_27 (pc_27 _ _) rfl ce_X11_isChild lk_X11_296 rfl rfl dX11_without_7 (fun x3 m2 hm => ?_)
  refine g_if_ne 15 hm dX11_without_10 (by decide) (fun hm => ?_) (fun hm => ?_)
  · refine g_iconst (-1) dX11_without_15 rfl ?_
    refine g_istoren_2 dX11_without_16 rfl ?_
    refine g_iconst 0 dX11_without_17 rfl ?_
    refine g_istoren_3 dX11_without_18 rfl ?_
    refine g_lp (I := fun (s : Sg × Int32 × Int32) => GX g 3 RX11 cX11_without 5 (some .int) (some (.int r)) mm 19 [some (.ref (g.ad 27)), some (.int a1), some (.int (s.2.1)), some (.int (s.2.2)), none] [] s.1) (E := fun (s : Sg × Int32) => GX g 3 RX11 cX11_without 5 (some .int) (some (.int r)) mm 87 [none, none, some (.int (s.2)), none, none] [] s.1) hm ?_ ?_
    · rintro ⟨m7, x8⟩ hm
      (try dsimp only at hm)
      (try dsimp only)
      refine g_iloadn_2 dX11_without_87 ?_
      exact g_iret hm dX11_without_88
    · rintro ⟨m4, x5, x6⟩ o hm hx10 hi9
      (try dsimp only [f_X11_without_L19] at hm)
      (try dsimp only)
      refine g_iloadn_3 dX11_without_19 ?_
      refine g_iconst 1 dX11_without_20 rfl ?_
      refine g_aloadn_0 dX11_without_21 ?_
      refine g_geti fo_11_25 pn_27 pc_27 rfl dX11_without_22 ?_
      refine g_ishl dX11_without_25 ?_
      refine g_icmp_ge 87 hm dX11_without_26 (by decide) (fun hm => ?_) (fun hm => ?_)
      · refine g_weak (vs' := [none, none, some (.int x5), none, none]) ⟨rfl, trivial⟩ ?_
        cases hm
        exact hx10 _ rfl
      · refine g_aloadn_0 dX11_without_29 ?_
        refine g_aloadn_0 dX11_without_30 ?_
        refine g_getr (q := 38) fo_11_29 pn_27 pc_27 rfl rfl dX11_without_31 ?_
        refine g_iloadn_3 dX11_without_34 ?_
        refine g_v2 hm (fun _ _ h => c_X11_examinerOf ar_38 h) pn_27 (pc_27 _ _) rfl ce_X11_examinerOf lk_X11_317 rfl rfl dX11_without_35 (fun x12 m11 hm => ?_)
        refine g_istore_4 dX11_without_38 rfl ?_
        refine g_iload_4 dX11_without_40 ?_
        refine g_iconst (-1) dX11_without_42 rfl ?_
        refine g_jn (J := fun (s : Sg × Int32) => GX g 3 RX11 cX11_without 5 (some .int) (some (.int r)) mm 81 [some (.ref (g.ad 27)), some (.int a1), some (.int (s.2)), some (.int x6), none] [] s.1) hm ?_ ?_
        · rintro ⟨m13, x14⟩ hm
          (try dsimp only at hm)
          (try dsimp only)
          refine g_iinc_3 1 hm dX11_without_81 rfl rfl (fun x16 hm => ?_)
          refine g_goto 19 dX11_without_84 (by decide) ?_
          cases hm
          exact hi9 _ rfl
        · intro k15 hk15 hm
          refine g_icmp_eq 81 hm dX11_without_43 (by decide) (fun hm => ?_) (fun hm => ?_)
          · refine g_weak (vs' := [some (.ref (g.ad 27)), some (.int a1), some (.int x5), some (.int x6), none]) ⟨rfl, ⟨rfl, ⟨rfl, ⟨rfl, trivial⟩⟩⟩⟩ ?_
            exact hk15 _ hm
          · refine g_aloadn_0 dX11_without_46 ?_
            refine g_aloadn_0 dX11_without_47 ?_
            refine g_getr (q := 38) fo_11_29 pn_27 pc_27 rfl rfl dX11_without_48 ?_
            refine g_iloadn_1 dX11_without_51 ?_
            refine g_iload_4 dX11_without_52 ?_
            refine g_v3 hm (fun _ _ h => c_X11_slipsOf ar_38 h) pn_27 (pc_27 _ _) rfl ce_X11_slipsOf lk_X11_314 rfl rfl dX11_without_54 (fun x18 m17 hm => ?_)
            refine g_if_eq 63 hm dX11_without_57 (by decide) (fun hm => ?_) (fun hm => ?_)
            · refine g_iloadn_2 dX11_without_63 ?_
              refine g_iconst (-1) dX11_without_64 rfl ?_
              refine g_jn (J := fun (s : Sg) => GX g 3 RX11 cX11_without 5 (some .int) (some (.int r)) mm 79 [some (.ref (g.ad 27)), some (.int a1), none, some (.int x6), none] [] s) hm ?_ ?_
              · intro m19 hm
                refine g_iloadn_3 dX11_without_79 ?_
                refine g_istoren_2 dX11_without_80 rfl ?_
                exact hk15 _ hm
              · intro k20 hk20 hm
                refine g_icmp_eq 79 hm dX11_without_65 (by decide) (fun hm => ?_) (fun hm => ?_)
                · refine g_weak (vs' := [some (.ref (g.ad 27)), some (.int a1), none, some (.int x6), none]) ⟨rfl, ⟨rfl, ⟨rfl, trivial⟩⟩⟩ ?_
                  exact hk20 _ hm
                · refine g_iloadn_3 dX11_without_68 ?_
                  refine g_s1 hm (fun _ _ h => c_J6_bitCount_0f7a4 h) ce_J6_bitCount_0f7a4 lk_X11_287 rfl rfl dX11_without_69 (fun x22 m21 hm => ?_)
                  refine g_iloadn_2 dX11_without_72 ?_
                  refine g_s1 hm (fun _ _ h => c_J6_bitCount_0f7a4 h) ce_J6_bitCount_0f7a4 lk_X11_287 rfl rfl dX11_without_73 (fun x24 m23 hm => ?_)
                  refine g_icmp_ge 81 hm dX11_without_76 (by decide) (fun hm => ?_) (fun hm => ?_)
                  · refine g_weak (vs' := [some (.ref (g.ad 27)), some (.int a1), some (.int x5), some (.int x6), none]) ⟨rfl, ⟨rfl, ⟨rfl, ⟨rfl, trivial⟩⟩⟩⟩ ?_
                    exact hk15 _ hm
                  · refine g_weak (vs' := [some (.ref (g.ad 27)), some (.int a1), none, some (.int x6), none]) ⟨rfl, ⟨rfl, ⟨rfl, trivial⟩⟩⟩ ?_
                    exact hk20 _ hm
            · refine g_goto 81 dX11_without_60 (by decide) ?_
              refine g_weak (vs' := [some (.ref (g.ad 27)), some (.int a1), some (.int x5), some (.int x6), none]) ⟨rfl, ⟨rfl, ⟨rfl, ⟨rfl, trivial⟩⟩⟩⟩ ?_
              exact hk15 _ hm
  · refine g_iconst (-1) dX11_without_13 rfl ?_
    exact g_iret hm dX11_without_14
def f_X11_spoil_L62 (x9 : Int32) : (Sg × Int32) → Option (((Sg × Int32) ⊕ (Sg)) ⊕ (Sg × Int32)) := fun s => match s with
  | (m10, x11) => 
  (if 9 ≤ x11 then some (.inl (.inr m10)) else
  cal (f_X11_has m10 x9 x11) (fun x18 m17 => (if x18 = 0 then bnd (x11 + 1) (fun x19 => some (.inr (m17, x19))) else
  some (.inl (.inl (m17, x11))))))
def f_X11_spoil  (m : Sg) (a1 : Int32) : Option (Int32 × Sg) :=
  bnd (wr m 27 0 0) (fun m1 => cal (f_X11_examiner m1) (fun x3 m2 => (if x3 = (-1) then some ((-1), m2) else
  cal (f_X11_isChild m2 a1) (fun x5 m4 => (if x5 = 0 then some ((-1), m4) else
  cal (f_X11_slipsOf 38 m4 a1 x3) (fun x7 m6 => (if x7 = 0 then if inr ((6 * a1) + 5) 48 = true then cal (f_X11_asks 38 m6 x3 (m6.1 32 ((6 * a1) + 5).toNatClampNeg)) (fun x9 m8 => lpk (f_X11_spoil_L62 x9) (m8, 0) (fun x => match x with
  | .inl (m12, x13) => some (x13, m12)
  | .inr m14 => some ((-1), m14))) else none else
  some ((-1), m6))))))))
set_option maxRecDepth 4000 in
theorem c_X11_spoil {g : Cf} {m mm : Sg} {r : Int32} {a1 : Int32} (hm : f_X11_spoil  m a1 = some (r, mm)) : Cl g 4 yX11_spoil cX11_spoil 5 (some .int) [.ref (g.ad 27), .int a1] m (some (.int r)) mm := by
  refine cl_of (by decide) (Nat.le_of_ble_eq_true rfl) (vs := [some (.ref (g.ad 27)), some (.int a1), none, none, none]) rfl rfl ?_
  show GX g 4 RX11 cX11_spoil 5 (some .int) (some (.int r)) mm 0 _ [] m
  unfold f_X11_spoil at hm
  refine g_aloadn_0 dX11_spoil_0 ?_
  refine g_iconst 0 dX11_spoil_1 rfl ?_
  refine g_put hm fo_11_0 fp_11_0 pn_27 pc_27 rfl dX11_spoil_2 (fun m1 hm => ?_)
  refine g_aloadn_0 dX11_spoil_5 ?_
  refine g_v0 hm (fun _ _ h => c_X11_examiner h) pn_27 (pc_27 _ _) rfl ce_X11_examiner lk_X11_438 rfl rfl dX11_spoil_6 (fun x3 m2 hm => ?_)
  refine g_istoren_2 dX11_spoil_9 rfl ?_
  refine g_iloadn_2 dX11_spoil_10 ?_
  refine g_iconst (-1) dX11_spoil_11 rfl ?_
  refine g_icmp_eq 36 hm dX11_spoil_12 (by decide) (fun hm => ?_) (fun hm => ?_)
  · refine g_iconst (-1) dX11_spoil_36 rfl ?_
    exact g_iret hm dX11_spoil_37
  · refine g_aloadn_0 dX11_spoil_15 ?_
    refine g_iloadn_1 dX11_spoil_16 ?_
    refine g_v1 hm (fun _ _ h => c_X11_isChild h) pn_27 (pc_27 _ _) rfl ce_X11_isChild lk_X11_296 rfl rfl dX11_spoil_17 (fun x5 m4 hm => ?_)
    refine g_if_eq 36 hm dX11_spoil_20 (by decide) (fun hm => ?_) (fun hm => ?_)
    · refine g_iconst (-1) dX11_spoil_36 rfl ?_
      exact g_iret hm dX11_spoil_37
    · refine g_aloadn_0 dX11_spoil_23 ?_
      refine g_aloadn_0 dX11_spoil_24 ?_
      refine g_getr (q := 38) fo_11_29 pn_27 pc_27 rfl rfl dX11_spoil_25 ?_
      refine g_iloadn_1 dX11_spoil_28 ?_
      refine g_iloadn_2 dX11_spoil_29 ?_
      refine g_v3 hm (fun _ _ h => c_X11_slipsOf ar_38 h) pn_27 (pc_27 _ _) rfl ce_X11_slipsOf lk_X11_314 rfl rfl dX11_spoil_30 (fun x7 m6 hm => ?_)
      refine g_if_eq 38 hm dX11_spoil_33 (by decide) (fun hm => ?_) (fun hm => ?_)
      · refine g_aloadn_0 dX11_spoil_38 ?_
        refine g_aloadn_0 dX11_spoil_39 ?_
        refine g_getr (q := 38) fo_11_29 pn_27 pc_27 rfl rfl dX11_spoil_40 ?_
        refine g_iloadn_2 dX11_spoil_43 ?_
        refine g_aloadn_0 dX11_spoil_44 ?_
        refine g_getr (q := 32) fo_11_18 pn_27 pc_27 rfl rfl dX11_spoil_45 ?_
        refine g_bipush 6 dX11_spoil_48 rfl ?_
        refine g_iloadn_1 dX11_spoil_50 ?_
        refine g_imul dX11_spoil_51 ?_
        refine g_iconst 5 dX11_spoil_52 rfl ?_
        refine g_iadd dX11_spoil_53 ?_
        refine g_iaload hm ar_32.1 ar_32.2 dX11_spoil_54 (fun hm => ?_)
        refine g_v3 hm (fun _ _ h => c_X11_asks ar_38 h) pn_27 (pc_27 _ _) rfl ce_X11_asks lk_X11_276 rfl rfl dX11_spoil_55 (fun x9 m8 hm => ?_)
        refine g_istoren_3 dX11_spoil_58 rfl ?_
        refine g_iconst 0 dX11_spoil_59 rfl ?_
        refine g_istore_4 dX11_spoil_60 rfl ?_
        refine g_weak (vs' := [none, none, none, some (.int x9), some (.int 0)]) ⟨rfl, ⟨rfl, trivial⟩⟩ ?_
        refine g_lp (I := fun (s : Sg × Int32) => GX g 4 RX11 cX11_spoil 5 (some .int) (some (.int r)) mm 62 [none, none, none, some (.int x9), some (.int (s.2))] [] s.1) (E := fun (x : (Sg × Int32) ⊕ (Sg)) => match x with | .inl (m12, x13) => GX g 4 RX11 cX11_spoil 5 (some .int) (some (.int r)) mm 78 [none, none, none, none, some (.int x13)] [] m12 | .inr m14 => GX g 4 RX11 cX11_spoil 5 (some .int) (some (.int r)) mm 87 [none, none, none, none, none] [] m14) hm ?_ ?_
        · rintro (⟨m12, x13⟩ | m14) hm
          · (try dsimp only at hm)
            (try dsimp only)
            refine g_iload_4 dX11_spoil_78 ?_
            exact g_iret hm dX11_spoil_80
          · (try dsimp only at hm)
            (try dsimp only)
            refine g_iconst (-1) dX11_spoil_87 rfl ?_
            exact g_iret hm dX11_spoil_88
        · rintro ⟨m10, x11⟩ o hm hx16 hi15
          (try dsimp only [f_X11_spoil_L62] at hm)
          (try dsimp only)
          refine g_iload_4 dX11_spoil_62 ?_
          refine g_bipush 9 dX11_spoil_64 rfl ?_
          refine g_icmp_ge 87 hm dX11_spoil_66 (by decide) (fun hm => ?_) (fun hm => ?_)
          · refine g_weak (vs' := [none, none, none, none, none]) trivial ?_
            cases hm
            exact hx16 _ rfl
          · refine g_iloadn_3 dX11_spoil_69 ?_
            refine g_iload_4 dX11_spoil_70 ?_
            refine g_s2 hm (fun _ _ h => c_X11_has h) ce_X11_has lk_X11_213 rfl rfl dX11_spoil_72 (fun x18 m17 hm => ?_)
            refine g_if_eq 81 hm dX11_spoil_75 (by decide) (fun hm => ?_) (fun hm => ?_)
            · refine g_iinc_4 1 hm dX11_spoil_81 rfl rfl (fun x19 hm => ?_)
              refine g_goto 62 dX11_spoil_84 (by decide) ?_
              cases hm
              exact hi15 _ rfl
            · refine g_weak (vs' := [none, none, none, none, some (.int x11)]) ⟨rfl, trivial⟩ ?_
              cases hm
              exact hx16 _ rfl
      · refine g_iconst (-1) dX11_spoil_36 rfl ?_
        exact g_iret hm dX11_spoil_37
def f_X11_soon  (m : Sg) (a1 : Int32) : Option (Int32 × Sg) :=
  bnd (wr m 27 0 0) (fun m1 => cal (f_X11_examiner m1) (fun x3 m2 => (if x3 = (-1) then some ((-1), m2) else
  cal (f_X11_isChild m2 a1) (fun x5 m4 => (if x5 = 0 then some ((-1), m4) else
  cal (f_X11_slipsOf 38 m4 a1 x3) (fun x7 m6 => (if x7 = 0 then some (0, m6) else
  if inr ((7 * a1) + 3) 244 = true then bnd (m6.1 38 ((7 * a1) + 3).toNatClampNeg) (fun x8 => bnd (fun ((m9, x10) : Sg × Int32) => bnd (fun ((m12, x13) : Sg × Int32) => if inr ((6 * a1) + 4) 48 = true then cal (f_J6_bitCount_0f7a4 m12 x10) (fun x16 m15 => some (x13 + ((m12.1 32 ((6 * a1) + 4).toNatClampNeg) * x16), m15)) else none) (fun (k14 : Sg × Int32 → Option (Int32 × Sg)) =>
  (if x8 = (-1) then k14 (m9, 0) else
  if inr ((7 * a1) + 4) 244 = true then k14 (m9, (m9.1 38 ((7 * a1) + 4).toNatClampNeg)) else none))) (fun (k11 : Sg × Int32 → Option (Int32 × Sg)) =>
  (if x8 = (-1) then k11 (m6, x7) else
  k11 (m6, (x7 &&& ((1 <<< (x8 &&& 31)) ^^^ (-1))))))) else none)))))))
set_option maxRecDepth 4000 in
theorem c_X11_soon {g : Cf} {m mm : Sg} {r : Int32} {a1 : Int32} (hm : f_X11_soon  m a1 = some (r, mm)) : Cl g 4 yX11_soon cX11_soon 6 (some .int) [.ref (g.ad 27), .int a1] m (some (.int r)) mm := by
  refine cl_of (by decide) (Nat.le_of_ble_eq_true rfl) (vs := [some (.ref (g.ad 27)), some (.int a1), none, none, none, none]) rfl rfl ?_
  show GX g 4 RX11 cX11_soon 6 (some .int) (some (.int r)) mm 0 _ [] m
  unfold f_X11_soon at hm
  refine g_aloadn_0 dX11_soon_0 ?_
  refine g_iconst 0 dX11_soon_1 rfl ?_
  refine g_put hm fo_11_0 fp_11_0 pn_27 pc_27 rfl dX11_soon_2 (fun m1 hm => ?_)
  refine g_aloadn_0 dX11_soon_5 ?_
  refine g_v0 hm (fun _ _ h => c_X11_examiner h) pn_27 (pc_27 _ _) rfl ce_X11_examiner lk_X11_438 rfl rfl dX11_soon_6 (fun x3 m2 hm => ?_)
  refine g_istoren_2 dX11_soon_9 rfl ?_
  refine g_iloadn_2 dX11_soon_10 ?_
  refine g_iconst (-1) dX11_soon_11 rfl ?_
  refine g_icmp_eq 23 hm dX11_soon_12 (by decide) (fun hm => ?_) (fun hm => ?_)
  · refine g_iconst (-1) dX11_soon_23 rfl ?_
    exact g_iret hm dX11_soon_24
  · refine g_aloadn_0 dX11_soon_15 ?_
    refine g_iloadn_1 dX11_soon_16 ?_
    refine g_v1 hm (fun _ _ h => c_X11_isChild h) pn_27 (pc_27 _ _) rfl ce_X11_isChild lk_X11_296 rfl rfl dX11_soon_17 (fun x5 m4 hm => ?_)
    refine g_if_ne 25 hm dX11_soon_20 (by decide) (fun hm => ?_) (fun hm => ?_)
    · refine g_aloadn_0 dX11_soon_25 ?_
      refine g_aloadn_0 dX11_soon_26 ?_
      refine g_getr (q := 38) fo_11_29 pn_27 pc_27 rfl rfl dX11_soon_27 ?_
      refine g_iloadn_1 dX11_soon_30 ?_
      refine g_iloadn_2 dX11_soon_31 ?_
      refine g_v3 hm (fun _ _ h => c_X11_slipsOf ar_38 h) pn_27 (pc_27 _ _) rfl ce_X11_slipsOf lk_X11_314 rfl rfl dX11_soon_32 (fun x7 m6 hm => ?_)
      refine g_istoren_3 dX11_soon_35 rfl ?_
      refine g_iloadn_3 dX11_soon_36 ?_
      refine g_if_ne 42 hm dX11_soon_37 (by decide) (fun hm => ?_) (fun hm => ?_)
      · refine g_aloadn_0 dX11_soon_42 ?_
        refine g_getr (q := 38) fo_11_29 pn_27 pc_27 rfl rfl dX11_soon_43 ?_
        refine g_bipush 7 dX11_soon_46 rfl ?_
        refine g_iloadn_1 dX11_soon_48 ?_
        refine g_imul dX11_soon_49 ?_
        refine g_iconst 3 dX11_soon_50 rfl ?_
        refine g_iadd dX11_soon_51 ?_
        refine g_iaload hm ar_38.1 ar_38.2 dX11_soon_52 (fun hm => ?_)
        refine g_istoreB_4 hm dX11_soon_53 rfl (fun x8 hm => ?_)
        refine g_iload_4 dX11_soon_55 ?_
        refine g_iconst (-1) dX11_soon_57 rfl ?_
        refine g_jn (J := fun (s : Sg × Int32) => GX g 4 RX11 cX11_soon 6 (some .int) (some (.int r)) mm 73 [some (.ref (g.ad 27)), some (.int a1), none, none, some (.int x8), none] [.int (s.2)] s.1) hm ?_ ?_
        · rintro ⟨m9, x10⟩ hm
          (try dsimp only at hm)
          (try dsimp only)
          refine g_istore_5 dX11_soon_73 rfl ?_
          refine g_iload_4 dX11_soon_75 ?_
          refine g_iconst (-1) dX11_soon_77 rfl ?_
          refine g_jn (J := fun (s : Sg × Int32) => GX g 4 RX11 cX11_soon 6 (some .int) (some (.int r)) mm 96 [some (.ref (g.ad 27)), some (.int a1), none, none, none, some (.int x10)] [.int (s.2)] s.1) hm ?_ ?_
          · rintro ⟨m12, x13⟩ hm
            (try dsimp only at hm)
            (try dsimp only)
            refine g_aloadn_0 dX11_soon_96 ?_
            refine g_getr (q := 32) fo_11_18 pn_27 pc_27 rfl rfl dX11_soon_97 ?_
            refine g_bipush 6 dX11_soon_100 rfl ?_
            refine g_iloadn_1 dX11_soon_102 ?_
            refine g_imul dX11_soon_103 ?_
            refine g_iconst 4 dX11_soon_104 rfl ?_
            refine g_iadd dX11_soon_105 ?_
            refine g_iaload hm ar_32.1 ar_32.2 dX11_soon_106 (fun hm => ?_)
            refine g_iload_5 dX11_soon_107 ?_
            refine g_s1 hm (fun _ _ h => c_J6_bitCount_0f7a4 h) ce_J6_bitCount_0f7a4 lk_X11_287 rfl rfl dX11_soon_109 (fun x16 m15 hm => ?_)
            refine g_imul dX11_soon_112 ?_
            refine g_iadd dX11_soon_113 ?_
            exact g_iret hm dX11_soon_114
          · intro k14 hk14 hm
            refine g_icmp_ne 85 hm dX11_soon_78 (by decide) (fun hm => ?_) (fun hm => ?_)
            · refine g_aloadn_0 dX11_soon_85 ?_
              refine g_getr (q := 38) fo_11_29 pn_27 pc_27 rfl rfl dX11_soon_86 ?_
              refine g_bipush 7 dX11_soon_89 rfl ?_
              refine g_iloadn_1 dX11_soon_91 ?_
              refine g_imul dX11_soon_92 ?_
              refine g_iconst 4 dX11_soon_93 rfl ?_
              refine g_iadd dX11_soon_94 ?_
              refine g_iaload hm ar_38.1 ar_38.2 dX11_soon_95 (fun hm => ?_)
              refine g_weak (vs' := [some (.ref (g.ad 27)), some (.int a1), none, none, none, some (.int x10)]) ⟨rfl, ⟨rfl, ⟨rfl, trivial⟩⟩⟩ ?_
              exact hk14 _ hm
            · refine g_iconst 0 dX11_soon_81 rfl ?_
              refine g_goto 96 dX11_soon_82 (by decide) ?_
              refine g_weak (vs' := [some (.ref (g.ad 27)), some (.int a1), none, none, none, some (.int x10)]) ⟨rfl, ⟨rfl, ⟨rfl, trivial⟩⟩⟩ ?_
              exact hk14 _ hm
        · intro k11 hk11 hm
          refine g_icmp_ne 65 hm dX11_soon_58 (by decide) (fun hm => ?_) (fun hm => ?_)
          · refine g_iloadn_3 dX11_soon_65 ?_
            refine g_iconst 1 dX11_soon_66 rfl ?_
            refine g_iload_4 dX11_soon_67 ?_
            refine g_ishl dX11_soon_69 ?_
            refine g_iconst (-1) dX11_soon_70 rfl ?_
            refine g_ixor dX11_soon_71 ?_
            refine g_iand dX11_soon_72 ?_
            refine g_weak (vs' := [some (.ref (g.ad 27)), some (.int a1), none, none, some (.int x8), none]) ⟨rfl, ⟨rfl, ⟨rfl, trivial⟩⟩⟩ ?_
            exact hk11 _ hm
          · refine g_iloadn_3 dX11_soon_61 ?_
            refine g_goto 73 dX11_soon_62 (by decide) ?_
            refine g_weak (vs' := [some (.ref (g.ad 27)), some (.int a1), none, none, some (.int x8), none]) ⟨rfl, ⟨rfl, ⟨rfl, trivial⟩⟩⟩ ?_
            exact hk11 _ hm
      · refine g_iconst 0 dX11_soon_40 rfl ?_
        exact g_iret hm dX11_soon_41
    · refine g_iconst (-1) dX11_soon_23 rfl ?_
      exact g_iret hm dX11_soon_24
def f_X11_fevered_L21 (x3 : Int32) : (Sg × Int32 × Int32) → Option (((Sg × Int32)) ⊕ (Sg × Int32 × Int32)) := fun s => match s with
  | (m4, x5, x6) => 
  (if (m4.1 27 24) ≤ x6 then some (.inl (m4, x5)) else
  if inr ((6 * x6) + 5) 48 = true then cal (f_X11_asks 38 m4 x3 (m4.1 32 ((6 * x6) + 5).toNatClampNeg)) (fun x12 m11 => cal (f_X11_rightOf 38 m11 x6) (fun x14 m13 => bnd (fun ((m15, x16) : Sg × Int32) => bnd (x5 ||| x16) (fun x18 => bnd (x6 + 1) (fun x19 => some (.inr (m15, x18, x19))))) (fun (k17 : Sg × Int32 → Option (((Sg × Int32)) ⊕ (Sg × Int32 × Int32))) =>
  (if (x12 &&& ((x14 &&& (-129)) ^^^ (-1))) = 0 then k17 (m13, (1 <<< (x6 &&& 31))) else
  k17 (m13, 0))))) else none)
def f_X11_fevered  (m : Sg)  : Option (Int32 × Sg) :=
  bnd (wr m 27 0 0) (fun m1 => cal (f_X11_examiner m1) (fun x3 m2 => (if x3 = (-1) then some ((-1), m2) else
  lpk (f_X11_fevered_L21 x3) (m2, 0, 0) (fun ((m7, x8) : Sg × Int32) => some (x8, m7)))))
set_option maxRecDepth 4000 in
theorem c_X11_fevered {g : Cf} {m mm : Sg} {r : Int32} (hm : f_X11_fevered  m  = some (r, mm)) : Cl g 4 yX11_fevered cX11_fevered 4 (some .int) [.ref (g.ad 27)] m (some (.int r)) mm := by
  refine cl_of (by decide) (Nat.le_of_ble_eq_true rfl) (vs := [some (.ref (g.ad 27)), none, none, none]) rfl rfl ?_
  show GX g 4 RX11 cX11_fevered 4 (some .int) (some (.int r)) mm 0 _ [] m
  unfold f_X11_fevered at hm
  refine g_aloadn_0 dX11_fevered_0 ?_
  refine g_iconst 0 dX11_fevered_1 rfl ?_
  refine g_put hm fo_11_0 fp_11_0 pn_27 pc_27 rfl dX11_fevered_2 (fun m1 hm => ?_)
  refine g_aloadn_0 dX11_fevered_5 ?_
  refine g_v0 hm (fun _ _ h => c_X11_examiner h) pn_27 (pc_27 _ _) rfl ce_X11_examiner lk_X11_438 rfl rfl dX11_fevered_6 (fun x3 m2 hm => ?_)
  refine g_istoren_1 dX11_fevered_9 rfl ?_
  refine g_iloadn_1 dX11_fevered_10 ?_
  refine g_iconst (-1) dX11_fevered_11 rfl ?_
  refine g_icmp_ne 17 hm dX11_fevered_12 (by decide) (fun hm => ?_) (fun hm => ?_)
  · refine g_iconst 0 dX11_fevered_17 rfl ?_
    refine g_istoren_2 dX11_fevered_18 rfl ?_
    refine g_iconst 0 dX11_fevered_19 rfl ?_
    refine g_istoren_3 dX11_fevered_20 rfl ?_
    refine g_lp (I := fun (s : Sg × Int32 × Int32) => GX g 4 RX11 cX11_fevered 4 (some .int) (some (.int r)) mm 21 [some (.ref (g.ad 27)), some (.int x3), some (.int (s.2.1)), some (.int (s.2.2))] [] s.1) (E := fun (s : Sg × Int32) => GX g 4 RX11 cX11_fevered 4 (some .int) (some (.int r)) mm 83 [none, none, some (.int (s.2)), none] [] s.1) hm ?_ ?_
    · rintro ⟨m7, x8⟩ hm
      (try dsimp only at hm)
      (try dsimp only)
      refine g_iloadn_2 dX11_fevered_83 ?_
      exact g_iret hm dX11_fevered_84
    · rintro ⟨m4, x5, x6⟩ o hm hx10 hi9
      (try dsimp only [f_X11_fevered_L21] at hm)
      (try dsimp only)
      refine g_iloadn_3 dX11_fevered_21 ?_
      refine g_aloadn_0 dX11_fevered_22 ?_
      refine g_geti fo_11_24 pn_27 pc_27 rfl dX11_fevered_23 ?_
      refine g_icmp_ge 83 hm dX11_fevered_26 (by decide) (fun hm => ?_) (fun hm => ?_)
      · refine g_weak (vs' := [none, none, some (.int x5), none]) ⟨rfl, trivial⟩ ?_
        cases hm
        exact hx10 _ rfl
      · refine g_iloadn_2 dX11_fevered_29 ?_
        refine g_aloadn_0 dX11_fevered_30 ?_
        refine g_aloadn_0 dX11_fevered_31 ?_
        refine g_getr (q := 38) fo_11_29 pn_27 pc_27 rfl rfl dX11_fevered_32 ?_
        refine g_iloadn_1 dX11_fevered_35 ?_
        refine g_aloadn_0 dX11_fevered_36 ?_
        refine g_getr (q := 32) fo_11_18 pn_27 pc_27 rfl rfl dX11_fevered_37 ?_
        refine g_bipush 6 dX11_fevered_40 rfl ?_
        refine g_iloadn_3 dX11_fevered_42 ?_
        refine g_imul dX11_fevered_43 ?_
        refine g_iconst 5 dX11_fevered_44 rfl ?_
        refine g_iadd dX11_fevered_45 ?_
        refine g_iaload hm ar_32.1 ar_32.2 dX11_fevered_46 (fun hm => ?_)
        refine g_v3 hm (fun _ _ h => c_X11_asks ar_38 h) pn_27 (pc_27 _ _) rfl ce_X11_asks lk_X11_276 rfl rfl dX11_fevered_47 (fun x12 m11 hm => ?_)
        refine g_aloadn_0 dX11_fevered_50 ?_
        refine g_getr (q := 38) fo_11_29 pn_27 pc_27 rfl rfl dX11_fevered_51 ?_
        refine g_iloadn_3 dX11_fevered_54 ?_
        refine g_s2 hm (fun _ _ h => c_X11_rightOf ar_38 h) ce_X11_rightOf lk_X11_272 rfl rfl dX11_fevered_55 (fun x14 m13 hm => ?_)
        refine g_sipush (-129) dX11_fevered_58 rfl ?_
        refine g_iand dX11_fevered_61 ?_
        refine g_iconst (-1) dX11_fevered_62 rfl ?_
        refine g_ixor dX11_fevered_63 ?_
        refine g_iand dX11_fevered_64 ?_
        refine g_jn (J := fun (s : Sg × Int32) => GX g 4 RX11 cX11_fevered 4 (some .int) (some (.int r)) mm 75 [some (.ref (g.ad 27)), some (.int x3), none, some (.int x6)] [.int (s.2), .int x5] s.1) hm ?_ ?_
        · rintro ⟨m15, x16⟩ hm
          (try dsimp only at hm)
          (try dsimp only)
          refine g_ior dX11_fevered_75 ?_
          refine g_istoreBn_2 hm dX11_fevered_76 rfl (fun x18 hm => ?_)
          refine g_iinc_3 1 hm dX11_fevered_77 rfl rfl (fun x19 hm => ?_)
          refine g_goto 21 dX11_fevered_80 (by decide) ?_
          cases hm
          exact hi9 _ rfl
        · intro k17 hk17 hm
          refine g_if_ne 74 hm dX11_fevered_65 (by decide) (fun hm => ?_) (fun hm => ?_)
          · refine g_iconst 0 dX11_fevered_74 rfl ?_
            refine g_weak (vs' := [some (.ref (g.ad 27)), some (.int x3), none, some (.int x6)]) ⟨rfl, ⟨rfl, ⟨rfl, trivial⟩⟩⟩ ?_
            exact hk17 _ hm
          · refine g_iconst 1 dX11_fevered_68 rfl ?_
            refine g_iloadn_3 dX11_fevered_69 ?_
            refine g_ishl dX11_fevered_70 ?_
            refine g_goto 75 dX11_fevered_71 (by decide) ?_
            refine g_weak (vs' := [some (.ref (g.ad 27)), some (.int x3), none, some (.int x6)]) ⟨rfl, ⟨rfl, ⟨rfl, trivial⟩⟩⟩ ?_
            exact hk17 _ hm
  · refine g_iconst (-1) dX11_fevered_15 rfl ?_
    exact g_iret hm dX11_fevered_16
def f_X11_youngest_L30 (x5 : Int32) : (Sg × Int32 × Int32) → Option (((Sg × Int32)) ⊕ (Sg × Int32 × Int32)) := fun s => match s with
  | (m11, x12, x13) => 
  (if (m11.1 27 24) ≤ x13 then some (.inl (m11, x12)) else
  if inr ((7 * x13) + 0) 244 = true then if inr ((7 * x5) + 0) 244 = true then bnd (fun ((m18, x19) : Sg × Int32) => bnd (x12 + x19) (fun x21 => bnd (x13 + 1) (fun x22 => some (.inr (m18, x21, x22))))) (fun (k20 : Sg × Int32 → Option (((Sg × Int32)) ⊕ (Sg × Int32 × Int32))) =>
  bnd (fun (m23 : Sg) => k20 (m23, 1)) (fun (k24 : Sg → Option (((Sg × Int32)) ⊕ (Sg × Int32 × Int32))) =>
  (if (m11.1 38 ((7 * x13) + 0).toNatClampNeg) < (m11.1 38 ((7 * x5) + 0).toNatClampNeg) then k24 m11 else
  if inr ((7 * x13) + 0) 244 = true then if inr ((7 * x5) + 0) 244 = true then bnd (fun (m25 : Sg) => k20 (m25, 0)) (fun (k26 : Sg → Option (((Sg × Int32)) ⊕ (Sg × Int32 × Int32))) =>
  (if (m11.1 38 ((7 * x13) + 0).toNatClampNeg) = (m11.1 38 ((7 * x5) + 0).toNatClampNeg) then (if x5 ≤ x13 then k26 m11 else
  k24 m11) else
  k26 m11)) else none else none))) else none else none)
def f_X11_youngest_L17 (a1 : Int32) : (Sg × Int32) → Option (((Sg × Int32) ⊕ (Sg)) ⊕ (Sg × Int32)) := fun s => match s with
  | (m4, x5) => 
  (if (m4.1 27 24) ≤ x5 then some (.inl (.inr m4)) else
  lpk (f_X11_youngest_L30 x5) (m4, 0, 0) (fun ((m14, x15) : Sg × Int32) => (if x15 = a1 then some (.inl (.inl (m14, x5))) else
  bnd (x5 + 1) (fun x27 => some (.inr (m14, x27))))))
def f_X11_youngest  (m : Sg) (a1 : Int32) : Option (Int32 × Sg) :=
  bnd (wr m 27 0 0) (fun m1 => cal (f_X11_isChild m1 a1) (fun x3 m2 => (if x3 = 0 then some ((-1), m2) else
  lpk (f_X11_youngest_L17 a1) (m2, 0) (fun x => match x with
  | .inl (m6, x7) => some (x7, m6)
  | .inr m8 => some ((-1), m8)))))
set_option maxRecDepth 4000 in
theorem c_X11_youngest {g : Cf} {m mm : Sg} {r : Int32} {a1 : Int32} (hm : f_X11_youngest  m a1 = some (r, mm)) : Cl g 1 yX11_youngest cX11_youngest 5 (some .int) [.ref (g.ad 27), .int a1] m (some (.int r)) mm := by
  refine cl_of (by decide) (Nat.le_of_ble_eq_true rfl) (vs := [some (.ref (g.ad 27)), some (.int a1), none, none, none]) rfl rfl ?_
  show GX g 1 RX11 cX11_youngest 5 (some .int) (some (.int r)) mm 0 _ [] m
  unfold f_X11_youngest at hm
  refine g_aloadn_0 dX11_youngest_0 ?_
  refine g_iconst 0 dX11_youngest_1 rfl ?_
  refine g_put hm fo_11_0 fp_11_0 pn_27 pc_27 rfl dX11_youngest_2 (fun m1 hm => ?_)
  refine g_aloadn_0 dX11_youngest_5 ?_
  refine g_iloadn_1 dX11_youngest_6 ?_
  refine g_v1 hm (fun _ _ h => c_X11_isChild h) pn_27 (pc_27 _ _) rfl ce_X11_isChild lk_X11_296 rfl rfl dX11_youngest_7 (fun x3 m2 hm => ?_)
  refine g_if_ne 15 hm dX11_youngest_10 (by decide) (fun hm => ?_) (fun hm => ?_)
  · refine g_iconst 0 dX11_youngest_15 rfl ?_
    refine g_istoren_2 dX11_youngest_16 rfl ?_
    refine g_lp (I := fun (s : Sg × Int32) => GX g 1 RX11 cX11_youngest 5 (some .int) (some (.int r)) mm 17 [some (.ref (g.ad 27)), some (.int a1), some (.int (s.2)), none, none] [] s.1) (E := fun (x : (Sg × Int32) ⊕ (Sg)) => match x with | .inl (m6, x7) => GX g 1 RX11 cX11_youngest 5 (some .int) (some (.int r)) mm 116 [none, none, some (.int x7), none, none] [] m6 | .inr m8 => GX g 1 RX11 cX11_youngest 5 (some .int) (some (.int r)) mm 124 [none, none, none, none, none] [] m8) hm ?_ ?_
    · rintro (⟨m6, x7⟩ | m8) hm
      · (try dsimp only at hm)
        (try dsimp only)
        refine g_iloadn_2 dX11_youngest_116 ?_
        exact g_iret hm dX11_youngest_117
      · (try dsimp only at hm)
        (try dsimp only)
        refine g_iconst (-1) dX11_youngest_124 rfl ?_
        exact g_iret hm dX11_youngest_125
    · rintro ⟨m4, x5⟩ o hm hx10 hi9
      (try dsimp only [f_X11_youngest_L17] at hm)
      (try dsimp only)
      refine g_iloadn_2 dX11_youngest_17 ?_
      refine g_aloadn_0 dX11_youngest_18 ?_
      refine g_geti fo_11_24 pn_27 pc_27 rfl dX11_youngest_19 ?_
      refine g_icmp_ge 124 hm dX11_youngest_22 (by decide) (fun hm => ?_) (fun hm => ?_)
      · refine g_weak (vs' := [none, none, none, none, none]) trivial ?_
        cases hm
        exact hx10 _ rfl
      · refine g_iconst 0 dX11_youngest_25 rfl ?_
        refine g_istoren_3 dX11_youngest_26 rfl ?_
        refine g_iconst 0 dX11_youngest_27 rfl ?_
        refine g_istore_4 dX11_youngest_28 rfl ?_
        refine g_lp (I := fun (s : Sg × Int32 × Int32) => GX g 1 RX11 cX11_youngest 5 (some .int) (some (.int r)) mm 30 [some (.ref (g.ad 27)), some (.int a1), some (.int x5), some (.int (s.2.1)), some (.int (s.2.2))] [] s.1) (E := fun (s : Sg × Int32) => GX g 1 RX11 cX11_youngest 5 (some .int) (some (.int r)) mm 111 [some (.ref (g.ad 27)), some (.int a1), some (.int x5), some (.int (s.2)), none] [] s.1) hm ?_ ?_
        · rintro ⟨m14, x15⟩ hm
          (try dsimp only at hm)
          (try dsimp only)
          refine g_iloadn_3 dX11_youngest_111 ?_
          refine g_iloadn_1 dX11_youngest_112 ?_
          refine g_icmp_ne 118 hm dX11_youngest_113 (by decide) (fun hm => ?_) (fun hm => ?_)
          · refine g_iinc_2 1 hm dX11_youngest_118 rfl rfl (fun x27 hm => ?_)
            refine g_goto 17 dX11_youngest_121 (by decide) ?_
            refine g_weak (vs' := [some (.ref (g.ad 27)), some (.int a1), some (.int x27), none, none]) ⟨rfl, ⟨rfl, ⟨rfl, trivial⟩⟩⟩ ?_
            cases hm
            exact hi9 _ rfl
          · refine g_weak (vs' := [none, none, some (.int x5), none, none]) ⟨rfl, trivial⟩ ?_
            cases hm
            exact hx10 _ rfl
        · rintro ⟨m11, x12, x13⟩ o hm hx17 hi16
          (try dsimp only [f_X11_youngest_L30] at hm)
          (try dsimp only)
          refine g_iload_4 dX11_youngest_30 ?_
          refine g_aloadn_0 dX11_youngest_32 ?_
          refine g_geti fo_11_24 pn_27 pc_27 rfl dX11_youngest_33 ?_
          refine g_icmp_ge 111 hm dX11_youngest_36 (by decide) (fun hm => ?_) (fun hm => ?_)
          · refine g_weak (vs' := [some (.ref (g.ad 27)), some (.int a1), some (.int x5), some (.int x12), none]) ⟨rfl, ⟨rfl, ⟨rfl, ⟨rfl, trivial⟩⟩⟩⟩ ?_
            cases hm
            exact hx17 _ rfl
          · refine g_iloadn_3 dX11_youngest_39 ?_
            refine g_aloadn_0 dX11_youngest_40 ?_
            refine g_getr (q := 38) fo_11_29 pn_27 pc_27 rfl rfl dX11_youngest_41 ?_
            refine g_bipush 7 dX11_youngest_44 rfl ?_
            refine g_iload_4 dX11_youngest_46 ?_
            refine g_imul dX11_youngest_48 ?_
            refine g_iconst 0 dX11_youngest_49 rfl ?_
            refine g_iadd dX11_youngest_50 ?_
            refine g_iaload hm ar_38.1 ar_38.2 dX11_youngest_51 (fun hm => ?_)
            refine g_aloadn_0 dX11_youngest_52 ?_
            refine g_getr (q := 38) fo_11_29 pn_27 pc_27 rfl rfl dX11_youngest_53 ?_
            refine g_bipush 7 dX11_youngest_56 rfl ?_
            refine g_iloadn_2 dX11_youngest_58 ?_
            refine g_imul dX11_youngest_59 ?_
            refine g_iconst 0 dX11_youngest_60 rfl ?_
            refine g_iadd dX11_youngest_61 ?_
            refine g_iaload hm ar_38.1 ar_38.2 dX11_youngest_62 (fun hm => ?_)
            refine g_jn (J := fun (s : Sg × Int32) => GX g 1 RX11 cX11_youngest 5 (some .int) (some (.int r)) mm 103 [some (.ref (g.ad 27)), some (.int a1), some (.int x5), none, some (.int x13)] [.int (s.2), .int x12] s.1) hm ?_ ?_
            · rintro ⟨m18, x19⟩ hm
              (try dsimp only at hm)
              (try dsimp only)
              refine g_iadd dX11_youngest_103 ?_
              refine g_istoreBn_3 hm dX11_youngest_104 rfl (fun x21 hm => ?_)
              refine g_iinc_4 1 hm dX11_youngest_105 rfl rfl (fun x22 hm => ?_)
              refine g_goto 30 dX11_youngest_108 (by decide) ?_
              cases hm
              exact hi16 _ rfl
            · intro k20 hk20 hm
              refine g_jn (J := fun (s : Sg) => GX g 1 RX11 cX11_youngest 5 (some .int) (some (.int r)) mm 98 [some (.ref (g.ad 27)), some (.int a1), some (.int x5), none, some (.int x13)] [.int x12] s) hm ?_ ?_
              · intro m23 hm
                refine g_iconst 1 dX11_youngest_98 rfl ?_
                refine g_goto 103 dX11_youngest_99 (by decide) ?_
                exact hk20 _ hm
              · intro k24 hk24 hm
                refine g_icmp_lt 98 hm dX11_youngest_63 (by decide) (fun hm => ?_) (fun hm => ?_)
                · refine g_weak (vs' := [some (.ref (g.ad 27)), some (.int a1), some (.int x5), none, some (.int x13)]) ⟨rfl, ⟨rfl, ⟨rfl, ⟨rfl, trivial⟩⟩⟩⟩ ?_
                  exact hk24 _ hm
                · refine g_aloadn_0 dX11_youngest_66 ?_
                  refine g_getr (q := 38) fo_11_29 pn_27 pc_27 rfl rfl dX11_youngest_67 ?_
                  refine g_bipush 7 dX11_youngest_70 rfl ?_
                  refine g_iload_4 dX11_youngest_72 ?_
                  refine g_imul dX11_youngest_74 ?_
                  refine g_iconst 0 dX11_youngest_75 rfl ?_
                  refine g_iadd dX11_youngest_76 ?_
                  refine g_iaload hm ar_38.1 ar_38.2 dX11_youngest_77 (fun hm => ?_)
                  refine g_aloadn_0 dX11_youngest_78 ?_
                  refine g_getr (q := 38) fo_11_29 pn_27 pc_27 rfl rfl dX11_youngest_79 ?_
                  refine g_bipush 7 dX11_youngest_82 rfl ?_
                  refine g_iloadn_2 dX11_youngest_84 ?_
                  refine g_imul dX11_youngest_85 ?_
                  refine g_iconst 0 dX11_youngest_86 rfl ?_
                  refine g_iadd dX11_youngest_87 ?_
                  refine g_iaload hm ar_38.1 ar_38.2 dX11_youngest_88 (fun hm => ?_)
                  refine g_jn (J := fun (s : Sg) => GX g 1 RX11 cX11_youngest 5 (some .int) (some (.int r)) mm 102 [some (.ref (g.ad 27)), some (.int a1), some (.int x5), none, some (.int x13)] [.int x12] s) hm ?_ ?_
                  · intro m25 hm
                    refine g_iconst 0 dX11_youngest_102 rfl ?_
                    exact hk20 _ hm
                  · intro k26 hk26 hm
                    refine g_icmp_ne 102 hm dX11_youngest_89 (by decide) (fun hm => ?_) (fun hm => ?_)
                    · refine g_weak (vs' := [some (.ref (g.ad 27)), some (.int a1), some (.int x5), none, some (.int x13)]) ⟨rfl, ⟨rfl, ⟨rfl, ⟨rfl, trivial⟩⟩⟩⟩ ?_
                      exact hk26 _ hm
                    · refine g_iload_4 dX11_youngest_92 ?_
                      refine g_iloadn_2 dX11_youngest_94 ?_
                      refine g_icmp_ge 102 hm dX11_youngest_95 (by decide) (fun hm => ?_) (fun hm => ?_)
                      · refine g_weak (vs' := [some (.ref (g.ad 27)), some (.int a1), some (.int x5), none, some (.int x13)]) ⟨rfl, ⟨rfl, ⟨rfl, ⟨rfl, trivial⟩⟩⟩⟩ ?_
                        exact hk26 _ hm
                      · refine g_weak (vs' := [some (.ref (g.ad 27)), some (.int a1), some (.int x5), none, some (.int x13)]) ⟨rfl, ⟨rfl, ⟨rfl, ⟨rfl, trivial⟩⟩⟩⟩ ?_
                        exact hk24 _ hm
  · refine g_iconst (-1) dX11_youngest_13 rfl ?_
    exact g_iret hm dX11_youngest_14
def f_X11_rivals_L30 (a1 : Int32) (x3 : Int32) : (Sg × Int32 × Int32) → Option (((Sg × Int32)) ⊕ (Sg × Int32 × Int32)) := fun s => match s with
  | (m6, x7, x8) => 
  (if (m6.1 27 24) ≤ x8 then some (.inl (m6, x7)) else
  if inr ((7 * x8) + 0) 244 = true then if inr ((7 * a1) + 0) 244 = true then bnd (fun ((m13, x14) : Sg × Int32) => bnd (x7 ||| x14) (fun x16 => bnd (x8 + 1) (fun x17 => some (.inr (m13, x16, x17))))) (fun (k15 : Sg × Int32 → Option (((Sg × Int32)) ⊕ (Sg × Int32 × Int32))) =>
  bnd (fun (m18 : Sg) => k15 (m18, 0)) (fun (k19 : Sg → Option (((Sg × Int32)) ⊕ (Sg × Int32 × Int32))) =>
  (if (m6.1 38 ((7 * a1) + 0).toNatClampNeg) ≤ (m6.1 38 ((7 * x8) + 0).toNatClampNeg) then k19 m6 else
  if inr ((7 * x8) + 0) 244 = true then (if (m6.1 36 0) ≤ (m6.1 38 ((7 * x8) + 0).toNatClampNeg) then k19 m6 else
  cal (f_X11_slipsOf 38 m6 x8 x3) (fun x21 m20 => (if x21 = 0 then k15 (m20, (1 <<< (x8 &&& 31))) else
  k19 m20))) else none))) else none else none)
def f_X11_rivals  (m : Sg) (a1 : Int32) : Option (Int32 × Sg) :=
  bnd (wr m 27 0 0) (fun m1 => cal (f_X11_examiner m1) (fun x3 m2 => (if x3 = (-1) then some ((-1), m2) else
  cal (f_X11_isChild m2 a1) (fun x5 m4 => (if x5 = 0 then some ((-1), m4) else
  lpk (f_X11_rivals_L30 a1 x3) (m4, 0, 0) (fun ((m9, x10) : Sg × Int32) => some (x10, m9)))))))
set_option maxRecDepth 4000 in
theorem c_X11_rivals {g : Cf} {m mm : Sg} {r : Int32} {a1 : Int32} (hm : f_X11_rivals  m a1 = some (r, mm)) : Cl g 4 yX11_rivals cX11_rivals 5 (some .int) [.ref (g.ad 27), .int a1] m (some (.int r)) mm := by
  refine cl_of (by decide) (Nat.le_of_ble_eq_true rfl) (vs := [some (.ref (g.ad 27)), some (.int a1), none, none, none]) rfl rfl ?_
  show GX g 4 RX11 cX11_rivals 5 (some .int) (some (.int r)) mm 0 _ [] m
  unfold f_X11_rivals at hm
  refine g_aloadn_0 dX11_rivals_0 ?_
  refine g_iconst 0 dX11_rivals_1 rfl ?_
  refine g_put hm fo_11_0 fp_11_0 pn_27 pc_27 rfl dX11_rivals_2 (fun m1 hm => ?_)
  refine g_aloadn_0 dX11_rivals_5 ?_
  refine g_v0 hm (fun _ _ h => c_X11_examiner h) pn_27 (pc_27 _ _) rfl ce_X11_examiner lk_X11_438 rfl rfl dX11_rivals_6 (fun x3 m2 hm => ?_)
  refine g_istoren_2 dX11_rivals_9 rfl ?_
  refine g_iloadn_2 dX11_rivals_10 ?_
  refine g_iconst (-1) dX11_rivals_11 rfl ?_
  refine g_icmp_eq 23 hm dX11_rivals_12 (by decide) (fun hm => ?_) (fun hm => ?_)
  · refine g_iconst (-1) dX11_rivals_23 rfl ?_
    exact g_iret hm dX11_rivals_24
  · refine g_aloadn_0 dX11_rivals_15 ?_
    refine g_iloadn_1 dX11_rivals_16 ?_
    refine g_v1 hm (fun _ _ h => c_X11_isChild h) pn_27 (pc_27 _ _) rfl ce_X11_isChild lk_X11_296 rfl rfl dX11_rivals_17 (fun x5 m4 hm => ?_)
    refine g_if_ne 25 hm dX11_rivals_20 (by decide) (fun hm => ?_) (fun hm => ?_)
    · refine g_iconst 0 dX11_rivals_25 rfl ?_
      refine g_istoren_3 dX11_rivals_26 rfl ?_
      refine g_iconst 0 dX11_rivals_27 rfl ?_
      refine g_istore_4 dX11_rivals_28 rfl ?_
      refine g_lp (I := fun (s : Sg × Int32 × Int32) => GX g 4 RX11 cX11_rivals 5 (some .int) (some (.int r)) mm 30 [some (.ref (g.ad 27)), some (.int a1), some (.int x3), some (.int (s.2.1)), some (.int (s.2.2))] [] s.1) (E := fun (s : Sg × Int32) => GX g 4 RX11 cX11_rivals 5 (some .int) (some (.int r)) mm 117 [none, none, none, some (.int (s.2)), none] [] s.1) hm ?_ ?_
      · rintro ⟨m9, x10⟩ hm
        (try dsimp only at hm)
        (try dsimp only)
        refine g_iloadn_3 dX11_rivals_117 ?_
        exact g_iret hm dX11_rivals_118
      · rintro ⟨m6, x7, x8⟩ o hm hx12 hi11
        (try dsimp only [f_X11_rivals_L30] at hm)
        (try dsimp only)
        refine g_iload_4 dX11_rivals_30 ?_
        refine g_aloadn_0 dX11_rivals_32 ?_
        refine g_geti fo_11_24 pn_27 pc_27 rfl dX11_rivals_33 ?_
        refine g_icmp_ge 117 hm dX11_rivals_36 (by decide) (fun hm => ?_) (fun hm => ?_)
        · refine g_weak (vs' := [none, none, none, some (.int x7), none]) ⟨rfl, trivial⟩ ?_
          cases hm
          exact hx12 _ rfl
        · refine g_iloadn_3 dX11_rivals_39 ?_
          refine g_aloadn_0 dX11_rivals_40 ?_
          refine g_getr (q := 38) fo_11_29 pn_27 pc_27 rfl rfl dX11_rivals_41 ?_
          refine g_bipush 7 dX11_rivals_44 rfl ?_
          refine g_iload_4 dX11_rivals_46 ?_
          refine g_imul dX11_rivals_48 ?_
          refine g_iconst 0 dX11_rivals_49 rfl ?_
          refine g_iadd dX11_rivals_50 ?_
          refine g_iaload hm ar_38.1 ar_38.2 dX11_rivals_51 (fun hm => ?_)
          refine g_aloadn_0 dX11_rivals_52 ?_
          refine g_getr (q := 38) fo_11_29 pn_27 pc_27 rfl rfl dX11_rivals_53 ?_
          refine g_bipush 7 dX11_rivals_56 rfl ?_
          refine g_iloadn_1 dX11_rivals_58 ?_
          refine g_imul dX11_rivals_59 ?_
          refine g_iconst 0 dX11_rivals_60 rfl ?_
          refine g_iadd dX11_rivals_61 ?_
          refine g_iaload hm ar_38.1 ar_38.2 dX11_rivals_62 (fun hm => ?_)
          refine g_jn (J := fun (s : Sg × Int32) => GX g 4 RX11 cX11_rivals 5 (some .int) (some (.int r)) mm 109 [some (.ref (g.ad 27)), some (.int a1), some (.int x3), none, some (.int x8)] [.int (s.2), .int x7] s.1) hm ?_ ?_
          · rintro ⟨m13, x14⟩ hm
            (try dsimp only at hm)
            (try dsimp only)
            refine g_ior dX11_rivals_109 ?_
            refine g_istoreBn_3 hm dX11_rivals_110 rfl (fun x16 hm => ?_)
            refine g_iinc_4 1 hm dX11_rivals_111 rfl rfl (fun x17 hm => ?_)
            refine g_goto 30 dX11_rivals_114 (by decide) ?_
            cases hm
            exact hi11 _ rfl
          · intro k15 hk15 hm
            refine g_jn (J := fun (s : Sg) => GX g 4 RX11 cX11_rivals 5 (some .int) (some (.int r)) mm 108 [some (.ref (g.ad 27)), some (.int a1), some (.int x3), none, some (.int x8)] [.int x7] s) hm ?_ ?_
            · intro m18 hm
              refine g_iconst 0 dX11_rivals_108 rfl ?_
              exact hk15 _ hm
            · intro k19 hk19 hm
              refine g_icmp_ge 108 hm dX11_rivals_63 (by decide) (fun hm => ?_) (fun hm => ?_)
              · refine g_weak (vs' := [some (.ref (g.ad 27)), some (.int a1), some (.int x3), none, some (.int x8)]) ⟨rfl, ⟨rfl, ⟨rfl, ⟨rfl, trivial⟩⟩⟩⟩ ?_
                exact hk19 _ hm
              · refine g_aloadn_0 dX11_rivals_66 ?_
                refine g_getr (q := 38) fo_11_29 pn_27 pc_27 rfl rfl dX11_rivals_67 ?_
                refine g_bipush 7 dX11_rivals_70 rfl ?_
                refine g_iload_4 dX11_rivals_72 ?_
                refine g_imul dX11_rivals_74 ?_
                refine g_iconst 0 dX11_rivals_75 rfl ?_
                refine g_iadd dX11_rivals_76 ?_
                refine g_iaload hm ar_38.1 ar_38.2 dX11_rivals_77 (fun hm => ?_)
                refine g_aloadn_0 dX11_rivals_78 ?_
                refine g_getr (q := 36) fo_11_22 pn_27 pc_27 rfl rfl dX11_rivals_79 ?_
                refine g_iconst 0 dX11_rivals_82 rfl ?_
                refine g_ialoadc 0 rfl rfl ar_36.1 ar_36.2 dX11_rivals_83 ?_
                refine g_icmp_ge 108 hm dX11_rivals_84 (by decide) (fun hm => ?_) (fun hm => ?_)
                · refine g_weak (vs' := [some (.ref (g.ad 27)), some (.int a1), some (.int x3), none, some (.int x8)]) ⟨rfl, ⟨rfl, ⟨rfl, ⟨rfl, trivial⟩⟩⟩⟩ ?_
                  exact hk19 _ hm
                · refine g_aloadn_0 dX11_rivals_87 ?_
                  refine g_aloadn_0 dX11_rivals_88 ?_
                  refine g_getr (q := 38) fo_11_29 pn_27 pc_27 rfl rfl dX11_rivals_89 ?_
                  refine g_iload_4 dX11_rivals_92 ?_
                  refine g_iloadn_2 dX11_rivals_94 ?_
                  refine g_v3 hm (fun _ _ h => c_X11_slipsOf ar_38 h) pn_27 (pc_27 _ _) rfl ce_X11_slipsOf lk_X11_314 rfl rfl dX11_rivals_95 (fun x21 m20 hm => ?_)
                  refine g_if_ne 108 hm dX11_rivals_98 (by decide) (fun hm => ?_) (fun hm => ?_)
                  · refine g_weak (vs' := [some (.ref (g.ad 27)), some (.int a1), some (.int x3), none, some (.int x8)]) ⟨rfl, ⟨rfl, ⟨rfl, ⟨rfl, trivial⟩⟩⟩⟩ ?_
                    exact hk19 _ hm
                  · refine g_iconst 1 dX11_rivals_101 rfl ?_
                    refine g_iload_4 dX11_rivals_102 ?_
                    refine g_ishl dX11_rivals_104 ?_
                    refine g_goto 109 dX11_rivals_105 (by decide) ?_
                    refine g_weak (vs' := [some (.ref (g.ad 27)), some (.int a1), some (.int x3), none, some (.int x8)]) ⟨rfl, ⟨rfl, ⟨rfl, ⟨rfl, trivial⟩⟩⟩⟩ ?_
                    exact hk15 _ hm
    · refine g_iconst (-1) dX11_rivals_23 rfl ?_
      exact g_iret hm dX11_rivals_24
def f_X11_forgotten_L18  : (Sg × Int32 × Int32) → Option (((Sg × Int32)) ⊕ (Sg × Int32 × Int32)) := fun s => match s with
  | (m2, x3, x4) => 
  (if (m2.1 27 25) ≤ x4 then some (.inl (m2, x3)) else
  if inr (56 + x4) 244 = true then bnd (x3 ||| (m2.1 38 (56 + x4).toNatClampNeg)) (fun x9 => bnd (x4 + 1) (fun x10 => some (.inr (m2, x9, x10)))) else none)
def f_X11_forgotten  (m : Sg)  : Option (Int32 × Sg) :=
  bnd (wr m 27 0 0) (fun m1 => (if (m1.1 27 24) = 0 then some ((-1), m1) else
  lpk (f_X11_forgotten_L18) (m1, 0, 0) (fun ((m5, x6) : Sg × Int32) => some (((1 <<< ((m5.1 36 1) &&& 31)) - 1) &&& (x6 ^^^ (-1)), m5))))
set_option maxRecDepth 4000 in
theorem c_X11_forgotten {g : Cf} {m mm : Sg} {r : Int32} (hm : f_X11_forgotten  m  = some (r, mm)) : Cl g 0 yX11_forgotten cX11_forgotten 3 (some .int) [.ref (g.ad 27)] m (some (.int r)) mm := by
  refine cl_of (by decide) (Nat.le_of_ble_eq_true rfl) (vs := [some (.ref (g.ad 27)), none, none]) rfl rfl ?_
  show GX g 0 RX11 cX11_forgotten 3 (some .int) (some (.int r)) mm 0 _ [] m
  unfold f_X11_forgotten at hm
  refine g_aloadn_0 dX11_forgotten_0 ?_
  refine g_iconst 0 dX11_forgotten_1 rfl ?_
  refine g_put hm fo_11_0 fp_11_0 pn_27 pc_27 rfl dX11_forgotten_2 (fun m1 hm => ?_)
  refine g_aloadn_0 dX11_forgotten_5 ?_
  refine g_geti fo_11_24 pn_27 pc_27 rfl dX11_forgotten_6 ?_
  refine g_if_ne 14 hm dX11_forgotten_9 (by decide) (fun hm => ?_) (fun hm => ?_)
  · refine g_iconst 0 dX11_forgotten_14 rfl ?_
    refine g_istoren_1 dX11_forgotten_15 rfl ?_
    refine g_iconst 0 dX11_forgotten_16 rfl ?_
    refine g_istoren_2 dX11_forgotten_17 rfl ?_
    refine g_lp (I := fun (s : Sg × Int32 × Int32) => GX g 0 RX11 cX11_forgotten 3 (some .int) (some (.int r)) mm 18 [some (.ref (g.ad 27)), some (.int (s.2.1)), some (.int (s.2.2))] [] s.1) (E := fun (s : Sg × Int32) => GX g 0 RX11 cX11_forgotten 3 (some .int) (some (.int r)) mm 44 [some (.ref (g.ad 27)), some (.int (s.2)), none] [] s.1) hm ?_ ?_
    · rintro ⟨m5, x6⟩ hm
      (try dsimp only at hm)
      (try dsimp only)
      refine g_iconst 1 dX11_forgotten_44 rfl ?_
      refine g_aloadn_0 dX11_forgotten_45 ?_
      refine g_getr (q := 36) fo_11_22 pn_27 pc_27 rfl rfl dX11_forgotten_46 ?_
      refine g_iconst 1 dX11_forgotten_49 rfl ?_
      refine g_ialoadc 1 rfl rfl ar_36.1 ar_36.2 dX11_forgotten_50 ?_
      refine g_ishl dX11_forgotten_51 ?_
      refine g_iconst 1 dX11_forgotten_52 rfl ?_
      refine g_isub dX11_forgotten_53 ?_
      refine g_iloadn_1 dX11_forgotten_54 ?_
      refine g_iconst (-1) dX11_forgotten_55 rfl ?_
      refine g_ixor dX11_forgotten_56 ?_
      refine g_iand dX11_forgotten_57 ?_
      exact g_iret hm dX11_forgotten_58
    · rintro ⟨m2, x3, x4⟩ o hm hx8 hi7
      (try dsimp only [f_X11_forgotten_L18] at hm)
      (try dsimp only)
      refine g_iloadn_2 dX11_forgotten_18 ?_
      refine g_aloadn_0 dX11_forgotten_19 ?_
      refine g_geti fo_11_25 pn_27 pc_27 rfl dX11_forgotten_20 ?_
      refine g_icmp_ge 44 hm dX11_forgotten_23 (by decide) (fun hm => ?_) (fun hm => ?_)
      · refine g_weak (vs' := [some (.ref (g.ad 27)), some (.int x3), none]) ⟨rfl, ⟨rfl, trivial⟩⟩ ?_
        cases hm
        exact hx8 _ rfl
      · refine g_iloadn_1 dX11_forgotten_26 ?_
        refine g_aloadn_0 dX11_forgotten_27 ?_
        refine g_getr (q := 38) fo_11_29 pn_27 pc_27 rfl rfl dX11_forgotten_28 ?_
        refine g_bipush 56 dX11_forgotten_31 rfl ?_
        refine g_iloadn_2 dX11_forgotten_33 ?_
        refine g_iadd dX11_forgotten_34 ?_
        refine g_iaload hm ar_38.1 ar_38.2 dX11_forgotten_35 (fun hm => ?_)
        refine g_ior dX11_forgotten_36 ?_
        refine g_istoreBn_1 hm dX11_forgotten_37 rfl (fun x9 hm => ?_)
        refine g_iinc_2 1 hm dX11_forgotten_38 rfl rfl (fun x10 hm => ?_)
        refine g_goto 18 dX11_forgotten_41 (by decide) ?_
        cases hm
        exact hi7 _ rfl
  · refine g_iconst (-1) dX11_forgotten_12 rfl ?_
    exact g_iret hm dX11_forgotten_13
def f_X11_image  (m : Sg)  : Option (Int32 × Sg) :=
  bnd (wr m 27 0 0) (fun m1 => (if (m1.1 27 24) = 0 then some ((-1), m1) else
  calv (f_X11_copy 38 43 m1) (fun m2 => bnd (wr m2 27 45 1) (fun m3 => some (m3.1 38 60, m3)))))
set_option maxRecDepth 4000 in
theorem c_X11_image {g : Cf} {m mm : Sg} {r : Int32} (hm : f_X11_image  m  = some (r, mm)) : Cl g 1 yX11_image cX11_image 1 (some .int) [.ref (g.ad 27)] m (some (.int r)) mm := by
  refine cl_of (by decide) (Nat.le_of_ble_eq_true rfl) (vs := [some (.ref (g.ad 27))]) rfl rfl ?_
  show GX g 1 RX11 cX11_image 1 (some .int) (some (.int r)) mm 0 _ [] m
  unfold f_X11_image at hm
  refine g_aloadn_0 dX11_image_0 ?_
  refine g_iconst 0 dX11_image_1 rfl ?_
  refine g_put hm fo_11_0 fp_11_0 pn_27 pc_27 rfl dX11_image_2 (fun m1 hm => ?_)
  refine g_aloadn_0 dX11_image_5 ?_
  refine g_geti fo_11_24 pn_27 pc_27 rfl dX11_image_6 ?_
  refine g_if_ne 14 hm dX11_image_9 (by decide) (fun hm => ?_) (fun hm => ?_)
  · refine g_aloadn_0 dX11_image_14 ?_
    refine g_getr (q := 38) fo_11_29 pn_27 pc_27 rfl rfl dX11_image_15 ?_
    refine g_aloadn_0 dX11_image_18 ?_
    refine g_getr (q := 43) fo_11_44 pn_27 pc_27 rfl rfl dX11_image_19 ?_
    refine g_s2V hm (fun _ h => c_X11_copy ar_38 ar_43 h) ce_X11_copy lk_X11_379 rfl rfl dX11_image_22 (fun m2 hm => ?_)
    refine g_aloadn_0 dX11_image_25 ?_
    refine g_iconst 1 dX11_image_26 rfl ?_
    refine g_putz hm fo_11_45 fp_11_45 pn_27 pc_27 rfl rfl dX11_image_27 (fun m3 hm => ?_)
    refine g_aloadn_0 dX11_image_30 ?_
    refine g_getr (q := 38) fo_11_29 pn_27 pc_27 rfl rfl dX11_image_31 ?_
    refine g_bipush 60 dX11_image_34 rfl ?_
    refine g_ialoadc 60 rfl rfl ar_38.1 ar_38.2 dX11_image_36 ?_
    exact g_iret hm dX11_image_37
  · refine g_iconst (-1) dX11_image_12 rfl ?_
    exact g_iret hm dX11_image_13
def f_X11_back  (m : Sg)  : Option (Int32 × Sg) :=
  bnd (wr m 27 0 0) (fun m1 => (if (m1.1 27 45) = 0 then some ((-1), m1) else
  calv (f_X11_copy 43 38 m1) (fun m2 => bnd (wr m2 27 39 0) (fun m3 => some (m3.1 38 60, m3)))))
set_option maxRecDepth 4000 in
theorem c_X11_back {g : Cf} {m mm : Sg} {r : Int32} (hm : f_X11_back  m  = some (r, mm)) : Cl g 1 yX11_back cX11_back 1 (some .int) [.ref (g.ad 27)] m (some (.int r)) mm := by
  refine cl_of (by decide) (Nat.le_of_ble_eq_true rfl) (vs := [some (.ref (g.ad 27))]) rfl rfl ?_
  show GX g 1 RX11 cX11_back 1 (some .int) (some (.int r)) mm 0 _ [] m
  unfold f_X11_back at hm
  refine g_aloadn_0 dX11_back_0 ?_
  refine g_iconst 0 dX11_back_1 rfl ?_
  refine g_put hm fo_11_0 fp_11_0 pn_27 pc_27 rfl dX11_back_2 (fun m1 hm => ?_)
  refine g_aloadn_0 dX11_back_5 ?_
  refine g_geti fo_11_45 pn_27 pc_27 rfl dX11_back_6 ?_
  refine g_if_ne 14 hm dX11_back_9 (by decide) (fun hm => ?_) (fun hm => ?_)
  · refine g_aloadn_0 dX11_back_14 ?_
    refine g_getr (q := 43) fo_11_44 pn_27 pc_27 rfl rfl dX11_back_15 ?_
    refine g_aloadn_0 dX11_back_18 ?_
    refine g_getr (q := 38) fo_11_29 pn_27 pc_27 rfl rfl dX11_back_19 ?_
    refine g_s2V hm (fun _ h => c_X11_copy ar_43 ar_38 h) ce_X11_copy lk_X11_379 rfl rfl dX11_back_22 (fun m2 hm => ?_)
    refine g_aloadn_0 dX11_back_25 ?_
    refine g_iconst 0 dX11_back_26 rfl ?_
    refine g_put hm fo_11_39 fp_11_39 pn_27 pc_27 rfl dX11_back_27 (fun m3 hm => ?_)
    refine g_aloadn_0 dX11_back_30 ?_
    refine g_getr (q := 38) fo_11_29 pn_27 pc_27 rfl rfl dX11_back_31 ?_
    refine g_bipush 60 dX11_back_34 rfl ?_
    refine g_ialoadc 60 rfl rfl ar_38.1 ar_38.2 dX11_back_36 ?_
    exact g_iret hm dX11_back_37
  · refine g_iconst (-1) dX11_back_12 rfl ?_
    exact g_iret hm dX11_back_13
def f_X11_count  (m : Sg) (a1 : Int32) : Option (Int32 × Sg) :=
  bnd (wr m 27 0 0) (fun m1 => (if a1 = 0 then some (m1.1 27 24, m1) else
  (if a1 = 1 then some (m1.1 27 25, m1) else
  (if a1 = 2 then some (m1.1 27 7, m1) else
  (if a1 = 3 then some (m1.1 27 6, m1) else
  (if a1 = 4 then some (m1.1 27 31, m1) else
  (if a1 = 5 then some (m1.1 38 60, m1) else
  (if a1 = 6 then (if (m1.1 27 24) = 0 then some ((-1), m1) else
  some (m1.1 38 61, m1)) else
  (if a1 = 7 then some (m1.1 38 62, m1) else
  (if a1 = 8 then some (m1.1 27 32, m1) else
  (if a1 = 9 then bnd (fun (m2 : Sg) => some (0, m2)) (fun (k3 : Sg → Option (Int32 × Sg)) =>
  (if (m1.1 27 24) = 0 then k3 m1 else
  (if (m1.1 38 61) = (-1) then k3 m1 else
  cal (f_X11_countOf 38 m1 (m1.1 38 61)) (fun x5 m4 => some (x5, m4))))) else
  (if a1 = 10 then some (m1.1 38 63, m1) else
  (if a1 = 11 then some (m1.1 27 39, m1) else
  some ((-1000000), m1))))))))))))))
set_option maxRecDepth 4000 in
theorem c_X11_count {g : Cf} {m mm : Sg} {r : Int32} {a1 : Int32} (hm : f_X11_count  m a1 = some (r, mm)) : Cl g 2 yX11_count cX11_count 2 (some .int) [.ref (g.ad 27), .int a1] m (some (.int r)) mm := by
  refine cl_of (by decide) (Nat.le_of_ble_eq_true rfl) (vs := [some (.ref (g.ad 27)), some (.int a1)]) rfl rfl ?_
  show GX g 2 RX11 cX11_count 2 (some .int) (some (.int r)) mm 0 _ [] m
  unfold f_X11_count at hm
  refine g_aloadn_0 dX11_count_0 ?_
  refine g_iconst 0 dX11_count_1 rfl ?_
  refine g_put hm fo_11_0 fp_11_0 pn_27 pc_27 rfl dX11_count_2 (fun m1 hm => ?_)
  refine g_iloadn_1 dX11_count_5 ?_
  refine g_tc 68 hm dX11_count_6 (by decide) (by decide) rfl (by decide) (fun hm => ?_) (fun q0 hm => ?_)
  · refine g_aloadn_0 dX11_count_68 ?_
    refine g_geti fo_11_24 pn_27 pc_27 rfl dX11_count_69 ?_
    exact g_iret hm dX11_count_72
  · refine g_tc 73 hm dX11_count_6 (by decide) (by decide) rfl (by decide) (fun hm => ?_) (fun q1 hm => ?_)
    · refine g_aloadn_0 dX11_count_73 ?_
      refine g_geti fo_11_25 pn_27 pc_27 rfl dX11_count_74 ?_
      exact g_iret hm dX11_count_77
    · refine g_tc 78 hm dX11_count_6 (by decide) (by decide) rfl (by decide) (fun hm => ?_) (fun q2 hm => ?_)
      · refine g_aloadn_0 dX11_count_78 ?_
        refine g_geti fo_11_7 pn_27 pc_27 rfl dX11_count_79 ?_
        exact g_iret hm dX11_count_82
      · refine g_tc 83 hm dX11_count_6 (by decide) (by decide) rfl (by decide) (fun hm => ?_) (fun q3 hm => ?_)
        · refine g_aloadn_0 dX11_count_83 ?_
          refine g_geti fo_11_6 pn_27 pc_27 rfl dX11_count_84 ?_
          exact g_iret hm dX11_count_87
        · refine g_tc 88 hm dX11_count_6 (by decide) (by decide) rfl (by decide) (fun hm => ?_) (fun q4 hm => ?_)
          · refine g_aloadn_0 dX11_count_88 ?_
            refine g_geti fo_11_31 pn_27 pc_27 rfl dX11_count_89 ?_
            exact g_iret hm dX11_count_92
          · refine g_tc 93 hm dX11_count_6 (by decide) (by decide) rfl (by decide) (fun hm => ?_) (fun q5 hm => ?_)
            · refine g_aloadn_0 dX11_count_93 ?_
              refine g_getr (q := 38) fo_11_29 pn_27 pc_27 rfl rfl dX11_count_94 ?_
              refine g_bipush 60 dX11_count_97 rfl ?_
              refine g_ialoadc 60 rfl rfl ar_38.1 ar_38.2 dX11_count_99 ?_
              exact g_iret hm dX11_count_100
            · refine g_tc 101 hm dX11_count_6 (by decide) (by decide) rfl (by decide) (fun hm => ?_) (fun q6 hm => ?_)
              · refine g_aloadn_0 dX11_count_101 ?_
                refine g_geti fo_11_24 pn_27 pc_27 rfl dX11_count_102 ?_
                refine g_if_ne 112 hm dX11_count_105 (by decide) (fun hm => ?_) (fun hm => ?_)
                · refine g_aloadn_0 dX11_count_112 ?_
                  refine g_getr (q := 38) fo_11_29 pn_27 pc_27 rfl rfl dX11_count_113 ?_
                  refine g_bipush 61 dX11_count_116 rfl ?_
                  refine g_ialoadc 61 rfl rfl ar_38.1 ar_38.2 dX11_count_118 ?_
                  exact g_iret hm dX11_count_119
                · refine g_iconst (-1) dX11_count_108 rfl ?_
                  refine g_goto 119 dX11_count_109 (by decide) ?_
                  exact g_iret hm dX11_count_119
              · refine g_tc 120 hm dX11_count_6 (by decide) (by decide) rfl (by decide) (fun hm => ?_) (fun q7 hm => ?_)
                · refine g_aloadn_0 dX11_count_120 ?_
                  refine g_getr (q := 38) fo_11_29 pn_27 pc_27 rfl rfl dX11_count_121 ?_
                  refine g_bipush 62 dX11_count_124 rfl ?_
                  refine g_ialoadc 62 rfl rfl ar_38.1 ar_38.2 dX11_count_126 ?_
                  exact g_iret hm dX11_count_127
                · refine g_tc 128 hm dX11_count_6 (by decide) (by decide) rfl (by decide) (fun hm => ?_) (fun q8 hm => ?_)
                  · refine g_aloadn_0 dX11_count_128 ?_
                    refine g_geti fo_11_32 pn_27 pc_27 rfl dX11_count_129 ?_
                    exact g_iret hm dX11_count_132
                  · refine g_tc 133 hm dX11_count_6 (by decide) (by decide) rfl (by decide) (fun hm => ?_) (fun q9 hm => ?_)
                    · refine g_aloadn_0 dX11_count_133 ?_
                      refine g_geti fo_11_24 pn_27 pc_27 rfl dX11_count_134 ?_
                      refine g_jn (J := fun (s : Sg) => GX g 2 RX11 cX11_count 2 (some .int) (some (.int r)) mm 151 [none, none] [] s) hm ?_ ?_
                      · intro m2 hm
                        refine g_iconst 0 dX11_count_151 rfl ?_
                        refine g_goto 169 dX11_count_152 (by decide) ?_
                        exact g_iret hm dX11_count_169
                      · intro k3 hk3 hm
                        refine g_if_eq 151 hm dX11_count_137 (by decide) (fun hm => ?_) (fun hm => ?_)
                        · refine g_weak (vs' := [none, none]) trivial ?_
                          exact hk3 _ hm
                        · refine g_aloadn_0 dX11_count_140 ?_
                          refine g_getr (q := 38) fo_11_29 pn_27 pc_27 rfl rfl dX11_count_141 ?_
                          refine g_bipush 61 dX11_count_144 rfl ?_
                          refine g_ialoadc 61 rfl rfl ar_38.1 ar_38.2 dX11_count_146 ?_
                          refine g_iconst (-1) dX11_count_147 rfl ?_
                          refine g_icmp_ne 155 hm dX11_count_148 (by decide) (fun hm => ?_) (fun hm => ?_)
                          · refine g_aloadn_0 dX11_count_155 ?_
                            refine g_getr (q := 38) fo_11_29 pn_27 pc_27 rfl rfl dX11_count_156 ?_
                            refine g_aloadn_0 dX11_count_159 ?_
                            refine g_getr (q := 38) fo_11_29 pn_27 pc_27 rfl rfl dX11_count_160 ?_
                            refine g_bipush 61 dX11_count_163 rfl ?_
                            refine g_ialoadc 61 rfl rfl ar_38.1 ar_38.2 dX11_count_165 ?_
                            refine g_s2 hm (fun _ _ h => c_X11_countOf ar_38 h) ce_X11_countOf lk_X11_284 rfl rfl dX11_count_166 (fun x5 m4 hm => ?_)
                            exact g_iret hm dX11_count_169
                          · refine g_weak (vs' := [none, none]) trivial ?_
                            exact hk3 _ hm
                    · refine g_tc 170 hm dX11_count_6 (by decide) (by decide) rfl (by decide) (fun hm => ?_) (fun q10 hm => ?_)
                      · refine g_aloadn_0 dX11_count_170 ?_
                        refine g_getr (q := 38) fo_11_29 pn_27 pc_27 rfl rfl dX11_count_171 ?_
                        refine g_bipush 63 dX11_count_174 rfl ?_
                        refine g_ialoadc 63 rfl rfl ar_38.1 ar_38.2 dX11_count_176 ?_
                        exact g_iret hm dX11_count_177
                      · refine g_tc 178 hm dX11_count_6 (by decide) (by decide) rfl (by decide) (fun hm => ?_) (fun q11 hm => ?_)
                        · refine g_aloadn_0 dX11_count_178 ?_
                          refine g_geti fo_11_39 pn_27 pc_27 rfl dX11_count_179 ?_
                          exact g_iret hm dX11_count_182
                        · refine g_td 183 dX11_count_6 (by have := i32_ne q0 ; have := i32_ne q1 ; have := i32_ne q2 ; have := i32_ne q3 ; have := i32_ne q4 ; have := i32_ne q5 ; have := i32_ne q6 ; have := i32_ne q7 ; have := i32_ne q8 ; have := i32_ne q9 ; have := i32_ne q10 ; have := i32_ne q11; simp at *; omega) (by decide) ?_
                          refine g_ldc_w dX11_count_183 ck_X11_378 ?_
                          exact g_iret hm dX11_count_186
def f_X11_learns (w : Nat) (m : Sg) (a1 : Int32) : Option (Sg) :=
  bnd (7 * a1) (fun x1 => if inr (x1 + 3) 244 = true then (if (m.1 w (x1 + 3).toNatClampNeg) = (-1) then some m else
  if inr (x1 + 4) 244 = true then if inr (x1 + 4) 244 = true then bnd (wr m w (x1 + 4).toNatClampNeg ((m.1 w (x1 + 4).toNatClampNeg) - 1)) (fun m2 => if inr (x1 + 4) 244 = true then (if (m2.1 w (x1 + 4).toNatClampNeg) ≤ 0 then if inr (x1 + 1) 244 = true then if inr (x1 + 3) 244 = true then if inr (x1 + 1) 244 = true then bnd (wr m2 w (x1 + 1).toNatClampNeg ((m2.1 w (x1 + 1).toNatClampNeg) ||| (1 <<< ((m2.1 w (x1 + 3).toNatClampNeg) &&& 31)))) (fun m3 => if inr (x1 + 2) 244 = true then if inr (x1 + 3) 244 = true then if inr (x1 + 2) 244 = true then bnd (wr m3 w (x1 + 2).toNatClampNeg ((m3.1 w (x1 + 2).toNatClampNeg) &&& ((1 <<< ((m3.1 w (x1 + 3).toNatClampNeg) &&& 31)) ^^^ (-1)))) (fun m4 => if inr (x1 + 3) 244 = true then bnd (wr m4 w (x1 + 3).toNatClampNeg (-1)) (fun m5 => (if a1 = (m5.1 27 34) then (if (m5.1 27 36) ≤ (m5.1 27 35) then some m5 else
  calv (f_X11_begins w m5 a1) (fun m6 => some m6)) else
  some m5)) else none) else none else none else none) else none else none else none else
  some m2) else none) else none else none) else none)
set_option maxRecDepth 4000 in
theorem c_X11_learns {g : Cf} {m mm : Sg} {w : Nat} {a1 : Int32} (Hw : ARR g w 244 0) (hm : f_X11_learns w m a1 = some mm) : Cl g 1 yX11_learns cX11_learns 4 none [.ref (g.ad 27), .ref (g.ad w), .int a1] m none mm := by
  refine cl_of (by decide) (Nat.le_of_ble_eq_true rfl) (vs := [some (.ref (g.ad 27)), some (.ref (g.ad w)), some (.int a1), none]) rfl rfl ?_
  show GX g 1 RX11 cX11_learns 4 none none mm 0 _ [] m
  unfold f_X11_learns at hm
  refine g_bipush 7 dX11_learns_0 rfl ?_
  refine g_iloadn_2 dX11_learns_2 ?_
  refine g_imul dX11_learns_3 ?_
  refine g_istoreBn_3 hm dX11_learns_4 rfl (fun x1 hm => ?_)
  refine g_aloadn_1 dX11_learns_5 ?_
  refine g_iloadn_3 dX11_learns_6 ?_
  refine g_iconst 3 dX11_learns_7 rfl ?_
  refine g_iadd dX11_learns_8 ?_
  refine g_iaload hm Hw.1 Hw.2 dX11_learns_9 (fun hm => ?_)
  refine g_iconst (-1) dX11_learns_10 rfl ?_
  refine g_icmp_ne 15 hm dX11_learns_11 (by decide) (fun hm => ?_) (fun hm => ?_)
  · refine g_aloadn_1 dX11_learns_15 ?_
    refine g_iloadn_3 dX11_learns_16 ?_
    refine g_iconst 4 dX11_learns_17 rfl ?_
    refine g_iadd dX11_learns_18 ?_
    refine g_dup2 dX11_learns_19 rfl rfl ?_
    refine g_iaload hm Hw.1 Hw.2 dX11_learns_20 (fun hm => ?_)
    refine g_iconst 1 dX11_learns_21 rfl ?_
    refine g_isub dX11_learns_22 ?_
    refine g_iastore hm Hw.1 Hw.2 dX11_learns_23 (fun m2 hm => ?_)
    refine g_aloadn_1 dX11_learns_24 ?_
    refine g_iloadn_3 dX11_learns_25 ?_
    refine g_iconst 4 dX11_learns_26 rfl ?_
    refine g_iadd dX11_learns_27 ?_
    refine g_iaload hm Hw.1 Hw.2 dX11_learns_28 (fun hm => ?_)
    refine g_if_le 33 hm dX11_learns_29 (by decide) (fun hm => ?_) (fun hm => ?_)
    · refine g_aloadn_1 dX11_learns_33 ?_
      refine g_iloadn_3 dX11_learns_34 ?_
      refine g_iconst 1 dX11_learns_35 rfl ?_
      refine g_iadd dX11_learns_36 ?_
      refine g_dup2 dX11_learns_37 rfl rfl ?_
      refine g_iaload hm Hw.1 Hw.2 dX11_learns_38 (fun hm => ?_)
      refine g_iconst 1 dX11_learns_39 rfl ?_
      refine g_aloadn_1 dX11_learns_40 ?_
      refine g_iloadn_3 dX11_learns_41 ?_
      refine g_iconst 3 dX11_learns_42 rfl ?_
      refine g_iadd dX11_learns_43 ?_
      refine g_iaload hm Hw.1 Hw.2 dX11_learns_44 (fun hm => ?_)
      refine g_ishl dX11_learns_45 ?_
      refine g_ior dX11_learns_46 ?_
      refine g_iastore hm Hw.1 Hw.2 dX11_learns_47 (fun m3 hm => ?_)
      refine g_aloadn_1 dX11_learns_48 ?_
      refine g_iloadn_3 dX11_learns_49 ?_
      refine g_iconst 2 dX11_learns_50 rfl ?_
      refine g_iadd dX11_learns_51 ?_
      refine g_dup2 dX11_learns_52 rfl rfl ?_
      refine g_iaload hm Hw.1 Hw.2 dX11_learns_53 (fun hm => ?_)
      refine g_iconst 1 dX11_learns_54 rfl ?_
      refine g_aloadn_1 dX11_learns_55 ?_
      refine g_iloadn_3 dX11_learns_56 ?_
      refine g_iconst 3 dX11_learns_57 rfl ?_
      refine g_iadd dX11_learns_58 ?_
      refine g_iaload hm Hw.1 Hw.2 dX11_learns_59 (fun hm => ?_)
      refine g_ishl dX11_learns_60 ?_
      refine g_iconst (-1) dX11_learns_61 rfl ?_
      refine g_ixor dX11_learns_62 ?_
      refine g_iand dX11_learns_63 ?_
      refine g_iastore hm Hw.1 Hw.2 dX11_learns_64 (fun m4 hm => ?_)
      refine g_aloadn_1 dX11_learns_65 ?_
      refine g_iloadn_3 dX11_learns_66 ?_
      refine g_iconst 3 dX11_learns_67 rfl ?_
      refine g_iadd dX11_learns_68 ?_
      refine g_iconst (-1) dX11_learns_69 rfl ?_
      refine g_iastore hm Hw.1 Hw.2 dX11_learns_70 (fun m5 hm => ?_)
      refine g_iloadn_2 dX11_learns_71 ?_
      refine g_aloadn_0 dX11_learns_72 ?_
      refine g_geti fo_11_34 pn_27 pc_27 rfl dX11_learns_73 ?_
      refine g_icmp_ne 96 hm dX11_learns_76 (by decide) (fun hm => ?_) (fun hm => ?_)
      · exact g_vret hm dX11_learns_96
      · refine g_aloadn_0 dX11_learns_79 ?_
        refine g_geti fo_11_35 pn_27 pc_27 rfl dX11_learns_80 ?_
        refine g_aloadn_0 dX11_learns_83 ?_
        refine g_geti fo_11_36 pn_27 pc_27 rfl dX11_learns_84 ?_
        refine g_icmp_ge 96 hm dX11_learns_87 (by decide) (fun hm => ?_) (fun hm => ?_)
        · exact g_vret hm dX11_learns_96
        · refine g_aloadn_0 dX11_learns_90 ?_
          refine g_aloadn_1 dX11_learns_91 ?_
          refine g_iloadn_2 dX11_learns_92 ?_
          refine g_v2V hm (fun _ h => c_X11_begins Hw h) pn_27 (pc_27 _ _) rfl ce_X11_begins lk_X11_334 rfl rfl dX11_learns_93 (fun m6 hm => ?_)
          exact g_vret hm dX11_learns_96
    · exact g_vret hm dX11_learns_32
  · exact g_vret hm dX11_learns_14
def f_X11_goMonth_L10 (w : Nat) : (Sg × Int32) → Option (((Sg)) ⊕ (Sg × Int32)) := fun s => match s with
  | (m2, x3) => 
  (if (m2.1 27 24) ≤ x3 then some (.inl m2) else
  if inr ((7 * x3) + 0) 244 = true then if inr ((7 * x3) + 0) 244 = true then bnd (wr m2 w ((7 * x3) + 0).toNatClampNeg ((m2.1 w ((7 * x3) + 0).toNatClampNeg) + 1)) (fun m7 => bnd (x3 + 1) (fun x8 => some (.inr (m7, x8)))) else none else none)
def f_X11_goMonth_L38 (w : Nat) : (Sg × Int32) → Option (((Sg)) ⊕ (Sg × Int32)) := fun s => match s with
  | (m9, x10) => 
  (if (m9.1 27 25) ≤ x10 then some (.inl m9) else
  if inr ((3 * x10) + 1) 12 = true then bnd (m9.1 34 ((3 * x10) + 1).toNatClampNeg) (fun x14 => bnd (fun (m15 : Sg) => bnd (x10 + 1) (fun x17 => some (.inr (m15, x17)))) (fun (k16 : Sg → Option (((Sg)) ⊕ (Sg × Int32))) =>
  (if x14 ≤ 0 then k16 m9 else
  if (!(decide (x14 = 0))) = true then (if ((m9.1 w 60) - (m9.1 w 60) / x14 * x14) = 0 then if inr (56 + x10) 244 = true then if inr (56 + x10) 244 = true then cal (f_J6_highestOneBit_0f7a4 m9 (m9.1 w (56 + x10).toNatClampNeg)) (fun x19 m18 => if inr (56 + x10) 244 = true then bnd (wr m18 w (56 + x10).toNatClampNeg ((m9.1 w (56 + x10).toNatClampNeg) &&& (x19 ^^^ (-1)))) (fun m20 => k16 m20) else none) else none else none else
  k16 m9) else none))) else none)
def f_X11_goMonth_L101 (w : Nat) : (Sg × Int32) → Option (((Sg)) ⊕ (Sg × Int32)) := fun s => match s with
  | (m21, x22) => 
  (if (m21.1 27 24) ≤ x22 then some (.inl m21) else
  calv (f_X11_learns w m21 x22) (fun m26 => bnd (x22 + 1) (fun x27 => some (.inr (m26, x27)))))
def f_X11_goMonth_L123 (w : Nat) (a1 : Int32) : (Sg × Int32) → Option (((Sg)) ⊕ (Sg × Int32)) := fun s => match s with
  | (m28, x29) => 
  (if (m28.1 27 24) ≤ x29 then some (.inl m28) else
  bnd (fun (m33 : Sg) => bnd (x29 + 1) (fun x35 => some (.inr (m33, x35)))) (fun (k34 : Sg → Option (((Sg)) ⊕ (Sg × Int32))) =>
  (if a1 = 0 then k34 m28 else
  cal (f_X11_draw m28 100) (fun x37 m36 => (if (m36.1 27 32) ≤ x37 then k34 m36 else
  if inr ((7 * x29) + 1) 244 = true then if inr ((7 * x29) + 1) 244 = true then bnd (wr m36 w ((7 * x29) + 1).toNatClampNeg ((m36.1 w ((7 * x29) + 1).toNatClampNeg) &&& (-129))) (fun m38 => k34 m38) else none else none)))))
def f_X11_goMonth_L214 (w : Nat) (x42 : Int32) : (Sg × Int32 × Int32) → Option (((Sg × Int32)) ⊕ (Sg × Int32 × Int32)) := fun s => match s with
  | (m43, x44, x45) => 
  (if (m43.1 27 24) ≤ x45 then some (.inl (m43, x44)) else
  (if x42 = (-1) then some (.inl (m43, x44)) else
  cal (f_X11_isRival w m43 x45 x42) (fun x51 m50 => bnd (fun ((m52, x53) : Sg × Int32) => bnd (x45 + 1) (fun x55 => some (.inr (m52, x53, x55)))) (fun (k54 : Sg × Int32 → Option (((Sg × Int32)) ⊕ (Sg × Int32 × Int32))) =>
  (if x51 = 0 then k54 (m50, x44) else
  bnd (fun (m56 : Sg) => k54 (m56, x45)) (fun (k57 : Sg → Option (((Sg × Int32)) ⊕ (Sg × Int32 × Int32))) =>
  (if x44 = (-1) then k57 m50 else
  if inr ((7 * x45) + 0) 244 = true then if inr ((7 * x44) + 0) 244 = true then (if (m50.1 w ((7 * x44) + 0).toNatClampNeg) ≤ (m50.1 w ((7 * x45) + 0).toNatClampNeg) then k54 (m50, x44) else
  k57 m50) else none else none)))))))
def f_X11_goMonth (w : Nat) (m : Sg) (a1 : Int32) : Option (Sg) :=
  bnd (wr m w 60 ((m.1 w 60) + 1)) (fun m1 => lpk (f_X11_goMonth_L10 w) (m1, 0) (fun m4 => lpk (f_X11_goMonth_L38 w) (m4, 0) (fun m11 => lpk (f_X11_goMonth_L101 w) (m11, 0) (fun m23 => lpk (f_X11_goMonth_L123 w a1) (m23, 0) (fun m30 => bnd (fun (m39 : Sg) => cal (f_X11_examinerOf w m39 0) (fun x42 m41 => lpk (f_X11_goMonth_L214 w x42) (m41, (-1), 0) (fun ((m46, x47) : Sg × Int32) => bnd (fun (m58 : Sg) => bnd (fun ((m60, x61) : Sg × Int32) => calv (f_X11_writes w m60 x42 x61) (fun m63 => some m63)) (fun (k62 : Sg × Int32 → Option (Sg)) =>
  (if (m58.1 w 61) = (-1) then k62 (m58, 0) else
  if inr ((7 * (m58.1 w 61)) + 6) 244 = true then if inr ((7 * (m58.1 w 61)) + 6) 244 = true then bnd (wr m58 w ((7 * (m58.1 w 61)) + 6).toNatClampNeg ((m58.1 w ((7 * (m58.1 w 61)) + 6).toNatClampNeg) + 1)) (fun m64 => cal (f_X11_taxOf w m64 (m64.1 w 61)) (fun x66 m65 => bnd (wr m65 w 62 ((m65.1 w 62) + x66)) (fun m67 => k62 (m67, x66)))) else none else none))) (fun (k59 : Sg → Option (Sg)) =>
  (if x47 = (-1) then k59 m46 else
  bnd (wr m46 w 61 x47) (fun m68 => k59 m68)))))) (fun (k40 : Sg → Option (Sg)) =>
  (if (m30.1 w 61) = (-1) then k40 m30 else
  if inr ((7 * (m30.1 w 61)) + 0) 244 = true then (if (m30.1 w ((7 * (m30.1 w 61)) + 0).toNatClampNeg) < (m30.1 36 0) then k40 m30 else
  bnd (wr m30 w 61 (-1)) (fun m69 => k40 m69)) else none)))))))
set_option maxRecDepth 4000 in
theorem c_X11_goMonth {g : Cf} {m mm : Sg} {w : Nat} {a1 : Int32} (HX : XOK g) (Hw : ARR g w 244 0) (hm : f_X11_goMonth w m a1 = some mm) : Cl g 78 yX11_goMonth cX11_goMonth 6 none [.ref (g.ad 27), .ref (g.ad w), .int a1] m none mm := by
  refine cl_of (by decide) (Nat.le_of_ble_eq_true rfl) (vs := [some (.ref (g.ad 27)), some (.ref (g.ad w)), some (.int a1), none, none, none]) rfl rfl ?_
  show GX g 78 RX11 cX11_goMonth 6 none none mm 0 _ [] m
  unfold f_X11_goMonth at hm
  refine g_aloadn_1 dX11_goMonth_0 ?_
  refine g_bipush 60 dX11_goMonth_1 rfl ?_
  refine g_dup2 dX11_goMonth_3 rfl rfl ?_
  refine g_ialoadc 60 rfl rfl Hw.1 Hw.2 dX11_goMonth_4 ?_
  refine g_iconst 1 dX11_goMonth_5 rfl ?_
  refine g_iadd dX11_goMonth_6 ?_
  refine g_iastorec 60 hm rfl rfl Hw.1 Hw.2 dX11_goMonth_7 (fun m1 hm => ?_)
  refine g_iconst 0 dX11_goMonth_8 rfl ?_
  refine g_istoren_3 dX11_goMonth_9 rfl ?_
  refine g_lp (I := fun (s : Sg × Int32) => GX g 78 RX11 cX11_goMonth 6 none none mm 10 [some (.ref (g.ad 27)), some (.ref (g.ad w)), some (.int a1), some (.int (s.2)), none, none] [] s.1) (E := fun (s : Sg) => GX g 78 RX11 cX11_goMonth 6 none none mm 36 [some (.ref (g.ad 27)), some (.ref (g.ad w)), some (.int a1), none, none, none] [] s) hm ?_ ?_
  · rintro m4 hm
    (try dsimp only at hm)
    (try dsimp only)
    refine g_iconst 0 dX11_goMonth_36 rfl ?_
    refine g_istoren_3 dX11_goMonth_37 rfl ?_
    refine g_lp (I := fun (s : Sg × Int32) => GX g 78 RX11 cX11_goMonth 6 none none mm 38 [some (.ref (g.ad 27)), some (.ref (g.ad w)), some (.int a1), some (.int (s.2)), none, none] [] s.1) (E := fun (s : Sg) => GX g 78 RX11 cX11_goMonth 6 none none mm 99 [some (.ref (g.ad 27)), some (.ref (g.ad w)), some (.int a1), none, none, none] [] s) hm ?_ ?_
    · rintro m11 hm
      (try dsimp only at hm)
      (try dsimp only)
      refine g_iconst 0 dX11_goMonth_99 rfl ?_
      refine g_istoren_3 dX11_goMonth_100 rfl ?_
      refine g_lp (I := fun (s : Sg × Int32) => GX g 78 RX11 cX11_goMonth 6 none none mm 101 [some (.ref (g.ad 27)), some (.ref (g.ad w)), some (.int a1), some (.int (s.2)), none, none] [] s.1) (E := fun (s : Sg) => GX g 78 RX11 cX11_goMonth 6 none none mm 121 [some (.ref (g.ad 27)), some (.ref (g.ad w)), some (.int a1), none, none, none] [] s) hm ?_ ?_
      · rintro m23 hm
        (try dsimp only at hm)
        (try dsimp only)
        refine g_iconst 0 dX11_goMonth_121 rfl ?_
        refine g_istoren_3 dX11_goMonth_122 rfl ?_
        refine g_lp (I := fun (s : Sg × Int32) => GX g 78 RX11 cX11_goMonth 6 none none mm 123 [some (.ref (g.ad 27)), some (.ref (g.ad w)), some (.int a1), some (.int (s.2)), none, none] [] s.1) (E := fun (s : Sg) => GX g 78 RX11 cX11_goMonth 6 none none mm 168 [some (.ref (g.ad 27)), some (.ref (g.ad w)), none, none, none, none] [] s) hm ?_ ?_
        · rintro m30 hm
          (try dsimp only at hm)
          (try dsimp only)
          refine g_aloadn_1 dX11_goMonth_168 ?_
          refine g_bipush 61 dX11_goMonth_169 rfl ?_
          refine g_ialoadc 61 rfl rfl Hw.1 Hw.2 dX11_goMonth_171 ?_
          refine g_iconst (-1) dX11_goMonth_172 rfl ?_
          refine g_jn (J := fun (s : Sg) => GX g 78 RX11 cX11_goMonth 6 none none mm 201 [some (.ref (g.ad 27)), some (.ref (g.ad w)), none, none, none, none] [] s) hm ?_ ?_
          · intro m39 hm
            refine g_aloadn_0 dX11_goMonth_201 ?_
            refine g_aloadn_1 dX11_goMonth_202 ?_
            refine g_iconst 0 dX11_goMonth_203 rfl ?_
            refine g_v2 hm (fun _ _ h => c_X11_examinerOf Hw h) pn_27 (pc_27 _ _) rfl ce_X11_examinerOf lk_X11_317 rfl rfl dX11_goMonth_204 (fun x42 m41 hm => ?_)
            refine g_istoren_3 dX11_goMonth_207 rfl ?_
            refine g_iconst (-1) dX11_goMonth_208 rfl ?_
            refine g_istore_4 dX11_goMonth_209 rfl ?_
            refine g_iconst 0 dX11_goMonth_211 rfl ?_
            refine g_istore_5 dX11_goMonth_212 rfl ?_
            refine g_lp (I := fun (s : Sg × Int32 × Int32) => GX g 78 RX11 cX11_goMonth 6 none none mm 214 [some (.ref (g.ad 27)), some (.ref (g.ad w)), none, some (.int x42), some (.int (s.2.1)), some (.int (s.2.2))] [] s.1) (E := fun (s : Sg × Int32) => GX g 78 RX11 cX11_goMonth 6 none none mm 276 [some (.ref (g.ad 27)), some (.ref (g.ad w)), none, some (.int x42), some (.int (s.2)), none] [] s.1) hm ?_ ?_
            · rintro ⟨m46, x47⟩ hm
              (try dsimp only at hm)
              (try dsimp only)
              refine g_iload_4 dX11_goMonth_276 ?_
              refine g_iconst (-1) dX11_goMonth_278 rfl ?_
              refine g_jn (J := fun (s : Sg) => GX g 78 RX11 cX11_goMonth 6 none none mm 288 [some (.ref (g.ad 27)), some (.ref (g.ad w)), none, some (.int x42), none, none] [] s) hm ?_ ?_
              · intro m58 hm
                refine g_iconst 0 dX11_goMonth_288 rfl ?_
                refine g_istore_5 dX11_goMonth_289 rfl ?_
                refine g_aloadn_1 dX11_goMonth_291 ?_
                refine g_bipush 61 dX11_goMonth_292 rfl ?_
                refine g_ialoadc 61 rfl rfl Hw.1 Hw.2 dX11_goMonth_294 ?_
                refine g_iconst (-1) dX11_goMonth_295 rfl ?_
                refine g_jn (J := fun (s : Sg × Int32) => GX g 78 RX11 cX11_goMonth 6 none none mm 335 [some (.ref (g.ad 27)), some (.ref (g.ad w)), none, some (.int x42), none, some (.int (s.2))] [] s.1) hm ?_ ?_
                · rintro ⟨m60, x61⟩ hm
                  (try dsimp only at hm)
                  (try dsimp only)
                  refine g_aloadn_0 dX11_goMonth_335 ?_
                  refine g_aloadn_1 dX11_goMonth_336 ?_
                  refine g_iloadn_3 dX11_goMonth_337 ?_
                  refine g_iload_5 dX11_goMonth_338 ?_
                  refine g_v3V hm (fun _ h => c_X11_writes Hw h) pn_27 (pc_27 _ _) rfl ce_X11_writes lk_X11_350 rfl rfl dX11_goMonth_340 (fun m63 hm => ?_)
                  exact g_vret hm dX11_goMonth_343
                · intro k62 hk62 hm
                  refine g_icmp_eq 335 hm dX11_goMonth_296 (by decide) (fun hm => ?_) (fun hm => ?_)
                  · exact hk62 _ hm
                  · refine g_aloadn_1 dX11_goMonth_299 ?_
                    refine g_bipush 7 dX11_goMonth_300 rfl ?_
                    refine g_aloadn_1 dX11_goMonth_302 ?_
                    refine g_bipush 61 dX11_goMonth_303 rfl ?_
                    refine g_ialoadc 61 rfl rfl Hw.1 Hw.2 dX11_goMonth_305 ?_
                    refine g_imul dX11_goMonth_306 ?_
                    refine g_bipush 6 dX11_goMonth_307 rfl ?_
                    refine g_iadd dX11_goMonth_309 ?_
                    refine g_dup2 dX11_goMonth_310 rfl rfl ?_
                    refine g_iaload hm Hw.1 Hw.2 dX11_goMonth_311 (fun hm => ?_)
                    refine g_iconst 1 dX11_goMonth_312 rfl ?_
                    refine g_iadd dX11_goMonth_313 ?_
                    refine g_iastore hm Hw.1 Hw.2 dX11_goMonth_314 (fun m64 hm => ?_)
                    refine g_aloadn_0 dX11_goMonth_315 ?_
                    refine g_aloadn_1 dX11_goMonth_316 ?_
                    refine g_aloadn_1 dX11_goMonth_317 ?_
                    refine g_bipush 61 dX11_goMonth_318 rfl ?_
                    refine g_ialoadc 61 rfl rfl Hw.1 Hw.2 dX11_goMonth_320 ?_
                    refine g_v2 hm (fun _ _ h => c_X11_taxOf HX Hw h) pn_27 (pc_27 _ _) rfl ce_X11_taxOf lk_X11_301 rfl rfl dX11_goMonth_321 (fun x66 m65 hm => ?_)
                    refine g_istore_5 dX11_goMonth_324 rfl ?_
                    refine g_aloadn_1 dX11_goMonth_326 ?_
                    refine g_bipush 62 dX11_goMonth_327 rfl ?_
                    refine g_dup2 dX11_goMonth_329 rfl rfl ?_
                    refine g_ialoadc 62 rfl rfl Hw.1 Hw.2 dX11_goMonth_330 ?_
                    refine g_iload_5 dX11_goMonth_331 ?_
                    refine g_iadd dX11_goMonth_333 ?_
                    refine g_iastorec 62 hm rfl rfl Hw.1 Hw.2 dX11_goMonth_334 (fun m67 hm => ?_)
                    exact hk62 _ hm
              · intro k59 hk59 hm
                refine g_icmp_eq 288 hm dX11_goMonth_279 (by decide) (fun hm => ?_) (fun hm => ?_)
                · refine g_weak (vs' := [some (.ref (g.ad 27)), some (.ref (g.ad w)), none, some (.int x42), none, none]) ⟨rfl, ⟨rfl, ⟨rfl, trivial⟩⟩⟩ ?_
                  exact hk59 _ hm
                · refine g_aloadn_1 dX11_goMonth_282 ?_
                  refine g_bipush 61 dX11_goMonth_283 rfl ?_
                  refine g_iload_4 dX11_goMonth_285 ?_
                  refine g_iastorec 61 hm rfl rfl Hw.1 Hw.2 dX11_goMonth_287 (fun m68 hm => ?_)
                  refine g_weak (vs' := [some (.ref (g.ad 27)), some (.ref (g.ad w)), none, some (.int x42), none, none]) ⟨rfl, ⟨rfl, ⟨rfl, trivial⟩⟩⟩ ?_
                  exact hk59 _ hm
            · rintro ⟨m43, x44, x45⟩ o hm hx49 hi48
              (try dsimp only [f_X11_goMonth_L214] at hm)
              (try dsimp only)
              refine g_iload_5 dX11_goMonth_214 ?_
              refine g_aloadn_0 dX11_goMonth_216 ?_
              refine g_geti fo_11_24 pn_27 pc_27 rfl dX11_goMonth_217 ?_
              refine g_icmp_ge 276 hm dX11_goMonth_220 (by decide) (fun hm => ?_) (fun hm => ?_)
              · refine g_weak (vs' := [some (.ref (g.ad 27)), some (.ref (g.ad w)), none, some (.int x42), some (.int x44), none]) ⟨rfl, ⟨rfl, ⟨rfl, ⟨rfl, trivial⟩⟩⟩⟩ ?_
                cases hm
                exact hx49 _ rfl
              · refine g_iloadn_3 dX11_goMonth_223 ?_
                refine g_iconst (-1) dX11_goMonth_224 rfl ?_
                refine g_icmp_eq 276 hm dX11_goMonth_225 (by decide) (fun hm => ?_) (fun hm => ?_)
                · refine g_weak (vs' := [some (.ref (g.ad 27)), some (.ref (g.ad w)), none, some (.int x42), some (.int x44), none]) ⟨rfl, ⟨rfl, ⟨rfl, ⟨rfl, trivial⟩⟩⟩⟩ ?_
                  cases hm
                  exact hx49 _ rfl
                · refine g_aloadn_0 dX11_goMonth_228 ?_
                  refine g_aloadn_1 dX11_goMonth_229 ?_
                  refine g_iload_5 dX11_goMonth_230 ?_
                  refine g_iloadn_3 dX11_goMonth_232 ?_
                  refine g_v3 hm (fun _ _ h => c_X11_isRival Hw h) pn_27 (pc_27 _ _) rfl ce_X11_isRival lk_X11_346 rfl rfl dX11_goMonth_233 (fun x51 m50 hm => ?_)
                  refine g_jn (J := fun (s : Sg × Int32) => GX g 78 RX11 cX11_goMonth 6 none none mm 270 [some (.ref (g.ad 27)), some (.ref (g.ad w)), none, some (.int x42), some (.int (s.2)), some (.int x45)] [] s.1) hm ?_ ?_
                  · rintro ⟨m52, x53⟩ hm
                    (try dsimp only at hm)
                    (try dsimp only)
                    refine g_iinc_5 1 hm dX11_goMonth_270 rfl rfl (fun x55 hm => ?_)
                    refine g_goto 214 dX11_goMonth_273 (by decide) ?_
                    cases hm
                    exact hi48 _ rfl
                  · intro k54 hk54 hm
                    refine g_if_eq 270 hm dX11_goMonth_236 (by decide) (fun hm => ?_) (fun hm => ?_)
                    · exact hk54 _ hm
                    · refine g_iload_4 dX11_goMonth_239 ?_
                      refine g_iconst (-1) dX11_goMonth_241 rfl ?_
                      refine g_jn (J := fun (s : Sg) => GX g 78 RX11 cX11_goMonth 6 none none mm 266 [some (.ref (g.ad 27)), some (.ref (g.ad w)), none, some (.int x42), none, some (.int x45)] [] s) hm ?_ ?_
                      · intro m56 hm
                        refine g_iload_5 dX11_goMonth_266 ?_
                        refine g_istore_4 dX11_goMonth_268 rfl ?_
                        exact hk54 _ hm
                      · intro k57 hk57 hm
                        refine g_icmp_eq 266 hm dX11_goMonth_242 (by decide) (fun hm => ?_) (fun hm => ?_)
                        · refine g_weak (vs' := [some (.ref (g.ad 27)), some (.ref (g.ad w)), none, some (.int x42), none, some (.int x45)]) ⟨rfl, ⟨rfl, ⟨rfl, ⟨rfl, trivial⟩⟩⟩⟩ ?_
                          exact hk57 _ hm
                        · refine g_aloadn_1 dX11_goMonth_245 ?_
                          refine g_bipush 7 dX11_goMonth_246 rfl ?_
                          refine g_iload_5 dX11_goMonth_248 ?_
                          refine g_imul dX11_goMonth_250 ?_
                          refine g_iconst 0 dX11_goMonth_251 rfl ?_
                          refine g_iadd dX11_goMonth_252 ?_
                          refine g_iaload hm Hw.1 Hw.2 dX11_goMonth_253 (fun hm => ?_)
                          refine g_aloadn_1 dX11_goMonth_254 ?_
                          refine g_bipush 7 dX11_goMonth_255 rfl ?_
                          refine g_iload_4 dX11_goMonth_257 ?_
                          refine g_imul dX11_goMonth_259 ?_
                          refine g_iconst 0 dX11_goMonth_260 rfl ?_
                          refine g_iadd dX11_goMonth_261 ?_
                          refine g_iaload hm Hw.1 Hw.2 dX11_goMonth_262 (fun hm => ?_)
                          refine g_icmp_ge 270 hm dX11_goMonth_263 (by decide) (fun hm => ?_) (fun hm => ?_)
                          · exact hk54 _ hm
                          · refine g_weak (vs' := [some (.ref (g.ad 27)), some (.ref (g.ad w)), none, some (.int x42), none, some (.int x45)]) ⟨rfl, ⟨rfl, ⟨rfl, ⟨rfl, trivial⟩⟩⟩⟩ ?_
                            exact hk57 _ hm
          · intro k40 hk40 hm
            refine g_icmp_eq 201 hm dX11_goMonth_173 (by decide) (fun hm => ?_) (fun hm => ?_)
            · exact hk40 _ hm
            · refine g_aloadn_1 dX11_goMonth_176 ?_
              refine g_bipush 7 dX11_goMonth_177 rfl ?_
              refine g_aloadn_1 dX11_goMonth_179 ?_
              refine g_bipush 61 dX11_goMonth_180 rfl ?_
              refine g_ialoadc 61 rfl rfl Hw.1 Hw.2 dX11_goMonth_182 ?_
              refine g_imul dX11_goMonth_183 ?_
              refine g_iconst 0 dX11_goMonth_184 rfl ?_
              refine g_iadd dX11_goMonth_185 ?_
              refine g_iaload hm Hw.1 Hw.2 dX11_goMonth_186 (fun hm => ?_)
              refine g_aloadn_0 dX11_goMonth_187 ?_
              refine g_getr (q := 36) fo_11_22 pn_27 pc_27 rfl rfl dX11_goMonth_188 ?_
              refine g_iconst 0 dX11_goMonth_191 rfl ?_
              refine g_ialoadc 0 rfl rfl ar_36.1 ar_36.2 dX11_goMonth_192 ?_
              refine g_icmp_lt 201 hm dX11_goMonth_193 (by decide) (fun hm => ?_) (fun hm => ?_)
              · exact hk40 _ hm
              · refine g_aloadn_1 dX11_goMonth_196 ?_
                refine g_bipush 61 dX11_goMonth_197 rfl ?_
                refine g_iconst (-1) dX11_goMonth_199 rfl ?_
                refine g_iastorec 61 hm rfl rfl Hw.1 Hw.2 dX11_goMonth_200 (fun m69 hm => ?_)
                exact hk40 _ hm
        · rintro ⟨m28, x29⟩ o hm hx32 hi31
          (try dsimp only [f_X11_goMonth_L123] at hm)
          (try dsimp only)
          refine g_iloadn_3 dX11_goMonth_123 ?_
          refine g_aloadn_0 dX11_goMonth_124 ?_
          refine g_geti fo_11_24 pn_27 pc_27 rfl dX11_goMonth_125 ?_
          refine g_icmp_ge 168 hm dX11_goMonth_128 (by decide) (fun hm => ?_) (fun hm => ?_)
          · refine g_weak (vs' := [some (.ref (g.ad 27)), some (.ref (g.ad w)), none, none, none, none]) ⟨rfl, ⟨rfl, trivial⟩⟩ ?_
            cases hm
            exact hx32 _ rfl
          · refine g_iloadn_2 dX11_goMonth_131 ?_
            refine g_jn (J := fun (s : Sg) => GX g 78 RX11 cX11_goMonth 6 none none mm 162 [some (.ref (g.ad 27)), some (.ref (g.ad w)), some (.int a1), some (.int x29), none, none] [] s) hm ?_ ?_
            · intro m33 hm
              refine g_iinc_3 1 hm dX11_goMonth_162 rfl rfl (fun x35 hm => ?_)
              refine g_goto 123 dX11_goMonth_165 (by decide) ?_
              cases hm
              exact hi31 _ rfl
            · intro k34 hk34 hm
              refine g_if_eq 162 hm dX11_goMonth_132 (by decide) (fun hm => ?_) (fun hm => ?_)
              · exact hk34 _ hm
              · refine g_aloadn_0 dX11_goMonth_135 ?_
                refine g_bipush 100 dX11_goMonth_136 rfl ?_
                refine g_v1 hm (fun _ _ h => c_X11_draw h) pn_27 (pc_27 _ _) rfl ce_X11_draw lk_X11_343 rfl rfl dX11_goMonth_138 (fun x37 m36 hm => ?_)
                refine g_aloadn_0 dX11_goMonth_141 ?_
                refine g_geti fo_11_32 pn_27 pc_27 rfl dX11_goMonth_142 ?_
                refine g_icmp_ge 162 hm dX11_goMonth_145 (by decide) (fun hm => ?_) (fun hm => ?_)
                · exact hk34 _ hm
                · refine g_aloadn_1 dX11_goMonth_148 ?_
                  refine g_bipush 7 dX11_goMonth_149 rfl ?_
                  refine g_iloadn_3 dX11_goMonth_151 ?_
                  refine g_imul dX11_goMonth_152 ?_
                  refine g_iconst 1 dX11_goMonth_153 rfl ?_
                  refine g_iadd dX11_goMonth_154 ?_
                  refine g_dup2 dX11_goMonth_155 rfl rfl ?_
                  refine g_iaload hm Hw.1 Hw.2 dX11_goMonth_156 (fun hm => ?_)
                  refine g_sipush (-129) dX11_goMonth_157 rfl ?_
                  refine g_iand dX11_goMonth_160 ?_
                  refine g_iastore hm Hw.1 Hw.2 dX11_goMonth_161 (fun m38 hm => ?_)
                  exact hk34 _ hm
      · rintro ⟨m21, x22⟩ o hm hx25 hi24
        (try dsimp only [f_X11_goMonth_L101] at hm)
        (try dsimp only)
        refine g_iloadn_3 dX11_goMonth_101 ?_
        refine g_aloadn_0 dX11_goMonth_102 ?_
        refine g_geti fo_11_24 pn_27 pc_27 rfl dX11_goMonth_103 ?_
        refine g_icmp_ge 121 hm dX11_goMonth_106 (by decide) (fun hm => ?_) (fun hm => ?_)
        · refine g_weak (vs' := [some (.ref (g.ad 27)), some (.ref (g.ad w)), some (.int a1), none, none, none]) ⟨rfl, ⟨rfl, ⟨rfl, trivial⟩⟩⟩ ?_
          cases hm
          exact hx25 _ rfl
        · refine g_aloadn_0 dX11_goMonth_109 ?_
          refine g_aloadn_1 dX11_goMonth_110 ?_
          refine g_iloadn_3 dX11_goMonth_111 ?_
          refine g_v2V hm (fun _ h => c_X11_learns Hw h) pn_27 (pc_27 _ _) rfl ce_X11_learns lk_X11_340 rfl rfl dX11_goMonth_112 (fun m26 hm => ?_)
          refine g_iinc_3 1 hm dX11_goMonth_115 rfl rfl (fun x27 hm => ?_)
          refine g_goto 101 dX11_goMonth_118 (by decide) ?_
          cases hm
          exact hi24 _ rfl
    · rintro ⟨m9, x10⟩ o hm hx13 hi12
      (try dsimp only [f_X11_goMonth_L38] at hm)
      (try dsimp only)
      refine g_iloadn_3 dX11_goMonth_38 ?_
      refine g_aloadn_0 dX11_goMonth_39 ?_
      refine g_geti fo_11_25 pn_27 pc_27 rfl dX11_goMonth_40 ?_
      refine g_icmp_ge 99 hm dX11_goMonth_43 (by decide) (fun hm => ?_) (fun hm => ?_)
      · refine g_weak (vs' := [some (.ref (g.ad 27)), some (.ref (g.ad w)), some (.int a1), none, none, none]) ⟨rfl, ⟨rfl, ⟨rfl, trivial⟩⟩⟩ ?_
        cases hm
        exact hx13 _ rfl
      · refine g_aloadn_0 dX11_goMonth_46 ?_
        refine g_getr (q := 34) fo_11_20 pn_27 pc_27 rfl rfl dX11_goMonth_47 ?_
        refine g_iconst 3 dX11_goMonth_50 rfl ?_
        refine g_iloadn_3 dX11_goMonth_51 ?_
        refine g_imul dX11_goMonth_52 ?_
        refine g_iconst 1 dX11_goMonth_53 rfl ?_
        refine g_iadd dX11_goMonth_54 ?_
        refine g_iaload hm ar_34.1 ar_34.2 dX11_goMonth_55 (fun hm => ?_)
        refine g_istoreB_4 hm dX11_goMonth_56 rfl (fun x14 hm => ?_)
        refine g_iload_4 dX11_goMonth_58 ?_
        refine g_jn (J := fun (s : Sg) => GX g 78 RX11 cX11_goMonth 6 none none mm 93 [some (.ref (g.ad 27)), some (.ref (g.ad w)), some (.int a1), some (.int x10), none, none] [] s) hm ?_ ?_
        · intro m15 hm
          refine g_iinc_3 1 hm dX11_goMonth_93 rfl rfl (fun x17 hm => ?_)
          refine g_goto 38 dX11_goMonth_96 (by decide) ?_
          cases hm
          exact hi12 _ rfl
        · intro k16 hk16 hm
          refine g_if_le 93 hm dX11_goMonth_60 (by decide) (fun hm => ?_) (fun hm => ?_)
          · refine g_weak (vs' := [some (.ref (g.ad 27)), some (.ref (g.ad w)), some (.int a1), some (.int x10), none, none]) ⟨rfl, ⟨rfl, ⟨rfl, ⟨rfl, trivial⟩⟩⟩⟩ ?_
            exact hk16 _ hm
          · refine g_aloadn_1 dX11_goMonth_63 ?_
            refine g_bipush 60 dX11_goMonth_64 rfl ?_
            refine g_ialoadc 60 rfl rfl Hw.1 Hw.2 dX11_goMonth_66 ?_
            refine g_iload_4 dX11_goMonth_67 ?_
            refine g_iremN hm dX11_goMonth_69 (fun hm => ?_)
            refine g_if_ne 93 hm dX11_goMonth_70 (by decide) (fun hm => ?_) (fun hm => ?_)
            · refine g_weak (vs' := [some (.ref (g.ad 27)), some (.ref (g.ad w)), some (.int a1), some (.int x10), none, none]) ⟨rfl, ⟨rfl, ⟨rfl, ⟨rfl, trivial⟩⟩⟩⟩ ?_
              exact hk16 _ hm
            · refine g_aloadn_1 dX11_goMonth_73 ?_
              refine g_bipush 56 dX11_goMonth_74 rfl ?_
              refine g_iloadn_3 dX11_goMonth_76 ?_
              refine g_iadd dX11_goMonth_77 ?_
              refine g_dup2 dX11_goMonth_78 rfl rfl ?_
              refine g_iaload hm Hw.1 Hw.2 dX11_goMonth_79 (fun hm => ?_)
              refine g_aloadn_1 dX11_goMonth_80 ?_
              refine g_bipush 56 dX11_goMonth_81 rfl ?_
              refine g_iloadn_3 dX11_goMonth_83 ?_
              refine g_iadd dX11_goMonth_84 ?_
              refine g_iaload hm Hw.1 Hw.2 dX11_goMonth_85 (fun hm => ?_)
              refine g_s1 hm (fun _ _ h => c_J6_highestOneBit_0f7a4 h) ce_J6_highestOneBit_0f7a4 lk_X11_337 rfl rfl dX11_goMonth_86 (fun x19 m18 hm => ?_)
              refine g_iconst (-1) dX11_goMonth_89 rfl ?_
              refine g_ixor dX11_goMonth_90 ?_
              refine g_iand dX11_goMonth_91 ?_
              refine g_iastore hm Hw.1 Hw.2 dX11_goMonth_92 (fun m20 hm => ?_)
              refine g_weak (vs' := [some (.ref (g.ad 27)), some (.ref (g.ad w)), some (.int a1), some (.int x10), none, none]) ⟨rfl, ⟨rfl, ⟨rfl, ⟨rfl, trivial⟩⟩⟩⟩ ?_
              exact hk16 _ hm
  · rintro ⟨m2, x3⟩ o hm hx6 hi5
    (try dsimp only [f_X11_goMonth_L10] at hm)
    (try dsimp only)
    refine g_iloadn_3 dX11_goMonth_10 ?_
    refine g_aloadn_0 dX11_goMonth_11 ?_
    refine g_geti fo_11_24 pn_27 pc_27 rfl dX11_goMonth_12 ?_
    refine g_icmp_ge 36 hm dX11_goMonth_15 (by decide) (fun hm => ?_) (fun hm => ?_)
    · refine g_weak (vs' := [some (.ref (g.ad 27)), some (.ref (g.ad w)), some (.int a1), none, none, none]) ⟨rfl, ⟨rfl, ⟨rfl, trivial⟩⟩⟩ ?_
      cases hm
      exact hx6 _ rfl
    · refine g_aloadn_1 dX11_goMonth_18 ?_
      refine g_bipush 7 dX11_goMonth_19 rfl ?_
      refine g_iloadn_3 dX11_goMonth_21 ?_
      refine g_imul dX11_goMonth_22 ?_
      refine g_iconst 0 dX11_goMonth_23 rfl ?_
      refine g_iadd dX11_goMonth_24 ?_
      refine g_dup2 dX11_goMonth_25 rfl rfl ?_
      refine g_iaload hm Hw.1 Hw.2 dX11_goMonth_26 (fun hm => ?_)
      refine g_iconst 1 dX11_goMonth_27 rfl ?_
      refine g_iadd dX11_goMonth_28 ?_
      refine g_iastore hm Hw.1 Hw.2 dX11_goMonth_29 (fun m7 hm => ?_)
      refine g_iinc_3 1 hm dX11_goMonth_30 rfl rfl (fun x8 hm => ?_)
      refine g_goto 10 dX11_goMonth_33 (by decide) ?_
      cases hm
      exact hi5 _ rfl
def f_X11_goMonths_L23 (a1 : Int32) (a2 : Int32) : (Sg × Int32) → Option (((Sg)) ⊕ (Sg × Int32)) := fun s => match s with
  | (m3, x4) => 
  (if a1 ≤ x4 then some (.inl m3) else
  calv (f_X11_remember m3) (fun m8 => calv (f_X11_goMonth 38 m8 a2) (fun m9 => bnd (x4 + 1) (fun x10 => some (.inr (m9, x10))))))
def f_X11_goMonths  (m : Sg) (a1 : Int32) (a2 : Int32) : Option (Int32 × Sg) :=
  (if (m.1 27 24) = 0 then some ((-1), m) else
  cal (f_X11_isIn m ((a1 : Int32).toInt64) 1 60) (fun x2 m1 => (if x2 = 0 then some ((-1), m1) else
  lpk (f_X11_goMonths_L23 a1 a2) (m1, 0) (fun m5 => some (m5.1 38 60, m5)))))
set_option maxRecDepth 4000 in
theorem c_X11_goMonths {g : Cf} {m mm : Sg} {r : Int32} {a1 : Int32} {a2 : Int32} (HX : XOK g) (hm : f_X11_goMonths  m a1 a2 = some (r, mm)) : Cl g 79 yX11_goMonths cX11_goMonths 4 (some .int) [.ref (g.ad 27), .int a1, .int a2] m (some (.int r)) mm := by
  refine cl_of (by decide) (Nat.le_of_ble_eq_true rfl) (vs := [some (.ref (g.ad 27)), some (.int a1), some (.int a2), none]) rfl rfl ?_
  show GX g 79 RX11 cX11_goMonths 4 (some .int) (some (.int r)) mm 0 _ [] m
  unfold f_X11_goMonths at hm
  refine g_aloadn_0 dX11_goMonths_0 ?_
  refine g_geti fo_11_24 pn_27 pc_27 rfl dX11_goMonths_1 ?_
  refine g_if_eq 19 hm dX11_goMonths_4 (by decide) (fun hm => ?_) (fun hm => ?_)
  · refine g_iconst (-1) dX11_goMonths_19 rfl ?_
    exact g_iret hm dX11_goMonths_20
  · refine g_iloadn_1 dX11_goMonths_7 ?_
    refine g_i2l dX11_goMonths_8 ?_
    refine g_lconst 1 dX11_goMonths_9 rfl ?_
    refine g_ldc2_w dX11_goMonths_10 ck_X11_368 ?_
    refine g_s3 hm (fun _ _ h => c_X11_isIn h) ce_X11_isIn lk_X11_201 rfl rfl dX11_goMonths_13 (fun x2 m1 hm => ?_)
    refine g_if_ne 21 hm dX11_goMonths_16 (by decide) (fun hm => ?_) (fun hm => ?_)
    · refine g_iconst 0 dX11_goMonths_21 rfl ?_
      refine g_istoren_3 dX11_goMonths_22 rfl ?_
      refine g_lp (I := fun (s : Sg × Int32) => GX g 79 RX11 cX11_goMonths 4 (some .int) (some (.int r)) mm 23 [some (.ref (g.ad 27)), some (.int a1), some (.int a2), some (.int (s.2))] [] s.1) (E := fun (s : Sg) => GX g 79 RX11 cX11_goMonths 4 (some .int) (some (.int r)) mm 47 [some (.ref (g.ad 27)), none, none, none] [] s) hm ?_ ?_
      · rintro m5 hm
        (try dsimp only at hm)
        (try dsimp only)
        refine g_aloadn_0 dX11_goMonths_47 ?_
        refine g_getr (q := 38) fo_11_29 pn_27 pc_27 rfl rfl dX11_goMonths_48 ?_
        refine g_bipush 60 dX11_goMonths_51 rfl ?_
        refine g_ialoadc 60 rfl rfl ar_38.1 ar_38.2 dX11_goMonths_53 ?_
        exact g_iret hm dX11_goMonths_54
      · rintro ⟨m3, x4⟩ o hm hx7 hi6
        (try dsimp only [f_X11_goMonths_L23] at hm)
        (try dsimp only)
        refine g_iloadn_3 dX11_goMonths_23 ?_
        refine g_iloadn_1 dX11_goMonths_24 ?_
        refine g_icmp_ge 47 hm dX11_goMonths_25 (by decide) (fun hm => ?_) (fun hm => ?_)
        · refine g_weak (vs' := [some (.ref (g.ad 27)), none, none, none]) ⟨rfl, trivial⟩ ?_
          cases hm
          exact hx7 _ rfl
        · refine g_aloadn_0 dX11_goMonths_28 ?_
          refine g_v0V hm (fun _ h => c_X11_remember h) pn_27 (pc_27 _ _) rfl ce_X11_remember lk_X11_359 rfl rfl dX11_goMonths_29 (fun m8 hm => ?_)
          refine g_aloadn_0 dX11_goMonths_32 ?_
          refine g_aloadn_0 dX11_goMonths_33 ?_
          refine g_getr (q := 38) fo_11_29 pn_27 pc_27 rfl rfl dX11_goMonths_34 ?_
          refine g_iloadn_2 dX11_goMonths_37 ?_
          refine g_v2V hm (fun _ h => c_X11_goMonth HX ar_38 h) pn_27 (pc_27 _ _) rfl ce_X11_goMonth lk_X11_370 rfl rfl dX11_goMonths_38 (fun m9 hm => ?_)
          refine g_iinc_3 1 hm dX11_goMonths_41 rfl rfl (fun x10 hm => ?_)
          refine g_goto 23 dX11_goMonths_44 (by decide) ?_
          cases hm
          exact hi6 _ rfl
    · refine g_iconst (-1) dX11_goMonths_19 rfl ?_
      exact g_iret hm dX11_goMonths_20
def f_X11_months  (m : Sg) (a1 : Int32) : Option (Int32 × Sg) :=
  bnd (wr m 27 0 0) (fun m1 => cal (f_X11_goMonths m1 a1 0) (fun x3 m2 => some (x3, m2)))
set_option maxRecDepth 4000 in
theorem c_X11_months {g : Cf} {m mm : Sg} {r : Int32} {a1 : Int32} (HX : XOK g) (hm : f_X11_months  m a1 = some (r, mm)) : Cl g 80 yX11_months cX11_months 2 (some .int) [.ref (g.ad 27), .int a1] m (some (.int r)) mm := by
  refine cl_of (by decide) (Nat.le_of_ble_eq_true rfl) (vs := [some (.ref (g.ad 27)), some (.int a1)]) rfl rfl ?_
  show GX g 80 RX11 cX11_months 2 (some .int) (some (.int r)) mm 0 _ [] m
  unfold f_X11_months at hm
  refine g_aloadn_0 dX11_months_0 ?_
  refine g_iconst 0 dX11_months_1 rfl ?_
  refine g_put hm fo_11_0 fp_11_0 pn_27 pc_27 rfl dX11_months_2 (fun m1 hm => ?_)
  refine g_aloadn_0 dX11_months_5 ?_
  refine g_iloadn_1 dX11_months_6 ?_
  refine g_iconst 0 dX11_months_7 rfl ?_
  refine g_v2 hm (fun _ _ h => c_X11_goMonths HX h) pn_27 (pc_27 _ _) rfl ce_X11_goMonths lk_X11_374 rfl rfl dX11_months_8 (fun x3 m2 hm => ?_)
  exact g_iret hm dX11_months_11
def f_X11_fevers  (m : Sg) (a1 : Int32) (a2 : Int64) : Option (Int32 × Sg) :=
  bnd (wr m 27 0 0) (fun m1 => bnd (wrl m1 27 a2) (fun m2 => cal (f_X11_goMonths m2 a1 1) (fun x4 m3 => some (x4, m3))))
set_option maxRecDepth 4000 in
theorem c_X11_fevers {g : Cf} {m mm : Sg} {r : Int32} {a1 : Int32} {a2 : Int64} (HX : XOK g) (hm : f_X11_fevers  m a1 a2 = some (r, mm)) : Cl g 80 yX11_fevers cX11_fevers 4 (some .int) [.ref (g.ad 27), .int a1, .long a2] m (some (.int r)) mm := by
  refine cl_of (by decide) (Nat.le_of_ble_eq_true rfl) (vs := [some (.ref (g.ad 27)), some (.int a1), some (.long a2), none]) rfl rfl ?_
  show GX g 80 RX11 cX11_fevers 4 (some .int) (some (.int r)) mm 0 _ [] m
  unfold f_X11_fevers at hm
  refine g_aloadn_0 dX11_fevers_0 ?_
  refine g_iconst 0 dX11_fevers_1 rfl ?_
  refine g_put hm fo_11_0 fp_11_0 pn_27 pc_27 rfl dX11_fevers_2 (fun m1 hm => ?_)
  refine g_aloadn_0 dX11_fevers_5 ?_
  refine g_lloadn_2 dX11_fevers_6 ?_
  refine g_putl hm fo_11_33 fp_11_33 pn_27 pc_27 rfl lu_11 dX11_fevers_7 (fun m2 hm => ?_)
  refine g_aloadn_0 dX11_fevers_10 ?_
  refine g_iloadn_1 dX11_fevers_11 ?_
  refine g_iconst 1 dX11_fevers_12 rfl ?_
  refine g_v2 hm (fun _ _ h => c_X11_goMonths HX h) pn_27 (pc_27 _ _) rfl ce_X11_goMonths lk_X11_374 rfl rfl dX11_fevers_13 (fun x4 m3 hm => ?_)
  exact g_iret hm dX11_fevers_16
def f_X11_ahead_L51 (a1 : Int32) : (Sg × Int32) → Option (((Sg)) ⊕ (Sg × Int32)) := fun s => match s with
  | (m9, x10) => 
  (if a1 ≤ x10 then some (.inl m9) else
  calv (f_X11_goMonth 39 m9 0) (fun m14 => bnd (x10 + 1) (fun x15 => some (.inr (m14, x15)))))
def f_X11_ahead  (m : Sg) (a1 : Int32) (a2 : Int32) : Option (Int32 × Sg) :=
  bnd (wr m 27 0 0) (fun m1 => bnd (fun (m2 : Sg) => some ((-1000000), m2)) (fun (k3 : Sg → Option (Int32 × Sg)) =>
  (if (m1.1 27 24) = 0 then k3 m1 else
  cal (f_X11_isIn m1 ((a1 : Int32).toInt64) 0 60) (fun x5 m4 => (if x5 = 0 then k3 m4 else
  cal (f_X11_isIn m4 ((a2 : Int32).toInt64) 0 1) (fun x7 m6 => (if x7 = 0 then k3 m6 else
  calv (f_X11_copy 38 39 m6) (fun m8 => lpk (f_X11_ahead_L51 a1) (m8, 0) (fun m11 => (if a2 = 0 then some (m11.1 39 61, m11) else
  some (m11.1 39 62, m11)))))))))))
set_option maxRecDepth 4000 in
theorem c_X11_ahead {g : Cf} {m mm : Sg} {r : Int32} {a1 : Int32} {a2 : Int32} (HX : XOK g) (hm : f_X11_ahead  m a1 a2 = some (r, mm)) : Cl g 79 yX11_ahead cX11_ahead 4 (some .int) [.ref (g.ad 27), .int a1, .int a2] m (some (.int r)) mm := by
  refine cl_of (by decide) (Nat.le_of_ble_eq_true rfl) (vs := [some (.ref (g.ad 27)), some (.int a1), some (.int a2), none]) rfl rfl ?_
  show GX g 79 RX11 cX11_ahead 4 (some .int) (some (.int r)) mm 0 _ [] m
  unfold f_X11_ahead at hm
  refine g_aloadn_0 dX11_ahead_0 ?_
  refine g_iconst 0 dX11_ahead_1 rfl ?_
  refine g_put hm fo_11_0 fp_11_0 pn_27 pc_27 rfl dX11_ahead_2 (fun m1 hm => ?_)
  refine g_aloadn_0 dX11_ahead_5 ?_
  refine g_geti fo_11_24 pn_27 pc_27 rfl dX11_ahead_6 ?_
  refine g_jn (J := fun (s : Sg) => GX g 79 RX11 cX11_ahead 4 (some .int) (some (.int r)) mm 34 [none, none, none, none] [] s) hm ?_ ?_
  · intro m2 hm
    refine g_ldc_w dX11_ahead_34 ck_X11_378 ?_
    exact g_iret hm dX11_ahead_37
  · intro k3 hk3 hm
    refine g_if_eq 34 hm dX11_ahead_9 (by decide) (fun hm => ?_) (fun hm => ?_)
    · refine g_weak (vs' := [none, none, none, none]) trivial ?_
      exact hk3 _ hm
    · refine g_iloadn_1 dX11_ahead_12 ?_
      refine g_i2l dX11_ahead_13 ?_
      refine g_lconst 0 dX11_ahead_14 rfl ?_
      refine g_ldc2_w dX11_ahead_15 ck_X11_368 ?_
      refine g_s3 hm (fun _ _ h => c_X11_isIn h) ce_X11_isIn lk_X11_201 rfl rfl dX11_ahead_18 (fun x5 m4 hm => ?_)
      refine g_if_eq 34 hm dX11_ahead_21 (by decide) (fun hm => ?_) (fun hm => ?_)
      · refine g_weak (vs' := [none, none, none, none]) trivial ?_
        exact hk3 _ hm
      · refine g_iloadn_2 dX11_ahead_24 ?_
        refine g_i2l dX11_ahead_25 ?_
        refine g_lconst 0 dX11_ahead_26 rfl ?_
        refine g_lconst 1 dX11_ahead_27 rfl ?_
        refine g_s3 hm (fun _ _ h => c_X11_isIn h) ce_X11_isIn lk_X11_201 rfl rfl dX11_ahead_28 (fun x7 m6 hm => ?_)
        refine g_if_ne 38 hm dX11_ahead_31 (by decide) (fun hm => ?_) (fun hm => ?_)
        · refine g_aloadn_0 dX11_ahead_38 ?_
          refine g_getr (q := 38) fo_11_29 pn_27 pc_27 rfl rfl dX11_ahead_39 ?_
          refine g_aloadn_0 dX11_ahead_42 ?_
          refine g_getr (q := 39) fo_11_30 pn_27 pc_27 rfl rfl dX11_ahead_43 ?_
          refine g_s2V hm (fun _ h => c_X11_copy ar_38 ar_39 h) ce_X11_copy lk_X11_379 rfl rfl dX11_ahead_46 (fun m8 hm => ?_)
          refine g_iconst 0 dX11_ahead_49 rfl ?_
          refine g_istoren_3 dX11_ahead_50 rfl ?_
          refine g_lp (I := fun (s : Sg × Int32) => GX g 79 RX11 cX11_ahead 4 (some .int) (some (.int r)) mm 51 [some (.ref (g.ad 27)), some (.int a1), some (.int a2), some (.int (s.2))] [] s.1) (E := fun (s : Sg) => GX g 79 RX11 cX11_ahead 4 (some .int) (some (.int r)) mm 71 [some (.ref (g.ad 27)), none, some (.int a2), none] [] s) hm ?_ ?_
          · rintro m11 hm
            (try dsimp only at hm)
            (try dsimp only)
            refine g_iloadn_2 dX11_ahead_71 ?_
            refine g_if_ne 85 hm dX11_ahead_72 (by decide) (fun hm => ?_) (fun hm => ?_)
            · refine g_aloadn_0 dX11_ahead_85 ?_
              refine g_getr (q := 39) fo_11_30 pn_27 pc_27 rfl rfl dX11_ahead_86 ?_
              refine g_bipush 62 dX11_ahead_89 rfl ?_
              refine g_ialoadc 62 rfl rfl ar_39.1 ar_39.2 dX11_ahead_91 ?_
              exact g_iret hm dX11_ahead_92
            · refine g_aloadn_0 dX11_ahead_75 ?_
              refine g_getr (q := 39) fo_11_30 pn_27 pc_27 rfl rfl dX11_ahead_76 ?_
              refine g_bipush 61 dX11_ahead_79 rfl ?_
              refine g_ialoadc 61 rfl rfl ar_39.1 ar_39.2 dX11_ahead_81 ?_
              refine g_goto 92 dX11_ahead_82 (by decide) ?_
              exact g_iret hm dX11_ahead_92
          · rintro ⟨m9, x10⟩ o hm hx13 hi12
            (try dsimp only [f_X11_ahead_L51] at hm)
            (try dsimp only)
            refine g_iloadn_3 dX11_ahead_51 ?_
            refine g_iloadn_1 dX11_ahead_52 ?_
            refine g_icmp_ge 71 hm dX11_ahead_53 (by decide) (fun hm => ?_) (fun hm => ?_)
            · refine g_weak (vs' := [some (.ref (g.ad 27)), none, some (.int a2), none]) ⟨rfl, ⟨rfl, trivial⟩⟩ ?_
              cases hm
              exact hx13 _ rfl
            · refine g_aloadn_0 dX11_ahead_56 ?_
              refine g_aloadn_0 dX11_ahead_57 ?_
              refine g_getr (q := 39) fo_11_30 pn_27 pc_27 rfl rfl dX11_ahead_58 ?_
              refine g_iconst 0 dX11_ahead_61 rfl ?_
              refine g_v2V hm (fun _ h => c_X11_goMonth HX ar_39 h) pn_27 (pc_27 _ _) rfl ce_X11_goMonth lk_X11_370 rfl rfl dX11_ahead_62 (fun m14 hm => ?_)
              refine g_iinc_3 1 hm dX11_ahead_65 rfl rfl (fun x15 hm => ?_)
              refine g_goto 51 dX11_ahead_68 (by decide) ?_
              cases hm
              exact hi12 _ rfl
        · refine g_weak (vs' := [none, none, none, none]) trivial ?_
          exact hk3 _ hm
def f_X11_reigns_L6 (a1 : Int32) (a2 : Int32) (a3 : Int32) : (Sg × Int32 × Int32) → Option (((Sg × Int32)) ⊕ (Sg × Int32 × Int32)) := fun s => match s with
  | (m1, x2, x3) => 
  (if a2 ≤ x3 then some (.inl (m1, x2)) else
  calv (f_X11_goMonth 39 m1 0) (fun m8 => bnd (m8.1 39 61) (fun x9 => bnd (fun ((m10, x11) : Sg × Int32) => bnd (x2 + x11) (fun x13 => bnd (x3 + 1) (fun x14 => some (.inr (m10, x13, x14))))) (fun (k12 : Sg × Int32 → Option (((Sg × Int32)) ⊕ (Sg × Int32 × Int32))) =>
  bnd (fun (m15 : Sg) => k12 (m15, 0)) (fun (k16 : Sg → Option (((Sg × Int32)) ⊕ (Sg × Int32 × Int32))) =>
  (if x9 = (-1) then k16 m8 else
  bnd (fun (m17 : Sg) => k12 (m17, 1)) (fun (k18 : Sg → Option (((Sg × Int32)) ⊕ (Sg × Int32 × Int32))) =>
  (if a3 = 0 then (if x9 = a1 then k18 m8 else
  k16 m8) else
  if inr ((6 * x9) + 3) 48 = true then (if (m8.1 32 ((6 * x9) + 3).toNatClampNeg) = a1 then k18 m8 else
  k16 m8) else none))))))))
def f_X11_reigns  (m : Sg) (a1 : Int32) (a2 : Int32) (a3 : Int32) : Option (Int32 × Sg) :=
  lpk (f_X11_reigns_L6 a1 a2 a3) (m, 0, 0) (fun ((m4, x5) : Sg × Int32) => some (x5, m4))
set_option maxRecDepth 4000 in
theorem c_X11_reigns {g : Cf} {m mm : Sg} {r : Int32} {a1 : Int32} {a2 : Int32} {a3 : Int32} (HX : XOK g) (hm : f_X11_reigns  m a1 a2 a3 = some (r, mm)) : Cl g 79 yX11_reigns cX11_reigns 7 (some .int) [.ref (g.ad 27), .int a1, .int a2, .int a3] m (some (.int r)) mm := by
  refine cl_of (by decide) (Nat.le_of_ble_eq_true rfl) (vs := [some (.ref (g.ad 27)), some (.int a1), some (.int a2), some (.int a3), none, none, none]) rfl rfl ?_
  show GX g 79 RX11 cX11_reigns 7 (some .int) (some (.int r)) mm 0 _ [] m
  unfold f_X11_reigns at hm
  refine g_iconst 0 dX11_reigns_0 rfl ?_
  refine g_istore_4 dX11_reigns_1 rfl ?_
  refine g_iconst 0 dX11_reigns_3 rfl ?_
  refine g_istore_5 dX11_reigns_4 rfl ?_
  refine g_lp (I := fun (s : Sg × Int32 × Int32) => GX g 79 RX11 cX11_reigns 7 (some .int) (some (.int r)) mm 6 [some (.ref (g.ad 27)), some (.int a1), some (.int a2), some (.int a3), some (.int (s.2.1)), some (.int (s.2.2)), none] [] s.1) (E := fun (s : Sg × Int32) => GX g 79 RX11 cX11_reigns 7 (some .int) (some (.int r)) mm 81 [none, none, none, none, some (.int (s.2)), none, none] [] s.1) hm ?_ ?_
  · rintro ⟨m4, x5⟩ hm
    (try dsimp only at hm)
    (try dsimp only)
    refine g_iload_4 dX11_reigns_81 ?_
    exact g_iret hm dX11_reigns_83
  · rintro ⟨m1, x2, x3⟩ o hm hx7 hi6
    (try dsimp only [f_X11_reigns_L6] at hm)
    (try dsimp only)
    refine g_iload_5 dX11_reigns_6 ?_
    refine g_iloadn_2 dX11_reigns_8 ?_
    refine g_icmp_ge 81 hm dX11_reigns_9 (by decide) (fun hm => ?_) (fun hm => ?_)
    · refine g_weak (vs' := [none, none, none, none, some (.int x2), none, none]) ⟨rfl, trivial⟩ ?_
      cases hm
      exact hx7 _ rfl
    · refine g_aloadn_0 dX11_reigns_12 ?_
      refine g_aloadn_0 dX11_reigns_13 ?_
      refine g_getr (q := 39) fo_11_30 pn_27 pc_27 rfl rfl dX11_reigns_14 ?_
      refine g_iconst 0 dX11_reigns_17 rfl ?_
      refine g_v2V hm (fun _ h => c_X11_goMonth HX ar_39 h) pn_27 (pc_27 _ _) rfl ce_X11_goMonth lk_X11_370 rfl rfl dX11_reigns_18 (fun m8 hm => ?_)
      refine g_aloadn_0 dX11_reigns_21 ?_
      refine g_getr (q := 39) fo_11_30 pn_27 pc_27 rfl rfl dX11_reigns_22 ?_
      refine g_bipush 61 dX11_reigns_25 rfl ?_
      refine g_ialoadc 61 rfl rfl ar_39.1 ar_39.2 dX11_reigns_27 ?_
      refine g_istoreB_6 hm dX11_reigns_28 rfl (fun x9 hm => ?_)
      refine g_iload_4 dX11_reigns_30 ?_
      refine g_iload_6 dX11_reigns_32 ?_
      refine g_iconst (-1) dX11_reigns_34 rfl ?_
      refine g_jn (J := fun (s : Sg × Int32) => GX g 79 RX11 cX11_reigns 7 (some .int) (some (.int r)) mm 72 [some (.ref (g.ad 27)), some (.int a1), some (.int a2), some (.int a3), none, some (.int x3), none] [.int (s.2), .int x2] s.1) hm ?_ ?_
      · rintro ⟨m10, x11⟩ hm
        (try dsimp only at hm)
        (try dsimp only)
        refine g_iadd dX11_reigns_72 ?_
        refine g_istoreB_4 hm dX11_reigns_73 rfl (fun x13 hm => ?_)
        refine g_iinc_5 1 hm dX11_reigns_75 rfl rfl (fun x14 hm => ?_)
        refine g_goto 6 dX11_reigns_78 (by decide) ?_
        cases hm
        exact hi6 _ rfl
      · intro k12 hk12 hm
        refine g_jn (J := fun (s : Sg) => GX g 79 RX11 cX11_reigns 7 (some .int) (some (.int r)) mm 71 [some (.ref (g.ad 27)), some (.int a1), some (.int a2), some (.int a3), none, some (.int x3), none] [.int x2] s) hm ?_ ?_
        · intro m15 hm
          refine g_iconst 0 dX11_reigns_71 rfl ?_
          exact hk12 _ hm
        · intro k16 hk16 hm
          refine g_icmp_eq 71 hm dX11_reigns_35 (by decide) (fun hm => ?_) (fun hm => ?_)
          · refine g_weak (vs' := [some (.ref (g.ad 27)), some (.int a1), some (.int a2), some (.int a3), none, some (.int x3), none]) ⟨rfl, ⟨rfl, ⟨rfl, ⟨rfl, ⟨rfl, trivial⟩⟩⟩⟩⟩ ?_
            exact hk16 _ hm
          · refine g_iloadn_3 dX11_reigns_38 ?_
            refine g_jn (J := fun (s : Sg) => GX g 79 RX11 cX11_reigns 7 (some .int) (some (.int r)) mm 67 [some (.ref (g.ad 27)), some (.int a1), some (.int a2), some (.int a3), none, some (.int x3), none] [.int x2] s) hm ?_ ?_
            · intro m17 hm
              refine g_iconst 1 dX11_reigns_67 rfl ?_
              refine g_goto 72 dX11_reigns_68 (by decide) ?_
              exact hk12 _ hm
            · intro k18 hk18 hm
              refine g_if_ne 51 hm dX11_reigns_39 (by decide) (fun hm => ?_) (fun hm => ?_)
              · refine g_aloadn_0 dX11_reigns_51 ?_
                refine g_getr (q := 32) fo_11_18 pn_27 pc_27 rfl rfl dX11_reigns_52 ?_
                refine g_bipush 6 dX11_reigns_55 rfl ?_
                refine g_iload_6 dX11_reigns_57 ?_
                refine g_imul dX11_reigns_59 ?_
                refine g_iconst 3 dX11_reigns_60 rfl ?_
                refine g_iadd dX11_reigns_61 ?_
                refine g_iaload hm ar_32.1 ar_32.2 dX11_reigns_62 (fun hm => ?_)
                refine g_iloadn_1 dX11_reigns_63 ?_
                refine g_icmp_ne 71 hm dX11_reigns_64 (by decide) (fun hm => ?_) (fun hm => ?_)
                · refine g_weak (vs' := [some (.ref (g.ad 27)), some (.int a1), some (.int a2), some (.int a3), none, some (.int x3), none]) ⟨rfl, ⟨rfl, ⟨rfl, ⟨rfl, ⟨rfl, trivial⟩⟩⟩⟩⟩ ?_
                  exact hk16 _ hm
                · refine g_weak (vs' := [some (.ref (g.ad 27)), some (.int a1), some (.int a2), some (.int a3), none, some (.int x3), none]) ⟨rfl, ⟨rfl, ⟨rfl, ⟨rfl, ⟨rfl, trivial⟩⟩⟩⟩⟩ ?_
                  exact hk18 _ hm
              · refine g_iload_6 dX11_reigns_42 ?_
                refine g_iloadn_1 dX11_reigns_44 ?_
                refine g_icmp_ne 71 hm dX11_reigns_45 (by decide) (fun hm => ?_) (fun hm => ?_)
                · refine g_weak (vs' := [some (.ref (g.ad 27)), some (.int a1), some (.int a2), some (.int a3), none, some (.int x3), none]) ⟨rfl, ⟨rfl, ⟨rfl, ⟨rfl, ⟨rfl, trivial⟩⟩⟩⟩⟩ ?_
                  exact hk16 _ hm
                · refine g_goto 67 dX11_reigns_48 (by decide) ?_
                  refine g_weak (vs' := [some (.ref (g.ad 27)), some (.int a1), some (.int a2), some (.int a3), none, some (.int x3), none]) ⟨rfl, ⟨rfl, ⟨rfl, ⟨rfl, ⟨rfl, trivial⟩⟩⟩⟩⟩ ?_
                  exact hk18 _ hm
def f_X11_reign  (m : Sg) (a1 : Int32) (a2 : Int32) (a3 : Int32) : Option (Int32 × Sg) :=
  bnd (wr m 27 0 0) (fun m1 => cal (f_X11_isIn m1 ((a3 : Int32).toInt64) 0 1) (fun x3 m2 => (if x3 = 0 then some ((-1), m2) else
  cal (f_X11_isIn m2 ((a2 : Int32).toInt64) 1 60) (fun x5 m4 => (if x5 = 0 then some ((-1), m4) else
  bnd (fun (m6 : Sg) => calv (f_X11_copy 38 39 m6) (fun m8 => cal (f_X11_reigns m8 a1 a2 a3) (fun x10 m9 => some (x10, m9)))) (fun (k7 : Sg → Option (Int32 × Sg)) =>
  (if a3 = 0 then cal (f_X11_isChild m4 a1) (fun x14 m13 => (if x14 = 0 then some ((-1), m13) else
  k7 m13)) else
  cal (f_X11_isNursery m4 a1) (fun x12 m11 => (if x12 = 0 then some ((-1), m11) else
  k7 m11)))))))))
set_option maxRecDepth 4000 in
theorem c_X11_reign {g : Cf} {m mm : Sg} {r : Int32} {a1 : Int32} {a2 : Int32} {a3 : Int32} (HX : XOK g) (hm : f_X11_reign  m a1 a2 a3 = some (r, mm)) : Cl g 80 yX11_reign cX11_reign 4 (some .int) [.ref (g.ad 27), .int a1, .int a2, .int a3] m (some (.int r)) mm := by
  refine cl_of (by decide) (Nat.le_of_ble_eq_true rfl) (vs := [some (.ref (g.ad 27)), some (.int a1), some (.int a2), some (.int a3)]) rfl rfl ?_
  show GX g 80 RX11 cX11_reign 4 (some .int) (some (.int r)) mm 0 _ [] m
  unfold f_X11_reign at hm
  refine g_aloadn_0 dX11_reign_0 ?_
  refine g_iconst 0 dX11_reign_1 rfl ?_
  refine g_put hm fo_11_0 fp_11_0 pn_27 pc_27 rfl dX11_reign_2 (fun m1 hm => ?_)
  refine g_iloadn_3 dX11_reign_5 ?_
  refine g_i2l dX11_reign_6 ?_
  refine g_lconst 0 dX11_reign_7 rfl ?_
  refine g_lconst 1 dX11_reign_8 rfl ?_
  refine g_s3 hm (fun _ _ h => c_X11_isIn h) ce_X11_isIn lk_X11_201 rfl rfl dX11_reign_9 (fun x3 m2 hm => ?_)
  refine g_if_eq 50 hm dX11_reign_12 (by decide) (fun hm => ?_) (fun hm => ?_)
  · refine g_iconst (-1) dX11_reign_50 rfl ?_
    exact g_iret hm dX11_reign_51
  · refine g_iloadn_2 dX11_reign_15 ?_
    refine g_i2l dX11_reign_16 ?_
    refine g_lconst 1 dX11_reign_17 rfl ?_
    refine g_ldc2_w dX11_reign_18 ck_X11_368 ?_
    refine g_s3 hm (fun _ _ h => c_X11_isIn h) ce_X11_isIn lk_X11_201 rfl rfl dX11_reign_21 (fun x5 m4 hm => ?_)
    refine g_if_eq 50 hm dX11_reign_24 (by decide) (fun hm => ?_) (fun hm => ?_)
    · refine g_iconst (-1) dX11_reign_50 rfl ?_
      exact g_iret hm dX11_reign_51
    · refine g_iloadn_3 dX11_reign_27 ?_
      refine g_jn (J := fun (s : Sg) => GX g 80 RX11 cX11_reign 4 (some .int) (some (.int r)) mm 52 [some (.ref (g.ad 27)), some (.int a1), some (.int a2), some (.int a3)] [] s) hm ?_ ?_
      · intro m6 hm
        refine g_aloadn_0 dX11_reign_52 ?_
        refine g_getr (q := 38) fo_11_29 pn_27 pc_27 rfl rfl dX11_reign_53 ?_
        refine g_aloadn_0 dX11_reign_56 ?_
        refine g_getr (q := 39) fo_11_30 pn_27 pc_27 rfl rfl dX11_reign_57 ?_
        refine g_s2V hm (fun _ h => c_X11_copy ar_38 ar_39 h) ce_X11_copy lk_X11_379 rfl rfl dX11_reign_60 (fun m8 hm => ?_)
        refine g_aloadn_0 dX11_reign_63 ?_
        refine g_iloadn_1 dX11_reign_64 ?_
        refine g_iloadn_2 dX11_reign_65 ?_
        refine g_iloadn_3 dX11_reign_66 ?_
        refine g_v3 hm (fun _ _ h => c_X11_reigns HX h) pn_27 (pc_27 _ _) rfl ce_X11_reigns lk_X11_388 rfl rfl dX11_reign_67 (fun x10 m9 hm => ?_)
        exact g_iret hm dX11_reign_70
      · intro k7 hk7 hm
        refine g_if_ne 42 hm dX11_reign_28 (by decide) (fun hm => ?_) (fun hm => ?_)
        · refine g_aloadn_0 dX11_reign_42 ?_
          refine g_iloadn_1 dX11_reign_43 ?_
          refine g_v1 hm (fun _ _ h => c_X11_isNursery h) pn_27 (pc_27 _ _) rfl ce_X11_isNursery lk_X11_385 rfl rfl dX11_reign_44 (fun x12 m11 hm => ?_)
          refine g_if_ne 52 hm dX11_reign_47 (by decide) (fun hm => ?_) (fun hm => ?_)
          · exact hk7 _ hm
          · refine g_iconst (-1) dX11_reign_50 rfl ?_
            exact g_iret hm dX11_reign_51
        · refine g_aloadn_0 dX11_reign_31 ?_
          refine g_iloadn_1 dX11_reign_32 ?_
          refine g_v1 hm (fun _ _ h => c_X11_isChild h) pn_27 (pc_27 _ _) rfl ce_X11_isChild lk_X11_296 rfl rfl dX11_reign_33 (fun x14 m13 hm => ?_)
          refine g_if_ne 52 hm dX11_reign_36 (by decide) (fun hm => ?_) (fun hm => ?_)
          · exact hk7 _ hm
          · refine g_goto 50 dX11_reign_39 (by decide) ?_
            refine g_iconst (-1) dX11_reign_50 rfl ?_
            exact g_iret hm dX11_reign_51
def f_X11_reignBy  (m : Sg) (a1 : Int32) (a2 : Int32) (a3 : Int32) : Option (Int32 × Sg) :=
  calv (f_X11_copy 38 39 m) (fun m1 => bnd (wr m1 27 34 a1) (fun m2 => bnd (wr m2 27 35 0) (fun m3 => bnd (wr m3 27 36 a3) (fun m4 => bnd (fun (m5 : Sg) => cal (f_X11_reigns m5 a1 a2 0) (fun x8 m7 => bnd (wr m7 27 34 (-1)) (fun m9 => some (x8, m9)))) (fun (k6 : Sg → Option (Int32 × Sg)) =>
  (if a3 ≤ 0 then k6 m4 else
  calv (f_X11_begins 39 m4 a1) (fun m10 => k6 m10)))))))
set_option maxRecDepth 4000 in
theorem c_X11_reignBy {g : Cf} {m mm : Sg} {r : Int32} {a1 : Int32} {a2 : Int32} {a3 : Int32} (HX : XOK g) (hm : f_X11_reignBy  m a1 a2 a3 = some (r, mm)) : Cl g 80 yX11_reignBy cX11_reignBy 5 (some .int) [.ref (g.ad 27), .int a1, .int a2, .int a3] m (some (.int r)) mm := by
  refine cl_of (by decide) (Nat.le_of_ble_eq_true rfl) (vs := [some (.ref (g.ad 27)), some (.int a1), some (.int a2), some (.int a3), none]) rfl rfl ?_
  show GX g 80 RX11 cX11_reignBy 5 (some .int) (some (.int r)) mm 0 _ [] m
  unfold f_X11_reignBy at hm
  refine g_aloadn_0 dX11_reignBy_0 ?_
  refine g_getr (q := 38) fo_11_29 pn_27 pc_27 rfl rfl dX11_reignBy_1 ?_
  refine g_aloadn_0 dX11_reignBy_4 ?_
  refine g_getr (q := 39) fo_11_30 pn_27 pc_27 rfl rfl dX11_reignBy_5 ?_
  refine g_s2V hm (fun _ h => c_X11_copy ar_38 ar_39 h) ce_X11_copy lk_X11_379 rfl rfl dX11_reignBy_8 (fun m1 hm => ?_)
  refine g_aloadn_0 dX11_reignBy_11 ?_
  refine g_iloadn_1 dX11_reignBy_12 ?_
  refine g_put hm fo_11_34 fp_11_34 pn_27 pc_27 rfl dX11_reignBy_13 (fun m2 hm => ?_)
  refine g_aloadn_0 dX11_reignBy_16 ?_
  refine g_iconst 0 dX11_reignBy_17 rfl ?_
  refine g_put hm fo_11_35 fp_11_35 pn_27 pc_27 rfl dX11_reignBy_18 (fun m3 hm => ?_)
  refine g_aloadn_0 dX11_reignBy_21 ?_
  refine g_iloadn_3 dX11_reignBy_22 ?_
  refine g_put hm fo_11_36 fp_11_36 pn_27 pc_27 rfl dX11_reignBy_23 (fun m4 hm => ?_)
  refine g_iloadn_3 dX11_reignBy_26 ?_
  refine g_jn (J := fun (s : Sg) => GX g 80 RX11 cX11_reignBy 5 (some .int) (some (.int r)) mm 39 [some (.ref (g.ad 27)), some (.int a1), some (.int a2), none, none] [] s) hm ?_ ?_
  · intro m5 hm
    refine g_aloadn_0 dX11_reignBy_39 ?_
    refine g_iloadn_1 dX11_reignBy_40 ?_
    refine g_iloadn_2 dX11_reignBy_41 ?_
    refine g_iconst 0 dX11_reignBy_42 rfl ?_
    refine g_v3 hm (fun _ _ h => c_X11_reigns HX h) pn_27 (pc_27 _ _) rfl ce_X11_reigns lk_X11_388 rfl rfl dX11_reignBy_43 (fun x8 m7 hm => ?_)
    refine g_istore_4 dX11_reignBy_46 rfl ?_
    refine g_aloadn_0 dX11_reignBy_48 ?_
    refine g_iconst (-1) dX11_reignBy_49 rfl ?_
    refine g_put hm fo_11_34 fp_11_34 pn_27 pc_27 rfl dX11_reignBy_50 (fun m9 hm => ?_)
    refine g_iload_4 dX11_reignBy_53 ?_
    exact g_iret hm dX11_reignBy_55
  · intro k6 hk6 hm
    refine g_if_le 39 hm dX11_reignBy_27 (by decide) (fun hm => ?_) (fun hm => ?_)
    · refine g_weak (vs' := [some (.ref (g.ad 27)), some (.int a1), some (.int a2), none, none]) ⟨rfl, ⟨rfl, ⟨rfl, trivial⟩⟩⟩ ?_
      exact hk6 _ hm
    · refine g_aloadn_0 dX11_reignBy_30 ?_
      refine g_aloadn_0 dX11_reignBy_31 ?_
      refine g_getr (q := 39) fo_11_30 pn_27 pc_27 rfl rfl dX11_reignBy_32 ?_
      refine g_iloadn_1 dX11_reignBy_35 ?_
      refine g_v2V hm (fun _ h => c_X11_begins ar_39 h) pn_27 (pc_27 _ _) rfl ce_X11_begins lk_X11_334 rfl rfl dX11_reignBy_36 (fun m10 hm => ?_)
      refine g_weak (vs' := [some (.ref (g.ad 27)), some (.int a1), some (.int a2), none, none]) ⟨rfl, ⟨rfl, ⟨rfl, trivial⟩⟩⟩ ?_
      exact hk6 _ hm
def f_X11_rulesAll_L14 (a2 : Int32) (a4 : Int32) : (Sg × Int32) → Option (((Sg)) ⊕ (Sg × Int32)) := fun s => match s with
  | (m2, x3) => 
  (if (m2.1 27 24) ≤ x3 then some (.inl m2) else
  cal (f_X11_has m2 a4 x3) (fun x8 m7 => bnd (fun (m9 : Sg) => bnd (x3 + 1) (fun x11 => some (.inr (m9, x11)))) (fun (k10 : Sg → Option (((Sg)) ⊕ (Sg × Int32))) =>
  (if x8 = 0 then k10 m7 else
  calv (f_X11_keeps 39 m7 x3 a2) (fun m12 => k10 m12)))))
def f_X11_rulesAll  (m : Sg) (a1 : Int32) (a2 : Int32) (a3 : Int32) (a4 : Int32) : Option (Int32 × Sg) :=
  calv (f_X11_copy 38 39 m) (fun m1 => lpk (f_X11_rulesAll_L14 a2 a4) (m1, 0) (fun m4 => cal (f_X11_reigns m4 a1 a3 0) (fun x14 m13 => (if x14 = a3 then some (1, m13) else
  some (0, m13)))))
set_option maxRecDepth 4000 in
theorem c_X11_rulesAll {g : Cf} {m mm : Sg} {r : Int32} {a1 : Int32} {a2 : Int32} {a3 : Int32} {a4 : Int32} (HX : XOK g) (hm : f_X11_rulesAll  m a1 a2 a3 a4 = some (r, mm)) : Cl g 80 yX11_rulesAll cX11_rulesAll 6 (some .boolean) [.ref (g.ad 27), .int a1, .int a2, .int a3, .int a4] m (some (.int r)) mm := by
  refine cl_of (by decide) (Nat.le_of_ble_eq_true rfl) (vs := [some (.ref (g.ad 27)), some (.int a1), some (.int a2), some (.int a3), some (.int a4), none]) rfl rfl ?_
  show GX g 80 RX11 cX11_rulesAll 6 (some .boolean) (some (.int r)) mm 0 _ [] m
  unfold f_X11_rulesAll at hm
  refine g_aloadn_0 dX11_rulesAll_0 ?_
  refine g_getr (q := 38) fo_11_29 pn_27 pc_27 rfl rfl dX11_rulesAll_1 ?_
  refine g_aloadn_0 dX11_rulesAll_4 ?_
  refine g_getr (q := 39) fo_11_30 pn_27 pc_27 rfl rfl dX11_rulesAll_5 ?_
  refine g_s2V hm (fun _ h => c_X11_copy ar_38 ar_39 h) ce_X11_copy lk_X11_379 rfl rfl dX11_rulesAll_8 (fun m1 hm => ?_)
  refine g_iconst 0 dX11_rulesAll_11 rfl ?_
  refine g_istore_5 dX11_rulesAll_12 rfl ?_
  refine g_lp (I := fun (s : Sg × Int32) => GX g 80 RX11 cX11_rulesAll 6 (some .boolean) (some (.int r)) mm 14 [some (.ref (g.ad 27)), some (.int a1), some (.int a2), some (.int a3), some (.int a4), some (.int (s.2))] [] s.1) (E := fun (s : Sg) => GX g 80 RX11 cX11_rulesAll 6 (some .boolean) (some (.int r)) mm 49 [some (.ref (g.ad 27)), some (.int a1), none, some (.int a3), none, none] [] s) hm ?_ ?_
  · rintro m4 hm
    (try dsimp only at hm)
    (try dsimp only)
    refine g_aloadn_0 dX11_rulesAll_49 ?_
    refine g_iloadn_1 dX11_rulesAll_50 ?_
    refine g_iloadn_3 dX11_rulesAll_51 ?_
    refine g_iconst 0 dX11_rulesAll_52 rfl ?_
    refine g_v3 hm (fun _ _ h => c_X11_reigns HX h) pn_27 (pc_27 _ _) rfl ce_X11_reigns lk_X11_388 rfl rfl dX11_rulesAll_53 (fun x14 m13 hm => ?_)
    refine g_iloadn_3 dX11_rulesAll_56 ?_
    refine g_icmp_ne 64 hm dX11_rulesAll_57 (by decide) (fun hm => ?_) (fun hm => ?_)
    · refine g_iconst 0 dX11_rulesAll_64 rfl ?_
      exact g_zretc hm rfl dX11_rulesAll_65
    · refine g_iconst 1 dX11_rulesAll_60 rfl ?_
      refine g_goto 65 dX11_rulesAll_61 (by decide) ?_
      exact g_zretc hm rfl dX11_rulesAll_65
  · rintro ⟨m2, x3⟩ o hm hx6 hi5
    (try dsimp only [f_X11_rulesAll_L14] at hm)
    (try dsimp only)
    refine g_iload_5 dX11_rulesAll_14 ?_
    refine g_aloadn_0 dX11_rulesAll_16 ?_
    refine g_geti fo_11_24 pn_27 pc_27 rfl dX11_rulesAll_17 ?_
    refine g_icmp_ge 49 hm dX11_rulesAll_20 (by decide) (fun hm => ?_) (fun hm => ?_)
    · refine g_weak (vs' := [some (.ref (g.ad 27)), some (.int a1), none, some (.int a3), none, none]) ⟨rfl, ⟨rfl, ⟨rfl, trivial⟩⟩⟩ ?_
      cases hm
      exact hx6 _ rfl
    · refine g_iload_4 dX11_rulesAll_23 ?_
      refine g_iload_5 dX11_rulesAll_25 ?_
      refine g_s2 hm (fun _ _ h => c_X11_has h) ce_X11_has lk_X11_213 rfl rfl dX11_rulesAll_27 (fun x8 m7 hm => ?_)
      refine g_jn (J := fun (s : Sg) => GX g 80 RX11 cX11_rulesAll 6 (some .boolean) (some (.int r)) mm 43 [some (.ref (g.ad 27)), some (.int a1), some (.int a2), some (.int a3), some (.int a4), some (.int x3)] [] s) hm ?_ ?_
      · intro m9 hm
        refine g_iinc_5 1 hm dX11_rulesAll_43 rfl rfl (fun x11 hm => ?_)
        refine g_goto 14 dX11_rulesAll_46 (by decide) ?_
        cases hm
        exact hi5 _ rfl
      · intro k10 hk10 hm
        refine g_if_eq 43 hm dX11_rulesAll_30 (by decide) (fun hm => ?_) (fun hm => ?_)
        · exact hk10 _ hm
        · refine g_aloadn_0 dX11_rulesAll_33 ?_
          refine g_getr (q := 39) fo_11_30 pn_27 pc_27 rfl rfl dX11_rulesAll_34 ?_
          refine g_iload_5 dX11_rulesAll_37 ?_
          refine g_iloadn_2 dX11_rulesAll_39 ?_
          refine g_s3V hm (fun _ h => c_X11_keeps ar_39 h) ce_X11_keeps lk_X11_362 rfl rfl dX11_rulesAll_40 (fun m12 hm => ?_)
          exact hk10 _ hm
def f_X11_keepers_L40 (a1 : Int32) (a2 : Int32) (a3 : Int32) : (Sg × Int32 × Int32) → Option (((Sg × Int32)) ⊕ (Sg × Int32 × Int32)) := fun s => match s with
  | (m8, x9, x10) => 
  (if (1 <<< ((m8.1 27 24) &&& 31)) ≤ x10 then some (.inl (m8, x9)) else
  cal (f_X11_has m8 x10 a1) (fun x16 m15 => bnd (fun ((m17, x18) : Sg × Int32) => bnd (x10 + 1) (fun x20 => some (.inr (m17, x18, x20)))) (fun (k19 : Sg × Int32 → Option (((Sg × Int32)) ⊕ (Sg × Int32 × Int32))) =>
  (if x16 = 0 then bnd (fun (m21 : Sg) => cal (f_X11_rulesAll m21 a1 a2 a3 x10) (fun x24 m23 => (if x24 = 0 then k19 (m23, x9) else
  k19 (m23, x10)))) (fun (k22 : Sg → Option (((Sg × Int32)) ⊕ (Sg × Int32 × Int32))) =>
  (if x9 = (-1) then k22 m15 else
  cal (f_J6_bitCount_0f7a4 m15 x10) (fun x26 m25 => cal (f_J6_bitCount_0f7a4 m25 x9) (fun x28 m27 => (if x28 ≤ x26 then k19 (m27, x9) else
  k22 m27))))) else
  k19 (m15, x9)))))
def f_X11_keepers  (m : Sg) (a1 : Int32) (a2 : Int32) (a3 : Int32) : Option (Int32 × Sg) :=
  bnd (wr m 27 0 0) (fun m1 => cal (f_X11_isChild m1 a1) (fun x3 m2 => (if x3 = 0 then some ((-1), m2) else
  cal (f_X11_isTen m2 a2) (fun x5 m4 => (if x5 = 0 then some ((-1), m4) else
  cal (f_X11_isIn m4 ((a3 : Int32).toInt64) 1 12) (fun x7 m6 => (if x7 = 0 then some ((-1), m6) else
  lpk (f_X11_keepers_L40 a1 a2 a3) (m6, (-1), 0) (fun ((m11, x12) : Sg × Int32) => some (x12, m11)))))))))
set_option maxRecDepth 4000 in
theorem c_X11_keepers {g : Cf} {m mm : Sg} {r : Int32} {a1 : Int32} {a2 : Int32} {a3 : Int32} (HX : XOK g) (hm : f_X11_keepers  m a1 a2 a3 = some (r, mm)) : Cl g 81 yX11_keepers cX11_keepers 6 (some .int) [.ref (g.ad 27), .int a1, .int a2, .int a3] m (some (.int r)) mm := by
  refine cl_of (by decide) (Nat.le_of_ble_eq_true rfl) (vs := [some (.ref (g.ad 27)), some (.int a1), some (.int a2), some (.int a3), none, none]) rfl rfl ?_
  show GX g 81 RX11 cX11_keepers 6 (some .int) (some (.int r)) mm 0 _ [] m
  unfold f_X11_keepers at hm
  refine g_aloadn_0 dX11_keepers_0 ?_
  refine g_iconst 0 dX11_keepers_1 rfl ?_
  refine g_put hm fo_11_0 fp_11_0 pn_27 pc_27 rfl dX11_keepers_2 (fun m1 hm => ?_)
  refine g_aloadn_0 dX11_keepers_5 ?_
  refine g_iloadn_1 dX11_keepers_6 ?_
  refine g_v1 hm (fun _ _ h => c_X11_isChild h) pn_27 (pc_27 _ _) rfl ce_X11_isChild lk_X11_296 rfl rfl dX11_keepers_7 (fun x3 m2 hm => ?_)
  refine g_if_eq 32 hm dX11_keepers_10 (by decide) (fun hm => ?_) (fun hm => ?_)
  · refine g_iconst (-1) dX11_keepers_32 rfl ?_
    exact g_iret hm dX11_keepers_33
  · refine g_iloadn_2 dX11_keepers_13 ?_
    refine g_s1 hm (fun _ _ h => c_X11_isTen h) ce_X11_isTen lk_X11_356 rfl rfl dX11_keepers_14 (fun x5 m4 hm => ?_)
    refine g_if_eq 32 hm dX11_keepers_17 (by decide) (fun hm => ?_) (fun hm => ?_)
    · refine g_iconst (-1) dX11_keepers_32 rfl ?_
      exact g_iret hm dX11_keepers_33
    · refine g_iloadn_3 dX11_keepers_20 ?_
      refine g_i2l dX11_keepers_21 ?_
      refine g_lconst 1 dX11_keepers_22 rfl ?_
      refine g_ldc2_w dX11_keepers_23 ck_X11_410 ?_
      refine g_s3 hm (fun _ _ h => c_X11_isIn h) ce_X11_isIn lk_X11_201 rfl rfl dX11_keepers_26 (fun x7 m6 hm => ?_)
      refine g_if_ne 34 hm dX11_keepers_29 (by decide) (fun hm => ?_) (fun hm => ?_)
      · refine g_iconst (-1) dX11_keepers_34 rfl ?_
        refine g_istore_4 dX11_keepers_35 rfl ?_
        refine g_iconst 0 dX11_keepers_37 rfl ?_
        refine g_istore_5 dX11_keepers_38 rfl ?_
        refine g_lp (I := fun (s : Sg × Int32 × Int32) => GX g 81 RX11 cX11_keepers 6 (some .int) (some (.int r)) mm 40 [some (.ref (g.ad 27)), some (.int a1), some (.int a2), some (.int a3), some (.int (s.2.1)), some (.int (s.2.2))] [] s.1) (E := fun (s : Sg × Int32) => GX g 81 RX11 cX11_keepers 6 (some .int) (some (.int r)) mm 101 [none, none, none, none, some (.int (s.2)), none] [] s.1) hm ?_ ?_
        · rintro ⟨m11, x12⟩ hm
          (try dsimp only at hm)
          (try dsimp only)
          refine g_iload_4 dX11_keepers_101 ?_
          exact g_iret hm dX11_keepers_103
        · rintro ⟨m8, x9, x10⟩ o hm hx14 hi13
          (try dsimp only [f_X11_keepers_L40] at hm)
          (try dsimp only)
          refine g_iload_5 dX11_keepers_40 ?_
          refine g_iconst 1 dX11_keepers_42 rfl ?_
          refine g_aloadn_0 dX11_keepers_43 ?_
          refine g_geti fo_11_24 pn_27 pc_27 rfl dX11_keepers_44 ?_
          refine g_ishl dX11_keepers_47 ?_
          refine g_icmp_ge 101 hm dX11_keepers_48 (by decide) (fun hm => ?_) (fun hm => ?_)
          · refine g_weak (vs' := [none, none, none, none, some (.int x9), none]) ⟨rfl, trivial⟩ ?_
            cases hm
            exact hx14 _ rfl
          · refine g_iload_5 dX11_keepers_51 ?_
            refine g_iloadn_1 dX11_keepers_53 ?_
            refine g_s2 hm (fun _ _ h => c_X11_has h) ce_X11_has lk_X11_213 rfl rfl dX11_keepers_54 (fun x16 m15 hm => ?_)
            refine g_jn (J := fun (s : Sg × Int32) => GX g 81 RX11 cX11_keepers 6 (some .int) (some (.int r)) mm 95 [some (.ref (g.ad 27)), some (.int a1), some (.int a2), some (.int a3), some (.int (s.2)), some (.int x10)] [] s.1) hm ?_ ?_
            · rintro ⟨m17, x18⟩ hm
              (try dsimp only at hm)
              (try dsimp only)
              refine g_iinc_5 1 hm dX11_keepers_95 rfl rfl (fun x20 hm => ?_)
              refine g_goto 40 dX11_keepers_98 (by decide) ?_
              cases hm
              exact hi13 _ rfl
            · intro k19 hk19 hm
              refine g_if_ne 95 hm dX11_keepers_57 (by decide) (fun hm => ?_) (fun hm => ?_)
              · exact hk19 _ hm
              · refine g_iload_4 dX11_keepers_60 ?_
                refine g_iconst (-1) dX11_keepers_62 rfl ?_
                refine g_jn (J := fun (s : Sg) => GX g 81 RX11 cX11_keepers 6 (some .int) (some (.int r)) mm 79 [some (.ref (g.ad 27)), some (.int a1), some (.int a2), some (.int a3), some (.int x9), some (.int x10)] [] s) hm ?_ ?_
                · intro m21 hm
                  refine g_aloadn_0 dX11_keepers_79 ?_
                  refine g_iloadn_1 dX11_keepers_80 ?_
                  refine g_iloadn_2 dX11_keepers_81 ?_
                  refine g_iloadn_3 dX11_keepers_82 ?_
                  refine g_iload_5 dX11_keepers_83 ?_
                  refine g_v4 hm (fun _ _ h => c_X11_rulesAll HX h) pn_27 (pc_27 _ _) rfl ce_X11_rulesAll lk_X11_412 rfl rfl dX11_keepers_85 (fun x24 m23 hm => ?_)
                  refine g_if_eq 95 hm dX11_keepers_88 (by decide) (fun hm => ?_) (fun hm => ?_)
                  · exact hk19 _ hm
                  · refine g_iload_5 dX11_keepers_91 ?_
                    refine g_istore_4 dX11_keepers_93 rfl ?_
                    exact hk19 _ hm
                · intro k22 hk22 hm
                  refine g_icmp_eq 79 hm dX11_keepers_63 (by decide) (fun hm => ?_) (fun hm => ?_)
                  · exact hk22 _ hm
                  · refine g_iload_5 dX11_keepers_66 ?_
                    refine g_s1 hm (fun _ _ h => c_J6_bitCount_0f7a4 h) ce_J6_bitCount_0f7a4 lk_X11_287 rfl rfl dX11_keepers_68 (fun x26 m25 hm => ?_)
                    refine g_iload_4 dX11_keepers_71 ?_
                    refine g_s1 hm (fun _ _ h => c_J6_bitCount_0f7a4 h) ce_J6_bitCount_0f7a4 lk_X11_287 rfl rfl dX11_keepers_73 (fun x28 m27 hm => ?_)
                    refine g_icmp_ge 95 hm dX11_keepers_76 (by decide) (fun hm => ?_) (fun hm => ?_)
                    · exact hk19 _ hm
                    · exact hk22 _ hm
      · refine g_iconst (-1) dX11_keepers_32 rfl ?_
        exact g_iret hm dX11_keepers_33
def f_X11_duelOf_L28 (a1 : Int32) (a2 : Int32) : (Sg × Int32 × Int32) → Option (((Sg × Int32)) ⊕ (Sg × Int32 × Int32)) := fun s => match s with
  | (m4, x5, x6) => 
  (if 12 ≤ x6 then some (.inl (m4, x5)) else
  calv (f_X11_goMonth 39 m4 0) (fun m11 => bnd (m11.1 39 61) (fun x12 => bnd (fun ((m13, x14) : Sg × Int32) => bnd (x6 + 1) (fun x16 => some (.inr (m13, x14, x16)))) (fun (k15 : Sg × Int32 → Option (((Sg × Int32)) ⊕ (Sg × Int32 × Int32))) =>
  (if x12 = (-1) then k15 (m11, x5) else
  if inr ((6 * x12) + 3) 48 = true then bnd (fun ((m17, x18) : Sg × Int32) => bnd (x5 + x18) (fun x20 => k15 (m17, x20))) (fun (k19 : Sg × Int32 → Option (((Sg × Int32)) ⊕ (Sg × Int32 × Int32))) =>
  (if (m11.1 32 ((6 * x12) + 3).toNatClampNeg) = a1 then k19 (m11, 1) else
  if inr ((6 * x12) + 3) 48 = true then (if (m11.1 32 ((6 * x12) + 3).toNatClampNeg) = a2 then k19 (m11, (-1)) else
  k19 (m11, 0)) else none)) else none)))))
def f_X11_duelOf  (m : Sg) (a1 : Int32) (a2 : Int32) (a3 : Int32) (a4 : Int32) : Option (Int32 × Sg) :=
  calv (f_X11_copy 38 39 m) (fun m1 => calv (f_X11_teachesAtOnce m1 a3) (fun m2 => calv (f_X11_teachesAtOnce m2 a4) (fun m3 => lpk (f_X11_duelOf_L28 a1 a2) (m3, 0, 0) (fun ((m7, x8) : Sg × Int32) => some (x8, m7)))))
set_option maxRecDepth 4000 in
theorem c_X11_duelOf {g : Cf} {m mm : Sg} {r : Int32} {a1 : Int32} {a2 : Int32} {a3 : Int32} {a4 : Int32} (HX : XOK g) (hm : f_X11_duelOf  m a1 a2 a3 a4 = some (r, mm)) : Cl g 79 yX11_duelOf cX11_duelOf 8 (some .int) [.ref (g.ad 27), .int a1, .int a2, .int a3, .int a4] m (some (.int r)) mm := by
  refine cl_of (by decide) (Nat.le_of_ble_eq_true rfl) (vs := [some (.ref (g.ad 27)), some (.int a1), some (.int a2), some (.int a3), some (.int a4), none, none, none]) rfl rfl ?_
  show GX g 79 RX11 cX11_duelOf 8 (some .int) (some (.int r)) mm 0 _ [] m
  unfold f_X11_duelOf at hm
  refine g_aloadn_0 dX11_duelOf_0 ?_
  refine g_getr (q := 38) fo_11_29 pn_27 pc_27 rfl rfl dX11_duelOf_1 ?_
  refine g_aloadn_0 dX11_duelOf_4 ?_
  refine g_getr (q := 39) fo_11_30 pn_27 pc_27 rfl rfl dX11_duelOf_5 ?_
  refine g_s2V hm (fun _ h => c_X11_copy ar_38 ar_39 h) ce_X11_copy lk_X11_379 rfl rfl dX11_duelOf_8 (fun m1 hm => ?_)
  refine g_aloadn_0 dX11_duelOf_11 ?_
  refine g_iloadn_3 dX11_duelOf_12 ?_
  refine g_v1V hm (fun _ h => c_X11_teachesAtOnce h) pn_27 (pc_27 _ _) rfl ce_X11_teachesAtOnce lk_X11_419 rfl rfl dX11_duelOf_13 (fun m2 hm => ?_)
  refine g_aloadn_0 dX11_duelOf_16 ?_
  refine g_iload_4 dX11_duelOf_17 ?_
  refine g_v1V hm (fun _ h => c_X11_teachesAtOnce h) pn_27 (pc_27 _ _) rfl ce_X11_teachesAtOnce lk_X11_419 rfl rfl dX11_duelOf_19 (fun m3 hm => ?_)
  refine g_iconst 0 dX11_duelOf_22 rfl ?_
  refine g_istore_5 dX11_duelOf_23 rfl ?_
  refine g_iconst 0 dX11_duelOf_25 rfl ?_
  refine g_istore_6 dX11_duelOf_26 rfl ?_
  refine g_weak (vs' := [some (.ref (g.ad 27)), some (.int a1), some (.int a2), none, none, some (.int 0), some (.int 0), none]) ⟨rfl, ⟨rfl, ⟨rfl, ⟨rfl, ⟨rfl, trivial⟩⟩⟩⟩⟩ ?_
  refine g_lp (I := fun (s : Sg × Int32 × Int32) => GX g 79 RX11 cX11_duelOf 8 (some .int) (some (.int r)) mm 28 [some (.ref (g.ad 27)), some (.int a1), some (.int a2), none, none, some (.int (s.2.1)), some (.int (s.2.2)), none] [] s.1) (E := fun (s : Sg × Int32) => GX g 79 RX11 cX11_duelOf 8 (some .int) (some (.int r)) mm 114 [none, none, none, none, none, some (.int (s.2)), none, none] [] s.1) hm ?_ ?_
  · rintro ⟨m7, x8⟩ hm
    (try dsimp only at hm)
    (try dsimp only)
    refine g_iload_5 dX11_duelOf_114 ?_
    exact g_iret hm dX11_duelOf_116
  · rintro ⟨m4, x5, x6⟩ o hm hx10 hi9
    (try dsimp only [f_X11_duelOf_L28] at hm)
    (try dsimp only)
    refine g_iload_6 dX11_duelOf_28 ?_
    refine g_bipush 12 dX11_duelOf_30 rfl ?_
    refine g_icmp_ge 114 hm dX11_duelOf_32 (by decide) (fun hm => ?_) (fun hm => ?_)
    · refine g_weak (vs' := [none, none, none, none, none, some (.int x5), none, none]) ⟨rfl, trivial⟩ ?_
      cases hm
      exact hx10 _ rfl
    · refine g_aloadn_0 dX11_duelOf_35 ?_
      refine g_aloadn_0 dX11_duelOf_36 ?_
      refine g_getr (q := 39) fo_11_30 pn_27 pc_27 rfl rfl dX11_duelOf_37 ?_
      refine g_iconst 0 dX11_duelOf_40 rfl ?_
      refine g_v2V hm (fun _ h => c_X11_goMonth HX ar_39 h) pn_27 (pc_27 _ _) rfl ce_X11_goMonth lk_X11_370 rfl rfl dX11_duelOf_41 (fun m11 hm => ?_)
      refine g_aloadn_0 dX11_duelOf_44 ?_
      refine g_getr (q := 39) fo_11_30 pn_27 pc_27 rfl rfl dX11_duelOf_45 ?_
      refine g_bipush 61 dX11_duelOf_48 rfl ?_
      refine g_ialoadc 61 rfl rfl ar_39.1 ar_39.2 dX11_duelOf_50 ?_
      refine g_istoreB_7 hm dX11_duelOf_51 rfl (fun x12 hm => ?_)
      refine g_iload_7 dX11_duelOf_53 ?_
      refine g_iconst (-1) dX11_duelOf_55 rfl ?_
      refine g_jn (J := fun (s : Sg × Int32) => GX g 79 RX11 cX11_duelOf 8 (some .int) (some (.int r)) mm 108 [some (.ref (g.ad 27)), some (.int a1), some (.int a2), none, none, some (.int (s.2)), some (.int x6), none] [] s.1) hm ?_ ?_
      · rintro ⟨m13, x14⟩ hm
        (try dsimp only at hm)
        (try dsimp only)
        refine g_iinc_6 1 hm dX11_duelOf_108 rfl rfl (fun x16 hm => ?_)
        refine g_goto 28 dX11_duelOf_111 (by decide) ?_
        cases hm
        exact hi9 _ rfl
      · intro k15 hk15 hm
        refine g_icmp_ne 62 hm dX11_duelOf_56 (by decide) (fun hm => ?_) (fun hm => ?_)
        · refine g_iload_5 dX11_duelOf_62 ?_
          refine g_aloadn_0 dX11_duelOf_64 ?_
          refine g_getr (q := 32) fo_11_18 pn_27 pc_27 rfl rfl dX11_duelOf_65 ?_
          refine g_bipush 6 dX11_duelOf_68 rfl ?_
          refine g_iload_7 dX11_duelOf_70 ?_
          refine g_imul dX11_duelOf_72 ?_
          refine g_iconst 3 dX11_duelOf_73 rfl ?_
          refine g_iadd dX11_duelOf_74 ?_
          refine g_iaload hm ar_32.1 ar_32.2 dX11_duelOf_75 (fun hm => ?_)
          refine g_iloadn_1 dX11_duelOf_76 ?_
          refine g_jn (J := fun (s : Sg × Int32) => GX g 79 RX11 cX11_duelOf 8 (some .int) (some (.int r)) mm 105 [some (.ref (g.ad 27)), some (.int a1), some (.int a2), none, none, none, some (.int x6), none] [.int (s.2), .int x5] s.1) hm ?_ ?_
          · rintro ⟨m17, x18⟩ hm
            (try dsimp only at hm)
            (try dsimp only)
            refine g_iadd dX11_duelOf_105 ?_
            refine g_istoreB_5 hm dX11_duelOf_106 rfl (fun x20 hm => ?_)
            exact hk15 _ hm
          · intro k19 hk19 hm
            refine g_icmp_ne 84 hm dX11_duelOf_77 (by decide) (fun hm => ?_) (fun hm => ?_)
            · refine g_aloadn_0 dX11_duelOf_84 ?_
              refine g_getr (q := 32) fo_11_18 pn_27 pc_27 rfl rfl dX11_duelOf_85 ?_
              refine g_bipush 6 dX11_duelOf_88 rfl ?_
              refine g_iload_7 dX11_duelOf_90 ?_
              refine g_imul dX11_duelOf_92 ?_
              refine g_iconst 3 dX11_duelOf_93 rfl ?_
              refine g_iadd dX11_duelOf_94 ?_
              refine g_iaload hm ar_32.1 ar_32.2 dX11_duelOf_95 (fun hm => ?_)
              refine g_iloadn_2 dX11_duelOf_96 ?_
              refine g_icmp_ne 104 hm dX11_duelOf_97 (by decide) (fun hm => ?_) (fun hm => ?_)
              · refine g_iconst 0 dX11_duelOf_104 rfl ?_
                refine g_weak (vs' := [some (.ref (g.ad 27)), some (.int a1), some (.int a2), none, none, none, some (.int x6), none]) ⟨rfl, ⟨rfl, ⟨rfl, ⟨rfl, trivial⟩⟩⟩⟩ ?_
                exact hk19 _ hm
              · refine g_iconst (-1) dX11_duelOf_100 rfl ?_
                refine g_goto 105 dX11_duelOf_101 (by decide) ?_
                refine g_weak (vs' := [some (.ref (g.ad 27)), some (.int a1), some (.int a2), none, none, none, some (.int x6), none]) ⟨rfl, ⟨rfl, ⟨rfl, ⟨rfl, trivial⟩⟩⟩⟩ ?_
                exact hk19 _ hm
            · refine g_iconst 1 dX11_duelOf_80 rfl ?_
              refine g_goto 105 dX11_duelOf_81 (by decide) ?_
              refine g_weak (vs' := [some (.ref (g.ad 27)), some (.int a1), some (.int a2), none, none, none, some (.int x6), none]) ⟨rfl, ⟨rfl, ⟨rfl, ⟨rfl, trivial⟩⟩⟩⟩ ?_
              exact hk19 _ hm
        · refine g_goto 108 dX11_duelOf_59 (by decide) ?_
          refine g_weak (vs' := [some (.ref (g.ad 27)), some (.int a1), some (.int a2), none, none, some (.int x5), some (.int x6), none]) ⟨rfl, ⟨rfl, ⟨rfl, ⟨rfl, ⟨rfl, trivial⟩⟩⟩⟩⟩ ?_
          exact hk15 _ hm
def f_X11_duel  (m : Sg) (a1 : Int32) (a2 : Int32) (a3 : Int32) (a4 : Int32) : Option (Int32 × Sg) :=
  bnd (wr m 27 0 0) (fun m1 => cal (f_X11_isNursery m1 a1) (fun x3 m2 => bnd (fun (m4 : Sg) => some ((-1000000), m4)) (fun (k5 : Sg → Option (Int32 × Sg)) =>
  (if x3 = 0 then k5 m2 else
  cal (f_X11_isNursery m2 a2) (fun x7 m6 => (if x7 = 0 then k5 m6 else
  (if a1 = a2 then k5 m6 else
  cal (f_X11_isOf m6 a3 a1) (fun x9 m8 => (if x9 = 0 then k5 m8 else
  cal (f_X11_isOf m8 a4 a2) (fun x11 m10 => (if x11 = 0 then k5 m10 else
  cal (f_X11_duelOf m10 a1 a2 a3 a4) (fun x13 m12 => some (x13, m12)))))))))))))
set_option maxRecDepth 4000 in
theorem c_X11_duel {g : Cf} {m mm : Sg} {r : Int32} {a1 : Int32} {a2 : Int32} {a3 : Int32} {a4 : Int32} (HX : XOK g) (hm : f_X11_duel  m a1 a2 a3 a4 = some (r, mm)) : Cl g 80 yX11_duel cX11_duel 5 (some .int) [.ref (g.ad 27), .int a1, .int a2, .int a3, .int a4] m (some (.int r)) mm := by
  refine cl_of (by decide) (Nat.le_of_ble_eq_true rfl) (vs := [some (.ref (g.ad 27)), some (.int a1), some (.int a2), some (.int a3), some (.int a4)]) rfl rfl ?_
  show GX g 80 RX11 cX11_duel 5 (some .int) (some (.int r)) mm 0 _ [] m
  unfold f_X11_duel at hm
  refine g_aloadn_0 dX11_duel_0 ?_
  refine g_iconst 0 dX11_duel_1 rfl ?_
  refine g_put hm fo_11_0 fp_11_0 pn_27 pc_27 rfl dX11_duel_2 (fun m1 hm => ?_)
  refine g_aloadn_0 dX11_duel_5 ?_
  refine g_iloadn_1 dX11_duel_6 ?_
  refine g_v1 hm (fun _ _ h => c_X11_isNursery h) pn_27 (pc_27 _ _) rfl ce_X11_isNursery lk_X11_385 rfl rfl dX11_duel_7 (fun x3 m2 hm => ?_)
  refine g_jn (J := fun (s : Sg) => GX g 80 RX11 cX11_duel 5 (some .int) (some (.int r)) mm 57 [none, none, none, none, none] [] s) hm ?_ ?_
  · intro m4 hm
    refine g_ldc_w dX11_duel_57 ck_X11_378 ?_
    exact g_iret hm dX11_duel_60
  · intro k5 hk5 hm
    refine g_if_eq 57 hm dX11_duel_10 (by decide) (fun hm => ?_) (fun hm => ?_)
    · refine g_weak (vs' := [none, none, none, none, none]) trivial ?_
      exact hk5 _ hm
    · refine g_aloadn_0 dX11_duel_13 ?_
      refine g_iloadn_2 dX11_duel_14 ?_
      refine g_v1 hm (fun _ _ h => c_X11_isNursery h) pn_27 (pc_27 _ _) rfl ce_X11_isNursery lk_X11_385 rfl rfl dX11_duel_15 (fun x7 m6 hm => ?_)
      refine g_if_eq 57 hm dX11_duel_18 (by decide) (fun hm => ?_) (fun hm => ?_)
      · refine g_weak (vs' := [none, none, none, none, none]) trivial ?_
        exact hk5 _ hm
      · refine g_iloadn_1 dX11_duel_21 ?_
        refine g_iloadn_2 dX11_duel_22 ?_
        refine g_icmp_eq 57 hm dX11_duel_23 (by decide) (fun hm => ?_) (fun hm => ?_)
        · refine g_weak (vs' := [none, none, none, none, none]) trivial ?_
          exact hk5 _ hm
        · refine g_aloadn_0 dX11_duel_26 ?_
          refine g_iloadn_3 dX11_duel_27 ?_
          refine g_iloadn_1 dX11_duel_28 ?_
          refine g_v2 hm (fun _ _ h => c_X11_isOf h) pn_27 (pc_27 _ _) rfl ce_X11_isOf lk_X11_422 rfl rfl dX11_duel_29 (fun x9 m8 hm => ?_)
          refine g_if_eq 57 hm dX11_duel_32 (by decide) (fun hm => ?_) (fun hm => ?_)
          · refine g_weak (vs' := [none, none, none, none, none]) trivial ?_
            exact hk5 _ hm
          · refine g_aloadn_0 dX11_duel_35 ?_
            refine g_iload_4 dX11_duel_36 ?_
            refine g_iloadn_2 dX11_duel_38 ?_
            refine g_v2 hm (fun _ _ h => c_X11_isOf h) pn_27 (pc_27 _ _) rfl ce_X11_isOf lk_X11_422 rfl rfl dX11_duel_39 (fun x11 m10 hm => ?_)
            refine g_if_eq 57 hm dX11_duel_42 (by decide) (fun hm => ?_) (fun hm => ?_)
            · refine g_weak (vs' := [none, none, none, none, none]) trivial ?_
              exact hk5 _ hm
            · refine g_aloadn_0 dX11_duel_45 ?_
              refine g_iloadn_1 dX11_duel_46 ?_
              refine g_iloadn_2 dX11_duel_47 ?_
              refine g_iloadn_3 dX11_duel_48 ?_
              refine g_iload_4 dX11_duel_49 ?_
              refine g_v4 hm (fun _ _ h => c_X11_duelOf HX h) pn_27 (pc_27 _ _) rfl ce_X11_duelOf lk_X11_425 rfl rfl dX11_duel_51 (fun x13 m12 hm => ?_)
              refine g_goto 60 dX11_duel_54 (by decide) ?_
              exact g_iret hm dX11_duel_60
def f_X11_rests_L48 (a1 : Int32) (a2 : Int32) (x7 : Int32) : (Sg × Int32) → Option (((Sg)) ⊕ (Sg × Int32)) := fun s => match s with
  | (m11, x12) => 
  (if (m11.1 27 24) ≤ x12 then some (.inl m11) else
  cal (f_X11_isOf m11 x7 a1) (fun x17 m16 => bnd (fun (m18 : Sg) => bnd (x12 + 1) (fun x20 => some (.inr (m18, x20)))) (fun (k19 : Sg → Option (((Sg)) ⊕ (Sg × Int32))) =>
  (if x17 = 0 then k19 m16 else
  cal (f_X11_isOf m16 x12 a2) (fun x22 m21 => (if x22 = 0 then k19 m21 else
  cal (f_X11_duelOf m21 a1 a2 x7 x12) (fun x24 m23 => if inr ((8 * x7) + x12) 64 = true then bnd (wr m23 42 ((8 * x7) + x12).toNatClampNeg x24) (fun m25 => k19 m25) else none)))))))
def f_X11_rests_L36 (a1 : Int32) (a2 : Int32) : (Sg × Int32) → Option (((Sg)) ⊕ (Sg × Int32)) := fun s => match s with
  | (m6, x7) => 
  (if (m6.1 27 24) ≤ x7 then some (.inl m6) else
  lpk (f_X11_rests_L48 a1 a2 x7) (m6, 0) (fun m13 => bnd (x7 + 1) (fun x26 => some (.inr (m13, x26)))))
def f_X11_rests_L130 (a1 : Int32) (a2 : Int32) (a3 : Int32) (x29 : Int32) : (Sg × Int32 × Int32) → Option (((Sg × Int32) ⊕ (Sg × Int32)) ⊕ (Sg × Int32 × Int32)) := fun s => match s with
  | (m37, x38, x39) => 
  (if (m37.1 27 24) ≤ x39 then some (.inl (.inr (m37, x38))) else
  cal (f_X11_isOf m37 x29 a1) (fun x47 m46 => bnd (fun ((m48, x49) : Sg × Int32) => bnd (x39 + 1) (fun x51 => some (.inr (m48, x49, x51)))) (fun (k50 : Sg × Int32 → Option (((Sg × Int32) ⊕ (Sg × Int32)) ⊕ (Sg × Int32 × Int32))) =>
  (if x47 = 0 then k50 (m46, x38) else
  cal (f_X11_isOf m46 x39 a2) (fun x53 m52 => (if x53 = 0 then k50 (m52, x38) else
  cal (f_X11_isRest m52 a1 a2 x29 x39) (fun x55 m54 => (if x55 = 0 then k50 (m54, x38) else
  (if x38 = a3 then some (.inl (.inl (m54, x39))) else
  bnd (x38 + 1) (fun x56 => k50 (m54, x56)))))))))))
def f_X11_rests_L118 (a1 : Int32) (a2 : Int32) (a3 : Int32) : (Sg × Int32 × Int32) → Option (((Sg × Int32 × Int32) ⊕ (Sg × Int32)) ⊕ (Sg × Int32 × Int32)) := fun s => match s with
  | (m27, x28, x29) => 
  (if (m27.1 27 24) ≤ x29 then some (.inl (.inr (m27, x28))) else
  lpk (f_X11_rests_L130 a1 a2 a3 x29) (m27, x28, 0) (fun x => match x with
  | .inl (m40, x41) => some (.inl (.inl (m40, x29, x41)))
  | .inr (m42, x43) => bnd (x29 + 1) (fun x57 => some (.inr (m42, x43, x57)))))
def f_X11_rests  (m : Sg) (a1 : Int32) (a2 : Int32) (a3 : Int32) : Option (Int32 × Sg) :=
  bnd (wr m 27 0 0) (fun m1 => cal (f_X11_isNursery m1 a1) (fun x3 m2 => (if x3 = 0 then some ((-1), m2) else
  cal (f_X11_isNursery m2 a2) (fun x5 m4 => (if x5 = 0 then some ((-1), m4) else
  (if a1 = a2 then some ((-1), m4) else
  (if (-1) ≤ a3 then lpk (f_X11_rests_L36 a1 a2) (m4, 0) (fun m8 => lpk (f_X11_rests_L118 a1 a2 a3) (m8, 0, 0) (fun x => match x with
  | .inl (m30, x31, x32) => some ((10 * x31) + x32, m30)
  | .inr (m33, x34) => (if a3 = (-1) then some (x34, m33) else
  some ((-1), m33)))) else
  some ((-1), m4))))))))
set_option maxRecDepth 4000 in
theorem c_X11_rests {g : Cf} {m mm : Sg} {r : Int32} {a1 : Int32} {a2 : Int32} {a3 : Int32} (HX : XOK g) (hm : f_X11_rests  m a1 a2 a3 = some (r, mm)) : Cl g 80 yX11_rests cX11_rests 7 (some .int) [.ref (g.ad 27), .int a1, .int a2, .int a3] m (some (.int r)) mm := by
  refine cl_of (by decide) (Nat.le_of_ble_eq_true rfl) (vs := [some (.ref (g.ad 27)), some (.int a1), some (.int a2), some (.int a3), none, none, none]) rfl rfl ?_
  show GX g 80 RX11 cX11_rests 7 (some .int) (some (.int r)) mm 0 _ [] m
  unfold f_X11_rests at hm
  refine g_aloadn_0 dX11_rests_0 ?_
  refine g_iconst 0 dX11_rests_1 rfl ?_
  refine g_put hm fo_11_0 fp_11_0 pn_27 pc_27 rfl dX11_rests_2 (fun m1 hm => ?_)
  refine g_aloadn_0 dX11_rests_5 ?_
  refine g_iloadn_1 dX11_rests_6 ?_
  refine g_v1 hm (fun _ _ h => c_X11_isNursery h) pn_27 (pc_27 _ _) rfl ce_X11_isNursery lk_X11_385 rfl rfl dX11_rests_7 (fun x3 m2 hm => ?_)
  refine g_if_eq 31 hm dX11_rests_10 (by decide) (fun hm => ?_) (fun hm => ?_)
  · refine g_iconst (-1) dX11_rests_31 rfl ?_
    exact g_iret hm dX11_rests_32
  · refine g_aloadn_0 dX11_rests_13 ?_
    refine g_iloadn_2 dX11_rests_14 ?_
    refine g_v1 hm (fun _ _ h => c_X11_isNursery h) pn_27 (pc_27 _ _) rfl ce_X11_isNursery lk_X11_385 rfl rfl dX11_rests_15 (fun x5 m4 hm => ?_)
    refine g_if_eq 31 hm dX11_rests_18 (by decide) (fun hm => ?_) (fun hm => ?_)
    · refine g_iconst (-1) dX11_rests_31 rfl ?_
      exact g_iret hm dX11_rests_32
    · refine g_iloadn_1 dX11_rests_21 ?_
      refine g_iloadn_2 dX11_rests_22 ?_
      refine g_icmp_eq 31 hm dX11_rests_23 (by decide) (fun hm => ?_) (fun hm => ?_)
      · refine g_iconst (-1) dX11_rests_31 rfl ?_
        exact g_iret hm dX11_rests_32
      · refine g_iloadn_3 dX11_rests_26 ?_
        refine g_iconst (-1) dX11_rests_27 rfl ?_
        refine g_icmp_ge 33 hm dX11_rests_28 (by decide) (fun hm => ?_) (fun hm => ?_)
        · refine g_iconst 0 dX11_rests_33 rfl ?_
          refine g_istore_4 dX11_rests_34 rfl ?_
          refine g_lp (I := fun (s : Sg × Int32) => GX g 80 RX11 cX11_rests 7 (some .int) (some (.int r)) mm 36 [some (.ref (g.ad 27)), some (.int a1), some (.int a2), some (.int a3), some (.int (s.2)), none, none] [] s.1) (E := fun (s : Sg) => GX g 80 RX11 cX11_rests 7 (some .int) (some (.int r)) mm 112 [some (.ref (g.ad 27)), some (.int a1), some (.int a2), some (.int a3), none, none, none] [] s) hm ?_ ?_
          · rintro m8 hm
            (try dsimp only at hm)
            (try dsimp only)
            refine g_iconst 0 dX11_rests_112 rfl ?_
            refine g_istore_4 dX11_rests_113 rfl ?_
            refine g_iconst 0 dX11_rests_115 rfl ?_
            refine g_istore_5 dX11_rests_116 rfl ?_
            refine g_lp (I := fun (s : Sg × Int32 × Int32) => GX g 80 RX11 cX11_rests 7 (some .int) (some (.int r)) mm 118 [some (.ref (g.ad 27)), some (.int a1), some (.int a2), some (.int a3), some (.int (s.2.1)), some (.int (s.2.2)), none] [] s.1) (E := fun (x : (Sg × Int32 × Int32) ⊕ (Sg × Int32)) => match x with | .inl (m30, x31, x32) => GX g 80 RX11 cX11_rests 7 (some .int) (some (.int r)) mm 181 [none, none, none, none, none, some (.int x31), some (.int x32)] [] m30 | .inr (m33, x34) => GX g 80 RX11 cX11_rests 7 (some .int) (some (.int r)) mm 205 [none, none, none, some (.int a3), some (.int x34), none, none] [] m33) hm ?_ ?_
            · rintro (⟨m30, x31, x32⟩ | ⟨m33, x34⟩) hm
              · (try dsimp only at hm)
                (try dsimp only)
                refine g_bipush 10 dX11_rests_181 rfl ?_
                refine g_iload_5 dX11_rests_183 ?_
                refine g_imul dX11_rests_185 ?_
                refine g_iload_6 dX11_rests_186 ?_
                refine g_iadd dX11_rests_188 ?_
                exact g_iret hm dX11_rests_189
              · (try dsimp only at hm)
                (try dsimp only)
                refine g_iloadn_3 dX11_rests_205 ?_
                refine g_iconst (-1) dX11_rests_206 rfl ?_
                refine g_icmp_ne 215 hm dX11_rests_207 (by decide) (fun hm => ?_) (fun hm => ?_)
                · refine g_iconst (-1) dX11_rests_215 rfl ?_
                  exact g_iret hm dX11_rests_216
                · refine g_iload_4 dX11_rests_210 ?_
                  refine g_goto 216 dX11_rests_212 (by decide) ?_
                  exact g_iret hm dX11_rests_216
            · rintro ⟨m27, x28, x29⟩ o hm hx36 hi35
              (try dsimp only [f_X11_rests_L118] at hm)
              (try dsimp only)
              refine g_iload_5 dX11_rests_118 ?_
              refine g_aloadn_0 dX11_rests_120 ?_
              refine g_geti fo_11_24 pn_27 pc_27 rfl dX11_rests_121 ?_
              refine g_icmp_ge 205 hm dX11_rests_124 (by decide) (fun hm => ?_) (fun hm => ?_)
              · refine g_weak (vs' := [none, none, none, some (.int a3), some (.int x28), none, none]) ⟨rfl, ⟨rfl, trivial⟩⟩ ?_
                cases hm
                exact hx36 _ rfl
              · refine g_iconst 0 dX11_rests_127 rfl ?_
                refine g_istore_6 dX11_rests_128 rfl ?_
                refine g_lp (I := fun (s : Sg × Int32 × Int32) => GX g 80 RX11 cX11_rests 7 (some .int) (some (.int r)) mm 130 [some (.ref (g.ad 27)), some (.int a1), some (.int a2), some (.int a3), some (.int (s.2.1)), some (.int x29), some (.int (s.2.2))] [] s.1) (E := fun (x : (Sg × Int32) ⊕ (Sg × Int32)) => match x with | .inl (m40, x41) => GX g 80 RX11 cX11_rests 7 (some .int) (some (.int r)) mm 181 [none, none, none, none, none, some (.int x29), some (.int x41)] [] m40 | .inr (m42, x43) => GX g 80 RX11 cX11_rests 7 (some .int) (some (.int r)) mm 199 [some (.ref (g.ad 27)), some (.int a1), some (.int a2), some (.int a3), some (.int x43), some (.int x29), none] [] m42) hm ?_ ?_
                · rintro (⟨m40, x41⟩ | ⟨m42, x43⟩) hm
                  · (try dsimp only at hm)
                    (try dsimp only)
                    cases hm
                    exact hx36 _ rfl
                  · (try dsimp only at hm)
                    (try dsimp only)
                    refine g_iinc_5 1 hm dX11_rests_199 rfl rfl (fun x57 hm => ?_)
                    refine g_goto 118 dX11_rests_202 (by decide) ?_
                    cases hm
                    exact hi35 _ rfl
                · rintro ⟨m37, x38, x39⟩ o hm hx45 hi44
                  (try dsimp only [f_X11_rests_L130] at hm)
                  (try dsimp only)
                  refine g_iload_6 dX11_rests_130 ?_
                  refine g_aloadn_0 dX11_rests_132 ?_
                  refine g_geti fo_11_24 pn_27 pc_27 rfl dX11_rests_133 ?_
                  refine g_icmp_ge 199 hm dX11_rests_136 (by decide) (fun hm => ?_) (fun hm => ?_)
                  · refine g_weak (vs' := [some (.ref (g.ad 27)), some (.int a1), some (.int a2), some (.int a3), some (.int x38), some (.int x29), none]) ⟨rfl, ⟨rfl, ⟨rfl, ⟨rfl, ⟨rfl, ⟨rfl, trivial⟩⟩⟩⟩⟩⟩ ?_
                    cases hm
                    exact hx45 _ rfl
                  · refine g_aloadn_0 dX11_rests_139 ?_
                    refine g_iload_5 dX11_rests_140 ?_
                    refine g_iloadn_1 dX11_rests_142 ?_
                    refine g_v2 hm (fun _ _ h => c_X11_isOf h) pn_27 (pc_27 _ _) rfl ce_X11_isOf lk_X11_422 rfl rfl dX11_rests_143 (fun x47 m46 hm => ?_)
                    refine g_jn (J := fun (s : Sg × Int32) => GX g 80 RX11 cX11_rests 7 (some .int) (some (.int r)) mm 193 [some (.ref (g.ad 27)), some (.int a1), some (.int a2), some (.int a3), some (.int (s.2)), some (.int x29), some (.int x39)] [] s.1) hm ?_ ?_
                    · rintro ⟨m48, x49⟩ hm
                      (try dsimp only at hm)
                      (try dsimp only)
                      refine g_iinc_6 1 hm dX11_rests_193 rfl rfl (fun x51 hm => ?_)
                      refine g_goto 130 dX11_rests_196 (by decide) ?_
                      cases hm
                      exact hi44 _ rfl
                    · intro k50 hk50 hm
                      refine g_if_eq 193 hm dX11_rests_146 (by decide) (fun hm => ?_) (fun hm => ?_)
                      · exact hk50 _ hm
                      · refine g_aloadn_0 dX11_rests_149 ?_
                        refine g_iload_6 dX11_rests_150 ?_
                        refine g_iloadn_2 dX11_rests_152 ?_
                        refine g_v2 hm (fun _ _ h => c_X11_isOf h) pn_27 (pc_27 _ _) rfl ce_X11_isOf lk_X11_422 rfl rfl dX11_rests_153 (fun x53 m52 hm => ?_)
                        refine g_if_eq 193 hm dX11_rests_156 (by decide) (fun hm => ?_) (fun hm => ?_)
                        · exact hk50 _ hm
                        · refine g_aloadn_0 dX11_rests_159 ?_
                          refine g_iloadn_1 dX11_rests_160 ?_
                          refine g_iloadn_2 dX11_rests_161 ?_
                          refine g_iload_5 dX11_rests_162 ?_
                          refine g_iload_6 dX11_rests_164 ?_
                          refine g_v4 hm (fun _ _ h => c_X11_isRest h) pn_27 (pc_27 _ _) rfl ce_X11_isRest lk_X11_429 rfl rfl dX11_rests_166 (fun x55 m54 hm => ?_)
                          refine g_if_ne 175 hm dX11_rests_169 (by decide) (fun hm => ?_) (fun hm => ?_)
                          · refine g_iload_4 dX11_rests_175 ?_
                            refine g_iloadn_3 dX11_rests_177 ?_
                            refine g_icmp_ne 190 hm dX11_rests_178 (by decide) (fun hm => ?_) (fun hm => ?_)
                            · refine g_iinc_4 1 hm dX11_rests_190 rfl rfl (fun x56 hm => ?_)
                              exact hk50 _ hm
                            · refine g_weak (vs' := [none, none, none, none, none, some (.int x29), some (.int x39)]) ⟨rfl, ⟨rfl, trivial⟩⟩ ?_
                              cases hm
                              exact hx45 _ rfl
                          · refine g_goto 193 dX11_rests_172 (by decide) ?_
                            exact hk50 _ hm
          · rintro ⟨m6, x7⟩ o hm hx10 hi9
            (try dsimp only [f_X11_rests_L36] at hm)
            (try dsimp only)
            refine g_iload_4 dX11_rests_36 ?_
            refine g_aloadn_0 dX11_rests_38 ?_
            refine g_geti fo_11_24 pn_27 pc_27 rfl dX11_rests_39 ?_
            refine g_icmp_ge 112 hm dX11_rests_42 (by decide) (fun hm => ?_) (fun hm => ?_)
            · refine g_weak (vs' := [some (.ref (g.ad 27)), some (.int a1), some (.int a2), some (.int a3), none, none, none]) ⟨rfl, ⟨rfl, ⟨rfl, ⟨rfl, trivial⟩⟩⟩⟩ ?_
              cases hm
              exact hx10 _ rfl
            · refine g_iconst 0 dX11_rests_45 rfl ?_
              refine g_istore_5 dX11_rests_46 rfl ?_
              refine g_lp (I := fun (s : Sg × Int32) => GX g 80 RX11 cX11_rests 7 (some .int) (some (.int r)) mm 48 [some (.ref (g.ad 27)), some (.int a1), some (.int a2), some (.int a3), some (.int x7), some (.int (s.2)), none] [] s.1) (E := fun (s : Sg) => GX g 80 RX11 cX11_rests 7 (some .int) (some (.int r)) mm 106 [some (.ref (g.ad 27)), some (.int a1), some (.int a2), some (.int a3), some (.int x7), none, none] [] s) hm ?_ ?_
              · rintro m13 hm
                (try dsimp only at hm)
                (try dsimp only)
                refine g_iinc_4 1 hm dX11_rests_106 rfl rfl (fun x26 hm => ?_)
                refine g_goto 36 dX11_rests_109 (by decide) ?_
                cases hm
                exact hi9 _ rfl
              · rintro ⟨m11, x12⟩ o hm hx15 hi14
                (try dsimp only [f_X11_rests_L48] at hm)
                (try dsimp only)
                refine g_iload_5 dX11_rests_48 ?_
                refine g_aloadn_0 dX11_rests_50 ?_
                refine g_geti fo_11_24 pn_27 pc_27 rfl dX11_rests_51 ?_
                refine g_icmp_ge 106 hm dX11_rests_54 (by decide) (fun hm => ?_) (fun hm => ?_)
                · refine g_weak (vs' := [some (.ref (g.ad 27)), some (.int a1), some (.int a2), some (.int a3), some (.int x7), none, none]) ⟨rfl, ⟨rfl, ⟨rfl, ⟨rfl, ⟨rfl, trivial⟩⟩⟩⟩⟩ ?_
                  cases hm
                  exact hx15 _ rfl
                · refine g_aloadn_0 dX11_rests_57 ?_
                  refine g_iload_4 dX11_rests_58 ?_
                  refine g_iloadn_1 dX11_rests_60 ?_
                  refine g_v2 hm (fun _ _ h => c_X11_isOf h) pn_27 (pc_27 _ _) rfl ce_X11_isOf lk_X11_422 rfl rfl dX11_rests_61 (fun x17 m16 hm => ?_)
                  refine g_jn (J := fun (s : Sg) => GX g 80 RX11 cX11_rests 7 (some .int) (some (.int r)) mm 100 [some (.ref (g.ad 27)), some (.int a1), some (.int a2), some (.int a3), some (.int x7), some (.int x12), none] [] s) hm ?_ ?_
                  · intro m18 hm
                    refine g_iinc_5 1 hm dX11_rests_100 rfl rfl (fun x20 hm => ?_)
                    refine g_goto 48 dX11_rests_103 (by decide) ?_
                    cases hm
                    exact hi14 _ rfl
                  · intro k19 hk19 hm
                    refine g_if_eq 100 hm dX11_rests_64 (by decide) (fun hm => ?_) (fun hm => ?_)
                    · exact hk19 _ hm
                    · refine g_aloadn_0 dX11_rests_67 ?_
                      refine g_iload_5 dX11_rests_68 ?_
                      refine g_iloadn_2 dX11_rests_70 ?_
                      refine g_v2 hm (fun _ _ h => c_X11_isOf h) pn_27 (pc_27 _ _) rfl ce_X11_isOf lk_X11_422 rfl rfl dX11_rests_71 (fun x22 m21 hm => ?_)
                      refine g_if_eq 100 hm dX11_rests_74 (by decide) (fun hm => ?_) (fun hm => ?_)
                      · exact hk19 _ hm
                      · refine g_aloadn_0 dX11_rests_77 ?_
                        refine g_getr (q := 42) fo_11_43 pn_27 pc_27 rfl rfl dX11_rests_78 ?_
                        refine g_bipush 8 dX11_rests_81 rfl ?_
                        refine g_iload_4 dX11_rests_83 ?_
                        refine g_imul dX11_rests_85 ?_
                        refine g_iload_5 dX11_rests_86 ?_
                        refine g_iadd dX11_rests_88 ?_
                        refine g_aloadn_0 dX11_rests_89 ?_
                        refine g_iloadn_1 dX11_rests_90 ?_
                        refine g_iloadn_2 dX11_rests_91 ?_
                        refine g_iload_4 dX11_rests_92 ?_
                        refine g_iload_5 dX11_rests_94 ?_
                        refine g_v4 hm (fun _ _ h => c_X11_duelOf HX h) pn_27 (pc_27 _ _) rfl ce_X11_duelOf lk_X11_425 rfl rfl dX11_rests_96 (fun x24 m23 hm => ?_)
                        refine g_iastore hm ar_42.1 ar_42.2 dX11_rests_99 (fun m25 hm => ?_)
                        exact hk19 _ hm
        · refine g_iconst (-1) dX11_rests_31 rfl ?_
          exact g_iret hm dX11_rests_32
def f_X11_late_L27  : (Sg × Int32) → Option (((Sg × Int32) ⊕ (Sg)) ⊕ (Sg × Int32)) := fun s => match s with
  | (m3, x4) => 
  (if 60 < x4 then some (.inl (.inr m3)) else
  cal (f_X11_examinerOf 39 m3 0) (fun x11 m10 => (if x11 = (-1) then some (.inl (.inl (m10, x4))) else
  calv (f_X11_goMonth 39 m10 0) (fun m12 => bnd (x4 + 1) (fun x13 => some (.inr (m12, x13)))))))
def f_X11_late  (m : Sg)  : Option (Int32 × Sg) :=
  bnd (wr m 27 0 0) (fun m1 => (if (m1.1 27 24) = 0 then some ((-1), m1) else
  calv (f_X11_copy 38 39 m1) (fun m2 => lpk (f_X11_late_L27) (m2, 0) (fun x => match x with
  | .inl (m5, x6) => some (x6, m5)
  | .inr m7 => some ((-1), m7)))))
set_option maxRecDepth 4000 in
theorem c_X11_late {g : Cf} {m mm : Sg} {r : Int32} (HX : XOK g) (hm : f_X11_late  m  = some (r, mm)) : Cl g 79 yX11_late cX11_late 2 (some .int) [.ref (g.ad 27)] m (some (.int r)) mm := by
  refine cl_of (by decide) (Nat.le_of_ble_eq_true rfl) (vs := [some (.ref (g.ad 27)), none]) rfl rfl ?_
  show GX g 79 RX11 cX11_late 2 (some .int) (some (.int r)) mm 0 _ [] m
  unfold f_X11_late at hm
  refine g_aloadn_0 dX11_late_0 ?_
  refine g_iconst 0 dX11_late_1 rfl ?_
  refine g_put hm fo_11_0 fp_11_0 pn_27 pc_27 rfl dX11_late_2 (fun m1 hm => ?_)
  refine g_aloadn_0 dX11_late_5 ?_
  refine g_geti fo_11_24 pn_27 pc_27 rfl dX11_late_6 ?_
  refine g_if_ne 14 hm dX11_late_9 (by decide) (fun hm => ?_) (fun hm => ?_)
  · refine g_aloadn_0 dX11_late_14 ?_
    refine g_getr (q := 38) fo_11_29 pn_27 pc_27 rfl rfl dX11_late_15 ?_
    refine g_aloadn_0 dX11_late_18 ?_
    refine g_getr (q := 39) fo_11_30 pn_27 pc_27 rfl rfl dX11_late_19 ?_
    refine g_s2V hm (fun _ h => c_X11_copy ar_38 ar_39 h) ce_X11_copy lk_X11_379 rfl rfl dX11_late_22 (fun m2 hm => ?_)
    refine g_iconst 0 dX11_late_25 rfl ?_
    refine g_istoren_1 dX11_late_26 rfl ?_
    refine g_lp (I := fun (s : Sg × Int32) => GX g 79 RX11 cX11_late 2 (some .int) (some (.int r)) mm 27 [some (.ref (g.ad 27)), some (.int (s.2))] [] s.1) (E := fun (x : (Sg × Int32) ⊕ (Sg)) => match x with | .inl (m5, x6) => GX g 79 RX11 cX11_late 2 (some .int) (some (.int r)) mm 46 [none, some (.int x6)] [] m5 | .inr m7 => GX g 79 RX11 cX11_late 2 (some .int) (some (.int r)) mm 63 [none, none] [] m7) hm ?_ ?_
    · rintro (⟨m5, x6⟩ | m7) hm
      · (try dsimp only at hm)
        (try dsimp only)
        refine g_iloadn_1 dX11_late_46 ?_
        exact g_iret hm dX11_late_47
      · (try dsimp only at hm)
        (try dsimp only)
        refine g_iconst (-1) dX11_late_63 rfl ?_
        exact g_iret hm dX11_late_64
    · rintro ⟨m3, x4⟩ o hm hx9 hi8
      (try dsimp only [f_X11_late_L27] at hm)
      (try dsimp only)
      refine g_iloadn_1 dX11_late_27 ?_
      refine g_bipush 60 dX11_late_28 rfl ?_
      refine g_icmp_gt 63 hm dX11_late_30 (by decide) (fun hm => ?_) (fun hm => ?_)
      · refine g_weak (vs' := [none, none]) trivial ?_
        cases hm
        exact hx9 _ rfl
      · refine g_aloadn_0 dX11_late_33 ?_
        refine g_aloadn_0 dX11_late_34 ?_
        refine g_getr (q := 39) fo_11_30 pn_27 pc_27 rfl rfl dX11_late_35 ?_
        refine g_iconst 0 dX11_late_38 rfl ?_
        refine g_v2 hm (fun _ _ h => c_X11_examinerOf ar_39 h) pn_27 (pc_27 _ _) rfl ce_X11_examinerOf lk_X11_317 rfl rfl dX11_late_39 (fun x11 m10 hm => ?_)
        refine g_iconst (-1) dX11_late_42 rfl ?_
        refine g_icmp_ne 48 hm dX11_late_43 (by decide) (fun hm => ?_) (fun hm => ?_)
        · refine g_aloadn_0 dX11_late_48 ?_
          refine g_aloadn_0 dX11_late_49 ?_
          refine g_getr (q := 39) fo_11_30 pn_27 pc_27 rfl rfl dX11_late_50 ?_
          refine g_iconst 0 dX11_late_53 rfl ?_
          refine g_v2V hm (fun _ h => c_X11_goMonth HX ar_39 h) pn_27 (pc_27 _ _) rfl ce_X11_goMonth lk_X11_370 rfl rfl dX11_late_54 (fun m12 hm => ?_)
          refine g_iinc_1 1 hm dX11_late_57 rfl rfl (fun x13 hm => ?_)
          refine g_goto 27 dX11_late_60 (by decide) ?_
          cases hm
          exact hi8 _ rfl
        · refine g_weak (vs' := [none, some (.int x4)]) ⟨rfl, trivial⟩ ?_
          cases hm
          exact hx9 _ rfl
  · refine g_iconst (-1) dX11_late_12 rfl ?_
    exact g_iret hm dX11_late_13
def f_X11_richest_L81 (a1 : Int32) : (Sg × Int32) → Option (((Sg)) ⊕ (Sg × Int32)) := fun s => match s with
  | (m20, x21) => 
  (if a1 ≤ x21 then some (.inl m20) else
  calv (f_X11_goMonth 39 m20 0) (fun m25 => bnd (x21 + 1) (fun x26 => some (.inr (m25, x26)))))
def f_X11_richest_L52 (a1 : Int32) : (Sg × Int32 × Int32 × Int32) → Option (((Sg × Int32 × Int32)) ⊕ (Sg × Int32 × Int32 × Int32)) := fun s => match s with
  | (m9, x10, x11, x12) => 
  (if (m9.1 27 7) ≤ x12 then some (.inl (m9, x10, x11)) else
  bnd (wr m9 27 31 x12) (fun m18 => calv (f_X11_copy 38 39 m18) (fun m19 => lpk (f_X11_richest_L81 a1) (m19, 0) (fun m22 => bnd (fun ((m27, x28, x29) : Sg × Int32 × Int32) => bnd (x12 + 1) (fun x31 => some (.inr (m27, x28, x29, x31)))) (fun (k30 : Sg × Int32 × Int32 → Option (((Sg × Int32 × Int32)) ⊕ (Sg × Int32 × Int32 × Int32))) =>
  (if x11 < (m22.1 39 62) then bnd (m22.1 39 62) (fun x32 => k30 (m22, x12, x32)) else
  k30 (m22, x10, x11)))))))
def f_X11_richest  (m : Sg) (a1 : Int32) (a2 : Int32) : Option (Int32 × Sg) :=
  bnd (wr m 27 0 0) (fun m1 => bnd (fun (m2 : Sg) => some ((-1000000), m2)) (fun (k3 : Sg → Option (Int32 × Sg)) =>
  (if (m1.1 27 24) = 0 then k3 m1 else
  cal (f_X11_isIn m1 ((a1 : Int32).toInt64) 1 24) (fun x5 m4 => (if x5 = 0 then k3 m4 else
  cal (f_X11_isIn m4 ((a2 : Int32).toInt64) 0 1) (fun x7 m6 => (if x7 = 0 then k3 m6 else
  bnd (m6.1 27 31) (fun x8 => lpk (f_X11_richest_L52 a1) (m6, (-1), (-1), (-1)) (fun ((m13, x14, x15) : Sg × Int32 × Int32) => bnd (wr m13 27 31 x8) (fun m33 => (if a2 = 0 then some (x14, m33) else
  some (x15, m33))))))))))))
set_option maxRecDepth 4000 in
theorem c_X11_richest {g : Cf} {m mm : Sg} {r : Int32} {a1 : Int32} {a2 : Int32} (HX : XOK g) (hm : f_X11_richest  m a1 a2 = some (r, mm)) : Cl g 79 yX11_richest cX11_richest 8 (some .int) [.ref (g.ad 27), .int a1, .int a2] m (some (.int r)) mm := by
  refine cl_of (by decide) (Nat.le_of_ble_eq_true rfl) (vs := [some (.ref (g.ad 27)), some (.int a1), some (.int a2), none, none, none, none, none]) rfl rfl ?_
  show GX g 79 RX11 cX11_richest 8 (some .int) (some (.int r)) mm 0 _ [] m
  unfold f_X11_richest at hm
  refine g_aloadn_0 dX11_richest_0 ?_
  refine g_iconst 0 dX11_richest_1 rfl ?_
  refine g_put hm fo_11_0 fp_11_0 pn_27 pc_27 rfl dX11_richest_2 (fun m1 hm => ?_)
  refine g_aloadn_0 dX11_richest_5 ?_
  refine g_geti fo_11_24 pn_27 pc_27 rfl dX11_richest_6 ?_
  refine g_jn (J := fun (s : Sg) => GX g 79 RX11 cX11_richest 8 (some .int) (some (.int r)) mm 34 [none, none, none, none, none, none, none, none] [] s) hm ?_ ?_
  · intro m2 hm
    refine g_ldc_w dX11_richest_34 ck_X11_378 ?_
    exact g_iret hm dX11_richest_37
  · intro k3 hk3 hm
    refine g_if_eq 34 hm dX11_richest_9 (by decide) (fun hm => ?_) (fun hm => ?_)
    · refine g_weak (vs' := [none, none, none, none, none, none, none, none]) trivial ?_
      exact hk3 _ hm
    · refine g_iloadn_1 dX11_richest_12 ?_
      refine g_i2l dX11_richest_13 ?_
      refine g_lconst 1 dX11_richest_14 rfl ?_
      refine g_ldc2_w dX11_richest_15 ck_X11_408 ?_
      refine g_s3 hm (fun _ _ h => c_X11_isIn h) ce_X11_isIn lk_X11_201 rfl rfl dX11_richest_18 (fun x5 m4 hm => ?_)
      refine g_if_eq 34 hm dX11_richest_21 (by decide) (fun hm => ?_) (fun hm => ?_)
      · refine g_weak (vs' := [none, none, none, none, none, none, none, none]) trivial ?_
        exact hk3 _ hm
      · refine g_iloadn_2 dX11_richest_24 ?_
        refine g_i2l dX11_richest_25 ?_
        refine g_lconst 0 dX11_richest_26 rfl ?_
        refine g_lconst 1 dX11_richest_27 rfl ?_
        refine g_s3 hm (fun _ _ h => c_X11_isIn h) ce_X11_isIn lk_X11_201 rfl rfl dX11_richest_28 (fun x7 m6 hm => ?_)
        refine g_if_ne 38 hm dX11_richest_31 (by decide) (fun hm => ?_) (fun hm => ?_)
        · refine g_aloadn_0 dX11_richest_38 ?_
          refine g_geti fo_11_31 pn_27 pc_27 rfl dX11_richest_39 ?_
          refine g_istoreBn_3 hm dX11_richest_42 rfl (fun x8 hm => ?_)
          refine g_iconst (-1) dX11_richest_43 rfl ?_
          refine g_istore_4 dX11_richest_44 rfl ?_
          refine g_iconst (-1) dX11_richest_46 rfl ?_
          refine g_istore_5 dX11_richest_47 rfl ?_
          refine g_iconst (-1) dX11_richest_49 rfl ?_
          refine g_istore_6 dX11_richest_50 rfl ?_
          refine g_lp (I := fun (s : Sg × Int32 × Int32 × Int32) => GX g 79 RX11 cX11_richest 8 (some .int) (some (.int r)) mm 52 [some (.ref (g.ad 27)), some (.int a1), some (.int a2), some (.int x8), some (.int (s.2.1)), some (.int (s.2.2.1)), some (.int (s.2.2.2)), none] [] s.1) (E := fun (s : Sg × Int32 × Int32) => GX g 79 RX11 cX11_richest 8 (some .int) (some (.int r)) mm 136 [some (.ref (g.ad 27)), none, some (.int a2), some (.int x8), some (.int (s.2.1)), some (.int (s.2.2)), none, none] [] s.1) hm ?_ ?_
          · rintro ⟨m13, x14, x15⟩ hm
            (try dsimp only at hm)
            (try dsimp only)
            refine g_aloadn_0 dX11_richest_136 ?_
            refine g_iloadn_3 dX11_richest_137 ?_
            refine g_put hm fo_11_31 fp_11_31 pn_27 pc_27 rfl dX11_richest_138 (fun m33 hm => ?_)
            refine g_iloadn_2 dX11_richest_141 ?_
            refine g_if_ne 150 hm dX11_richest_142 (by decide) (fun hm => ?_) (fun hm => ?_)
            · refine g_iload_5 dX11_richest_150 ?_
              exact g_iret hm dX11_richest_152
            · refine g_iload_4 dX11_richest_145 ?_
              refine g_goto 152 dX11_richest_147 (by decide) ?_
              exact g_iret hm dX11_richest_152
          · rintro ⟨m9, x10, x11, x12⟩ o hm hx17 hi16
            (try dsimp only [f_X11_richest_L52] at hm)
            (try dsimp only)
            refine g_iload_6 dX11_richest_52 ?_
            refine g_aloadn_0 dX11_richest_54 ?_
            refine g_geti fo_11_7 pn_27 pc_27 rfl dX11_richest_55 ?_
            refine g_icmp_ge 136 hm dX11_richest_58 (by decide) (fun hm => ?_) (fun hm => ?_)
            · refine g_weak (vs' := [some (.ref (g.ad 27)), none, some (.int a2), some (.int x8), some (.int x10), some (.int x11), none, none]) ⟨rfl, ⟨rfl, ⟨rfl, ⟨rfl, ⟨rfl, trivial⟩⟩⟩⟩⟩ ?_
              cases hm
              exact hx17 _ rfl
            · refine g_aloadn_0 dX11_richest_61 ?_
              refine g_iload_6 dX11_richest_62 ?_
              refine g_put hm fo_11_31 fp_11_31 pn_27 pc_27 rfl dX11_richest_64 (fun m18 hm => ?_)
              refine g_aloadn_0 dX11_richest_67 ?_
              refine g_getr (q := 38) fo_11_29 pn_27 pc_27 rfl rfl dX11_richest_68 ?_
              refine g_aloadn_0 dX11_richest_71 ?_
              refine g_getr (q := 39) fo_11_30 pn_27 pc_27 rfl rfl dX11_richest_72 ?_
              refine g_s2V hm (fun _ h => c_X11_copy ar_38 ar_39 h) ce_X11_copy lk_X11_379 rfl rfl dX11_richest_75 (fun m19 hm => ?_)
              refine g_iconst 0 dX11_richest_78 rfl ?_
              refine g_istore_7 dX11_richest_79 rfl ?_
              refine g_lp (I := fun (s : Sg × Int32) => GX g 79 RX11 cX11_richest 8 (some .int) (some (.int r)) mm 81 [some (.ref (g.ad 27)), some (.int a1), some (.int a2), some (.int x8), some (.int x10), some (.int x11), some (.int x12), some (.int (s.2))] [] s.1) (E := fun (s : Sg) => GX g 79 RX11 cX11_richest 8 (some .int) (some (.int r)) mm 102 [some (.ref (g.ad 27)), some (.int a1), some (.int a2), some (.int x8), some (.int x10), some (.int x11), some (.int x12), none] [] s) hm ?_ ?_
              · rintro m22 hm
                (try dsimp only at hm)
                (try dsimp only)
                refine g_aloadn_0 dX11_richest_102 ?_
                refine g_getr (q := 39) fo_11_30 pn_27 pc_27 rfl rfl dX11_richest_103 ?_
                refine g_bipush 62 dX11_richest_106 rfl ?_
                refine g_ialoadc 62 rfl rfl ar_39.1 ar_39.2 dX11_richest_108 ?_
                refine g_iload_5 dX11_richest_109 ?_
                refine g_jn (J := fun (s : Sg × Int32 × Int32) => GX g 79 RX11 cX11_richest 8 (some .int) (some (.int r)) mm 130 [some (.ref (g.ad 27)), some (.int a1), some (.int a2), some (.int x8), some (.int (s.2.1)), some (.int (s.2.2)), some (.int x12), none] [] s.1) hm ?_ ?_
                · rintro ⟨m27, x28, x29⟩ hm
                  (try dsimp only at hm)
                  (try dsimp only)
                  refine g_iinc_6 1 hm dX11_richest_130 rfl rfl (fun x31 hm => ?_)
                  refine g_goto 52 dX11_richest_133 (by decide) ?_
                  cases hm
                  exact hi16 _ rfl
                · intro k30 hk30 hm
                  refine g_icmp_gt 117 hm dX11_richest_111 (by decide) (fun hm => ?_) (fun hm => ?_)
                  · refine g_iload_6 dX11_richest_117 ?_
                    refine g_istore_4 dX11_richest_119 rfl ?_
                    refine g_aloadn_0 dX11_richest_121 ?_
                    refine g_getr (q := 39) fo_11_30 pn_27 pc_27 rfl rfl dX11_richest_122 ?_
                    refine g_bipush 62 dX11_richest_125 rfl ?_
                    refine g_ialoadc 62 rfl rfl ar_39.1 ar_39.2 dX11_richest_127 ?_
                    refine g_istoreB_5 hm dX11_richest_128 rfl (fun x32 hm => ?_)
                    exact hk30 _ hm
                  · refine g_goto 130 dX11_richest_114 (by decide) ?_
                    exact hk30 _ hm
              · rintro ⟨m20, x21⟩ o hm hx24 hi23
                (try dsimp only [f_X11_richest_L81] at hm)
                (try dsimp only)
                refine g_iload_7 dX11_richest_81 ?_
                refine g_iloadn_1 dX11_richest_83 ?_
                refine g_icmp_ge 102 hm dX11_richest_84 (by decide) (fun hm => ?_) (fun hm => ?_)
                · refine g_weak (vs' := [some (.ref (g.ad 27)), some (.int a1), some (.int a2), some (.int x8), some (.int x10), some (.int x11), some (.int x12), none]) ⟨rfl, ⟨rfl, ⟨rfl, ⟨rfl, ⟨rfl, ⟨rfl, ⟨rfl, trivial⟩⟩⟩⟩⟩⟩⟩ ?_
                  cases hm
                  exact hx24 _ rfl
                · refine g_aloadn_0 dX11_richest_87 ?_
                  refine g_aloadn_0 dX11_richest_88 ?_
                  refine g_getr (q := 39) fo_11_30 pn_27 pc_27 rfl rfl dX11_richest_89 ?_
                  refine g_iconst 0 dX11_richest_92 rfl ?_
                  refine g_v2V hm (fun _ h => c_X11_goMonth HX ar_39 h) pn_27 (pc_27 _ _) rfl ce_X11_goMonth lk_X11_370 rfl rfl dX11_richest_93 (fun m25 hm => ?_)
                  refine g_iinc_7 1 hm dX11_richest_96 rfl rfl (fun x26 hm => ?_)
                  refine g_goto 81 dX11_richest_99 (by decide) ?_
                  cases hm
                  exact hi23 _ rfl
        · refine g_weak (vs' := [none, none, none, none, none, none, none, none]) trivial ?_
          exact hk3 _ hm
