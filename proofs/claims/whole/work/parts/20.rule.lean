def f_X10_feed  (m : Sg) (a1 : Int32) (a2 : Int32) (a3 : Int32) (a4 : Int32) (a5 : Int32) : Option (Int32 × Sg) :=
  cal (f_X9_filled m a1) (fun x2 m1 => cal (f_X9_filled m1 a2) (fun x4 m3 => cal (f_X9_filled m3 a3) (fun x6 m5 => cal (f_X9_filled m5 a4) (fun x8 m7 => cal (f_X9_filled m7 a5) (fun x10 m9 => bnd ((((x2 + x4) + x6) + x8) + x10) (fun x11 => cal (f_X9_size m9) (fun x13 m12 => (if (x13 + x11) ≤ 240 then calv (f_X9_add m12 a1) (fun m14 => calv (f_X9_add m14 a2) (fun m15 => calv (f_X9_add m15 a3) (fun m16 => calv (f_X9_add m16 a4) (fun m17 => calv (f_X9_add m17 a5) (fun m18 => cal (f_X9_size m18) (fun x20 m19 => some (x20, m19))))))) else
  some ((-1), m12)))))))))
set_option maxRecDepth 4000 in
theorem c_X10_feed {g : Cf} {m mm : Sg} {r : Int32} {a1 : Int32} {a2 : Int32} {a3 : Int32} {a4 : Int32} {a5 : Int32} (hm : f_X10_feed  m a1 a2 a3 a4 a5 = some (r, mm)) : Cl g 1 yX10_feed cX10_feed 7 (some .int) [.ref (g.ad 0), .int a1, .int a2, .int a3, .int a4, .int a5] m (some (.int r)) mm := by
  refine cl_of (by decide) (Nat.le_of_ble_eq_true rfl) (vs := [some (.ref (g.ad 0)), some (.int a1), some (.int a2), some (.int a3), some (.int a4), some (.int a5), none]) rfl rfl ?_
  show GX g 1 RX10 cX10_feed 7 (some .int) (some (.int r)) mm 0 _ [] m
  unfold f_X10_feed at hm
  refine g_iloadn_1 dX10_feed_0 ?_
  refine g_s1 hm (fun _ _ h => c_X9_filled h) ce_X9_filled lk_X10_74 rfl rfl dX10_feed_1 (fun x2 m1 hm => ?_)
  refine g_iloadn_2 dX10_feed_4 ?_
  refine g_s1 hm (fun _ _ h => c_X9_filled h) ce_X9_filled lk_X10_74 rfl rfl dX10_feed_5 (fun x4 m3 hm => ?_)
  refine g_iadd dX10_feed_8 ?_
  refine g_iloadn_3 dX10_feed_9 ?_
  refine g_s1 hm (fun _ _ h => c_X9_filled h) ce_X9_filled lk_X10_74 rfl rfl dX10_feed_10 (fun x6 m5 hm => ?_)
  refine g_iadd dX10_feed_13 ?_
  refine g_iload_4 dX10_feed_14 ?_
  refine g_s1 hm (fun _ _ h => c_X9_filled h) ce_X9_filled lk_X10_74 rfl rfl dX10_feed_16 (fun x8 m7 hm => ?_)
  refine g_iadd dX10_feed_19 ?_
  refine g_iload_5 dX10_feed_20 ?_
  refine g_s1 hm (fun _ _ h => c_X9_filled h) ce_X9_filled lk_X10_74 rfl rfl dX10_feed_22 (fun x10 m9 hm => ?_)
  refine g_iadd dX10_feed_25 ?_
  refine g_istoreB_6 hm dX10_feed_26 rfl (fun x11 hm => ?_)
  refine g_aloadn_0 dX10_feed_28 ?_
  refine g_getr (q := 1) fo_10_0 pn_0 pc_0 rfl rfl dX10_feed_29 ?_
  refine g_v0 hm (fun _ _ h => c_X9_size h) pn_1 (pc_1 _ _) rfl ce_X9_size lk_X10_78 rfl rfl dX10_feed_32 (fun x13 m12 hm => ?_)
  refine g_iload_6 dX10_feed_35 ?_
  refine g_iadd dX10_feed_37 ?_
  refine g_sipush 240 dX10_feed_38 rfl ?_
  refine g_icmp_le 46 hm dX10_feed_41 (by decide) (fun hm => ?_) (fun hm => ?_)
  · refine g_aloadn_0 dX10_feed_46 ?_
    refine g_getr (q := 1) fo_10_0 pn_0 pc_0 rfl rfl dX10_feed_47 ?_
    refine g_iloadn_1 dX10_feed_50 ?_
    refine g_v1V hm (fun _ h => c_X9_add h) pn_1 (pc_1 _ _) rfl ce_X9_add lk_X10_82 rfl rfl dX10_feed_51 (fun m14 hm => ?_)
    refine g_aloadn_0 dX10_feed_54 ?_
    refine g_getr (q := 1) fo_10_0 pn_0 pc_0 rfl rfl dX10_feed_55 ?_
    refine g_iloadn_2 dX10_feed_58 ?_
    refine g_v1V hm (fun _ h => c_X9_add h) pn_1 (pc_1 _ _) rfl ce_X9_add lk_X10_82 rfl rfl dX10_feed_59 (fun m15 hm => ?_)
    refine g_aloadn_0 dX10_feed_62 ?_
    refine g_getr (q := 1) fo_10_0 pn_0 pc_0 rfl rfl dX10_feed_63 ?_
    refine g_iloadn_3 dX10_feed_66 ?_
    refine g_v1V hm (fun _ h => c_X9_add h) pn_1 (pc_1 _ _) rfl ce_X9_add lk_X10_82 rfl rfl dX10_feed_67 (fun m16 hm => ?_)
    refine g_aloadn_0 dX10_feed_70 ?_
    refine g_getr (q := 1) fo_10_0 pn_0 pc_0 rfl rfl dX10_feed_71 ?_
    refine g_iload_4 dX10_feed_74 ?_
    refine g_v1V hm (fun _ h => c_X9_add h) pn_1 (pc_1 _ _) rfl ce_X9_add lk_X10_82 rfl rfl dX10_feed_76 (fun m17 hm => ?_)
    refine g_aloadn_0 dX10_feed_79 ?_
    refine g_getr (q := 1) fo_10_0 pn_0 pc_0 rfl rfl dX10_feed_80 ?_
    refine g_iload_5 dX10_feed_83 ?_
    refine g_v1V hm (fun _ h => c_X9_add h) pn_1 (pc_1 _ _) rfl ce_X9_add lk_X10_82 rfl rfl dX10_feed_85 (fun m18 hm => ?_)
    refine g_aloadn_0 dX10_feed_88 ?_
    refine g_getr (q := 1) fo_10_0 pn_0 pc_0 rfl rfl dX10_feed_89 ?_
    refine g_v0 hm (fun _ _ h => c_X9_size h) pn_1 (pc_1 _ _) rfl ce_X9_size lk_X10_78 rfl rfl dX10_feed_92 (fun x20 m19 hm => ?_)
    exact g_iret hm dX10_feed_95
  · refine g_iconst (-1) dX10_feed_44 rfl ?_
    exact g_iret hm dX10_feed_45
def f_X10_end  (m : Sg) (a1 : Int32) : Option (Int32 × Sg) :=
  (if a1 < 0 then some (0, m) else
  cal (f_X9_size m) (fun x2 m1 => (if a1 ≤ x2 then calv (f_X9_cut m1 a1) (fun m3 => some (1, m3)) else
  some (0, m1))))
set_option maxRecDepth 4000 in
theorem c_X10_end {g : Cf} {m mm : Sg} {r : Int32} {a1 : Int32} (hm : f_X10_end  m a1 = some (r, mm)) : Cl g 1 yX10_end cX10_end 2 (some .boolean) [.ref (g.ad 0), .int a1] m (some (.int r)) mm := by
  refine cl_of (by decide) (Nat.le_of_ble_eq_true rfl) (vs := [some (.ref (g.ad 0)), some (.int a1)]) rfl rfl ?_
  show GX g 1 RX10 cX10_end 2 (some .boolean) (some (.int r)) mm 0 _ [] m
  unfold f_X10_end at hm
  refine g_iloadn_1 dX10_end_0 ?_
  refine g_if_lt 15 hm dX10_end_1 (by decide) (fun hm => ?_) (fun hm => ?_)
  · refine g_iconst 0 dX10_end_15 rfl ?_
    exact g_zretc hm rfl dX10_end_16
  · refine g_iloadn_1 dX10_end_4 ?_
    refine g_aloadn_0 dX10_end_5 ?_
    refine g_getr (q := 1) fo_10_0 pn_0 pc_0 rfl rfl dX10_end_6 ?_
    refine g_v0 hm (fun _ _ h => c_X9_size h) pn_1 (pc_1 _ _) rfl ce_X9_size lk_X10_78 rfl rfl dX10_end_9 (fun x2 m1 hm => ?_)
    refine g_icmp_le 17 hm dX10_end_12 (by decide) (fun hm => ?_) (fun hm => ?_)
    · refine g_aloadn_0 dX10_end_17 ?_
      refine g_getr (q := 1) fo_10_0 pn_0 pc_0 rfl rfl dX10_end_18 ?_
      refine g_iloadn_1 dX10_end_21 ?_
      refine g_v1V hm (fun _ h => c_X9_cut h) pn_1 (pc_1 _ _) rfl ce_X9_cut lk_X10_86 rfl rfl dX10_end_22 (fun m3 hm => ?_)
      refine g_iconst 1 dX10_end_25 rfl ?_
      exact g_zretc hm rfl dX10_end_26
    · refine g_iconst 0 dX10_end_15 rfl ?_
      exact g_zretc hm rfl dX10_end_16
def f_X10_fault  (m : Sg) (a1 : Int32) : Option (Int32 × Sg) :=
  (if a1 = 0 then cal (f_X1_read m) (fun x4 m3 => some (x4, m3)) else
  (if a1 = 1 then cal (f_X6_read m) (fun x2 m1 => some (x2, m1)) else
  some ((-2), m)))
set_option maxRecDepth 4000 in
theorem c_X10_fault {g : Cf} {m mm : Sg} {r : Int32} {a1 : Int32} (HX : XOK g) (hm : f_X10_fault  m a1 = some (r, mm)) : Cl g 76 yX10_fault cX10_fault 2 (some .int) [.ref (g.ad 0), .int a1] m (some (.int r)) mm := by
  refine cl_of (by decide) (Nat.le_of_ble_eq_true rfl) (vs := [some (.ref (g.ad 0)), some (.int a1)]) rfl rfl ?_
  show GX g 76 RX10 cX10_fault 2 (some .int) (some (.int r)) mm 0 _ [] m
  unfold f_X10_fault at hm
  refine g_iloadn_1 dX10_fault_0 ?_
  refine g_if_ne 16 hm dX10_fault_1 (by decide) (fun hm => ?_) (fun hm => ?_)
  · refine g_iloadn_1 dX10_fault_16 ?_
    refine g_iconst 1 dX10_fault_17 rfl ?_
    refine g_icmp_ne 31 hm dX10_fault_18 (by decide) (fun hm => ?_) (fun hm => ?_)
    · refine g_bipush (-2) dX10_fault_31 rfl ?_
      exact g_iret hm dX10_fault_33
    · refine g_aloadn_0 dX10_fault_21 ?_
      refine g_getr (q := 10) fo_10_4 pn_0 pc_0 rfl rfl dX10_fault_22 ?_
      refine g_v0 hm (fun _ _ h => c_X6_read HX h) pn_10 (pc_10 _ _) rfl ce_X6_read lk_X10_93 rfl rfl dX10_fault_25 (fun x2 m1 hm => ?_)
      refine g_goto 33 dX10_fault_28 (by decide) ?_
      exact g_iret hm dX10_fault_33
  · refine g_aloadn_0 dX10_fault_4 ?_
    refine g_getr (q := 7) fo_10_3 pn_0 pc_0 rfl rfl dX10_fault_5 ?_
    refine g_aloadn_0 dX10_fault_8 ?_
    refine g_getr (q := 5) fo_10_2 pn_0 pc_0 rfl rfl dX10_fault_9 ?_
    refine g_v1 hm (fun _ _ h => c_X1_read HX h) pn_7 (pc_7 _ _) rfl ce_X1_read lk_X10_89 rfl rfl dX10_fault_12 (fun x4 m3 hm => ?_)
    exact g_iret hm dX10_fault_15
def f_X10_text  (m : Sg) (a1 : Int32) : Option (Int32 × Sg) :=
  bnd (fun (m1 : Sg) => (if a1 = 1 then cal (f_X5_hasRoom m1) (fun x4 m3 => (if x4 = 0 then some ((-1), m3) else
  cal (f_X6_read m3) (fun x6 m5 => (if x6 = (-1) then calv (f_X9_cut m5 0) (fun m7 => none) else
  some ((-1), m5))))) else
  some ((-1), m1))) (fun (k2 : Sg → Option (Int32 × Sg)) =>
  (if a1 = 0 then cal (f_X1_read m) (fun x9 m8 => (if x9 = (-1) then calv (f_X0_become 4 6 m8) (fun m10 => calv (f_X7_forgetAll m10) (fun m11 => calv (f_X9_cut m11 0) (fun m12 => cal (f_X0_children 4 m12) (fun x14 m13 => some (x14, m13))))) else
  k2 m8)) else
  k2 m))
set_option maxRecDepth 4000 in
theorem c_X10_text {g : Cf} {m mm : Sg} {r : Int32} {a1 : Int32} (HX : XOK g) (hm : f_X10_text  m a1 = some (r, mm)) : Cl g 76 yX10_text cX10_text 2 (some .int) [.ref (g.ad 0), .int a1] m (some (.int r)) mm := by
  refine cl_of (by decide) (Nat.le_of_ble_eq_true rfl) (vs := [some (.ref (g.ad 0)), some (.int a1)]) rfl rfl ?_
  show GX g 76 RX10 cX10_text 2 (some .int) (some (.int r)) mm 0 _ [] m
  unfold f_X10_text at hm
  refine g_iloadn_1 dX10_text_0 ?_
  refine g_jn (J := fun (s : Sg) => GX g 76 RX10 cX10_text 2 (some .int) (some (.int r)) mm 53 [some (.ref (g.ad 0)), some (.int a1)] [] s) hm ?_ ?_
  · intro m1 hm
    refine g_iloadn_1 dX10_text_53 ?_
    refine g_iconst 1 dX10_text_54 rfl ?_
    refine g_icmp_ne 99 hm dX10_text_55 (by decide) (fun hm => ?_) (fun hm => ?_)
    · refine g_iconst (-1) dX10_text_99 rfl ?_
      exact g_iret hm dX10_text_100
    · refine g_aloadn_0 dX10_text_58 ?_
      refine g_getr (q := 13) fo_10_5 pn_0 pc_0 rfl rfl dX10_text_59 ?_
      refine g_v0 hm (fun _ _ h => c_X5_hasRoom h) pn_13 (pc_13 _ _) rfl ce_X5_hasRoom lk_X10_104 rfl rfl dX10_text_62 (fun x4 m3 hm => ?_)
      refine g_if_eq 99 hm dX10_text_65 (by decide) (fun hm => ?_) (fun hm => ?_)
      · refine g_iconst (-1) dX10_text_99 rfl ?_
        exact g_iret hm dX10_text_100
      · refine g_aloadn_0 dX10_text_68 ?_
        refine g_getr (q := 10) fo_10_4 pn_0 pc_0 rfl rfl dX10_text_69 ?_
        refine g_v0 hm (fun _ _ h => c_X6_read HX h) pn_10 (pc_10 _ _) rfl ce_X6_read lk_X10_93 rfl rfl dX10_text_72 (fun x6 m5 hm => ?_)
        refine g_iconst (-1) dX10_text_75 rfl ?_
        refine g_icmp_ne 99 hm dX10_text_76 (by decide) (fun hm => ?_) (fun hm => ?_)
        · refine g_iconst (-1) dX10_text_99 rfl ?_
          exact g_iret hm dX10_text_100
        · refine g_aloadn_0 dX10_text_79 ?_
          refine g_getr (q := 1) fo_10_0 pn_0 pc_0 rfl rfl dX10_text_80 ?_
          refine g_iconst 0 dX10_text_83 rfl ?_
          refine g_v1V hm (fun _ h => c_X9_cut h) pn_1 (pc_1 _ _) rfl ce_X9_cut lk_X10_86 rfl rfl dX10_text_84 (fun m7 hm => ?_)
          cases hm
  · intro k2 hk2 hm
    refine g_if_ne 53 hm dX10_text_1 (by decide) (fun hm => ?_) (fun hm => ?_)
    · exact hk2 _ hm
    · refine g_aloadn_0 dX10_text_4 ?_
      refine g_getr (q := 7) fo_10_3 pn_0 pc_0 rfl rfl dX10_text_5 ?_
      refine g_aloadn_0 dX10_text_8 ?_
      refine g_getr (q := 5) fo_10_2 pn_0 pc_0 rfl rfl dX10_text_9 ?_
      refine g_v1 hm (fun _ _ h => c_X1_read HX h) pn_7 (pc_7 _ _) rfl ce_X1_read lk_X10_89 rfl rfl dX10_text_12 (fun x9 m8 hm => ?_)
      refine g_iconst (-1) dX10_text_15 rfl ?_
      refine g_icmp_ne 53 hm dX10_text_16 (by decide) (fun hm => ?_) (fun hm => ?_)
      · exact hk2 _ hm
      · refine g_aloadn_0 dX10_text_19 ?_
        refine g_getr (q := 3) fo_10_1 pn_0 pc_0 rfl rfl dX10_text_20 ?_
        refine g_aloadn_0 dX10_text_23 ?_
        refine g_getr (q := 5) fo_10_2 pn_0 pc_0 rfl rfl dX10_text_24 ?_
        refine g_v1V hm (fun _ h => c_X0_become cty_3 cty_5 h) pn_3 (pc_3 _ _) rfl ce_X0_become lk_X10_95 rfl rfl dX10_text_27 (fun m10 hm => ?_)
        refine g_aloadn_0 dX10_text_30 ?_
        refine g_getr (q := 16) fo_10_6 pn_0 pc_0 rfl rfl dX10_text_31 ?_
        refine g_v0V hm (fun _ h => c_X7_forgetAll h) pn_16 (pc_16 _ _) rfl ce_X7_forgetAll lk_X10_98 rfl rfl dX10_text_34 (fun m11 hm => ?_)
        refine g_aloadn_0 dX10_text_37 ?_
        refine g_getr (q := 1) fo_10_0 pn_0 pc_0 rfl rfl dX10_text_38 ?_
        refine g_iconst 0 dX10_text_41 rfl ?_
        refine g_v1V hm (fun _ h => c_X9_cut h) pn_1 (pc_1 _ _) rfl ce_X9_cut lk_X10_86 rfl rfl dX10_text_42 (fun m12 hm => ?_)
        refine g_aloadn_0 dX10_text_45 ?_
        refine g_getr (q := 3) fo_10_1 pn_0 pc_0 rfl rfl dX10_text_46 ?_
        refine g_v0 hm (fun _ _ h => c_X0_children cty_3 h) pn_3 (pc_3 _ _) rfl ce_X0_children lk_X10_101 rfl rfl dX10_text_49 (fun x14 m13 hm => ?_)
        exact g_iret hm dX10_text_52
def f_X10_child (nl : Nat) (ln : Nat → Nat)  (m : Sg) (a1 : Int32) (a2 : Int32) : Option (Int32 × Sg) :=
  cal (f_X0_hasChild 4 m a1) (fun x2 m1 => bnd (fun (m3 : Sg) => none) (fun (k4 : Sg → Option (Int32 × Sg)) =>
  (if x2 = 0 then k4 m1 else
  (if a2 < 0 then k4 m1 else
  (if a2 ≤ 11 then (if a2 = 10 then cal (f_X0_countOf 4 m1 a1) (fun x12 m11 => some (x12, m11)) else
  (if a2 = 11 then cal (f_X5_holding m1) (fun x8 m7 => cal (f_X5_taxOf nl ln 4 m7 a1 x8) (fun x10 m9 => some (x10, m9))) else
  cal (f_X0_kid 4 m1 a1 a2) (fun x6 m5 => some (x6, m5)))) else
  k4 m1)))))
set_option maxRecDepth 4000 in
theorem c_X10_child {g : Cf} {m mm : Sg} {r : Int32} {a1 : Int32} {a2 : Int32} (H4 : g.nl ≤ 4) (HX : XOK g) (hm : f_X10_child g.nl g.ln  m a1 a2 = some (r, mm)) : Cl g 7 yX10_child cX10_child 3 (some .int) [.ref (g.ad 0), .int a1, .int a2] m (some (.int r)) mm := by
  refine cl_of (by decide) (Nat.le_of_ble_eq_true rfl) (vs := [some (.ref (g.ad 0)), some (.int a1), some (.int a2)]) rfl rfl ?_
  show GX g 7 RX10 cX10_child 3 (some .int) (some (.int r)) mm 0 _ [] m
  unfold f_X10_child at hm
  refine g_aloadn_0 dX10_child_0 ?_
  refine g_getr (q := 3) fo_10_1 pn_0 pc_0 rfl rfl dX10_child_1 ?_
  refine g_iloadn_1 dX10_child_4 ?_
  refine g_v1 hm (fun _ _ h => c_X0_hasChild cty_3 h) pn_3 (pc_3 _ _) rfl ce_X0_hasChild lk_X10_112 rfl rfl dX10_child_5 (fun x2 m1 hm => ?_)
  refine g_jn (J := fun (s : Sg) => GX g 7 RX10 cX10_child 3 (some .int) (some (.int r)) mm 21 [none, none, none] [] s) hm ?_ ?_
  · intro m3 hm
    cases hm
  · intro k4 hk4 hm
    refine g_if_eq 21 hm dX10_child_8 (by decide) (fun hm => ?_) (fun hm => ?_)
    · refine g_weak (vs' := [none, none, none]) trivial ?_
      exact hk4 _ hm
    · refine g_iloadn_2 dX10_child_11 ?_
      refine g_if_lt 21 hm dX10_child_12 (by decide) (fun hm => ?_) (fun hm => ?_)
      · refine g_weak (vs' := [none, none, none]) trivial ?_
        exact hk4 _ hm
      · refine g_iloadn_2 dX10_child_15 ?_
        refine g_bipush 11 dX10_child_16 rfl ?_
        refine g_icmp_le 29 hm dX10_child_18 (by decide) (fun hm => ?_) (fun hm => ?_)
        · refine g_iloadn_2 dX10_child_29 ?_
          refine g_bipush 10 dX10_child_30 rfl ?_
          refine g_icmp_ne 44 hm dX10_child_32 (by decide) (fun hm => ?_) (fun hm => ?_)
          · refine g_iloadn_2 dX10_child_44 ?_
            refine g_bipush 11 dX10_child_45 rfl ?_
            refine g_icmp_ne 72 hm dX10_child_47 (by decide) (fun hm => ?_) (fun hm => ?_)
            · refine g_aloadn_0 dX10_child_72 ?_
              refine g_getr (q := 3) fo_10_1 pn_0 pc_0 rfl rfl dX10_child_73 ?_
              refine g_iloadn_1 dX10_child_76 ?_
              refine g_iloadn_2 dX10_child_77 ?_
              refine g_v2 hm (fun _ _ h => c_X0_kid cty_3 h) pn_3 (pc_3 _ _) rfl ce_X0_kid lk_X10_129 rfl rfl dX10_child_78 (fun x6 m5 hm => ?_)
              exact g_iret hm dX10_child_81
            · refine g_aloadn_0 dX10_child_50 ?_
              refine g_getr (q := 13) fo_10_5 pn_0 pc_0 rfl rfl dX10_child_51 ?_
              refine g_aloadn_0 dX10_child_54 ?_
              refine g_getr (q := 3) fo_10_1 pn_0 pc_0 rfl rfl dX10_child_55 ?_
              refine g_iloadn_1 dX10_child_58 ?_
              refine g_aloadn_0 dX10_child_59 ?_
              refine g_getr (q := 13) fo_10_5 pn_0 pc_0 rfl rfl dX10_child_60 ?_
              refine g_v0 hm (fun _ _ h => c_X5_holding h) pn_13 (pc_13 _ _) rfl ce_X5_holding lk_X10_122 rfl rfl dX10_child_63 (fun x8 m7 hm => ?_)
              refine g_v3 hm (fun _ _ h => c_X5_taxOf H4 HX cty_3 h) pn_13 (pc_13 _ _) rfl ce_X5_taxOf lk_X10_125 rfl rfl dX10_child_66 (fun x10 m9 hm => ?_)
              refine g_goto 81 dX10_child_69 (by decide) ?_
              exact g_iret hm dX10_child_81
          · refine g_aloadn_0 dX10_child_35 ?_
            refine g_getr (q := 3) fo_10_1 pn_0 pc_0 rfl rfl dX10_child_36 ?_
            refine g_iloadn_1 dX10_child_39 ?_
            refine g_v1 hm (fun _ _ h => c_X0_countOf cty_3 h) pn_3 (pc_3 _ _) rfl ce_X0_countOf lk_X10_119 rfl rfl dX10_child_40 (fun x12 m11 hm => ?_)
            exact g_iret hm dX10_child_43
        · refine g_weak (vs' := [none, none, none]) trivial ?_
          exact hk4 _ hm
def f_X10_elder  (m : Sg) (a1 : Int32) (a2 : Int32) : Option (Int32 × Sg) :=
  cal (f_X0_hasElder 4 m a1) (fun x2 m1 => (if x2 = 0 then some ((-1), m1) else
  (if a2 < 0 then some ((-1), m1) else
  (if 3 ≤ a2 then some ((-1), m1) else
  cal (f_X0_old 4 m1 a1 a2) (fun x4 m3 => some (x4, m3))))))
set_option maxRecDepth 4000 in
theorem c_X10_elder {g : Cf} {m mm : Sg} {r : Int32} {a1 : Int32} {a2 : Int32} (hm : f_X10_elder  m a1 a2 = some (r, mm)) : Cl g 1 yX10_elder cX10_elder 3 (some .int) [.ref (g.ad 0), .int a1, .int a2] m (some (.int r)) mm := by
  refine cl_of (by decide) (Nat.le_of_ble_eq_true rfl) (vs := [some (.ref (g.ad 0)), some (.int a1), some (.int a2)]) rfl rfl ?_
  show GX g 1 RX10 cX10_elder 3 (some .int) (some (.int r)) mm 0 _ [] m
  unfold f_X10_elder at hm
  refine g_aloadn_0 dX10_elder_0 ?_
  refine g_getr (q := 3) fo_10_1 pn_0 pc_0 rfl rfl dX10_elder_1 ?_
  refine g_iloadn_1 dX10_elder_4 ?_
  refine g_v1 hm (fun _ _ h => c_X0_hasElder cty_3 h) pn_3 (pc_3 _ _) rfl ce_X0_hasElder lk_X10_133 rfl rfl dX10_elder_5 (fun x2 m1 hm => ?_)
  refine g_if_eq 32 hm dX10_elder_8 (by decide) (fun hm => ?_) (fun hm => ?_)
  · refine g_iconst (-1) dX10_elder_32 rfl ?_
    exact g_iret hm dX10_elder_33
  · refine g_iloadn_2 dX10_elder_11 ?_
    refine g_if_lt 32 hm dX10_elder_12 (by decide) (fun hm => ?_) (fun hm => ?_)
    · refine g_iconst (-1) dX10_elder_32 rfl ?_
      exact g_iret hm dX10_elder_33
    · refine g_iloadn_2 dX10_elder_15 ?_
      refine g_iconst 3 dX10_elder_16 rfl ?_
      refine g_icmp_ge 32 hm dX10_elder_17 (by decide) (fun hm => ?_) (fun hm => ?_)
      · refine g_iconst (-1) dX10_elder_32 rfl ?_
        exact g_iret hm dX10_elder_33
      · refine g_aloadn_0 dX10_elder_20 ?_
        refine g_getr (q := 3) fo_10_1 pn_0 pc_0 rfl rfl dX10_elder_21 ?_
        refine g_iloadn_1 dX10_elder_24 ?_
        refine g_iloadn_2 dX10_elder_25 ?_
        refine g_v2 hm (fun _ _ h => c_X0_old cty_3 h) pn_3 (pc_3 _ _) rfl ce_X0_old lk_X10_136 rfl rfl dX10_elder_26 (fun x4 m3 hm => ?_)
        refine g_goto 33 dX10_elder_29 (by decide) ?_
        exact g_iret hm dX10_elder_33
def f_X10_rule  (m : Sg) (a1 : Int32) : Option (Int32 × Sg) :=
  cal (f_X0_isTold 4 m) (fun x2 m1 => (if x2 = 0 then some ((-1), m1) else
  (if a1 < 0 then some ((-1), m1) else
  (if 3 ≤ a1 then some ((-1), m1) else
  cal (f_X0_cell 4 m1 (92 + a1)) (fun x4 m3 => some (x4, m3))))))
set_option maxRecDepth 4000 in
theorem c_X10_rule {g : Cf} {m mm : Sg} {r : Int32} {a1 : Int32} (hm : f_X10_rule  m a1 = some (r, mm)) : Cl g 1 yX10_rule cX10_rule 2 (some .int) [.ref (g.ad 0), .int a1] m (some (.int r)) mm := by
  refine cl_of (by decide) (Nat.le_of_ble_eq_true rfl) (vs := [some (.ref (g.ad 0)), some (.int a1)]) rfl rfl ?_
  show GX g 1 RX10 cX10_rule 2 (some .int) (some (.int r)) mm 0 _ [] m
  unfold f_X10_rule at hm
  refine g_aloadn_0 dX10_rule_0 ?_
  refine g_getr (q := 3) fo_10_1 pn_0 pc_0 rfl rfl dX10_rule_1 ?_
  refine g_v0 hm (fun _ _ h => c_X0_isTold cty_3 h) pn_3 (pc_3 _ _) rfl ce_X0_isTold lk_X10_139 rfl rfl dX10_rule_4 (fun x2 m1 hm => ?_)
  refine g_if_eq 33 hm dX10_rule_7 (by decide) (fun hm => ?_) (fun hm => ?_)
  · refine g_iconst (-1) dX10_rule_33 rfl ?_
    exact g_iret hm dX10_rule_34
  · refine g_iloadn_1 dX10_rule_10 ?_
    refine g_if_lt 33 hm dX10_rule_11 (by decide) (fun hm => ?_) (fun hm => ?_)
    · refine g_iconst (-1) dX10_rule_33 rfl ?_
      exact g_iret hm dX10_rule_34
    · refine g_iloadn_1 dX10_rule_14 ?_
      refine g_iconst 3 dX10_rule_15 rfl ?_
      refine g_icmp_ge 33 hm dX10_rule_16 (by decide) (fun hm => ?_) (fun hm => ?_)
      · refine g_iconst (-1) dX10_rule_33 rfl ?_
        exact g_iret hm dX10_rule_34
      · refine g_aloadn_0 dX10_rule_19 ?_
        refine g_getr (q := 3) fo_10_1 pn_0 pc_0 rfl rfl dX10_rule_20 ?_
        refine g_bipush 92 dX10_rule_23 rfl ?_
        refine g_iloadn_1 dX10_rule_25 ?_
        refine g_iadd dX10_rule_26 ?_
        refine g_v1 hm (fun _ _ h => c_X0_cell cty_3 h) pn_3 (pc_3 _ _) rfl ce_X0_cell lk_X10_142 rfl rfl dX10_rule_27 (fun x4 m3 hm => ?_)
        refine g_goto 34 dX10_rule_30 (by decide) ?_
        exact g_iret hm dX10_rule_34
def f_X10_law  (m : Sg) (a1 : Int32) : Option (Int32 × Sg) :=
  cal (f_X5_letHold m a1) (fun x2 m1 => if isB x2 = true then some (x2, m1) else none)
set_option maxRecDepth 4000 in
theorem c_X10_law {g : Cf} {m mm : Sg} {r : Int32} {a1 : Int32} (hm : f_X10_law  m a1 = some (r, mm)) : Cl g 1 yX10_law cX10_law 2 (some .boolean) [.ref (g.ad 0), .int a1] m (some (.int r)) mm := by
  refine cl_of (by decide) (Nat.le_of_ble_eq_true rfl) (vs := [some (.ref (g.ad 0)), some (.int a1)]) rfl rfl ?_
  show GX g 1 RX10 cX10_law 2 (some .boolean) (some (.int r)) mm 0 _ [] m
  unfold f_X10_law at hm
  refine g_aloadn_0 dX10_law_0 ?_
  refine g_getr (q := 13) fo_10_5 pn_0 pc_0 rfl rfl dX10_law_1 ?_
  refine g_iloadn_1 dX10_law_4 ?_
  refine g_v1 hm (fun _ _ h => c_X5_letHold h) pn_13 (pc_13 _ _) rfl ce_X5_letHold lk_X10_145 rfl rfl dX10_law_5 (fun x2 m1 hm => ?_)
  exact g_zret hm dX10_law_8
def f_X10_fever  (m : Sg) (a1 : Int32) : Option (Int32 × Sg) :=
  (if a1 < 0 then some (0, m) else
  (if 99 < a1 then some (0, m) else
  (if a1 = (m.1 0 9) then some (0, m) else
  bnd (wr m 0 9 a1) (fun m1 => some (1, m1)))))
set_option maxRecDepth 4000 in
theorem c_X10_fever {g : Cf} {m mm : Sg} {r : Int32} {a1 : Int32} (hm : f_X10_fever  m a1 = some (r, mm)) : Cl g 0 yX10_fever cX10_fever 2 (some .boolean) [.ref (g.ad 0), .int a1] m (some (.int r)) mm := by
  refine cl_of (by decide) (Nat.le_of_ble_eq_true rfl) (vs := [some (.ref (g.ad 0)), some (.int a1)]) rfl rfl ?_
  show GX g 0 RX10 cX10_fever 2 (some .boolean) (some (.int r)) mm 0 _ [] m
  unfold f_X10_fever at hm
  refine g_iloadn_1 dX10_fever_0 ?_
  refine g_if_lt 18 hm dX10_fever_1 (by decide) (fun hm => ?_) (fun hm => ?_)
  · refine g_iconst 0 dX10_fever_18 rfl ?_
    exact g_zretc hm rfl dX10_fever_19
  · refine g_iloadn_1 dX10_fever_4 ?_
    refine g_bipush 99 dX10_fever_5 rfl ?_
    refine g_icmp_gt 18 hm dX10_fever_7 (by decide) (fun hm => ?_) (fun hm => ?_)
    · refine g_iconst 0 dX10_fever_18 rfl ?_
      exact g_zretc hm rfl dX10_fever_19
    · refine g_iloadn_1 dX10_fever_10 ?_
      refine g_aloadn_0 dX10_fever_11 ?_
      refine g_geti fo_10_9 pn_0 pc_0 rfl dX10_fever_12 ?_
      refine g_icmp_ne 20 hm dX10_fever_15 (by decide) (fun hm => ?_) (fun hm => ?_)
      · refine g_aloadn_0 dX10_fever_20 ?_
        refine g_iloadn_1 dX10_fever_21 ?_
        refine g_put hm fo_10_9 fp_10_9 pn_0 pc_0 rfl dX10_fever_22 (fun m1 hm => ?_)
        refine g_iconst 1 dX10_fever_25 rfl ?_
        exact g_zretc hm rfl dX10_fever_26
      · refine g_iconst 0 dX10_fever_18 rfl ?_
        exact g_zretc hm rfl dX10_fever_19
def f_X10_passes  (m : Sg) (a1 : Int32) (a2 : Int32) : Option (Int32 × Sg) :=
  cal (f_X0_hasChild 4 m a1) (fun x2 m1 => (if x2 = 0 then some ((-1), m1) else
  cal (f_X0_hasElder 4 m1 a2) (fun x4 m3 => (if x4 = 0 then some ((-1), m3) else
  cal (f_X0_stands 4 m3 a1 a2) (fun x6 m5 => (if x6 = 0 then some (0, m5) else
  some (1, m5)))))))
set_option maxRecDepth 4000 in
theorem c_X10_passes {g : Cf} {m mm : Sg} {r : Int32} {a1 : Int32} {a2 : Int32} (hm : f_X10_passes  m a1 a2 = some (r, mm)) : Cl g 4 yX10_passes cX10_passes 3 (some .int) [.ref (g.ad 0), .int a1, .int a2] m (some (.int r)) mm := by
  refine cl_of (by decide) (Nat.le_of_ble_eq_true rfl) (vs := [some (.ref (g.ad 0)), some (.int a1), some (.int a2)]) rfl rfl ?_
  show GX g 4 RX10 cX10_passes 3 (some .int) (some (.int r)) mm 0 _ [] m
  unfold f_X10_passes at hm
  refine g_aloadn_0 dX10_passes_0 ?_
  refine g_getr (q := 3) fo_10_1 pn_0 pc_0 rfl rfl dX10_passes_1 ?_
  refine g_iloadn_1 dX10_passes_4 ?_
  refine g_v1 hm (fun _ _ h => c_X0_hasChild cty_3 h) pn_3 (pc_3 _ _) rfl ce_X0_hasChild lk_X10_112 rfl rfl dX10_passes_5 (fun x2 m1 hm => ?_)
  refine g_if_eq 22 hm dX10_passes_8 (by decide) (fun hm => ?_) (fun hm => ?_)
  · refine g_iconst (-1) dX10_passes_22 rfl ?_
    exact g_iret hm dX10_passes_23
  · refine g_aloadn_0 dX10_passes_11 ?_
    refine g_getr (q := 3) fo_10_1 pn_0 pc_0 rfl rfl dX10_passes_12 ?_
    refine g_iloadn_2 dX10_passes_15 ?_
    refine g_v1 hm (fun _ _ h => c_X0_hasElder cty_3 h) pn_3 (pc_3 _ _) rfl ce_X0_hasElder lk_X10_133 rfl rfl dX10_passes_16 (fun x4 m3 hm => ?_)
    refine g_if_ne 24 hm dX10_passes_19 (by decide) (fun hm => ?_) (fun hm => ?_)
    · refine g_aloadn_0 dX10_passes_24 ?_
      refine g_getr (q := 3) fo_10_1 pn_0 pc_0 rfl rfl dX10_passes_25 ?_
      refine g_iloadn_1 dX10_passes_28 ?_
      refine g_iloadn_2 dX10_passes_29 ?_
      refine g_v2 hm (fun _ _ h => c_X0_stands cty_3 h) pn_3 (pc_3 _ _) rfl ce_X0_stands lk_X10_152 rfl rfl dX10_passes_30 (fun x6 m5 hm => ?_)
      refine g_if_eq 40 hm dX10_passes_33 (by decide) (fun hm => ?_) (fun hm => ?_)
      · refine g_iconst 0 dX10_passes_40 rfl ?_
        exact g_iret hm dX10_passes_41
      · refine g_iconst 1 dX10_passes_36 rfl ?_
        refine g_goto 41 dX10_passes_37 (by decide) ?_
        exact g_iret hm dX10_passes_41
    · refine g_iconst (-1) dX10_passes_22 rfl ?_
      exact g_iret hm dX10_passes_23
def f_X10_slips  (m : Sg) (a1 : Int32) (a2 : Int32) : Option (Int32 × Sg) :=
  cal (f_X0_hasChild 4 m a1) (fun x2 m1 => (if x2 = 0 then some ((-1), m1) else
  cal (f_X0_hasElder 4 m1 a2) (fun x4 m3 => (if x4 = 0 then some ((-1), m3) else
  cal (f_X0_wants 4 m3 a1 a2) (fun x6 m5 => some (x6, m5))))))
set_option maxRecDepth 4000 in
theorem c_X10_slips {g : Cf} {m mm : Sg} {r : Int32} {a1 : Int32} {a2 : Int32} (hm : f_X10_slips  m a1 a2 = some (r, mm)) : Cl g 3 yX10_slips cX10_slips 3 (some .int) [.ref (g.ad 0), .int a1, .int a2] m (some (.int r)) mm := by
  refine cl_of (by decide) (Nat.le_of_ble_eq_true rfl) (vs := [some (.ref (g.ad 0)), some (.int a1), some (.int a2)]) rfl rfl ?_
  show GX g 3 RX10 cX10_slips 3 (some .int) (some (.int r)) mm 0 _ [] m
  unfold f_X10_slips at hm
  refine g_aloadn_0 dX10_slips_0 ?_
  refine g_getr (q := 3) fo_10_1 pn_0 pc_0 rfl rfl dX10_slips_1 ?_
  refine g_iloadn_1 dX10_slips_4 ?_
  refine g_v1 hm (fun _ _ h => c_X0_hasChild cty_3 h) pn_3 (pc_3 _ _) rfl ce_X0_hasChild lk_X10_112 rfl rfl dX10_slips_5 (fun x2 m1 hm => ?_)
  refine g_if_eq 34 hm dX10_slips_8 (by decide) (fun hm => ?_) (fun hm => ?_)
  · refine g_iconst (-1) dX10_slips_34 rfl ?_
    exact g_iret hm dX10_slips_35
  · refine g_aloadn_0 dX10_slips_11 ?_
    refine g_getr (q := 3) fo_10_1 pn_0 pc_0 rfl rfl dX10_slips_12 ?_
    refine g_iloadn_2 dX10_slips_15 ?_
    refine g_v1 hm (fun _ _ h => c_X0_hasElder cty_3 h) pn_3 (pc_3 _ _) rfl ce_X0_hasElder lk_X10_133 rfl rfl dX10_slips_16 (fun x4 m3 hm => ?_)
    refine g_if_eq 34 hm dX10_slips_19 (by decide) (fun hm => ?_) (fun hm => ?_)
    · refine g_iconst (-1) dX10_slips_34 rfl ?_
      exact g_iret hm dX10_slips_35
    · refine g_aloadn_0 dX10_slips_22 ?_
      refine g_getr (q := 3) fo_10_1 pn_0 pc_0 rfl rfl dX10_slips_23 ?_
      refine g_iloadn_1 dX10_slips_26 ?_
      refine g_iloadn_2 dX10_slips_27 ?_
      refine g_v2 hm (fun _ _ h => c_X0_wants cty_3 h) pn_3 (pc_3 _ _) rfl ce_X0_wants lk_X10_156 rfl rfl dX10_slips_28 (fun x6 m5 hm => ?_)
      refine g_goto 35 dX10_slips_31 (by decide) ?_
      exact g_iret hm dX10_slips_35
def f_X10_examiner  (m : Sg)  : Option (Int32 × Sg) :=
  cal (f_X0_trier 4 m) (fun x2 m1 => some (x2, m1))
set_option maxRecDepth 4000 in
theorem c_X10_examiner {g : Cf} {m mm : Sg} {r : Int32} (hm : f_X10_examiner  m  = some (r, mm)) : Cl g 4 yX10_examiner cX10_examiner 1 (some .int) [.ref (g.ad 0)] m (some (.int r)) mm := by
  refine cl_of (by decide) (Nat.le_of_ble_eq_true rfl) (vs := [some (.ref (g.ad 0))]) rfl rfl ?_
  show GX g 4 RX10 cX10_examiner 1 (some .int) (some (.int r)) mm 0 _ [] m
  unfold f_X10_examiner at hm
  refine g_aloadn_0 dX10_examiner_0 ?_
  refine g_getr (q := 3) fo_10_1 pn_0 pc_0 rfl rfl dX10_examiner_1 ?_
  refine g_v0 hm (fun _ _ h => c_X0_trier cty_3 h) pn_3 (pc_3 _ _) rfl ce_X0_trier lk_X10_159 rfl rfl dX10_examiner_4 (fun x2 m1 hm => ?_)
  exact g_iret hm dX10_examiner_7
def f_X10_log  (m : Sg) (a1 : Int32) (a2 : Int32) : Option (Int32 × Sg) :=
  (if a1 < 0 then some ((-1000000), m) else
  cal (f_X7_logLength m) (fun x2 m1 => (if x2 ≤ a1 then some ((-1000000), m1) else
  (if a2 < 0 then some ((-1000000), m1) else
  (if a2 < 3 then cal (f_X0_cell 4 m1 97) (fun x4 m3 => cal (f_X7_logged m3 (x4 - a1) a2) (fun x6 m5 => some (x6, m5))) else
  some ((-1000000), m1))))))
set_option maxRecDepth 4000 in
theorem c_X10_log {g : Cf} {m mm : Sg} {r : Int32} {a1 : Int32} {a2 : Int32} (hm : f_X10_log  m a1 a2 = some (r, mm)) : Cl g 2 yX10_log cX10_log 3 (some .int) [.ref (g.ad 0), .int a1, .int a2] m (some (.int r)) mm := by
  refine cl_of (by decide) (Nat.le_of_ble_eq_true rfl) (vs := [some (.ref (g.ad 0)), some (.int a1), some (.int a2)]) rfl rfl ?_
  show GX g 2 RX10 cX10_log 3 (some .int) (some (.int r)) mm 0 _ [] m
  unfold f_X10_log at hm
  refine g_iloadn_1 dX10_log_0 ?_
  refine g_if_lt 28 hm dX10_log_1 (by decide) (fun hm => ?_) (fun hm => ?_)
  · refine g_ldc dX10_log_28 ck_X10_165 ?_
    exact g_iret hm dX10_log_30
  · refine g_iloadn_1 dX10_log_4 ?_
    refine g_aloadn_0 dX10_log_5 ?_
    refine g_getr (q := 16) fo_10_6 pn_0 pc_0 rfl rfl dX10_log_6 ?_
    refine g_aloadn_0 dX10_log_9 ?_
    refine g_getr (q := 3) fo_10_1 pn_0 pc_0 rfl rfl dX10_log_10 ?_
    refine g_v1 hm (fun _ _ h => c_X7_logLength h) pn_16 (pc_16 _ _) rfl ce_X7_logLength lk_X10_162 rfl rfl dX10_log_13 (fun x2 m1 hm => ?_)
    refine g_icmp_ge 28 hm dX10_log_16 (by decide) (fun hm => ?_) (fun hm => ?_)
    · refine g_ldc dX10_log_28 ck_X10_165 ?_
      exact g_iret hm dX10_log_30
    · refine g_iloadn_2 dX10_log_19 ?_
      refine g_if_lt 28 hm dX10_log_20 (by decide) (fun hm => ?_) (fun hm => ?_)
      · refine g_ldc dX10_log_28 ck_X10_165 ?_
        exact g_iret hm dX10_log_30
      · refine g_iloadn_2 dX10_log_23 ?_
        refine g_iconst 3 dX10_log_24 rfl ?_
        refine g_icmp_lt 31 hm dX10_log_25 (by decide) (fun hm => ?_) (fun hm => ?_)
        · refine g_aloadn_0 dX10_log_31 ?_
          refine g_getr (q := 16) fo_10_6 pn_0 pc_0 rfl rfl dX10_log_32 ?_
          refine g_aloadn_0 dX10_log_35 ?_
          refine g_getr (q := 3) fo_10_1 pn_0 pc_0 rfl rfl dX10_log_36 ?_
          refine g_bipush 97 dX10_log_39 rfl ?_
          refine g_v1 hm (fun _ _ h => c_X0_cell cty_3 h) pn_3 (pc_3 _ _) rfl ce_X0_cell lk_X10_142 rfl rfl dX10_log_41 (fun x4 m3 hm => ?_)
          refine g_iloadn_1 dX10_log_44 ?_
          refine g_isub dX10_log_45 ?_
          refine g_iloadn_2 dX10_log_46 ?_
          refine g_v2 hm (fun _ _ h => c_X7_logged h) pn_16 (pc_16 _ _) rfl ce_X7_logged lk_X10_166 rfl rfl dX10_log_47 (fun x6 m5 hm => ?_)
          exact g_iret hm dX10_log_50
        · refine g_ldc dX10_log_28 ck_X10_165 ?_
          exact g_iret hm dX10_log_30
def f_X10_count  (m : Sg) (a1 : Int32) : Option (Int32 × Sg) :=
  (if a1 = 0 then cal (f_X0_children 4 m) (fun x2 m1 => some (x2, m1)) else
  (if a1 = 1 then cal (f_X0_elders 4 m) (fun x4 m3 => some (x4, m3)) else
  (if a1 = 2 then cal (f_X5_size m) (fun x6 m5 => some (x6, m5)) else
  (if a1 = 3 then cal (f_X9_size m) (fun x8 m7 => some (x8, m7)) else
  (if a1 = 4 then cal (f_X5_holding m) (fun x10 m9 => some (x10, m9)) else
  (if a1 = 5 then cal (f_X0_cell 4 m 97) (fun x12 m11 => some (x12, m11)) else
  (if a1 = 6 then cal (f_X0_ruler 4 m) (fun x14 m13 => some (x14, m13)) else
  (if a1 = 7 then cal (f_X0_cell 4 m 99) (fun x16 m15 => some (x16, m15)) else
  (if a1 = 8 then some (m.1 0 9, m) else
  (if a1 = 9 then cal (f_X0_ruler 4 m) (fun x18 m17 => (if x18 = (-1) then some (0, m17) else
  cal (f_X0_ruler 4 m17) (fun x20 m19 => cal (f_X0_countOf 4 m19 x20) (fun x22 m21 => some (x22, m21))))) else
  (if a1 = 10 then cal (f_X7_logLength m) (fun x24 m23 => some (x24, m23)) else
  (if a1 = 11 then cal (f_X7_acts m) (fun x26 m25 => some (x26, m25)) else
  some ((-1000000), m)))))))))))))
set_option maxRecDepth 4000 in
theorem c_X10_count {g : Cf} {m mm : Sg} {r : Int32} {a1 : Int32} (hm : f_X10_count  m a1 = some (r, mm)) : Cl g 4 yX10_count cX10_count 2 (some .int) [.ref (g.ad 0), .int a1] m (some (.int r)) mm := by
  refine cl_of (by decide) (Nat.le_of_ble_eq_true rfl) (vs := [some (.ref (g.ad 0)), some (.int a1)]) rfl rfl ?_
  show GX g 4 RX10 cX10_count 2 (some .int) (some (.int r)) mm 0 _ [] m
  unfold f_X10_count at hm
  refine g_iloadn_1 dX10_count_0 ?_
  refine g_tc 64 hm dX10_count_1 (by decide) (by decide) rfl (by decide) (fun hm => ?_) (fun q0 hm => ?_)
  · refine g_aloadn_0 dX10_count_64 ?_
    refine g_getr (q := 3) fo_10_1 pn_0 pc_0 rfl rfl dX10_count_65 ?_
    refine g_v0 hm (fun _ _ h => c_X0_children cty_3 h) pn_3 (pc_3 _ _) rfl ce_X0_children lk_X10_101 rfl rfl dX10_count_68 (fun x2 m1 hm => ?_)
    exact g_iret hm dX10_count_71
  · refine g_tc 72 hm dX10_count_1 (by decide) (by decide) rfl (by decide) (fun hm => ?_) (fun q1 hm => ?_)
    · refine g_aloadn_0 dX10_count_72 ?_
      refine g_getr (q := 3) fo_10_1 pn_0 pc_0 rfl rfl dX10_count_73 ?_
      refine g_v0 hm (fun _ _ h => c_X0_elders cty_3 h) pn_3 (pc_3 _ _) rfl ce_X0_elders lk_X10_169 rfl rfl dX10_count_76 (fun x4 m3 hm => ?_)
      exact g_iret hm dX10_count_79
    · refine g_tc 80 hm dX10_count_1 (by decide) (by decide) rfl (by decide) (fun hm => ?_) (fun q2 hm => ?_)
      · refine g_aloadn_0 dX10_count_80 ?_
        refine g_getr (q := 13) fo_10_5 pn_0 pc_0 rfl rfl dX10_count_81 ?_
        refine g_v0 hm (fun _ _ h => c_X5_size h) pn_13 (pc_13 _ _) rfl ce_X5_size lk_X10_172 rfl rfl dX10_count_84 (fun x6 m5 hm => ?_)
        exact g_iret hm dX10_count_87
      · refine g_tc 88 hm dX10_count_1 (by decide) (by decide) rfl (by decide) (fun hm => ?_) (fun q3 hm => ?_)
        · refine g_aloadn_0 dX10_count_88 ?_
          refine g_getr (q := 1) fo_10_0 pn_0 pc_0 rfl rfl dX10_count_89 ?_
          refine g_v0 hm (fun _ _ h => c_X9_size h) pn_1 (pc_1 _ _) rfl ce_X9_size lk_X10_78 rfl rfl dX10_count_92 (fun x8 m7 hm => ?_)
          exact g_iret hm dX10_count_95
        · refine g_tc 96 hm dX10_count_1 (by decide) (by decide) rfl (by decide) (fun hm => ?_) (fun q4 hm => ?_)
          · refine g_aloadn_0 dX10_count_96 ?_
            refine g_getr (q := 13) fo_10_5 pn_0 pc_0 rfl rfl dX10_count_97 ?_
            refine g_v0 hm (fun _ _ h => c_X5_holding h) pn_13 (pc_13 _ _) rfl ce_X5_holding lk_X10_122 rfl rfl dX10_count_100 (fun x10 m9 hm => ?_)
            exact g_iret hm dX10_count_103
          · refine g_tc 104 hm dX10_count_1 (by decide) (by decide) rfl (by decide) (fun hm => ?_) (fun q5 hm => ?_)
            · refine g_aloadn_0 dX10_count_104 ?_
              refine g_getr (q := 3) fo_10_1 pn_0 pc_0 rfl rfl dX10_count_105 ?_
              refine g_bipush 97 dX10_count_108 rfl ?_
              refine g_v1 hm (fun _ _ h => c_X0_cell cty_3 h) pn_3 (pc_3 _ _) rfl ce_X0_cell lk_X10_142 rfl rfl dX10_count_110 (fun x12 m11 hm => ?_)
              exact g_iret hm dX10_count_113
            · refine g_tc 114 hm dX10_count_1 (by decide) (by decide) rfl (by decide) (fun hm => ?_) (fun q6 hm => ?_)
              · refine g_aloadn_0 dX10_count_114 ?_
                refine g_getr (q := 3) fo_10_1 pn_0 pc_0 rfl rfl dX10_count_115 ?_
                refine g_v0 hm (fun _ _ h => c_X0_ruler cty_3 h) pn_3 (pc_3 _ _) rfl ce_X0_ruler lk_X10_173 rfl rfl dX10_count_118 (fun x14 m13 hm => ?_)
                exact g_iret hm dX10_count_121
              · refine g_tc 122 hm dX10_count_1 (by decide) (by decide) rfl (by decide) (fun hm => ?_) (fun q7 hm => ?_)
                · refine g_aloadn_0 dX10_count_122 ?_
                  refine g_getr (q := 3) fo_10_1 pn_0 pc_0 rfl rfl dX10_count_123 ?_
                  refine g_bipush 99 dX10_count_126 rfl ?_
                  refine g_v1 hm (fun _ _ h => c_X0_cell cty_3 h) pn_3 (pc_3 _ _) rfl ce_X0_cell lk_X10_142 rfl rfl dX10_count_128 (fun x16 m15 hm => ?_)
                  exact g_iret hm dX10_count_131
                · refine g_tc 132 hm dX10_count_1 (by decide) (by decide) rfl (by decide) (fun hm => ?_) (fun q8 hm => ?_)
                  · refine g_aloadn_0 dX10_count_132 ?_
                    refine g_geti fo_10_9 pn_0 pc_0 rfl dX10_count_133 ?_
                    exact g_iret hm dX10_count_136
                  · refine g_tc 137 hm dX10_count_1 (by decide) (by decide) rfl (by decide) (fun hm => ?_) (fun q9 hm => ?_)
                    · refine g_aloadn_0 dX10_count_137 ?_
                      refine g_getr (q := 3) fo_10_1 pn_0 pc_0 rfl rfl dX10_count_138 ?_
                      refine g_v0 hm (fun _ _ h => c_X0_ruler cty_3 h) pn_3 (pc_3 _ _) rfl ce_X0_ruler lk_X10_173 rfl rfl dX10_count_141 (fun x18 m17 hm => ?_)
                      refine g_iconst (-1) dX10_count_144 rfl ?_
                      refine g_icmp_ne 152 hm dX10_count_145 (by decide) (fun hm => ?_) (fun hm => ?_)
                      · refine g_aloadn_0 dX10_count_152 ?_
                        refine g_getr (q := 3) fo_10_1 pn_0 pc_0 rfl rfl dX10_count_153 ?_
                        refine g_aloadn_0 dX10_count_156 ?_
                        refine g_getr (q := 3) fo_10_1 pn_0 pc_0 rfl rfl dX10_count_157 ?_
                        refine g_v0 hm (fun _ _ h => c_X0_ruler cty_3 h) pn_3 (pc_3 _ _) rfl ce_X0_ruler lk_X10_173 rfl rfl dX10_count_160 (fun x20 m19 hm => ?_)
                        refine g_v1 hm (fun _ _ h => c_X0_countOf cty_3 h) pn_3 (pc_3 _ _) rfl ce_X0_countOf lk_X10_119 rfl rfl dX10_count_163 (fun x22 m21 hm => ?_)
                        exact g_iret hm dX10_count_166
                      · refine g_iconst 0 dX10_count_148 rfl ?_
                        refine g_goto 166 dX10_count_149 (by decide) ?_
                        exact g_iret hm dX10_count_166
                    · refine g_tc 167 hm dX10_count_1 (by decide) (by decide) rfl (by decide) (fun hm => ?_) (fun q10 hm => ?_)
                      · refine g_aloadn_0 dX10_count_167 ?_
                        refine g_getr (q := 16) fo_10_6 pn_0 pc_0 rfl rfl dX10_count_168 ?_
                        refine g_aloadn_0 dX10_count_171 ?_
                        refine g_getr (q := 3) fo_10_1 pn_0 pc_0 rfl rfl dX10_count_172 ?_
                        refine g_v1 hm (fun _ _ h => c_X7_logLength h) pn_16 (pc_16 _ _) rfl ce_X7_logLength lk_X10_162 rfl rfl dX10_count_175 (fun x24 m23 hm => ?_)
                        exact g_iret hm dX10_count_178
                      · refine g_tc 179 hm dX10_count_1 (by decide) (by decide) rfl (by decide) (fun hm => ?_) (fun q11 hm => ?_)
                        · refine g_aloadn_0 dX10_count_179 ?_
                          refine g_getr (q := 16) fo_10_6 pn_0 pc_0 rfl rfl dX10_count_180 ?_
                          refine g_v0 hm (fun _ _ h => c_X7_acts h) pn_16 (pc_16 _ _) rfl ce_X7_acts lk_X10_176 rfl rfl dX10_count_183 (fun x26 m25 hm => ?_)
                          exact g_iret hm dX10_count_186
                        · refine g_td 187 dX10_count_1 (by have := i32_ne q0 ; have := i32_ne q1 ; have := i32_ne q2 ; have := i32_ne q3 ; have := i32_ne q4 ; have := i32_ne q5 ; have := i32_ne q6 ; have := i32_ne q7 ; have := i32_ne q8 ; have := i32_ne q9 ; have := i32_ne q10 ; have := i32_ne q11; simp at *; omega) (by decide) ?_
                          refine g_ldc dX10_count_187 ck_X10_165 ?_
                          exact g_iret hm dX10_count_189
def f_X10_undo  (m : Sg)  : Option (Int32 × Sg) :=
  cal (f_X7_acts m) (fun x2 m1 => (if x2 = 0 then some ((-1), m1) else
  calv (f_X7_recall m1) (fun m3 => cal (f_X7_acts m3) (fun x5 m4 => some (x5, m4)))))
set_option maxRecDepth 4000 in
theorem c_X10_undo {g : Cf} {m mm : Sg} {r : Int32} (hm : f_X10_undo  m  = some (r, mm)) : Cl g 3 yX10_undo cX10_undo 1 (some .int) [.ref (g.ad 0)] m (some (.int r)) mm := by
  refine cl_of (by decide) (Nat.le_of_ble_eq_true rfl) (vs := [some (.ref (g.ad 0))]) rfl rfl ?_
  show GX g 3 RX10 cX10_undo 1 (some .int) (some (.int r)) mm 0 _ [] m
  unfold f_X10_undo at hm
  refine g_aloadn_0 dX10_undo_0 ?_
  refine g_getr (q := 16) fo_10_6 pn_0 pc_0 rfl rfl dX10_undo_1 ?_
  refine g_v0 hm (fun _ _ h => c_X7_acts h) pn_16 (pc_16 _ _) rfl ce_X7_acts lk_X10_176 rfl rfl dX10_undo_4 (fun x2 m1 hm => ?_)
  refine g_if_ne 12 hm dX10_undo_7 (by decide) (fun hm => ?_) (fun hm => ?_)
  · refine g_aloadn_0 dX10_undo_12 ?_
    refine g_getr (q := 16) fo_10_6 pn_0 pc_0 rfl rfl dX10_undo_13 ?_
    refine g_aloadn_0 dX10_undo_16 ?_
    refine g_getr (q := 3) fo_10_1 pn_0 pc_0 rfl rfl dX10_undo_17 ?_
    refine g_v1V hm (fun _ h => c_X7_recall h) pn_16 (pc_16 _ _) rfl ce_X7_recall lk_X10_218 rfl rfl dX10_undo_20 (fun m3 hm => ?_)
    refine g_aloadn_0 dX10_undo_23 ?_
    refine g_getr (q := 16) fo_10_6 pn_0 pc_0 rfl rfl dX10_undo_24 ?_
    refine g_v0 hm (fun _ _ h => c_X7_acts h) pn_16 (pc_16 _ _) rfl ce_X7_acts lk_X10_176 rfl rfl dX10_undo_27 (fun x5 m4 hm => ?_)
    exact g_iret hm dX10_undo_30
  · refine g_iconst (-1) dX10_undo_10 rfl ?_
    exact g_iret hm dX10_undo_11
def f_X10_image  (m : Sg)  : Option (Int32 × Sg) :=
  cal (f_X0_isTold 4 m) (fun x2 m1 => (if x2 = 0 then some ((-1), m1) else
  calv (f_X7_paint m1) (fun m3 => cal (f_X0_cell 4 m3 97) (fun x5 m4 => some (x5, m4)))))
set_option maxRecDepth 4000 in
theorem c_X10_image {g : Cf} {m mm : Sg} {r : Int32} (hm : f_X10_image  m  = some (r, mm)) : Cl g 3 yX10_image cX10_image 1 (some .int) [.ref (g.ad 0)] m (some (.int r)) mm := by
  refine cl_of (by decide) (Nat.le_of_ble_eq_true rfl) (vs := [some (.ref (g.ad 0))]) rfl rfl ?_
  show GX g 3 RX10 cX10_image 1 (some .int) (some (.int r)) mm 0 _ [] m
  unfold f_X10_image at hm
  refine g_aloadn_0 dX10_image_0 ?_
  refine g_getr (q := 3) fo_10_1 pn_0 pc_0 rfl rfl dX10_image_1 ?_
  refine g_v0 hm (fun _ _ h => c_X0_isTold cty_3 h) pn_3 (pc_3 _ _) rfl ce_X0_isTold lk_X10_139 rfl rfl dX10_image_4 (fun x2 m1 hm => ?_)
  refine g_if_ne 12 hm dX10_image_7 (by decide) (fun hm => ?_) (fun hm => ?_)
  · refine g_aloadn_0 dX10_image_12 ?_
    refine g_getr (q := 16) fo_10_6 pn_0 pc_0 rfl rfl dX10_image_13 ?_
    refine g_aloadn_0 dX10_image_16 ?_
    refine g_getr (q := 3) fo_10_1 pn_0 pc_0 rfl rfl dX10_image_17 ?_
    refine g_v1V hm (fun _ h => c_X7_paint h) pn_16 (pc_16 _ _) rfl ce_X7_paint lk_X10_221 rfl rfl dX10_image_20 (fun m3 hm => ?_)
    refine g_aloadn_0 dX10_image_23 ?_
    refine g_getr (q := 3) fo_10_1 pn_0 pc_0 rfl rfl dX10_image_24 ?_
    refine g_bipush 97 dX10_image_27 rfl ?_
    refine g_v1 hm (fun _ _ h => c_X0_cell cty_3 h) pn_3 (pc_3 _ _) rfl ce_X0_cell lk_X10_142 rfl rfl dX10_image_29 (fun x5 m4 hm => ?_)
    exact g_iret hm dX10_image_32
  · refine g_iconst (-1) dX10_image_10 rfl ?_
    exact g_iret hm dX10_image_11
def f_X10_back  (m : Sg)  : Option (Int32 × Sg) :=
  cal (f_X7_hasImage m) (fun x2 m1 => (if x2 = 0 then some ((-1), m1) else
  calv (f_X7_restore m1) (fun m3 => cal (f_X0_cell 4 m3 97) (fun x5 m4 => some (x5, m4)))))
set_option maxRecDepth 4000 in
theorem c_X10_back {g : Cf} {m mm : Sg} {r : Int32} (hm : f_X10_back  m  = some (r, mm)) : Cl g 3 yX10_back cX10_back 1 (some .int) [.ref (g.ad 0)] m (some (.int r)) mm := by
  refine cl_of (by decide) (Nat.le_of_ble_eq_true rfl) (vs := [some (.ref (g.ad 0))]) rfl rfl ?_
  show GX g 3 RX10 cX10_back 1 (some .int) (some (.int r)) mm 0 _ [] m
  unfold f_X10_back at hm
  refine g_aloadn_0 dX10_back_0 ?_
  refine g_getr (q := 16) fo_10_6 pn_0 pc_0 rfl rfl dX10_back_1 ?_
  refine g_v0 hm (fun _ _ h => c_X7_hasImage h) pn_16 (pc_16 _ _) rfl ce_X7_hasImage lk_X10_224 rfl rfl dX10_back_4 (fun x2 m1 hm => ?_)
  refine g_if_ne 12 hm dX10_back_7 (by decide) (fun hm => ?_) (fun hm => ?_)
  · refine g_aloadn_0 dX10_back_12 ?_
    refine g_getr (q := 16) fo_10_6 pn_0 pc_0 rfl rfl dX10_back_13 ?_
    refine g_aloadn_0 dX10_back_16 ?_
    refine g_getr (q := 3) fo_10_1 pn_0 pc_0 rfl rfl dX10_back_17 ?_
    refine g_v1V hm (fun _ h => c_X7_restore h) pn_16 (pc_16 _ _) rfl ce_X7_restore lk_X10_227 rfl rfl dX10_back_20 (fun m3 hm => ?_)
    refine g_aloadn_0 dX10_back_23 ?_
    refine g_getr (q := 3) fo_10_1 pn_0 pc_0 rfl rfl dX10_back_24 ?_
    refine g_bipush 97 dX10_back_27 rfl ?_
    refine g_v1 hm (fun _ _ h => c_X0_cell cty_3 h) pn_3 (pc_3 _ _) rfl ce_X0_cell lk_X10_142 rfl rfl dX10_back_29 (fun x5 m4 hm => ?_)
    exact g_iret hm dX10_back_32
  · refine g_iconst (-1) dX10_back_10 rfl ?_
    exact g_iret hm dX10_back_11
def f_X10_draw  (m : Sg) (a1 : Int32) : Option (Int32 × Sg) :=
  bnd (wrl m 0 (((m.2 0) * 6364136223846793005) + 1442695040888963407)) (fun m1 => (if a1 ≤ 0 then some (0, m1) else
  if (!(decide ((a1 : Int32).toInt64 = 0))) = true then some (((((m1.2 0 : Int64).toUInt64 >>> ((33 : Int32).toInt64.toUInt64 &&& Int64.toUInt64 63)).toInt64) - (((m1.2 0 : Int64).toUInt64 >>> ((33 : Int32).toInt64.toUInt64 &&& Int64.toUInt64 63)).toInt64) / ((a1 : Int32).toInt64) * ((a1 : Int32).toInt64) : Int64).toInt32, m1) else none))
set_option maxRecDepth 4000 in
theorem c_X10_draw {g : Cf} {m mm : Sg} {r : Int32} {a1 : Int32} (hm : f_X10_draw  m a1 = some (r, mm)) : Cl g 0 yX10_draw cX10_draw 2 (some .int) [.ref (g.ad 0), .int a1] m (some (.int r)) mm := by
  refine cl_of (by decide) (Nat.le_of_ble_eq_true rfl) (vs := [some (.ref (g.ad 0)), some (.int a1)]) rfl rfl ?_
  show GX g 0 RX10 cX10_draw 2 (some .int) (some (.int r)) mm 0 _ [] m
  unfold f_X10_draw at hm
  refine g_aloadn_0 dX10_draw_0 ?_
  refine g_aloadn_0 dX10_draw_1 ?_
  refine g_getl fo_10_10 pn_0 pc_0 rfl dX10_draw_2 ?_
  refine g_ldc2_w dX10_draw_5 ck_X10_249 ?_
  refine g_lmul dX10_draw_8 ?_
  refine g_ldc2_w dX10_draw_9 ck_X10_251 ?_
  refine g_ladd dX10_draw_12 ?_
  refine g_putl hm fo_10_10 fp_10_10 pn_0 pc_0 rfl lu_10 dX10_draw_13 (fun m1 hm => ?_)
  refine g_iloadn_1 dX10_draw_16 ?_
  refine g_if_le 34 hm dX10_draw_17 (by decide) (fun hm => ?_) (fun hm => ?_)
  · refine g_iconst 0 dX10_draw_34 rfl ?_
    exact g_iret hm dX10_draw_35
  · refine g_aloadn_0 dX10_draw_20 ?_
    refine g_getl fo_10_10 pn_0 pc_0 rfl dX10_draw_21 ?_
    refine g_bipush 33 dX10_draw_24 rfl ?_
    refine g_lushr dX10_draw_26 ?_
    refine g_iloadn_1 dX10_draw_27 ?_
    refine g_i2l dX10_draw_28 ?_
    refine g_lremN hm dX10_draw_29 (fun hm => ?_)
    refine g_l2i dX10_draw_30 ?_
    refine g_goto 35 dX10_draw_31 (by decide) ?_
    exact g_iret hm dX10_draw_35
def f_X10_plan  (m : Sg) (a1 : Int32) (a2 : Int32) (a3 : Int32) : Option (Int32 × Sg) :=
  cal (f_X0_hasChild 4 m a1) (fun x2 m1 => (if x2 = 0 then some ((-1000000), m1) else
  (if a2 < 1 then some ((-1000000), m1) else
  (if 24 < a2 then some ((-1000000), m1) else
  (if a3 < 0 then some ((-1000000), m1) else
  (if a3 ≤ 2 then cal (f_X0_kid 4 m1 a1 6) (fun x4 m3 => (if x4 = (-1) then calv (f_X3_seekRow m3 a1 a2) (fun m5 => (if a3 = 0 then cal (f_X3_bestRow m5) (fun x11 m10 => some (x11, m10)) else
  (if a3 = 1 then cal (f_X3_bestMonths m5) (fun x9 m8 => some (x9, m8)) else
  cal (f_X3_bestLength m5) (fun x7 m6 => some (x7, m6))))) else
  some ((-1000000), m3))) else
  some ((-1000000), m1)))))))
set_option maxRecDepth 4000 in
theorem c_X10_plan {g : Cf} {m mm : Sg} {r : Int32} {a1 : Int32} {a2 : Int32} {a3 : Int32} (hm : f_X10_plan  m a1 a2 a3 = some (r, mm)) : Cl g 6 yX10_plan cX10_plan 4 (some .int) [.ref (g.ad 0), .int a1, .int a2, .int a3] m (some (.int r)) mm := by
  refine cl_of (by decide) (Nat.le_of_ble_eq_true rfl) (vs := [some (.ref (g.ad 0)), some (.int a1), some (.int a2), some (.int a3)]) rfl rfl ?_
  show GX g 6 RX10 cX10_plan 4 (some .int) (some (.int r)) mm 0 _ [] m
  unfold f_X10_plan at hm
  refine g_aloadn_0 dX10_plan_0 ?_
  refine g_getr (q := 3) fo_10_1 pn_0 pc_0 rfl rfl dX10_plan_1 ?_
  refine g_iloadn_1 dX10_plan_4 ?_
  refine g_v1 hm (fun _ _ h => c_X0_hasChild cty_3 h) pn_3 (pc_3 _ _) rfl ce_X0_hasChild lk_X10_112 rfl rfl dX10_plan_5 (fun x2 m1 hm => ?_)
  refine g_if_eq 31 hm dX10_plan_8 (by decide) (fun hm => ?_) (fun hm => ?_)
  · refine g_ldc dX10_plan_31 ck_X10_165 ?_
    exact g_iret hm dX10_plan_33
  · refine g_iloadn_2 dX10_plan_11 ?_
    refine g_iconst 1 dX10_plan_12 rfl ?_
    refine g_icmp_lt 31 hm dX10_plan_13 (by decide) (fun hm => ?_) (fun hm => ?_)
    · refine g_ldc dX10_plan_31 ck_X10_165 ?_
      exact g_iret hm dX10_plan_33
    · refine g_iloadn_2 dX10_plan_16 ?_
      refine g_bipush 24 dX10_plan_17 rfl ?_
      refine g_icmp_gt 31 hm dX10_plan_19 (by decide) (fun hm => ?_) (fun hm => ?_)
      · refine g_ldc dX10_plan_31 ck_X10_165 ?_
        exact g_iret hm dX10_plan_33
      · refine g_iloadn_3 dX10_plan_22 ?_
        refine g_if_lt 31 hm dX10_plan_23 (by decide) (fun hm => ?_) (fun hm => ?_)
        · refine g_ldc dX10_plan_31 ck_X10_165 ?_
          exact g_iret hm dX10_plan_33
        · refine g_iloadn_3 dX10_plan_26 ?_
          refine g_iconst 2 dX10_plan_27 rfl ?_
          refine g_icmp_le 34 hm dX10_plan_28 (by decide) (fun hm => ?_) (fun hm => ?_)
          · refine g_aloadn_0 dX10_plan_34 ?_
            refine g_getr (q := 3) fo_10_1 pn_0 pc_0 rfl rfl dX10_plan_35 ?_
            refine g_iloadn_1 dX10_plan_38 ?_
            refine g_bipush 6 dX10_plan_39 rfl ?_
            refine g_v2 hm (fun _ _ h => c_X0_kid cty_3 h) pn_3 (pc_3 _ _) rfl ce_X0_kid lk_X10_129 rfl rfl dX10_plan_41 (fun x4 m3 hm => ?_)
            refine g_iconst (-1) dX10_plan_44 rfl ?_
            refine g_icmp_eq 51 hm dX10_plan_45 (by decide) (fun hm => ?_) (fun hm => ?_)
            · refine g_aloadn_0 dX10_plan_51 ?_
              refine g_getr (q := 23) fo_10_8 pn_0 pc_0 rfl rfl dX10_plan_52 ?_
              refine g_iloadn_1 dX10_plan_55 ?_
              refine g_iloadn_2 dX10_plan_56 ?_
              refine g_v2V hm (fun _ h => c_X3_seekRow h) pn_23 (pc_23 _ _) rfl ce_X3_seekRow lk_X10_268 rfl rfl dX10_plan_57 (fun m5 hm => ?_)
              refine g_iloadn_3 dX10_plan_60 ?_
              refine g_if_ne 72 hm dX10_plan_61 (by decide) (fun hm => ?_) (fun hm => ?_)
              · refine g_iloadn_3 dX10_plan_72 ?_
                refine g_iconst 1 dX10_plan_73 rfl ?_
                refine g_icmp_ne 87 hm dX10_plan_74 (by decide) (fun hm => ?_) (fun hm => ?_)
                · refine g_aloadn_0 dX10_plan_87 ?_
                  refine g_getr (q := 23) fo_10_8 pn_0 pc_0 rfl rfl dX10_plan_88 ?_
                  refine g_v0 hm (fun _ _ h => c_X3_bestLength h) pn_23 (pc_23 _ _) rfl ce_X3_bestLength lk_X10_277 rfl rfl dX10_plan_91 (fun x7 m6 hm => ?_)
                  exact g_iret hm dX10_plan_94
                · refine g_aloadn_0 dX10_plan_77 ?_
                  refine g_getr (q := 23) fo_10_8 pn_0 pc_0 rfl rfl dX10_plan_78 ?_
                  refine g_v0 hm (fun _ _ h => c_X3_bestMonths h) pn_23 (pc_23 _ _) rfl ce_X3_bestMonths lk_X10_274 rfl rfl dX10_plan_81 (fun x9 m8 hm => ?_)
                  refine g_goto 94 dX10_plan_84 (by decide) ?_
                  exact g_iret hm dX10_plan_94
              · refine g_aloadn_0 dX10_plan_64 ?_
                refine g_getr (q := 23) fo_10_8 pn_0 pc_0 rfl rfl dX10_plan_65 ?_
                refine g_v0 hm (fun _ _ h => c_X3_bestRow h) pn_23 (pc_23 _ _) rfl ce_X3_bestRow lk_X10_271 rfl rfl dX10_plan_68 (fun x11 m10 hm => ?_)
                exact g_iret hm dX10_plan_71
            · refine g_ldc dX10_plan_48 ck_X10_165 ?_
              exact g_iret hm dX10_plan_50
          · refine g_ldc dX10_plan_31 ck_X10_165 ?_
            exact g_iret hm dX10_plan_33
def f_X10_late  (m : Sg)  : Option (Int32 × Sg) :=
  cal (f_X0_isTold 4 m) (fun x2 m1 => (if x2 = 0 then some ((-1), m1) else
  cal (f_X3_monthsOfTrials m1 60) (fun x4 m3 => some (x4, m3))))
set_option maxRecDepth 4000 in
theorem c_X10_late {g : Cf} {m mm : Sg} {r : Int32} (hm : f_X10_late  m  = some (r, mm)) : Cl g 5 yX10_late cX10_late 1 (some .int) [.ref (g.ad 0)] m (some (.int r)) mm := by
  refine cl_of (by decide) (Nat.le_of_ble_eq_true rfl) (vs := [some (.ref (g.ad 0))]) rfl rfl ?_
  show GX g 5 RX10 cX10_late 1 (some .int) (some (.int r)) mm 0 _ [] m
  unfold f_X10_late at hm
  refine g_aloadn_0 dX10_late_0 ?_
  refine g_getr (q := 3) fo_10_1 pn_0 pc_0 rfl rfl dX10_late_1 ?_
  refine g_v0 hm (fun _ _ h => c_X0_isTold cty_3 h) pn_3 (pc_3 _ _) rfl ce_X0_isTold lk_X10_139 rfl rfl dX10_late_4 (fun x2 m1 hm => ?_)
  refine g_if_eq 22 hm dX10_late_7 (by decide) (fun hm => ?_) (fun hm => ?_)
  · refine g_iconst (-1) dX10_late_22 rfl ?_
    exact g_iret hm dX10_late_23
  · refine g_aloadn_0 dX10_late_10 ?_
    refine g_getr (q := 23) fo_10_8 pn_0 pc_0 rfl rfl dX10_late_11 ?_
    refine g_bipush 60 dX10_late_14 rfl ?_
    refine g_v1 hm (fun _ _ h => c_X3_monthsOfTrials h) pn_23 (pc_23 _ _) rfl ce_X3_monthsOfTrials lk_X10_299 rfl rfl dX10_late_16 (fun x4 m3 hm => ?_)
    refine g_goto 23 dX10_late_19 (by decide) ?_
    exact g_iret hm dX10_late_23
def f_X10_plums  (m : Sg) (a1 : Int32) : Option (Int32 × Sg) :=
  cal (f_X0_trier 4 m) (fun x2 m1 => bnd (fun (m3 : Sg) => some ((-1), m3)) (fun (k4 : Sg → Option (Int32 × Sg)) =>
  (if x2 = (-1) then k4 m1 else
  cal (f_X0_hasChild 4 m1 a1) (fun x6 m5 => (if x6 = 0 then k4 m5 else
  cal (f_X0_plumsToStand 4 m5 a1 x2) (fun x8 m7 => some (x8, m7)))))))
set_option maxRecDepth 4000 in
theorem c_X10_plums {g : Cf} {m mm : Sg} {r : Int32} {a1 : Int32} (hm : f_X10_plums  m a1 = some (r, mm)) : Cl g 4 yX10_plums cX10_plums 3 (some .int) [.ref (g.ad 0), .int a1] m (some (.int r)) mm := by
  refine cl_of (by decide) (Nat.le_of_ble_eq_true rfl) (vs := [some (.ref (g.ad 0)), some (.int a1), none]) rfl rfl ?_
  show GX g 4 RX10 cX10_plums 3 (some .int) (some (.int r)) mm 0 _ [] m
  unfold f_X10_plums at hm
  refine g_aloadn_0 dX10_plums_0 ?_
  refine g_getr (q := 3) fo_10_1 pn_0 pc_0 rfl rfl dX10_plums_1 ?_
  refine g_v0 hm (fun _ _ h => c_X0_trier cty_3 h) pn_3 (pc_3 _ _) rfl ce_X0_trier lk_X10_159 rfl rfl dX10_plums_4 (fun x2 m1 hm => ?_)
  refine g_istoren_2 dX10_plums_7 rfl ?_
  refine g_iloadn_2 dX10_plums_8 ?_
  refine g_iconst (-1) dX10_plums_9 rfl ?_
  refine g_jn (J := fun (s : Sg) => GX g 4 RX10 cX10_plums 3 (some .int) (some (.int r)) mm 24 [none, none, none] [] s) hm ?_ ?_
  · intro m3 hm
    refine g_iconst (-1) dX10_plums_24 rfl ?_
    refine g_goto 37 dX10_plums_25 (by decide) ?_
    exact g_iret hm dX10_plums_37
  · intro k4 hk4 hm
    refine g_icmp_eq 24 hm dX10_plums_10 (by decide) (fun hm => ?_) (fun hm => ?_)
    · refine g_weak (vs' := [none, none, none]) trivial ?_
      exact hk4 _ hm
    · refine g_aloadn_0 dX10_plums_13 ?_
      refine g_getr (q := 3) fo_10_1 pn_0 pc_0 rfl rfl dX10_plums_14 ?_
      refine g_iloadn_1 dX10_plums_17 ?_
      refine g_v1 hm (fun _ _ h => c_X0_hasChild cty_3 h) pn_3 (pc_3 _ _) rfl ce_X0_hasChild lk_X10_112 rfl rfl dX10_plums_18 (fun x6 m5 hm => ?_)
      refine g_if_ne 28 hm dX10_plums_21 (by decide) (fun hm => ?_) (fun hm => ?_)
      · refine g_aloadn_0 dX10_plums_28 ?_
        refine g_getr (q := 3) fo_10_1 pn_0 pc_0 rfl rfl dX10_plums_29 ?_
        refine g_iloadn_1 dX10_plums_32 ?_
        refine g_iloadn_2 dX10_plums_33 ?_
        refine g_v2 hm (fun _ _ h => c_X0_plumsToStand cty_3 h) pn_3 (pc_3 _ _) rfl ce_X0_plumsToStand lk_X10_311 rfl rfl dX10_plums_34 (fun x8 m7 hm => ?_)
        exact g_iret hm dX10_plums_37
      · refine g_weak (vs' := [none, none, none]) trivial ?_
        exact hk4 _ hm
def f_X10_teachers  (m : Sg) (a1 : Int32) (a2 : Int32) : Option (Int32 × Sg) :=
  cal (f_X0_hasChild 4 m a1) (fun x2 m1 => (if x2 = 0 then some ((-1), m1) else
  (if a2 < (-1) then some ((-1), m1) else
  cal (f_X8_teachersAt m1 a1 a2) (fun x4 m3 => some (x4, m3)))))
set_option maxRecDepth 4000 in
theorem c_X10_teachers {g : Cf} {m mm : Sg} {r : Int32} {a1 : Int32} {a2 : Int32} (hm : f_X10_teachers  m a1 a2 = some (r, mm)) : Cl g 4 yX10_teachers cX10_teachers 3 (some .int) [.ref (g.ad 0), .int a1, .int a2] m (some (.int r)) mm := by
  refine cl_of (by decide) (Nat.le_of_ble_eq_true rfl) (vs := [some (.ref (g.ad 0)), some (.int a1), some (.int a2)]) rfl rfl ?_
  show GX g 4 RX10 cX10_teachers 3 (some .int) (some (.int r)) mm 0 _ [] m
  unfold f_X10_teachers at hm
  refine g_aloadn_0 dX10_teachers_0 ?_
  refine g_getr (q := 3) fo_10_1 pn_0 pc_0 rfl rfl dX10_teachers_1 ?_
  refine g_iloadn_1 dX10_teachers_4 ?_
  refine g_v1 hm (fun _ _ h => c_X0_hasChild cty_3 h) pn_3 (pc_3 _ _) rfl ce_X0_hasChild lk_X10_112 rfl rfl dX10_teachers_5 (fun x2 m1 hm => ?_)
  refine g_if_eq 28 hm dX10_teachers_8 (by decide) (fun hm => ?_) (fun hm => ?_)
  · refine g_iconst (-1) dX10_teachers_28 rfl ?_
    exact g_iret hm dX10_teachers_29
  · refine g_iloadn_2 dX10_teachers_11 ?_
    refine g_iconst (-1) dX10_teachers_12 rfl ?_
    refine g_icmp_lt 28 hm dX10_teachers_13 (by decide) (fun hm => ?_) (fun hm => ?_)
    · refine g_iconst (-1) dX10_teachers_28 rfl ?_
      exact g_iret hm dX10_teachers_29
    · refine g_aloadn_0 dX10_teachers_16 ?_
      refine g_getr (q := 21) fo_10_7 pn_0 pc_0 rfl rfl dX10_teachers_17 ?_
      refine g_iloadn_1 dX10_teachers_20 ?_
      refine g_iloadn_2 dX10_teachers_21 ?_
      refine g_v2 hm (fun _ _ h => c_X8_teachersAt h) pn_21 (pc_21 _ _) rfl ce_X8_teachersAt lk_X10_320 rfl rfl dX10_teachers_22 (fun x4 m3 hm => ?_)
      refine g_goto 29 dX10_teachers_25 (by decide) ?_
      exact g_iret hm dX10_teachers_29
def f_X10_spans_L28 (a1 : Int32) (a2 : Int32) (nl : Nat) (ln : (Nat → Nat)) : (Sg × Int32 × Int32) → Option (((Sg × Int32)) ⊕ (Sg × Int32 × Int32)) := fun s => match s with
  | (m3, x4, x5) => 
  (if 9 < x5 then some (.inl (m3, x4)) else
  cal (f_X5_taxAtCount nl ln m3 a1 x5) (fun x11 m10 => bnd (fun ((m12, x13) : Sg × Int32) => bnd (x5 + 1) (fun x15 => some (.inr (m12, x13, x15)))) (fun (k14 : Sg × Int32 → Option (((Sg × Int32)) ⊕ (Sg × Int32 × Int32))) =>
  (if x11 = a2 then bnd (x4 ||| (1 <<< (x5 &&& 31))) (fun x16 => k14 (m10, x16)) else
  k14 (m10, x4)))))
def f_X10_spans (nl : Nat) (ln : Nat → Nat)  (m : Sg) (a1 : Int32) (a2 : Int32) : Option (Int32 × Sg) :=
  cal (f_X0_hasChild 4 m a1) (fun x2 m1 => (if x2 = 0 then some ((-1), m1) else
  (if a2 < 0 then some ((-1), m1) else
  (if a2 ≤ 99 then lpk (f_X10_spans_L28 a1 a2 nl ln) (m1, 0, 0) (fun ((m6, x7) : Sg × Int32) => some (x7, m6)) else
  some ((-1), m1)))))
set_option maxRecDepth 4000 in
theorem c_X10_spans {g : Cf} {m mm : Sg} {r : Int32} {a1 : Int32} {a2 : Int32} (H4 : g.nl ≤ 4) (HX : XOK g) (hm : f_X10_spans g.nl g.ln  m a1 a2 = some (r, mm)) : Cl g 7 yX10_spans cX10_spans 5 (some .int) [.ref (g.ad 0), .int a1, .int a2] m (some (.int r)) mm := by
  refine cl_of (by decide) (Nat.le_of_ble_eq_true rfl) (vs := [some (.ref (g.ad 0)), some (.int a1), some (.int a2), none, none]) rfl rfl ?_
  show GX g 7 RX10 cX10_spans 5 (some .int) (some (.int r)) mm 0 _ [] m
  unfold f_X10_spans at hm
  refine g_aloadn_0 dX10_spans_0 ?_
  refine g_getr (q := 3) fo_10_1 pn_0 pc_0 rfl rfl dX10_spans_1 ?_
  refine g_iloadn_1 dX10_spans_4 ?_
  refine g_v1 hm (fun _ _ h => c_X0_hasChild cty_3 h) pn_3 (pc_3 _ _) rfl ce_X0_hasChild lk_X10_112 rfl rfl dX10_spans_5 (fun x2 m1 hm => ?_)
  refine g_if_eq 21 hm dX10_spans_8 (by decide) (fun hm => ?_) (fun hm => ?_)
  · refine g_iconst (-1) dX10_spans_21 rfl ?_
    exact g_iret hm dX10_spans_22
  · refine g_iloadn_2 dX10_spans_11 ?_
    refine g_if_lt 21 hm dX10_spans_12 (by decide) (fun hm => ?_) (fun hm => ?_)
    · refine g_iconst (-1) dX10_spans_21 rfl ?_
      exact g_iret hm dX10_spans_22
    · refine g_iloadn_2 dX10_spans_15 ?_
      refine g_bipush 99 dX10_spans_16 rfl ?_
      refine g_icmp_le 23 hm dX10_spans_18 (by decide) (fun hm => ?_) (fun hm => ?_)
      · refine g_iconst 0 dX10_spans_23 rfl ?_
        refine g_istoren_3 dX10_spans_24 rfl ?_
        refine g_iconst 0 dX10_spans_25 rfl ?_
        refine g_istore_4 dX10_spans_26 rfl ?_
        refine g_lp (I := fun (s : Sg × Int32 × Int32) => GX g 7 RX10 cX10_spans 5 (some .int) (some (.int r)) mm 28 [some (.ref (g.ad 0)), some (.int a1), some (.int a2), some (.int (s.2.1)), some (.int (s.2.2))] [] s.1) (E := fun (s : Sg × Int32) => GX g 7 RX10 cX10_spans 5 (some .int) (some (.int r)) mm 66 [none, none, none, some (.int (s.2)), none] [] s.1) hm ?_ ?_
        · rintro ⟨m6, x7⟩ hm
          (try dsimp only at hm)
          (try dsimp only)
          refine g_iloadn_3 dX10_spans_66 ?_
          exact g_iret hm dX10_spans_67
        · rintro ⟨m3, x4, x5⟩ o hm hx9 hi8
          (try dsimp only [f_X10_spans_L28] at hm)
          (try dsimp only)
          refine g_iload_4 dX10_spans_28 ?_
          refine g_bipush 9 dX10_spans_30 rfl ?_
          refine g_icmp_gt 66 hm dX10_spans_32 (by decide) (fun hm => ?_) (fun hm => ?_)
          · refine g_weak (vs' := [none, none, none, some (.int x4), none]) ⟨rfl, trivial⟩ ?_
            cases hm
            exact hx9 _ rfl
          · refine g_aloadn_0 dX10_spans_35 ?_
            refine g_getr (q := 13) fo_10_5 pn_0 pc_0 rfl rfl dX10_spans_36 ?_
            refine g_aloadn_0 dX10_spans_39 ?_
            refine g_getr (q := 3) fo_10_1 pn_0 pc_0 rfl rfl dX10_spans_40 ?_
            refine g_iloadn_1 dX10_spans_43 ?_
            refine g_iload_4 dX10_spans_44 ?_
            refine g_v3 hm (fun _ _ h => c_X5_taxAtCount H4 HX h) pn_13 (pc_13 _ _) rfl ce_X5_taxAtCount lk_X10_323 rfl rfl dX10_spans_46 (fun x11 m10 hm => ?_)
            refine g_iloadn_2 dX10_spans_49 ?_
            refine g_jn (J := fun (s : Sg × Int32) => GX g 7 RX10 cX10_spans 5 (some .int) (some (.int r)) mm 60 [some (.ref (g.ad 0)), some (.int a1), some (.int a2), some (.int (s.2)), some (.int x5)] [] s.1) hm ?_ ?_
            · rintro ⟨m12, x13⟩ hm
              (try dsimp only at hm)
              (try dsimp only)
              refine g_iinc_4 1 hm dX10_spans_60 rfl rfl (fun x15 hm => ?_)
              refine g_goto 28 dX10_spans_63 (by decide) ?_
              cases hm
              exact hi8 _ rfl
            · intro k14 hk14 hm
              refine g_icmp_ne 60 hm dX10_spans_50 (by decide) (fun hm => ?_) (fun hm => ?_)
              · exact hk14 _ hm
              · refine g_iloadn_3 dX10_spans_53 ?_
                refine g_iconst 1 dX10_spans_54 rfl ?_
                refine g_iload_4 dX10_spans_55 ?_
                refine g_ishl dX10_spans_57 ?_
                refine g_ior dX10_spans_58 ?_
                refine g_istoreBn_3 hm dX10_spans_59 rfl (fun x16 hm => ?_)
                exact hk14 _ hm
      · refine g_iconst (-1) dX10_spans_21 rfl ?_
        exact g_iret hm dX10_spans_22
def f_X10_threes  (m : Sg)  : Option (Int32 × Sg) :=
  cal (f_X0_trier 4 m) (fun x2 m1 => (if x2 = (-1) then some ((-1), m1) else
  cal (f_X8_onlyByTheirSteps m1 x2) (fun x4 m3 => some (x4, m3))))
set_option maxRecDepth 4000 in
theorem c_X10_threes {g : Cf} {m mm : Sg} {r : Int32} (hm : f_X10_threes  m  = some (r, mm)) : Cl g 5 yX10_threes cX10_threes 2 (some .int) [.ref (g.ad 0)] m (some (.int r)) mm := by
  refine cl_of (by decide) (Nat.le_of_ble_eq_true rfl) (vs := [some (.ref (g.ad 0)), none]) rfl rfl ?_
  show GX g 5 RX10 cX10_threes 2 (some .int) (some (.int r)) mm 0 _ [] m
  unfold f_X10_threes at hm
  refine g_aloadn_0 dX10_threes_0 ?_
  refine g_getr (q := 3) fo_10_1 pn_0 pc_0 rfl rfl dX10_threes_1 ?_
  refine g_v0 hm (fun _ _ h => c_X0_trier cty_3 h) pn_3 (pc_3 _ _) rfl ce_X0_trier lk_X10_159 rfl rfl dX10_threes_4 (fun x2 m1 hm => ?_)
  refine g_istoren_1 dX10_threes_7 rfl ?_
  refine g_iloadn_1 dX10_threes_8 ?_
  refine g_iconst (-1) dX10_threes_9 rfl ?_
  refine g_icmp_ne 17 hm dX10_threes_10 (by decide) (fun hm => ?_) (fun hm => ?_)
  · refine g_aloadn_0 dX10_threes_17 ?_
    refine g_getr (q := 21) fo_10_7 pn_0 pc_0 rfl rfl dX10_threes_18 ?_
    refine g_iloadn_1 dX10_threes_21 ?_
    refine g_v1 hm (fun _ _ h => c_X8_onlyByTheirSteps h) pn_21 (pc_21 _ _) rfl ce_X8_onlyByTheirSteps lk_X10_334 rfl rfl dX10_threes_22 (fun x4 m3 hm => ?_)
    exact g_iret hm dX10_threes_25
  · refine g_iconst (-1) dX10_threes_13 rfl ?_
    refine g_goto 25 dX10_threes_14 (by decide) ?_
    exact g_iret hm dX10_threes_25
def f_X10_party  (m : Sg) (a1 : Int32) : Option (Int32 × Sg) :=
  cal (f_X0_isTold 4 m) (fun x2 m1 => (if x2 = 0 then some ((-1), m1) else
  cal (f_X0_isNursery m1 a1) (fun x4 m3 => (if x4 = 0 then some ((-1), m3) else
  cal (f_X8_rightInNursery m3 a1) (fun x6 m5 => some (x6, m5))))))
set_option maxRecDepth 4000 in
theorem c_X10_party {g : Cf} {m mm : Sg} {r : Int32} {a1 : Int32} (hm : f_X10_party  m a1 = some (r, mm)) : Cl g 3 yX10_party cX10_party 2 (some .int) [.ref (g.ad 0), .int a1] m (some (.int r)) mm := by
  refine cl_of (by decide) (Nat.le_of_ble_eq_true rfl) (vs := [some (.ref (g.ad 0)), some (.int a1)]) rfl rfl ?_
  show GX g 3 RX10 cX10_party 2 (some .int) (some (.int r)) mm 0 _ [] m
  unfold f_X10_party at hm
  refine g_aloadn_0 dX10_party_0 ?_
  refine g_getr (q := 3) fo_10_1 pn_0 pc_0 rfl rfl dX10_party_1 ?_
  refine g_v0 hm (fun _ _ h => c_X0_isTold cty_3 h) pn_3 (pc_3 _ _) rfl ce_X0_isTold lk_X10_139 rfl rfl dX10_party_4 (fun x2 m1 hm => ?_)
  refine g_if_eq 28 hm dX10_party_7 (by decide) (fun hm => ?_) (fun hm => ?_)
  · refine g_iconst (-1) dX10_party_28 rfl ?_
    exact g_iret hm dX10_party_29
  · refine g_iloadn_1 dX10_party_10 ?_
    refine g_s1 hm (fun _ _ h => c_X0_isNursery h) ce_X0_isNursery lk_X10_262 rfl rfl dX10_party_11 (fun x4 m3 hm => ?_)
    refine g_if_eq 28 hm dX10_party_14 (by decide) (fun hm => ?_) (fun hm => ?_)
    · refine g_iconst (-1) dX10_party_28 rfl ?_
      exact g_iret hm dX10_party_29
    · refine g_aloadn_0 dX10_party_17 ?_
      refine g_getr (q := 21) fo_10_7 pn_0 pc_0 rfl rfl dX10_party_18 ?_
      refine g_iloadn_1 dX10_party_21 ?_
      refine g_v1 hm (fun _ _ h => c_X8_rightInNursery h) pn_21 (pc_21 _ _) rfl ce_X8_rightInNursery lk_X10_337 rfl rfl dX10_party_22 (fun x6 m5 hm => ?_)
      refine g_goto 29 dX10_party_25 (by decide) ?_
      exact g_iret hm dX10_party_29
def f_X10_heir  (m : Sg)  : Option (Int32 × Sg) :=
  cal (f_X0_trier 4 m) (fun x2 m1 => (if x2 = (-1) then some ((-1), m1) else
  cal (f_X0_askedBy 4 m1 x2) (fun x4 m3 => cal (f_X0_ruler 4 m3) (fun x6 m5 => cal (f_X0_claimant 4 m5 x4 x6) (fun x8 m7 => some (x8, m7))))))
set_option maxRecDepth 4000 in
theorem c_X10_heir {g : Cf} {m mm : Sg} {r : Int32} (hm : f_X10_heir  m  = some (r, mm)) : Cl g 4 yX10_heir cX10_heir 2 (some .int) [.ref (g.ad 0)] m (some (.int r)) mm := by
  refine cl_of (by decide) (Nat.le_of_ble_eq_true rfl) (vs := [some (.ref (g.ad 0)), none]) rfl rfl ?_
  show GX g 4 RX10 cX10_heir 2 (some .int) (some (.int r)) mm 0 _ [] m
  unfold f_X10_heir at hm
  refine g_aloadn_0 dX10_heir_0 ?_
  refine g_getr (q := 3) fo_10_1 pn_0 pc_0 rfl rfl dX10_heir_1 ?_
  refine g_v0 hm (fun _ _ h => c_X0_trier cty_3 h) pn_3 (pc_3 _ _) rfl ce_X0_trier lk_X10_159 rfl rfl dX10_heir_4 (fun x2 m1 hm => ?_)
  refine g_istoren_1 dX10_heir_7 rfl ?_
  refine g_iloadn_1 dX10_heir_8 ?_
  refine g_iconst (-1) dX10_heir_9 rfl ?_
  refine g_icmp_ne 17 hm dX10_heir_10 (by decide) (fun hm => ?_) (fun hm => ?_)
  · refine g_aloadn_0 dX10_heir_17 ?_
    refine g_getr (q := 3) fo_10_1 pn_0 pc_0 rfl rfl dX10_heir_18 ?_
    refine g_aloadn_0 dX10_heir_21 ?_
    refine g_getr (q := 3) fo_10_1 pn_0 pc_0 rfl rfl dX10_heir_22 ?_
    refine g_iloadn_1 dX10_heir_25 ?_
    refine g_v1 hm (fun _ _ h => c_X0_askedBy cty_3 h) pn_3 (pc_3 _ _) rfl ce_X0_askedBy lk_X10_340 rfl rfl dX10_heir_26 (fun x4 m3 hm => ?_)
    refine g_aloadn_0 dX10_heir_29 ?_
    refine g_getr (q := 3) fo_10_1 pn_0 pc_0 rfl rfl dX10_heir_30 ?_
    refine g_v0 hm (fun _ _ h => c_X0_ruler cty_3 h) pn_3 (pc_3 _ _) rfl ce_X0_ruler lk_X10_173 rfl rfl dX10_heir_33 (fun x6 m5 hm => ?_)
    refine g_v2 hm (fun _ _ h => c_X0_claimant cty_3 h) pn_3 (pc_3 _ _) rfl ce_X0_claimant lk_X10_343 rfl rfl dX10_heir_36 (fun x8 m7 hm => ?_)
    exact g_iret hm dX10_heir_39
  · refine g_iconst (-1) dX10_heir_13 rfl ?_
    refine g_goto 39 dX10_heir_14 (by decide) ?_
    exact g_iret hm dX10_heir_39
def f_X10_before  (m : Sg) (a1 : Int32) : Option (Int32 × Sg) :=
  cal (f_X0_hasChild 4 m a1) (fun x2 m1 => (if x2 = 0 then some ((-1), m1) else
  cal (f_X8_eldersSatisfied m1 a1) (fun x4 m3 => some (x4, m3))))
set_option maxRecDepth 4000 in
theorem c_X10_before {g : Cf} {m mm : Sg} {r : Int32} {a1 : Int32} (hm : f_X10_before  m a1 = some (r, mm)) : Cl g 5 yX10_before cX10_before 2 (some .int) [.ref (g.ad 0), .int a1] m (some (.int r)) mm := by
  refine cl_of (by decide) (Nat.le_of_ble_eq_true rfl) (vs := [some (.ref (g.ad 0)), some (.int a1)]) rfl rfl ?_
  show GX g 5 RX10 cX10_before 2 (some .int) (some (.int r)) mm 0 _ [] m
  unfold f_X10_before at hm
  refine g_aloadn_0 dX10_before_0 ?_
  refine g_getr (q := 3) fo_10_1 pn_0 pc_0 rfl rfl dX10_before_1 ?_
  refine g_iloadn_1 dX10_before_4 ?_
  refine g_v1 hm (fun _ _ h => c_X0_hasChild cty_3 h) pn_3 (pc_3 _ _) rfl ce_X0_hasChild lk_X10_112 rfl rfl dX10_before_5 (fun x2 m1 hm => ?_)
  refine g_if_eq 22 hm dX10_before_8 (by decide) (fun hm => ?_) (fun hm => ?_)
  · refine g_iconst (-1) dX10_before_22 rfl ?_
    exact g_iret hm dX10_before_23
  · refine g_aloadn_0 dX10_before_11 ?_
    refine g_getr (q := 21) fo_10_7 pn_0 pc_0 rfl rfl dX10_before_12 ?_
    refine g_iloadn_1 dX10_before_15 ?_
    refine g_v1 hm (fun _ _ h => c_X8_eldersSatisfied h) pn_21 (pc_21 _ _) rfl ce_X8_eldersSatisfied lk_X10_346 rfl rfl dX10_before_16 (fun x4 m3 hm => ?_)
    refine g_goto 23 dX10_before_19 (by decide) ?_
    exact g_iret hm dX10_before_23
def f_X10_without  (m : Sg) (a1 : Int32) : Option (Int32 × Sg) :=
  cal (f_X0_hasChild 4 m a1) (fun x2 m1 => (if x2 = 0 then some ((-1), m1) else
  cal (f_X8_fewestAbsent m1 a1) (fun x4 m3 => some (x4, m3))))
set_option maxRecDepth 4000 in
theorem c_X10_without {g : Cf} {m mm : Sg} {r : Int32} {a1 : Int32} (hm : f_X10_without  m a1 = some (r, mm)) : Cl g 5 yX10_without cX10_without 2 (some .int) [.ref (g.ad 0), .int a1] m (some (.int r)) mm := by
  refine cl_of (by decide) (Nat.le_of_ble_eq_true rfl) (vs := [some (.ref (g.ad 0)), some (.int a1)]) rfl rfl ?_
  show GX g 5 RX10 cX10_without 2 (some .int) (some (.int r)) mm 0 _ [] m
  unfold f_X10_without at hm
  refine g_aloadn_0 dX10_without_0 ?_
  refine g_getr (q := 3) fo_10_1 pn_0 pc_0 rfl rfl dX10_without_1 ?_
  refine g_iloadn_1 dX10_without_4 ?_
  refine g_v1 hm (fun _ _ h => c_X0_hasChild cty_3 h) pn_3 (pc_3 _ _) rfl ce_X0_hasChild lk_X10_112 rfl rfl dX10_without_5 (fun x2 m1 hm => ?_)
  refine g_if_eq 22 hm dX10_without_8 (by decide) (fun hm => ?_) (fun hm => ?_)
  · refine g_iconst (-1) dX10_without_22 rfl ?_
    exact g_iret hm dX10_without_23
  · refine g_aloadn_0 dX10_without_11 ?_
    refine g_getr (q := 21) fo_10_7 pn_0 pc_0 rfl rfl dX10_without_12 ?_
    refine g_iloadn_1 dX10_without_15 ?_
    refine g_v1 hm (fun _ _ h => c_X8_fewestAbsent h) pn_21 (pc_21 _ _) rfl ce_X8_fewestAbsent lk_X10_349 rfl rfl dX10_without_16 (fun x4 m3 hm => ?_)
    refine g_goto 23 dX10_without_19 (by decide) ?_
    exact g_iret hm dX10_without_23
def f_X10_spoil  (m : Sg) (a1 : Int32) : Option (Int32 × Sg) :=
  cal (f_X0_trier 4 m) (fun x2 m1 => (if x2 = (-1) then some ((-1), m1) else
  cal (f_X0_hasChild 4 m1 a1) (fun x4 m3 => (if x4 = 0 then some ((-1), m3) else
  cal (f_X0_stands 4 m3 a1 x2) (fun x6 m5 => (if x6 = 0 then some ((-1), m5) else
  cal (f_X0_askedBy 4 m5 x2) (fun x8 m7 => cal (f_X0_askedOf 4 m7 a1 x8) (fun x10 m9 => cal (f_X0_lowestTen m9 x10) (fun x12 m11 => some (x12, m11))))))))))
set_option maxRecDepth 4000 in
theorem c_X10_spoil {g : Cf} {m mm : Sg} {r : Int32} {a1 : Int32} (hm : f_X10_spoil  m a1 = some (r, mm)) : Cl g 4 yX10_spoil cX10_spoil 3 (some .int) [.ref (g.ad 0), .int a1] m (some (.int r)) mm := by
  refine cl_of (by decide) (Nat.le_of_ble_eq_true rfl) (vs := [some (.ref (g.ad 0)), some (.int a1), none]) rfl rfl ?_
  show GX g 4 RX10 cX10_spoil 3 (some .int) (some (.int r)) mm 0 _ [] m
  unfold f_X10_spoil at hm
  refine g_aloadn_0 dX10_spoil_0 ?_
  refine g_getr (q := 3) fo_10_1 pn_0 pc_0 rfl rfl dX10_spoil_1 ?_
  refine g_v0 hm (fun _ _ h => c_X0_trier cty_3 h) pn_3 (pc_3 _ _) rfl ce_X0_trier lk_X10_159 rfl rfl dX10_spoil_4 (fun x2 m1 hm => ?_)
  refine g_istoren_2 dX10_spoil_7 rfl ?_
  refine g_iloadn_2 dX10_spoil_8 ?_
  refine g_iconst (-1) dX10_spoil_9 rfl ?_
  refine g_icmp_eq 36 hm dX10_spoil_10 (by decide) (fun hm => ?_) (fun hm => ?_)
  · refine g_iconst (-1) dX10_spoil_36 rfl ?_
    exact g_iret hm dX10_spoil_37
  · refine g_aloadn_0 dX10_spoil_13 ?_
    refine g_getr (q := 3) fo_10_1 pn_0 pc_0 rfl rfl dX10_spoil_14 ?_
    refine g_iloadn_1 dX10_spoil_17 ?_
    refine g_v1 hm (fun _ _ h => c_X0_hasChild cty_3 h) pn_3 (pc_3 _ _) rfl ce_X0_hasChild lk_X10_112 rfl rfl dX10_spoil_18 (fun x4 m3 hm => ?_)
    refine g_if_eq 36 hm dX10_spoil_21 (by decide) (fun hm => ?_) (fun hm => ?_)
    · refine g_iconst (-1) dX10_spoil_36 rfl ?_
      exact g_iret hm dX10_spoil_37
    · refine g_aloadn_0 dX10_spoil_24 ?_
      refine g_getr (q := 3) fo_10_1 pn_0 pc_0 rfl rfl dX10_spoil_25 ?_
      refine g_iloadn_1 dX10_spoil_28 ?_
      refine g_iloadn_2 dX10_spoil_29 ?_
      refine g_v2 hm (fun _ _ h => c_X0_stands cty_3 h) pn_3 (pc_3 _ _) rfl ce_X0_stands lk_X10_152 rfl rfl dX10_spoil_30 (fun x6 m5 hm => ?_)
      refine g_if_ne 38 hm dX10_spoil_33 (by decide) (fun hm => ?_) (fun hm => ?_)
      · refine g_aloadn_0 dX10_spoil_38 ?_
        refine g_getr (q := 3) fo_10_1 pn_0 pc_0 rfl rfl dX10_spoil_39 ?_
        refine g_iloadn_1 dX10_spoil_42 ?_
        refine g_aloadn_0 dX10_spoil_43 ?_
        refine g_getr (q := 3) fo_10_1 pn_0 pc_0 rfl rfl dX10_spoil_44 ?_
        refine g_iloadn_2 dX10_spoil_47 ?_
        refine g_v1 hm (fun _ _ h => c_X0_askedBy cty_3 h) pn_3 (pc_3 _ _) rfl ce_X0_askedBy lk_X10_340 rfl rfl dX10_spoil_48 (fun x8 m7 hm => ?_)
        refine g_v2 hm (fun _ _ h => c_X0_askedOf cty_3 h) pn_3 (pc_3 _ _) rfl ce_X0_askedOf lk_X10_352 rfl rfl dX10_spoil_51 (fun x10 m9 hm => ?_)
        refine g_s1 hm (fun _ _ h => c_X0_lowestTen h) ce_X0_lowestTen lk_X10_355 rfl rfl dX10_spoil_54 (fun x12 m11 hm => ?_)
        exact g_iret hm dX10_spoil_57
      · refine g_iconst (-1) dX10_spoil_36 rfl ?_
        exact g_iret hm dX10_spoil_37
def f_X10_soon  (m : Sg) (a1 : Int32) : Option (Int32 × Sg) :=
  cal (f_X0_trier 4 m) (fun x2 m1 => bnd (fun (m3 : Sg) => some ((-1), m3)) (fun (k4 : Sg → Option (Int32 × Sg)) =>
  (if x2 = (-1) then k4 m1 else
  cal (f_X0_hasChild 4 m1 a1) (fun x6 m5 => (if x6 = 0 then k4 m5 else
  cal (f_X0_monthsToStand 4 m5 a1 x2) (fun x8 m7 => some (x8, m7)))))))
set_option maxRecDepth 4000 in
theorem c_X10_soon {g : Cf} {m mm : Sg} {r : Int32} {a1 : Int32} (hm : f_X10_soon  m a1 = some (r, mm)) : Cl g 4 yX10_soon cX10_soon 3 (some .int) [.ref (g.ad 0), .int a1] m (some (.int r)) mm := by
  refine cl_of (by decide) (Nat.le_of_ble_eq_true rfl) (vs := [some (.ref (g.ad 0)), some (.int a1), none]) rfl rfl ?_
  show GX g 4 RX10 cX10_soon 3 (some .int) (some (.int r)) mm 0 _ [] m
  unfold f_X10_soon at hm
  refine g_aloadn_0 dX10_soon_0 ?_
  refine g_getr (q := 3) fo_10_1 pn_0 pc_0 rfl rfl dX10_soon_1 ?_
  refine g_v0 hm (fun _ _ h => c_X0_trier cty_3 h) pn_3 (pc_3 _ _) rfl ce_X0_trier lk_X10_159 rfl rfl dX10_soon_4 (fun x2 m1 hm => ?_)
  refine g_istoren_2 dX10_soon_7 rfl ?_
  refine g_iloadn_2 dX10_soon_8 ?_
  refine g_iconst (-1) dX10_soon_9 rfl ?_
  refine g_jn (J := fun (s : Sg) => GX g 4 RX10 cX10_soon 3 (some .int) (some (.int r)) mm 24 [none, none, none] [] s) hm ?_ ?_
  · intro m3 hm
    refine g_iconst (-1) dX10_soon_24 rfl ?_
    refine g_goto 37 dX10_soon_25 (by decide) ?_
    exact g_iret hm dX10_soon_37
  · intro k4 hk4 hm
    refine g_icmp_eq 24 hm dX10_soon_10 (by decide) (fun hm => ?_) (fun hm => ?_)
    · refine g_weak (vs' := [none, none, none]) trivial ?_
      exact hk4 _ hm
    · refine g_aloadn_0 dX10_soon_13 ?_
      refine g_getr (q := 3) fo_10_1 pn_0 pc_0 rfl rfl dX10_soon_14 ?_
      refine g_iloadn_1 dX10_soon_17 ?_
      refine g_v1 hm (fun _ _ h => c_X0_hasChild cty_3 h) pn_3 (pc_3 _ _) rfl ce_X0_hasChild lk_X10_112 rfl rfl dX10_soon_18 (fun x6 m5 hm => ?_)
      refine g_if_ne 28 hm dX10_soon_21 (by decide) (fun hm => ?_) (fun hm => ?_)
      · refine g_aloadn_0 dX10_soon_28 ?_
        refine g_getr (q := 3) fo_10_1 pn_0 pc_0 rfl rfl dX10_soon_29 ?_
        refine g_iloadn_1 dX10_soon_32 ?_
        refine g_iloadn_2 dX10_soon_33 ?_
        refine g_v2 hm (fun _ _ h => c_X0_monthsToStand cty_3 h) pn_3 (pc_3 _ _) rfl ce_X0_monthsToStand lk_X10_358 rfl rfl dX10_soon_34 (fun x8 m7 hm => ?_)
        exact g_iret hm dX10_soon_37
      · refine g_weak (vs' := [none, none, none]) trivial ?_
        exact hk4 _ hm
def f_X10_fevered  (m : Sg)  : Option (Int32 × Sg) :=
  cal (f_X0_trier 4 m) (fun x2 m1 => (if x2 = (-1) then some ((-1), m1) else
  cal (f_X8_standingFevered m1 x2) (fun x4 m3 => some (x4, m3))))
set_option maxRecDepth 4000 in
theorem c_X10_fevered {g : Cf} {m mm : Sg} {r : Int32} (hm : f_X10_fevered  m  = some (r, mm)) : Cl g 4 yX10_fevered cX10_fevered 2 (some .int) [.ref (g.ad 0)] m (some (.int r)) mm := by
  refine cl_of (by decide) (Nat.le_of_ble_eq_true rfl) (vs := [some (.ref (g.ad 0)), none]) rfl rfl ?_
  show GX g 4 RX10 cX10_fevered 2 (some .int) (some (.int r)) mm 0 _ [] m
  unfold f_X10_fevered at hm
  refine g_aloadn_0 dX10_fevered_0 ?_
  refine g_getr (q := 3) fo_10_1 pn_0 pc_0 rfl rfl dX10_fevered_1 ?_
  refine g_v0 hm (fun _ _ h => c_X0_trier cty_3 h) pn_3 (pc_3 _ _) rfl ce_X0_trier lk_X10_159 rfl rfl dX10_fevered_4 (fun x2 m1 hm => ?_)
  refine g_istoren_1 dX10_fevered_7 rfl ?_
  refine g_iloadn_1 dX10_fevered_8 ?_
  refine g_iconst (-1) dX10_fevered_9 rfl ?_
  refine g_icmp_ne 17 hm dX10_fevered_10 (by decide) (fun hm => ?_) (fun hm => ?_)
  · refine g_aloadn_0 dX10_fevered_17 ?_
    refine g_getr (q := 21) fo_10_7 pn_0 pc_0 rfl rfl dX10_fevered_18 ?_
    refine g_iloadn_1 dX10_fevered_21 ?_
    refine g_v1 hm (fun _ _ h => c_X8_standingFevered h) pn_21 (pc_21 _ _) rfl ce_X8_standingFevered lk_X10_361 rfl rfl dX10_fevered_22 (fun x4 m3 hm => ?_)
    exact g_iret hm dX10_fevered_25
  · refine g_iconst (-1) dX10_fevered_13 rfl ?_
    refine g_goto 25 dX10_fevered_14 (by decide) ?_
    exact g_iret hm dX10_fevered_25
def f_X10_youngest  (m : Sg) (a1 : Int32) : Option (Int32 × Sg) :=
  cal (f_X8_inOrderOfAge m a1) (fun x2 m1 => some (x2, m1))
set_option maxRecDepth 4000 in
theorem c_X10_youngest {g : Cf} {m mm : Sg} {r : Int32} {a1 : Int32} (hm : f_X10_youngest  m a1 = some (r, mm)) : Cl g 4 yX10_youngest cX10_youngest 2 (some .int) [.ref (g.ad 0), .int a1] m (some (.int r)) mm := by
  refine cl_of (by decide) (Nat.le_of_ble_eq_true rfl) (vs := [some (.ref (g.ad 0)), some (.int a1)]) rfl rfl ?_
  show GX g 4 RX10 cX10_youngest 2 (some .int) (some (.int r)) mm 0 _ [] m
  unfold f_X10_youngest at hm
  refine g_aloadn_0 dX10_youngest_0 ?_
  refine g_getr (q := 21) fo_10_7 pn_0 pc_0 rfl rfl dX10_youngest_1 ?_
  refine g_iloadn_1 dX10_youngest_4 ?_
  refine g_v1 hm (fun _ _ h => c_X8_inOrderOfAge h) pn_21 (pc_21 _ _) rfl ce_X8_inOrderOfAge lk_X10_364 rfl rfl dX10_youngest_5 (fun x2 m1 hm => ?_)
  exact g_iret hm dX10_youngest_8
def f_X10_rivals  (m : Sg) (a1 : Int32) : Option (Int32 × Sg) :=
  cal (f_X0_trier 4 m) (fun x2 m1 => bnd (fun (m3 : Sg) => some ((-1), m3)) (fun (k4 : Sg → Option (Int32 × Sg)) =>
  (if x2 = (-1) then k4 m1 else
  cal (f_X0_hasChild 4 m1 a1) (fun x6 m5 => (if x6 = 0 then k4 m5 else
  cal (f_X8_youngerStanding m5 a1 x2) (fun x8 m7 => some (x8, m7)))))))
set_option maxRecDepth 4000 in
theorem c_X10_rivals {g : Cf} {m mm : Sg} {r : Int32} {a1 : Int32} (hm : f_X10_rivals  m a1 = some (r, mm)) : Cl g 5 yX10_rivals cX10_rivals 3 (some .int) [.ref (g.ad 0), .int a1] m (some (.int r)) mm := by
  refine cl_of (by decide) (Nat.le_of_ble_eq_true rfl) (vs := [some (.ref (g.ad 0)), some (.int a1), none]) rfl rfl ?_
  show GX g 5 RX10 cX10_rivals 3 (some .int) (some (.int r)) mm 0 _ [] m
  unfold f_X10_rivals at hm
  refine g_aloadn_0 dX10_rivals_0 ?_
  refine g_getr (q := 3) fo_10_1 pn_0 pc_0 rfl rfl dX10_rivals_1 ?_
  refine g_v0 hm (fun _ _ h => c_X0_trier cty_3 h) pn_3 (pc_3 _ _) rfl ce_X0_trier lk_X10_159 rfl rfl dX10_rivals_4 (fun x2 m1 hm => ?_)
  refine g_istoren_2 dX10_rivals_7 rfl ?_
  refine g_iloadn_2 dX10_rivals_8 ?_
  refine g_iconst (-1) dX10_rivals_9 rfl ?_
  refine g_jn (J := fun (s : Sg) => GX g 5 RX10 cX10_rivals 3 (some .int) (some (.int r)) mm 24 [none, none, none] [] s) hm ?_ ?_
  · intro m3 hm
    refine g_iconst (-1) dX10_rivals_24 rfl ?_
    refine g_goto 37 dX10_rivals_25 (by decide) ?_
    exact g_iret hm dX10_rivals_37
  · intro k4 hk4 hm
    refine g_icmp_eq 24 hm dX10_rivals_10 (by decide) (fun hm => ?_) (fun hm => ?_)
    · refine g_weak (vs' := [none, none, none]) trivial ?_
      exact hk4 _ hm
    · refine g_aloadn_0 dX10_rivals_13 ?_
      refine g_getr (q := 3) fo_10_1 pn_0 pc_0 rfl rfl dX10_rivals_14 ?_
      refine g_iloadn_1 dX10_rivals_17 ?_
      refine g_v1 hm (fun _ _ h => c_X0_hasChild cty_3 h) pn_3 (pc_3 _ _) rfl ce_X0_hasChild lk_X10_112 rfl rfl dX10_rivals_18 (fun x6 m5 hm => ?_)
      refine g_if_ne 28 hm dX10_rivals_21 (by decide) (fun hm => ?_) (fun hm => ?_)
      · refine g_aloadn_0 dX10_rivals_28 ?_
        refine g_getr (q := 21) fo_10_7 pn_0 pc_0 rfl rfl dX10_rivals_29 ?_
        refine g_iloadn_1 dX10_rivals_32 ?_
        refine g_iloadn_2 dX10_rivals_33 ?_
        refine g_v2 hm (fun _ _ h => c_X8_youngerStanding h) pn_21 (pc_21 _ _) rfl ce_X8_youngerStanding lk_X10_367 rfl rfl dX10_rivals_34 (fun x8 m7 hm => ?_)
        exact g_iret hm dX10_rivals_37
      · refine g_weak (vs' := [none, none, none]) trivial ?_
        exact hk4 _ hm
def f_X10_forgotten  (m : Sg)  : Option (Int32 × Sg) :=
  cal (f_X0_isTold 4 m) (fun x2 m1 => (if x2 = 0 then some ((-1), m1) else
  cal (f_X8_unknownToElders m1) (fun x4 m3 => some (x4, m3))))
set_option maxRecDepth 4000 in
theorem c_X10_forgotten {g : Cf} {m mm : Sg} {r : Int32} (hm : f_X10_forgotten  m  = some (r, mm)) : Cl g 3 yX10_forgotten cX10_forgotten 1 (some .int) [.ref (g.ad 0)] m (some (.int r)) mm := by
  refine cl_of (by decide) (Nat.le_of_ble_eq_true rfl) (vs := [some (.ref (g.ad 0))]) rfl rfl ?_
  show GX g 3 RX10 cX10_forgotten 1 (some .int) (some (.int r)) mm 0 _ [] m
  unfold f_X10_forgotten at hm
  refine g_aloadn_0 dX10_forgotten_0 ?_
  refine g_getr (q := 3) fo_10_1 pn_0 pc_0 rfl rfl dX10_forgotten_1 ?_
  refine g_v0 hm (fun _ _ h => c_X0_isTold cty_3 h) pn_3 (pc_3 _ _) rfl ce_X0_isTold lk_X10_139 rfl rfl dX10_forgotten_4 (fun x2 m1 hm => ?_)
  refine g_if_eq 20 hm dX10_forgotten_7 (by decide) (fun hm => ?_) (fun hm => ?_)
  · refine g_iconst (-1) dX10_forgotten_20 rfl ?_
    exact g_iret hm dX10_forgotten_21
  · refine g_aloadn_0 dX10_forgotten_10 ?_
    refine g_getr (q := 21) fo_10_7 pn_0 pc_0 rfl rfl dX10_forgotten_11 ?_
    refine g_v0 hm (fun _ _ h => c_X8_unknownToElders h) pn_21 (pc_21 _ _) rfl ce_X8_unknownToElders lk_X10_370 rfl rfl dX10_forgotten_14 (fun x4 m3 hm => ?_)
    refine g_goto 21 dX10_forgotten_17 (by decide) ?_
    exact g_iret hm dX10_forgotten_21
def f_X10_hasChildAndTen  (m : Sg) (a1 : Int32) (a2 : Int32) : Option (Int32 × Sg) :=
  cal (f_X0_hasChild 4 m a1) (fun x2 m1 => (if x2 = 0 then some (0, m1) else
  (if a2 < 0 then some (0, m1) else
  (if 9 ≤ a2 then some (0, m1) else
  some (1, m1)))))
set_option maxRecDepth 4000 in
theorem c_X10_hasChildAndTen {g : Cf} {m mm : Sg} {r : Int32} {a1 : Int32} {a2 : Int32} (hm : f_X10_hasChildAndTen  m a1 a2 = some (r, mm)) : Cl g 1 yX10_hasChildAndTen cX10_hasChildAndTen 3 (some .boolean) [.ref (g.ad 0), .int a1, .int a2] m (some (.int r)) mm := by
  refine cl_of (by decide) (Nat.le_of_ble_eq_true rfl) (vs := [some (.ref (g.ad 0)), some (.int a1), some (.int a2)]) rfl rfl ?_
  show GX g 1 RX10 cX10_hasChildAndTen 3 (some .boolean) (some (.int r)) mm 0 _ [] m
  unfold f_X10_hasChildAndTen at hm
  refine g_aloadn_0 dX10_hasChildAndTen_0 ?_
  refine g_getr (q := 3) fo_10_1 pn_0 pc_0 rfl rfl dX10_hasChildAndTen_1 ?_
  refine g_iloadn_1 dX10_hasChildAndTen_4 ?_
  refine g_v1 hm (fun _ _ h => c_X0_hasChild cty_3 h) pn_3 (pc_3 _ _) rfl ce_X0_hasChild lk_X10_112 rfl rfl dX10_hasChildAndTen_5 (fun x2 m1 hm => ?_)
  refine g_if_eq 25 hm dX10_hasChildAndTen_8 (by decide) (fun hm => ?_) (fun hm => ?_)
  · refine g_iconst 0 dX10_hasChildAndTen_25 rfl ?_
    exact g_zretc hm rfl dX10_hasChildAndTen_26
  · refine g_iloadn_2 dX10_hasChildAndTen_11 ?_
    refine g_if_lt 25 hm dX10_hasChildAndTen_12 (by decide) (fun hm => ?_) (fun hm => ?_)
    · refine g_iconst 0 dX10_hasChildAndTen_25 rfl ?_
      exact g_zretc hm rfl dX10_hasChildAndTen_26
    · refine g_iloadn_2 dX10_hasChildAndTen_15 ?_
      refine g_bipush 9 dX10_hasChildAndTen_16 rfl ?_
      refine g_icmp_ge 25 hm dX10_hasChildAndTen_18 (by decide) (fun hm => ?_) (fun hm => ?_)
      · refine g_iconst 0 dX10_hasChildAndTen_25 rfl ?_
        exact g_zretc hm rfl dX10_hasChildAndTen_26
      · refine g_iconst 1 dX10_hasChildAndTen_21 rfl ?_
        refine g_goto 26 dX10_hasChildAndTen_22 (by decide) ?_
        exact g_zretc hm rfl dX10_hasChildAndTen_26
def f_X10_isOneOfTwo  (m : Sg) (a1 : Int32) : Option (Int32 × Sg) :=
  bnd (fun (m1 : Sg) => some (1, m1)) (fun (k2 : Sg → Option (Int32 × Sg)) =>
  (if a1 = 0 then k2 m else
  (if a1 = 1 then k2 m else
  some (0, m))))
set_option maxRecDepth 4000 in
theorem c_X10_isOneOfTwo {g : Cf} {m mm : Sg} {r : Int32} {a1 : Int32} (hm : f_X10_isOneOfTwo  m a1 = some (r, mm)) : Cl g 0 yX10_isOneOfTwo cX10_isOneOfTwo 1 (some .boolean) [.int a1] m (some (.int r)) mm := by
  refine cl_of (by decide) (Nat.le_of_ble_eq_true rfl) (vs := [some (.int a1)]) rfl rfl ?_
  show GX g 0 RX10 cX10_isOneOfTwo 1 (some .boolean) (some (.int r)) mm 0 _ [] m
  unfold f_X10_isOneOfTwo at hm
  refine g_iloadn_0 dX10_isOneOfTwo_0 ?_
  refine g_jn (J := fun (s : Sg) => GX g 0 RX10 cX10_isOneOfTwo 1 (some .boolean) (some (.int r)) mm 9 [none] [] s) hm ?_ ?_
  · intro m1 hm
    refine g_iconst 1 dX10_isOneOfTwo_9 rfl ?_
    refine g_goto 14 dX10_isOneOfTwo_10 (by decide) ?_
    exact g_zretc hm rfl dX10_isOneOfTwo_14
  · intro k2 hk2 hm
    refine g_if_eq 9 hm dX10_isOneOfTwo_1 (by decide) (fun hm => ?_) (fun hm => ?_)
    · refine g_weak (vs' := [none]) trivial ?_
      exact hk2 _ hm
    · refine g_iloadn_0 dX10_isOneOfTwo_4 ?_
      refine g_iconst 1 dX10_isOneOfTwo_5 rfl ?_
      refine g_icmp_ne 13 hm dX10_isOneOfTwo_6 (by decide) (fun hm => ?_) (fun hm => ?_)
      · refine g_iconst 0 dX10_isOneOfTwo_13 rfl ?_
        exact g_zretc hm rfl dX10_isOneOfTwo_14
      · refine g_weak (vs' := [none]) trivial ?_
        exact hk2 _ hm
def f_X10_areTwoNurseries  (m : Sg) (a1 : Int32) (a2 : Int32) : Option (Int32 × Sg) :=
  cal (f_X0_isNursery m a1) (fun x2 m1 => (if x2 = 0 then some (0, m1) else
  cal (f_X0_isNursery m1 a2) (fun x4 m3 => (if x4 = 0 then some (0, m3) else
  (if a1 = a2 then some (0, m3) else
  some (1, m3))))))
set_option maxRecDepth 4000 in
theorem c_X10_areTwoNurseries {g : Cf} {m mm : Sg} {r : Int32} {a1 : Int32} {a2 : Int32} (hm : f_X10_areTwoNurseries  m a1 a2 = some (r, mm)) : Cl g 1 yX10_areTwoNurseries cX10_areTwoNurseries 2 (some .boolean) [.int a1, .int a2] m (some (.int r)) mm := by
  refine cl_of (by decide) (Nat.le_of_ble_eq_true rfl) (vs := [some (.int a1), some (.int a2)]) rfl rfl ?_
  show GX g 1 RX10 cX10_areTwoNurseries 2 (some .boolean) (some (.int r)) mm 0 _ [] m
  unfold f_X10_areTwoNurseries at hm
  refine g_iloadn_0 dX10_areTwoNurseries_0 ?_
  refine g_s1 hm (fun _ _ h => c_X0_isNursery h) ce_X0_isNursery lk_X10_262 rfl rfl dX10_areTwoNurseries_1 (fun x2 m1 hm => ?_)
  refine g_if_eq 23 hm dX10_areTwoNurseries_4 (by decide) (fun hm => ?_) (fun hm => ?_)
  · refine g_iconst 0 dX10_areTwoNurseries_23 rfl ?_
    exact g_zretc hm rfl dX10_areTwoNurseries_24
  · refine g_iloadn_1 dX10_areTwoNurseries_7 ?_
    refine g_s1 hm (fun _ _ h => c_X0_isNursery h) ce_X0_isNursery lk_X10_262 rfl rfl dX10_areTwoNurseries_8 (fun x4 m3 hm => ?_)
    refine g_if_eq 23 hm dX10_areTwoNurseries_11 (by decide) (fun hm => ?_) (fun hm => ?_)
    · refine g_iconst 0 dX10_areTwoNurseries_23 rfl ?_
      exact g_zretc hm rfl dX10_areTwoNurseries_24
    · refine g_iloadn_0 dX10_areTwoNurseries_14 ?_
      refine g_iloadn_1 dX10_areTwoNurseries_15 ?_
      refine g_icmp_eq 23 hm dX10_areTwoNurseries_16 (by decide) (fun hm => ?_) (fun hm => ?_)
      · refine g_iconst 0 dX10_areTwoNurseries_23 rfl ?_
        exact g_zretc hm rfl dX10_areTwoNurseries_24
      · refine g_iconst 1 dX10_areTwoNurseries_19 rfl ?_
        refine g_goto 24 dX10_areTwoNurseries_20 (by decide) ?_
        exact g_zretc hm rfl dX10_areTwoNurseries_24
def f_X10_teach  (m : Sg) (a1 : Int32) (a2 : Int32) : Option (Int32 × Sg) :=
  cal (f_X10_hasChildAndTen m a1 a2) (fun x2 m1 => (if x2 = 0 then some ((-1), m1) else
  cal (f_X0_kid 4 m1 a1 6) (fun x4 m3 => (if x4 = (-1) then cal (f_X0_bit 4 m3 a1 8 a2) (fun x6 m5 => (if x6 = 0 then cal (f_X0_isRight 4 m5 a1 a2) (fun x8 m7 => (if x8 = 0 then calv (f_X7_remember m7) (fun m9 => calv (f_X0_beginLesson 4 m9 a1 a2) (fun m10 => cal (f_X7_acts m10) (fun x12 m11 => some (x12, m11)))) else
  some ((-1), m7))) else
  some ((-1), m5))) else
  some ((-1), m3)))))
set_option maxRecDepth 4000 in
theorem c_X10_teach {g : Cf} {m mm : Sg} {r : Int32} {a1 : Int32} {a2 : Int32} (hm : f_X10_teach  m a1 a2 = some (r, mm)) : Cl g 3 yX10_teach cX10_teach 3 (some .int) [.ref (g.ad 0), .int a1, .int a2] m (some (.int r)) mm := by
  refine cl_of (by decide) (Nat.le_of_ble_eq_true rfl) (vs := [some (.ref (g.ad 0)), some (.int a1), some (.int a2)]) rfl rfl ?_
  show GX g 3 RX10 cX10_teach 3 (some .int) (some (.int r)) mm 0 _ [] m
  unfold f_X10_teach at hm
  refine g_aloadn_0 dX10_teach_0 ?_
  refine g_iloadn_1 dX10_teach_1 ?_
  refine g_iloadn_2 dX10_teach_2 ?_
  refine g_v2 hm (fun _ _ h => c_X10_hasChildAndTen h) pn_0 (pc_0 _ _) rfl ce_X10_hasChildAndTen lk_X10_179 rfl rfl dX10_teach_3 (fun x2 m1 hm => ?_)
  refine g_if_eq 23 hm dX10_teach_6 (by decide) (fun hm => ?_) (fun hm => ?_)
  · refine g_iconst (-1) dX10_teach_23 rfl ?_
    exact g_iret hm dX10_teach_24
  · refine g_aloadn_0 dX10_teach_9 ?_
    refine g_getr (q := 3) fo_10_1 pn_0 pc_0 rfl rfl dX10_teach_10 ?_
    refine g_iloadn_1 dX10_teach_13 ?_
    refine g_bipush 6 dX10_teach_14 rfl ?_
    refine g_v2 hm (fun _ _ h => c_X0_kid cty_3 h) pn_3 (pc_3 _ _) rfl ce_X0_kid lk_X10_129 rfl rfl dX10_teach_16 (fun x4 m3 hm => ?_)
    refine g_iconst (-1) dX10_teach_19 rfl ?_
    refine g_icmp_eq 25 hm dX10_teach_20 (by decide) (fun hm => ?_) (fun hm => ?_)
    · refine g_aloadn_0 dX10_teach_25 ?_
      refine g_getr (q := 3) fo_10_1 pn_0 pc_0 rfl rfl dX10_teach_26 ?_
      refine g_iloadn_1 dX10_teach_29 ?_
      refine g_bipush 8 dX10_teach_30 rfl ?_
      refine g_iloadn_2 dX10_teach_32 ?_
      refine g_v3 hm (fun _ _ h => c_X0_bit cty_3 h) pn_3 (pc_3 _ _) rfl ce_X0_bit lk_X10_182 rfl rfl dX10_teach_33 (fun x6 m5 hm => ?_)
      refine g_if_ne 51 hm dX10_teach_36 (by decide) (fun hm => ?_) (fun hm => ?_)
      · refine g_iconst (-1) dX10_teach_51 rfl ?_
        exact g_iret hm dX10_teach_52
      · refine g_aloadn_0 dX10_teach_39 ?_
        refine g_getr (q := 3) fo_10_1 pn_0 pc_0 rfl rfl dX10_teach_40 ?_
        refine g_iloadn_1 dX10_teach_43 ?_
        refine g_iloadn_2 dX10_teach_44 ?_
        refine g_v2 hm (fun _ _ h => c_X0_isRight cty_3 h) pn_3 (pc_3 _ _) rfl ce_X0_isRight lk_X10_186 rfl rfl dX10_teach_45 (fun x8 m7 hm => ?_)
        refine g_if_eq 53 hm dX10_teach_48 (by decide) (fun hm => ?_) (fun hm => ?_)
        · refine g_aloadn_0 dX10_teach_53 ?_
          refine g_getr (q := 16) fo_10_6 pn_0 pc_0 rfl rfl dX10_teach_54 ?_
          refine g_aloadn_0 dX10_teach_57 ?_
          refine g_getr (q := 3) fo_10_1 pn_0 pc_0 rfl rfl dX10_teach_58 ?_
          refine g_v1V hm (fun _ h => c_X7_remember h) pn_16 (pc_16 _ _) rfl ce_X7_remember lk_X10_189 rfl rfl dX10_teach_61 (fun m9 hm => ?_)
          refine g_aloadn_0 dX10_teach_64 ?_
          refine g_getr (q := 3) fo_10_1 pn_0 pc_0 rfl rfl dX10_teach_65 ?_
          refine g_iloadn_1 dX10_teach_68 ?_
          refine g_iloadn_2 dX10_teach_69 ?_
          refine g_v2V hm (fun _ h => c_X0_beginLesson cty_3 h) pn_3 (pc_3 _ _) rfl ce_X0_beginLesson lk_X10_192 rfl rfl dX10_teach_70 (fun m10 hm => ?_)
          refine g_aloadn_0 dX10_teach_73 ?_
          refine g_getr (q := 16) fo_10_6 pn_0 pc_0 rfl rfl dX10_teach_74 ?_
          refine g_v0 hm (fun _ _ h => c_X7_acts h) pn_16 (pc_16 _ _) rfl ce_X7_acts lk_X10_176 rfl rfl dX10_teach_77 (fun x12 m11 hm => ?_)
          exact g_iret hm dX10_teach_80
        · refine g_iconst (-1) dX10_teach_51 rfl ?_
          exact g_iret hm dX10_teach_52
    · refine g_iconst (-1) dX10_teach_23 rfl ?_
      exact g_iret hm dX10_teach_24
def f_X10_wrong  (m : Sg) (a1 : Int32) (a2 : Int32) : Option (Int32 × Sg) :=
  cal (f_X10_hasChildAndTen m a1 a2) (fun x2 m1 => (if x2 = 0 then some ((-1), m1) else
  cal (f_X0_bit 4 m1 a1 2 a2) (fun x4 m3 => (if x4 = 0 then calv (f_X7_remember m3) (fun m5 => calv (f_X0_setBit 4 m5 a1 2 a2 1) (fun m6 => cal (f_X7_acts m6) (fun x8 m7 => some (x8, m7)))) else
  some ((-1), m3)))))
set_option maxRecDepth 4000 in
theorem c_X10_wrong {g : Cf} {m mm : Sg} {r : Int32} {a1 : Int32} {a2 : Int32} (hm : f_X10_wrong  m a1 a2 = some (r, mm)) : Cl g 3 yX10_wrong cX10_wrong 3 (some .int) [.ref (g.ad 0), .int a1, .int a2] m (some (.int r)) mm := by
  refine cl_of (by decide) (Nat.le_of_ble_eq_true rfl) (vs := [some (.ref (g.ad 0)), some (.int a1), some (.int a2)]) rfl rfl ?_
  show GX g 3 RX10 cX10_wrong 3 (some .int) (some (.int r)) mm 0 _ [] m
  unfold f_X10_wrong at hm
  refine g_aloadn_0 dX10_wrong_0 ?_
  refine g_iloadn_1 dX10_wrong_1 ?_
  refine g_iloadn_2 dX10_wrong_2 ?_
  refine g_v2 hm (fun _ _ h => c_X10_hasChildAndTen h) pn_0 (pc_0 _ _) rfl ce_X10_hasChildAndTen lk_X10_179 rfl rfl dX10_wrong_3 (fun x2 m1 hm => ?_)
  refine g_if_eq 22 hm dX10_wrong_6 (by decide) (fun hm => ?_) (fun hm => ?_)
  · refine g_iconst (-1) dX10_wrong_22 rfl ?_
    exact g_iret hm dX10_wrong_23
  · refine g_aloadn_0 dX10_wrong_9 ?_
    refine g_getr (q := 3) fo_10_1 pn_0 pc_0 rfl rfl dX10_wrong_10 ?_
    refine g_iloadn_1 dX10_wrong_13 ?_
    refine g_iconst 2 dX10_wrong_14 rfl ?_
    refine g_iloadn_2 dX10_wrong_15 ?_
    refine g_v3 hm (fun _ _ h => c_X0_bit cty_3 h) pn_3 (pc_3 _ _) rfl ce_X0_bit lk_X10_182 rfl rfl dX10_wrong_16 (fun x4 m3 hm => ?_)
    refine g_if_eq 24 hm dX10_wrong_19 (by decide) (fun hm => ?_) (fun hm => ?_)
    · refine g_aloadn_0 dX10_wrong_24 ?_
      refine g_getr (q := 16) fo_10_6 pn_0 pc_0 rfl rfl dX10_wrong_25 ?_
      refine g_aloadn_0 dX10_wrong_28 ?_
      refine g_getr (q := 3) fo_10_1 pn_0 pc_0 rfl rfl dX10_wrong_29 ?_
      refine g_v1V hm (fun _ h => c_X7_remember h) pn_16 (pc_16 _ _) rfl ce_X7_remember lk_X10_189 rfl rfl dX10_wrong_32 (fun m5 hm => ?_)
      refine g_aloadn_0 dX10_wrong_35 ?_
      refine g_getr (q := 3) fo_10_1 pn_0 pc_0 rfl rfl dX10_wrong_36 ?_
      refine g_iloadn_1 dX10_wrong_39 ?_
      refine g_iconst 2 dX10_wrong_40 rfl ?_
      refine g_iloadn_2 dX10_wrong_41 ?_
      refine g_iconst 1 dX10_wrong_42 rfl ?_
      refine g_v4V hm (fun _ h => c_X0_setBit cty_3 h) pn_3 (pc_3 _ _) rfl ce_X0_setBit lk_X10_196 rfl rfl dX10_wrong_43 (fun m6 hm => ?_)
      refine g_aloadn_0 dX10_wrong_46 ?_
      refine g_getr (q := 16) fo_10_6 pn_0 pc_0 rfl rfl dX10_wrong_47 ?_
      refine g_v0 hm (fun _ _ h => c_X7_acts h) pn_16 (pc_16 _ _) rfl ce_X7_acts lk_X10_176 rfl rfl dX10_wrong_50 (fun x8 m7 hm => ?_)
      exact g_iret hm dX10_wrong_53
    · refine g_iconst (-1) dX10_wrong_22 rfl ?_
      exact g_iret hm dX10_wrong_23
def f_X10_keep  (m : Sg) (a1 : Int32) (a2 : Int32) (a3 : Int32) : Option (Int32 × Sg) :=
  cal (f_X10_hasChildAndTen m a1 a2) (fun x2 m1 => (if x2 = 0 then some ((-1), m1) else
  cal (f_X0_bit 4 m1 a1 8 a2) (fun x4 m3 => (if x4 = a3 then some ((-1), m3) else
  calv (f_X7_remember m3) (fun m5 => calv (f_X0_setKept 4 m5 a1 a2 a3) (fun m6 => cal (f_X7_acts m6) (fun x8 m7 => some (x8, m7))))))))
set_option maxRecDepth 4000 in
theorem c_X10_keep {g : Cf} {m mm : Sg} {r : Int32} {a1 : Int32} {a2 : Int32} {a3 : Int32} (hm : f_X10_keep  m a1 a2 a3 = some (r, mm)) : Cl g 3 yX10_keep cX10_keep 4 (some .int) [.ref (g.ad 0), .int a1, .int a2, .int a3] m (some (.int r)) mm := by
  refine cl_of (by decide) (Nat.le_of_ble_eq_true rfl) (vs := [some (.ref (g.ad 0)), some (.int a1), some (.int a2), some (.int a3)]) rfl rfl ?_
  show GX g 3 RX10 cX10_keep 4 (some .int) (some (.int r)) mm 0 _ [] m
  unfold f_X10_keep at hm
  refine g_aloadn_0 dX10_keep_0 ?_
  refine g_iloadn_1 dX10_keep_1 ?_
  refine g_iloadn_2 dX10_keep_2 ?_
  refine g_v2 hm (fun _ _ h => c_X10_hasChildAndTen h) pn_0 (pc_0 _ _) rfl ce_X10_hasChildAndTen lk_X10_179 rfl rfl dX10_keep_3 (fun x2 m1 hm => ?_)
  refine g_if_eq 24 hm dX10_keep_6 (by decide) (fun hm => ?_) (fun hm => ?_)
  · refine g_iconst (-1) dX10_keep_24 rfl ?_
    exact g_iret hm dX10_keep_25
  · refine g_aloadn_0 dX10_keep_9 ?_
    refine g_getr (q := 3) fo_10_1 pn_0 pc_0 rfl rfl dX10_keep_10 ?_
    refine g_iloadn_1 dX10_keep_13 ?_
    refine g_bipush 8 dX10_keep_14 rfl ?_
    refine g_iloadn_2 dX10_keep_16 ?_
    refine g_v3 hm (fun _ _ h => c_X0_bit cty_3 h) pn_3 (pc_3 _ _) rfl ce_X0_bit lk_X10_182 rfl rfl dX10_keep_17 (fun x4 m3 hm => ?_)
    refine g_iloadn_3 dX10_keep_20 ?_
    refine g_icmp_ne 26 hm dX10_keep_21 (by decide) (fun hm => ?_) (fun hm => ?_)
    · refine g_aloadn_0 dX10_keep_26 ?_
      refine g_getr (q := 16) fo_10_6 pn_0 pc_0 rfl rfl dX10_keep_27 ?_
      refine g_aloadn_0 dX10_keep_30 ?_
      refine g_getr (q := 3) fo_10_1 pn_0 pc_0 rfl rfl dX10_keep_31 ?_
      refine g_v1V hm (fun _ h => c_X7_remember h) pn_16 (pc_16 _ _) rfl ce_X7_remember lk_X10_189 rfl rfl dX10_keep_34 (fun m5 hm => ?_)
      refine g_aloadn_0 dX10_keep_37 ?_
      refine g_getr (q := 3) fo_10_1 pn_0 pc_0 rfl rfl dX10_keep_38 ?_
      refine g_iloadn_1 dX10_keep_41 ?_
      refine g_iloadn_2 dX10_keep_42 ?_
      refine g_iloadn_3 dX10_keep_43 ?_
      refine g_v3V hm (fun _ h => c_X0_setKept cty_3 h) pn_3 (pc_3 _ _) rfl ce_X0_setKept lk_X10_200 rfl rfl dX10_keep_44 (fun m6 hm => ?_)
      refine g_aloadn_0 dX10_keep_47 ?_
      refine g_getr (q := 16) fo_10_6 pn_0 pc_0 rfl rfl dX10_keep_48 ?_
      refine g_v0 hm (fun _ _ h => c_X7_acts h) pn_16 (pc_16 _ _) rfl ce_X7_acts lk_X10_176 rfl rfl dX10_keep_51 (fun x8 m7 hm => ?_)
      exact g_iret hm dX10_keep_54
    · refine g_iconst (-1) dX10_keep_24 rfl ?_
      exact g_iret hm dX10_keep_25
def f_X10_buy  (m : Sg) (a1 : Int32) (a2 : Int32) : Option (Int32 × Sg) :=
  cal (f_X10_hasChildAndTen m a1 a2) (fun x2 m1 => (if x2 = 0 then some ((-1), m1) else
  cal (f_X0_isRight 4 m1 a1 a2) (fun x4 m3 => (if x4 = 0 then cal (f_X0_cell 4 m3 99) (fun x6 m5 => cal (f_X0_cell 4 m5 94) (fun x8 m7 => bnd (x6 - x8) (fun x9 => (if 0 ≤ x9 then calv (f_X7_remember m7) (fun m10 => calv (f_X0_put 4 m10 99 x9) (fun m11 => calv (f_X0_makeRight 4 m11 a1 a2) (fun m12 => some (x9, m12)))) else
  some ((-1), m7))))) else
  some ((-1), m3)))))
set_option maxRecDepth 4000 in
theorem c_X10_buy {g : Cf} {m mm : Sg} {r : Int32} {a1 : Int32} {a2 : Int32} (hm : f_X10_buy  m a1 a2 = some (r, mm)) : Cl g 3 yX10_buy cX10_buy 4 (some .int) [.ref (g.ad 0), .int a1, .int a2] m (some (.int r)) mm := by
  refine cl_of (by decide) (Nat.le_of_ble_eq_true rfl) (vs := [some (.ref (g.ad 0)), some (.int a1), some (.int a2), none]) rfl rfl ?_
  show GX g 3 RX10 cX10_buy 4 (some .int) (some (.int r)) mm 0 _ [] m
  unfold f_X10_buy at hm
  refine g_aloadn_0 dX10_buy_0 ?_
  refine g_iloadn_1 dX10_buy_1 ?_
  refine g_iloadn_2 dX10_buy_2 ?_
  refine g_v2 hm (fun _ _ h => c_X10_hasChildAndTen h) pn_0 (pc_0 _ _) rfl ce_X10_hasChildAndTen lk_X10_179 rfl rfl dX10_buy_3 (fun x2 m1 hm => ?_)
  refine g_if_eq 21 hm dX10_buy_6 (by decide) (fun hm => ?_) (fun hm => ?_)
  · refine g_iconst (-1) dX10_buy_21 rfl ?_
    exact g_iret hm dX10_buy_22
  · refine g_aloadn_0 dX10_buy_9 ?_
    refine g_getr (q := 3) fo_10_1 pn_0 pc_0 rfl rfl dX10_buy_10 ?_
    refine g_iloadn_1 dX10_buy_13 ?_
    refine g_iloadn_2 dX10_buy_14 ?_
    refine g_v2 hm (fun _ _ h => c_X0_isRight cty_3 h) pn_3 (pc_3 _ _) rfl ce_X0_isRight lk_X10_186 rfl rfl dX10_buy_15 (fun x4 m3 hm => ?_)
    refine g_if_eq 23 hm dX10_buy_18 (by decide) (fun hm => ?_) (fun hm => ?_)
    · refine g_aloadn_0 dX10_buy_23 ?_
      refine g_getr (q := 3) fo_10_1 pn_0 pc_0 rfl rfl dX10_buy_24 ?_
      refine g_bipush 99 dX10_buy_27 rfl ?_
      refine g_v1 hm (fun _ _ h => c_X0_cell cty_3 h) pn_3 (pc_3 _ _) rfl ce_X0_cell lk_X10_142 rfl rfl dX10_buy_29 (fun x6 m5 hm => ?_)
      refine g_aloadn_0 dX10_buy_32 ?_
      refine g_getr (q := 3) fo_10_1 pn_0 pc_0 rfl rfl dX10_buy_33 ?_
      refine g_bipush 94 dX10_buy_36 rfl ?_
      refine g_v1 hm (fun _ _ h => c_X0_cell cty_3 h) pn_3 (pc_3 _ _) rfl ce_X0_cell lk_X10_142 rfl rfl dX10_buy_38 (fun x8 m7 hm => ?_)
      refine g_isub dX10_buy_41 ?_
      refine g_istoreBn_3 hm dX10_buy_42 rfl (fun x9 hm => ?_)
      refine g_iloadn_3 dX10_buy_43 ?_
      refine g_if_ge 49 hm dX10_buy_44 (by decide) (fun hm => ?_) (fun hm => ?_)
      · refine g_aloadn_0 dX10_buy_49 ?_
        refine g_getr (q := 16) fo_10_6 pn_0 pc_0 rfl rfl dX10_buy_50 ?_
        refine g_aloadn_0 dX10_buy_53 ?_
        refine g_getr (q := 3) fo_10_1 pn_0 pc_0 rfl rfl dX10_buy_54 ?_
        refine g_v1V hm (fun _ h => c_X7_remember h) pn_16 (pc_16 _ _) rfl ce_X7_remember lk_X10_189 rfl rfl dX10_buy_57 (fun m10 hm => ?_)
        refine g_aloadn_0 dX10_buy_60 ?_
        refine g_getr (q := 3) fo_10_1 pn_0 pc_0 rfl rfl dX10_buy_61 ?_
        refine g_bipush 99 dX10_buy_64 rfl ?_
        refine g_iloadn_3 dX10_buy_66 ?_
        refine g_v2V hm (fun _ h => c_X0_put cty_3 h) pn_3 (pc_3 _ _) rfl ce_X0_put lk_X10_204 rfl rfl dX10_buy_67 (fun m11 hm => ?_)
        refine g_aloadn_0 dX10_buy_70 ?_
        refine g_getr (q := 3) fo_10_1 pn_0 pc_0 rfl rfl dX10_buy_71 ?_
        refine g_iloadn_1 dX10_buy_74 ?_
        refine g_iloadn_2 dX10_buy_75 ?_
        refine g_v2V hm (fun _ h => c_X0_makeRight cty_3 h) pn_3 (pc_3 _ _) rfl ce_X0_makeRight lk_X10_207 rfl rfl dX10_buy_76 (fun m12 hm => ?_)
        refine g_iloadn_3 dX10_buy_79 ?_
        exact g_iret hm dX10_buy_80
      · refine g_iconst (-1) dX10_buy_47 rfl ?_
        exact g_iret hm dX10_buy_48
    · refine g_iconst (-1) dX10_buy_21 rfl ?_
      exact g_iret hm dX10_buy_22
def f_X10_spreadFever_L2  : (Sg × Int32) → Option (((Sg)) ⊕ (Sg × Int32)) := fun s => match s with
  | (m1, x2) => 
  cal (f_X0_children 4 m1) (fun x7 m6 => (if x7 ≤ x2 then some (.inl m6) else
  cal (f_X10_draw m6 100) (fun x9 m8 => bnd (fun (m10 : Sg) => bnd (x2 + 1) (fun x12 => some (.inr (m10, x12)))) (fun (k11 : Sg → Option (((Sg)) ⊕ (Sg × Int32))) =>
  (if (m8.1 0 9) ≤ x9 then k11 m8 else
  calv (f_X0_setBit 4 m8 x2 1 7 0) (fun m13 => k11 m13))))))
def f_X10_spreadFever  (m : Sg)  : Option (Sg) :=
  lpk (f_X10_spreadFever_L2) (m, 0) (fun m3 => some m3)
set_option maxRecDepth 4000 in
theorem c_X10_spreadFever {g : Cf} {m mm : Sg} (hm : f_X10_spreadFever  m  = some mm) : Cl g 2 yX10_spreadFever cX10_spreadFever 2 none [.ref (g.ad 0)] m none mm := by
  refine cl_of (by decide) (Nat.le_of_ble_eq_true rfl) (vs := [some (.ref (g.ad 0)), none]) rfl rfl ?_
  show GX g 2 RX10 cX10_spreadFever 2 none none mm 0 _ [] m
  unfold f_X10_spreadFever at hm
  refine g_iconst 0 dX10_spreadFever_0 rfl ?_
  refine g_istoren_1 dX10_spreadFever_1 rfl ?_
  refine g_lp (I := fun (s : Sg × Int32) => GX g 2 RX10 cX10_spreadFever 2 none none mm 2 [some (.ref (g.ad 0)), some (.int (s.2))] [] s.1) (E := fun (s : Sg) => GX g 2 RX10 cX10_spreadFever 2 none none mm 44 [none, none] [] s) hm ?_ ?_
  · rintro m3 hm
    (try dsimp only at hm)
    (try dsimp only)
    exact g_vret hm dX10_spreadFever_44
  · rintro ⟨m1, x2⟩ o hm hx5 hi4
    (try dsimp only [f_X10_spreadFever_L2] at hm)
    (try dsimp only)
    refine g_iloadn_1 dX10_spreadFever_2 ?_
    refine g_aloadn_0 dX10_spreadFever_3 ?_
    refine g_getr (q := 3) fo_10_1 pn_0 pc_0 rfl rfl dX10_spreadFever_4 ?_
    refine g_v0 hm (fun _ _ h => c_X0_children cty_3 h) pn_3 (pc_3 _ _) rfl ce_X0_children lk_X10_101 rfl rfl dX10_spreadFever_7 (fun x7 m6 hm => ?_)
    refine g_icmp_ge 44 hm dX10_spreadFever_10 (by decide) (fun hm => ?_) (fun hm => ?_)
    · refine g_weak (vs' := [none, none]) trivial ?_
      cases hm
      exact hx5 _ rfl
    · refine g_aloadn_0 dX10_spreadFever_13 ?_
      refine g_bipush 100 dX10_spreadFever_14 rfl ?_
      refine g_v1 hm (fun _ _ h => c_X10_draw h) pn_0 (pc_0 _ _) rfl ce_X10_draw lk_X10_246 rfl rfl dX10_spreadFever_16 (fun x9 m8 hm => ?_)
      refine g_aloadn_0 dX10_spreadFever_19 ?_
      refine g_geti fo_10_9 pn_0 pc_0 rfl dX10_spreadFever_20 ?_
      refine g_jn (J := fun (s : Sg) => GX g 2 RX10 cX10_spreadFever 2 none none mm 38 [some (.ref (g.ad 0)), some (.int x2)] [] s) hm ?_ ?_
      · intro m10 hm
        refine g_iinc_1 1 hm dX10_spreadFever_38 rfl rfl (fun x12 hm => ?_)
        refine g_goto 2 dX10_spreadFever_41 (by decide) ?_
        cases hm
        exact hi4 _ rfl
      · intro k11 hk11 hm
        refine g_icmp_ge 38 hm dX10_spreadFever_23 (by decide) (fun hm => ?_) (fun hm => ?_)
        · exact hk11 _ hm
        · refine g_aloadn_0 dX10_spreadFever_26 ?_
          refine g_getr (q := 3) fo_10_1 pn_0 pc_0 rfl rfl dX10_spreadFever_27 ?_
          refine g_iloadn_1 dX10_spreadFever_30 ?_
          refine g_iconst 1 dX10_spreadFever_31 rfl ?_
          refine g_bipush 7 dX10_spreadFever_32 rfl ?_
          refine g_iconst 0 dX10_spreadFever_34 rfl ?_
          refine g_v4V hm (fun _ h => c_X0_setBit cty_3 h) pn_3 (pc_3 _ _) rfl ce_X0_setBit lk_X10_196 rfl rfl dX10_spreadFever_35 (fun m13 hm => ?_)
          exact hk11 _ hm
def f_X10_ahead (nl : Nat) (ln : Nat → Nat)  (m : Sg) (a1 : Int32) (a2 : Int32) : Option (Int32 × Sg) :=
  cal (f_X0_isTold 4 m) (fun x2 m1 => (if x2 = 0 then some ((-1000000), m1) else
  (if a1 < 0 then some ((-1000000), m1) else
  (if 60 < a1 then some ((-1000000), m1) else
  cal (f_X10_isOneOfTwo m1 a2) (fun x4 m3 => (if x4 = 0 then some ((-1000000), m3) else
  cal (f_X5_holding m3) (fun x6 m5 => calv (f_X3_goOn nl ln m5 a1 x6) (fun m7 => (if a2 = 0 then cal (f_X0_ruler 6 m7) (fun x11 m10 => some (x11, m10)) else
  cal (f_X0_cell 6 m7 99) (fun x9 m8 => some (x9, m8)))))))))))
set_option maxRecDepth 4000 in
theorem c_X10_ahead {g : Cf} {m mm : Sg} {r : Int32} {a1 : Int32} {a2 : Int32} (H4 : g.nl ≤ 4) (HX : XOK g) (hm : f_X10_ahead g.nl g.ln  m a1 a2 = some (r, mm)) : Cl g 8 yX10_ahead cX10_ahead 3 (some .int) [.ref (g.ad 0), .int a1, .int a2] m (some (.int r)) mm := by
  refine cl_of (by decide) (Nat.le_of_ble_eq_true rfl) (vs := [some (.ref (g.ad 0)), some (.int a1), some (.int a2)]) rfl rfl ?_
  show GX g 8 RX10 cX10_ahead 3 (some .int) (some (.int r)) mm 0 _ [] m
  unfold f_X10_ahead at hm
  refine g_aloadn_0 dX10_ahead_0 ?_
  refine g_getr (q := 3) fo_10_1 pn_0 pc_0 rfl rfl dX10_ahead_1 ?_
  refine g_v0 hm (fun _ _ h => c_X0_isTold cty_3 h) pn_3 (pc_3 _ _) rfl ce_X0_isTold lk_X10_139 rfl rfl dX10_ahead_4 (fun x2 m1 hm => ?_)
  refine g_if_eq 27 hm dX10_ahead_7 (by decide) (fun hm => ?_) (fun hm => ?_)
  · refine g_ldc dX10_ahead_27 ck_X10_165 ?_
    exact g_iret hm dX10_ahead_29
  · refine g_iloadn_1 dX10_ahead_10 ?_
    refine g_if_lt 27 hm dX10_ahead_11 (by decide) (fun hm => ?_) (fun hm => ?_)
    · refine g_ldc dX10_ahead_27 ck_X10_165 ?_
      exact g_iret hm dX10_ahead_29
    · refine g_iloadn_1 dX10_ahead_14 ?_
      refine g_bipush 60 dX10_ahead_15 rfl ?_
      refine g_icmp_gt 27 hm dX10_ahead_17 (by decide) (fun hm => ?_) (fun hm => ?_)
      · refine g_ldc dX10_ahead_27 ck_X10_165 ?_
        exact g_iret hm dX10_ahead_29
      · refine g_iloadn_2 dX10_ahead_20 ?_
        refine g_s1 hm (fun _ _ h => c_X10_isOneOfTwo h) ce_X10_isOneOfTwo lk_X10_253 rfl rfl dX10_ahead_21 (fun x4 m3 hm => ?_)
        refine g_if_ne 30 hm dX10_ahead_24 (by decide) (fun hm => ?_) (fun hm => ?_)
        · refine g_aloadn_0 dX10_ahead_30 ?_
          refine g_getr (q := 23) fo_10_8 pn_0 pc_0 rfl rfl dX10_ahead_31 ?_
          refine g_iloadn_1 dX10_ahead_34 ?_
          refine g_aloadn_0 dX10_ahead_35 ?_
          refine g_getr (q := 13) fo_10_5 pn_0 pc_0 rfl rfl dX10_ahead_36 ?_
          refine g_v0 hm (fun _ _ h => c_X5_holding h) pn_13 (pc_13 _ _) rfl ce_X5_holding lk_X10_122 rfl rfl dX10_ahead_39 (fun x6 m5 hm => ?_)
          refine g_v2V hm (fun _ h => c_X3_goOn H4 HX h) pn_23 (pc_23 _ _) rfl ce_X3_goOn lk_X10_256 rfl rfl dX10_ahead_42 (fun m7 hm => ?_)
          refine g_iloadn_2 dX10_ahead_45 ?_
          refine g_if_ne 59 hm dX10_ahead_46 (by decide) (fun hm => ?_) (fun hm => ?_)
          · refine g_aloadn_0 dX10_ahead_59 ?_
            refine g_getr (q := 5) fo_10_2 pn_0 pc_0 rfl rfl dX10_ahead_60 ?_
            refine g_bipush 99 dX10_ahead_63 rfl ?_
            refine g_v1 hm (fun _ _ h => c_X0_cell cty_5 h) pn_5 (pc_5 _ _) rfl ce_X0_cell lk_X10_142 rfl rfl dX10_ahead_65 (fun x9 m8 hm => ?_)
            exact g_iret hm dX10_ahead_68
          · refine g_aloadn_0 dX10_ahead_49 ?_
            refine g_getr (q := 5) fo_10_2 pn_0 pc_0 rfl rfl dX10_ahead_50 ?_
            refine g_v0 hm (fun _ _ h => c_X0_ruler cty_5 h) pn_5 (pc_5 _ _) rfl ce_X0_ruler lk_X10_173 rfl rfl dX10_ahead_53 (fun x11 m10 hm => ?_)
            refine g_goto 68 dX10_ahead_56 (by decide) ?_
            exact g_iret hm dX10_ahead_68
        · refine g_ldc dX10_ahead_27 ck_X10_165 ?_
          exact g_iret hm dX10_ahead_29
def f_X10_reign  (m : Sg) (a1 : Int32) (a2 : Int32) (a3 : Int32) : Option (Int32 × Sg) :=
  cal (f_X0_isTold 4 m) (fun x2 m1 => (if x2 = 0 then some ((-1), m1) else
  (if a2 < 1 then some ((-1), m1) else
  (if 60 < a2 then some ((-1), m1) else
  cal (f_X10_isOneOfTwo m1 a3) (fun x4 m3 => (if x4 = 0 then some ((-1), m3) else
  (if a3 = 0 then cal (f_X0_hasChild 4 m3 a1) (fun x10 m9 => (if x10 = 0 then some ((-1), m9) else
  cal (f_X3_reignOfChild m9 a1 a2) (fun x12 m11 => some (x12, m11)))) else
  cal (f_X0_isNursery m3 a1) (fun x6 m5 => (if x6 = 0 then some ((-1), m5) else
  cal (f_X3_reignOfNursery m5 a1 a2) (fun x8 m7 => some (x8, m7)))))))))))
set_option maxRecDepth 4000 in
theorem c_X10_reign {g : Cf} {m mm : Sg} {r : Int32} {a1 : Int32} {a2 : Int32} {a3 : Int32} (hm : f_X10_reign  m a1 a2 a3 = some (r, mm)) : Cl g 6 yX10_reign cX10_reign 4 (some .int) [.ref (g.ad 0), .int a1, .int a2, .int a3] m (some (.int r)) mm := by
  refine cl_of (by decide) (Nat.le_of_ble_eq_true rfl) (vs := [some (.ref (g.ad 0)), some (.int a1), some (.int a2), some (.int a3)]) rfl rfl ?_
  show GX g 6 RX10 cX10_reign 4 (some .int) (some (.int r)) mm 0 _ [] m
  unfold f_X10_reign at hm
  refine g_aloadn_0 dX10_reign_0 ?_
  refine g_getr (q := 3) fo_10_1 pn_0 pc_0 rfl rfl dX10_reign_1 ?_
  refine g_v0 hm (fun _ _ h => c_X0_isTold cty_3 h) pn_3 (pc_3 _ _) rfl ce_X0_isTold lk_X10_139 rfl rfl dX10_reign_4 (fun x2 m1 hm => ?_)
  refine g_if_eq 28 hm dX10_reign_7 (by decide) (fun hm => ?_) (fun hm => ?_)
  · refine g_iconst (-1) dX10_reign_28 rfl ?_
    exact g_iret hm dX10_reign_29
  · refine g_iloadn_2 dX10_reign_10 ?_
    refine g_iconst 1 dX10_reign_11 rfl ?_
    refine g_icmp_lt 28 hm dX10_reign_12 (by decide) (fun hm => ?_) (fun hm => ?_)
    · refine g_iconst (-1) dX10_reign_28 rfl ?_
      exact g_iret hm dX10_reign_29
    · refine g_iloadn_2 dX10_reign_15 ?_
      refine g_bipush 60 dX10_reign_16 rfl ?_
      refine g_icmp_gt 28 hm dX10_reign_18 (by decide) (fun hm => ?_) (fun hm => ?_)
      · refine g_iconst (-1) dX10_reign_28 rfl ?_
        exact g_iret hm dX10_reign_29
      · refine g_iloadn_3 dX10_reign_21 ?_
        refine g_s1 hm (fun _ _ h => c_X10_isOneOfTwo h) ce_X10_isOneOfTwo lk_X10_253 rfl rfl dX10_reign_22 (fun x4 m3 hm => ?_)
        refine g_if_ne 30 hm dX10_reign_25 (by decide) (fun hm => ?_) (fun hm => ?_)
        · refine g_iloadn_3 dX10_reign_30 ?_
          refine g_if_ne 59 hm dX10_reign_31 (by decide) (fun hm => ?_) (fun hm => ?_)
          · refine g_iloadn_1 dX10_reign_59 ?_
            refine g_s1 hm (fun _ _ h => c_X0_isNursery h) ce_X0_isNursery lk_X10_262 rfl rfl dX10_reign_60 (fun x6 m5 hm => ?_)
            refine g_if_eq 78 hm dX10_reign_63 (by decide) (fun hm => ?_) (fun hm => ?_)
            · refine g_iconst (-1) dX10_reign_78 rfl ?_
              exact g_iret hm dX10_reign_79
            · refine g_aloadn_0 dX10_reign_66 ?_
              refine g_getr (q := 23) fo_10_8 pn_0 pc_0 rfl rfl dX10_reign_67 ?_
              refine g_iloadn_1 dX10_reign_70 ?_
              refine g_iloadn_2 dX10_reign_71 ?_
              refine g_v2 hm (fun _ _ h => c_X3_reignOfNursery h) pn_23 (pc_23 _ _) rfl ce_X3_reignOfNursery lk_X10_265 rfl rfl dX10_reign_72 (fun x8 m7 hm => ?_)
              refine g_goto 79 dX10_reign_75 (by decide) ?_
              exact g_iret hm dX10_reign_79
          · refine g_aloadn_0 dX10_reign_34 ?_
            refine g_getr (q := 3) fo_10_1 pn_0 pc_0 rfl rfl dX10_reign_35 ?_
            refine g_iloadn_1 dX10_reign_38 ?_
            refine g_v1 hm (fun _ _ h => c_X0_hasChild cty_3 h) pn_3 (pc_3 _ _) rfl ce_X0_hasChild lk_X10_112 rfl rfl dX10_reign_39 (fun x10 m9 hm => ?_)
            refine g_if_eq 57 hm dX10_reign_42 (by decide) (fun hm => ?_) (fun hm => ?_)
            · refine g_iconst (-1) dX10_reign_57 rfl ?_
              exact g_iret hm dX10_reign_58
            · refine g_aloadn_0 dX10_reign_45 ?_
              refine g_getr (q := 23) fo_10_8 pn_0 pc_0 rfl rfl dX10_reign_46 ?_
              refine g_iloadn_1 dX10_reign_49 ?_
              refine g_iloadn_2 dX10_reign_50 ?_
              refine g_v2 hm (fun _ _ h => c_X3_reignOfChild h) pn_23 (pc_23 _ _) rfl ce_X3_reignOfChild lk_X10_259 rfl rfl dX10_reign_51 (fun x12 m11 hm => ?_)
              refine g_goto 58 dX10_reign_54 (by decide) ?_
              exact g_iret hm dX10_reign_58
        · refine g_iconst (-1) dX10_reign_28 rfl ?_
          exact g_iret hm dX10_reign_29
def f_X10_keepers  (m : Sg) (a1 : Int32) (a2 : Int32) (a3 : Int32) : Option (Int32 × Sg) :=
  cal (f_X10_hasChildAndTen m a1 a2) (fun x2 m1 => (if x2 = 0 then some ((-1), m1) else
  (if a3 < 1 then some ((-1), m1) else
  (if a3 ≤ 12 then cal (f_X3_fewestKept m1 a1 a2 a3) (fun x4 m3 => some (x4, m3)) else
  some ((-1), m1)))))
set_option maxRecDepth 4000 in
theorem c_X10_keepers {g : Cf} {m mm : Sg} {r : Int32} {a1 : Int32} {a2 : Int32} {a3 : Int32} (hm : f_X10_keepers  m a1 a2 a3 = some (r, mm)) : Cl g 7 yX10_keepers cX10_keepers 4 (some .int) [.ref (g.ad 0), .int a1, .int a2, .int a3] m (some (.int r)) mm := by
  refine cl_of (by decide) (Nat.le_of_ble_eq_true rfl) (vs := [some (.ref (g.ad 0)), some (.int a1), some (.int a2), some (.int a3)]) rfl rfl ?_
  show GX g 7 RX10 cX10_keepers 4 (some .int) (some (.int r)) mm 0 _ [] m
  unfold f_X10_keepers at hm
  refine g_aloadn_0 dX10_keepers_0 ?_
  refine g_iloadn_1 dX10_keepers_1 ?_
  refine g_iloadn_2 dX10_keepers_2 ?_
  refine g_v2 hm (fun _ _ h => c_X10_hasChildAndTen h) pn_0 (pc_0 _ _) rfl ce_X10_hasChildAndTen lk_X10_179 rfl rfl dX10_keepers_3 (fun x2 m1 hm => ?_)
  refine g_if_eq 20 hm dX10_keepers_6 (by decide) (fun hm => ?_) (fun hm => ?_)
  · refine g_iconst (-1) dX10_keepers_20 rfl ?_
    exact g_iret hm dX10_keepers_21
  · refine g_iloadn_3 dX10_keepers_9 ?_
    refine g_iconst 1 dX10_keepers_10 rfl ?_
    refine g_icmp_lt 20 hm dX10_keepers_11 (by decide) (fun hm => ?_) (fun hm => ?_)
    · refine g_iconst (-1) dX10_keepers_20 rfl ?_
      exact g_iret hm dX10_keepers_21
    · refine g_iloadn_3 dX10_keepers_14 ?_
      refine g_bipush 12 dX10_keepers_15 rfl ?_
      refine g_icmp_le 22 hm dX10_keepers_17 (by decide) (fun hm => ?_) (fun hm => ?_)
      · refine g_aloadn_0 dX10_keepers_22 ?_
        refine g_getr (q := 23) fo_10_8 pn_0 pc_0 rfl rfl dX10_keepers_23 ?_
        refine g_iloadn_1 dX10_keepers_26 ?_
        refine g_iloadn_2 dX10_keepers_27 ?_
        refine g_iloadn_3 dX10_keepers_28 ?_
        refine g_v3 hm (fun _ _ h => c_X3_fewestKept h) pn_23 (pc_23 _ _) rfl ce_X3_fewestKept lk_X10_280 rfl rfl dX10_keepers_29 (fun x4 m3 hm => ?_)
        exact g_iret hm dX10_keepers_32
      · refine g_iconst (-1) dX10_keepers_20 rfl ?_
        exact g_iret hm dX10_keepers_21
def f_X10_duel  (m : Sg) (a1 : Int32) (a2 : Int32) (a3 : Int32) (a4 : Int32) : Option (Int32 × Sg) :=
  cal (f_X10_areTwoNurseries m a1 a2) (fun x2 m1 => (if x2 = 0 then some ((-1000000), m1) else
  cal (f_X0_isOfNursery 4 m1 a3 a1) (fun x4 m3 => (if x4 = 0 then some ((-1000000), m3) else
  cal (f_X0_isOfNursery 4 m3 a4 a2) (fun x6 m5 => (if x6 = 0 then some ((-1000000), m5) else
  cal (f_X3_gain m5 a3 a4) (fun x8 m7 => some (x8, m7))))))))
set_option maxRecDepth 4000 in
theorem c_X10_duel {g : Cf} {m mm : Sg} {r : Int32} {a1 : Int32} {a2 : Int32} {a3 : Int32} {a4 : Int32} (hm : f_X10_duel  m a1 a2 a3 a4 = some (r, mm)) : Cl g 6 yX10_duel cX10_duel 5 (some .int) [.ref (g.ad 0), .int a1, .int a2, .int a3, .int a4] m (some (.int r)) mm := by
  refine cl_of (by decide) (Nat.le_of_ble_eq_true rfl) (vs := [some (.ref (g.ad 0)), some (.int a1), some (.int a2), some (.int a3), some (.int a4)]) rfl rfl ?_
  show GX g 6 RX10 cX10_duel 5 (some .int) (some (.int r)) mm 0 _ [] m
  unfold f_X10_duel at hm
  refine g_iloadn_1 dX10_duel_0 ?_
  refine g_iloadn_2 dX10_duel_1 ?_
  refine g_s2 hm (fun _ _ h => c_X10_areTwoNurseries h) ce_X10_areTwoNurseries lk_X10_284 rfl rfl dX10_duel_2 (fun x2 m1 hm => ?_)
  refine g_if_eq 33 hm dX10_duel_5 (by decide) (fun hm => ?_) (fun hm => ?_)
  · refine g_ldc dX10_duel_33 ck_X10_165 ?_
    exact g_iret hm dX10_duel_35
  · refine g_aloadn_0 dX10_duel_8 ?_
    refine g_getr (q := 3) fo_10_1 pn_0 pc_0 rfl rfl dX10_duel_9 ?_
    refine g_iloadn_3 dX10_duel_12 ?_
    refine g_iloadn_1 dX10_duel_13 ?_
    refine g_v2 hm (fun _ _ h => c_X0_isOfNursery cty_3 h) pn_3 (pc_3 _ _) rfl ce_X0_isOfNursery lk_X10_287 rfl rfl dX10_duel_14 (fun x4 m3 hm => ?_)
    refine g_if_eq 33 hm dX10_duel_17 (by decide) (fun hm => ?_) (fun hm => ?_)
    · refine g_ldc dX10_duel_33 ck_X10_165 ?_
      exact g_iret hm dX10_duel_35
    · refine g_aloadn_0 dX10_duel_20 ?_
      refine g_getr (q := 3) fo_10_1 pn_0 pc_0 rfl rfl dX10_duel_21 ?_
      refine g_iload_4 dX10_duel_24 ?_
      refine g_iloadn_2 dX10_duel_26 ?_
      refine g_v2 hm (fun _ _ h => c_X0_isOfNursery cty_3 h) pn_3 (pc_3 _ _) rfl ce_X0_isOfNursery lk_X10_287 rfl rfl dX10_duel_27 (fun x6 m5 hm => ?_)
      refine g_if_ne 36 hm dX10_duel_30 (by decide) (fun hm => ?_) (fun hm => ?_)
      · refine g_aloadn_0 dX10_duel_36 ?_
        refine g_getr (q := 23) fo_10_8 pn_0 pc_0 rfl rfl dX10_duel_37 ?_
        refine g_iloadn_3 dX10_duel_40 ?_
        refine g_iload_4 dX10_duel_41 ?_
        refine g_v2 hm (fun _ _ h => c_X3_gain h) pn_23 (pc_23 _ _) rfl ce_X3_gain lk_X10_290 rfl rfl dX10_duel_43 (fun x8 m7 hm => ?_)
        exact g_iret hm dX10_duel_46
      · refine g_ldc dX10_duel_33 ck_X10_165 ?_
        exact g_iret hm dX10_duel_35
def f_X10_rests  (m : Sg) (a1 : Int32) (a2 : Int32) (a3 : Int32) : Option (Int32 × Sg) :=
  cal (f_X0_isTold 4 m) (fun x2 m1 => (if x2 = 0 then some ((-1), m1) else
  cal (f_X10_areTwoNurseries m1 a1 a2) (fun x4 m3 => (if x4 = 0 then some ((-1), m3) else
  (if (-1) ≤ a3 then calv (f_X3_weighAll m3 a1 a2) (fun m5 => cal (f_X3_restAt m5 a1 a2 a3) (fun x7 m6 => some (x7, m6))) else
  some ((-1), m3))))))
set_option maxRecDepth 4000 in
theorem c_X10_rests {g : Cf} {m mm : Sg} {r : Int32} {a1 : Int32} {a2 : Int32} {a3 : Int32} (hm : f_X10_rests  m a1 a2 a3 = some (r, mm)) : Cl g 7 yX10_rests cX10_rests 4 (some .int) [.ref (g.ad 0), .int a1, .int a2, .int a3] m (some (.int r)) mm := by
  refine cl_of (by decide) (Nat.le_of_ble_eq_true rfl) (vs := [some (.ref (g.ad 0)), some (.int a1), some (.int a2), some (.int a3)]) rfl rfl ?_
  show GX g 7 RX10 cX10_rests 4 (some .int) (some (.int r)) mm 0 _ [] m
  unfold f_X10_rests at hm
  refine g_aloadn_0 dX10_rests_0 ?_
  refine g_getr (q := 3) fo_10_1 pn_0 pc_0 rfl rfl dX10_rests_1 ?_
  refine g_v0 hm (fun _ _ h => c_X0_isTold cty_3 h) pn_3 (pc_3 _ _) rfl ce_X0_isTold lk_X10_139 rfl rfl dX10_rests_4 (fun x2 m1 hm => ?_)
  refine g_if_eq 23 hm dX10_rests_7 (by decide) (fun hm => ?_) (fun hm => ?_)
  · refine g_iconst (-1) dX10_rests_23 rfl ?_
    exact g_iret hm dX10_rests_24
  · refine g_iloadn_1 dX10_rests_10 ?_
    refine g_iloadn_2 dX10_rests_11 ?_
    refine g_s2 hm (fun _ _ h => c_X10_areTwoNurseries h) ce_X10_areTwoNurseries lk_X10_284 rfl rfl dX10_rests_12 (fun x4 m3 hm => ?_)
    refine g_if_eq 23 hm dX10_rests_15 (by decide) (fun hm => ?_) (fun hm => ?_)
    · refine g_iconst (-1) dX10_rests_23 rfl ?_
      exact g_iret hm dX10_rests_24
    · refine g_iloadn_3 dX10_rests_18 ?_
      refine g_iconst (-1) dX10_rests_19 rfl ?_
      refine g_icmp_ge 25 hm dX10_rests_20 (by decide) (fun hm => ?_) (fun hm => ?_)
      · refine g_aloadn_0 dX10_rests_25 ?_
        refine g_getr (q := 23) fo_10_8 pn_0 pc_0 rfl rfl dX10_rests_26 ?_
        refine g_iloadn_1 dX10_rests_29 ?_
        refine g_iloadn_2 dX10_rests_30 ?_
        refine g_v2V hm (fun _ h => c_X3_weighAll h) pn_23 (pc_23 _ _) rfl ce_X3_weighAll lk_X10_293 rfl rfl dX10_rests_31 (fun m5 hm => ?_)
        refine g_aloadn_0 dX10_rests_34 ?_
        refine g_getr (q := 23) fo_10_8 pn_0 pc_0 rfl rfl dX10_rests_35 ?_
        refine g_iloadn_1 dX10_rests_38 ?_
        refine g_iloadn_2 dX10_rests_39 ?_
        refine g_iloadn_3 dX10_rests_40 ?_
        refine g_v3 hm (fun _ _ h => c_X3_restAt h) pn_23 (pc_23 _ _) rfl ce_X3_restAt lk_X10_296 rfl rfl dX10_rests_41 (fun x7 m6 hm => ?_)
        exact g_iret hm dX10_rests_44
      · refine g_iconst (-1) dX10_rests_23 rfl ?_
        exact g_iret hm dX10_rests_24
def f_X10_richest (nl : Nat) (ln : Nat → Nat)  (m : Sg) (a1 : Int32) (a2 : Int32) : Option (Int32 × Sg) :=
  cal (f_X0_isTold 4 m) (fun x2 m1 => (if x2 = 0 then some ((-1000000), m1) else
  (if a1 < 1 then some ((-1000000), m1) else
  (if 24 < a1 then some ((-1000000), m1) else
  cal (f_X10_isOneOfTwo m1 a2) (fun x4 m3 => (if x4 = 0 then some ((-1000000), m3) else
  calv (f_X3_seekLaw nl ln m3 a1) (fun m5 => (if a2 = 0 then cal (f_X3_bestLaw m5) (fun x9 m8 => some (x9, m8)) else
  cal (f_X3_bestTreasury m5) (fun x7 m6 => some (x7, m6))))))))))
set_option maxRecDepth 4000 in
theorem c_X10_richest {g : Cf} {m mm : Sg} {r : Int32} {a1 : Int32} {a2 : Int32} (H4 : g.nl ≤ 4) (HX : XOK g) (hm : f_X10_richest g.nl g.ln  m a1 a2 = some (r, mm)) : Cl g 9 yX10_richest cX10_richest 3 (some .int) [.ref (g.ad 0), .int a1, .int a2] m (some (.int r)) mm := by
  refine cl_of (by decide) (Nat.le_of_ble_eq_true rfl) (vs := [some (.ref (g.ad 0)), some (.int a1), some (.int a2)]) rfl rfl ?_
  show GX g 9 RX10 cX10_richest 3 (some .int) (some (.int r)) mm 0 _ [] m
  unfold f_X10_richest at hm
  refine g_aloadn_0 dX10_richest_0 ?_
  refine g_getr (q := 3) fo_10_1 pn_0 pc_0 rfl rfl dX10_richest_1 ?_
  refine g_v0 hm (fun _ _ h => c_X0_isTold cty_3 h) pn_3 (pc_3 _ _) rfl ce_X0_isTold lk_X10_139 rfl rfl dX10_richest_4 (fun x2 m1 hm => ?_)
  refine g_if_eq 28 hm dX10_richest_7 (by decide) (fun hm => ?_) (fun hm => ?_)
  · refine g_ldc dX10_richest_28 ck_X10_165 ?_
    exact g_iret hm dX10_richest_30
  · refine g_iloadn_1 dX10_richest_10 ?_
    refine g_iconst 1 dX10_richest_11 rfl ?_
    refine g_icmp_lt 28 hm dX10_richest_12 (by decide) (fun hm => ?_) (fun hm => ?_)
    · refine g_ldc dX10_richest_28 ck_X10_165 ?_
      exact g_iret hm dX10_richest_30
    · refine g_iloadn_1 dX10_richest_15 ?_
      refine g_bipush 24 dX10_richest_16 rfl ?_
      refine g_icmp_gt 28 hm dX10_richest_18 (by decide) (fun hm => ?_) (fun hm => ?_)
      · refine g_ldc dX10_richest_28 ck_X10_165 ?_
        exact g_iret hm dX10_richest_30
      · refine g_iloadn_2 dX10_richest_21 ?_
        refine g_s1 hm (fun _ _ h => c_X10_isOneOfTwo h) ce_X10_isOneOfTwo lk_X10_253 rfl rfl dX10_richest_22 (fun x4 m3 hm => ?_)
        refine g_if_ne 31 hm dX10_richest_25 (by decide) (fun hm => ?_) (fun hm => ?_)
        · refine g_aloadn_0 dX10_richest_31 ?_
          refine g_getr (q := 23) fo_10_8 pn_0 pc_0 rfl rfl dX10_richest_32 ?_
          refine g_iloadn_1 dX10_richest_35 ?_
          refine g_v1V hm (fun _ h => c_X3_seekLaw H4 HX h) pn_23 (pc_23 _ _) rfl ce_X3_seekLaw lk_X10_302 rfl rfl dX10_richest_36 (fun m5 hm => ?_)
          refine g_iloadn_2 dX10_richest_39 ?_
          refine g_if_ne 53 hm dX10_richest_40 (by decide) (fun hm => ?_) (fun hm => ?_)
          · refine g_aloadn_0 dX10_richest_53 ?_
            refine g_getr (q := 23) fo_10_8 pn_0 pc_0 rfl rfl dX10_richest_54 ?_
            refine g_v0 hm (fun _ _ h => c_X3_bestTreasury h) pn_23 (pc_23 _ _) rfl ce_X3_bestTreasury lk_X10_308 rfl rfl dX10_richest_57 (fun x7 m6 hm => ?_)
            exact g_iret hm dX10_richest_60
          · refine g_aloadn_0 dX10_richest_43 ?_
            refine g_getr (q := 23) fo_10_8 pn_0 pc_0 rfl rfl dX10_richest_44 ?_
            refine g_v0 hm (fun _ _ h => c_X3_bestLaw h) pn_23 (pc_23 _ _) rfl ce_X3_bestLaw lk_X10_305 rfl rfl dX10_richest_47 (fun x9 m8 hm => ?_)
            refine g_goto 60 dX10_richest_50 (by decide) ?_
            exact g_iret hm dX10_richest_60
        · refine g_ldc dX10_richest_28 ck_X10_165 ?_
          exact g_iret hm dX10_richest_30
def f_X10_peace  (m : Sg) (a1 : Int32) (a2 : Int32) : Option (Int32 × Sg) :=
  cal (f_X0_trier 4 m) (fun x2 m1 => (if x2 = (-1) then some ((-1), m1) else
  cal (f_X0_isNursery m1 a1) (fun x4 m3 => (if x4 = 0 then some ((-1), m3) else
  cal (f_X10_isOneOfTwo m3 a2) (fun x6 m5 => (if x6 = 0 then some ((-1), m5) else
  cal (f_X8_cheapest m5 a1 x2) (fun x8 m7 => bnd (fun (m9 : Sg) => some (x8, m9)) (fun (k10 : Sg → Option (Int32 × Sg)) =>
  (if x8 = (-1) then k10 m7 else
  (if a2 = 1 then k10 m7 else
  cal (f_X0_plumsToRule 4 m7 x8 x2) (fun x12 m11 => some (x12, m11))))))))))))
set_option maxRecDepth 4000 in
theorem c_X10_peace {g : Cf} {m mm : Sg} {r : Int32} {a1 : Int32} {a2 : Int32} (hm : f_X10_peace  m a1 a2 = some (r, mm)) : Cl g 6 yX10_peace cX10_peace 5 (some .int) [.ref (g.ad 0), .int a1, .int a2] m (some (.int r)) mm := by
  refine cl_of (by decide) (Nat.le_of_ble_eq_true rfl) (vs := [some (.ref (g.ad 0)), some (.int a1), some (.int a2), none, none]) rfl rfl ?_
  show GX g 6 RX10 cX10_peace 5 (some .int) (some (.int r)) mm 0 _ [] m
  unfold f_X10_peace at hm
  refine g_aloadn_0 dX10_peace_0 ?_
  refine g_getr (q := 3) fo_10_1 pn_0 pc_0 rfl rfl dX10_peace_1 ?_
  refine g_v0 hm (fun _ _ h => c_X0_trier cty_3 h) pn_3 (pc_3 _ _) rfl ce_X0_trier lk_X10_159 rfl rfl dX10_peace_4 (fun x2 m1 hm => ?_)
  refine g_istoren_3 dX10_peace_7 rfl ?_
  refine g_iloadn_3 dX10_peace_8 ?_
  refine g_iconst (-1) dX10_peace_9 rfl ?_
  refine g_icmp_eq 27 hm dX10_peace_10 (by decide) (fun hm => ?_) (fun hm => ?_)
  · refine g_iconst (-1) dX10_peace_27 rfl ?_
    exact g_iret hm dX10_peace_28
  · refine g_iloadn_1 dX10_peace_13 ?_
    refine g_s1 hm (fun _ _ h => c_X0_isNursery h) ce_X0_isNursery lk_X10_262 rfl rfl dX10_peace_14 (fun x4 m3 hm => ?_)
    refine g_if_eq 27 hm dX10_peace_17 (by decide) (fun hm => ?_) (fun hm => ?_)
    · refine g_iconst (-1) dX10_peace_27 rfl ?_
      exact g_iret hm dX10_peace_28
    · refine g_iloadn_2 dX10_peace_20 ?_
      refine g_s1 hm (fun _ _ h => c_X10_isOneOfTwo h) ce_X10_isOneOfTwo lk_X10_253 rfl rfl dX10_peace_21 (fun x6 m5 hm => ?_)
      refine g_if_ne 29 hm dX10_peace_24 (by decide) (fun hm => ?_) (fun hm => ?_)
      · refine g_aloadn_0 dX10_peace_29 ?_
        refine g_getr (q := 21) fo_10_7 pn_0 pc_0 rfl rfl dX10_peace_30 ?_
        refine g_iloadn_1 dX10_peace_33 ?_
        refine g_iloadn_3 dX10_peace_34 ?_
        refine g_v2 hm (fun _ _ h => c_X8_cheapest h) pn_21 (pc_21 _ _) rfl ce_X8_cheapest lk_X10_314 rfl rfl dX10_peace_35 (fun x8 m7 hm => ?_)
        refine g_istore_4 dX10_peace_38 rfl ?_
        refine g_iload_4 dX10_peace_40 ?_
        refine g_iconst (-1) dX10_peace_42 rfl ?_
        refine g_jn (J := fun (s : Sg) => GX g 6 RX10 cX10_peace 5 (some .int) (some (.int r)) mm 51 [none, none, none, none, some (.int x8)] [] s) hm ?_ ?_
        · intro m9 hm
          refine g_iload_4 dX10_peace_51 ?_
          refine g_goto 66 dX10_peace_53 (by decide) ?_
          exact g_iret hm dX10_peace_66
        · intro k10 hk10 hm
          refine g_icmp_eq 51 hm dX10_peace_43 (by decide) (fun hm => ?_) (fun hm => ?_)
          · refine g_weak (vs' := [none, none, none, none, some (.int x8)]) ⟨rfl, trivial⟩ ?_
            exact hk10 _ hm
          · refine g_iloadn_2 dX10_peace_46 ?_
            refine g_iconst 1 dX10_peace_47 rfl ?_
            refine g_icmp_ne 56 hm dX10_peace_48 (by decide) (fun hm => ?_) (fun hm => ?_)
            · refine g_aloadn_0 dX10_peace_56 ?_
              refine g_getr (q := 3) fo_10_1 pn_0 pc_0 rfl rfl dX10_peace_57 ?_
              refine g_iload_4 dX10_peace_60 ?_
              refine g_iloadn_3 dX10_peace_62 ?_
              refine g_v2 hm (fun _ _ h => c_X0_plumsToRule cty_3 h) pn_3 (pc_3 _ _) rfl ce_X0_plumsToRule lk_X10_317 rfl rfl dX10_peace_63 (fun x12 m11 hm => ?_)
              exact g_iret hm dX10_peace_66
            · refine g_weak (vs' := [none, none, none, none, some (.int x8)]) ⟨rfl, trivial⟩ ?_
              exact hk10 _ hm
      · refine g_iconst (-1) dX10_peace_27 rfl ?_
        exact g_iret hm dX10_peace_28
def f_X10_chain  (m : Sg) (a1 : Int32) : Option (Int32 × Sg) :=
  cal (f_X0_isTold 4 m) (fun x2 m1 => (if x2 = 0 then some ((-1), m1) else
  cal (f_X10_isOneOfTwo m1 a1) (fun x4 m3 => (if x4 = 0 then some ((-1), m3) else
  cal (f_X8_longestChain m3) (fun x6 m5 => (if a1 = 0 then cal (f_J6_bitCount_0f7a4 m5 x6) (fun x8 m7 => some (x8, m7)) else
  some (x6, m5)))))))
set_option maxRecDepth 4000 in
theorem c_X10_chain {g : Cf} {m mm : Sg} {r : Int32} {a1 : Int32} (hm : f_X10_chain  m a1 = some (r, mm)) : Cl g 6 yX10_chain cX10_chain 3 (some .int) [.ref (g.ad 0), .int a1] m (some (.int r)) mm := by
  refine cl_of (by decide) (Nat.le_of_ble_eq_true rfl) (vs := [some (.ref (g.ad 0)), some (.int a1), none]) rfl rfl ?_
  show GX g 6 RX10 cX10_chain 3 (some .int) (some (.int r)) mm 0 _ [] m
  unfold f_X10_chain at hm
  refine g_aloadn_0 dX10_chain_0 ?_
  refine g_getr (q := 3) fo_10_1 pn_0 pc_0 rfl rfl dX10_chain_1 ?_
  refine g_v0 hm (fun _ _ h => c_X0_isTold cty_3 h) pn_3 (pc_3 _ _) rfl ce_X0_isTold lk_X10_139 rfl rfl dX10_chain_4 (fun x2 m1 hm => ?_)
  refine g_if_eq 17 hm dX10_chain_7 (by decide) (fun hm => ?_) (fun hm => ?_)
  · refine g_iconst (-1) dX10_chain_17 rfl ?_
    exact g_iret hm dX10_chain_18
  · refine g_iloadn_1 dX10_chain_10 ?_
    refine g_s1 hm (fun _ _ h => c_X10_isOneOfTwo h) ce_X10_isOneOfTwo lk_X10_253 rfl rfl dX10_chain_11 (fun x4 m3 hm => ?_)
    refine g_if_ne 19 hm dX10_chain_14 (by decide) (fun hm => ?_) (fun hm => ?_)
    · refine g_aloadn_0 dX10_chain_19 ?_
      refine g_getr (q := 21) fo_10_7 pn_0 pc_0 rfl rfl dX10_chain_20 ?_
      refine g_v0 hm (fun _ _ h => c_X8_longestChain h) pn_21 (pc_21 _ _) rfl ce_X8_longestChain lk_X10_326 rfl rfl dX10_chain_23 (fun x6 m5 hm => ?_)
      refine g_istoren_2 dX10_chain_26 rfl ?_
      refine g_iloadn_1 dX10_chain_27 ?_
      refine g_if_ne 38 hm dX10_chain_28 (by decide) (fun hm => ?_) (fun hm => ?_)
      · refine g_iloadn_2 dX10_chain_38 ?_
        exact g_iret hm dX10_chain_39
      · refine g_iloadn_2 dX10_chain_31 ?_
        refine g_s1 hm (fun _ _ h => c_J6_bitCount_0f7a4 h) ce_J6_bitCount_0f7a4 lk_X10_329 rfl rfl dX10_chain_32 (fun x8 m7 hm => ?_)
        refine g_goto 39 dX10_chain_35 (by decide) ?_
        exact g_iret hm dX10_chain_39
    · refine g_iconst (-1) dX10_chain_17 rfl ?_
      exact g_iret hm dX10_chain_18
def f_X10_liveMonth (nl : Nat) (ln : Nat → Nat)  (m : Sg) (a1 : Int32) : Option (Sg) :=
  calv (f_X7_remember m) (fun m1 => calv (f_X0_beginMonth 4 m1) (fun m2 => bnd (fun (m3 : Sg) => cal (f_X0_trier 4 m3) (fun x6 m5 => calv (f_X0_crown 4 m5 x6) (fun m7 => cal (f_X0_ruler 4 m7) (fun x9 m8 => bnd (fun ((m10, x11) : Sg × Int32) => calv (f_X0_reignAndTake 4 m10 x11) (fun m13 => calv (f_X7_write m13 x6 x11) (fun m14 => some m14))) (fun (k12 : Sg × Int32 → Option (Sg)) =>
  (if x9 = (-1) then k12 (m8, 0) else
  cal (f_X0_ruler 4 m8) (fun x16 m15 => cal (f_X5_holding m15) (fun x18 m17 => cal (f_X5_taxOf nl ln 4 m17 x16 x18) (fun x20 m19 => k12 (m19, x20)))))))))) (fun (k4 : Sg → Option (Sg)) =>
  (if a1 = 0 then k4 m2 else
  calv (f_X10_spreadFever m2) (fun m21 => k4 m21)))))
set_option maxRecDepth 4000 in
theorem c_X10_liveMonth {g : Cf} {m mm : Sg} {a1 : Int32} (H4 : g.nl ≤ 4) (HX : XOK g) (hm : f_X10_liveMonth g.nl g.ln  m a1 = some mm) : Cl g 7 yX10_liveMonth cX10_liveMonth 4 none [.ref (g.ad 0), .int a1] m none mm := by
  refine cl_of (by decide) (Nat.le_of_ble_eq_true rfl) (vs := [some (.ref (g.ad 0)), some (.int a1), none, none]) rfl rfl ?_
  show GX g 7 RX10 cX10_liveMonth 4 none none mm 0 _ [] m
  unfold f_X10_liveMonth at hm
  refine g_aloadn_0 dX10_liveMonth_0 ?_
  refine g_getr (q := 16) fo_10_6 pn_0 pc_0 rfl rfl dX10_liveMonth_1 ?_
  refine g_aloadn_0 dX10_liveMonth_4 ?_
  refine g_getr (q := 3) fo_10_1 pn_0 pc_0 rfl rfl dX10_liveMonth_5 ?_
  refine g_v1V hm (fun _ h => c_X7_remember h) pn_16 (pc_16 _ _) rfl ce_X7_remember lk_X10_189 rfl rfl dX10_liveMonth_8 (fun m1 hm => ?_)
  refine g_aloadn_0 dX10_liveMonth_11 ?_
  refine g_getr (q := 3) fo_10_1 pn_0 pc_0 rfl rfl dX10_liveMonth_12 ?_
  refine g_v0V hm (fun _ h => c_X0_beginMonth cty_3 h) pn_3 (pc_3 _ _) rfl ce_X0_beginMonth lk_X10_230 rfl rfl dX10_liveMonth_15 (fun m2 hm => ?_)
  refine g_iloadn_1 dX10_liveMonth_18 ?_
  refine g_jn (J := fun (s : Sg) => GX g 7 RX10 cX10_liveMonth 4 none none mm 26 [some (.ref (g.ad 0)), none, none, none] [] s) hm ?_ ?_
  · intro m3 hm
    refine g_aloadn_0 dX10_liveMonth_26 ?_
    refine g_getr (q := 3) fo_10_1 pn_0 pc_0 rfl rfl dX10_liveMonth_27 ?_
    refine g_v0 hm (fun _ _ h => c_X0_trier cty_3 h) pn_3 (pc_3 _ _) rfl ce_X0_trier lk_X10_159 rfl rfl dX10_liveMonth_30 (fun x6 m5 hm => ?_)
    refine g_istoren_2 dX10_liveMonth_33 rfl ?_
    refine g_aloadn_0 dX10_liveMonth_34 ?_
    refine g_getr (q := 3) fo_10_1 pn_0 pc_0 rfl rfl dX10_liveMonth_35 ?_
    refine g_iloadn_2 dX10_liveMonth_38 ?_
    refine g_v1V hm (fun _ h => c_X0_crown cty_3 h) pn_3 (pc_3 _ _) rfl ce_X0_crown lk_X10_236 rfl rfl dX10_liveMonth_39 (fun m7 hm => ?_)
    refine g_aloadn_0 dX10_liveMonth_42 ?_
    refine g_getr (q := 3) fo_10_1 pn_0 pc_0 rfl rfl dX10_liveMonth_43 ?_
    refine g_v0 hm (fun _ _ h => c_X0_ruler cty_3 h) pn_3 (pc_3 _ _) rfl ce_X0_ruler lk_X10_173 rfl rfl dX10_liveMonth_46 (fun x9 m8 hm => ?_)
    refine g_iconst (-1) dX10_liveMonth_49 rfl ?_
    refine g_jn (J := fun (s : Sg × Int32) => GX g 7 RX10 cX10_liveMonth 4 none none mm 82 [some (.ref (g.ad 0)), none, some (.int x6), none] [.int (s.2)] s.1) hm ?_ ?_
    · rintro ⟨m10, x11⟩ hm
      (try dsimp only at hm)
      (try dsimp only)
      refine g_istoren_3 dX10_liveMonth_82 rfl ?_
      refine g_aloadn_0 dX10_liveMonth_83 ?_
      refine g_getr (q := 3) fo_10_1 pn_0 pc_0 rfl rfl dX10_liveMonth_84 ?_
      refine g_iloadn_3 dX10_liveMonth_87 ?_
      refine g_v1V hm (fun _ h => c_X0_reignAndTake cty_3 h) pn_3 (pc_3 _ _) rfl ce_X0_reignAndTake lk_X10_239 rfl rfl dX10_liveMonth_88 (fun m13 hm => ?_)
      refine g_aloadn_0 dX10_liveMonth_91 ?_
      refine g_getr (q := 16) fo_10_6 pn_0 pc_0 rfl rfl dX10_liveMonth_92 ?_
      refine g_aloadn_0 dX10_liveMonth_95 ?_
      refine g_getr (q := 3) fo_10_1 pn_0 pc_0 rfl rfl dX10_liveMonth_96 ?_
      refine g_iloadn_2 dX10_liveMonth_99 ?_
      refine g_iloadn_3 dX10_liveMonth_100 ?_
      refine g_v3V hm (fun _ h => c_X7_write h) pn_16 (pc_16 _ _) rfl ce_X7_write lk_X10_242 rfl rfl dX10_liveMonth_101 (fun m14 hm => ?_)
      exact g_vret hm dX10_liveMonth_104
    · intro k12 hk12 hm
      refine g_icmp_ne 57 hm dX10_liveMonth_50 (by decide) (fun hm => ?_) (fun hm => ?_)
      · refine g_aloadn_0 dX10_liveMonth_57 ?_
        refine g_getr (q := 13) fo_10_5 pn_0 pc_0 rfl rfl dX10_liveMonth_58 ?_
        refine g_aloadn_0 dX10_liveMonth_61 ?_
        refine g_getr (q := 3) fo_10_1 pn_0 pc_0 rfl rfl dX10_liveMonth_62 ?_
        refine g_aloadn_0 dX10_liveMonth_65 ?_
        refine g_getr (q := 3) fo_10_1 pn_0 pc_0 rfl rfl dX10_liveMonth_66 ?_
        refine g_v0 hm (fun _ _ h => c_X0_ruler cty_3 h) pn_3 (pc_3 _ _) rfl ce_X0_ruler lk_X10_173 rfl rfl dX10_liveMonth_69 (fun x16 m15 hm => ?_)
        refine g_aloadn_0 dX10_liveMonth_72 ?_
        refine g_getr (q := 13) fo_10_5 pn_0 pc_0 rfl rfl dX10_liveMonth_73 ?_
        refine g_v0 hm (fun _ _ h => c_X5_holding h) pn_13 (pc_13 _ _) rfl ce_X5_holding lk_X10_122 rfl rfl dX10_liveMonth_76 (fun x18 m17 hm => ?_)
        refine g_v3 hm (fun _ _ h => c_X5_taxOf H4 HX cty_3 h) pn_13 (pc_13 _ _) rfl ce_X5_taxOf lk_X10_125 rfl rfl dX10_liveMonth_79 (fun x20 m19 hm => ?_)
        exact hk12 _ hm
      · refine g_iconst 0 dX10_liveMonth_53 rfl ?_
        refine g_goto 82 dX10_liveMonth_54 (by decide) ?_
        exact hk12 _ hm
  · intro k4 hk4 hm
    refine g_if_eq 26 hm dX10_liveMonth_19 (by decide) (fun hm => ?_) (fun hm => ?_)
    · refine g_weak (vs' := [some (.ref (g.ad 0)), none, none, none]) ⟨rfl, trivial⟩ ?_
      exact hk4 _ hm
    · refine g_aloadn_0 dX10_liveMonth_22 ?_
      refine g_v0V hm (fun _ h => c_X10_spreadFever h) pn_0 (pc_0 _ _) rfl ce_X10_spreadFever lk_X10_233 rfl rfl dX10_liveMonth_23 (fun m21 hm => ?_)
      refine g_weak (vs' := [some (.ref (g.ad 0)), none, none, none]) ⟨rfl, trivial⟩ ?_
      exact hk4 _ hm
def f_X10_months_L25 (a1 : Int32) (nl : Nat) (ln : (Nat → Nat)) : (Sg × Int32) → Option (((Sg)) ⊕ (Sg × Int32)) := fun s => match s with
  | (m3, x4) => 
  (if a1 ≤ x4 then some (.inl m3) else
  calv (f_X10_liveMonth nl ln m3 0) (fun m8 => bnd (x4 + 1) (fun x9 => some (.inr (m8, x9)))))
def f_X10_months (nl : Nat) (ln : Nat → Nat)  (m : Sg) (a1 : Int32) : Option (Int32 × Sg) :=
  cal (f_X0_isTold 4 m) (fun x2 m1 => (if x2 = 0 then some ((-1), m1) else
  (if a1 < 1 then some ((-1), m1) else
  (if a1 ≤ 60 then lpk (f_X10_months_L25 a1 nl ln) (m1, 0) (fun m5 => cal (f_X0_cell 4 m5 97) (fun x11 m10 => some (x11, m10))) else
  some ((-1), m1)))))
set_option maxRecDepth 4000 in
theorem c_X10_months {g : Cf} {m mm : Sg} {r : Int32} {a1 : Int32} (H4 : g.nl ≤ 4) (HX : XOK g) (hm : f_X10_months g.nl g.ln  m a1 = some (r, mm)) : Cl g 8 yX10_months cX10_months 3 (some .int) [.ref (g.ad 0), .int a1] m (some (.int r)) mm := by
  refine cl_of (by decide) (Nat.le_of_ble_eq_true rfl) (vs := [some (.ref (g.ad 0)), some (.int a1), none]) rfl rfl ?_
  show GX g 8 RX10 cX10_months 3 (some .int) (some (.int r)) mm 0 _ [] m
  unfold f_X10_months at hm
  refine g_aloadn_0 dX10_months_0 ?_
  refine g_getr (q := 3) fo_10_1 pn_0 pc_0 rfl rfl dX10_months_1 ?_
  refine g_v0 hm (fun _ _ h => c_X0_isTold cty_3 h) pn_3 (pc_3 _ _) rfl ce_X0_isTold lk_X10_139 rfl rfl dX10_months_4 (fun x2 m1 hm => ?_)
  refine g_if_eq 21 hm dX10_months_7 (by decide) (fun hm => ?_) (fun hm => ?_)
  · refine g_iconst (-1) dX10_months_21 rfl ?_
    exact g_iret hm dX10_months_22
  · refine g_iloadn_1 dX10_months_10 ?_
    refine g_iconst 1 dX10_months_11 rfl ?_
    refine g_icmp_lt 21 hm dX10_months_12 (by decide) (fun hm => ?_) (fun hm => ?_)
    · refine g_iconst (-1) dX10_months_21 rfl ?_
      exact g_iret hm dX10_months_22
    · refine g_iloadn_1 dX10_months_15 ?_
      refine g_bipush 60 dX10_months_16 rfl ?_
      refine g_icmp_le 23 hm dX10_months_18 (by decide) (fun hm => ?_) (fun hm => ?_)
      · refine g_iconst 0 dX10_months_23 rfl ?_
        refine g_istoren_2 dX10_months_24 rfl ?_
        refine g_lp (I := fun (s : Sg × Int32) => GX g 8 RX10 cX10_months 3 (some .int) (some (.int r)) mm 25 [some (.ref (g.ad 0)), some (.int a1), some (.int (s.2))] [] s.1) (E := fun (s : Sg) => GX g 8 RX10 cX10_months 3 (some .int) (some (.int r)) mm 41 [some (.ref (g.ad 0)), none, none] [] s) hm ?_ ?_
        · rintro m5 hm
          (try dsimp only at hm)
          (try dsimp only)
          refine g_aloadn_0 dX10_months_41 ?_
          refine g_getr (q := 3) fo_10_1 pn_0 pc_0 rfl rfl dX10_months_42 ?_
          refine g_bipush 97 dX10_months_45 rfl ?_
          refine g_v1 hm (fun _ _ h => c_X0_cell cty_3 h) pn_3 (pc_3 _ _) rfl ce_X0_cell lk_X10_142 rfl rfl dX10_months_47 (fun x11 m10 hm => ?_)
          exact g_iret hm dX10_months_50
        · rintro ⟨m3, x4⟩ o hm hx7 hi6
          (try dsimp only [f_X10_months_L25] at hm)
          (try dsimp only)
          refine g_iloadn_2 dX10_months_25 ?_
          refine g_iloadn_1 dX10_months_26 ?_
          refine g_icmp_ge 41 hm dX10_months_27 (by decide) (fun hm => ?_) (fun hm => ?_)
          · refine g_weak (vs' := [some (.ref (g.ad 0)), none, none]) ⟨rfl, trivial⟩ ?_
            cases hm
            exact hx7 _ rfl
          · refine g_aloadn_0 dX10_months_30 ?_
            refine g_iconst 0 dX10_months_31 rfl ?_
            refine g_v1V hm (fun _ h => c_X10_liveMonth H4 HX h) pn_0 (pc_0 _ _) rfl ce_X10_liveMonth lk_X10_210 rfl rfl dX10_months_32 (fun m8 hm => ?_)
            refine g_iinc_2 1 hm dX10_months_35 rfl rfl (fun x9 hm => ?_)
            refine g_goto 25 dX10_months_38 (by decide) ?_
            cases hm
            exact hi6 _ rfl
      · refine g_iconst (-1) dX10_months_21 rfl ?_
        exact g_iret hm dX10_months_22
def f_X10_fevers_L31 (a1 : Int32) (nl : Nat) (ln : (Nat → Nat)) : (Sg × Int32) → Option (((Sg)) ⊕ (Sg × Int32)) := fun s => match s with
  | (m4, x5) => 
  (if a1 ≤ x5 then some (.inl m4) else
  calv (f_X10_liveMonth nl ln m4 1) (fun m9 => bnd (x5 + 1) (fun x10 => some (.inr (m9, x10)))))
def f_X10_fevers (nl : Nat) (ln : Nat → Nat)  (m : Sg) (a1 : Int32) (a2 : Int64) : Option (Int32 × Sg) :=
  cal (f_X0_isTold 4 m) (fun x2 m1 => (if x2 = 0 then some ((-1), m1) else
  (if a1 < 1 then some ((-1), m1) else
  (if a1 ≤ 60 then bnd (wrl m1 0 a2) (fun m3 => lpk (f_X10_fevers_L31 a1 nl ln) (m3, 0) (fun m6 => cal (f_X0_cell 4 m6 97) (fun x12 m11 => some (x12, m11)))) else
  some ((-1), m1)))))
set_option maxRecDepth 4000 in
theorem c_X10_fevers {g : Cf} {m mm : Sg} {r : Int32} {a1 : Int32} {a2 : Int64} (H4 : g.nl ≤ 4) (HX : XOK g) (hm : f_X10_fevers g.nl g.ln  m a1 a2 = some (r, mm)) : Cl g 8 yX10_fevers cX10_fevers 5 (some .int) [.ref (g.ad 0), .int a1, .long a2] m (some (.int r)) mm := by
  refine cl_of (by decide) (Nat.le_of_ble_eq_true rfl) (vs := [some (.ref (g.ad 0)), some (.int a1), some (.long a2), none, none]) rfl rfl ?_
  show GX g 8 RX10 cX10_fevers 5 (some .int) (some (.int r)) mm 0 _ [] m
  unfold f_X10_fevers at hm
  refine g_aloadn_0 dX10_fevers_0 ?_
  refine g_getr (q := 3) fo_10_1 pn_0 pc_0 rfl rfl dX10_fevers_1 ?_
  refine g_v0 hm (fun _ _ h => c_X0_isTold cty_3 h) pn_3 (pc_3 _ _) rfl ce_X0_isTold lk_X10_139 rfl rfl dX10_fevers_4 (fun x2 m1 hm => ?_)
  refine g_if_eq 21 hm dX10_fevers_7 (by decide) (fun hm => ?_) (fun hm => ?_)
  · refine g_iconst (-1) dX10_fevers_21 rfl ?_
    exact g_iret hm dX10_fevers_22
  · refine g_iloadn_1 dX10_fevers_10 ?_
    refine g_iconst 1 dX10_fevers_11 rfl ?_
    refine g_icmp_lt 21 hm dX10_fevers_12 (by decide) (fun hm => ?_) (fun hm => ?_)
    · refine g_iconst (-1) dX10_fevers_21 rfl ?_
      exact g_iret hm dX10_fevers_22
    · refine g_iloadn_1 dX10_fevers_15 ?_
      refine g_bipush 60 dX10_fevers_16 rfl ?_
      refine g_icmp_le 23 hm dX10_fevers_18 (by decide) (fun hm => ?_) (fun hm => ?_)
      · refine g_aloadn_0 dX10_fevers_23 ?_
        refine g_lloadn_2 dX10_fevers_24 ?_
        refine g_putl hm fo_10_10 fp_10_10 pn_0 pc_0 rfl lu_10 dX10_fevers_25 (fun m3 hm => ?_)
        refine g_iconst 0 dX10_fevers_28 rfl ?_
        refine g_istore_4 dX10_fevers_29 rfl ?_
        refine g_weak (vs' := [some (.ref (g.ad 0)), some (.int a1), none, none, some (.int 0)]) ⟨rfl, ⟨rfl, ⟨rfl, trivial⟩⟩⟩ ?_
        refine g_lp (I := fun (s : Sg × Int32) => GX g 8 RX10 cX10_fevers 5 (some .int) (some (.int r)) mm 31 [some (.ref (g.ad 0)), some (.int a1), none, none, some (.int (s.2))] [] s.1) (E := fun (s : Sg) => GX g 8 RX10 cX10_fevers 5 (some .int) (some (.int r)) mm 48 [some (.ref (g.ad 0)), none, none, none, none] [] s) hm ?_ ?_
        · rintro m6 hm
          (try dsimp only at hm)
          (try dsimp only)
          refine g_aloadn_0 dX10_fevers_48 ?_
          refine g_getr (q := 3) fo_10_1 pn_0 pc_0 rfl rfl dX10_fevers_49 ?_
          refine g_bipush 97 dX10_fevers_52 rfl ?_
          refine g_v1 hm (fun _ _ h => c_X0_cell cty_3 h) pn_3 (pc_3 _ _) rfl ce_X0_cell lk_X10_142 rfl rfl dX10_fevers_54 (fun x12 m11 hm => ?_)
          exact g_iret hm dX10_fevers_57
        · rintro ⟨m4, x5⟩ o hm hx8 hi7
          (try dsimp only [f_X10_fevers_L31] at hm)
          (try dsimp only)
          refine g_iload_4 dX10_fevers_31 ?_
          refine g_iloadn_1 dX10_fevers_33 ?_
          refine g_icmp_ge 48 hm dX10_fevers_34 (by decide) (fun hm => ?_) (fun hm => ?_)
          · refine g_weak (vs' := [some (.ref (g.ad 0)), none, none, none, none]) ⟨rfl, trivial⟩ ?_
            cases hm
            exact hx8 _ rfl
          · refine g_aloadn_0 dX10_fevers_37 ?_
            refine g_iconst 1 dX10_fevers_38 rfl ?_
            refine g_v1V hm (fun _ h => c_X10_liveMonth H4 HX h) pn_0 (pc_0 _ _) rfl ce_X10_liveMonth lk_X10_210 rfl rfl dX10_fevers_39 (fun m9 hm => ?_)
            refine g_iinc_4 1 hm dX10_fevers_42 rfl rfl (fun x10 hm => ?_)
            refine g_goto 31 dX10_fevers_45 (by decide) ?_
            cases hm
            exact hi7 _ rfl
      · refine g_iconst (-1) dX10_fevers_21 rfl ?_
        exact g_iret hm dX10_fevers_22
