def f_X0_cell (j : Nat) (m : Sg) (a1 : Int32) : Option (Int32 × Sg) :=
  (if a1 < 0 then some (0, m) else
  (if 100 ≤ a1 then some (0, m) else
  if inr a1 100 = true then some (m.1 j a1.toNatClampNeg, m) else none))
set_option maxRecDepth 4000 in
theorem c_X0_cell {g : Cf} {m mm : Sg} {r : Int32} {j : Nat} {i : Nat} {a1 : Int32} (Hi : CTY g i j) (hm : f_X0_cell j m a1 = some (r, mm)) : Cl g 0 yX0_cell cX0_cell 2 (some .int) [.ref (g.ad i), .int a1] m (some (.int r)) mm := by
  refine cl_of (by decide) (Nat.le_of_ble_eq_true rfl) (vs := [some (.ref (g.ad i)), some (.int a1)]) rfl rfl ?_
  show GX g 0 RX0 cX0_cell 2 (some .int) (some (.int r)) mm 0 _ [] m
  unfold f_X0_cell at hm
  refine g_iloadn_1 dX0_cell_0 ?_
  refine g_if_lt 22 hm dX0_cell_1 (by decide) (fun hm => ?_) (fun hm => ?_)
  · refine g_iconst 0 dX0_cell_22 rfl ?_
    exact g_iret hm dX0_cell_23
  · refine g_iloadn_1 dX0_cell_4 ?_
    refine g_aloadn_0 dX0_cell_5 ?_
    refine g_getr (q := j) fo_0_0 Hi.1.1 Hi.1.2.1 rfl Hi.1.2.2 dX0_cell_6 ?_
    refine g_alen (ty := .int) 100 Hi.2.1 Hi.2.2 rfl rfl dX0_cell_9 ?_
    refine g_icmp_ge 22 hm dX0_cell_10 (by decide) (fun hm => ?_) (fun hm => ?_)
    · refine g_iconst 0 dX0_cell_22 rfl ?_
      exact g_iret hm dX0_cell_23
    · refine g_aloadn_0 dX0_cell_13 ?_
      refine g_getr (q := j) fo_0_0 Hi.1.1 Hi.1.2.1 rfl Hi.1.2.2 dX0_cell_14 ?_
      refine g_iloadn_1 dX0_cell_17 ?_
      refine g_iaload hm Hi.2.1 Hi.2.2 dX0_cell_18 (fun hm => ?_)
      refine g_goto 23 dX0_cell_19 (by decide) ?_
      exact g_iret hm dX0_cell_23
def f_X0_put (j : Nat) (m : Sg) (a1 : Int32) (a2 : Int32) : Option (Sg) :=
  (if a1 < 0 then some m else
  (if 100 ≤ a1 then some m else
  if inr a1 100 = true then bnd (wr m j a1.toNatClampNeg a2) (fun m1 => some m1) else none))
set_option maxRecDepth 4000 in
theorem c_X0_put {g : Cf} {m mm : Sg} {j : Nat} {i : Nat} {a1 : Int32} {a2 : Int32} (Hi : CTY g i j) (hm : f_X0_put j m a1 a2 = some mm) : Cl g 0 yX0_put cX0_put 3 none [.ref (g.ad i), .int a1, .int a2] m none mm := by
  refine cl_of (by decide) (Nat.le_of_ble_eq_true rfl) (vs := [some (.ref (g.ad i)), some (.int a1), some (.int a2)]) rfl rfl ?_
  show GX g 0 RX0 cX0_put 3 none none mm 0 _ [] m
  unfold f_X0_put at hm
  refine g_iloadn_1 dX0_put_0 ?_
  refine g_if_lt 20 hm dX0_put_1 (by decide) (fun hm => ?_) (fun hm => ?_)
  · exact g_vret hm dX0_put_20
  · refine g_iloadn_1 dX0_put_4 ?_
    refine g_aloadn_0 dX0_put_5 ?_
    refine g_getr (q := j) fo_0_0 Hi.1.1 Hi.1.2.1 rfl Hi.1.2.2 dX0_put_6 ?_
    refine g_alen (ty := .int) 100 Hi.2.1 Hi.2.2 rfl rfl dX0_put_9 ?_
    refine g_icmp_ge 20 hm dX0_put_10 (by decide) (fun hm => ?_) (fun hm => ?_)
    · exact g_vret hm dX0_put_20
    · refine g_aloadn_0 dX0_put_13 ?_
      refine g_getr (q := j) fo_0_0 Hi.1.1 Hi.1.2.1 rfl Hi.1.2.2 dX0_put_14 ?_
      refine g_iloadn_1 dX0_put_17 ?_
      refine g_iloadn_2 dX0_put_18 ?_
      refine g_iastore hm Hi.2.1 Hi.2.2 dX0_put_19 (fun m1 hm => ?_)
      exact g_vret hm dX0_put_20
def f_X0_kid (j : Nat) (m : Sg) (a1 : Int32) (a2 : Int32) : Option (Int32 × Sg) :=
  bnd ((a1 * 10) + a2) (fun x1 => (if x1 < 0 then some (0, m) else
  (if 100 ≤ x1 then some (0, m) else
  if inr x1 100 = true then some (m.1 j x1.toNatClampNeg, m) else none)))
set_option maxRecDepth 4000 in
theorem c_X0_kid {g : Cf} {m mm : Sg} {r : Int32} {j : Nat} {i : Nat} {a1 : Int32} {a2 : Int32} (Hi : CTY g i j) (hm : f_X0_kid j m a1 a2 = some (r, mm)) : Cl g 0 yX0_kid cX0_kid 4 (some .int) [.ref (g.ad i), .int a1, .int a2] m (some (.int r)) mm := by
  refine cl_of (by decide) (Nat.le_of_ble_eq_true rfl) (vs := [some (.ref (g.ad i)), some (.int a1), some (.int a2), none]) rfl rfl ?_
  show GX g 0 RX0 cX0_kid 4 (some .int) (some (.int r)) mm 0 _ [] m
  unfold f_X0_kid at hm
  refine g_iloadn_1 dX0_kid_0 ?_
  refine g_bipush 10 dX0_kid_1 rfl ?_
  refine g_imul dX0_kid_3 ?_
  refine g_iloadn_2 dX0_kid_4 ?_
  refine g_iadd dX0_kid_5 ?_
  refine g_istoreBn_3 hm dX0_kid_6 rfl (fun x1 hm => ?_)
  refine g_iloadn_3 dX0_kid_7 ?_
  refine g_if_lt 29 hm dX0_kid_8 (by decide) (fun hm => ?_) (fun hm => ?_)
  · refine g_iconst 0 dX0_kid_29 rfl ?_
    exact g_iret hm dX0_kid_30
  · refine g_iloadn_3 dX0_kid_11 ?_
    refine g_aloadn_0 dX0_kid_12 ?_
    refine g_getr (q := j) fo_0_0 Hi.1.1 Hi.1.2.1 rfl Hi.1.2.2 dX0_kid_13 ?_
    refine g_alen (ty := .int) 100 Hi.2.1 Hi.2.2 rfl rfl dX0_kid_16 ?_
    refine g_icmp_ge 29 hm dX0_kid_17 (by decide) (fun hm => ?_) (fun hm => ?_)
    · refine g_iconst 0 dX0_kid_29 rfl ?_
      exact g_iret hm dX0_kid_30
    · refine g_aloadn_0 dX0_kid_20 ?_
      refine g_getr (q := j) fo_0_0 Hi.1.1 Hi.1.2.1 rfl Hi.1.2.2 dX0_kid_21 ?_
      refine g_iloadn_3 dX0_kid_24 ?_
      refine g_iaload hm Hi.2.1 Hi.2.2 dX0_kid_25 (fun hm => ?_)
      refine g_goto 30 dX0_kid_26 (by decide) ?_
      exact g_iret hm dX0_kid_30
def f_X0_putKid (j : Nat) (m : Sg) (a1 : Int32) (a2 : Int32) (a3 : Int32) : Option (Sg) :=
  bnd ((a1 * 10) + a2) (fun x1 => (if x1 < 0 then some m else
  (if 100 ≤ x1 then some m else
  if inr x1 100 = true then bnd (wr m j x1.toNatClampNeg a3) (fun m2 => some m2) else none)))
set_option maxRecDepth 4000 in
theorem c_X0_putKid {g : Cf} {m mm : Sg} {j : Nat} {i : Nat} {a1 : Int32} {a2 : Int32} {a3 : Int32} (Hi : CTY g i j) (hm : f_X0_putKid j m a1 a2 a3 = some mm) : Cl g 0 yX0_putKid cX0_putKid 5 none [.ref (g.ad i), .int a1, .int a2, .int a3] m none mm := by
  refine cl_of (by decide) (Nat.le_of_ble_eq_true rfl) (vs := [some (.ref (g.ad i)), some (.int a1), some (.int a2), some (.int a3), none]) rfl rfl ?_
  show GX g 0 RX0 cX0_putKid 5 none none mm 0 _ [] m
  unfold f_X0_putKid at hm
  refine g_iloadn_1 dX0_putKid_0 ?_
  refine g_bipush 10 dX0_putKid_1 rfl ?_
  refine g_imul dX0_putKid_3 ?_
  refine g_iloadn_2 dX0_putKid_4 ?_
  refine g_iadd dX0_putKid_5 ?_
  refine g_istoreB_4 hm dX0_putKid_6 rfl (fun x1 hm => ?_)
  refine g_iload_4 dX0_putKid_8 ?_
  refine g_if_lt 31 hm dX0_putKid_10 (by decide) (fun hm => ?_) (fun hm => ?_)
  · exact g_vret hm dX0_putKid_31
  · refine g_iload_4 dX0_putKid_13 ?_
    refine g_aloadn_0 dX0_putKid_15 ?_
    refine g_getr (q := j) fo_0_0 Hi.1.1 Hi.1.2.1 rfl Hi.1.2.2 dX0_putKid_16 ?_
    refine g_alen (ty := .int) 100 Hi.2.1 Hi.2.2 rfl rfl dX0_putKid_19 ?_
    refine g_icmp_ge 31 hm dX0_putKid_20 (by decide) (fun hm => ?_) (fun hm => ?_)
    · exact g_vret hm dX0_putKid_31
    · refine g_aloadn_0 dX0_putKid_23 ?_
      refine g_getr (q := j) fo_0_0 Hi.1.1 Hi.1.2.1 rfl Hi.1.2.2 dX0_putKid_24 ?_
      refine g_iload_4 dX0_putKid_27 ?_
      refine g_iloadn_3 dX0_putKid_29 ?_
      refine g_iastore hm Hi.2.1 Hi.2.2 dX0_putKid_30 (fun m2 hm => ?_)
      exact g_vret hm dX0_putKid_31
def f_X0_old (j : Nat) (m : Sg) (a1 : Int32) (a2 : Int32) : Option (Int32 × Sg) :=
  bnd ((80 + (a1 * 3)) + a2) (fun x1 => (if x1 < 0 then some (0, m) else
  (if 100 ≤ x1 then some (0, m) else
  if inr x1 100 = true then some (m.1 j x1.toNatClampNeg, m) else none)))
set_option maxRecDepth 4000 in
theorem c_X0_old {g : Cf} {m mm : Sg} {r : Int32} {j : Nat} {i : Nat} {a1 : Int32} {a2 : Int32} (Hi : CTY g i j) (hm : f_X0_old j m a1 a2 = some (r, mm)) : Cl g 0 yX0_old cX0_old 4 (some .int) [.ref (g.ad i), .int a1, .int a2] m (some (.int r)) mm := by
  refine cl_of (by decide) (Nat.le_of_ble_eq_true rfl) (vs := [some (.ref (g.ad i)), some (.int a1), some (.int a2), none]) rfl rfl ?_
  show GX g 0 RX0 cX0_old 4 (some .int) (some (.int r)) mm 0 _ [] m
  unfold f_X0_old at hm
  refine g_bipush 80 dX0_old_0 rfl ?_
  refine g_iloadn_1 dX0_old_2 ?_
  refine g_iconst 3 dX0_old_3 rfl ?_
  refine g_imul dX0_old_4 ?_
  refine g_iadd dX0_old_5 ?_
  refine g_iloadn_2 dX0_old_6 ?_
  refine g_iadd dX0_old_7 ?_
  refine g_istoreBn_3 hm dX0_old_8 rfl (fun x1 hm => ?_)
  refine g_iloadn_3 dX0_old_9 ?_
  refine g_if_lt 31 hm dX0_old_10 (by decide) (fun hm => ?_) (fun hm => ?_)
  · refine g_iconst 0 dX0_old_31 rfl ?_
    exact g_iret hm dX0_old_32
  · refine g_iloadn_3 dX0_old_13 ?_
    refine g_aloadn_0 dX0_old_14 ?_
    refine g_getr (q := j) fo_0_0 Hi.1.1 Hi.1.2.1 rfl Hi.1.2.2 dX0_old_15 ?_
    refine g_alen (ty := .int) 100 Hi.2.1 Hi.2.2 rfl rfl dX0_old_18 ?_
    refine g_icmp_ge 31 hm dX0_old_19 (by decide) (fun hm => ?_) (fun hm => ?_)
    · refine g_iconst 0 dX0_old_31 rfl ?_
      exact g_iret hm dX0_old_32
    · refine g_aloadn_0 dX0_old_22 ?_
      refine g_getr (q := j) fo_0_0 Hi.1.1 Hi.1.2.1 rfl Hi.1.2.2 dX0_old_23 ?_
      refine g_iloadn_3 dX0_old_26 ?_
      refine g_iaload hm Hi.2.1 Hi.2.2 dX0_old_27 (fun hm => ?_)
      refine g_goto 32 dX0_old_28 (by decide) ?_
      exact g_iret hm dX0_old_32
def f_X0_putOld (j : Nat) (m : Sg) (a1 : Int32) (a2 : Int32) (a3 : Int32) : Option (Sg) :=
  bnd ((80 + (a1 * 3)) + a2) (fun x1 => (if x1 < 0 then some m else
  (if 100 ≤ x1 then some m else
  if inr x1 100 = true then bnd (wr m j x1.toNatClampNeg a3) (fun m2 => some m2) else none)))
set_option maxRecDepth 4000 in
theorem c_X0_putOld {g : Cf} {m mm : Sg} {j : Nat} {i : Nat} {a1 : Int32} {a2 : Int32} {a3 : Int32} (Hi : CTY g i j) (hm : f_X0_putOld j m a1 a2 a3 = some mm) : Cl g 0 yX0_putOld cX0_putOld 5 none [.ref (g.ad i), .int a1, .int a2, .int a3] m none mm := by
  refine cl_of (by decide) (Nat.le_of_ble_eq_true rfl) (vs := [some (.ref (g.ad i)), some (.int a1), some (.int a2), some (.int a3), none]) rfl rfl ?_
  show GX g 0 RX0 cX0_putOld 5 none none mm 0 _ [] m
  unfold f_X0_putOld at hm
  refine g_bipush 80 dX0_putOld_0 rfl ?_
  refine g_iloadn_1 dX0_putOld_2 ?_
  refine g_iconst 3 dX0_putOld_3 rfl ?_
  refine g_imul dX0_putOld_4 ?_
  refine g_iadd dX0_putOld_5 ?_
  refine g_iloadn_2 dX0_putOld_6 ?_
  refine g_iadd dX0_putOld_7 ?_
  refine g_istoreB_4 hm dX0_putOld_8 rfl (fun x1 hm => ?_)
  refine g_iload_4 dX0_putOld_10 ?_
  refine g_if_lt 33 hm dX0_putOld_12 (by decide) (fun hm => ?_) (fun hm => ?_)
  · exact g_vret hm dX0_putOld_33
  · refine g_iload_4 dX0_putOld_15 ?_
    refine g_aloadn_0 dX0_putOld_17 ?_
    refine g_getr (q := j) fo_0_0 Hi.1.1 Hi.1.2.1 rfl Hi.1.2.2 dX0_putOld_18 ?_
    refine g_alen (ty := .int) 100 Hi.2.1 Hi.2.2 rfl rfl dX0_putOld_21 ?_
    refine g_icmp_ge 33 hm dX0_putOld_22 (by decide) (fun hm => ?_) (fun hm => ?_)
    · exact g_vret hm dX0_putOld_33
    · refine g_aloadn_0 dX0_putOld_25 ?_
      refine g_getr (q := j) fo_0_0 Hi.1.1 Hi.1.2.1 rfl Hi.1.2.2 dX0_putOld_26 ?_
      refine g_iload_4 dX0_putOld_29 ?_
      refine g_iloadn_3 dX0_putOld_31 ?_
      refine g_iastore hm Hi.2.1 Hi.2.2 dX0_putOld_32 (fun m2 hm => ?_)
      exact g_vret hm dX0_putOld_33
def f_X0_children (j : Nat) (m : Sg)  : Option (Int32 × Sg) :=
  some (m.1 j 95, m)
set_option maxRecDepth 4000 in
theorem c_X0_children {g : Cf} {m mm : Sg} {r : Int32} {j : Nat} {i : Nat} (Hi : CTY g i j) (hm : f_X0_children j m  = some (r, mm)) : Cl g 0 yX0_children cX0_children 1 (some .int) [.ref (g.ad i)] m (some (.int r)) mm := by
  refine cl_of (by decide) (Nat.le_of_ble_eq_true rfl) (vs := [some (.ref (g.ad i))]) rfl rfl ?_
  show GX g 0 RX0 cX0_children 1 (some .int) (some (.int r)) mm 0 _ [] m
  unfold f_X0_children at hm
  refine g_aloadn_0 dX0_children_0 ?_
  refine g_getr (q := j) fo_0_0 Hi.1.1 Hi.1.2.1 rfl Hi.1.2.2 dX0_children_1 ?_
  refine g_bipush 95 dX0_children_4 rfl ?_
  refine g_ialoadc 95 rfl rfl Hi.2.1 Hi.2.2 dX0_children_6 ?_
  exact g_iret hm dX0_children_7
def f_X0_elders (j : Nat) (m : Sg)  : Option (Int32 × Sg) :=
  some (m.1 j 96, m)
set_option maxRecDepth 4000 in
theorem c_X0_elders {g : Cf} {m mm : Sg} {r : Int32} {j : Nat} {i : Nat} (Hi : CTY g i j) (hm : f_X0_elders j m  = some (r, mm)) : Cl g 0 yX0_elders cX0_elders 1 (some .int) [.ref (g.ad i)] m (some (.int r)) mm := by
  refine cl_of (by decide) (Nat.le_of_ble_eq_true rfl) (vs := [some (.ref (g.ad i))]) rfl rfl ?_
  show GX g 0 RX0 cX0_elders 1 (some .int) (some (.int r)) mm 0 _ [] m
  unfold f_X0_elders at hm
  refine g_aloadn_0 dX0_elders_0 ?_
  refine g_getr (q := j) fo_0_0 Hi.1.1 Hi.1.2.1 rfl Hi.1.2.2 dX0_elders_1 ?_
  refine g_bipush 96 dX0_elders_4 rfl ?_
  refine g_ialoadc 96 rfl rfl Hi.2.1 Hi.2.2 dX0_elders_6 ?_
  exact g_iret hm dX0_elders_7
def f_X0_ruler (j : Nat) (m : Sg)  : Option (Int32 × Sg) :=
  some (m.1 j 98, m)
set_option maxRecDepth 4000 in
theorem c_X0_ruler {g : Cf} {m mm : Sg} {r : Int32} {j : Nat} {i : Nat} (Hi : CTY g i j) (hm : f_X0_ruler j m  = some (r, mm)) : Cl g 0 yX0_ruler cX0_ruler 1 (some .int) [.ref (g.ad i)] m (some (.int r)) mm := by
  refine cl_of (by decide) (Nat.le_of_ble_eq_true rfl) (vs := [some (.ref (g.ad i))]) rfl rfl ?_
  show GX g 0 RX0 cX0_ruler 1 (some .int) (some (.int r)) mm 0 _ [] m
  unfold f_X0_ruler at hm
  refine g_aloadn_0 dX0_ruler_0 ?_
  refine g_getr (q := j) fo_0_0 Hi.1.1 Hi.1.2.1 rfl Hi.1.2.2 dX0_ruler_1 ?_
  refine g_bipush 98 dX0_ruler_4 rfl ?_
  refine g_ialoadc 98 rfl rfl Hi.2.1 Hi.2.2 dX0_ruler_6 ?_
  exact g_iret hm dX0_ruler_7
def f_X0_become (j : Nat) (jo : Nat) (m : Sg)  : Option (Sg) :=
  if cpk 0 0 100 100 100 = true then bnd (wrr m j (va_cpy (m.1 jo) (m.1 j) (0 : Int32).toNatClampNeg (0 : Int32).toNatClampNeg (100 : Int32).toNatClampNeg)) (fun m1 => some m1) else none
set_option maxRecDepth 4000 in
theorem c_X0_become {g : Cf} {m mm : Sg} {j : Nat} {jo : Nat} {i : Nat} {io : Nat} (Hi : CTY g i j) (Hio : CTY g io jo) (hm : f_X0_become j jo m  = some mm) : Cl g 1 yX0_become cX0_become 2 none [.ref (g.ad i), .ref (g.ad io)] m none mm := by
  refine cl_of (by decide) (Nat.le_of_ble_eq_true rfl) (vs := [some (.ref (g.ad i)), some (.ref (g.ad io))]) rfl rfl ?_
  show GX g 1 RX0 cX0_become 2 none none mm 0 _ [] m
  unfold f_X0_become at hm
  refine g_aloadn_1 dX0_become_0 ?_
  refine g_getr (q := jo) fo_0_0 Hio.1.1 Hio.1.2.1 rfl Hio.1.2.2 dX0_become_1 ?_
  refine g_iconst 0 dX0_become_4 rfl ?_
  refine g_aloadn_0 dX0_become_5 ?_
  refine g_getr (q := j) fo_0_0 Hi.1.1 Hi.1.2.1 rfl Hi.1.2.2 dX0_become_6 ?_
  refine g_iconst 0 dX0_become_9 rfl ?_
  refine g_bipush 100 dX0_become_10 rfl ?_
  refine g_copy hm Hio.2 Hi.2 lk_X0_15 rfl rfl dX0_become_12 (fun m1 hm => ?_)
  exact g_vret hm dX0_become_15
def f_X0_copyTo (j : Nat) (w : Nat) (n : Nat) (m : Sg) (a1 : Int32) : Option (Sg) :=
  (if a1 < 0 then some m else
  (if ((Int32.ofNat n) - 100) < a1 then some m else
  if cpk 0 a1 100 100 n = true then bnd (wrr m w (va_cpy (m.1 j) (m.1 w) (0 : Int32).toNatClampNeg (a1 : Int32).toNatClampNeg (100 : Int32).toNatClampNeg)) (fun m1 => some m1) else none))
set_option maxRecDepth 4000 in
theorem c_X0_copyTo {g : Cf} {m mm : Sg} {j : Nat} {w : Nat} {n : Nat} {i : Nat} {a1 : Int32} (Hi : CTY g i j) (Hw : ARR g w n 0) (hm : f_X0_copyTo j w n m a1 = some mm) : Cl g 1 yX0_copyTo cX0_copyTo 3 none [.ref (g.ad i), .ref (g.ad w), .int a1] m none mm := by
  refine cl_of (by decide) (Nat.le_of_ble_eq_true rfl) (vs := [some (.ref (g.ad i)), some (.ref (g.ad w)), some (.int a1)]) rfl rfl ?_
  show GX g 1 RX0 cX0_copyTo 3 none none mm 0 _ [] m
  unfold f_X0_copyTo at hm
  refine g_iloadn_2 dX0_copyTo_0 ?_
  refine g_if_lt 25 hm dX0_copyTo_1 (by decide) (fun hm => ?_) (fun hm => ?_)
  · exact g_vret hm dX0_copyTo_25
  · refine g_iloadn_2 dX0_copyTo_4 ?_
    refine g_aloadn_1 dX0_copyTo_5 ?_
    refine g_alen (ty := .int) (Int32.ofNat n) Hw.1 Hw.2 rfl rfl dX0_copyTo_6 ?_
    refine g_bipush 100 dX0_copyTo_7 rfl ?_
    refine g_isub dX0_copyTo_9 ?_
    refine g_icmp_gt 25 hm dX0_copyTo_10 (by decide) (fun hm => ?_) (fun hm => ?_)
    · exact g_vret hm dX0_copyTo_25
    · refine g_aloadn_0 dX0_copyTo_13 ?_
      refine g_getr (q := j) fo_0_0 Hi.1.1 Hi.1.2.1 rfl Hi.1.2.2 dX0_copyTo_14 ?_
      refine g_iconst 0 dX0_copyTo_17 rfl ?_
      refine g_aloadn_1 dX0_copyTo_18 ?_
      refine g_iloadn_2 dX0_copyTo_19 ?_
      refine g_bipush 100 dX0_copyTo_20 rfl ?_
      refine g_copy hm Hi.2 Hw lk_X0_15 rfl rfl dX0_copyTo_22 (fun m1 hm => ?_)
      exact g_vret hm dX0_copyTo_25
def f_X0_copyFrom (j : Nat) (w : Nat) (n : Nat) (m : Sg) (a1 : Int32) : Option (Sg) :=
  (if a1 < 0 then some m else
  (if ((Int32.ofNat n) - 100) < a1 then some m else
  if cpk a1 0 100 n 100 = true then bnd (wrr m j (va_cpy (m.1 w) (m.1 j) (a1 : Int32).toNatClampNeg (0 : Int32).toNatClampNeg (100 : Int32).toNatClampNeg)) (fun m1 => some m1) else none))
set_option maxRecDepth 4000 in
theorem c_X0_copyFrom {g : Cf} {m mm : Sg} {j : Nat} {w : Nat} {n : Nat} {i : Nat} {a1 : Int32} (Hi : CTY g i j) (Hw : ARR g w n 0) (hm : f_X0_copyFrom j w n m a1 = some mm) : Cl g 1 yX0_copyFrom cX0_copyFrom 3 none [.ref (g.ad i), .ref (g.ad w), .int a1] m none mm := by
  refine cl_of (by decide) (Nat.le_of_ble_eq_true rfl) (vs := [some (.ref (g.ad i)), some (.ref (g.ad w)), some (.int a1)]) rfl rfl ?_
  show GX g 1 RX0 cX0_copyFrom 3 none none mm 0 _ [] m
  unfold f_X0_copyFrom at hm
  refine g_iloadn_2 dX0_copyFrom_0 ?_
  refine g_if_lt 25 hm dX0_copyFrom_1 (by decide) (fun hm => ?_) (fun hm => ?_)
  · exact g_vret hm dX0_copyFrom_25
  · refine g_iloadn_2 dX0_copyFrom_4 ?_
    refine g_aloadn_1 dX0_copyFrom_5 ?_
    refine g_alen (ty := .int) (Int32.ofNat n) Hw.1 Hw.2 rfl rfl dX0_copyFrom_6 ?_
    refine g_bipush 100 dX0_copyFrom_7 rfl ?_
    refine g_isub dX0_copyFrom_9 ?_
    refine g_icmp_gt 25 hm dX0_copyFrom_10 (by decide) (fun hm => ?_) (fun hm => ?_)
    · exact g_vret hm dX0_copyFrom_25
    · refine g_aloadn_1 dX0_copyFrom_13 ?_
      refine g_iloadn_2 dX0_copyFrom_14 ?_
      refine g_aloadn_0 dX0_copyFrom_15 ?_
      refine g_getr (q := j) fo_0_0 Hi.1.1 Hi.1.2.1 rfl Hi.1.2.2 dX0_copyFrom_16 ?_
      refine g_iconst 0 dX0_copyFrom_19 rfl ?_
      refine g_bipush 100 dX0_copyFrom_20 rfl ?_
      refine g_copy hm Hw Hi.2 lk_X0_15 rfl rfl dX0_copyFrom_22 (fun m1 hm => ?_)
      exact g_vret hm dX0_copyFrom_25
def f_X0_clear_L2 (j : Nat) : (Sg × Int32) → Option (((Sg)) ⊕ (Sg × Int32)) := fun s => match s with
  | (m1, x2) => 
  (if 100 ≤ x2 then some (.inl m1) else
  if inr x2 100 = true then bnd (wr m1 j x2.toNatClampNeg 0) (fun m6 => bnd (x2 + 1) (fun x7 => some (.inr (m6, x7)))) else none)
def f_X0_clear (j : Nat) (m : Sg)  : Option (Sg) :=
  lpk (f_X0_clear_L2 j) (m, 0) (fun m3 => bnd (wr m3 j 98 (-1)) (fun m8 => some m8))
set_option maxRecDepth 4000 in
theorem c_X0_clear {g : Cf} {m mm : Sg} {j : Nat} {i : Nat} (Hi : CTY g i j) (hm : f_X0_clear j m  = some mm) : Cl g 0 yX0_clear cX0_clear 2 none [.ref (g.ad i)] m none mm := by
  refine cl_of (by decide) (Nat.le_of_ble_eq_true rfl) (vs := [some (.ref (g.ad i)), none]) rfl rfl ?_
  show GX g 0 RX0 cX0_clear 2 none none mm 0 _ [] m
  unfold f_X0_clear at hm
  refine g_iconst 0 dX0_clear_0 rfl ?_
  refine g_istoren_1 dX0_clear_1 rfl ?_
  refine g_lp (I := fun (s : Sg × Int32) => GX g 0 RX0 cX0_clear 2 none none mm 2 [some (.ref (g.ad i)), some (.int (s.2))] [] s.1) (E := fun (s : Sg) => GX g 0 RX0 cX0_clear 2 none none mm 24 [some (.ref (g.ad i)), none] [] s) hm ?_ ?_
  · rintro m3 hm
    (try dsimp only at hm)
    (try dsimp only)
    refine g_aloadn_0 dX0_clear_24 ?_
    refine g_getr (q := j) fo_0_0 Hi.1.1 Hi.1.2.1 rfl Hi.1.2.2 dX0_clear_25 ?_
    refine g_bipush 98 dX0_clear_28 rfl ?_
    refine g_iconst (-1) dX0_clear_30 rfl ?_
    refine g_iastorec 98 hm rfl rfl Hi.2.1 Hi.2.2 dX0_clear_31 (fun m8 hm => ?_)
    exact g_vret hm dX0_clear_32
  · rintro ⟨m1, x2⟩ o hm hx5 hi4
    (try dsimp only [f_X0_clear_L2] at hm)
    (try dsimp only)
    refine g_iloadn_1 dX0_clear_2 ?_
    refine g_aloadn_0 dX0_clear_3 ?_
    refine g_getr (q := j) fo_0_0 Hi.1.1 Hi.1.2.1 rfl Hi.1.2.2 dX0_clear_4 ?_
    refine g_alen (ty := .int) 100 Hi.2.1 Hi.2.2 rfl rfl dX0_clear_7 ?_
    refine g_icmp_ge 24 hm dX0_clear_8 (by decide) (fun hm => ?_) (fun hm => ?_)
    · refine g_weak (vs' := [some (.ref (g.ad i)), none]) ⟨rfl, trivial⟩ ?_
      cases hm
      exact hx5 _ rfl
    · refine g_aloadn_0 dX0_clear_11 ?_
      refine g_getr (q := j) fo_0_0 Hi.1.1 Hi.1.2.1 rfl Hi.1.2.2 dX0_clear_12 ?_
      refine g_iloadn_1 dX0_clear_15 ?_
      refine g_iconst 0 dX0_clear_16 rfl ?_
      refine g_iastore hm Hi.2.1 Hi.2.2 dX0_clear_17 (fun m6 hm => ?_)
      refine g_iinc_1 1 hm dX0_clear_18 rfl rfl (fun x7 hm => ?_)
      refine g_goto 2 dX0_clear_21 (by decide) ?_
      cases hm
      exact hi4 _ rfl
def f_X0_setRule (j : Nat) (m : Sg) (a1 : Int32) (a2 : Int32) (a3 : Int32) : Option (Sg) :=
  bnd (wr m j 92 a1) (fun m1 => bnd (wr m1 j 93 a2) (fun m2 => bnd (wr m2 j 94 a3) (fun m3 => some m3)))
set_option maxRecDepth 4000 in
theorem c_X0_setRule {g : Cf} {m mm : Sg} {j : Nat} {i : Nat} {a1 : Int32} {a2 : Int32} {a3 : Int32} (Hi : CTY g i j) (hm : f_X0_setRule j m a1 a2 a3 = some mm) : Cl g 0 yX0_setRule cX0_setRule 4 none [.ref (g.ad i), .int a1, .int a2, .int a3] m none mm := by
  refine cl_of (by decide) (Nat.le_of_ble_eq_true rfl) (vs := [some (.ref (g.ad i)), some (.int a1), some (.int a2), some (.int a3)]) rfl rfl ?_
  show GX g 0 RX0 cX0_setRule 4 none none mm 0 _ [] m
  unfold f_X0_setRule at hm
  refine g_aloadn_0 dX0_setRule_0 ?_
  refine g_getr (q := j) fo_0_0 Hi.1.1 Hi.1.2.1 rfl Hi.1.2.2 dX0_setRule_1 ?_
  refine g_bipush 92 dX0_setRule_4 rfl ?_
  refine g_iloadn_1 dX0_setRule_6 ?_
  refine g_iastorec 92 hm rfl rfl Hi.2.1 Hi.2.2 dX0_setRule_7 (fun m1 hm => ?_)
  refine g_aloadn_0 dX0_setRule_8 ?_
  refine g_getr (q := j) fo_0_0 Hi.1.1 Hi.1.2.1 rfl Hi.1.2.2 dX0_setRule_9 ?_
  refine g_bipush 93 dX0_setRule_12 rfl ?_
  refine g_iloadn_2 dX0_setRule_14 ?_
  refine g_iastorec 93 hm rfl rfl Hi.2.1 Hi.2.2 dX0_setRule_15 (fun m2 hm => ?_)
  refine g_aloadn_0 dX0_setRule_16 ?_
  refine g_getr (q := j) fo_0_0 Hi.1.1 Hi.1.2.1 rfl Hi.1.2.2 dX0_setRule_17 ?_
  refine g_bipush 94 dX0_setRule_20 rfl ?_
  refine g_iloadn_3 dX0_setRule_22 ?_
  refine g_iastorec 94 hm rfl rfl Hi.2.1 Hi.2.2 dX0_setRule_23 (fun m3 hm => ?_)
  exact g_vret hm dX0_setRule_24
def f_X0_fromBelow  (m : Sg) (a1 : Int32) : Option (Int32 × Sg) :=
  some ((1 <<< (a1 &&& 31)) - 1, m)
set_option maxRecDepth 4000 in
theorem c_X0_fromBelow {g : Cf} {m mm : Sg} {r : Int32} {a1 : Int32} (hm : f_X0_fromBelow  m a1 = some (r, mm)) : Cl g 0 yX0_fromBelow cX0_fromBelow 1 (some .int) [.int a1] m (some (.int r)) mm := by
  refine cl_of (by decide) (Nat.le_of_ble_eq_true rfl) (vs := [some (.int a1)]) rfl rfl ?_
  show GX g 0 RX0 cX0_fromBelow 1 (some .int) (some (.int r)) mm 0 _ [] m
  unfold f_X0_fromBelow at hm
  refine g_iconst 1 dX0_fromBelow_0 rfl ?_
  refine g_iloadn_0 dX0_fromBelow_1 ?_
  refine g_ishl dX0_fromBelow_2 ?_
  refine g_iconst 1 dX0_fromBelow_3 rfl ?_
  refine g_isub dX0_fromBelow_4 ?_
  exact g_iret hm dX0_fromBelow_5
def f_X0_isTold (j : Nat) (m : Sg)  : Option (Int32 × Sg) :=
  (if (m.1 j 95) ≤ 0 then some (0, m) else
  some (1, m))
set_option maxRecDepth 4000 in
theorem c_X0_isTold {g : Cf} {m mm : Sg} {r : Int32} {j : Nat} {i : Nat} (Hi : CTY g i j) (hm : f_X0_isTold j m  = some (r, mm)) : Cl g 0 yX0_isTold cX0_isTold 1 (some .boolean) [.ref (g.ad i)] m (some (.int r)) mm := by
  refine cl_of (by decide) (Nat.le_of_ble_eq_true rfl) (vs := [some (.ref (g.ad i))]) rfl rfl ?_
  show GX g 0 RX0 cX0_isTold 1 (some .boolean) (some (.int r)) mm 0 _ [] m
  unfold f_X0_isTold at hm
  refine g_aloadn_0 dX0_isTold_0 ?_
  refine g_getr (q := j) fo_0_0 Hi.1.1 Hi.1.2.1 rfl Hi.1.2.2 dX0_isTold_1 ?_
  refine g_bipush 95 dX0_isTold_4 rfl ?_
  refine g_ialoadc 95 rfl rfl Hi.2.1 Hi.2.2 dX0_isTold_6 ?_
  refine g_if_le 14 hm dX0_isTold_7 (by decide) (fun hm => ?_) (fun hm => ?_)
  · refine g_iconst 0 dX0_isTold_14 rfl ?_
    exact g_zretc hm rfl dX0_isTold_15
  · refine g_iconst 1 dX0_isTold_10 rfl ?_
    refine g_goto 15 dX0_isTold_11 (by decide) ?_
    exact g_zretc hm rfl dX0_isTold_15
def f_X0_hasChild (j : Nat) (m : Sg) (a1 : Int32) : Option (Int32 × Sg) :=
  (if a1 < 0 then some (0, m) else
  (if (m.1 j 95) ≤ a1 then some (0, m) else
  some (1, m)))
set_option maxRecDepth 4000 in
theorem c_X0_hasChild {g : Cf} {m mm : Sg} {r : Int32} {j : Nat} {i : Nat} {a1 : Int32} (Hi : CTY g i j) (hm : f_X0_hasChild j m a1 = some (r, mm)) : Cl g 0 yX0_hasChild cX0_hasChild 2 (some .boolean) [.ref (g.ad i), .int a1] m (some (.int r)) mm := by
  refine cl_of (by decide) (Nat.le_of_ble_eq_true rfl) (vs := [some (.ref (g.ad i)), some (.int a1)]) rfl rfl ?_
  show GX g 0 RX0 cX0_hasChild 2 (some .boolean) (some (.int r)) mm 0 _ [] m
  unfold f_X0_hasChild at hm
  refine g_iloadn_1 dX0_hasChild_0 ?_
  refine g_if_lt 19 hm dX0_hasChild_1 (by decide) (fun hm => ?_) (fun hm => ?_)
  · refine g_iconst 0 dX0_hasChild_19 rfl ?_
    exact g_zretc hm rfl dX0_hasChild_20
  · refine g_iloadn_1 dX0_hasChild_4 ?_
    refine g_aloadn_0 dX0_hasChild_5 ?_
    refine g_getr (q := j) fo_0_0 Hi.1.1 Hi.1.2.1 rfl Hi.1.2.2 dX0_hasChild_6 ?_
    refine g_bipush 95 dX0_hasChild_9 rfl ?_
    refine g_ialoadc 95 rfl rfl Hi.2.1 Hi.2.2 dX0_hasChild_11 ?_
    refine g_icmp_ge 19 hm dX0_hasChild_12 (by decide) (fun hm => ?_) (fun hm => ?_)
    · refine g_iconst 0 dX0_hasChild_19 rfl ?_
      exact g_zretc hm rfl dX0_hasChild_20
    · refine g_iconst 1 dX0_hasChild_15 rfl ?_
      refine g_goto 20 dX0_hasChild_16 (by decide) ?_
      exact g_zretc hm rfl dX0_hasChild_20
def f_X0_hasElder (j : Nat) (m : Sg) (a1 : Int32) : Option (Int32 × Sg) :=
  (if a1 < 0 then some (0, m) else
  (if (m.1 j 96) ≤ a1 then some (0, m) else
  some (1, m)))
set_option maxRecDepth 4000 in
theorem c_X0_hasElder {g : Cf} {m mm : Sg} {r : Int32} {j : Nat} {i : Nat} {a1 : Int32} (Hi : CTY g i j) (hm : f_X0_hasElder j m a1 = some (r, mm)) : Cl g 0 yX0_hasElder cX0_hasElder 2 (some .boolean) [.ref (g.ad i), .int a1] m (some (.int r)) mm := by
  refine cl_of (by decide) (Nat.le_of_ble_eq_true rfl) (vs := [some (.ref (g.ad i)), some (.int a1)]) rfl rfl ?_
  show GX g 0 RX0 cX0_hasElder 2 (some .boolean) (some (.int r)) mm 0 _ [] m
  unfold f_X0_hasElder at hm
  refine g_iloadn_1 dX0_hasElder_0 ?_
  refine g_if_lt 19 hm dX0_hasElder_1 (by decide) (fun hm => ?_) (fun hm => ?_)
  · refine g_iconst 0 dX0_hasElder_19 rfl ?_
    exact g_zretc hm rfl dX0_hasElder_20
  · refine g_iloadn_1 dX0_hasElder_4 ?_
    refine g_aloadn_0 dX0_hasElder_5 ?_
    refine g_getr (q := j) fo_0_0 Hi.1.1 Hi.1.2.1 rfl Hi.1.2.2 dX0_hasElder_6 ?_
    refine g_bipush 96 dX0_hasElder_9 rfl ?_
    refine g_ialoadc 96 rfl rfl Hi.2.1 Hi.2.2 dX0_hasElder_11 ?_
    refine g_icmp_ge 19 hm dX0_hasElder_12 (by decide) (fun hm => ?_) (fun hm => ?_)
    · refine g_iconst 0 dX0_hasElder_19 rfl ?_
      exact g_zretc hm rfl dX0_hasElder_20
    · refine g_iconst 1 dX0_hasElder_15 rfl ?_
      refine g_goto 20 dX0_hasElder_16 (by decide) ?_
      exact g_zretc hm rfl dX0_hasElder_20
def f_X0_isNursery  (m : Sg) (a1 : Int32) : Option (Int32 × Sg) :=
  (if a1 < 0 then some (0, m) else
  (if 4 < a1 then some (0, m) else
  some (1, m)))
set_option maxRecDepth 4000 in
theorem c_X0_isNursery {g : Cf} {m mm : Sg} {r : Int32} {a1 : Int32} (hm : f_X0_isNursery  m a1 = some (r, mm)) : Cl g 0 yX0_isNursery cX0_isNursery 1 (some .boolean) [.int a1] m (some (.int r)) mm := by
  refine cl_of (by decide) (Nat.le_of_ble_eq_true rfl) (vs := [some (.int a1)]) rfl rfl ?_
  show GX g 0 RX0 cX0_isNursery 1 (some .boolean) (some (.int r)) mm 0 _ [] m
  unfold f_X0_isNursery at hm
  refine g_iloadn_0 dX0_isNursery_0 ?_
  refine g_if_lt 13 hm dX0_isNursery_1 (by decide) (fun hm => ?_) (fun hm => ?_)
  · refine g_iconst 0 dX0_isNursery_13 rfl ?_
    exact g_zretc hm rfl dX0_isNursery_14
  · refine g_iloadn_0 dX0_isNursery_4 ?_
    refine g_iconst 4 dX0_isNursery_5 rfl ?_
    refine g_icmp_gt 13 hm dX0_isNursery_6 (by decide) (fun hm => ?_) (fun hm => ?_)
    · refine g_iconst 0 dX0_isNursery_13 rfl ?_
      exact g_zretc hm rfl dX0_isNursery_14
    · refine g_iconst 1 dX0_isNursery_9 rfl ?_
      refine g_goto 14 dX0_isNursery_10 (by decide) ?_
      exact g_zretc hm rfl dX0_isNursery_14
def f_X0_isOfNursery (j : Nat) (m : Sg) (a1 : Int32) (a2 : Int32) : Option (Int32 × Sg) :=
  cal (f_X0_hasChild j m a1) (fun x2 m1 => (if x2 = 0 then some (0, m1) else
  cal (f_X0_kid j m1 a1 3) (fun x4 m3 => (if x4 = a2 then some (1, m3) else
  some (0, m3)))))
set_option maxRecDepth 4000 in
theorem c_X0_isOfNursery {g : Cf} {m mm : Sg} {r : Int32} {j : Nat} {i : Nat} {a1 : Int32} {a2 : Int32} (Hi : CTY g i j) (hm : f_X0_isOfNursery j m a1 a2 = some (r, mm)) : Cl g 1 yX0_isOfNursery cX0_isOfNursery 3 (some .boolean) [.ref (g.ad i), .int a1, .int a2] m (some (.int r)) mm := by
  refine cl_of (by decide) (Nat.le_of_ble_eq_true rfl) (vs := [some (.ref (g.ad i)), some (.int a1), some (.int a2)]) rfl rfl ?_
  show GX g 1 RX0 cX0_isOfNursery 3 (some .boolean) (some (.int r)) mm 0 _ [] m
  unfold f_X0_isOfNursery at hm
  refine g_aloadn_0 dX0_isOfNursery_0 ?_
  refine g_iloadn_1 dX0_isOfNursery_1 ?_
  refine g_v1 hm (fun _ _ h => c_X0_hasChild Hi h) Hi.1.1 (Hi.1.2.1 _ _) rfl ce_X0_hasChild lk_X0_32 rfl rfl dX0_isOfNursery_2 (fun x2 m1 hm => ?_)
  refine g_if_eq 22 hm dX0_isOfNursery_5 (by decide) (fun hm => ?_) (fun hm => ?_)
  · refine g_iconst 0 dX0_isOfNursery_22 rfl ?_
    exact g_zretc hm rfl dX0_isOfNursery_23
  · refine g_aloadn_0 dX0_isOfNursery_8 ?_
    refine g_iloadn_1 dX0_isOfNursery_9 ?_
    refine g_iconst 3 dX0_isOfNursery_10 rfl ?_
    refine g_v2 hm (fun _ _ h => c_X0_kid Hi h) Hi.1.1 (Hi.1.2.1 _ _) rfl ce_X0_kid lk_X0_36 rfl rfl dX0_isOfNursery_11 (fun x4 m3 hm => ?_)
    refine g_iloadn_2 dX0_isOfNursery_14 ?_
    refine g_icmp_ne 22 hm dX0_isOfNursery_15 (by decide) (fun hm => ?_) (fun hm => ?_)
    · refine g_iconst 0 dX0_isOfNursery_22 rfl ?_
      exact g_zretc hm rfl dX0_isOfNursery_23
    · refine g_iconst 1 dX0_isOfNursery_18 rfl ?_
      refine g_goto 23 dX0_isOfNursery_19 (by decide) ?_
      exact g_zretc hm rfl dX0_isOfNursery_23
def f_X0_isBelowGrowing (j : Nat) (m : Sg) (a1 : Int32) : Option (Int32 × Sg) :=
  cal (f_X0_kid j m a1 0) (fun x2 m1 => (if (m1.1 j 92) ≤ x2 then some (0, m1) else
  some (1, m1)))
set_option maxRecDepth 4000 in
theorem c_X0_isBelowGrowing {g : Cf} {m mm : Sg} {r : Int32} {j : Nat} {i : Nat} {a1 : Int32} (Hi : CTY g i j) (hm : f_X0_isBelowGrowing j m a1 = some (r, mm)) : Cl g 1 yX0_isBelowGrowing cX0_isBelowGrowing 2 (some .boolean) [.ref (g.ad i), .int a1] m (some (.int r)) mm := by
  refine cl_of (by decide) (Nat.le_of_ble_eq_true rfl) (vs := [some (.ref (g.ad i)), some (.int a1)]) rfl rfl ?_
  show GX g 1 RX0 cX0_isBelowGrowing 2 (some .boolean) (some (.int r)) mm 0 _ [] m
  unfold f_X0_isBelowGrowing at hm
  refine g_aloadn_0 dX0_isBelowGrowing_0 ?_
  refine g_iloadn_1 dX0_isBelowGrowing_1 ?_
  refine g_iconst 0 dX0_isBelowGrowing_2 rfl ?_
  refine g_v2 hm (fun _ _ h => c_X0_kid Hi h) Hi.1.1 (Hi.1.2.1 _ _) rfl ce_X0_kid lk_X0_36 rfl rfl dX0_isBelowGrowing_3 (fun x2 m1 hm => ?_)
  refine g_aloadn_0 dX0_isBelowGrowing_6 ?_
  refine g_getr (q := j) fo_0_0 Hi.1.1 Hi.1.2.1 rfl Hi.1.2.2 dX0_isBelowGrowing_7 ?_
  refine g_bipush 92 dX0_isBelowGrowing_10 rfl ?_
  refine g_ialoadc 92 rfl rfl Hi.2.1 Hi.2.2 dX0_isBelowGrowing_12 ?_
  refine g_icmp_ge 20 hm dX0_isBelowGrowing_13 (by decide) (fun hm => ?_) (fun hm => ?_)
  · refine g_iconst 0 dX0_isBelowGrowing_20 rfl ?_
    exact g_zretc hm rfl dX0_isBelowGrowing_21
  · refine g_iconst 1 dX0_isBelowGrowing_16 rfl ?_
    refine g_goto 21 dX0_isBelowGrowing_17 (by decide) ?_
    exact g_zretc hm rfl dX0_isBelowGrowing_21
def f_X0_isYounger (j : Nat) (m : Sg) (a1 : Int32) (a2 : Int32) : Option (Int32 × Sg) :=
  cal (f_X0_kid j m a1 0) (fun x2 m1 => cal (f_X0_kid j m1 a2 0) (fun x4 m3 => (if x4 ≤ x2 then some (0, m3) else
  some (1, m3))))
set_option maxRecDepth 4000 in
theorem c_X0_isYounger {g : Cf} {m mm : Sg} {r : Int32} {j : Nat} {i : Nat} {a1 : Int32} {a2 : Int32} (Hi : CTY g i j) (hm : f_X0_isYounger j m a1 a2 = some (r, mm)) : Cl g 1 yX0_isYounger cX0_isYounger 3 (some .boolean) [.ref (g.ad i), .int a1, .int a2] m (some (.int r)) mm := by
  refine cl_of (by decide) (Nat.le_of_ble_eq_true rfl) (vs := [some (.ref (g.ad i)), some (.int a1), some (.int a2)]) rfl rfl ?_
  show GX g 1 RX0 cX0_isYounger 3 (some .boolean) (some (.int r)) mm 0 _ [] m
  unfold f_X0_isYounger at hm
  refine g_aloadn_0 dX0_isYounger_0 ?_
  refine g_iloadn_1 dX0_isYounger_1 ?_
  refine g_iconst 0 dX0_isYounger_2 rfl ?_
  refine g_v2 hm (fun _ _ h => c_X0_kid Hi h) Hi.1.1 (Hi.1.2.1 _ _) rfl ce_X0_kid lk_X0_36 rfl rfl dX0_isYounger_3 (fun x2 m1 hm => ?_)
  refine g_aloadn_0 dX0_isYounger_6 ?_
  refine g_iloadn_2 dX0_isYounger_7 ?_
  refine g_iconst 0 dX0_isYounger_8 rfl ?_
  refine g_v2 hm (fun _ _ h => c_X0_kid Hi h) Hi.1.1 (Hi.1.2.1 _ _) rfl ce_X0_kid lk_X0_36 rfl rfl dX0_isYounger_9 (fun x4 m3 hm => ?_)
  refine g_icmp_ge 19 hm dX0_isYounger_12 (by decide) (fun hm => ?_) (fun hm => ?_)
  · refine g_iconst 0 dX0_isYounger_19 rfl ?_
    exact g_zretc hm rfl dX0_isYounger_20
  · refine g_iconst 1 dX0_isYounger_15 rfl ?_
    refine g_goto 20 dX0_isYounger_16 (by decide) ?_
    exact g_zretc hm rfl dX0_isYounger_20
def f_X0_goesFirst (j : Nat) (m : Sg) (a1 : Int32) (a2 : Int32) : Option (Int32 × Sg) :=
  cal (f_X0_isYounger j m a1 a2) (fun x2 m1 => bnd (fun (m3 : Sg) => some (1, m3)) (fun (k4 : Sg → Option (Int32 × Sg)) =>
  (if x2 = 0 then cal (f_X0_kid j m1 a1 0) (fun x6 m5 => cal (f_X0_kid j m5 a2 0) (fun x8 m7 => (if x6 = x8 then (if a2 ≤ a1 then some (0, m7) else
  k4 m7) else
  some (0, m7)))) else
  k4 m1)))
set_option maxRecDepth 4000 in
theorem c_X0_goesFirst {g : Cf} {m mm : Sg} {r : Int32} {j : Nat} {i : Nat} {a1 : Int32} {a2 : Int32} (Hi : CTY g i j) (hm : f_X0_goesFirst j m a1 a2 = some (r, mm)) : Cl g 2 yX0_goesFirst cX0_goesFirst 3 (some .boolean) [.ref (g.ad i), .int a1, .int a2] m (some (.int r)) mm := by
  refine cl_of (by decide) (Nat.le_of_ble_eq_true rfl) (vs := [some (.ref (g.ad i)), some (.int a1), some (.int a2)]) rfl rfl ?_
  show GX g 2 RX0 cX0_goesFirst 3 (some .boolean) (some (.int r)) mm 0 _ [] m
  unfold f_X0_goesFirst at hm
  refine g_aloadn_0 dX0_goesFirst_0 ?_
  refine g_iloadn_1 dX0_goesFirst_1 ?_
  refine g_iloadn_2 dX0_goesFirst_2 ?_
  refine g_v2 hm (fun _ _ h => c_X0_isYounger Hi h) Hi.1.1 (Hi.1.2.1 _ _) rfl ce_X0_isYounger lk_X0_40 rfl rfl dX0_goesFirst_3 (fun x2 m1 hm => ?_)
  refine g_jn (J := fun (s : Sg) => GX g 2 RX0 cX0_goesFirst 3 (some .boolean) (some (.int r)) mm 29 [none, none, none] [] s) hm ?_ ?_
  · intro m3 hm
    refine g_iconst 1 dX0_goesFirst_29 rfl ?_
    refine g_goto 34 dX0_goesFirst_30 (by decide) ?_
    exact g_zretc hm rfl dX0_goesFirst_34
  · intro k4 hk4 hm
    refine g_if_ne 29 hm dX0_goesFirst_6 (by decide) (fun hm => ?_) (fun hm => ?_)
    · refine g_weak (vs' := [none, none, none]) trivial ?_
      exact hk4 _ hm
    · refine g_aloadn_0 dX0_goesFirst_9 ?_
      refine g_iloadn_1 dX0_goesFirst_10 ?_
      refine g_iconst 0 dX0_goesFirst_11 rfl ?_
      refine g_v2 hm (fun _ _ h => c_X0_kid Hi h) Hi.1.1 (Hi.1.2.1 _ _) rfl ce_X0_kid lk_X0_36 rfl rfl dX0_goesFirst_12 (fun x6 m5 hm => ?_)
      refine g_aloadn_0 dX0_goesFirst_15 ?_
      refine g_iloadn_2 dX0_goesFirst_16 ?_
      refine g_iconst 0 dX0_goesFirst_17 rfl ?_
      refine g_v2 hm (fun _ _ h => c_X0_kid Hi h) Hi.1.1 (Hi.1.2.1 _ _) rfl ce_X0_kid lk_X0_36 rfl rfl dX0_goesFirst_18 (fun x8 m7 hm => ?_)
      refine g_icmp_ne 33 hm dX0_goesFirst_21 (by decide) (fun hm => ?_) (fun hm => ?_)
      · refine g_iconst 0 dX0_goesFirst_33 rfl ?_
        exact g_zretc hm rfl dX0_goesFirst_34
      · refine g_iloadn_1 dX0_goesFirst_24 ?_
        refine g_iloadn_2 dX0_goesFirst_25 ?_
        refine g_icmp_ge 33 hm dX0_goesFirst_26 (by decide) (fun hm => ?_) (fun hm => ?_)
        · refine g_iconst 0 dX0_goesFirst_33 rfl ?_
          exact g_zretc hm rfl dX0_goesFirst_34
        · refine g_weak (vs' := [none, none, none]) trivial ?_
          exact hk4 _ hm
def f_X0_bit (j : Nat) (m : Sg) (a1 : Int32) (a2 : Int32) (a3 : Int32) : Option (Int32 × Sg) :=
  cal (f_X0_kid j m a1 a2) (fun x2 m1 => (if ((x2 >>> (a3 &&& 31)) &&& 1) = 0 then some (0, m1) else
  some (1, m1)))
set_option maxRecDepth 4000 in
theorem c_X0_bit {g : Cf} {m mm : Sg} {r : Int32} {j : Nat} {i : Nat} {a1 : Int32} {a2 : Int32} {a3 : Int32} (Hi : CTY g i j) (hm : f_X0_bit j m a1 a2 a3 = some (r, mm)) : Cl g 1 yX0_bit cX0_bit 4 (some .boolean) [.ref (g.ad i), .int a1, .int a2, .int a3] m (some (.int r)) mm := by
  refine cl_of (by decide) (Nat.le_of_ble_eq_true rfl) (vs := [some (.ref (g.ad i)), some (.int a1), some (.int a2), some (.int a3)]) rfl rfl ?_
  show GX g 1 RX0 cX0_bit 4 (some .boolean) (some (.int r)) mm 0 _ [] m
  unfold f_X0_bit at hm
  refine g_aloadn_0 dX0_bit_0 ?_
  refine g_iloadn_1 dX0_bit_1 ?_
  refine g_iloadn_2 dX0_bit_2 ?_
  refine g_v2 hm (fun _ _ h => c_X0_kid Hi h) Hi.1.1 (Hi.1.2.1 _ _) rfl ce_X0_kid lk_X0_36 rfl rfl dX0_bit_3 (fun x2 m1 hm => ?_)
  refine g_iloadn_3 dX0_bit_6 ?_
  refine g_ishr dX0_bit_7 ?_
  refine g_iconst 1 dX0_bit_8 rfl ?_
  refine g_iand dX0_bit_9 ?_
  refine g_if_eq 17 hm dX0_bit_10 (by decide) (fun hm => ?_) (fun hm => ?_)
  · refine g_iconst 0 dX0_bit_17 rfl ?_
    exact g_zretc hm rfl dX0_bit_18
  · refine g_iconst 1 dX0_bit_13 rfl ?_
    refine g_goto 18 dX0_bit_14 (by decide) ?_
    exact g_zretc hm rfl dX0_bit_18
def f_X0_setBit (j : Nat) (m : Sg) (a1 : Int32) (a2 : Int32) (a3 : Int32) (a4 : Int32) : Option (Sg) :=
  cal (f_X0_kid j m a1 a2) (fun x2 m1 => bnd (x2 &&& ((1 <<< (a3 &&& 31)) ^^^ (-1))) (fun x3 => bnd (fun ((m4, x5) : Sg × Int32) => calv (f_X0_putKid j m4 a1 a2 x5) (fun m7 => some m7)) (fun (k6 : Sg × Int32 → Option (Sg)) =>
  (if a4 = 0 then k6 (m1, x3) else
  k6 (m1, (x3 ||| (1 <<< (a3 &&& 31))))))))
set_option maxRecDepth 4000 in
theorem c_X0_setBit {g : Cf} {m mm : Sg} {j : Nat} {i : Nat} {a1 : Int32} {a2 : Int32} {a3 : Int32} {a4 : Int32} (Hi : CTY g i j) (hm : f_X0_setBit j m a1 a2 a3 a4 = some mm) : Cl g 1 yX0_setBit cX0_setBit 6 none [.ref (g.ad i), .int a1, .int a2, .int a3, .int a4] m none mm := by
  refine cl_of (by decide) (Nat.le_of_ble_eq_true rfl) (vs := [some (.ref (g.ad i)), some (.int a1), some (.int a2), some (.int a3), some (.int a4), none]) rfl rfl ?_
  show GX g 1 RX0 cX0_setBit 6 none none mm 0 _ [] m
  unfold f_X0_setBit at hm
  refine g_aloadn_0 dX0_setBit_0 ?_
  refine g_iloadn_1 dX0_setBit_1 ?_
  refine g_iloadn_2 dX0_setBit_2 ?_
  refine g_v2 hm (fun _ _ h => c_X0_kid Hi h) Hi.1.1 (Hi.1.2.1 _ _) rfl ce_X0_kid lk_X0_36 rfl rfl dX0_setBit_3 (fun x2 m1 hm => ?_)
  refine g_iconst 1 dX0_setBit_6 rfl ?_
  refine g_iloadn_3 dX0_setBit_7 ?_
  refine g_ishl dX0_setBit_8 ?_
  refine g_iconst (-1) dX0_setBit_9 rfl ?_
  refine g_ixor dX0_setBit_10 ?_
  refine g_iand dX0_setBit_11 ?_
  refine g_istoreB_5 hm dX0_setBit_12 rfl (fun x3 hm => ?_)
  refine g_aloadn_0 dX0_setBit_14 ?_
  refine g_iloadn_1 dX0_setBit_15 ?_
  refine g_iloadn_2 dX0_setBit_16 ?_
  refine g_iload_4 dX0_setBit_17 ?_
  refine g_jn (J := fun (s : Sg × Int32) => GX g 1 RX0 cX0_setBit 6 none none mm 33 [none, none, none, none, none, none] [.int (s.2), .int a2, .int a1, .ref (g.ad i)] s.1) hm ?_ ?_
  · rintro ⟨m4, x5⟩ hm
    (try dsimp only at hm)
    (try dsimp only)
    refine g_v3V hm (fun _ h => c_X0_putKid Hi h) Hi.1.1 (Hi.1.2.1 _ _) rfl ce_X0_putKid lk_X0_21 rfl rfl dX0_setBit_33 (fun m7 hm => ?_)
    exact g_vret hm dX0_setBit_36
  · intro k6 hk6 hm
    refine g_if_eq 31 hm dX0_setBit_19 (by decide) (fun hm => ?_) (fun hm => ?_)
    · refine g_iload_5 dX0_setBit_31 ?_
      refine g_weak (vs' := [none, none, none, none, none, none]) trivial ?_
      exact hk6 _ hm
    · refine g_iload_5 dX0_setBit_22 ?_
      refine g_iconst 1 dX0_setBit_24 rfl ?_
      refine g_iloadn_3 dX0_setBit_25 ?_
      refine g_ishl dX0_setBit_26 ?_
      refine g_ior dX0_setBit_27 ?_
      refine g_goto 33 dX0_setBit_28 (by decide) ?_
      refine g_weak (vs' := [none, none, none, none, none, none]) trivial ?_
      exact hk6 _ hm
def f_X0_rightOf (j : Nat) (m : Sg) (a1 : Int32) : Option (Int32 × Sg) :=
  cal (f_X0_kid j m a1 1) (fun x2 m1 => cal (f_X0_kid j m1 a1 2) (fun x4 m3 => some (x2 &&& (x4 ^^^ (-1)), m3)))
set_option maxRecDepth 4000 in
theorem c_X0_rightOf {g : Cf} {m mm : Sg} {r : Int32} {j : Nat} {i : Nat} {a1 : Int32} (Hi : CTY g i j) (hm : f_X0_rightOf j m a1 = some (r, mm)) : Cl g 1 yX0_rightOf cX0_rightOf 2 (some .int) [.ref (g.ad i), .int a1] m (some (.int r)) mm := by
  refine cl_of (by decide) (Nat.le_of_ble_eq_true rfl) (vs := [some (.ref (g.ad i)), some (.int a1)]) rfl rfl ?_
  show GX g 1 RX0 cX0_rightOf 2 (some .int) (some (.int r)) mm 0 _ [] m
  unfold f_X0_rightOf at hm
  refine g_aloadn_0 dX0_rightOf_0 ?_
  refine g_iloadn_1 dX0_rightOf_1 ?_
  refine g_iconst 1 dX0_rightOf_2 rfl ?_
  refine g_v2 hm (fun _ _ h => c_X0_kid Hi h) Hi.1.1 (Hi.1.2.1 _ _) rfl ce_X0_kid lk_X0_36 rfl rfl dX0_rightOf_3 (fun x2 m1 hm => ?_)
  refine g_aloadn_0 dX0_rightOf_6 ?_
  refine g_iloadn_1 dX0_rightOf_7 ?_
  refine g_iconst 2 dX0_rightOf_8 rfl ?_
  refine g_v2 hm (fun _ _ h => c_X0_kid Hi h) Hi.1.1 (Hi.1.2.1 _ _) rfl ce_X0_kid lk_X0_36 rfl rfl dX0_rightOf_9 (fun x4 m3 hm => ?_)
  refine g_iconst (-1) dX0_rightOf_12 rfl ?_
  refine g_ixor dX0_rightOf_13 ?_
  refine g_iand dX0_rightOf_14 ?_
  exact g_iret hm dX0_rightOf_15
def f_X0_isRight (j : Nat) (m : Sg) (a1 : Int32) (a2 : Int32) : Option (Int32 × Sg) :=
  cal (f_X0_rightOf j m a1) (fun x2 m1 => (if ((x2 >>> (a2 &&& 31)) &&& 1) = 0 then some (0, m1) else
  some (1, m1)))
set_option maxRecDepth 4000 in
theorem c_X0_isRight {g : Cf} {m mm : Sg} {r : Int32} {j : Nat} {i : Nat} {a1 : Int32} {a2 : Int32} (Hi : CTY g i j) (hm : f_X0_isRight j m a1 a2 = some (r, mm)) : Cl g 2 yX0_isRight cX0_isRight 3 (some .boolean) [.ref (g.ad i), .int a1, .int a2] m (some (.int r)) mm := by
  refine cl_of (by decide) (Nat.le_of_ble_eq_true rfl) (vs := [some (.ref (g.ad i)), some (.int a1), some (.int a2)]) rfl rfl ?_
  show GX g 2 RX0 cX0_isRight 3 (some .boolean) (some (.int r)) mm 0 _ [] m
  unfold f_X0_isRight at hm
  refine g_aloadn_0 dX0_isRight_0 ?_
  refine g_iloadn_1 dX0_isRight_1 ?_
  refine g_v1 hm (fun _ _ h => c_X0_rightOf Hi h) Hi.1.1 (Hi.1.2.1 _ _) rfl ce_X0_rightOf lk_X0_44 rfl rfl dX0_isRight_2 (fun x2 m1 hm => ?_)
  refine g_iloadn_2 dX0_isRight_5 ?_
  refine g_ishr dX0_isRight_6 ?_
  refine g_iconst 1 dX0_isRight_7 rfl ?_
  refine g_iand dX0_isRight_8 ?_
  refine g_if_eq 16 hm dX0_isRight_9 (by decide) (fun hm => ?_) (fun hm => ?_)
  · refine g_iconst 0 dX0_isRight_16 rfl ?_
    exact g_zretc hm rfl dX0_isRight_17
  · refine g_iconst 1 dX0_isRight_12 rfl ?_
    refine g_goto 17 dX0_isRight_13 (by decide) ?_
    exact g_zretc hm rfl dX0_isRight_17
def f_X0_makeRight (j : Nat) (m : Sg) (a1 : Int32) (a2 : Int32) : Option (Sg) :=
  cal (f_X0_kid j m a1 1) (fun x2 m1 => calv (f_X0_putKid j m1 a1 1 (x2 ||| (1 <<< (a2 &&& 31)))) (fun m3 => cal (f_X0_kid j m3 a1 2) (fun x5 m4 => calv (f_X0_putKid j m4 a1 2 (x5 &&& ((1 <<< (a2 &&& 31)) ^^^ (-1)))) (fun m6 => some m6))))
set_option maxRecDepth 4000 in
theorem c_X0_makeRight {g : Cf} {m mm : Sg} {j : Nat} {i : Nat} {a1 : Int32} {a2 : Int32} (Hi : CTY g i j) (hm : f_X0_makeRight j m a1 a2 = some mm) : Cl g 1 yX0_makeRight cX0_makeRight 3 none [.ref (g.ad i), .int a1, .int a2] m none mm := by
  refine cl_of (by decide) (Nat.le_of_ble_eq_true rfl) (vs := [some (.ref (g.ad i)), some (.int a1), some (.int a2)]) rfl rfl ?_
  show GX g 1 RX0 cX0_makeRight 3 none none mm 0 _ [] m
  unfold f_X0_makeRight at hm
  refine g_aloadn_0 dX0_makeRight_0 ?_
  refine g_iloadn_1 dX0_makeRight_1 ?_
  refine g_iconst 1 dX0_makeRight_2 rfl ?_
  refine g_aloadn_0 dX0_makeRight_3 ?_
  refine g_iloadn_1 dX0_makeRight_4 ?_
  refine g_iconst 1 dX0_makeRight_5 rfl ?_
  refine g_v2 hm (fun _ _ h => c_X0_kid Hi h) Hi.1.1 (Hi.1.2.1 _ _) rfl ce_X0_kid lk_X0_36 rfl rfl dX0_makeRight_6 (fun x2 m1 hm => ?_)
  refine g_iconst 1 dX0_makeRight_9 rfl ?_
  refine g_iloadn_2 dX0_makeRight_10 ?_
  refine g_ishl dX0_makeRight_11 ?_
  refine g_ior dX0_makeRight_12 ?_
  refine g_v3V hm (fun _ h => c_X0_putKid Hi h) Hi.1.1 (Hi.1.2.1 _ _) rfl ce_X0_putKid lk_X0_21 rfl rfl dX0_makeRight_13 (fun m3 hm => ?_)
  refine g_aloadn_0 dX0_makeRight_16 ?_
  refine g_iloadn_1 dX0_makeRight_17 ?_
  refine g_iconst 2 dX0_makeRight_18 rfl ?_
  refine g_aloadn_0 dX0_makeRight_19 ?_
  refine g_iloadn_1 dX0_makeRight_20 ?_
  refine g_iconst 2 dX0_makeRight_21 rfl ?_
  refine g_v2 hm (fun _ _ h => c_X0_kid Hi h) Hi.1.1 (Hi.1.2.1 _ _) rfl ce_X0_kid lk_X0_36 rfl rfl dX0_makeRight_22 (fun x5 m4 hm => ?_)
  refine g_iconst 1 dX0_makeRight_25 rfl ?_
  refine g_iloadn_2 dX0_makeRight_26 ?_
  refine g_ishl dX0_makeRight_27 ?_
  refine g_iconst (-1) dX0_makeRight_28 rfl ?_
  refine g_ixor dX0_makeRight_29 ?_
  refine g_iand dX0_makeRight_30 ?_
  refine g_v3V hm (fun _ h => c_X0_putKid Hi h) Hi.1.1 (Hi.1.2.1 _ _) rfl ce_X0_putKid lk_X0_21 rfl rfl dX0_makeRight_31 (fun m6 hm => ?_)
  exact g_vret hm dX0_makeRight_34
def f_X0_lowestTen_L2 (a1 : Int32) : (Sg × Int32) → Option (((Sg × Int32) ⊕ (Sg)) ⊕ (Sg × Int32)) := fun s => match s with
  | (m1, x2) => 
  (if 9 ≤ x2 then some (.inl (.inr m1)) else
  (if ((a1 >>> (x2 &&& 31)) &&& 1) = 0 then bnd (x2 + 1) (fun x8 => some (.inr (m1, x8))) else
  some (.inl (.inl (m1, x2)))))
def f_X0_lowestTen  (m : Sg) (a1 : Int32) : Option (Int32 × Sg) :=
  lpk (f_X0_lowestTen_L2 a1) (m, 0) (fun x => match x with
  | .inl (m3, x4) => some (x4, m3)
  | .inr m5 => some ((-1), m5))
set_option maxRecDepth 4000 in
theorem c_X0_lowestTen {g : Cf} {m mm : Sg} {r : Int32} {a1 : Int32} (hm : f_X0_lowestTen  m a1 = some (r, mm)) : Cl g 0 yX0_lowestTen cX0_lowestTen 2 (some .int) [.int a1] m (some (.int r)) mm := by
  refine cl_of (by decide) (Nat.le_of_ble_eq_true rfl) (vs := [some (.int a1), none]) rfl rfl ?_
  show GX g 0 RX0 cX0_lowestTen 2 (some .int) (some (.int r)) mm 0 _ [] m
  unfold f_X0_lowestTen at hm
  refine g_iconst 0 dX0_lowestTen_0 rfl ?_
  refine g_istoren_1 dX0_lowestTen_1 rfl ?_
  refine g_lp (I := fun (s : Sg × Int32) => GX g 0 RX0 cX0_lowestTen 2 (some .int) (some (.int r)) mm 2 [some (.int a1), some (.int (s.2))] [] s.1) (E := fun (x : (Sg × Int32) ⊕ (Sg)) => match x with | .inl (m3, x4) => GX g 0 RX0 cX0_lowestTen 2 (some .int) (some (.int r)) mm 16 [none, some (.int x4)] [] m3 | .inr m5 => GX g 0 RX0 cX0_lowestTen 2 (some .int) (some (.int r)) mm 24 [none, none] [] m5) hm ?_ ?_
  · rintro (⟨m3, x4⟩ | m5) hm
    · (try dsimp only at hm)
      (try dsimp only)
      refine g_iloadn_1 dX0_lowestTen_16 ?_
      exact g_iret hm dX0_lowestTen_17
    · (try dsimp only at hm)
      (try dsimp only)
      refine g_iconst (-1) dX0_lowestTen_24 rfl ?_
      exact g_iret hm dX0_lowestTen_25
  · rintro ⟨m1, x2⟩ o hm hx7 hi6
    (try dsimp only [f_X0_lowestTen_L2] at hm)
    (try dsimp only)
    refine g_iloadn_1 dX0_lowestTen_2 ?_
    refine g_bipush 9 dX0_lowestTen_3 rfl ?_
    refine g_icmp_ge 24 hm dX0_lowestTen_5 (by decide) (fun hm => ?_) (fun hm => ?_)
    · refine g_weak (vs' := [none, none]) trivial ?_
      cases hm
      exact hx7 _ rfl
    · refine g_iloadn_0 dX0_lowestTen_8 ?_
      refine g_iloadn_1 dX0_lowestTen_9 ?_
      refine g_ishr dX0_lowestTen_10 ?_
      refine g_iconst 1 dX0_lowestTen_11 rfl ?_
      refine g_iand dX0_lowestTen_12 ?_
      refine g_if_eq 18 hm dX0_lowestTen_13 (by decide) (fun hm => ?_) (fun hm => ?_)
      · refine g_iinc_1 1 hm dX0_lowestTen_18 rfl rfl (fun x8 hm => ?_)
        refine g_goto 2 dX0_lowestTen_21 (by decide) ?_
        cases hm
        exact hi6 _ rfl
      · refine g_weak (vs' := [none, some (.int x2)]) ⟨rfl, trivial⟩ ?_
        cases hm
        exact hx7 _ rfl
def f_X0_lowestNotRight (j : Nat) (m : Sg) (a1 : Int32) : Option (Int32 × Sg) :=
  cal (f_X0_rightOf j m a1) (fun x2 m1 => cal (f_X0_lowestTen m1 (x2 ^^^ (-1))) (fun x4 m3 => some (x4, m3)))
set_option maxRecDepth 4000 in
theorem c_X0_lowestNotRight {g : Cf} {m mm : Sg} {r : Int32} {j : Nat} {i : Nat} {a1 : Int32} (Hi : CTY g i j) (hm : f_X0_lowestNotRight j m a1 = some (r, mm)) : Cl g 2 yX0_lowestNotRight cX0_lowestNotRight 2 (some .int) [.ref (g.ad i), .int a1] m (some (.int r)) mm := by
  refine cl_of (by decide) (Nat.le_of_ble_eq_true rfl) (vs := [some (.ref (g.ad i)), some (.int a1)]) rfl rfl ?_
  show GX g 2 RX0 cX0_lowestNotRight 2 (some .int) (some (.int r)) mm 0 _ [] m
  unfold f_X0_lowestNotRight at hm
  refine g_aloadn_0 dX0_lowestNotRight_0 ?_
  refine g_iloadn_1 dX0_lowestNotRight_1 ?_
  refine g_v1 hm (fun _ _ h => c_X0_rightOf Hi h) Hi.1.1 (Hi.1.2.1 _ _) rfl ce_X0_rightOf lk_X0_44 rfl rfl dX0_lowestNotRight_2 (fun x2 m1 hm => ?_)
  refine g_iconst (-1) dX0_lowestNotRight_5 rfl ?_
  refine g_ixor dX0_lowestNotRight_6 ?_
  refine g_s1 hm (fun _ _ h => c_X0_lowestTen h) ce_X0_lowestTen lk_X0_47 rfl rfl dX0_lowestNotRight_7 (fun x4 m3 hm => ?_)
  exact g_iret hm dX0_lowestNotRight_10
def f_X0_countOf (j : Nat) (m : Sg) (a1 : Int32) : Option (Int32 × Sg) :=
  cal (f_X0_lowestNotRight j m a1) (fun x2 m1 => bnd (fun ((m3, x4) : Sg × Int32) => some (10 * x4, m3)) (fun (k5 : Sg × Int32 → Option (Int32 × Sg)) =>
  (if x2 = (-1) then k5 (m1, 9) else
  k5 (m1, x2))))
set_option maxRecDepth 4000 in
theorem c_X0_countOf {g : Cf} {m mm : Sg} {r : Int32} {j : Nat} {i : Nat} {a1 : Int32} (Hi : CTY g i j) (hm : f_X0_countOf j m a1 = some (r, mm)) : Cl g 3 yX0_countOf cX0_countOf 3 (some .int) [.ref (g.ad i), .int a1] m (some (.int r)) mm := by
  refine cl_of (by decide) (Nat.le_of_ble_eq_true rfl) (vs := [some (.ref (g.ad i)), some (.int a1), none]) rfl rfl ?_
  show GX g 3 RX0 cX0_countOf 3 (some .int) (some (.int r)) mm 0 _ [] m
  unfold f_X0_countOf at hm
  refine g_aloadn_0 dX0_countOf_0 ?_
  refine g_iloadn_1 dX0_countOf_1 ?_
  refine g_v1 hm (fun _ _ h => c_X0_lowestNotRight Hi h) Hi.1.1 (Hi.1.2.1 _ _) rfl ce_X0_lowestNotRight lk_X0_50 rfl rfl dX0_countOf_2 (fun x2 m1 hm => ?_)
  refine g_istoren_2 dX0_countOf_5 rfl ?_
  refine g_bipush 10 dX0_countOf_6 rfl ?_
  refine g_iloadn_2 dX0_countOf_8 ?_
  refine g_iconst (-1) dX0_countOf_9 rfl ?_
  refine g_jn (J := fun (s : Sg × Int32) => GX g 3 RX0 cX0_countOf 3 (some .int) (some (.int r)) mm 19 [none, none, none] [.int (s.2), .int 10] s.1) hm ?_ ?_
  · rintro ⟨m3, x4⟩ hm
    (try dsimp only at hm)
    (try dsimp only)
    refine g_imul dX0_countOf_19 ?_
    exact g_iret hm dX0_countOf_20
  · intro k5 hk5 hm
    refine g_icmp_ne 18 hm dX0_countOf_10 (by decide) (fun hm => ?_) (fun hm => ?_)
    · refine g_iloadn_2 dX0_countOf_18 ?_
      refine g_weak (vs' := [none, none, none]) trivial ?_
      exact hk5 _ hm
    · refine g_bipush 9 dX0_countOf_13 rfl ?_
      refine g_goto 19 dX0_countOf_15 (by decide) ?_
      refine g_weak (vs' := [none, none, none]) trivial ?_
      exact hk5 _ hm
def f_X0_beginLesson (j : Nat) (m : Sg) (a1 : Int32) (a2 : Int32) : Option (Sg) :=
  calv (f_X0_putKid j m a1 6 a2) (fun m1 => cal (f_X0_kid j m1 a1 4) (fun x3 m2 => calv (f_X0_putKid j m2 a1 7 x3) (fun m4 => some m4)))
set_option maxRecDepth 4000 in
theorem c_X0_beginLesson {g : Cf} {m mm : Sg} {j : Nat} {i : Nat} {a1 : Int32} {a2 : Int32} (Hi : CTY g i j) (hm : f_X0_beginLesson j m a1 a2 = some mm) : Cl g 1 yX0_beginLesson cX0_beginLesson 3 none [.ref (g.ad i), .int a1, .int a2] m none mm := by
  refine cl_of (by decide) (Nat.le_of_ble_eq_true rfl) (vs := [some (.ref (g.ad i)), some (.int a1), some (.int a2)]) rfl rfl ?_
  show GX g 1 RX0 cX0_beginLesson 3 none none mm 0 _ [] m
  unfold f_X0_beginLesson at hm
  refine g_aloadn_0 dX0_beginLesson_0 ?_
  refine g_iloadn_1 dX0_beginLesson_1 ?_
  refine g_bipush 6 dX0_beginLesson_2 rfl ?_
  refine g_iloadn_2 dX0_beginLesson_4 ?_
  refine g_v3V hm (fun _ h => c_X0_putKid Hi h) Hi.1.1 (Hi.1.2.1 _ _) rfl ce_X0_putKid lk_X0_21 rfl rfl dX0_beginLesson_5 (fun m1 hm => ?_)
  refine g_aloadn_0 dX0_beginLesson_8 ?_
  refine g_iloadn_1 dX0_beginLesson_9 ?_
  refine g_bipush 7 dX0_beginLesson_10 rfl ?_
  refine g_aloadn_0 dX0_beginLesson_12 ?_
  refine g_iloadn_1 dX0_beginLesson_13 ?_
  refine g_iconst 4 dX0_beginLesson_14 rfl ?_
  refine g_v2 hm (fun _ _ h => c_X0_kid Hi h) Hi.1.1 (Hi.1.2.1 _ _) rfl ce_X0_kid lk_X0_36 rfl rfl dX0_beginLesson_15 (fun x3 m2 hm => ?_)
  refine g_v3V hm (fun _ h => c_X0_putKid Hi h) Hi.1.1 (Hi.1.2.1 _ _) rfl ce_X0_putKid lk_X0_21 rfl rfl dX0_beginLesson_18 (fun m4 hm => ?_)
  exact g_vret hm dX0_beginLesson_21
def f_X0_endLesson (j : Nat) (m : Sg) (a1 : Int32) : Option (Sg) :=
  calv (f_X0_putKid j m a1 6 (-1)) (fun m1 => calv (f_X0_putKid j m1 a1 7 0) (fun m2 => some m2))
set_option maxRecDepth 4000 in
theorem c_X0_endLesson {g : Cf} {m mm : Sg} {j : Nat} {i : Nat} {a1 : Int32} (Hi : CTY g i j) (hm : f_X0_endLesson j m a1 = some mm) : Cl g 1 yX0_endLesson cX0_endLesson 2 none [.ref (g.ad i), .int a1] m none mm := by
  refine cl_of (by decide) (Nat.le_of_ble_eq_true rfl) (vs := [some (.ref (g.ad i)), some (.int a1)]) rfl rfl ?_
  show GX g 1 RX0 cX0_endLesson 2 none none mm 0 _ [] m
  unfold f_X0_endLesson at hm
  refine g_aloadn_0 dX0_endLesson_0 ?_
  refine g_iloadn_1 dX0_endLesson_1 ?_
  refine g_bipush 6 dX0_endLesson_2 rfl ?_
  refine g_iconst (-1) dX0_endLesson_4 rfl ?_
  refine g_v3V hm (fun _ h => c_X0_putKid Hi h) Hi.1.1 (Hi.1.2.1 _ _) rfl ce_X0_putKid lk_X0_21 rfl rfl dX0_endLesson_5 (fun m1 hm => ?_)
  refine g_aloadn_0 dX0_endLesson_8 ?_
  refine g_iloadn_1 dX0_endLesson_9 ?_
  refine g_bipush 7 dX0_endLesson_10 rfl ?_
  refine g_iconst 0 dX0_endLesson_12 rfl ?_
  refine g_v3V hm (fun _ h => c_X0_putKid Hi h) Hi.1.1 (Hi.1.2.1 _ _) rfl ce_X0_putKid lk_X0_21 rfl rfl dX0_endLesson_13 (fun m2 hm => ?_)
  exact g_vret hm dX0_endLesson_16
def f_X0_setKept (j : Nat) (m : Sg) (a1 : Int32) (a2 : Int32) (a3 : Int32) : Option (Sg) :=
  calv (f_X0_setBit j m a1 8 a2 a3) (fun m1 => (if a3 = 0 then some m1 else
  cal (f_X0_kid j m1 a1 6) (fun x3 m2 => (if x3 = a2 then calv (f_X0_endLesson j m2 a1) (fun m4 => some m4) else
  some m2))))
set_option maxRecDepth 4000 in
theorem c_X0_setKept {g : Cf} {m mm : Sg} {j : Nat} {i : Nat} {a1 : Int32} {a2 : Int32} {a3 : Int32} (Hi : CTY g i j) (hm : f_X0_setKept j m a1 a2 a3 = some mm) : Cl g 2 yX0_setKept cX0_setKept 4 none [.ref (g.ad i), .int a1, .int a2, .int a3] m none mm := by
  refine cl_of (by decide) (Nat.le_of_ble_eq_true rfl) (vs := [some (.ref (g.ad i)), some (.int a1), some (.int a2), some (.int a3)]) rfl rfl ?_
  show GX g 2 RX0 cX0_setKept 4 none none mm 0 _ [] m
  unfold f_X0_setKept at hm
  refine g_aloadn_0 dX0_setKept_0 ?_
  refine g_iloadn_1 dX0_setKept_1 ?_
  refine g_bipush 8 dX0_setKept_2 rfl ?_
  refine g_iloadn_2 dX0_setKept_4 ?_
  refine g_iloadn_3 dX0_setKept_5 ?_
  refine g_v4V hm (fun _ h => c_X0_setBit Hi h) Hi.1.1 (Hi.1.2.1 _ _) rfl ce_X0_setBit lk_X0_53 rfl rfl dX0_setKept_6 (fun m1 hm => ?_)
  refine g_iloadn_3 dX0_setKept_9 ?_
  refine g_if_eq 29 hm dX0_setKept_10 (by decide) (fun hm => ?_) (fun hm => ?_)
  · exact g_vret hm dX0_setKept_29
  · refine g_aloadn_0 dX0_setKept_13 ?_
    refine g_iloadn_1 dX0_setKept_14 ?_
    refine g_bipush 6 dX0_setKept_15 rfl ?_
    refine g_v2 hm (fun _ _ h => c_X0_kid Hi h) Hi.1.1 (Hi.1.2.1 _ _) rfl ce_X0_kid lk_X0_36 rfl rfl dX0_setKept_17 (fun x3 m2 hm => ?_)
    refine g_iloadn_2 dX0_setKept_20 ?_
    refine g_icmp_ne 29 hm dX0_setKept_21 (by decide) (fun hm => ?_) (fun hm => ?_)
    · exact g_vret hm dX0_setKept_29
    · refine g_aloadn_0 dX0_setKept_24 ?_
      refine g_iloadn_1 dX0_setKept_25 ?_
      refine g_v1V hm (fun _ h => c_X0_endLesson Hi h) Hi.1.1 (Hi.1.2.1 _ _) rfl ce_X0_endLesson lk_X0_57 rfl rfl dX0_setKept_26 (fun m4 hm => ?_)
      exact g_vret hm dX0_setKept_29
def f_X0_triedTens (j : Nat) (m : Sg)  : Option (Int32 × Sg) :=
  some ((1 <<< ((m.1 j 93) &&& 31)) - 1, m)
set_option maxRecDepth 4000 in
theorem c_X0_triedTens {g : Cf} {m mm : Sg} {r : Int32} {j : Nat} {i : Nat} (Hi : CTY g i j) (hm : f_X0_triedTens j m  = some (r, mm)) : Cl g 0 yX0_triedTens cX0_triedTens 1 (some .int) [.ref (g.ad i)] m (some (.int r)) mm := by
  refine cl_of (by decide) (Nat.le_of_ble_eq_true rfl) (vs := [some (.ref (g.ad i))]) rfl rfl ?_
  show GX g 0 RX0 cX0_triedTens 1 (some .int) (some (.int r)) mm 0 _ [] m
  unfold f_X0_triedTens at hm
  refine g_iconst 1 dX0_triedTens_0 rfl ?_
  refine g_aloadn_0 dX0_triedTens_1 ?_
  refine g_getr (q := j) fo_0_0 Hi.1.1 Hi.1.2.1 rfl Hi.1.2.2 dX0_triedTens_2 ?_
  refine g_bipush 93 dX0_triedTens_5 rfl ?_
  refine g_ialoadc 93 rfl rfl Hi.2.1 Hi.2.2 dX0_triedTens_7 ?_
  refine g_ishl dX0_triedTens_8 ?_
  refine g_iconst 1 dX0_triedTens_9 rfl ?_
  refine g_isub dX0_triedTens_10 ?_
  exact g_iret hm dX0_triedTens_11
def f_X0_askedBy (j : Nat) (m : Sg) (a1 : Int32) : Option (Int32 × Sg) :=
  cal (f_X0_old j m a1 2) (fun x2 m1 => cal (f_X0_triedTens j m1) (fun x4 m3 => some (x2 &&& x4, m3)))
set_option maxRecDepth 4000 in
theorem c_X0_askedBy {g : Cf} {m mm : Sg} {r : Int32} {j : Nat} {i : Nat} {a1 : Int32} (Hi : CTY g i j) (hm : f_X0_askedBy j m a1 = some (r, mm)) : Cl g 1 yX0_askedBy cX0_askedBy 2 (some .int) [.ref (g.ad i), .int a1] m (some (.int r)) mm := by
  refine cl_of (by decide) (Nat.le_of_ble_eq_true rfl) (vs := [some (.ref (g.ad i)), some (.int a1)]) rfl rfl ?_
  show GX g 1 RX0 cX0_askedBy 2 (some .int) (some (.int r)) mm 0 _ [] m
  unfold f_X0_askedBy at hm
  refine g_aloadn_0 dX0_askedBy_0 ?_
  refine g_iloadn_1 dX0_askedBy_1 ?_
  refine g_iconst 2 dX0_askedBy_2 rfl ?_
  refine g_v2 hm (fun _ _ h => c_X0_old Hi h) Hi.1.1 (Hi.1.2.1 _ _) rfl ce_X0_old lk_X0_61 rfl rfl dX0_askedBy_3 (fun x2 m1 hm => ?_)
  refine g_aloadn_0 dX0_askedBy_6 ?_
  refine g_v0 hm (fun _ _ h => c_X0_triedTens Hi h) Hi.1.1 (Hi.1.2.1 _ _) rfl ce_X0_triedTens lk_X0_64 rfl rfl dX0_askedBy_7 (fun x4 m3 hm => ?_)
  refine g_iand dX0_askedBy_10 ?_
  exact g_iret hm dX0_askedBy_11
def f_X0_byStep  (m : Sg) (a1 : Int32) (a2 : Int32) : Option (Int32 × Sg) :=
  (if a2 = 2 then some (a1 &&& 341, m) else
  (if a2 = 3 then some (a1 &&& 73, m) else
  some (a1, m)))
set_option maxRecDepth 4000 in
theorem c_X0_byStep {g : Cf} {m mm : Sg} {r : Int32} {a1 : Int32} {a2 : Int32} (hm : f_X0_byStep  m a1 a2 = some (r, mm)) : Cl g 0 yX0_byStep cX0_byStep 2 (some .int) [.int a1, .int a2] m (some (.int r)) mm := by
  refine cl_of (by decide) (Nat.le_of_ble_eq_true rfl) (vs := [some (.int a1), some (.int a2)]) rfl rfl ?_
  show GX g 0 RX0 cX0_byStep 2 (some .int) (some (.int r)) mm 0 _ [] m
  unfold f_X0_byStep at hm
  refine g_iloadn_1 dX0_byStep_0 ?_
  refine g_iconst 2 dX0_byStep_1 rfl ?_
  refine g_icmp_ne 11 hm dX0_byStep_2 (by decide) (fun hm => ?_) (fun hm => ?_)
  · refine g_iloadn_1 dX0_byStep_11 ?_
    refine g_iconst 3 dX0_byStep_12 rfl ?_
    refine g_icmp_ne 23 hm dX0_byStep_13 (by decide) (fun hm => ?_) (fun hm => ?_)
    · refine g_iloadn_0 dX0_byStep_23 ?_
      exact g_iret hm dX0_byStep_24
    · refine g_iloadn_0 dX0_byStep_16 ?_
      refine g_bipush 73 dX0_byStep_17 rfl ?_
      refine g_iand dX0_byStep_19 ?_
      refine g_goto 24 dX0_byStep_20 (by decide) ?_
      exact g_iret hm dX0_byStep_24
  · refine g_iloadn_0 dX0_byStep_5 ?_
    refine g_sipush 341 dX0_byStep_6 rfl ?_
    refine g_iand dX0_byStep_9 ?_
    exact g_iret hm dX0_byStep_10
def f_X0_askedOf (j : Nat) (m : Sg) (a1 : Int32) (a2 : Int32) : Option (Int32 × Sg) :=
  cal (f_X0_kid j m a1 5) (fun x2 m1 => cal (f_X0_byStep m1 a2 x2) (fun x4 m3 => some (x4, m3)))
set_option maxRecDepth 4000 in
theorem c_X0_askedOf {g : Cf} {m mm : Sg} {r : Int32} {j : Nat} {i : Nat} {a1 : Int32} {a2 : Int32} (Hi : CTY g i j) (hm : f_X0_askedOf j m a1 a2 = some (r, mm)) : Cl g 1 yX0_askedOf cX0_askedOf 3 (some .int) [.ref (g.ad i), .int a1, .int a2] m (some (.int r)) mm := by
  refine cl_of (by decide) (Nat.le_of_ble_eq_true rfl) (vs := [some (.ref (g.ad i)), some (.int a1), some (.int a2)]) rfl rfl ?_
  show GX g 1 RX0 cX0_askedOf 3 (some .int) (some (.int r)) mm 0 _ [] m
  unfold f_X0_askedOf at hm
  refine g_iloadn_2 dX0_askedOf_0 ?_
  refine g_aloadn_0 dX0_askedOf_1 ?_
  refine g_iloadn_1 dX0_askedOf_2 ?_
  refine g_iconst 5 dX0_askedOf_3 rfl ?_
  refine g_v2 hm (fun _ _ h => c_X0_kid Hi h) Hi.1.1 (Hi.1.2.1 _ _) rfl ce_X0_kid lk_X0_36 rfl rfl dX0_askedOf_4 (fun x2 m1 hm => ?_)
  refine g_s2 hm (fun _ _ h => c_X0_byStep h) ce_X0_byStep lk_X0_68 rfl rfl dX0_askedOf_7 (fun x4 m3 hm => ?_)
  exact g_iret hm dX0_askedOf_10
def f_X0_lacks (j : Nat) (m : Sg) (a1 : Int32) (a2 : Int32) : Option (Int32 × Sg) :=
  cal (f_X0_kid j m a1 5) (fun x2 m1 => cal (f_X0_byStep m1 a2 x2) (fun x4 m3 => cal (f_X0_kid j m3 a1 1) (fun x6 m5 => cal (f_X0_kid j m5 a1 2) (fun x8 m7 => some (x4 &&& ((x6 ^^^ (-1)) ||| x8), m7)))))
set_option maxRecDepth 4000 in
theorem c_X0_lacks {g : Cf} {m mm : Sg} {r : Int32} {j : Nat} {i : Nat} {a1 : Int32} {a2 : Int32} (Hi : CTY g i j) (hm : f_X0_lacks j m a1 a2 = some (r, mm)) : Cl g 1 yX0_lacks cX0_lacks 3 (some .int) [.ref (g.ad i), .int a1, .int a2] m (some (.int r)) mm := by
  refine cl_of (by decide) (Nat.le_of_ble_eq_true rfl) (vs := [some (.ref (g.ad i)), some (.int a1), some (.int a2)]) rfl rfl ?_
  show GX g 1 RX0 cX0_lacks 3 (some .int) (some (.int r)) mm 0 _ [] m
  unfold f_X0_lacks at hm
  refine g_iloadn_2 dX0_lacks_0 ?_
  refine g_aloadn_0 dX0_lacks_1 ?_
  refine g_iloadn_1 dX0_lacks_2 ?_
  refine g_iconst 5 dX0_lacks_3 rfl ?_
  refine g_v2 hm (fun _ _ h => c_X0_kid Hi h) Hi.1.1 (Hi.1.2.1 _ _) rfl ce_X0_kid lk_X0_36 rfl rfl dX0_lacks_4 (fun x2 m1 hm => ?_)
  refine g_s2 hm (fun _ _ h => c_X0_byStep h) ce_X0_byStep lk_X0_68 rfl rfl dX0_lacks_7 (fun x4 m3 hm => ?_)
  refine g_aloadn_0 dX0_lacks_10 ?_
  refine g_iloadn_1 dX0_lacks_11 ?_
  refine g_iconst 1 dX0_lacks_12 rfl ?_
  refine g_v2 hm (fun _ _ h => c_X0_kid Hi h) Hi.1.1 (Hi.1.2.1 _ _) rfl ce_X0_kid lk_X0_36 rfl rfl dX0_lacks_13 (fun x6 m5 hm => ?_)
  refine g_iconst (-1) dX0_lacks_16 rfl ?_
  refine g_ixor dX0_lacks_17 ?_
  refine g_aloadn_0 dX0_lacks_18 ?_
  refine g_iloadn_1 dX0_lacks_19 ?_
  refine g_iconst 2 dX0_lacks_20 rfl ?_
  refine g_v2 hm (fun _ _ h => c_X0_kid Hi h) Hi.1.1 (Hi.1.2.1 _ _) rfl ce_X0_kid lk_X0_36 rfl rfl dX0_lacks_21 (fun x8 m7 hm => ?_)
  refine g_ior dX0_lacks_24 ?_
  refine g_iand dX0_lacks_25 ?_
  exact g_iret hm dX0_lacks_26
def f_X0_wants (j : Nat) (m : Sg) (a1 : Int32) (a2 : Int32) : Option (Int32 × Sg) :=
  cal (f_X0_askedBy j m a2) (fun x2 m1 => cal (f_X0_lacks j m1 a1 x2) (fun x4 m3 => some (x4, m3)))
set_option maxRecDepth 4000 in
theorem c_X0_wants {g : Cf} {m mm : Sg} {r : Int32} {j : Nat} {i : Nat} {a1 : Int32} {a2 : Int32} (Hi : CTY g i j) (hm : f_X0_wants j m a1 a2 = some (r, mm)) : Cl g 2 yX0_wants cX0_wants 3 (some .int) [.ref (g.ad i), .int a1, .int a2] m (some (.int r)) mm := by
  refine cl_of (by decide) (Nat.le_of_ble_eq_true rfl) (vs := [some (.ref (g.ad i)), some (.int a1), some (.int a2)]) rfl rfl ?_
  show GX g 2 RX0 cX0_wants 3 (some .int) (some (.int r)) mm 0 _ [] m
  unfold f_X0_wants at hm
  refine g_aloadn_0 dX0_wants_0 ?_
  refine g_iloadn_1 dX0_wants_1 ?_
  refine g_aloadn_0 dX0_wants_2 ?_
  refine g_iloadn_2 dX0_wants_3 ?_
  refine g_v1 hm (fun _ _ h => c_X0_askedBy Hi h) Hi.1.1 (Hi.1.2.1 _ _) rfl ce_X0_askedBy lk_X0_71 rfl rfl dX0_wants_4 (fun x2 m1 hm => ?_)
  refine g_v2 hm (fun _ _ h => c_X0_lacks Hi h) Hi.1.1 (Hi.1.2.1 _ _) rfl ce_X0_lacks lk_X0_74 rfl rfl dX0_wants_7 (fun x4 m3 hm => ?_)
  exact g_iret hm dX0_wants_10
def f_X0_stands (j : Nat) (m : Sg) (a1 : Int32) (a2 : Int32) : Option (Int32 × Sg) :=
  cal (f_X0_wants j m a1 a2) (fun x2 m1 => (if x2 = 0 then some (1, m1) else
  some (0, m1)))
set_option maxRecDepth 4000 in
theorem c_X0_stands {g : Cf} {m mm : Sg} {r : Int32} {j : Nat} {i : Nat} {a1 : Int32} {a2 : Int32} (Hi : CTY g i j) (hm : f_X0_stands j m a1 a2 = some (r, mm)) : Cl g 3 yX0_stands cX0_stands 3 (some .boolean) [.ref (g.ad i), .int a1, .int a2] m (some (.int r)) mm := by
  refine cl_of (by decide) (Nat.le_of_ble_eq_true rfl) (vs := [some (.ref (g.ad i)), some (.int a1), some (.int a2)]) rfl rfl ?_
  show GX g 3 RX0 cX0_stands 3 (some .boolean) (some (.int r)) mm 0 _ [] m
  unfold f_X0_stands at hm
  refine g_aloadn_0 dX0_stands_0 ?_
  refine g_iloadn_1 dX0_stands_1 ?_
  refine g_iloadn_2 dX0_stands_2 ?_
  refine g_v2 hm (fun _ _ h => c_X0_wants Hi h) Hi.1.1 (Hi.1.2.1 _ _) rfl ce_X0_wants lk_X0_77 rfl rfl dX0_stands_3 (fun x2 m1 hm => ?_)
  refine g_if_ne 13 hm dX0_stands_6 (by decide) (fun hm => ?_) (fun hm => ?_)
  · refine g_iconst 0 dX0_stands_13 rfl ?_
    exact g_zretc hm rfl dX0_stands_14
  · refine g_iconst 1 dX0_stands_9 rfl ?_
    refine g_goto 14 dX0_stands_10 (by decide) ?_
    exact g_zretc hm rfl dX0_stands_14
def f_X0_trierWithout_L4 (j : Nat) (a1 : Int32) : (Sg × Int32 × Int32) → Option (((Sg × Int32)) ⊕ (Sg × Int32 × Int32)) := fun s => match s with
  | (m1, x2, x3) => 
  (if (m1.1 j 96) ≤ x3 then some (.inl (m1, x2)) else
  bnd (fun ((m8, x9) : Sg × Int32) => bnd (fun ((m11, x12) : Sg × Int32) => bnd (x3 + 1) (fun x14 => some (.inr (m11, x12, x14)))) (fun (k13 : Sg × Int32 → Option (((Sg × Int32)) ⊕ (Sg × Int32 × Int32))) =>
  (if x9 = 0 then k13 (m8, x2) else
  bnd (fun (m15 : Sg) => k13 (m15, x3)) (fun (k16 : Sg → Option (((Sg × Int32)) ⊕ (Sg × Int32 × Int32))) =>
  (if x2 = (-1) then k16 m8 else
  cal (f_X0_old j m8 x3 0) (fun x18 m17 => cal (f_X0_old j m17 x2 0) (fun x20 m19 => (if x18 ≤ x20 then k13 (m19, x2) else
  k16 m19)))))))) (fun (k10 : Sg × Int32 → Option (((Sg × Int32)) ⊕ (Sg × Int32 × Int32))) =>
  bnd (fun (m21 : Sg) => k10 (m21, 0)) (fun (k22 : Sg → Option (((Sg × Int32)) ⊕ (Sg × Int32 × Int32))) =>
  (if ((a1 >>> (x3 &&& 31)) &&& 1) = 0 then cal (f_X0_askedBy j m1 x3) (fun x24 m23 => (if x24 = 0 then k22 m23 else
  k10 (m23, 1))) else
  k22 m1))))
def f_X0_trierWithout (j : Nat) (m : Sg) (a1 : Int32) : Option (Int32 × Sg) :=
  lpk (f_X0_trierWithout_L4 j a1) (m, (-1), 0) (fun ((m4, x5) : Sg × Int32) => some (x5, m4))
set_option maxRecDepth 4000 in
theorem c_X0_trierWithout {g : Cf} {m mm : Sg} {r : Int32} {j : Nat} {i : Nat} {a1 : Int32} (Hi : CTY g i j) (hm : f_X0_trierWithout j m a1 = some (r, mm)) : Cl g 2 yX0_trierWithout cX0_trierWithout 5 (some .int) [.ref (g.ad i), .int a1] m (some (.int r)) mm := by
  refine cl_of (by decide) (Nat.le_of_ble_eq_true rfl) (vs := [some (.ref (g.ad i)), some (.int a1), none, none, none]) rfl rfl ?_
  show GX g 2 RX0 cX0_trierWithout 5 (some .int) (some (.int r)) mm 0 _ [] m
  unfold f_X0_trierWithout at hm
  refine g_iconst (-1) dX0_trierWithout_0 rfl ?_
  refine g_istoren_2 dX0_trierWithout_1 rfl ?_
  refine g_iconst 0 dX0_trierWithout_2 rfl ?_
  refine g_istoren_3 dX0_trierWithout_3 rfl ?_
  refine g_lp (I := fun (s : Sg × Int32 × Int32) => GX g 2 RX0 cX0_trierWithout 5 (some .int) (some (.int r)) mm 4 [some (.ref (g.ad i)), some (.int a1), some (.int (s.2.1)), some (.int (s.2.2)), none] [] s.1) (E := fun (s : Sg × Int32) => GX g 2 RX0 cX0_trierWithout 5 (some .int) (some (.int r)) mm 71 [none, none, some (.int (s.2)), none, none] [] s.1) hm ?_ ?_
  · rintro ⟨m4, x5⟩ hm
    (try dsimp only at hm)
    (try dsimp only)
    refine g_iloadn_2 dX0_trierWithout_71 ?_
    exact g_iret hm dX0_trierWithout_72
  · rintro ⟨m1, x2, x3⟩ o hm hx7 hi6
    (try dsimp only [f_X0_trierWithout_L4] at hm)
    (try dsimp only)
    refine g_iloadn_3 dX0_trierWithout_4 ?_
    refine g_aloadn_0 dX0_trierWithout_5 ?_
    refine g_getr (q := j) fo_0_0 Hi.1.1 Hi.1.2.1 rfl Hi.1.2.2 dX0_trierWithout_6 ?_
    refine g_bipush 96 dX0_trierWithout_9 rfl ?_
    refine g_ialoadc 96 rfl rfl Hi.2.1 Hi.2.2 dX0_trierWithout_11 ?_
    refine g_icmp_ge 71 hm dX0_trierWithout_12 (by decide) (fun hm => ?_) (fun hm => ?_)
    · refine g_weak (vs' := [none, none, some (.int x2), none, none]) ⟨rfl, trivial⟩ ?_
      cases hm
      exact hx7 _ rfl
    · refine g_iloadn_1 dX0_trierWithout_15 ?_
      refine g_iloadn_3 dX0_trierWithout_16 ?_
      refine g_ishr dX0_trierWithout_17 ?_
      refine g_iconst 1 dX0_trierWithout_18 rfl ?_
      refine g_iand dX0_trierWithout_19 ?_
      refine g_jn (J := fun (s : Sg × Int32) => GX g 2 RX0 cX0_trierWithout 5 (some .int) (some (.int r)) mm 36 [some (.ref (g.ad i)), some (.int a1), some (.int x2), some (.int x3), none] [.int (s.2)] s.1) hm ?_ ?_
      · rintro ⟨m8, x9⟩ hm
        (try dsimp only at hm)
        (try dsimp only)
        refine g_istore_4 dX0_trierWithout_36 rfl ?_
        refine g_iload_4 dX0_trierWithout_38 ?_
        refine g_jn (J := fun (s : Sg × Int32) => GX g 2 RX0 cX0_trierWithout 5 (some .int) (some (.int r)) mm 65 [some (.ref (g.ad i)), some (.int a1), some (.int (s.2)), some (.int x3), none] [] s.1) hm ?_ ?_
        · rintro ⟨m11, x12⟩ hm
          (try dsimp only at hm)
          (try dsimp only)
          refine g_iinc_3 1 hm dX0_trierWithout_65 rfl rfl (fun x14 hm => ?_)
          refine g_goto 4 dX0_trierWithout_68 (by decide) ?_
          cases hm
          exact hi6 _ rfl
        · intro k13 hk13 hm
          refine g_if_eq 65 hm dX0_trierWithout_40 (by decide) (fun hm => ?_) (fun hm => ?_)
          · refine g_weak (vs' := [some (.ref (g.ad i)), some (.int a1), some (.int x2), some (.int x3), none]) ⟨rfl, ⟨rfl, ⟨rfl, ⟨rfl, trivial⟩⟩⟩⟩ ?_
            exact hk13 _ hm
          · refine g_iloadn_2 dX0_trierWithout_43 ?_
            refine g_iconst (-1) dX0_trierWithout_44 rfl ?_
            refine g_jn (J := fun (s : Sg) => GX g 2 RX0 cX0_trierWithout 5 (some .int) (some (.int r)) mm 63 [some (.ref (g.ad i)), some (.int a1), none, some (.int x3), none] [] s) hm ?_ ?_
            · intro m15 hm
              refine g_iloadn_3 dX0_trierWithout_63 ?_
              refine g_istoren_2 dX0_trierWithout_64 rfl ?_
              exact hk13 _ hm
            · intro k16 hk16 hm
              refine g_icmp_eq 63 hm dX0_trierWithout_45 (by decide) (fun hm => ?_) (fun hm => ?_)
              · refine g_weak (vs' := [some (.ref (g.ad i)), some (.int a1), none, some (.int x3), none]) ⟨rfl, ⟨rfl, ⟨rfl, trivial⟩⟩⟩ ?_
                exact hk16 _ hm
              · refine g_aloadn_0 dX0_trierWithout_48 ?_
                refine g_iloadn_3 dX0_trierWithout_49 ?_
                refine g_iconst 0 dX0_trierWithout_50 rfl ?_
                refine g_v2 hm (fun _ _ h => c_X0_old Hi h) Hi.1.1 (Hi.1.2.1 _ _) rfl ce_X0_old lk_X0_61 rfl rfl dX0_trierWithout_51 (fun x18 m17 hm => ?_)
                refine g_aloadn_0 dX0_trierWithout_54 ?_
                refine g_iloadn_2 dX0_trierWithout_55 ?_
                refine g_iconst 0 dX0_trierWithout_56 rfl ?_
                refine g_v2 hm (fun _ _ h => c_X0_old Hi h) Hi.1.1 (Hi.1.2.1 _ _) rfl ce_X0_old lk_X0_61 rfl rfl dX0_trierWithout_57 (fun x20 m19 hm => ?_)
                refine g_icmp_le 65 hm dX0_trierWithout_60 (by decide) (fun hm => ?_) (fun hm => ?_)
                · refine g_weak (vs' := [some (.ref (g.ad i)), some (.int a1), some (.int x2), some (.int x3), none]) ⟨rfl, ⟨rfl, ⟨rfl, ⟨rfl, trivial⟩⟩⟩⟩ ?_
                  exact hk13 _ hm
                · refine g_weak (vs' := [some (.ref (g.ad i)), some (.int a1), none, some (.int x3), none]) ⟨rfl, ⟨rfl, ⟨rfl, trivial⟩⟩⟩ ?_
                  exact hk16 _ hm
      · intro k10 hk10 hm
        refine g_jn (J := fun (s : Sg) => GX g 2 RX0 cX0_trierWithout 5 (some .int) (some (.int r)) mm 35 [some (.ref (g.ad i)), some (.int a1), some (.int x2), some (.int x3), none] [] s) hm ?_ ?_
        · intro m21 hm
          refine g_iconst 0 dX0_trierWithout_35 rfl ?_
          exact hk10 _ hm
        · intro k22 hk22 hm
          refine g_if_ne 35 hm dX0_trierWithout_20 (by decide) (fun hm => ?_) (fun hm => ?_)
          · exact hk22 _ hm
          · refine g_aloadn_0 dX0_trierWithout_23 ?_
            refine g_iloadn_3 dX0_trierWithout_24 ?_
            refine g_v1 hm (fun _ _ h => c_X0_askedBy Hi h) Hi.1.1 (Hi.1.2.1 _ _) rfl ce_X0_askedBy lk_X0_71 rfl rfl dX0_trierWithout_25 (fun x24 m23 hm => ?_)
            refine g_if_eq 35 hm dX0_trierWithout_28 (by decide) (fun hm => ?_) (fun hm => ?_)
            · exact hk22 _ hm
            · refine g_iconst 1 dX0_trierWithout_31 rfl ?_
              refine g_goto 36 dX0_trierWithout_32 (by decide) ?_
              exact hk10 _ hm
def f_X0_goOnWithLesson (j : Nat) (m : Sg) (a1 : Int32) : Option (Sg) :=
  cal (f_X0_kid j m a1 7) (fun x2 m1 => bnd (x2 - 1) (fun x3 => (if x3 ≤ 0 then cal (f_X0_kid j m1 a1 6) (fun x5 m4 => calv (f_X0_makeRight j m4 a1 x5) (fun m6 => calv (f_X0_endLesson j m6 a1) (fun m7 => some m7))) else
  calv (f_X0_putKid j m1 a1 7 x3) (fun m8 => some m8))))
set_option maxRecDepth 4000 in
theorem c_X0_goOnWithLesson {g : Cf} {m mm : Sg} {j : Nat} {i : Nat} {a1 : Int32} (Hi : CTY g i j) (hm : f_X0_goOnWithLesson j m a1 = some mm) : Cl g 2 yX0_goOnWithLesson cX0_goOnWithLesson 3 none [.ref (g.ad i), .int a1] m none mm := by
  refine cl_of (by decide) (Nat.le_of_ble_eq_true rfl) (vs := [some (.ref (g.ad i)), some (.int a1), none]) rfl rfl ?_
  show GX g 2 RX0 cX0_goOnWithLesson 3 none none mm 0 _ [] m
  unfold f_X0_goOnWithLesson at hm
  refine g_aloadn_0 dX0_goOnWithLesson_0 ?_
  refine g_iloadn_1 dX0_goOnWithLesson_1 ?_
  refine g_bipush 7 dX0_goOnWithLesson_2 rfl ?_
  refine g_v2 hm (fun _ _ h => c_X0_kid Hi h) Hi.1.1 (Hi.1.2.1 _ _) rfl ce_X0_kid lk_X0_36 rfl rfl dX0_goOnWithLesson_4 (fun x2 m1 hm => ?_)
  refine g_iconst 1 dX0_goOnWithLesson_7 rfl ?_
  refine g_isub dX0_goOnWithLesson_8 ?_
  refine g_istoreBn_2 hm dX0_goOnWithLesson_9 rfl (fun x3 hm => ?_)
  refine g_iloadn_2 dX0_goOnWithLesson_10 ?_
  refine g_if_le 25 hm dX0_goOnWithLesson_11 (by decide) (fun hm => ?_) (fun hm => ?_)
  · refine g_aloadn_0 dX0_goOnWithLesson_25 ?_
    refine g_iloadn_1 dX0_goOnWithLesson_26 ?_
    refine g_aloadn_0 dX0_goOnWithLesson_27 ?_
    refine g_iloadn_1 dX0_goOnWithLesson_28 ?_
    refine g_bipush 6 dX0_goOnWithLesson_29 rfl ?_
    refine g_v2 hm (fun _ _ h => c_X0_kid Hi h) Hi.1.1 (Hi.1.2.1 _ _) rfl ce_X0_kid lk_X0_36 rfl rfl dX0_goOnWithLesson_31 (fun x5 m4 hm => ?_)
    refine g_v2V hm (fun _ h => c_X0_makeRight Hi h) Hi.1.1 (Hi.1.2.1 _ _) rfl ce_X0_makeRight lk_X0_94 rfl rfl dX0_goOnWithLesson_34 (fun m6 hm => ?_)
    refine g_aloadn_0 dX0_goOnWithLesson_37 ?_
    refine g_iloadn_1 dX0_goOnWithLesson_38 ?_
    refine g_v1V hm (fun _ h => c_X0_endLesson Hi h) Hi.1.1 (Hi.1.2.1 _ _) rfl ce_X0_endLesson lk_X0_57 rfl rfl dX0_goOnWithLesson_39 (fun m7 hm => ?_)
    exact g_vret hm dX0_goOnWithLesson_42
  · refine g_aloadn_0 dX0_goOnWithLesson_14 ?_
    refine g_iloadn_1 dX0_goOnWithLesson_15 ?_
    refine g_bipush 7 dX0_goOnWithLesson_16 rfl ?_
    refine g_iloadn_2 dX0_goOnWithLesson_18 ?_
    refine g_v3V hm (fun _ h => c_X0_putKid Hi h) Hi.1.1 (Hi.1.2.1 _ _) rfl ce_X0_putKid lk_X0_21 rfl rfl dX0_goOnWithLesson_19 (fun m8 hm => ?_)
    refine g_goto 42 dX0_goOnWithLesson_22 (by decide) ?_
    exact g_vret hm dX0_goOnWithLesson_42
def f_X0_claimant_L5 (j : Nat) (a1 : Int32) (a2 : Int32) : (Sg × Int32 × Int32) → Option (((Sg × Int32)) ⊕ (Sg × Int32 × Int32)) := fun s => match s with
  | (m1, x2, x3) => 
  (if (m1.1 j 95) ≤ x3 then some (.inl (m1, x2)) else
  bnd (fun ((m8, x9) : Sg × Int32) => bnd (fun ((m11, x12) : Sg × Int32) => bnd (x3 + 1) (fun x14 => some (.inr (m11, x12, x14)))) (fun (k13 : Sg × Int32 → Option (((Sg × Int32)) ⊕ (Sg × Int32 × Int32))) =>
  (if x9 = 0 then k13 (m8, x2) else
  bnd (fun (m15 : Sg) => k13 (m15, x3)) (fun (k16 : Sg → Option (((Sg × Int32)) ⊕ (Sg × Int32 × Int32))) =>
  (if x2 = (-1) then k16 m8 else
  cal (f_X0_isYounger j m8 x3 x2) (fun x18 m17 => (if x18 = 0 then k13 (m17, x2) else
  k16 m17))))))) (fun (k10 : Sg × Int32 → Option (((Sg × Int32)) ⊕ (Sg × Int32 × Int32))) =>
  bnd (fun (m19 : Sg) => k10 (m19, 0)) (fun (k20 : Sg → Option (((Sg × Int32)) ⊕ (Sg × Int32 × Int32))) =>
  (if x3 = a2 then k20 m1 else
  cal (f_X0_isBelowGrowing j m1 x3) (fun x22 m21 => (if x22 = 0 then k20 m21 else
  cal (f_X0_lacks j m21 x3 a1) (fun x24 m23 => (if x24 = 0 then k10 (m23, 1) else
  k20 m23))))))))
def f_X0_claimant (j : Nat) (m : Sg) (a1 : Int32) (a2 : Int32) : Option (Int32 × Sg) :=
  lpk (f_X0_claimant_L5 j a1 a2) (m, (-1), 0) (fun ((m4, x5) : Sg × Int32) => some (x5, m4))
set_option maxRecDepth 4000 in
theorem c_X0_claimant {g : Cf} {m mm : Sg} {r : Int32} {j : Nat} {i : Nat} {a1 : Int32} {a2 : Int32} (Hi : CTY g i j) (hm : f_X0_claimant j m a1 a2 = some (r, mm)) : Cl g 2 yX0_claimant cX0_claimant 6 (some .int) [.ref (g.ad i), .int a1, .int a2] m (some (.int r)) mm := by
  refine cl_of (by decide) (Nat.le_of_ble_eq_true rfl) (vs := [some (.ref (g.ad i)), some (.int a1), some (.int a2), none, none, none]) rfl rfl ?_
  show GX g 2 RX0 cX0_claimant 6 (some .int) (some (.int r)) mm 0 _ [] m
  unfold f_X0_claimant at hm
  refine g_iconst (-1) dX0_claimant_0 rfl ?_
  refine g_istoren_3 dX0_claimant_1 rfl ?_
  refine g_iconst 0 dX0_claimant_2 rfl ?_
  refine g_istore_4 dX0_claimant_3 rfl ?_
  refine g_lp (I := fun (s : Sg × Int32 × Int32) => GX g 2 RX0 cX0_claimant 6 (some .int) (some (.int r)) mm 5 [some (.ref (g.ad i)), some (.int a1), some (.int a2), some (.int (s.2.1)), some (.int (s.2.2)), none] [] s.1) (E := fun (s : Sg × Int32) => GX g 2 RX0 cX0_claimant 6 (some .int) (some (.int r)) mm 78 [none, none, none, some (.int (s.2)), none, none] [] s.1) hm ?_ ?_
  · rintro ⟨m4, x5⟩ hm
    (try dsimp only at hm)
    (try dsimp only)
    refine g_iloadn_3 dX0_claimant_78 ?_
    exact g_iret hm dX0_claimant_79
  · rintro ⟨m1, x2, x3⟩ o hm hx7 hi6
    (try dsimp only [f_X0_claimant_L5] at hm)
    (try dsimp only)
    refine g_iload_4 dX0_claimant_5 ?_
    refine g_aloadn_0 dX0_claimant_7 ?_
    refine g_getr (q := j) fo_0_0 Hi.1.1 Hi.1.2.1 rfl Hi.1.2.2 dX0_claimant_8 ?_
    refine g_bipush 95 dX0_claimant_11 rfl ?_
    refine g_ialoadc 95 rfl rfl Hi.2.1 Hi.2.2 dX0_claimant_13 ?_
    refine g_icmp_ge 78 hm dX0_claimant_14 (by decide) (fun hm => ?_) (fun hm => ?_)
    · refine g_weak (vs' := [none, none, none, some (.int x2), none, none]) ⟨rfl, trivial⟩ ?_
      cases hm
      exact hx7 _ rfl
    · refine g_iload_4 dX0_claimant_17 ?_
      refine g_iloadn_2 dX0_claimant_19 ?_
      refine g_jn (J := fun (s : Sg × Int32) => GX g 2 RX0 cX0_claimant 6 (some .int) (some (.int r)) mm 47 [some (.ref (g.ad i)), some (.int a1), some (.int a2), some (.int x2), some (.int x3), none] [.int (s.2)] s.1) hm ?_ ?_
      · rintro ⟨m8, x9⟩ hm
        (try dsimp only at hm)
        (try dsimp only)
        refine g_istore_5 dX0_claimant_47 rfl ?_
        refine g_iload_5 dX0_claimant_49 ?_
        refine g_jn (J := fun (s : Sg × Int32) => GX g 2 RX0 cX0_claimant 6 (some .int) (some (.int r)) mm 72 [some (.ref (g.ad i)), some (.int a1), some (.int a2), some (.int (s.2)), some (.int x3), none] [] s.1) hm ?_ ?_
        · rintro ⟨m11, x12⟩ hm
          (try dsimp only at hm)
          (try dsimp only)
          refine g_iinc_4 1 hm dX0_claimant_72 rfl rfl (fun x14 hm => ?_)
          refine g_goto 5 dX0_claimant_75 (by decide) ?_
          cases hm
          exact hi6 _ rfl
        · intro k13 hk13 hm
          refine g_if_eq 72 hm dX0_claimant_51 (by decide) (fun hm => ?_) (fun hm => ?_)
          · refine g_weak (vs' := [some (.ref (g.ad i)), some (.int a1), some (.int a2), some (.int x2), some (.int x3), none]) ⟨rfl, ⟨rfl, ⟨rfl, ⟨rfl, ⟨rfl, trivial⟩⟩⟩⟩⟩ ?_
            exact hk13 _ hm
          · refine g_iloadn_3 dX0_claimant_54 ?_
            refine g_iconst (-1) dX0_claimant_55 rfl ?_
            refine g_jn (J := fun (s : Sg) => GX g 2 RX0 cX0_claimant 6 (some .int) (some (.int r)) mm 69 [some (.ref (g.ad i)), some (.int a1), some (.int a2), none, some (.int x3), none] [] s) hm ?_ ?_
            · intro m15 hm
              refine g_iload_4 dX0_claimant_69 ?_
              refine g_istoren_3 dX0_claimant_71 rfl ?_
              exact hk13 _ hm
            · intro k16 hk16 hm
              refine g_icmp_eq 69 hm dX0_claimant_56 (by decide) (fun hm => ?_) (fun hm => ?_)
              · refine g_weak (vs' := [some (.ref (g.ad i)), some (.int a1), some (.int a2), none, some (.int x3), none]) ⟨rfl, ⟨rfl, ⟨rfl, ⟨rfl, trivial⟩⟩⟩⟩ ?_
                exact hk16 _ hm
              · refine g_aloadn_0 dX0_claimant_59 ?_
                refine g_iload_4 dX0_claimant_60 ?_
                refine g_iloadn_3 dX0_claimant_62 ?_
                refine g_v2 hm (fun _ _ h => c_X0_isYounger Hi h) Hi.1.1 (Hi.1.2.1 _ _) rfl ce_X0_isYounger lk_X0_40 rfl rfl dX0_claimant_63 (fun x18 m17 hm => ?_)
                refine g_if_eq 72 hm dX0_claimant_66 (by decide) (fun hm => ?_) (fun hm => ?_)
                · refine g_weak (vs' := [some (.ref (g.ad i)), some (.int a1), some (.int a2), some (.int x2), some (.int x3), none]) ⟨rfl, ⟨rfl, ⟨rfl, ⟨rfl, ⟨rfl, trivial⟩⟩⟩⟩⟩ ?_
                  exact hk13 _ hm
                · refine g_weak (vs' := [some (.ref (g.ad i)), some (.int a1), some (.int a2), none, some (.int x3), none]) ⟨rfl, ⟨rfl, ⟨rfl, ⟨rfl, trivial⟩⟩⟩⟩ ?_
                  exact hk16 _ hm
      · intro k10 hk10 hm
        refine g_jn (J := fun (s : Sg) => GX g 2 RX0 cX0_claimant 6 (some .int) (some (.int r)) mm 46 [some (.ref (g.ad i)), some (.int a1), some (.int a2), some (.int x2), some (.int x3), none] [] s) hm ?_ ?_
        · intro m19 hm
          refine g_iconst 0 dX0_claimant_46 rfl ?_
          exact hk10 _ hm
        · intro k20 hk20 hm
          refine g_icmp_eq 46 hm dX0_claimant_20 (by decide) (fun hm => ?_) (fun hm => ?_)
          · exact hk20 _ hm
          · refine g_aloadn_0 dX0_claimant_23 ?_
            refine g_iload_4 dX0_claimant_24 ?_
            refine g_v1 hm (fun _ _ h => c_X0_isBelowGrowing Hi h) Hi.1.1 (Hi.1.2.1 _ _) rfl ce_X0_isBelowGrowing lk_X0_98 rfl rfl dX0_claimant_26 (fun x22 m21 hm => ?_)
            refine g_if_eq 46 hm dX0_claimant_29 (by decide) (fun hm => ?_) (fun hm => ?_)
            · exact hk20 _ hm
            · refine g_aloadn_0 dX0_claimant_32 ?_
              refine g_iload_4 dX0_claimant_33 ?_
              refine g_iloadn_1 dX0_claimant_35 ?_
              refine g_v2 hm (fun _ _ h => c_X0_lacks Hi h) Hi.1.1 (Hi.1.2.1 _ _) rfl ce_X0_lacks lk_X0_74 rfl rfl dX0_claimant_36 (fun x24 m23 hm => ?_)
              refine g_if_ne 46 hm dX0_claimant_39 (by decide) (fun hm => ?_) (fun hm => ?_)
              · exact hk20 _ hm
              · refine g_iconst 1 dX0_claimant_42 rfl ?_
                refine g_goto 47 dX0_claimant_43 (by decide) ?_
                exact hk10 _ hm
def f_X0_rulerBehind (j : Nat) (m : Sg) (a1 : Int32) (a2 : Int32) (a3 : Int32) : Option (Int32 × Sg) :=
  bnd (fun ((m1, x2) : Sg × Int32) => (if x2 = 0 then some (a2, m1) else
  (if a2 = (-1) then some (a1, m1) else
  cal (f_X0_isYounger j m1 a2 a1) (fun x5 m4 => (if x5 = 0 then some (a1, m4) else
  some (a2, m4)))))) (fun (k3 : Sg × Int32 → Option (Int32 × Sg)) =>
  bnd (fun (m6 : Sg) => k3 (m6, 0)) (fun (k7 : Sg → Option (Int32 × Sg)) =>
  (if a1 = (-1) then k7 m else
  cal (f_X0_kid j m a1 0) (fun x9 m8 => (if (m8.1 j 92) ≤ (x9 + a3) then k7 m8 else
  k3 (m8, 1))))))
set_option maxRecDepth 4000 in
theorem c_X0_rulerBehind {g : Cf} {m mm : Sg} {r : Int32} {j : Nat} {i : Nat} {a1 : Int32} {a2 : Int32} {a3 : Int32} (Hi : CTY g i j) (hm : f_X0_rulerBehind j m a1 a2 a3 = some (r, mm)) : Cl g 2 yX0_rulerBehind cX0_rulerBehind 5 (some .int) [.ref (g.ad i), .int a1, .int a2, .int a3] m (some (.int r)) mm := by
  refine cl_of (by decide) (Nat.le_of_ble_eq_true rfl) (vs := [some (.ref (g.ad i)), some (.int a1), some (.int a2), some (.int a3), none]) rfl rfl ?_
  show GX g 2 RX0 cX0_rulerBehind 5 (some .int) (some (.int r)) mm 0 _ [] m
  unfold f_X0_rulerBehind at hm
  refine g_iloadn_1 dX0_rulerBehind_0 ?_
  refine g_iconst (-1) dX0_rulerBehind_1 rfl ?_
  refine g_jn (J := fun (s : Sg × Int32) => GX g 2 RX0 cX0_rulerBehind 5 (some .int) (some (.int r)) mm 28 [some (.ref (g.ad i)), some (.int a1), some (.int a2), none, none] [.int (s.2)] s.1) hm ?_ ?_
  · rintro ⟨m1, x2⟩ hm
    (try dsimp only at hm)
    (try dsimp only)
    refine g_istore_4 dX0_rulerBehind_28 rfl ?_
    refine g_iload_4 dX0_rulerBehind_30 ?_
    refine g_if_eq 51 hm dX0_rulerBehind_32 (by decide) (fun hm => ?_) (fun hm => ?_)
    · refine g_iloadn_2 dX0_rulerBehind_51 ?_
      exact g_iret hm dX0_rulerBehind_52
    · refine g_iloadn_2 dX0_rulerBehind_35 ?_
      refine g_iconst (-1) dX0_rulerBehind_36 rfl ?_
      refine g_icmp_eq 49 hm dX0_rulerBehind_37 (by decide) (fun hm => ?_) (fun hm => ?_)
      · refine g_iloadn_1 dX0_rulerBehind_49 ?_
        exact g_iret hm dX0_rulerBehind_50
      · refine g_aloadn_0 dX0_rulerBehind_40 ?_
        refine g_iloadn_2 dX0_rulerBehind_41 ?_
        refine g_iloadn_1 dX0_rulerBehind_42 ?_
        refine g_v2 hm (fun _ _ h => c_X0_isYounger Hi h) Hi.1.1 (Hi.1.2.1 _ _) rfl ce_X0_isYounger lk_X0_40 rfl rfl dX0_rulerBehind_43 (fun x5 m4 hm => ?_)
        refine g_if_ne 51 hm dX0_rulerBehind_46 (by decide) (fun hm => ?_) (fun hm => ?_)
        · refine g_iloadn_2 dX0_rulerBehind_51 ?_
          exact g_iret hm dX0_rulerBehind_52
        · refine g_iloadn_1 dX0_rulerBehind_49 ?_
          exact g_iret hm dX0_rulerBehind_50
  · intro k3 hk3 hm
    refine g_jn (J := fun (s : Sg) => GX g 2 RX0 cX0_rulerBehind 5 (some .int) (some (.int r)) mm 27 [some (.ref (g.ad i)), some (.int a1), some (.int a2), none, none] [] s) hm ?_ ?_
    · intro m6 hm
      refine g_iconst 0 dX0_rulerBehind_27 rfl ?_
      exact hk3 _ hm
    · intro k7 hk7 hm
      refine g_icmp_eq 27 hm dX0_rulerBehind_2 (by decide) (fun hm => ?_) (fun hm => ?_)
      · refine g_weak (vs' := [some (.ref (g.ad i)), some (.int a1), some (.int a2), none, none]) ⟨rfl, ⟨rfl, ⟨rfl, trivial⟩⟩⟩ ?_
        exact hk7 _ hm
      · refine g_aloadn_0 dX0_rulerBehind_5 ?_
        refine g_iloadn_1 dX0_rulerBehind_6 ?_
        refine g_iconst 0 dX0_rulerBehind_7 rfl ?_
        refine g_v2 hm (fun _ _ h => c_X0_kid Hi h) Hi.1.1 (Hi.1.2.1 _ _) rfl ce_X0_kid lk_X0_36 rfl rfl dX0_rulerBehind_8 (fun x9 m8 hm => ?_)
        refine g_iloadn_3 dX0_rulerBehind_11 ?_
        refine g_iadd dX0_rulerBehind_12 ?_
        refine g_aloadn_0 dX0_rulerBehind_13 ?_
        refine g_getr (q := j) fo_0_0 Hi.1.1 Hi.1.2.1 rfl Hi.1.2.2 dX0_rulerBehind_14 ?_
        refine g_bipush 92 dX0_rulerBehind_17 rfl ?_
        refine g_ialoadc 92 rfl rfl Hi.2.1 Hi.2.2 dX0_rulerBehind_19 ?_
        refine g_icmp_ge 27 hm dX0_rulerBehind_20 (by decide) (fun hm => ?_) (fun hm => ?_)
        · refine g_weak (vs' := [some (.ref (g.ad i)), some (.int a1), some (.int a2), none, none]) ⟨rfl, ⟨rfl, ⟨rfl, trivial⟩⟩⟩ ?_
          exact hk7 _ hm
        · refine g_iconst 1 dX0_rulerBehind_23 rfl ?_
          refine g_goto 28 dX0_rulerBehind_24 (by decide) ?_
          refine g_weak (vs' := [some (.ref (g.ad i)), some (.int a1), some (.int a2), none, none]) ⟨rfl, ⟨rfl, ⟨rfl, trivial⟩⟩⟩ ?_
          exact hk3 _ hm
def f_X0_crown (j : Nat) (m : Sg) (a1 : Int32) : Option (Sg) :=
  bnd (fun ((m1, x2) : Sg × Int32) => cal (f_X0_rulerBehind j m1 (m1.1 j 98) x2 0) (fun x5 m4 => bnd (wr m4 j 98 x5) (fun m6 => some m6))) (fun (k3 : Sg × Int32 → Option (Sg)) =>
  (if a1 = (-1) then k3 (m, (-1)) else
  cal (f_X0_askedBy j m a1) (fun x8 m7 => cal (f_X0_claimant j m7 x8 (-1)) (fun x10 m9 => k3 (m9, x10)))))
set_option maxRecDepth 4000 in
theorem c_X0_crown {g : Cf} {m mm : Sg} {j : Nat} {i : Nat} {a1 : Int32} (Hi : CTY g i j) (hm : f_X0_crown j m a1 = some mm) : Cl g 3 yX0_crown cX0_crown 3 none [.ref (g.ad i), .int a1] m none mm := by
  refine cl_of (by decide) (Nat.le_of_ble_eq_true rfl) (vs := [some (.ref (g.ad i)), some (.int a1), none]) rfl rfl ?_
  show GX g 3 RX0 cX0_crown 3 none none mm 0 _ [] m
  unfold f_X0_crown at hm
  refine g_iloadn_1 dX0_crown_0 ?_
  refine g_iconst (-1) dX0_crown_1 rfl ?_
  refine g_jn (J := fun (s : Sg × Int32) => GX g 3 RX0 cX0_crown 3 none none mm 19 [some (.ref (g.ad i)), none, none] [.int (s.2)] s.1) hm ?_ ?_
  · rintro ⟨m1, x2⟩ hm
    (try dsimp only at hm)
    (try dsimp only)
    refine g_istoren_2 dX0_crown_19 rfl ?_
    refine g_aloadn_0 dX0_crown_20 ?_
    refine g_getr (q := j) fo_0_0 Hi.1.1 Hi.1.2.1 rfl Hi.1.2.2 dX0_crown_21 ?_
    refine g_bipush 98 dX0_crown_24 rfl ?_
    refine g_aloadn_0 dX0_crown_26 ?_
    refine g_aloadn_0 dX0_crown_27 ?_
    refine g_getr (q := j) fo_0_0 Hi.1.1 Hi.1.2.1 rfl Hi.1.2.2 dX0_crown_28 ?_
    refine g_bipush 98 dX0_crown_31 rfl ?_
    refine g_ialoadc 98 rfl rfl Hi.2.1 Hi.2.2 dX0_crown_33 ?_
    refine g_iloadn_2 dX0_crown_34 ?_
    refine g_iconst 0 dX0_crown_35 rfl ?_
    refine g_v3 hm (fun _ _ h => c_X0_rulerBehind Hi h) Hi.1.1 (Hi.1.2.1 _ _) rfl ce_X0_rulerBehind lk_X0_104 rfl rfl dX0_crown_36 (fun x5 m4 hm => ?_)
    refine g_iastorec 98 hm rfl rfl Hi.2.1 Hi.2.2 dX0_crown_39 (fun m6 hm => ?_)
    exact g_vret hm dX0_crown_40
  · intro k3 hk3 hm
    refine g_icmp_ne 9 hm dX0_crown_2 (by decide) (fun hm => ?_) (fun hm => ?_)
    · refine g_aloadn_0 dX0_crown_9 ?_
      refine g_aloadn_0 dX0_crown_10 ?_
      refine g_iloadn_1 dX0_crown_11 ?_
      refine g_v1 hm (fun _ _ h => c_X0_askedBy Hi h) Hi.1.1 (Hi.1.2.1 _ _) rfl ce_X0_askedBy lk_X0_71 rfl rfl dX0_crown_12 (fun x8 m7 hm => ?_)
      refine g_iconst (-1) dX0_crown_15 rfl ?_
      refine g_v2 hm (fun _ _ h => c_X0_claimant Hi h) Hi.1.1 (Hi.1.2.1 _ _) rfl ce_X0_claimant lk_X0_101 rfl rfl dX0_crown_16 (fun x10 m9 hm => ?_)
      refine g_weak (vs' := [some (.ref (g.ad i)), none, none]) ⟨rfl, trivial⟩ ?_
      exact hk3 _ hm
    · refine g_iconst (-1) dX0_crown_5 rfl ?_
      refine g_goto 19 dX0_crown_6 (by decide) ?_
      refine g_weak (vs' := [some (.ref (g.ad i)), none, none]) ⟨rfl, trivial⟩ ?_
      exact hk3 _ hm
def f_X0_reignAndTake (j : Nat) (m : Sg) (a1 : Int32) : Option (Sg) :=
  bnd (m.1 j 98) (fun x1 => bnd (fun (m2 : Sg) => bnd (wr m2 j 99 ((m2.1 j 99) + a1)) (fun m4 => some m4)) (fun (k3 : Sg → Option (Sg)) =>
  (if x1 = (-1) then k3 m else
  cal (f_X0_kid j m x1 9) (fun x6 m5 => calv (f_X0_putKid j m5 x1 9 (x6 + 1)) (fun m7 => k3 m7)))))
set_option maxRecDepth 4000 in
theorem c_X0_reignAndTake {g : Cf} {m mm : Sg} {j : Nat} {i : Nat} {a1 : Int32} (Hi : CTY g i j) (hm : f_X0_reignAndTake j m a1 = some mm) : Cl g 1 yX0_reignAndTake cX0_reignAndTake 3 none [.ref (g.ad i), .int a1] m none mm := by
  refine cl_of (by decide) (Nat.le_of_ble_eq_true rfl) (vs := [some (.ref (g.ad i)), some (.int a1), none]) rfl rfl ?_
  show GX g 1 RX0 cX0_reignAndTake 3 none none mm 0 _ [] m
  unfold f_X0_reignAndTake at hm
  refine g_aloadn_0 dX0_reignAndTake_0 ?_
  refine g_getr (q := j) fo_0_0 Hi.1.1 Hi.1.2.1 rfl Hi.1.2.2 dX0_reignAndTake_1 ?_
  refine g_bipush 98 dX0_reignAndTake_4 rfl ?_
  refine g_ialoadc 98 rfl rfl Hi.2.1 Hi.2.2 dX0_reignAndTake_6 ?_
  refine g_istoreBn_2 hm dX0_reignAndTake_7 rfl (fun x1 hm => ?_)
  refine g_iloadn_2 dX0_reignAndTake_8 ?_
  refine g_iconst (-1) dX0_reignAndTake_9 rfl ?_
  refine g_jn (J := fun (s : Sg) => GX g 1 RX0 cX0_reignAndTake 3 none none mm 29 [some (.ref (g.ad i)), some (.int a1), none] [] s) hm ?_ ?_
  · intro m2 hm
    refine g_aloadn_0 dX0_reignAndTake_29 ?_
    refine g_getr (q := j) fo_0_0 Hi.1.1 Hi.1.2.1 rfl Hi.1.2.2 dX0_reignAndTake_30 ?_
    refine g_bipush 99 dX0_reignAndTake_33 rfl ?_
    refine g_dup2 dX0_reignAndTake_35 rfl rfl ?_
    refine g_ialoadc 99 rfl rfl Hi.2.1 Hi.2.2 dX0_reignAndTake_36 ?_
    refine g_iloadn_1 dX0_reignAndTake_37 ?_
    refine g_iadd dX0_reignAndTake_38 ?_
    refine g_iastorec 99 hm rfl rfl Hi.2.1 Hi.2.2 dX0_reignAndTake_39 (fun m4 hm => ?_)
    exact g_vret hm dX0_reignAndTake_40
  · intro k3 hk3 hm
    refine g_icmp_eq 29 hm dX0_reignAndTake_10 (by decide) (fun hm => ?_) (fun hm => ?_)
    · refine g_weak (vs' := [some (.ref (g.ad i)), some (.int a1), none]) ⟨rfl, ⟨rfl, trivial⟩⟩ ?_
      exact hk3 _ hm
    · refine g_aloadn_0 dX0_reignAndTake_13 ?_
      refine g_iloadn_2 dX0_reignAndTake_14 ?_
      refine g_bipush 9 dX0_reignAndTake_15 rfl ?_
      refine g_aloadn_0 dX0_reignAndTake_17 ?_
      refine g_iloadn_2 dX0_reignAndTake_18 ?_
      refine g_bipush 9 dX0_reignAndTake_19 rfl ?_
      refine g_v2 hm (fun _ _ h => c_X0_kid Hi h) Hi.1.1 (Hi.1.2.1 _ _) rfl ce_X0_kid lk_X0_36 rfl rfl dX0_reignAndTake_21 (fun x6 m5 hm => ?_)
      refine g_iconst 1 dX0_reignAndTake_24 rfl ?_
      refine g_iadd dX0_reignAndTake_25 ?_
      refine g_v3V hm (fun _ h => c_X0_putKid Hi h) Hi.1.1 (Hi.1.2.1 _ _) rfl ce_X0_putKid lk_X0_21 rfl rfl dX0_reignAndTake_26 (fun m7 hm => ?_)
      refine g_weak (vs' := [some (.ref (g.ad i)), some (.int a1), none]) ⟨rfl, ⟨rfl, trivial⟩⟩ ?_
      exact hk3 _ hm
def f_J6_numberOfLeadingZeros_0f7a4  (m : Sg) (a1 : Int32) : Option (Int32 × Sg) :=
  (if 0 < a1 then bnd (fun ((m1, x2, x3) : Sg × Int32 × Int32) => bnd (fun ((m5, x6, x7) : Sg × Int32 × Int32) => bnd (fun ((m9, x10, x11) : Sg × Int32 × Int32) => bnd (fun ((m13, x14, x15) : Sg × Int32 × Int32) => some (x15 - (((x14 : Int32).toUInt32 >>> ((1 : Int32).toUInt32 &&& Int32.toUInt32 31)).toInt32), m13)) (fun (k16 : Sg × Int32 × Int32 → Option (Int32 × Sg)) =>
  (if x10 < 4 then k16 (m9, x10, x11) else
  bnd (x11 + (-2)) (fun x17 => bnd (((x10 : Int32).toUInt32 >>> ((2 : Int32).toUInt32 &&& Int32.toUInt32 31)).toInt32) (fun x18 => k16 (m9, x18, x17)))))) (fun (k12 : Sg × Int32 × Int32 → Option (Int32 × Sg)) =>
  (if x6 < 16 then k12 (m5, x6, x7) else
  bnd (x7 + (-4)) (fun x19 => bnd (((x6 : Int32).toUInt32 >>> ((4 : Int32).toUInt32 &&& Int32.toUInt32 31)).toInt32) (fun x20 => k12 (m5, x20, x19)))))) (fun (k8 : Sg × Int32 × Int32 → Option (Int32 × Sg)) =>
  (if x2 < 256 then k8 (m1, x2, x3) else
  bnd (x3 + (-8)) (fun x21 => bnd (((x2 : Int32).toUInt32 >>> ((8 : Int32).toUInt32 &&& Int32.toUInt32 31)).toInt32) (fun x22 => k8 (m1, x22, x21)))))) (fun (k4 : Sg × Int32 × Int32 → Option (Int32 × Sg)) =>
  (if a1 < 65536 then k4 (m, a1, 31) else
  bnd (31 + (-16)) (fun x23 => bnd (((a1 : Int32).toUInt32 >>> ((16 : Int32).toUInt32 &&& Int32.toUInt32 31)).toInt32) (fun x24 => k4 (m, x24, x23))))) else
  (if a1 = 0 then some (32, m) else
  some (0, m)))
set_option maxRecDepth 4000 in
theorem c_J6_numberOfLeadingZeros_0f7a4 {g : Cf} {m mm : Sg} {r : Int32} {a1 : Int32} (hm : f_J6_numberOfLeadingZeros_0f7a4  m a1 = some (r, mm)) : Cl g 0 yJ6_numberOfLeadingZeros_0f7a4 cJ6_numberOfLeadingZeros_0f7a4 2 (some .int) [.int a1] m (some (.int r)) mm := by
  refine cl_of (by decide) (Nat.le_of_ble_eq_true rfl) (vs := [some (.int a1), none]) rfl rfl ?_
  show GX g 0 RJ6 cJ6_numberOfLeadingZeros_0f7a4 2 (some .int) (some (.int r)) mm 0 _ [] m
  unfold f_J6_numberOfLeadingZeros_0f7a4 at hm
  refine g_iloadn_0 dJ6_numberOfLeadingZeros_0f7a4_0 ?_
  refine g_if_gt 15 hm dJ6_numberOfLeadingZeros_0f7a4_1 (by decide) (fun hm => ?_) (fun hm => ?_)
  · refine g_bipush 31 dJ6_numberOfLeadingZeros_0f7a4_15 rfl ?_
    refine g_istoren_1 dJ6_numberOfLeadingZeros_0f7a4_17 rfl ?_
    refine g_iloadn_0 dJ6_numberOfLeadingZeros_0f7a4_18 ?_
    refine g_ldc_w dJ6_numberOfLeadingZeros_0f7a4_19 ck_J6_264 ?_
    refine g_jn (J := fun (s : Sg × Int32 × Int32) => GX g 0 RJ6 cJ6_numberOfLeadingZeros_0f7a4 2 (some .int) (some (.int r)) mm 33 [some (.int (s.2.1)), some (.int (s.2.2))] [] s.1) hm ?_ ?_
    · rintro ⟨m1, x2, x3⟩ hm
      (try dsimp only at hm)
      (try dsimp only)
      refine g_iloadn_0 dJ6_numberOfLeadingZeros_0f7a4_33 ?_
      refine g_sipush 256 dJ6_numberOfLeadingZeros_0f7a4_34 rfl ?_
      refine g_jn (J := fun (s : Sg × Int32 × Int32) => GX g 0 RJ6 cJ6_numberOfLeadingZeros_0f7a4 2 (some .int) (some (.int r)) mm 48 [some (.int (s.2.1)), some (.int (s.2.2))] [] s.1) hm ?_ ?_
      · rintro ⟨m5, x6, x7⟩ hm
        (try dsimp only at hm)
        (try dsimp only)
        refine g_iloadn_0 dJ6_numberOfLeadingZeros_0f7a4_48 ?_
        refine g_bipush 16 dJ6_numberOfLeadingZeros_0f7a4_49 rfl ?_
        refine g_jn (J := fun (s : Sg × Int32 × Int32) => GX g 0 RJ6 cJ6_numberOfLeadingZeros_0f7a4 2 (some .int) (some (.int r)) mm 61 [some (.int (s.2.1)), some (.int (s.2.2))] [] s.1) hm ?_ ?_
        · rintro ⟨m9, x10, x11⟩ hm
          (try dsimp only at hm)
          (try dsimp only)
          refine g_iloadn_0 dJ6_numberOfLeadingZeros_0f7a4_61 ?_
          refine g_iconst 4 dJ6_numberOfLeadingZeros_0f7a4_62 rfl ?_
          refine g_jn (J := fun (s : Sg × Int32 × Int32) => GX g 0 RJ6 cJ6_numberOfLeadingZeros_0f7a4 2 (some .int) (some (.int r)) mm 73 [some (.int (s.2.1)), some (.int (s.2.2))] [] s.1) hm ?_ ?_
          · rintro ⟨m13, x14, x15⟩ hm
            (try dsimp only at hm)
            (try dsimp only)
            refine g_iloadn_1 dJ6_numberOfLeadingZeros_0f7a4_73 ?_
            refine g_iloadn_0 dJ6_numberOfLeadingZeros_0f7a4_74 ?_
            refine g_iconst 1 dJ6_numberOfLeadingZeros_0f7a4_75 rfl ?_
            refine g_iushr dJ6_numberOfLeadingZeros_0f7a4_76 ?_
            refine g_isub dJ6_numberOfLeadingZeros_0f7a4_77 ?_
            exact g_iret hm dJ6_numberOfLeadingZeros_0f7a4_78
          · intro k16 hk16 hm
            refine g_icmp_lt 73 hm dJ6_numberOfLeadingZeros_0f7a4_63 (by decide) (fun hm => ?_) (fun hm => ?_)
            · exact hk16 _ hm
            · refine g_iinc_1 (-2) hm dJ6_numberOfLeadingZeros_0f7a4_66 rfl rfl (fun x17 hm => ?_)
              refine g_iloadn_0 dJ6_numberOfLeadingZeros_0f7a4_69 ?_
              refine g_iconst 2 dJ6_numberOfLeadingZeros_0f7a4_70 rfl ?_
              refine g_iushr dJ6_numberOfLeadingZeros_0f7a4_71 ?_
              refine g_istoreBn_0 hm dJ6_numberOfLeadingZeros_0f7a4_72 rfl (fun x18 hm => ?_)
              exact hk16 _ hm
        · intro k12 hk12 hm
          refine g_icmp_lt 61 hm dJ6_numberOfLeadingZeros_0f7a4_51 (by decide) (fun hm => ?_) (fun hm => ?_)
          · exact hk12 _ hm
          · refine g_iinc_1 (-4) hm dJ6_numberOfLeadingZeros_0f7a4_54 rfl rfl (fun x19 hm => ?_)
            refine g_iloadn_0 dJ6_numberOfLeadingZeros_0f7a4_57 ?_
            refine g_iconst 4 dJ6_numberOfLeadingZeros_0f7a4_58 rfl ?_
            refine g_iushr dJ6_numberOfLeadingZeros_0f7a4_59 ?_
            refine g_istoreBn_0 hm dJ6_numberOfLeadingZeros_0f7a4_60 rfl (fun x20 hm => ?_)
            exact hk12 _ hm
      · intro k8 hk8 hm
        refine g_icmp_lt 48 hm dJ6_numberOfLeadingZeros_0f7a4_37 (by decide) (fun hm => ?_) (fun hm => ?_)
        · exact hk8 _ hm
        · refine g_iinc_1 (-8) hm dJ6_numberOfLeadingZeros_0f7a4_40 rfl rfl (fun x21 hm => ?_)
          refine g_iloadn_0 dJ6_numberOfLeadingZeros_0f7a4_43 ?_
          refine g_bipush 8 dJ6_numberOfLeadingZeros_0f7a4_44 rfl ?_
          refine g_iushr dJ6_numberOfLeadingZeros_0f7a4_46 ?_
          refine g_istoreBn_0 hm dJ6_numberOfLeadingZeros_0f7a4_47 rfl (fun x22 hm => ?_)
          exact hk8 _ hm
    · intro k4 hk4 hm
      refine g_icmp_lt 33 hm dJ6_numberOfLeadingZeros_0f7a4_22 (by decide) (fun hm => ?_) (fun hm => ?_)
      · exact hk4 _ hm
      · refine g_iinc_1 (-16) hm dJ6_numberOfLeadingZeros_0f7a4_25 rfl rfl (fun x23 hm => ?_)
        refine g_iloadn_0 dJ6_numberOfLeadingZeros_0f7a4_28 ?_
        refine g_bipush 16 dJ6_numberOfLeadingZeros_0f7a4_29 rfl ?_
        refine g_iushr dJ6_numberOfLeadingZeros_0f7a4_31 ?_
        refine g_istoreBn_0 hm dJ6_numberOfLeadingZeros_0f7a4_32 rfl (fun x24 hm => ?_)
        exact hk4 _ hm
  · refine g_iloadn_0 dJ6_numberOfLeadingZeros_0f7a4_4 ?_
    refine g_if_ne 13 hm dJ6_numberOfLeadingZeros_0f7a4_5 (by decide) (fun hm => ?_) (fun hm => ?_)
    · refine g_iconst 0 dJ6_numberOfLeadingZeros_0f7a4_13 rfl ?_
      exact g_iret hm dJ6_numberOfLeadingZeros_0f7a4_14
    · refine g_bipush 32 dJ6_numberOfLeadingZeros_0f7a4_8 rfl ?_
      refine g_goto 14 dJ6_numberOfLeadingZeros_0f7a4_10 (by decide) ?_
      exact g_iret hm dJ6_numberOfLeadingZeros_0f7a4_14
def f_J6_bitCount_0f7a4  (m : Sg) (a1 : Int32) : Option (Int32 × Sg) :=
  bnd (a1 - ((((a1 : Int32).toUInt32 >>> ((1 : Int32).toUInt32 &&& Int32.toUInt32 31)).toInt32) &&& 1431655765)) (fun x1 => bnd ((x1 &&& 858993459) + ((((x1 : Int32).toUInt32 >>> ((2 : Int32).toUInt32 &&& Int32.toUInt32 31)).toInt32) &&& 858993459)) (fun x2 => bnd ((x2 + (((x2 : Int32).toUInt32 >>> ((4 : Int32).toUInt32 &&& Int32.toUInt32 31)).toInt32)) &&& 252645135) (fun x3 => bnd (x3 + (((x3 : Int32).toUInt32 >>> ((8 : Int32).toUInt32 &&& Int32.toUInt32 31)).toInt32)) (fun x4 => bnd (x4 + (((x4 : Int32).toUInt32 >>> ((16 : Int32).toUInt32 &&& Int32.toUInt32 31)).toInt32)) (fun x5 => some (x5 &&& 63, m))))))
set_option maxRecDepth 4000 in
theorem c_J6_bitCount_0f7a4 {g : Cf} {m mm : Sg} {r : Int32} {a1 : Int32} (hm : f_J6_bitCount_0f7a4  m a1 = some (r, mm)) : Cl g 0 yJ6_bitCount_0f7a4 cJ6_bitCount_0f7a4 1 (some .int) [.int a1] m (some (.int r)) mm := by
  refine cl_of (by decide) (Nat.le_of_ble_eq_true rfl) (vs := [some (.int a1)]) rfl rfl ?_
  show GX g 0 RJ6 cJ6_bitCount_0f7a4 1 (some .int) (some (.int r)) mm 0 _ [] m
  unfold f_J6_bitCount_0f7a4 at hm
  refine g_iloadn_0 dJ6_bitCount_0f7a4_0 ?_
  refine g_iloadn_0 dJ6_bitCount_0f7a4_1 ?_
  refine g_iconst 1 dJ6_bitCount_0f7a4_2 rfl ?_
  refine g_iushr dJ6_bitCount_0f7a4_3 ?_
  refine g_ldc_w dJ6_bitCount_0f7a4_4 ck_J6_265 ?_
  refine g_iand dJ6_bitCount_0f7a4_7 ?_
  refine g_isub dJ6_bitCount_0f7a4_8 ?_
  refine g_istoreBn_0 hm dJ6_bitCount_0f7a4_9 rfl (fun x1 hm => ?_)
  refine g_iloadn_0 dJ6_bitCount_0f7a4_10 ?_
  refine g_ldc_w dJ6_bitCount_0f7a4_11 ck_J6_266 ?_
  refine g_iand dJ6_bitCount_0f7a4_14 ?_
  refine g_iloadn_0 dJ6_bitCount_0f7a4_15 ?_
  refine g_iconst 2 dJ6_bitCount_0f7a4_16 rfl ?_
  refine g_iushr dJ6_bitCount_0f7a4_17 ?_
  refine g_ldc_w dJ6_bitCount_0f7a4_18 ck_J6_266 ?_
  refine g_iand dJ6_bitCount_0f7a4_21 ?_
  refine g_iadd dJ6_bitCount_0f7a4_22 ?_
  refine g_istoreBn_0 hm dJ6_bitCount_0f7a4_23 rfl (fun x2 hm => ?_)
  refine g_iloadn_0 dJ6_bitCount_0f7a4_24 ?_
  refine g_iloadn_0 dJ6_bitCount_0f7a4_25 ?_
  refine g_iconst 4 dJ6_bitCount_0f7a4_26 rfl ?_
  refine g_iushr dJ6_bitCount_0f7a4_27 ?_
  refine g_iadd dJ6_bitCount_0f7a4_28 ?_
  refine g_ldc_w dJ6_bitCount_0f7a4_29 ck_J6_267 ?_
  refine g_iand dJ6_bitCount_0f7a4_32 ?_
  refine g_istoreBn_0 hm dJ6_bitCount_0f7a4_33 rfl (fun x3 hm => ?_)
  refine g_iloadn_0 dJ6_bitCount_0f7a4_34 ?_
  refine g_iloadn_0 dJ6_bitCount_0f7a4_35 ?_
  refine g_bipush 8 dJ6_bitCount_0f7a4_36 rfl ?_
  refine g_iushr dJ6_bitCount_0f7a4_38 ?_
  refine g_iadd dJ6_bitCount_0f7a4_39 ?_
  refine g_istoreBn_0 hm dJ6_bitCount_0f7a4_40 rfl (fun x4 hm => ?_)
  refine g_iloadn_0 dJ6_bitCount_0f7a4_41 ?_
  refine g_iloadn_0 dJ6_bitCount_0f7a4_42 ?_
  refine g_bipush 16 dJ6_bitCount_0f7a4_43 rfl ?_
  refine g_iushr dJ6_bitCount_0f7a4_45 ?_
  refine g_iadd dJ6_bitCount_0f7a4_46 ?_
  refine g_istoreBn_0 hm dJ6_bitCount_0f7a4_47 rfl (fun x5 hm => ?_)
  refine g_iloadn_0 dJ6_bitCount_0f7a4_48 ?_
  refine g_bipush 63 dJ6_bitCount_0f7a4_49 rfl ?_
  refine g_iand dJ6_bitCount_0f7a4_51 ?_
  exact g_iret hm dJ6_bitCount_0f7a4_52
def f_X0_addChild (j : Nat) (w : Nat) (n : Nat) (m : Sg)  : Option (Sg) :=
  bnd (m.1 j 95) (fun x1 => (if 8 ≤ x1 then some m else
  (if 6 ≤ (Int32.ofNat n) then if inr 0 n = true then calv (f_X0_putKid j m x1 0 (m.1 w (0 : Int32).toNatClampNeg)) (fun m2 => if inr 1 n = true then cal (f_X0_fromBelow m2 (m2.1 w (1 : Int32).toNatClampNeg)) (fun x4 m3 => calv (f_X0_putKid j m3 x1 1 x4) (fun m5 => if inr 2 n = true then bnd (fun ((m6, x7) : Sg × Int32) => calv (f_X0_putKid j m6 x1 2 x7) (fun m9 => if inr 3 n = true then calv (f_X0_putKid j m9 x1 3 (m9.1 w (3 : Int32).toNatClampNeg)) (fun m10 => if inr 4 n = true then calv (f_X0_putKid j m10 x1 4 (m10.1 w (4 : Int32).toNatClampNeg)) (fun m11 => if inr 5 n = true then calv (f_X0_putKid j m11 x1 5 (m11.1 w (5 : Int32).toNatClampNeg)) (fun m12 => calv (f_X0_putKid j m12 x1 6 (-1)) (fun m13 => bnd (wr m13 j 95 (x1 + 1)) (fun m14 => some m14))) else none) else none) else none)) (fun (k8 : Sg × Int32 → Option (Sg)) =>
  (if 9 ≤ (m5.1 w (2 : Int32).toNatClampNeg) then k8 (m5, 0) else
  if inr 2 n = true then k8 (m5, (1 <<< ((m5.1 w (2 : Int32).toNatClampNeg) &&& 31))) else none)) else none)) else none) else none else
  some m)))
set_option maxRecDepth 4000 in
theorem c_X0_addChild {g : Cf} {m mm : Sg} {j : Nat} {w : Nat} {n : Nat} {i : Nat} (Hi : CTY g i j) (Hw : ARR g w n 0) (hm : f_X0_addChild j w n m  = some mm) : Cl g 1 yX0_addChild cX0_addChild 3 none [.ref (g.ad i), .ref (g.ad w)] m none mm := by
  refine cl_of (by decide) (Nat.le_of_ble_eq_true rfl) (vs := [some (.ref (g.ad i)), some (.ref (g.ad w)), none]) rfl rfl ?_
  show GX g 1 RX0 cX0_addChild 3 none none mm 0 _ [] m
  unfold f_X0_addChild at hm
  refine g_aloadn_0 dX0_addChild_0 ?_
  refine g_getr (q := j) fo_0_0 Hi.1.1 Hi.1.2.1 rfl Hi.1.2.2 dX0_addChild_1 ?_
  refine g_bipush 95 dX0_addChild_4 rfl ?_
  refine g_ialoadc 95 rfl rfl Hi.2.1 Hi.2.2 dX0_addChild_6 ?_
  refine g_istoreBn_2 hm dX0_addChild_7 rfl (fun x1 hm => ?_)
  refine g_iloadn_2 dX0_addChild_8 ?_
  refine g_bipush 8 dX0_addChild_9 rfl ?_
  refine g_icmp_ge 21 hm dX0_addChild_11 (by decide) (fun hm => ?_) (fun hm => ?_)
  · exact g_vret hm dX0_addChild_21
  · refine g_aloadn_1 dX0_addChild_14 ?_
    refine g_alen (ty := .int) (Int32.ofNat n) Hw.1 Hw.2 rfl rfl dX0_addChild_15 ?_
    refine g_bipush 6 dX0_addChild_16 rfl ?_
    refine g_icmp_ge 22 hm dX0_addChild_18 (by decide) (fun hm => ?_) (fun hm => ?_)
    · refine g_aloadn_0 dX0_addChild_22 ?_
      refine g_iloadn_2 dX0_addChild_23 ?_
      refine g_iconst 0 dX0_addChild_24 rfl ?_
      refine g_aloadn_1 dX0_addChild_25 ?_
      refine g_iconst 0 dX0_addChild_26 rfl ?_
      refine g_iaload hm Hw.1 Hw.2 dX0_addChild_27 (fun hm => ?_)
      refine g_v3V hm (fun _ h => c_X0_putKid Hi h) Hi.1.1 (Hi.1.2.1 _ _) rfl ce_X0_putKid lk_X0_21 rfl rfl dX0_addChild_28 (fun m2 hm => ?_)
      refine g_aloadn_0 dX0_addChild_31 ?_
      refine g_iloadn_2 dX0_addChild_32 ?_
      refine g_iconst 1 dX0_addChild_33 rfl ?_
      refine g_aloadn_1 dX0_addChild_34 ?_
      refine g_iconst 1 dX0_addChild_35 rfl ?_
      refine g_iaload hm Hw.1 Hw.2 dX0_addChild_36 (fun hm => ?_)
      refine g_s1 hm (fun _ _ h => c_X0_fromBelow h) ce_X0_fromBelow lk_X0_25 rfl rfl dX0_addChild_37 (fun x4 m3 hm => ?_)
      refine g_v3V hm (fun _ h => c_X0_putKid Hi h) Hi.1.1 (Hi.1.2.1 _ _) rfl ce_X0_putKid lk_X0_21 rfl rfl dX0_addChild_40 (fun m5 hm => ?_)
      refine g_aloadn_0 dX0_addChild_43 ?_
      refine g_iloadn_2 dX0_addChild_44 ?_
      refine g_iconst 2 dX0_addChild_45 rfl ?_
      refine g_aloadn_1 dX0_addChild_46 ?_
      refine g_iconst 2 dX0_addChild_47 rfl ?_
      refine g_iaload hm Hw.1 Hw.2 dX0_addChild_48 (fun hm => ?_)
      refine g_bipush 9 dX0_addChild_49 rfl ?_
      refine g_jn (J := fun (s : Sg × Int32) => GX g 1 RX0 cX0_addChild 3 none none mm 63 [some (.ref (g.ad i)), some (.ref (g.ad w)), some (.int x1)] [.int (s.2), .int 2, .int x1, .ref (g.ad i)] s.1) hm ?_ ?_
      · rintro ⟨m6, x7⟩ hm
        (try dsimp only at hm)
        (try dsimp only)
        refine g_v3V hm (fun _ h => c_X0_putKid Hi h) Hi.1.1 (Hi.1.2.1 _ _) rfl ce_X0_putKid lk_X0_21 rfl rfl dX0_addChild_63 (fun m9 hm => ?_)
        refine g_aloadn_0 dX0_addChild_66 ?_
        refine g_iloadn_2 dX0_addChild_67 ?_
        refine g_iconst 3 dX0_addChild_68 rfl ?_
        refine g_aloadn_1 dX0_addChild_69 ?_
        refine g_iconst 3 dX0_addChild_70 rfl ?_
        refine g_iaload hm Hw.1 Hw.2 dX0_addChild_71 (fun hm => ?_)
        refine g_v3V hm (fun _ h => c_X0_putKid Hi h) Hi.1.1 (Hi.1.2.1 _ _) rfl ce_X0_putKid lk_X0_21 rfl rfl dX0_addChild_72 (fun m10 hm => ?_)
        refine g_aloadn_0 dX0_addChild_75 ?_
        refine g_iloadn_2 dX0_addChild_76 ?_
        refine g_iconst 4 dX0_addChild_77 rfl ?_
        refine g_aloadn_1 dX0_addChild_78 ?_
        refine g_iconst 4 dX0_addChild_79 rfl ?_
        refine g_iaload hm Hw.1 Hw.2 dX0_addChild_80 (fun hm => ?_)
        refine g_v3V hm (fun _ h => c_X0_putKid Hi h) Hi.1.1 (Hi.1.2.1 _ _) rfl ce_X0_putKid lk_X0_21 rfl rfl dX0_addChild_81 (fun m11 hm => ?_)
        refine g_aloadn_0 dX0_addChild_84 ?_
        refine g_iloadn_2 dX0_addChild_85 ?_
        refine g_iconst 5 dX0_addChild_86 rfl ?_
        refine g_aloadn_1 dX0_addChild_87 ?_
        refine g_iconst 5 dX0_addChild_88 rfl ?_
        refine g_iaload hm Hw.1 Hw.2 dX0_addChild_89 (fun hm => ?_)
        refine g_v3V hm (fun _ h => c_X0_putKid Hi h) Hi.1.1 (Hi.1.2.1 _ _) rfl ce_X0_putKid lk_X0_21 rfl rfl dX0_addChild_90 (fun m12 hm => ?_)
        refine g_aloadn_0 dX0_addChild_93 ?_
        refine g_iloadn_2 dX0_addChild_94 ?_
        refine g_bipush 6 dX0_addChild_95 rfl ?_
        refine g_iconst (-1) dX0_addChild_97 rfl ?_
        refine g_v3V hm (fun _ h => c_X0_putKid Hi h) Hi.1.1 (Hi.1.2.1 _ _) rfl ce_X0_putKid lk_X0_21 rfl rfl dX0_addChild_98 (fun m13 hm => ?_)
        refine g_aloadn_0 dX0_addChild_101 ?_
        refine g_getr (q := j) fo_0_0 Hi.1.1 Hi.1.2.1 rfl Hi.1.2.2 dX0_addChild_102 ?_
        refine g_bipush 95 dX0_addChild_105 rfl ?_
        refine g_iloadn_2 dX0_addChild_107 ?_
        refine g_iconst 1 dX0_addChild_108 rfl ?_
        refine g_iadd dX0_addChild_109 ?_
        refine g_iastorec 95 hm rfl rfl Hi.2.1 Hi.2.2 dX0_addChild_110 (fun m14 hm => ?_)
        exact g_vret hm dX0_addChild_111
      · intro k8 hk8 hm
        refine g_icmp_ge 62 hm dX0_addChild_51 (by decide) (fun hm => ?_) (fun hm => ?_)
        · refine g_iconst 0 dX0_addChild_62 rfl ?_
          exact hk8 _ hm
        · refine g_iconst 1 dX0_addChild_54 rfl ?_
          refine g_aloadn_1 dX0_addChild_55 ?_
          refine g_iconst 2 dX0_addChild_56 rfl ?_
          refine g_iaload hm Hw.1 Hw.2 dX0_addChild_57 (fun hm => ?_)
          refine g_ishl dX0_addChild_58 ?_
          refine g_goto 63 dX0_addChild_59 (by decide) ?_
          exact hk8 _ hm
    · exact g_vret hm dX0_addChild_21
def f_X0_addElder (j : Nat) (m : Sg) (a1 : Int32) (a2 : Int32) (a3 : Int32) : Option (Sg) :=
  bnd (m.1 j 96) (fun x1 => (if x1 < 4 then calv (f_X0_putOld j m x1 0 a1) (fun m2 => calv (f_X0_putOld j m2 x1 1 a2) (fun m3 => cal (f_X0_fromBelow m3 a3) (fun x5 m4 => calv (f_X0_putOld j m4 x1 2 x5) (fun m6 => bnd (wr m6 j 96 (x1 + 1)) (fun m7 => some m7))))) else
  some m))
set_option maxRecDepth 4000 in
theorem c_X0_addElder {g : Cf} {m mm : Sg} {j : Nat} {i : Nat} {a1 : Int32} {a2 : Int32} {a3 : Int32} (Hi : CTY g i j) (hm : f_X0_addElder j m a1 a2 a3 = some mm) : Cl g 1 yX0_addElder cX0_addElder 5 none [.ref (g.ad i), .int a1, .int a2, .int a3] m none mm := by
  refine cl_of (by decide) (Nat.le_of_ble_eq_true rfl) (vs := [some (.ref (g.ad i)), some (.int a1), some (.int a2), some (.int a3), none]) rfl rfl ?_
  show GX g 1 RX0 cX0_addElder 5 none none mm 0 _ [] m
  unfold f_X0_addElder at hm
  refine g_aloadn_0 dX0_addElder_0 ?_
  refine g_getr (q := j) fo_0_0 Hi.1.1 Hi.1.2.1 rfl Hi.1.2.2 dX0_addElder_1 ?_
  refine g_bipush 96 dX0_addElder_4 rfl ?_
  refine g_ialoadc 96 rfl rfl Hi.2.1 Hi.2.2 dX0_addElder_6 ?_
  refine g_istoreB_4 hm dX0_addElder_7 rfl (fun x1 hm => ?_)
  refine g_iload_4 dX0_addElder_9 ?_
  refine g_iconst 4 dX0_addElder_11 rfl ?_
  refine g_icmp_lt 16 hm dX0_addElder_12 (by decide) (fun hm => ?_) (fun hm => ?_)
  · refine g_aloadn_0 dX0_addElder_16 ?_
    refine g_iload_4 dX0_addElder_17 ?_
    refine g_iconst 0 dX0_addElder_19 rfl ?_
    refine g_iloadn_1 dX0_addElder_20 ?_
    refine g_v3V hm (fun _ h => c_X0_putOld Hi h) Hi.1.1 (Hi.1.2.1 _ _) rfl ce_X0_putOld lk_X0_29 rfl rfl dX0_addElder_21 (fun m2 hm => ?_)
    refine g_aloadn_0 dX0_addElder_24 ?_
    refine g_iload_4 dX0_addElder_25 ?_
    refine g_iconst 1 dX0_addElder_27 rfl ?_
    refine g_iloadn_2 dX0_addElder_28 ?_
    refine g_v3V hm (fun _ h => c_X0_putOld Hi h) Hi.1.1 (Hi.1.2.1 _ _) rfl ce_X0_putOld lk_X0_29 rfl rfl dX0_addElder_29 (fun m3 hm => ?_)
    refine g_aloadn_0 dX0_addElder_32 ?_
    refine g_iload_4 dX0_addElder_33 ?_
    refine g_iconst 2 dX0_addElder_35 rfl ?_
    refine g_iloadn_3 dX0_addElder_36 ?_
    refine g_s1 hm (fun _ _ h => c_X0_fromBelow h) ce_X0_fromBelow lk_X0_25 rfl rfl dX0_addElder_37 (fun x5 m4 hm => ?_)
    refine g_v3V hm (fun _ h => c_X0_putOld Hi h) Hi.1.1 (Hi.1.2.1 _ _) rfl ce_X0_putOld lk_X0_29 rfl rfl dX0_addElder_40 (fun m6 hm => ?_)
    refine g_aloadn_0 dX0_addElder_43 ?_
    refine g_getr (q := j) fo_0_0 Hi.1.1 Hi.1.2.1 rfl Hi.1.2.2 dX0_addElder_44 ?_
    refine g_bipush 96 dX0_addElder_47 rfl ?_
    refine g_iload_4 dX0_addElder_49 ?_
    refine g_iconst 1 dX0_addElder_51 rfl ?_
    refine g_iadd dX0_addElder_52 ?_
    refine g_iastorec 96 hm rfl rfl Hi.2.1 Hi.2.2 dX0_addElder_53 (fun m7 hm => ?_)
    exact g_vret hm dX0_addElder_54
  · exact g_vret hm dX0_addElder_15
def f_X0_trier (j : Nat) (m : Sg)  : Option (Int32 × Sg) :=
  cal (f_X0_trierWithout j m 0) (fun x2 m1 => some (x2, m1))
set_option maxRecDepth 4000 in
theorem c_X0_trier {g : Cf} {m mm : Sg} {r : Int32} {j : Nat} {i : Nat} (Hi : CTY g i j) (hm : f_X0_trier j m  = some (r, mm)) : Cl g 3 yX0_trier cX0_trier 1 (some .int) [.ref (g.ad i)] m (some (.int r)) mm := by
  refine cl_of (by decide) (Nat.le_of_ble_eq_true rfl) (vs := [some (.ref (g.ad i))]) rfl rfl ?_
  show GX g 3 RX0 cX0_trier 1 (some .int) (some (.int r)) mm 0 _ [] m
  unfold f_X0_trier at hm
  refine g_aloadn_0 dX0_trier_0 ?_
  refine g_iconst 0 dX0_trier_1 rfl ?_
  refine g_v1 hm (fun _ _ h => c_X0_trierWithout Hi h) Hi.1.1 (Hi.1.2.1 _ _) rfl ce_X0_trierWithout lk_X0_80 rfl rfl dX0_trier_2 (fun x2 m1 hm => ?_)
  exact g_iret hm dX0_trier_5
def f_X0_plumsToStand (j : Nat) (m : Sg) (a1 : Int32) (a2 : Int32) : Option (Int32 × Sg) :=
  cal (f_X0_wants j m a1 a2) (fun x2 m1 => cal (f_J6_bitCount_0f7a4 m1 x2) (fun x4 m3 => some ((m.1 j 94) * x4, m3)))
set_option maxRecDepth 4000 in
theorem c_X0_plumsToStand {g : Cf} {m mm : Sg} {r : Int32} {j : Nat} {i : Nat} {a1 : Int32} {a2 : Int32} (Hi : CTY g i j) (hm : f_X0_plumsToStand j m a1 a2 = some (r, mm)) : Cl g 3 yX0_plumsToStand cX0_plumsToStand 3 (some .int) [.ref (g.ad i), .int a1, .int a2] m (some (.int r)) mm := by
  refine cl_of (by decide) (Nat.le_of_ble_eq_true rfl) (vs := [some (.ref (g.ad i)), some (.int a1), some (.int a2)]) rfl rfl ?_
  show GX g 3 RX0 cX0_plumsToStand 3 (some .int) (some (.int r)) mm 0 _ [] m
  unfold f_X0_plumsToStand at hm
  refine g_aloadn_0 dX0_plumsToStand_0 ?_
  refine g_getr (q := j) fo_0_0 Hi.1.1 Hi.1.2.1 rfl Hi.1.2.2 dX0_plumsToStand_1 ?_
  refine g_bipush 94 dX0_plumsToStand_4 rfl ?_
  refine g_ialoadc 94 rfl rfl Hi.2.1 Hi.2.2 dX0_plumsToStand_6 ?_
  refine g_aloadn_0 dX0_plumsToStand_7 ?_
  refine g_iloadn_1 dX0_plumsToStand_8 ?_
  refine g_iloadn_2 dX0_plumsToStand_9 ?_
  refine g_v2 hm (fun _ _ h => c_X0_wants Hi h) Hi.1.1 (Hi.1.2.1 _ _) rfl ce_X0_wants lk_X0_77 rfl rfl dX0_plumsToStand_10 (fun x2 m1 hm => ?_)
  refine g_s1 hm (fun _ _ h => c_J6_bitCount_0f7a4 h) ce_J6_bitCount_0f7a4 lk_X0_83 rfl rfl dX0_plumsToStand_13 (fun x4 m3 hm => ?_)
  refine g_imul dX0_plumsToStand_16 ?_
  exact g_iret hm dX0_plumsToStand_17
def f_X0_plumsToRule (j : Nat) (m : Sg) (a1 : Int32) (a2 : Int32) : Option (Int32 × Sg) :=
  (if a1 = (m.1 j 98) then some (0, m) else
  cal (f_X0_plumsToStand j m a1 a2) (fun x2 m1 => some (x2, m1)))
set_option maxRecDepth 4000 in
theorem c_X0_plumsToRule {g : Cf} {m mm : Sg} {r : Int32} {j : Nat} {i : Nat} {a1 : Int32} {a2 : Int32} (Hi : CTY g i j) (hm : f_X0_plumsToRule j m a1 a2 = some (r, mm)) : Cl g 4 yX0_plumsToRule cX0_plumsToRule 3 (some .int) [.ref (g.ad i), .int a1, .int a2] m (some (.int r)) mm := by
  refine cl_of (by decide) (Nat.le_of_ble_eq_true rfl) (vs := [some (.ref (g.ad i)), some (.int a1), some (.int a2)]) rfl rfl ?_
  show GX g 4 RX0 cX0_plumsToRule 3 (some .int) (some (.int r)) mm 0 _ [] m
  unfold f_X0_plumsToRule at hm
  refine g_iloadn_1 dX0_plumsToRule_0 ?_
  refine g_aloadn_0 dX0_plumsToRule_1 ?_
  refine g_getr (q := j) fo_0_0 Hi.1.1 Hi.1.2.1 rfl Hi.1.2.2 dX0_plumsToRule_2 ?_
  refine g_bipush 98 dX0_plumsToRule_5 rfl ?_
  refine g_ialoadc 98 rfl rfl Hi.2.1 Hi.2.2 dX0_plumsToRule_7 ?_
  refine g_icmp_ne 15 hm dX0_plumsToRule_8 (by decide) (fun hm => ?_) (fun hm => ?_)
  · refine g_aloadn_0 dX0_plumsToRule_15 ?_
    refine g_iloadn_1 dX0_plumsToRule_16 ?_
    refine g_iloadn_2 dX0_plumsToRule_17 ?_
    refine g_v2 hm (fun _ _ h => c_X0_plumsToStand Hi h) Hi.1.1 (Hi.1.2.1 _ _) rfl ce_X0_plumsToStand lk_X0_88 rfl rfl dX0_plumsToRule_18 (fun x2 m1 hm => ?_)
    exact g_iret hm dX0_plumsToRule_21
  · refine g_iconst 0 dX0_plumsToRule_11 rfl ?_
    refine g_goto 21 dX0_plumsToRule_12 (by decide) ?_
    exact g_iret hm dX0_plumsToRule_21
def f_X0_monthsToStand (j : Nat) (m : Sg) (a1 : Int32) (a2 : Int32) : Option (Int32 × Sg) :=
  cal (f_X0_wants j m a1 a2) (fun x2 m1 => (if x2 = 0 then some (0, m1) else
  cal (f_X0_kid j m1 a1 6) (fun x4 m3 => bnd (fun ((m5, x6) : Sg × Int32) => cal (f_X0_kid j m5 a1 7) (fun x9 m8 => cal (f_X0_kid j m8 a1 4) (fun x11 m10 => cal (f_J6_bitCount_0f7a4 m10 x6) (fun x13 m12 => some (x9 + (x11 * x13), m12))))) (fun (k7 : Sg × Int32 → Option (Int32 × Sg)) =>
  (if x4 = (-1) then k7 (m3, x2) else
  k7 (m3, (x2 &&& ((1 <<< (x4 &&& 31)) ^^^ (-1)))))))))
set_option maxRecDepth 4000 in
theorem c_X0_monthsToStand {g : Cf} {m mm : Sg} {r : Int32} {j : Nat} {i : Nat} {a1 : Int32} {a2 : Int32} (Hi : CTY g i j) (hm : f_X0_monthsToStand j m a1 a2 = some (r, mm)) : Cl g 3 yX0_monthsToStand cX0_monthsToStand 6 (some .int) [.ref (g.ad i), .int a1, .int a2] m (some (.int r)) mm := by
  refine cl_of (by decide) (Nat.le_of_ble_eq_true rfl) (vs := [some (.ref (g.ad i)), some (.int a1), some (.int a2), none, none, none]) rfl rfl ?_
  show GX g 3 RX0 cX0_monthsToStand 6 (some .int) (some (.int r)) mm 0 _ [] m
  unfold f_X0_monthsToStand at hm
  refine g_aloadn_0 dX0_monthsToStand_0 ?_
  refine g_iloadn_1 dX0_monthsToStand_1 ?_
  refine g_iloadn_2 dX0_monthsToStand_2 ?_
  refine g_v2 hm (fun _ _ h => c_X0_wants Hi h) Hi.1.1 (Hi.1.2.1 _ _) rfl ce_X0_wants lk_X0_77 rfl rfl dX0_monthsToStand_3 (fun x2 m1 hm => ?_)
  refine g_istoren_3 dX0_monthsToStand_6 rfl ?_
  refine g_iloadn_3 dX0_monthsToStand_7 ?_
  refine g_if_ne 13 hm dX0_monthsToStand_8 (by decide) (fun hm => ?_) (fun hm => ?_)
  · refine g_aloadn_0 dX0_monthsToStand_13 ?_
    refine g_iloadn_1 dX0_monthsToStand_14 ?_
    refine g_bipush 6 dX0_monthsToStand_15 rfl ?_
    refine g_v2 hm (fun _ _ h => c_X0_kid Hi h) Hi.1.1 (Hi.1.2.1 _ _) rfl ce_X0_kid lk_X0_36 rfl rfl dX0_monthsToStand_17 (fun x4 m3 hm => ?_)
    refine g_istore_4 dX0_monthsToStand_20 rfl ?_
    refine g_iload_4 dX0_monthsToStand_22 ?_
    refine g_iconst (-1) dX0_monthsToStand_24 rfl ?_
    refine g_jn (J := fun (s : Sg × Int32) => GX g 3 RX0 cX0_monthsToStand 6 (some .int) (some (.int r)) mm 40 [some (.ref (g.ad i)), some (.int a1), none, none, none, none] [.int (s.2)] s.1) hm ?_ ?_
    · rintro ⟨m5, x6⟩ hm
      (try dsimp only at hm)
      (try dsimp only)
      refine g_istore_5 dX0_monthsToStand_40 rfl ?_
      refine g_aloadn_0 dX0_monthsToStand_42 ?_
      refine g_iloadn_1 dX0_monthsToStand_43 ?_
      refine g_bipush 7 dX0_monthsToStand_44 rfl ?_
      refine g_v2 hm (fun _ _ h => c_X0_kid Hi h) Hi.1.1 (Hi.1.2.1 _ _) rfl ce_X0_kid lk_X0_36 rfl rfl dX0_monthsToStand_46 (fun x9 m8 hm => ?_)
      refine g_aloadn_0 dX0_monthsToStand_49 ?_
      refine g_iloadn_1 dX0_monthsToStand_50 ?_
      refine g_iconst 4 dX0_monthsToStand_51 rfl ?_
      refine g_v2 hm (fun _ _ h => c_X0_kid Hi h) Hi.1.1 (Hi.1.2.1 _ _) rfl ce_X0_kid lk_X0_36 rfl rfl dX0_monthsToStand_52 (fun x11 m10 hm => ?_)
      refine g_iload_5 dX0_monthsToStand_55 ?_
      refine g_s1 hm (fun _ _ h => c_J6_bitCount_0f7a4 h) ce_J6_bitCount_0f7a4 lk_X0_83 rfl rfl dX0_monthsToStand_57 (fun x13 m12 hm => ?_)
      refine g_imul dX0_monthsToStand_60 ?_
      refine g_iadd dX0_monthsToStand_61 ?_
      exact g_iret hm dX0_monthsToStand_62
    · intro k7 hk7 hm
      refine g_icmp_ne 32 hm dX0_monthsToStand_25 (by decide) (fun hm => ?_) (fun hm => ?_)
      · refine g_iloadn_3 dX0_monthsToStand_32 ?_
        refine g_iconst 1 dX0_monthsToStand_33 rfl ?_
        refine g_iload_4 dX0_monthsToStand_34 ?_
        refine g_ishl dX0_monthsToStand_36 ?_
        refine g_iconst (-1) dX0_monthsToStand_37 rfl ?_
        refine g_ixor dX0_monthsToStand_38 ?_
        refine g_iand dX0_monthsToStand_39 ?_
        refine g_weak (vs' := [some (.ref (g.ad i)), some (.int a1), none, none, none, none]) ⟨rfl, ⟨rfl, trivial⟩⟩ ?_
        exact hk7 _ hm
      · refine g_iloadn_3 dX0_monthsToStand_28 ?_
        refine g_goto 40 dX0_monthsToStand_29 (by decide) ?_
        refine g_weak (vs' := [some (.ref (g.ad i)), some (.int a1), none, none, none, none]) ⟨rfl, ⟨rfl, trivial⟩⟩ ?_
        exact hk7 _ hm
  · refine g_iconst 0 dX0_monthsToStand_11 rfl ?_
    exact g_iret hm dX0_monthsToStand_12
def f_X0_beginMonth_L20 (j : Nat) (x1 : Int32) : (Sg × Int32) → Option (((Sg)) ⊕ (Sg × Int32)) := fun s => match s with
  | (m3, x4) => 
  (if (m3.1 j 96) ≤ x4 then some (.inl m3) else
  cal (f_X0_old j m3 x4 1) (fun x9 m8 => bnd (fun (m10 : Sg) => bnd (x4 + 1) (fun x12 => some (.inr (m10, x12)))) (fun (k11 : Sg → Option (((Sg)) ⊕ (Sg × Int32))) =>
  (if x9 ≤ 0 then k11 m8 else
  if (!(decide (x9 = 0))) = true then (if (x1 - x1 / x9 * x9) = 0 then cal (f_X0_old j m8 x4 2) (fun x14 m13 => calv (f_X0_putOld j m13 x4 2 (x14 >>> (1 &&& 31))) (fun m15 => k11 m15)) else
  k11 m8) else none))))
def f_X0_beginMonth_L70 (j : Nat) : (Sg × Int32) → Option (((Sg)) ⊕ (Sg × Int32)) := fun s => match s with
  | (m16, x17) => 
  (if (m16.1 j 95) ≤ x17 then some (.inl m16) else
  cal (f_X0_kid j m16 x17 0) (fun x22 m21 => calv (f_X0_putKid j m21 x17 0 (x22 + 1)) (fun m23 => cal (f_X0_kid j m23 x17 6) (fun x25 m24 => bnd (fun (m26 : Sg) => bnd (x17 + 1) (fun x28 => some (.inr (m26, x28)))) (fun (k27 : Sg → Option (((Sg)) ⊕ (Sg × Int32))) =>
  (if x25 = (-1) then k27 m24 else
  calv (f_X0_goOnWithLesson j m24 x17) (fun m29 => k27 m29)))))))
def f_X0_beginMonth (j : Nat) (m : Sg)  : Option (Sg) :=
  bnd ((m.1 j 97) + 1) (fun x1 => bnd (wr m j 97 x1) (fun m2 => lpk (f_X0_beginMonth_L20 j x1) (m2, 0) (fun m5 => lpk (f_X0_beginMonth_L70 j) (m5, 0) (fun m18 => some m18))))
set_option maxRecDepth 4000 in
theorem c_X0_beginMonth {g : Cf} {m mm : Sg} {j : Nat} {i : Nat} (Hi : CTY g i j) (hm : f_X0_beginMonth j m  = some mm) : Cl g 3 yX0_beginMonth cX0_beginMonth 4 none [.ref (g.ad i)] m none mm := by
  refine cl_of (by decide) (Nat.le_of_ble_eq_true rfl) (vs := [some (.ref (g.ad i)), none, none, none]) rfl rfl ?_
  show GX g 3 RX0 cX0_beginMonth 4 none none mm 0 _ [] m
  unfold f_X0_beginMonth at hm
  refine g_aloadn_0 dX0_beginMonth_0 ?_
  refine g_getr (q := j) fo_0_0 Hi.1.1 Hi.1.2.1 rfl Hi.1.2.2 dX0_beginMonth_1 ?_
  refine g_bipush 97 dX0_beginMonth_4 rfl ?_
  refine g_ialoadc 97 rfl rfl Hi.2.1 Hi.2.2 dX0_beginMonth_6 ?_
  refine g_iconst 1 dX0_beginMonth_7 rfl ?_
  refine g_iadd dX0_beginMonth_8 ?_
  refine g_istoreBn_1 hm dX0_beginMonth_9 rfl (fun x1 hm => ?_)
  refine g_aloadn_0 dX0_beginMonth_10 ?_
  refine g_getr (q := j) fo_0_0 Hi.1.1 Hi.1.2.1 rfl Hi.1.2.2 dX0_beginMonth_11 ?_
  refine g_bipush 97 dX0_beginMonth_14 rfl ?_
  refine g_iloadn_1 dX0_beginMonth_16 ?_
  refine g_iastorec 97 hm rfl rfl Hi.2.1 Hi.2.2 dX0_beginMonth_17 (fun m2 hm => ?_)
  refine g_iconst 0 dX0_beginMonth_18 rfl ?_
  refine g_istoren_2 dX0_beginMonth_19 rfl ?_
  refine g_lp (I := fun (s : Sg × Int32) => GX g 3 RX0 cX0_beginMonth 4 none none mm 20 [some (.ref (g.ad i)), some (.int x1), some (.int (s.2)), none] [] s.1) (E := fun (s : Sg) => GX g 3 RX0 cX0_beginMonth 4 none none mm 68 [some (.ref (g.ad i)), none, none, none] [] s) hm ?_ ?_
  · rintro m5 hm
    (try dsimp only at hm)
    (try dsimp only)
    refine g_iconst 0 dX0_beginMonth_68 rfl ?_
    refine g_istoren_2 dX0_beginMonth_69 rfl ?_
    refine g_lp (I := fun (s : Sg × Int32) => GX g 3 RX0 cX0_beginMonth 4 none none mm 70 [some (.ref (g.ad i)), none, some (.int (s.2)), none] [] s.1) (E := fun (s : Sg) => GX g 3 RX0 cX0_beginMonth 4 none none mm 117 [none, none, none, none] [] s) hm ?_ ?_
    · rintro m18 hm
      (try dsimp only at hm)
      (try dsimp only)
      exact g_vret hm dX0_beginMonth_117
    · rintro ⟨m16, x17⟩ o hm hx20 hi19
      (try dsimp only [f_X0_beginMonth_L70] at hm)
      (try dsimp only)
      refine g_iloadn_2 dX0_beginMonth_70 ?_
      refine g_aloadn_0 dX0_beginMonth_71 ?_
      refine g_getr (q := j) fo_0_0 Hi.1.1 Hi.1.2.1 rfl Hi.1.2.2 dX0_beginMonth_72 ?_
      refine g_bipush 95 dX0_beginMonth_75 rfl ?_
      refine g_ialoadc 95 rfl rfl Hi.2.1 Hi.2.2 dX0_beginMonth_77 ?_
      refine g_icmp_ge 117 hm dX0_beginMonth_78 (by decide) (fun hm => ?_) (fun hm => ?_)
      · refine g_weak (vs' := [none, none, none, none]) trivial ?_
        cases hm
        exact hx20 _ rfl
      · refine g_aloadn_0 dX0_beginMonth_81 ?_
        refine g_iloadn_2 dX0_beginMonth_82 ?_
        refine g_iconst 0 dX0_beginMonth_83 rfl ?_
        refine g_aloadn_0 dX0_beginMonth_84 ?_
        refine g_iloadn_2 dX0_beginMonth_85 ?_
        refine g_iconst 0 dX0_beginMonth_86 rfl ?_
        refine g_v2 hm (fun _ _ h => c_X0_kid Hi h) Hi.1.1 (Hi.1.2.1 _ _) rfl ce_X0_kid lk_X0_36 rfl rfl dX0_beginMonth_87 (fun x22 m21 hm => ?_)
        refine g_iconst 1 dX0_beginMonth_90 rfl ?_
        refine g_iadd dX0_beginMonth_91 ?_
        refine g_v3V hm (fun _ h => c_X0_putKid Hi h) Hi.1.1 (Hi.1.2.1 _ _) rfl ce_X0_putKid lk_X0_21 rfl rfl dX0_beginMonth_92 (fun m23 hm => ?_)
        refine g_aloadn_0 dX0_beginMonth_95 ?_
        refine g_iloadn_2 dX0_beginMonth_96 ?_
        refine g_bipush 6 dX0_beginMonth_97 rfl ?_
        refine g_v2 hm (fun _ _ h => c_X0_kid Hi h) Hi.1.1 (Hi.1.2.1 _ _) rfl ce_X0_kid lk_X0_36 rfl rfl dX0_beginMonth_99 (fun x25 m24 hm => ?_)
        refine g_iconst (-1) dX0_beginMonth_102 rfl ?_
        refine g_jn (J := fun (s : Sg) => GX g 3 RX0 cX0_beginMonth 4 none none mm 111 [some (.ref (g.ad i)), none, some (.int x17), none] [] s) hm ?_ ?_
        · intro m26 hm
          refine g_iinc_2 1 hm dX0_beginMonth_111 rfl rfl (fun x28 hm => ?_)
          refine g_goto 70 dX0_beginMonth_114 (by decide) ?_
          cases hm
          exact hi19 _ rfl
        · intro k27 hk27 hm
          refine g_icmp_eq 111 hm dX0_beginMonth_103 (by decide) (fun hm => ?_) (fun hm => ?_)
          · exact hk27 _ hm
          · refine g_aloadn_0 dX0_beginMonth_106 ?_
            refine g_iloadn_2 dX0_beginMonth_107 ?_
            refine g_v1V hm (fun _ h => c_X0_goOnWithLesson Hi h) Hi.1.1 (Hi.1.2.1 _ _) rfl ce_X0_goOnWithLesson lk_X0_91 rfl rfl dX0_beginMonth_108 (fun m29 hm => ?_)
            exact hk27 _ hm
  · rintro ⟨m3, x4⟩ o hm hx7 hi6
    (try dsimp only [f_X0_beginMonth_L20] at hm)
    (try dsimp only)
    refine g_iloadn_2 dX0_beginMonth_20 ?_
    refine g_aloadn_0 dX0_beginMonth_21 ?_
    refine g_getr (q := j) fo_0_0 Hi.1.1 Hi.1.2.1 rfl Hi.1.2.2 dX0_beginMonth_22 ?_
    refine g_bipush 96 dX0_beginMonth_25 rfl ?_
    refine g_ialoadc 96 rfl rfl Hi.2.1 Hi.2.2 dX0_beginMonth_27 ?_
    refine g_icmp_ge 68 hm dX0_beginMonth_28 (by decide) (fun hm => ?_) (fun hm => ?_)
    · refine g_weak (vs' := [some (.ref (g.ad i)), none, none, none]) ⟨rfl, trivial⟩ ?_
      cases hm
      exact hx7 _ rfl
    · refine g_aloadn_0 dX0_beginMonth_31 ?_
      refine g_iloadn_2 dX0_beginMonth_32 ?_
      refine g_iconst 1 dX0_beginMonth_33 rfl ?_
      refine g_v2 hm (fun _ _ h => c_X0_old Hi h) Hi.1.1 (Hi.1.2.1 _ _) rfl ce_X0_old lk_X0_61 rfl rfl dX0_beginMonth_34 (fun x9 m8 hm => ?_)
      refine g_istoren_3 dX0_beginMonth_37 rfl ?_
      refine g_iloadn_3 dX0_beginMonth_38 ?_
      refine g_jn (J := fun (s : Sg) => GX g 3 RX0 cX0_beginMonth 4 none none mm 62 [some (.ref (g.ad i)), some (.int x1), some (.int x4), none] [] s) hm ?_ ?_
      · intro m10 hm
        refine g_iinc_2 1 hm dX0_beginMonth_62 rfl rfl (fun x12 hm => ?_)
        refine g_goto 20 dX0_beginMonth_65 (by decide) ?_
        cases hm
        exact hi6 _ rfl
      · intro k11 hk11 hm
        refine g_if_le 62 hm dX0_beginMonth_39 (by decide) (fun hm => ?_) (fun hm => ?_)
        · refine g_weak (vs' := [some (.ref (g.ad i)), some (.int x1), some (.int x4), none]) ⟨rfl, ⟨rfl, ⟨rfl, trivial⟩⟩⟩ ?_
          exact hk11 _ hm
        · refine g_iloadn_1 dX0_beginMonth_42 ?_
          refine g_iloadn_3 dX0_beginMonth_43 ?_
          refine g_iremN hm dX0_beginMonth_44 (fun hm => ?_)
          refine g_if_ne 62 hm dX0_beginMonth_45 (by decide) (fun hm => ?_) (fun hm => ?_)
          · refine g_weak (vs' := [some (.ref (g.ad i)), some (.int x1), some (.int x4), none]) ⟨rfl, ⟨rfl, ⟨rfl, trivial⟩⟩⟩ ?_
            exact hk11 _ hm
          · refine g_aloadn_0 dX0_beginMonth_48 ?_
            refine g_iloadn_2 dX0_beginMonth_49 ?_
            refine g_iconst 2 dX0_beginMonth_50 rfl ?_
            refine g_aloadn_0 dX0_beginMonth_51 ?_
            refine g_iloadn_2 dX0_beginMonth_52 ?_
            refine g_iconst 2 dX0_beginMonth_53 rfl ?_
            refine g_v2 hm (fun _ _ h => c_X0_old Hi h) Hi.1.1 (Hi.1.2.1 _ _) rfl ce_X0_old lk_X0_61 rfl rfl dX0_beginMonth_54 (fun x14 m13 hm => ?_)
            refine g_iconst 1 dX0_beginMonth_57 rfl ?_
            refine g_ishr dX0_beginMonth_58 ?_
            refine g_v3V hm (fun _ h => c_X0_putOld Hi h) Hi.1.1 (Hi.1.2.1 _ _) rfl ce_X0_putOld lk_X0_29 rfl rfl dX0_beginMonth_59 (fun m15 hm => ?_)
            refine g_weak (vs' := [some (.ref (g.ad i)), some (.int x1), some (.int x4), none]) ⟨rfl, ⟨rfl, ⟨rfl, trivial⟩⟩⟩ ?_
            exact hk11 _ hm
def f_J6_highestOneBit_0f7a4  (m : Sg) (a1 : Int32) : Option (Int32 × Sg) :=
  cal (f_J6_numberOfLeadingZeros_0f7a4 m a1) (fun x2 m1 => some (a1 &&& ((((-2147483648) : Int32).toUInt32 >>> ((x2 : Int32).toUInt32 &&& Int32.toUInt32 31)).toInt32), m1))
set_option maxRecDepth 4000 in
theorem c_J6_highestOneBit_0f7a4 {g : Cf} {m mm : Sg} {r : Int32} {a1 : Int32} (hm : f_J6_highestOneBit_0f7a4  m a1 = some (r, mm)) : Cl g 1 yJ6_highestOneBit_0f7a4 cJ6_highestOneBit_0f7a4 1 (some .int) [.int a1] m (some (.int r)) mm := by
  refine cl_of (by decide) (Nat.le_of_ble_eq_true rfl) (vs := [some (.int a1)]) rfl rfl ?_
  show GX g 1 RJ6 cJ6_highestOneBit_0f7a4 1 (some .int) (some (.int r)) mm 0 _ [] m
  unfold f_J6_highestOneBit_0f7a4 at hm
  refine g_iloadn_0 dJ6_highestOneBit_0f7a4_0 ?_
  refine g_ldc dJ6_highestOneBit_0f7a4_1 ck_J6_127 ?_
  refine g_iloadn_0 dJ6_highestOneBit_0f7a4_3 ?_
  refine g_s1 hm (fun _ _ h => c_J6_numberOfLeadingZeros_0f7a4 h) ce_J6_numberOfLeadingZeros_0f7a4 lk_J6_51 rfl rfl dJ6_highestOneBit_0f7a4_4 (fun x2 m1 hm => ?_)
  refine g_iushr dJ6_highestOneBit_0f7a4_7 ?_
  refine g_iand dJ6_highestOneBit_0f7a4_8 ?_
  exact g_iret hm dJ6_highestOneBit_0f7a4_9
