def f_J3_checkIndex_8e157  (m : Sg) (a1 : Int32) (a2 : Int32) : Option (Int32 × Sg) :=
  bnd (fun (m1 : Sg) => none) (fun (k2 : Sg → Option (Int32 × Sg)) =>
  (if a1 < 0 then k2 m else
  (if a1 < a2 then some (a1, m) else
  k2 m)))
set_option maxRecDepth 4000 in
theorem c_J3_checkIndex_8e157 {g : Cf} {m mm : Sg} {r : Int32} {a1 : Int32} {a2 : Int32} {tt : Nat} (hm : f_J3_checkIndex_8e157  m a1 a2 = some (r, mm)) : Cl g 0 yJ3_checkIndex_8e157 cJ3_checkIndex_8e157 3 (some .int) [.int a1, .int a2, .ref tt] m (some (.int r)) mm := by
  refine cl_of (by decide) (Nat.le_of_ble_eq_true rfl) (vs := [some (.int a1), some (.int a2), some (.ref tt)]) rfl rfl ?_
  show GX g 0 RJ3 cJ3_checkIndex_8e157 3 (some .int) (some (.int r)) mm 0 _ [] m
  unfold f_J3_checkIndex_8e157 at hm
  refine g_iloadn_0 dJ3_checkIndex_8e157_0 ?_
  refine g_jn (J := fun (s : Sg) => GX g 0 RJ3 cJ3_checkIndex_8e157 3 (some .int) (some (.int r)) mm 9 [some (.int a1), some (.int a2), some (.ref tt)] [] s) hm ?_ ?_
  · intro m1 hm
    cases hm
  · intro k2 hk2 hm
    refine g_if_lt 9 hm dJ3_checkIndex_8e157_1 (by decide) (fun hm => ?_) (fun hm => ?_)
    · exact hk2 _ hm
    · refine g_iloadn_0 dJ3_checkIndex_8e157_4 ?_
      refine g_iloadn_1 dJ3_checkIndex_8e157_5 ?_
      refine g_icmp_lt 16 hm dJ3_checkIndex_8e157_6 (by decide) (fun hm => ?_) (fun hm => ?_)
      · refine g_iloadn_0 dJ3_checkIndex_8e157_16 ?_
        exact g_iret hm dJ3_checkIndex_8e157_17
      · exact hk2 _ hm
set_option maxRecDepth 4000 in
theorem c_J3_checkIndex_8e157N {g : Cf} {m mm : Sg} {r : Int32} {a1 : Int32} {a2 : Int32} (hm : f_J3_checkIndex_8e157  m a1 a2 = some (r, mm)) : Cl g 0 yJ3_checkIndex_8e157 cJ3_checkIndex_8e157 3 (some .int) [.int a1, .int a2, .null] m (some (.int r)) mm := by
  refine cl_of (by decide) (Nat.le_of_ble_eq_true rfl) (vs := [some (.int a1), some (.int a2), some (.null)]) rfl rfl ?_
  show GX g 0 RJ3 cJ3_checkIndex_8e157 3 (some .int) (some (.int r)) mm 0 _ [] m
  unfold f_J3_checkIndex_8e157 at hm
  refine g_iloadn_0 dJ3_checkIndex_8e157_0 ?_
  refine g_jn (J := fun (s : Sg) => GX g 0 RJ3 cJ3_checkIndex_8e157 3 (some .int) (some (.int r)) mm 9 [some (.int a1), some (.int a2), some (.null)] [] s) hm ?_ ?_
  · intro m1 hm
    cases hm
  · intro k2 hk2 hm
    refine g_if_lt 9 hm dJ3_checkIndex_8e157_1 (by decide) (fun hm => ?_) (fun hm => ?_)
    · exact hk2 _ hm
    · refine g_iloadn_0 dJ3_checkIndex_8e157_4 ?_
      refine g_iloadn_1 dJ3_checkIndex_8e157_5 ?_
      refine g_icmp_lt 16 hm dJ3_checkIndex_8e157_6 (by decide) (fun hm => ?_) (fun hm => ?_)
      · refine g_iloadn_0 dJ3_checkIndex_8e157_16 ?_
        exact g_iret hm dJ3_checkIndex_8e157_17
      · exact hk2 _ hm
def f_J1_canEncode_9a6ad  (m : Sg) (a1 : Int32) : Option (Int32 × Sg) :=
  (if a1 < 0 then some (0, m) else
  (if 255 < a1 then some (0, m) else
  some (1, m)))
set_option maxRecDepth 4000 in
theorem c_J1_canEncode_9a6ad {g : Cf} {m mm : Sg} {r : Int32} {a1 : Int32} (hm : f_J1_canEncode_9a6ad  m a1 = some (r, mm)) : Cl g 0 yJ1_canEncode_9a6ad cJ1_canEncode_9a6ad 1 (some .boolean) [.int a1] m (some (.int r)) mm := by
  refine cl_of (by decide) (Nat.le_of_ble_eq_true rfl) (vs := [some (.int a1)]) rfl rfl ?_
  show GX g 0 RJ1 cJ1_canEncode_9a6ad 1 (some .boolean) (some (.int r)) mm 0 _ [] m
  unfold f_J1_canEncode_9a6ad at hm
  refine g_iloadn_0 dJ1_canEncode_9a6ad_0 ?_
  refine g_if_lt 15 hm dJ1_canEncode_9a6ad_1 (by decide) (fun hm => ?_) (fun hm => ?_)
  · refine g_iconst 0 dJ1_canEncode_9a6ad_15 rfl ?_
    exact g_zretc hm rfl dJ1_canEncode_9a6ad_16
  · refine g_iloadn_0 dJ1_canEncode_9a6ad_4 ?_
    refine g_sipush 255 dJ1_canEncode_9a6ad_5 rfl ?_
    refine g_icmp_gt 15 hm dJ1_canEncode_9a6ad_8 (by decide) (fun hm => ?_) (fun hm => ?_)
    · refine g_iconst 0 dJ1_canEncode_9a6ad_15 rfl ?_
      exact g_zretc hm rfl dJ1_canEncode_9a6ad_16
    · refine g_iconst 1 dJ1_canEncode_9a6ad_11 rfl ?_
      refine g_goto 16 dJ1_canEncode_9a6ad_12 (by decide) ?_
      exact g_zretc hm rfl dJ1_canEncode_9a6ad_16
def f_J1_indexOfChar_4cfef_L7 (k : Nat) (a3 : Int32) (x1 : Int32) : (Sg × Int32) → Option (((Sg × Int32) ⊕ (Sg)) ⊕ (Sg × Int32)) := fun s => match s with
  | (m2, x3) => 
  (if a3 ≤ x3 then some (.inl (.inr m2)) else
  if inr x3 (strN k) = true then (if (strB k x3.toNatClampNeg) = x1 then some (.inl (.inl (m2, x3))) else
  bnd (x3 + 1) (fun x9 => some (.inr (m2, x9)))) else none)
def f_J1_indexOfChar_4cfef (k : Nat) (m : Sg) (a1 : Int32) (a2 : Int32) (a3 : Int32) : Option (Int32 × Sg) :=
  bnd ((a1 : Int32).toInt8.toInt32) (fun x1 => lpk (f_J1_indexOfChar_4cfef_L7 k a3 x1) (m, a2) (fun x => match x with
  | .inl (m4, x5) => some (x5, m4)
  | .inr m6 => some ((-1), m6)))
set_option maxRecDepth 4000 in
theorem c_J1_indexOfChar_4cfef {g : Cf} {m mm : Sg} {r : Int32} {k : Nat} {a1 : Int32} {a2 : Int32} {a3 : Int32} (HX : XOK g) (Hk : k < 5) (hm : f_J1_indexOfChar_4cfef k m a1 a2 a3 = some (r, mm)) : Cl g 0 yJ1_indexOfChar_4cfef cJ1_indexOfChar_4cfef 6 (some .int) [.ref (g.sa (100 + k)), .int a1, .int a2, .int a3] m (some (.int r)) mm := by
  refine cl_of (by decide) (Nat.le_of_ble_eq_true rfl) (vs := [some (.ref (g.sa (100 + k))), some (.int a1), some (.int a2), some (.int a3), none, none]) rfl rfl ?_
  show GX g 0 RJ1 cJ1_indexOfChar_4cfef 6 (some .int) (some (.int r)) mm 0 _ [] m
  unfold f_J1_indexOfChar_4cfef at hm
  refine g_iloadn_1 dJ1_indexOfChar_4cfef_0 ?_
  refine g_i2b dJ1_indexOfChar_4cfef_1 ?_
  refine g_istoreB_4 hm dJ1_indexOfChar_4cfef_2 rfl (fun x1 hm => ?_)
  refine g_iloadn_2 dJ1_indexOfChar_4cfef_4 ?_
  refine g_istore_5 dJ1_indexOfChar_4cfef_5 rfl ?_
  refine g_weak (vs' := [some (.ref (g.sa (100 + k))), none, none, some (.int a3), some (.int x1), some (.int a2)]) ⟨rfl, ⟨rfl, ⟨rfl, ⟨rfl, trivial⟩⟩⟩⟩ ?_
  refine g_lp (I := fun (s : Sg × Int32) => GX g 0 RJ1 cJ1_indexOfChar_4cfef 6 (some .int) (some (.int r)) mm 7 [some (.ref (g.sa (100 + k))), none, none, some (.int a3), some (.int x1), some (.int (s.2))] [] s.1) (E := fun (x : (Sg × Int32) ⊕ (Sg)) => match x with | .inl (m4, x5) => GX g 0 RJ1 cJ1_indexOfChar_4cfef 6 (some .int) (some (.int r)) mm 22 [none, none, none, none, none, some (.int x5)] [] m4 | .inr m6 => GX g 0 RJ1 cJ1_indexOfChar_4cfef 6 (some .int) (some (.int r)) mm 31 [none, none, none, none, none, none] [] m6) hm ?_ ?_
  · rintro (⟨m4, x5⟩ | m6) hm
    · (try dsimp only at hm)
      (try dsimp only)
      refine g_iload_5 dJ1_indexOfChar_4cfef_22 ?_
      exact g_iret hm dJ1_indexOfChar_4cfef_24
    · (try dsimp only at hm)
      (try dsimp only)
      refine g_iconst (-1) dJ1_indexOfChar_4cfef_31 rfl ?_
      exact g_iret hm dJ1_indexOfChar_4cfef_32
  · rintro ⟨m2, x3⟩ o hm hx8 hi7
    (try dsimp only [f_J1_indexOfChar_4cfef_L7] at hm)
    (try dsimp only)
    refine g_iload_5 dJ1_indexOfChar_4cfef_7 ?_
    refine g_iloadn_3 dJ1_indexOfChar_4cfef_9 ?_
    refine g_icmp_ge 31 hm dJ1_indexOfChar_4cfef_10 (by decide) (fun hm => ?_) (fun hm => ?_)
    · refine g_weak (vs' := [none, none, none, none, none, none]) trivial ?_
      cases hm
      exact hx8 _ rfl
    · refine g_aloadn_0 dJ1_indexOfChar_4cfef_13 ?_
      refine g_iload_5 dJ1_indexOfChar_4cfef_14 ?_
      refine g_baloadS hm HX Hk dJ1_indexOfChar_4cfef_16 (fun hm => ?_)
      refine g_iload_4 dJ1_indexOfChar_4cfef_17 ?_
      refine g_icmp_ne 25 hm dJ1_indexOfChar_4cfef_19 (by decide) (fun hm => ?_) (fun hm => ?_)
      · refine g_iinc_5 1 hm dJ1_indexOfChar_4cfef_25 rfl rfl (fun x9 hm => ?_)
        refine g_goto 7 dJ1_indexOfChar_4cfef_28 (by decide) ?_
        cases hm
        exact hi7 _ rfl
      · refine g_weak (vs' := [none, none, none, none, none, some (.int x3)]) ⟨rfl, trivial⟩ ?_
        cases hm
        exact hx8 _ rfl
def f_J0_coder_7d493 (k : Nat) (m : Sg)  : Option (Int32 × Sg) :=
  some (0, m)
set_option maxRecDepth 4000 in
theorem c_J0_coder_7d493 {g : Cf} {m mm : Sg} {r : Int32} {k : Nat} (HX : XOK g) (Hk : k < 5) (hm : f_J0_coder_7d493 k m  = some (r, mm)) : Cl g 0 yJ0_coder_7d493 cJ0_coder_7d493 1 (some .byte) [.ref (g.sa k)] m (some (.int r)) mm := by
  refine cl_of (by decide) (Nat.le_of_ble_eq_true rfl) (vs := [some (.ref (g.sa k))]) rfl rfl ?_
  show GX g 0 RJ0 cJ0_coder_7d493 1 (some .byte) (some (.int r)) mm 0 _ [] m
  unfold f_J0_coder_7d493 at hm
  refine g_getsC HX fl_J0_38 dJ0_coder_7d493_0 ?_
  refine g_if_eq (ρ := Unit) (hh := inferInstance) (A := none) (B := some ()) (o := some ()) 13 (if_neg (by decide)) dJ0_coder_7d493_3 (by decide) (fun h => by cases h) (fun _ => ?_)
  refine g_aloadn_0 dJ0_coder_7d493_6 ?_
  refine g_getsc HX Hk fl_J0_15 dJ0_coder_7d493_7 ?_
  refine g_goto 14 dJ0_coder_7d493_10 (by decide) ?_
  exact g_bretc hm rfl dJ0_coder_7d493_14
def f_J0_isLatin1_aae02 (k : Nat) (m : Sg)  : Option (Int32 × Sg) :=
  some (1, m)
set_option maxRecDepth 4000 in
theorem c_J0_isLatin1_aae02 {g : Cf} {m mm : Sg} {r : Int32} {k : Nat} (HX : XOK g) (Hk : k < 5) (hm : f_J0_isLatin1_aae02 k m  = some (r, mm)) : Cl g 0 yJ0_isLatin1_aae02 cJ0_isLatin1_aae02 1 (some .boolean) [.ref (g.sa k)] m (some (.int r)) mm := by
  refine cl_of (by decide) (Nat.le_of_ble_eq_true rfl) (vs := [some (.ref (g.sa k))]) rfl rfl ?_
  show GX g 0 RJ0 cJ0_isLatin1_aae02 1 (some .boolean) (some (.int r)) mm 0 _ [] m
  unfold f_J0_isLatin1_aae02 at hm
  refine g_getsC HX fl_J0_38 dJ0_isLatin1_aae02_0 ?_
  refine g_if_eq (ρ := Unit) (hh := inferInstance) (A := none) (B := some ()) (o := some ()) 17 (if_neg (by decide)) dJ0_isLatin1_aae02_3 (by decide) (fun h => by cases h) (fun _ => ?_)
  refine g_aloadn_0 dJ0_isLatin1_aae02_6 ?_
  refine g_getsc HX Hk fl_J0_15 dJ0_isLatin1_aae02_7 ?_
  refine g_if_ne (ρ := Unit) (hh := inferInstance) (A := none) (B := some ()) (o := some ()) 17 (if_pos (by decide)) dJ0_isLatin1_aae02_10 (by decide) (fun h => by cases h) (fun _ => ?_)
  refine g_iconst 1 dJ0_isLatin1_aae02_13 rfl ?_
  refine g_goto 18 dJ0_isLatin1_aae02_14 (by decide) ?_
  exact g_zretc hm rfl dJ0_isLatin1_aae02_18
def f_J0_checkIndex_df160  (m : Sg) (a1 : Int32) (a2 : Int32) : Option (Sg) :=
  cal (f_J3_checkIndex_8e157 m a1 a2) (fun x2 m1 => some m1)
set_option maxRecDepth 4000 in
theorem c_J0_checkIndex_df160 {g : Cf} {m mm : Sg} {a1 : Int32} {a2 : Int32} (HX : XOK g) (hm : f_J0_checkIndex_df160  m a1 a2 = some mm) : Cl g 1 yJ0_checkIndex_df160 cJ0_checkIndex_df160 2 none [.int a1, .int a2] m none mm := by
  refine cl_of (by decide) (Nat.le_of_ble_eq_true rfl) (vs := [some (.int a1), some (.int a2)]) rfl rfl ?_
  show GX g 1 RJ0 cJ0_checkIndex_df160 2 none none mm 0 _ [] m
  unfold f_J0_checkIndex_df160 at hm
  refine g_iloadn_0 dJ0_checkIndex_df160_0 ?_
  refine g_iloadn_1 dJ0_checkIndex_df160_1 ?_
  refine g_getsq HX fl_J0_1053 dJ0_checkIndex_df160_2 ?_ (fun tt => ?_)
  · refine g_s3 hm (fun _ _ h => c_J3_checkIndex_8e157N h) ce_J3_checkIndex_8e157 lk_J0_1059 rfl rfl dJ0_checkIndex_df160_5 (fun x2 m1 hm => ?_)
    refine g_pop dJ0_checkIndex_df160_8 rfl ?_
    exact g_vret hm dJ0_checkIndex_df160_9
  · refine g_s3 hm (fun _ _ h => c_J3_checkIndex_8e157 h) ce_J3_checkIndex_8e157 lk_J0_1059 rfl rfl dJ0_checkIndex_df160_5 (fun x2 m1 hm => ?_)
    refine g_pop dJ0_checkIndex_df160_8 rfl ?_
    exact g_vret hm dJ0_checkIndex_df160_9
def f_J1_charAt_3b067 (k : Nat) (m : Sg) (a1 : Int32) : Option (Int32 × Sg) :=
  calv (f_J0_checkIndex_df160 m a1 (Int32.ofNat (strN k))) (fun m1 => if inr a1 (strN k) = true then if isC ((((strB k a1.toNatClampNeg) &&& 255 : Int32).toUInt32 % 65536).toInt32) = true then some ((((strB k a1.toNatClampNeg) &&& 255 : Int32).toUInt32 % 65536).toInt32, m1) else none else none)
set_option maxRecDepth 4000 in
theorem c_J1_charAt_3b067 {g : Cf} {m mm : Sg} {r : Int32} {k : Nat} {a1 : Int32} (HX : XOK g) (Hk : k < 5) (hm : f_J1_charAt_3b067 k m a1 = some (r, mm)) : Cl g 2 yJ1_charAt_3b067 cJ1_charAt_3b067 2 (some .char) [.ref (g.sa (100 + k)), .int a1] m (some (.int r)) mm := by
  refine cl_of (by decide) (Nat.le_of_ble_eq_true rfl) (vs := [some (.ref (g.sa (100 + k))), some (.int a1)]) rfl rfl ?_
  show GX g 2 RJ1 cJ1_charAt_3b067 2 (some .char) (some (.int r)) mm 0 _ [] m
  unfold f_J1_charAt_3b067 at hm
  refine g_iloadn_1 dJ1_charAt_3b067_0 ?_
  refine g_aloadn_0 dJ1_charAt_3b067_1 ?_
  refine g_alenS HX Hk dJ1_charAt_3b067_2 ?_
  refine g_s2V hm (fun _ h => c_J0_checkIndex_df160 HX h) ce_J0_checkIndex_df160 lk_J1_9 rfl rfl dJ1_charAt_3b067_3 (fun m1 hm => ?_)
  refine g_aloadn_0 dJ1_charAt_3b067_6 ?_
  refine g_iloadn_1 dJ1_charAt_3b067_7 ?_
  refine g_baloadS hm HX Hk dJ1_charAt_3b067_8 (fun hm => ?_)
  refine g_sipush 255 dJ1_charAt_3b067_9 rfl ?_
  refine g_iand dJ1_charAt_3b067_12 ?_
  refine g_i2c dJ1_charAt_3b067_13 ?_
  exact g_cret hm dJ1_charAt_3b067_14
def f_J1_indexOf_4cfef (k : Nat) (m : Sg) (a1 : Int32) (a2 : Int32) (a3 : Int32) : Option (Int32 × Sg) :=
  cal (f_J1_canEncode_9a6ad m a1) (fun x2 m1 => (if x2 = 0 then some ((-1), m1) else
  bnd ((if a2 < 0 then 0 else a2)) (fun x3 => bnd ((if (Int32.ofNat (strN k)) < a3 then (Int32.ofNat (strN k)) else a3)) (fun x4 => (if x3 < x4 then cal (f_J1_indexOfChar_4cfef k m1 a1 x3 x4) (fun x6 m5 => some (x6, m5)) else
  some ((-1), m1))))))
set_option maxRecDepth 4000 in
theorem c_J1_indexOf_4cfef {g : Cf} {m mm : Sg} {r : Int32} {k : Nat} {a1 : Int32} {a2 : Int32} {a3 : Int32} (HX : XOK g) (Hk : k < 5) (hm : f_J1_indexOf_4cfef k m a1 a2 a3 = some (r, mm)) : Cl g 1 yJ1_indexOf_4cfef cJ1_indexOf_4cfef 4 (some .int) [.ref (g.sa (100 + k)), .int a1, .int a2, .int a3] m (some (.int r)) mm := by
  refine cl_of (by decide) (Nat.le_of_ble_eq_true rfl) (vs := [some (.ref (g.sa (100 + k))), some (.int a1), some (.int a2), some (.int a3)]) rfl rfl ?_
  show GX g 1 RJ1 cJ1_indexOf_4cfef 4 (some .int) (some (.int r)) mm 0 _ [] m
  unfold f_J1_indexOf_4cfef at hm
  refine g_iloadn_1 dJ1_indexOf_4cfef_0 ?_
  refine g_s1 hm (fun _ _ h => c_J1_canEncode_9a6ad h) ce_J1_canEncode_9a6ad lk_J1_88 rfl rfl dJ1_indexOf_4cfef_1 (fun x2 m1 hm => ?_)
  refine g_if_ne 9 hm dJ1_indexOf_4cfef_4 (by decide) (fun hm => ?_) (fun hm => ?_)
  · refine g_iloadn_2 dJ1_indexOf_4cfef_9 ?_
    refine g_iconst 0 dJ1_indexOf_4cfef_10 rfl ?_
    refine g_mmax lk_J1_92 rfl rfl dJ1_indexOf_4cfef_11 ?_
    refine g_istoreBn_2 hm dJ1_indexOf_4cfef_14 rfl (fun x3 hm => ?_)
    refine g_iloadn_3 dJ1_indexOf_4cfef_15 ?_
    refine g_aloadn_0 dJ1_indexOf_4cfef_16 ?_
    refine g_alenS HX Hk dJ1_indexOf_4cfef_17 ?_
    refine g_mmin lk_J1_38 rfl rfl dJ1_indexOf_4cfef_18 ?_
    refine g_istoreBn_3 hm dJ1_indexOf_4cfef_21 rfl (fun x4 hm => ?_)
    refine g_iloadn_2 dJ1_indexOf_4cfef_22 ?_
    refine g_iloadn_3 dJ1_indexOf_4cfef_23 ?_
    refine g_icmp_lt 29 hm dJ1_indexOf_4cfef_24 (by decide) (fun hm => ?_) (fun hm => ?_)
    · refine g_aloadn_0 dJ1_indexOf_4cfef_29 ?_
      refine g_iloadn_1 dJ1_indexOf_4cfef_30 ?_
      refine g_iloadn_2 dJ1_indexOf_4cfef_31 ?_
      refine g_iloadn_3 dJ1_indexOf_4cfef_32 ?_
      refine g_s4 hm (fun _ _ h => c_J1_indexOfChar_4cfef HX Hk h) ce_J1_indexOfChar_4cfef lk_J1_95 rfl rfl dJ1_indexOf_4cfef_33 (fun x6 m5 hm => ?_)
      exact g_iret hm dJ1_indexOf_4cfef_36
    · refine g_iconst (-1) dJ1_indexOf_4cfef_27 rfl ?_
      exact g_iret hm dJ1_indexOf_4cfef_28
  · refine g_iconst (-1) dJ1_indexOf_4cfef_7 rfl ?_
    exact g_iret hm dJ1_indexOf_4cfef_8
def f_J0_length_8abf5 (k : Nat) (m : Sg)  : Option (Int32 × Sg) :=
  cal (f_J0_coder_7d493 k m) (fun x2 m1 => some ((Int32.ofNat (strN k)) >>> (x2 &&& 31), m1))
set_option maxRecDepth 4000 in
theorem c_J0_length_8abf5 {g : Cf} {m mm : Sg} {r : Int32} {k : Nat} (HX : XOK g) (Hk : k < 5) (hm : f_J0_length_8abf5 k m  = some (r, mm)) : Cl g 1 yJ0_length_8abf5 cJ0_length_8abf5 1 (some .int) [.ref (g.sa k)] m (some (.int r)) mm := by
  refine cl_of (by decide) (Nat.le_of_ble_eq_true rfl) (vs := [some (.ref (g.sa k))]) rfl rfl ?_
  show GX g 1 RJ0 cJ0_length_8abf5 1 (some .int) (some (.int r)) mm 0 _ [] m
  unfold f_J0_length_8abf5 at hm
  refine g_aloadn_0 dJ0_length_8abf5_0 ?_
  refine g_getsv HX Hk fl_J0_9 dJ0_length_8abf5_1 ?_
  refine g_alenS HX Hk dJ0_length_8abf5_4 ?_
  refine g_aloadn_0 dJ0_length_8abf5_5 ?_
  refine g_w0 hm (fun _ _ h => c_J0_coder_7d493 HX Hk h) HX Hk ce_J0_coder_7d493 lk_J0_335 rfl rfl dJ0_length_8abf5_6 (fun x2 m1 hm => ?_)
  refine g_ishr dJ0_length_8abf5_9 ?_
  exact g_iret hm dJ0_length_8abf5_10
def f_J0_charAt_5068e (k : Nat) (m : Sg) (a1 : Int32) : Option (Int32 × Sg) :=
  cal (f_J0_isLatin1_aae02 k m) (fun x2 m1 => (if x2 = 0 then none else
  cal (f_J1_charAt_3b067 k m1 a1) (fun x4 m3 => if isC x4 = true then some (x4, m3) else none)))
set_option maxRecDepth 4000 in
theorem c_J0_charAt_5068e {g : Cf} {m mm : Sg} {r : Int32} {k : Nat} {a1 : Int32} (HX : XOK g) (Hk : k < 5) (hm : f_J0_charAt_5068e k m a1 = some (r, mm)) : Cl g 3 yJ0_charAt_5068e cJ0_charAt_5068e 2 (some .char) [.ref (g.sa k), .int a1] m (some (.int r)) mm := by
  refine cl_of (by decide) (Nat.le_of_ble_eq_true rfl) (vs := [some (.ref (g.sa k)), some (.int a1)]) rfl rfl ?_
  show GX g 3 RJ0 cJ0_charAt_5068e 2 (some .char) (some (.int r)) mm 0 _ [] m
  unfold f_J0_charAt_5068e at hm
  refine g_aloadn_0 dJ0_charAt_5068e_0 ?_
  refine g_w0 hm (fun _ _ h => c_J0_isLatin1_aae02 HX Hk h) HX Hk ce_J0_isLatin1_aae02 lk_J0_492 rfl rfl dJ0_charAt_5068e_1 (fun x2 m1 hm => ?_)
  refine g_if_eq 16 hm dJ0_charAt_5068e_4 (by decide) (fun hm => ?_) (fun hm => ?_)
  · cases hm
  · refine g_aloadn_0 dJ0_charAt_5068e_7 ?_
    refine g_getsv HX Hk fl_J0_9 dJ0_charAt_5068e_8 ?_
    refine g_iloadn_1 dJ0_charAt_5068e_11 ?_
    refine g_s2 hm (fun _ _ h => c_J1_charAt_3b067 HX Hk h) ce_J1_charAt_3b067 lk_J0_495 rfl rfl dJ0_charAt_5068e_12 (fun x4 m3 hm => ?_)
    exact g_cret hm dJ0_charAt_5068e_15
def f_J0_indexOf_7cf53 (k : Nat) (m : Sg) (a1 : Int32) (a2 : Int32) : Option (Int32 × Sg) :=
  cal (f_J0_isLatin1_aae02 k m) (fun x2 m1 => (if x2 = 0 then cal (f_J0_length_8abf5 k m1) (fun x4 m3 => none) else
  cal (f_J0_length_8abf5 k m1) (fun x6 m5 => cal (f_J1_indexOf_4cfef k m5 a1 a2 x6) (fun x8 m7 => some (x8, m7)))))
set_option maxRecDepth 4000 in
theorem c_J0_indexOf_7cf53 {g : Cf} {m mm : Sg} {r : Int32} {k : Nat} {a1 : Int32} {a2 : Int32} (HX : XOK g) (Hk : k < 5) (hm : f_J0_indexOf_7cf53 k m a1 a2 = some (r, mm)) : Cl g 2 yJ0_indexOf_7cf53 cJ0_indexOf_7cf53 3 (some .int) [.ref (g.sa k), .int a1, .int a2] m (some (.int r)) mm := by
  refine cl_of (by decide) (Nat.le_of_ble_eq_true rfl) (vs := [some (.ref (g.sa k)), some (.int a1), some (.int a2)]) rfl rfl ?_
  show GX g 2 RJ0 cJ0_indexOf_7cf53 3 (some .int) (some (.int r)) mm 0 _ [] m
  unfold f_J0_indexOf_7cf53 at hm
  refine g_aloadn_0 dJ0_indexOf_7cf53_0 ?_
  refine g_w0 hm (fun _ _ h => c_J0_isLatin1_aae02 HX Hk h) HX Hk ce_J0_isLatin1_aae02 lk_J0_492 rfl rfl dJ0_indexOf_7cf53_1 (fun x2 m1 hm => ?_)
  refine g_if_eq 23 hm dJ0_indexOf_7cf53_4 (by decide) (fun hm => ?_) (fun hm => ?_)
  · refine g_aloadn_0 dJ0_indexOf_7cf53_23 ?_
    refine g_getsv HX Hk fl_J0_9 dJ0_indexOf_7cf53_24 ?_
    refine g_iloadn_1 dJ0_indexOf_7cf53_27 ?_
    refine g_iloadn_2 dJ0_indexOf_7cf53_28 ?_
    refine g_aloadn_0 dJ0_indexOf_7cf53_29 ?_
    refine g_w0 hm (fun _ _ h => c_J0_length_8abf5 HX Hk h) HX Hk ce_J0_length_8abf5 lk_J0_505 rfl rfl dJ0_indexOf_7cf53_30 (fun x4 m3 hm => ?_)
    cases hm
  · refine g_aloadn_0 dJ0_indexOf_7cf53_7 ?_
    refine g_getsv HX Hk fl_J0_9 dJ0_indexOf_7cf53_8 ?_
    refine g_iloadn_1 dJ0_indexOf_7cf53_11 ?_
    refine g_iloadn_2 dJ0_indexOf_7cf53_12 ?_
    refine g_aloadn_0 dJ0_indexOf_7cf53_13 ?_
    refine g_w0 hm (fun _ _ h => c_J0_length_8abf5 HX Hk h) HX Hk ce_J0_length_8abf5 lk_J0_505 rfl rfl dJ0_indexOf_7cf53_14 (fun x6 m5 hm => ?_)
    refine g_s4 hm (fun _ _ h => c_J1_indexOf_4cfef HX Hk h) ce_J1_indexOf_4cfef lk_J0_637 rfl rfl dJ0_indexOf_7cf53_17 (fun x8 m7 hm => ?_)
    refine g_goto 36 dJ0_indexOf_7cf53_20 (by decide) ?_
    exact g_iret hm dJ0_indexOf_7cf53_36
def f_J0_indexOf_0f7a4 (k : Nat) (m : Sg) (a1 : Int32) : Option (Int32 × Sg) :=
  cal (f_J0_indexOf_7cf53 k m a1 0) (fun x2 m1 => some (x2, m1))
set_option maxRecDepth 4000 in
theorem c_J0_indexOf_0f7a4 {g : Cf} {m mm : Sg} {r : Int32} {k : Nat} {a1 : Int32} (HX : XOK g) (Hk : k < 5) (hm : f_J0_indexOf_0f7a4 k m a1 = some (r, mm)) : Cl g 3 yJ0_indexOf_0f7a4 cJ0_indexOf_0f7a4 2 (some .int) [.ref (g.sa k), .int a1] m (some (.int r)) mm := by
  refine cl_of (by decide) (Nat.le_of_ble_eq_true rfl) (vs := [some (.ref (g.sa k)), some (.int a1)]) rfl rfl ?_
  show GX g 3 RJ0 cJ0_indexOf_0f7a4 2 (some .int) (some (.int r)) mm 0 _ [] m
  unfold f_J0_indexOf_0f7a4 at hm
  refine g_aloadn_0 dJ0_indexOf_0f7a4_0 ?_
  refine g_iloadn_1 dJ0_indexOf_0f7a4_1 ?_
  refine g_iconst 0 dJ0_indexOf_0f7a4_2 rfl ?_
  refine g_w2 hm (fun _ _ h => c_J0_indexOf_7cf53 HX Hk h) HX Hk ce_J0_indexOf_7cf53 lk_J0_633 rfl rfl dJ0_indexOf_0f7a4_3 (fun x2 m1 hm => ?_)
  exact g_iret hm dJ0_indexOf_0f7a4_6
