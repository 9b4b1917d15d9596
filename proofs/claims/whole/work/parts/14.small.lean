def f_X9_filled_L5 (a1 : Int32) : (Sg × Int32 × Int32) → Option (((Sg × Int32)) ⊕ (Sg × Int32 × Int32)) := fun s => match s with
  | (m1, x2, x3) => 
  (if x3 < 0 then some (.inl (m1, x2)) else
  bnd (fun ((m8, x9) : Sg × Int32) => bnd (x3 + (-8)) (fun x11 => some (.inr (m8, x9, x11)))) (fun (k10 : Sg × Int32 → Option (((Sg × Int32)) ⊕ (Sg × Int32 × Int32))) =>
  (if ((((a1 : Int32).toUInt32 >>> ((x3 : Int32).toUInt32 &&& Int32.toUInt32 31)).toInt32) &&& 255) = 0 then k10 (m1, x2) else
  bnd (x2 + 1) (fun x12 => k10 (m1, x12)))))
def f_X9_filled  (m : Sg) (a1 : Int32) : Option (Int32 × Sg) :=
  lpk (f_X9_filled_L5 a1) (m, 0, 24) (fun ((m4, x5) : Sg × Int32) => some (x5, m4))
set_option maxRecDepth 4000 in
theorem c_X9_filled {g : Cf} {m mm : Sg} {r : Int32} {a1 : Int32} (hm : f_X9_filled  m a1 = some (r, mm)) : Cl g 0 yX9_filled cX9_filled 3 (some .int) [.int a1] m (some (.int r)) mm := by
  refine cl_of (by decide) (Nat.le_of_ble_eq_true rfl) (vs := [some (.int a1), none, none]) rfl rfl ?_
  show GX g 0 RX9 cX9_filled 3 (some .int) (some (.int r)) mm 0 _ [] m
  unfold f_X9_filled at hm
  refine g_iconst 0 dX9_filled_0 rfl ?_
  refine g_istoren_1 dX9_filled_1 rfl ?_
  refine g_bipush 24 dX9_filled_2 rfl ?_
  refine g_istoren_2 dX9_filled_4 rfl ?_
  refine g_lp (I := fun (s : Sg × Int32 × Int32) => GX g 0 RX9 cX9_filled 3 (some .int) (some (.int r)) mm 5 [some (.int a1), some (.int (s.2.1)), some (.int (s.2.2))] [] s.1) (E := fun (s : Sg × Int32) => GX g 0 RX9 cX9_filled 3 (some .int) (some (.int r)) mm 28 [none, some (.int (s.2)), none] [] s.1) hm ?_ ?_
  · rintro ⟨m4, x5⟩ hm
    (try dsimp only at hm)
    (try dsimp only)
    refine g_iloadn_1 dX9_filled_28 ?_
    exact g_iret hm dX9_filled_29
  · rintro ⟨m1, x2, x3⟩ o hm hx7 hi6
    (try dsimp only [f_X9_filled_L5] at hm)
    (try dsimp only)
    refine g_iloadn_2 dX9_filled_5 ?_
    refine g_if_lt 28 hm dX9_filled_6 (by decide) (fun hm => ?_) (fun hm => ?_)
    · refine g_weak (vs' := [none, some (.int x2), none]) ⟨rfl, trivial⟩ ?_
      cases hm
      exact hx7 _ rfl
    · refine g_iloadn_0 dX9_filled_9 ?_
      refine g_iloadn_2 dX9_filled_10 ?_
      refine g_iushr dX9_filled_11 ?_
      refine g_sipush 255 dX9_filled_12 rfl ?_
      refine g_iand dX9_filled_15 ?_
      refine g_jn (J := fun (s : Sg × Int32) => GX g 0 RX9 cX9_filled 3 (some .int) (some (.int r)) mm 22 [some (.int a1), some (.int (s.2)), some (.int x3)] [] s.1) hm ?_ ?_
      · rintro ⟨m8, x9⟩ hm
        (try dsimp only at hm)
        (try dsimp only)
        refine g_iinc_2 (-8) hm dX9_filled_22 rfl rfl (fun x11 hm => ?_)
        refine g_goto 5 dX9_filled_25 (by decide) ?_
        cases hm
        exact hi6 _ rfl
      · intro k10 hk10 hm
        refine g_if_eq 22 hm dX9_filled_16 (by decide) (fun hm => ?_) (fun hm => ?_)
        · exact hk10 _ hm
        · refine g_iinc_1 1 hm dX9_filled_19 rfl rfl (fun x12 hm => ?_)
          exact hk10 _ hm
def f_X9_add_L3 (a1 : Int32) : (Sg × Int32) → Option (((Sg)) ⊕ (Sg × Int32)) := fun s => match s with
  | (m1, x2) => 
  (if x2 < 0 then some (.inl m1) else
  bnd ((((a1 : Int32).toUInt32 >>> ((x2 : Int32).toUInt32 &&& Int32.toUInt32 31)).toInt32) &&& 255) (fun x6 => bnd (fun (m7 : Sg) => bnd (x2 + (-8)) (fun x9 => some (.inr (m7, x9)))) (fun (k8 : Sg → Option (((Sg)) ⊕ (Sg × Int32))) =>
  (if x6 = 0 then k8 m1 else
  (if 240 ≤ (m1.1 1 1) then k8 m1 else
  if inr (m1.1 1 1) 240 = true then bnd (wr m1 2 (m1.1 1 1).toNatClampNeg x6) (fun m10 => bnd (wr m10 1 1 ((m10.1 1 1) + 1)) (fun m11 => k8 m11)) else none)))))
def f_X9_add  (m : Sg) (a1 : Int32) : Option (Sg) :=
  lpk (f_X9_add_L3 a1) (m, 24) (fun m3 => some m3)
set_option maxRecDepth 4000 in
theorem c_X9_add {g : Cf} {m mm : Sg} {a1 : Int32} (hm : f_X9_add  m a1 = some mm) : Cl g 0 yX9_add cX9_add 4 none [.ref (g.ad 1), .int a1] m none mm := by
  refine cl_of (by decide) (Nat.le_of_ble_eq_true rfl) (vs := [some (.ref (g.ad 1)), some (.int a1), none, none]) rfl rfl ?_
  show GX g 0 RX9 cX9_add 4 none none mm 0 _ [] m
  unfold f_X9_add at hm
  refine g_bipush 24 dX9_add_0 rfl ?_
  refine g_istoren_2 dX9_add_2 rfl ?_
  refine g_lp (I := fun (s : Sg × Int32) => GX g 0 RX9 cX9_add 4 none none mm 3 [some (.ref (g.ad 1)), some (.int a1), some (.int (s.2)), none] [] s.1) (E := fun (s : Sg) => GX g 0 RX9 cX9_add 4 none none mm 57 [none, none, none, none] [] s) hm ?_ ?_
  · rintro m3 hm
    (try dsimp only at hm)
    (try dsimp only)
    exact g_vret hm dX9_add_57
  · rintro ⟨m1, x2⟩ o hm hx5 hi4
    (try dsimp only [f_X9_add_L3] at hm)
    (try dsimp only)
    refine g_iloadn_2 dX9_add_3 ?_
    refine g_if_lt 57 hm dX9_add_4 (by decide) (fun hm => ?_) (fun hm => ?_)
    · refine g_weak (vs' := [none, none, none, none]) trivial ?_
      cases hm
      exact hx5 _ rfl
    · refine g_iloadn_1 dX9_add_7 ?_
      refine g_iloadn_2 dX9_add_8 ?_
      refine g_iushr dX9_add_9 ?_
      refine g_sipush 255 dX9_add_10 rfl ?_
      refine g_iand dX9_add_13 ?_
      refine g_istoreBn_3 hm dX9_add_14 rfl (fun x6 hm => ?_)
      refine g_iloadn_3 dX9_add_15 ?_
      refine g_jn (J := fun (s : Sg) => GX g 0 RX9 cX9_add 4 none none mm 51 [some (.ref (g.ad 1)), some (.int a1), some (.int x2), none] [] s) hm ?_ ?_
      · intro m7 hm
        refine g_iinc_2 (-8) hm dX9_add_51 rfl rfl (fun x9 hm => ?_)
        refine g_goto 3 dX9_add_54 (by decide) ?_
        cases hm
        exact hi4 _ rfl
      · intro k8 hk8 hm
        refine g_if_eq 51 hm dX9_add_16 (by decide) (fun hm => ?_) (fun hm => ?_)
        · refine g_weak (vs' := [some (.ref (g.ad 1)), some (.int a1), some (.int x2), none]) ⟨rfl, ⟨rfl, ⟨rfl, trivial⟩⟩⟩ ?_
          exact hk8 _ hm
        · refine g_aloadn_0 dX9_add_19 ?_
          refine g_geti fo_9_1 pn_1 pc_1 rfl dX9_add_20 ?_
          refine g_aloadn_0 dX9_add_23 ?_
          refine g_getr (q := 2) fo_9_0 pn_1 pc_1 rfl rfl dX9_add_24 ?_
          refine g_alen (ty := .int) 240 ar_2.1 ar_2.2 rfl rfl dX9_add_27 ?_
          refine g_icmp_ge 51 hm dX9_add_28 (by decide) (fun hm => ?_) (fun hm => ?_)
          · refine g_weak (vs' := [some (.ref (g.ad 1)), some (.int a1), some (.int x2), none]) ⟨rfl, ⟨rfl, ⟨rfl, trivial⟩⟩⟩ ?_
            exact hk8 _ hm
          · refine g_aloadn_0 dX9_add_31 ?_
            refine g_getr (q := 2) fo_9_0 pn_1 pc_1 rfl rfl dX9_add_32 ?_
            refine g_aloadn_0 dX9_add_35 ?_
            refine g_geti fo_9_1 pn_1 pc_1 rfl dX9_add_36 ?_
            refine g_iloadn_3 dX9_add_39 ?_
            refine g_iastore hm ar_2.1 ar_2.2 dX9_add_40 (fun m10 hm => ?_)
            refine g_aloadn_0 dX9_add_41 ?_
            refine g_dup dX9_add_42 rfl ?_
            refine g_geti fo_9_1 pn_1 pc_1 rfl dX9_add_43 ?_
            refine g_iconst 1 dX9_add_46 rfl ?_
            refine g_iadd dX9_add_47 ?_
            refine g_put hm fo_9_1 fp_9_1 pn_1 pc_1 rfl dX9_add_48 (fun m11 hm => ?_)
            refine g_weak (vs' := [some (.ref (g.ad 1)), some (.int a1), some (.int x2), none]) ⟨rfl, ⟨rfl, ⟨rfl, trivial⟩⟩⟩ ?_
            exact hk8 _ hm
def f_X9_cut  (m : Sg) (a1 : Int32) : Option (Sg) :=
  bnd (wr m 1 1 a1) (fun m1 => some m1)
set_option maxRecDepth 4000 in
theorem c_X9_cut {g : Cf} {m mm : Sg} {a1 : Int32} (hm : f_X9_cut  m a1 = some mm) : Cl g 0 yX9_cut cX9_cut 2 none [.ref (g.ad 1), .int a1] m none mm := by
  refine cl_of (by decide) (Nat.le_of_ble_eq_true rfl) (vs := [some (.ref (g.ad 1)), some (.int a1)]) rfl rfl ?_
  show GX g 0 RX9 cX9_cut 2 none none mm 0 _ [] m
  unfold f_X9_cut at hm
  refine g_aloadn_0 dX9_cut_0 ?_
  refine g_iloadn_1 dX9_cut_1 ?_
  refine g_put hm fo_9_1 fp_9_1 pn_1 pc_1 rfl dX9_cut_2 (fun m1 hm => ?_)
  exact g_vret hm dX9_cut_5
def f_X9_size  (m : Sg)  : Option (Int32 × Sg) :=
  some (m.1 1 1, m)
set_option maxRecDepth 4000 in
theorem c_X9_size {g : Cf} {m mm : Sg} {r : Int32} (hm : f_X9_size  m  = some (r, mm)) : Cl g 0 yX9_size cX9_size 1 (some .int) [.ref (g.ad 1)] m (some (.int r)) mm := by
  refine cl_of (by decide) (Nat.le_of_ble_eq_true rfl) (vs := [some (.ref (g.ad 1))]) rfl rfl ?_
  show GX g 0 RX9 cX9_size 1 (some .int) (some (.int r)) mm 0 _ [] m
  unfold f_X9_size at hm
  refine g_aloadn_0 dX9_size_0 ?_
  refine g_geti fo_9_1 pn_1 pc_1 rfl dX9_size_1 ?_
  exact g_iret hm dX9_size_4
def f_X9_at  (m : Sg) (a1 : Int32) : Option (Int32 × Sg) :=
  (if a1 < 0 then some ((-1), m) else
  (if (m.1 1 1) ≤ a1 then some ((-1), m) else
  (if 240 ≤ a1 then some ((-1), m) else
  if inr a1 240 = true then some (m.1 2 a1.toNatClampNeg, m) else none)))
set_option maxRecDepth 4000 in
theorem c_X9_at {g : Cf} {m mm : Sg} {r : Int32} {a1 : Int32} (hm : f_X9_at  m a1 = some (r, mm)) : Cl g 0 yX9_at cX9_at 2 (some .int) [.ref (g.ad 1), .int a1] m (some (.int r)) mm := by
  refine cl_of (by decide) (Nat.le_of_ble_eq_true rfl) (vs := [some (.ref (g.ad 1)), some (.int a1)]) rfl rfl ?_
  show GX g 0 RX9 cX9_at 2 (some .int) (some (.int r)) mm 0 _ [] m
  unfold f_X9_at at hm
  refine g_iloadn_1 dX9_at_0 ?_
  refine g_if_lt 30 hm dX9_at_1 (by decide) (fun hm => ?_) (fun hm => ?_)
  · refine g_iconst (-1) dX9_at_30 rfl ?_
    exact g_iret hm dX9_at_31
  · refine g_iloadn_1 dX9_at_4 ?_
    refine g_aloadn_0 dX9_at_5 ?_
    refine g_geti fo_9_1 pn_1 pc_1 rfl dX9_at_6 ?_
    refine g_icmp_ge 30 hm dX9_at_9 (by decide) (fun hm => ?_) (fun hm => ?_)
    · refine g_iconst (-1) dX9_at_30 rfl ?_
      exact g_iret hm dX9_at_31
    · refine g_iloadn_1 dX9_at_12 ?_
      refine g_aloadn_0 dX9_at_13 ?_
      refine g_getr (q := 2) fo_9_0 pn_1 pc_1 rfl rfl dX9_at_14 ?_
      refine g_alen (ty := .int) 240 ar_2.1 ar_2.2 rfl rfl dX9_at_17 ?_
      refine g_icmp_ge 30 hm dX9_at_18 (by decide) (fun hm => ?_) (fun hm => ?_)
      · refine g_iconst (-1) dX9_at_30 rfl ?_
        exact g_iret hm dX9_at_31
      · refine g_aloadn_0 dX9_at_21 ?_
        refine g_getr (q := 2) fo_9_0 pn_1 pc_1 rfl rfl dX9_at_22 ?_
        refine g_iloadn_1 dX9_at_25 ?_
        refine g_iaload hm ar_2.1 ar_2.2 dX9_at_26 (fun hm => ?_)
        refine g_goto 31 dX9_at_27 (by decide) ?_
        exact g_iret hm dX9_at_31
def f_X2_begin (i : Nat) (m : Sg)  : Option (Sg) :=
  bnd (wr m i 1 0) (fun m1 => bnd (wr m1 i 2 (-1)) (fun m2 => some m2))
set_option maxRecDepth 4000 in
theorem c_X2_begin {g : Cf} {m mm : Sg} {i : Nat} (Hi : CUR g i) (hm : f_X2_begin i m  = some mm) : Cl g 0 yX2_begin cX2_begin 1 none [.ref (g.ad i)] m none mm := by
  refine cl_of (by decide) (Nat.le_of_ble_eq_true rfl) (vs := [some (.ref (g.ad i))]) rfl rfl ?_
  show GX g 0 RX2 cX2_begin 1 none none mm 0 _ [] m
  unfold f_X2_begin at hm
  refine g_aloadn_0 dX2_begin_0 ?_
  refine g_iconst 0 dX2_begin_1 rfl ?_
  refine g_put hm fo_2_1 fp_2_1 Hi.1 Hi.2 rfl dX2_begin_2 (fun m1 hm => ?_)
  refine g_aloadn_0 dX2_begin_5 ?_
  refine g_iconst (-1) dX2_begin_6 rfl ?_
  refine g_put hm fo_2_2 fp_2_2 Hi.1 Hi.2 rfl dX2_begin_7 (fun m2 hm => ?_)
  exact g_vret hm dX2_begin_10
def f_X2_wrongAt (i : Nat) (m : Sg)  : Option (Int32 × Sg) :=
  some (m.1 i 2, m)
set_option maxRecDepth 4000 in
theorem c_X2_wrongAt {g : Cf} {m mm : Sg} {r : Int32} {i : Nat} (Hi : CUR g i) (hm : f_X2_wrongAt i m  = some (r, mm)) : Cl g 0 yX2_wrongAt cX2_wrongAt 1 (some .int) [.ref (g.ad i)] m (some (.int r)) mm := by
  refine cl_of (by decide) (Nat.le_of_ble_eq_true rfl) (vs := [some (.ref (g.ad i))]) rfl rfl ?_
  show GX g 0 RX2 cX2_wrongAt 1 (some .int) (some (.int r)) mm 0 _ [] m
  unfold f_X2_wrongAt at hm
  refine g_aloadn_0 dX2_wrongAt_0 ?_
  refine g_geti fo_2_2 Hi.1 Hi.2 rfl dX2_wrongAt_1 ?_
  exact g_iret hm dX2_wrongAt_4
def f_X2_hasFailed (i : Nat) (m : Sg)  : Option (Int32 × Sg) :=
  (if (m.1 i 2) = (-1) then some (0, m) else
  some (1, m))
set_option maxRecDepth 4000 in
theorem c_X2_hasFailed {g : Cf} {m mm : Sg} {r : Int32} {i : Nat} (Hi : CUR g i) (hm : f_X2_hasFailed i m  = some (r, mm)) : Cl g 0 yX2_hasFailed cX2_hasFailed 1 (some .boolean) [.ref (g.ad i)] m (some (.int r)) mm := by
  refine cl_of (by decide) (Nat.le_of_ble_eq_true rfl) (vs := [some (.ref (g.ad i))]) rfl rfl ?_
  show GX g 0 RX2 cX2_hasFailed 1 (some .boolean) (some (.int r)) mm 0 _ [] m
  unfold f_X2_hasFailed at hm
  refine g_aloadn_0 dX2_hasFailed_0 ?_
  refine g_geti fo_2_2 Hi.1 Hi.2 rfl dX2_hasFailed_1 ?_
  refine g_iconst (-1) dX2_hasFailed_4 rfl ?_
  refine g_icmp_eq 12 hm dX2_hasFailed_5 (by decide) (fun hm => ?_) (fun hm => ?_)
  · refine g_iconst 0 dX2_hasFailed_12 rfl ?_
    exact g_zretc hm rfl dX2_hasFailed_13
  · refine g_iconst 1 dX2_hasFailed_8 rfl ?_
    refine g_goto 13 dX2_hasFailed_9 (by decide) ?_
    exact g_zretc hm rfl dX2_hasFailed_13
def f_X2_failAt (i : Nat) (m : Sg) (a1 : Int32) : Option (Sg) :=
  (if (m.1 i 2) = (-1) then bnd (wr m i 2 a1) (fun m1 => some m1) else
  some m)
set_option maxRecDepth 4000 in
theorem c_X2_failAt {g : Cf} {m mm : Sg} {i : Nat} {a1 : Int32} (Hi : CUR g i) (hm : f_X2_failAt i m a1 = some mm) : Cl g 0 yX2_failAt cX2_failAt 2 none [.ref (g.ad i), .int a1] m none mm := by
  refine cl_of (by decide) (Nat.le_of_ble_eq_true rfl) (vs := [some (.ref (g.ad i)), some (.int a1)]) rfl rfl ?_
  show GX g 0 RX2 cX2_failAt 2 none none mm 0 _ [] m
  unfold f_X2_failAt at hm
  refine g_aloadn_0 dX2_failAt_0 ?_
  refine g_geti fo_2_2 Hi.1 Hi.2 rfl dX2_failAt_1 ?_
  refine g_iconst (-1) dX2_failAt_4 rfl ?_
  refine g_icmp_ne 13 hm dX2_failAt_5 (by decide) (fun hm => ?_) (fun hm => ?_)
  · exact g_vret hm dX2_failAt_13
  · refine g_aloadn_0 dX2_failAt_8 ?_
    refine g_iloadn_1 dX2_failAt_9 ?_
    refine g_put hm fo_2_2 fp_2_2 Hi.1 Hi.2 rfl dX2_failAt_10 (fun m1 hm => ?_)
    exact g_vret hm dX2_failAt_13
def f_X2_fail (i : Nat) (m : Sg)  : Option (Sg) :=
  calv (f_X2_failAt i m (m.1 i 1)) (fun m1 => some m1)
set_option maxRecDepth 4000 in
theorem c_X2_fail {g : Cf} {m mm : Sg} {i : Nat} (Hi : CUR g i) (hm : f_X2_fail i m  = some mm) : Cl g 1 yX2_fail cX2_fail 1 none [.ref (g.ad i)] m none mm := by
  refine cl_of (by decide) (Nat.le_of_ble_eq_true rfl) (vs := [some (.ref (g.ad i))]) rfl rfl ?_
  show GX g 1 RX2 cX2_fail 1 none none mm 0 _ [] m
  unfold f_X2_fail at hm
  refine g_aloadn_0 dX2_fail_0 ?_
  refine g_aloadn_0 dX2_fail_1 ?_
  refine g_geti fo_2_1 Hi.1 Hi.2 rfl dX2_fail_2 ?_
  refine g_v1V hm (fun _ h => c_X2_failAt Hi h) Hi.1 (Hi.2 _ _) rfl ce_X2_failAt lk_X2_22 rfl rfl dX2_fail_5 (fun m1 hm => ?_)
  exact g_vret hm dX2_fail_8
def f_X2_failAtLastDigit (i : Nat) (m : Sg)  : Option (Sg) :=
  calv (f_X2_failAt i m ((m.1 i 1) - 1)) (fun m1 => some m1)
set_option maxRecDepth 4000 in
theorem c_X2_failAtLastDigit {g : Cf} {m mm : Sg} {i : Nat} (Hi : CUR g i) (hm : f_X2_failAtLastDigit i m  = some mm) : Cl g 1 yX2_failAtLastDigit cX2_failAtLastDigit 1 none [.ref (g.ad i)] m none mm := by
  refine cl_of (by decide) (Nat.le_of_ble_eq_true rfl) (vs := [some (.ref (g.ad i))]) rfl rfl ?_
  show GX g 1 RX2 cX2_failAtLastDigit 1 none none mm 0 _ [] m
  unfold f_X2_failAtLastDigit at hm
  refine g_aloadn_0 dX2_failAtLastDigit_0 ?_
  refine g_aloadn_0 dX2_failAtLastDigit_1 ?_
  refine g_geti fo_2_1 Hi.1 Hi.2 rfl dX2_failAtLastDigit_2 ?_
  refine g_iconst 1 dX2_failAtLastDigit_5 rfl ?_
  refine g_isub dX2_failAtLastDigit_6 ?_
  refine g_v1V hm (fun _ h => c_X2_failAt Hi h) Hi.1 (Hi.2 _ _) rfl ce_X2_failAt lk_X2_22 rfl rfl dX2_failAtLastDigit_7 (fun m1 hm => ?_)
  exact g_vret hm dX2_failAtLastDigit_10
def f_X2_peek_L9 (i : Nat) : Sg → Option (((Sg)) ⊕ (Sg)) := fun m3 => 
  cal (f_X9_size m3) (fun x8 m7 => (if x8 ≤ (m3.1 i 1) then some (.inl m7) else
  cal (f_X9_at m7 (m7.1 i 1)) (fun x10 m9 => (if x10 = 32 then bnd (wr m9 i 1 ((m9.1 i 1) + 1)) (fun m11 => some (.inr m11)) else
  some (.inl m9)))))
def f_X2_peek (i : Nat) (m : Sg)  : Option (Int32 × Sg) :=
  cal (f_X2_hasFailed i m) (fun x2 m1 => (if x2 = 0 then lpk (f_X2_peek_L9 i) m1 (fun m4 => cal (f_X9_at m4 (m4.1 i 1)) (fun x13 m12 => some (x13, m12))) else
  some ((-1), m1)))
set_option maxRecDepth 4000 in
theorem c_X2_peek {g : Cf} {m mm : Sg} {r : Int32} {i : Nat} (Hi : CUR g i) (hm : f_X2_peek i m  = some (r, mm)) : Cl g 1 yX2_peek cX2_peek 1 (some .int) [.ref (g.ad i)] m (some (.int r)) mm := by
  refine cl_of (by decide) (Nat.le_of_ble_eq_true rfl) (vs := [some (.ref (g.ad i))]) rfl rfl ?_
  show GX g 1 RX2 cX2_peek 1 (some .int) (some (.int r)) mm 0 _ [] m
  unfold f_X2_peek at hm
  refine g_aloadn_0 dX2_peek_0 ?_
  refine g_v0 hm (fun _ _ h => c_X2_hasFailed Hi h) Hi.1 (Hi.2 _ _) rfl ce_X2_hasFailed lk_X2_26 rfl rfl dX2_peek_1 (fun x2 m1 hm => ?_)
  refine g_if_eq 9 hm dX2_peek_4 (by decide) (fun hm => ?_) (fun hm => ?_)
  · refine g_lp (I := fun (s : Sg) => GX g 1 RX2 cX2_peek 1 (some .int) (some (.int r)) mm 9 [some (.ref (g.ad i))] [] s) (E := fun (s : Sg) => GX g 1 RX2 cX2_peek 1 (some .int) (some (.int r)) mm 52 [some (.ref (g.ad i))] [] s) hm ?_ ?_
    · rintro m4 hm
      (try dsimp only at hm)
      (try dsimp only)
      refine g_aloadn_0 dX2_peek_52 ?_
      refine g_getr (q := 1) fo_2_0 Hi.1 Hi.2 rfl rfl dX2_peek_53 ?_
      refine g_aloadn_0 dX2_peek_56 ?_
      refine g_geti fo_2_1 Hi.1 Hi.2 rfl dX2_peek_57 ?_
      refine g_v1 hm (fun _ _ h => c_X9_at h) pn_1 (pc_1 _ _) rfl ce_X9_at lk_X2_36 rfl rfl dX2_peek_60 (fun x13 m12 hm => ?_)
      exact g_iret hm dX2_peek_63
    · rintro m3 o hm hx6 hi5
      (try dsimp only [f_X2_peek_L9] at hm)
      (try dsimp only)
      refine g_aloadn_0 dX2_peek_9 ?_
      refine g_geti fo_2_1 Hi.1 Hi.2 rfl dX2_peek_10 ?_
      refine g_aloadn_0 dX2_peek_13 ?_
      refine g_getr (q := 1) fo_2_0 Hi.1 Hi.2 rfl rfl dX2_peek_14 ?_
      refine g_v0 hm (fun _ _ h => c_X9_size h) pn_1 (pc_1 _ _) rfl ce_X9_size lk_X2_30 rfl rfl dX2_peek_17 (fun x8 m7 hm => ?_)
      refine g_icmp_ge 52 hm dX2_peek_20 (by decide) (fun hm => ?_) (fun hm => ?_)
      · cases hm
        exact hx6 _ rfl
      · refine g_aloadn_0 dX2_peek_23 ?_
        refine g_getr (q := 1) fo_2_0 Hi.1 Hi.2 rfl rfl dX2_peek_24 ?_
        refine g_aloadn_0 dX2_peek_27 ?_
        refine g_geti fo_2_1 Hi.1 Hi.2 rfl dX2_peek_28 ?_
        refine g_v1 hm (fun _ _ h => c_X9_at h) pn_1 (pc_1 _ _) rfl ce_X9_at lk_X2_36 rfl rfl dX2_peek_31 (fun x10 m9 hm => ?_)
        refine g_bipush 32 dX2_peek_34 rfl ?_
        refine g_icmp_ne 52 hm dX2_peek_36 (by decide) (fun hm => ?_) (fun hm => ?_)
        · cases hm
          exact hx6 _ rfl
        · refine g_aloadn_0 dX2_peek_39 ?_
          refine g_dup dX2_peek_40 rfl ?_
          refine g_geti fo_2_1 Hi.1 Hi.2 rfl dX2_peek_41 ?_
          refine g_iconst 1 dX2_peek_44 rfl ?_
          refine g_iadd dX2_peek_45 ?_
          refine g_put hm fo_2_1 fp_2_1 Hi.1 Hi.2 rfl dX2_peek_46 (fun m11 hm => ?_)
          refine g_goto 9 dX2_peek_49 (by decide) ?_
          cases hm
          exact hi5 _ rfl
  · refine g_iconst (-1) dX2_peek_7 rfl ?_
    exact g_iret hm dX2_peek_8
def f_X2_step (i : Nat) (m : Sg)  : Option (Sg) :=
  bnd (wr m i 1 ((m.1 i 1) + 1)) (fun m1 => some m1)
set_option maxRecDepth 4000 in
theorem c_X2_step {g : Cf} {m mm : Sg} {i : Nat} (Hi : CUR g i) (hm : f_X2_step i m  = some mm) : Cl g 0 yX2_step cX2_step 1 none [.ref (g.ad i)] m none mm := by
  refine cl_of (by decide) (Nat.le_of_ble_eq_true rfl) (vs := [some (.ref (g.ad i))]) rfl rfl ?_
  show GX g 0 RX2 cX2_step 1 none none mm 0 _ [] m
  unfold f_X2_step at hm
  refine g_aloadn_0 dX2_step_0 ?_
  refine g_dup dX2_step_1 rfl ?_
  refine g_geti fo_2_1 Hi.1 Hi.2 rfl dX2_step_2 ?_
  refine g_iconst 1 dX2_step_5 rfl ?_
  refine g_iadd dX2_step_6 ?_
  refine g_put hm fo_2_1 fp_2_1 Hi.1 Hi.2 rfl dX2_step_7 (fun m1 hm => ?_)
  exact g_vret hm dX2_step_10
def f_X2_takes (i : Nat) (m : Sg) (a1 : Int32) : Option (Int32 × Sg) :=
  cal (f_X2_peek i m) (fun x2 m1 => (if x2 = a1 then calv (f_X2_step i m1) (fun m3 => some (1, m3)) else
  some (0, m1)))
set_option maxRecDepth 4000 in
theorem c_X2_takes {g : Cf} {m mm : Sg} {r : Int32} {i : Nat} {a1 : Int32} (Hi : CUR g i) (hm : f_X2_takes i m a1 = some (r, mm)) : Cl g 2 yX2_takes cX2_takes 2 (some .boolean) [.ref (g.ad i), .int a1] m (some (.int r)) mm := by
  refine cl_of (by decide) (Nat.le_of_ble_eq_true rfl) (vs := [some (.ref (g.ad i)), some (.int a1)]) rfl rfl ?_
  show GX g 2 RX2 cX2_takes 2 (some .boolean) (some (.int r)) mm 0 _ [] m
  unfold f_X2_takes at hm
  refine g_aloadn_0 dX2_takes_0 ?_
  refine g_v0 hm (fun _ _ h => c_X2_peek Hi h) Hi.1 (Hi.2 _ _) rfl ce_X2_peek lk_X2_40 rfl rfl dX2_takes_1 (fun x2 m1 hm => ?_)
  refine g_iloadn_1 dX2_takes_4 ?_
  refine g_icmp_eq 10 hm dX2_takes_5 (by decide) (fun hm => ?_) (fun hm => ?_)
  · refine g_aloadn_0 dX2_takes_10 ?_
    refine g_v0V hm (fun _ h => c_X2_step Hi h) Hi.1 (Hi.2 _ _) rfl ce_X2_step lk_X2_43 rfl rfl dX2_takes_11 (fun m3 hm => ?_)
    refine g_iconst 1 dX2_takes_14 rfl ?_
    exact g_zretc hm rfl dX2_takes_15
  · refine g_iconst 0 dX2_takes_8 rfl ?_
    exact g_zretc hm rfl dX2_takes_9
def f_X2_needs (i : Nat) (m : Sg) (a1 : Int32) : Option (Sg) :=
  cal (f_X2_peek i m) (fun x2 m1 => (if x2 = a1 then calv (f_X2_step i m1) (fun m4 => some m4) else
  calv (f_X2_fail i m1) (fun m3 => some m3)))
set_option maxRecDepth 4000 in
theorem c_X2_needs {g : Cf} {m mm : Sg} {i : Nat} {a1 : Int32} (Hi : CUR g i) (hm : f_X2_needs i m a1 = some mm) : Cl g 2 yX2_needs cX2_needs 2 none [.ref (g.ad i), .int a1] m none mm := by
  refine cl_of (by decide) (Nat.le_of_ble_eq_true rfl) (vs := [some (.ref (g.ad i)), some (.int a1)]) rfl rfl ?_
  show GX g 2 RX2 cX2_needs 2 none none mm 0 _ [] m
  unfold f_X2_needs at hm
  refine g_aloadn_0 dX2_needs_0 ?_
  refine g_v0 hm (fun _ _ h => c_X2_peek Hi h) Hi.1 (Hi.2 _ _) rfl ce_X2_peek lk_X2_40 rfl rfl dX2_needs_1 (fun x2 m1 hm => ?_)
  refine g_iloadn_1 dX2_needs_4 ?_
  refine g_icmp_ne 15 hm dX2_needs_5 (by decide) (fun hm => ?_) (fun hm => ?_)
  · refine g_aloadn_0 dX2_needs_15 ?_
    refine g_v0V hm (fun _ h => c_X2_fail Hi h) Hi.1 (Hi.2 _ _) rfl ce_X2_fail lk_X2_46 rfl rfl dX2_needs_16 (fun m3 hm => ?_)
    exact g_vret hm dX2_needs_19
  · refine g_aloadn_0 dX2_needs_8 ?_
    refine g_v0V hm (fun _ h => c_X2_step Hi h) Hi.1 (Hi.2 _ _) rfl ce_X2_step lk_X2_43 rfl rfl dX2_needs_9 (fun m4 hm => ?_)
    refine g_goto 19 dX2_needs_12 (by decide) ?_
    exact g_vret hm dX2_needs_19
def f_X2_needsEnd (i : Nat) (m : Sg)  : Option (Sg) :=
  cal (f_X2_peek i m) (fun x2 m1 => (if x2 = (-1) then some m1 else
  calv (f_X2_fail i m1) (fun m3 => some m3)))
set_option maxRecDepth 4000 in
theorem c_X2_needsEnd {g : Cf} {m mm : Sg} {i : Nat} (Hi : CUR g i) (hm : f_X2_needsEnd i m  = some mm) : Cl g 2 yX2_needsEnd cX2_needsEnd 1 none [.ref (g.ad i)] m none mm := by
  refine cl_of (by decide) (Nat.le_of_ble_eq_true rfl) (vs := [some (.ref (g.ad i))]) rfl rfl ?_
  show GX g 2 RX2 cX2_needsEnd 1 none none mm 0 _ [] m
  unfold f_X2_needsEnd at hm
  refine g_aloadn_0 dX2_needsEnd_0 ?_
  refine g_v0 hm (fun _ _ h => c_X2_peek Hi h) Hi.1 (Hi.2 _ _) rfl ce_X2_peek lk_X2_40 rfl rfl dX2_needsEnd_1 (fun x2 m1 hm => ?_)
  refine g_iconst (-1) dX2_needsEnd_4 rfl ?_
  refine g_icmp_eq 12 hm dX2_needsEnd_5 (by decide) (fun hm => ?_) (fun hm => ?_)
  · exact g_vret hm dX2_needsEnd_12
  · refine g_aloadn_0 dX2_needsEnd_8 ?_
    refine g_v0V hm (fun _ h => c_X2_fail Hi h) Hi.1 (Hi.2 _ _) rfl ce_X2_fail lk_X2_46 rfl rfl dX2_needsEnd_9 (fun m3 hm => ?_)
    exact g_vret hm dX2_needsEnd_12
def f_X2_isDigit  (m : Sg) (a1 : Int32) : Option (Int32 × Sg) :=
  (if a1 < 48 then some (0, m) else
  (if 57 < a1 then some (0, m) else
  some (1, m)))
set_option maxRecDepth 4000 in
theorem c_X2_isDigit {g : Cf} {m mm : Sg} {r : Int32} {a1 : Int32} (hm : f_X2_isDigit  m a1 = some (r, mm)) : Cl g 0 yX2_isDigit cX2_isDigit 1 (some .boolean) [.int a1] m (some (.int r)) mm := by
  refine cl_of (by decide) (Nat.le_of_ble_eq_true rfl) (vs := [some (.int a1)]) rfl rfl ?_
  show GX g 0 RX2 cX2_isDigit 1 (some .boolean) (some (.int r)) mm 0 _ [] m
  unfold f_X2_isDigit at hm
  refine g_iloadn_0 dX2_isDigit_0 ?_
  refine g_bipush 48 dX2_isDigit_1 rfl ?_
  refine g_icmp_lt 16 hm dX2_isDigit_3 (by decide) (fun hm => ?_) (fun hm => ?_)
  · refine g_iconst 0 dX2_isDigit_16 rfl ?_
    exact g_zretc hm rfl dX2_isDigit_17
  · refine g_iloadn_0 dX2_isDigit_6 ?_
    refine g_bipush 57 dX2_isDigit_7 rfl ?_
    refine g_icmp_gt 16 hm dX2_isDigit_9 (by decide) (fun hm => ?_) (fun hm => ?_)
    · refine g_iconst 0 dX2_isDigit_16 rfl ?_
      exact g_zretc hm rfl dX2_isDigit_17
    · refine g_iconst 1 dX2_isDigit_12 rfl ?_
      refine g_goto 17 dX2_isDigit_13 (by decide) ?_
      exact g_zretc hm rfl dX2_isDigit_17
def f_X2_number_L20 (i : Nat) (a1 : Int32) : (Sg × Int32 × Int32) → Option (((Sg × Int32)) ⊕ (Sg × Int32 × Int32)) := fun s => match s with
  | (m5, x6, x7) => 
  (if a1 ≤ x7 then some (.inl (m5, x6)) else
  cal (f_X9_at m5 (m5.1 i 1)) (fun x13 m12 => cal (f_X2_isDigit m12 x13) (fun x15 m14 => (if x15 = 0 then some (.inl (m14, x6)) else
  cal (f_X9_at m14 (m14.1 i 1)) (fun x17 m16 => bnd (((x6 * 10) + x17) - 48) (fun x18 => bnd (wr m16 i 1 ((m16.1 i 1) + 1)) (fun m19 => bnd (x7 + 1) (fun x20 => some (.inr (m19, x18, x20))))))))))
def f_X2_number (i : Nat) (m : Sg) (a1 : Int32) : Option (Int32 × Sg) :=
  cal (f_X2_peek i m) (fun x2 m1 => cal (f_X2_isDigit m1 x2) (fun x4 m3 => (if x4 = 0 then calv (f_X2_fail i m3) (fun m26 => some (0, m26)) else
  lpk (f_X2_number_L20 i a1) (m3, 0, 0) (fun ((m8, x9) : Sg × Int32) => cal (f_X9_at m8 (m8.1 i 1)) (fun x22 m21 => cal (f_X2_isDigit m21 x22) (fun x24 m23 => (if x24 = 0 then some (x9, m23) else
  calv (f_X2_fail i m23) (fun m25 => some (x9, m25)))))))))
set_option maxRecDepth 4000 in
theorem c_X2_number {g : Cf} {m mm : Sg} {r : Int32} {i : Nat} {a1 : Int32} (Hi : CUR g i) (hm : f_X2_number i m a1 = some (r, mm)) : Cl g 2 yX2_number cX2_number 4 (some .int) [.ref (g.ad i), .int a1] m (some (.int r)) mm := by
  refine cl_of (by decide) (Nat.le_of_ble_eq_true rfl) (vs := [some (.ref (g.ad i)), some (.int a1), none, none]) rfl rfl ?_
  show GX g 2 RX2 cX2_number 4 (some .int) (some (.int r)) mm 0 _ [] m
  unfold f_X2_number at hm
  refine g_aloadn_0 dX2_number_0 ?_
  refine g_v0 hm (fun _ _ h => c_X2_peek Hi h) Hi.1 (Hi.2 _ _) rfl ce_X2_peek lk_X2_40 rfl rfl dX2_number_1 (fun x2 m1 hm => ?_)
  refine g_s1 hm (fun _ _ h => c_X2_isDigit h) ce_X2_isDigit lk_X2_49 rfl rfl dX2_number_4 (fun x4 m3 hm => ?_)
  refine g_if_ne 16 hm dX2_number_7 (by decide) (fun hm => ?_) (fun hm => ?_)
  · refine g_iconst 0 dX2_number_16 rfl ?_
    refine g_istoren_2 dX2_number_17 rfl ?_
    refine g_iconst 0 dX2_number_18 rfl ?_
    refine g_istoren_3 dX2_number_19 rfl ?_
    refine g_lp (I := fun (s : Sg × Int32 × Int32) => GX g 2 RX2 cX2_number 4 (some .int) (some (.int r)) mm 20 [some (.ref (g.ad i)), some (.int a1), some (.int (s.2.1)), some (.int (s.2.2))] [] s.1) (E := fun (s : Sg × Int32) => GX g 2 RX2 cX2_number 4 (some .int) (some (.int r)) mm 78 [some (.ref (g.ad i)), none, some (.int (s.2)), none] [] s.1) hm ?_ ?_
    · rintro ⟨m8, x9⟩ hm
      (try dsimp only at hm)
      (try dsimp only)
      refine g_aloadn_0 dX2_number_78 ?_
      refine g_getr (q := 1) fo_2_0 Hi.1 Hi.2 rfl rfl dX2_number_79 ?_
      refine g_aloadn_0 dX2_number_82 ?_
      refine g_geti fo_2_1 Hi.1 Hi.2 rfl dX2_number_83 ?_
      refine g_v1 hm (fun _ _ h => c_X9_at h) pn_1 (pc_1 _ _) rfl ce_X9_at lk_X2_36 rfl rfl dX2_number_86 (fun x22 m21 hm => ?_)
      refine g_s1 hm (fun _ _ h => c_X2_isDigit h) ce_X2_isDigit lk_X2_49 rfl rfl dX2_number_89 (fun x24 m23 hm => ?_)
      refine g_if_eq 99 hm dX2_number_92 (by decide) (fun hm => ?_) (fun hm => ?_)
      · refine g_iloadn_2 dX2_number_99 ?_
        exact g_iret hm dX2_number_100
      · refine g_aloadn_0 dX2_number_95 ?_
        refine g_v0V hm (fun _ h => c_X2_fail Hi h) Hi.1 (Hi.2 _ _) rfl ce_X2_fail lk_X2_46 rfl rfl dX2_number_96 (fun m25 hm => ?_)
        refine g_iloadn_2 dX2_number_99 ?_
        exact g_iret hm dX2_number_100
    · rintro ⟨m5, x6, x7⟩ o hm hx11 hi10
      (try dsimp only [f_X2_number_L20] at hm)
      (try dsimp only)
      refine g_iloadn_3 dX2_number_20 ?_
      refine g_iloadn_1 dX2_number_21 ?_
      refine g_icmp_ge 78 hm dX2_number_22 (by decide) (fun hm => ?_) (fun hm => ?_)
      · refine g_weak (vs' := [some (.ref (g.ad i)), none, some (.int x6), none]) ⟨rfl, ⟨rfl, trivial⟩⟩ ?_
        cases hm
        exact hx11 _ rfl
      · refine g_aloadn_0 dX2_number_25 ?_
        refine g_getr (q := 1) fo_2_0 Hi.1 Hi.2 rfl rfl dX2_number_26 ?_
        refine g_aloadn_0 dX2_number_29 ?_
        refine g_geti fo_2_1 Hi.1 Hi.2 rfl dX2_number_30 ?_
        refine g_v1 hm (fun _ _ h => c_X9_at h) pn_1 (pc_1 _ _) rfl ce_X9_at lk_X2_36 rfl rfl dX2_number_33 (fun x13 m12 hm => ?_)
        refine g_s1 hm (fun _ _ h => c_X2_isDigit h) ce_X2_isDigit lk_X2_49 rfl rfl dX2_number_36 (fun x15 m14 hm => ?_)
        refine g_if_eq 78 hm dX2_number_39 (by decide) (fun hm => ?_) (fun hm => ?_)
        · refine g_weak (vs' := [some (.ref (g.ad i)), none, some (.int x6), none]) ⟨rfl, ⟨rfl, trivial⟩⟩ ?_
          cases hm
          exact hx11 _ rfl
        · refine g_iloadn_2 dX2_number_42 ?_
          refine g_bipush 10 dX2_number_43 rfl ?_
          refine g_imul dX2_number_45 ?_
          refine g_aloadn_0 dX2_number_46 ?_
          refine g_getr (q := 1) fo_2_0 Hi.1 Hi.2 rfl rfl dX2_number_47 ?_
          refine g_aloadn_0 dX2_number_50 ?_
          refine g_geti fo_2_1 Hi.1 Hi.2 rfl dX2_number_51 ?_
          refine g_v1 hm (fun _ _ h => c_X9_at h) pn_1 (pc_1 _ _) rfl ce_X9_at lk_X2_36 rfl rfl dX2_number_54 (fun x17 m16 hm => ?_)
          refine g_iadd dX2_number_57 ?_
          refine g_bipush 48 dX2_number_58 rfl ?_
          refine g_isub dX2_number_60 ?_
          refine g_istoreBn_2 hm dX2_number_61 rfl (fun x18 hm => ?_)
          refine g_aloadn_0 dX2_number_62 ?_
          refine g_dup dX2_number_63 rfl ?_
          refine g_geti fo_2_1 Hi.1 Hi.2 rfl dX2_number_64 ?_
          refine g_iconst 1 dX2_number_67 rfl ?_
          refine g_iadd dX2_number_68 ?_
          refine g_put hm fo_2_1 fp_2_1 Hi.1 Hi.2 rfl dX2_number_69 (fun m19 hm => ?_)
          refine g_iinc_3 1 hm dX2_number_72 rfl rfl (fun x20 hm => ?_)
          refine g_goto 20 dX2_number_75 (by decide) ?_
          cases hm
          exact hi10 _ rfl
  · refine g_aloadn_0 dX2_number_10 ?_
    refine g_v0V hm (fun _ h => c_X2_fail Hi h) Hi.1 (Hi.2 _ _) rfl ce_X2_fail lk_X2_46 rfl rfl dX2_number_11 (fun m26 hm => ?_)
    refine g_iconst 0 dX2_number_14 rfl ?_
    exact g_iret hm dX2_number_15
def f_X7_forgetAll  (m : Sg)  : Option (Sg) :=
  bnd (wr m 16 5 0) (fun m1 => bnd (wr m1 16 6 0) (fun m2 => some m2))
set_option maxRecDepth 4000 in
theorem c_X7_forgetAll {g : Cf} {m mm : Sg} (hm : f_X7_forgetAll  m  = some mm) : Cl g 0 yX7_forgetAll cX7_forgetAll 1 none [.ref (g.ad 16)] m none mm := by
  refine cl_of (by decide) (Nat.le_of_ble_eq_true rfl) (vs := [some (.ref (g.ad 16))]) rfl rfl ?_
  show GX g 0 RX7 cX7_forgetAll 1 none none mm 0 _ [] m
  unfold f_X7_forgetAll at hm
  refine g_aloadn_0 dX7_forgetAll_0 ?_
  refine g_iconst 0 dX7_forgetAll_1 rfl ?_
  refine g_put hm fo_7_5 fp_7_5 pn_16 pc_16 rfl dX7_forgetAll_2 (fun m1 hm => ?_)
  refine g_aloadn_0 dX7_forgetAll_5 ?_
  refine g_iconst 0 dX7_forgetAll_6 rfl ?_
  refine g_putz hm fo_7_6 fp_7_6 pn_16 pc_16 rfl rfl dX7_forgetAll_7 (fun m2 hm => ?_)
  exact g_vret hm dX7_forgetAll_10
def f_X7_acts  (m : Sg)  : Option (Int32 × Sg) :=
  some (m.1 16 5, m)
set_option maxRecDepth 4000 in
theorem c_X7_acts {g : Cf} {m mm : Sg} {r : Int32} (hm : f_X7_acts  m  = some (r, mm)) : Cl g 0 yX7_acts cX7_acts 1 (some .int) [.ref (g.ad 16)] m (some (.int r)) mm := by
  refine cl_of (by decide) (Nat.le_of_ble_eq_true rfl) (vs := [some (.ref (g.ad 16))]) rfl rfl ?_
  show GX g 0 RX7 cX7_acts 1 (some .int) (some (.int r)) mm 0 _ [] m
  unfold f_X7_acts at hm
  refine g_aloadn_0 dX7_acts_0 ?_
  refine g_geti fo_7_5 pn_16 pc_16 rfl dX7_acts_1 ?_
  exact g_iret hm dX7_acts_4
def f_X7_remember  (m : Sg)  : Option (Sg) :=
  calv (f_X0_copyTo 4 17 4000 m ((m.1 16 4) * 100)) (fun m1 => bnd (wr m1 16 4 (((m1.1 16 4) + 1) - ((m1.1 16 4) + 1) / 40 * 40)) (fun m2 => bnd (wr m2 16 5 (if 40 < ((m2.1 16 5) + 1) then 40 else ((m2.1 16 5) + 1))) (fun m3 => some m3)))
set_option maxRecDepth 4000 in
theorem c_X7_remember {g : Cf} {m mm : Sg} (hm : f_X7_remember  m  = some mm) : Cl g 2 yX7_remember cX7_remember 2 none [.ref (g.ad 16), .ref (g.ad 3)] m none mm := by
  refine cl_of (by decide) (Nat.le_of_ble_eq_true rfl) (vs := [some (.ref (g.ad 16)), some (.ref (g.ad 3))]) rfl rfl ?_
  show GX g 2 RX7 cX7_remember 2 none none mm 0 _ [] m
  unfold f_X7_remember at hm
  refine g_aloadn_1 dX7_remember_0 ?_
  refine g_aloadn_0 dX7_remember_1 ?_
  refine g_getr (q := 17) fo_7_0 pn_16 pc_16 rfl rfl dX7_remember_2 ?_
  refine g_aloadn_0 dX7_remember_5 ?_
  refine g_geti fo_7_4 pn_16 pc_16 rfl dX7_remember_6 ?_
  refine g_bipush 100 dX7_remember_9 rfl ?_
  refine g_imul dX7_remember_11 ?_
  refine g_v2V hm (fun _ h => c_X0_copyTo cty_3 ar_17 h) pn_3 (pc_3 _ _) rfl ce_X0_copyTo lk_X7_37 rfl rfl dX7_remember_12 (fun m1 hm => ?_)
  refine g_aloadn_0 dX7_remember_15 ?_
  refine g_aloadn_0 dX7_remember_16 ?_
  refine g_geti fo_7_4 pn_16 pc_16 rfl dX7_remember_17 ?_
  refine g_iconst 1 dX7_remember_20 rfl ?_
  refine g_iadd dX7_remember_21 ?_
  refine g_bipush 40 dX7_remember_22 rfl ?_
  refine g_irem dX7_remember_24 (by decide) ?_
  refine g_put hm fo_7_4 fp_7_4 pn_16 pc_16 rfl dX7_remember_25 (fun m2 hm => ?_)
  refine g_aloadn_0 dX7_remember_28 ?_
  refine g_aloadn_0 dX7_remember_29 ?_
  refine g_geti fo_7_5 pn_16 pc_16 rfl dX7_remember_30 ?_
  refine g_iconst 1 dX7_remember_33 rfl ?_
  refine g_iadd dX7_remember_34 ?_
  refine g_bipush 40 dX7_remember_35 rfl ?_
  refine g_mmin lk_X7_41 rfl rfl dX7_remember_37 ?_
  refine g_put hm fo_7_5 fp_7_5 pn_16 pc_16 rfl dX7_remember_40 (fun m3 hm => ?_)
  exact g_vret hm dX7_remember_43
def f_X7_recall  (m : Sg)  : Option (Sg) :=
  bnd (wr m 16 4 ((((m.1 16 4) + 40) - 1) - (((m.1 16 4) + 40) - 1) / 40 * 40)) (fun m1 => bnd (wr m1 16 5 ((m1.1 16 5) - 1)) (fun m2 => calv (f_X0_copyFrom 4 17 4000 m2 ((m2.1 16 4) * 100)) (fun m3 => some m3)))
set_option maxRecDepth 4000 in
theorem c_X7_recall {g : Cf} {m mm : Sg} (hm : f_X7_recall  m  = some mm) : Cl g 2 yX7_recall cX7_recall 2 none [.ref (g.ad 16), .ref (g.ad 3)] m none mm := by
  refine cl_of (by decide) (Nat.le_of_ble_eq_true rfl) (vs := [some (.ref (g.ad 16)), some (.ref (g.ad 3))]) rfl rfl ?_
  show GX g 2 RX7 cX7_recall 2 none none mm 0 _ [] m
  unfold f_X7_recall at hm
  refine g_aloadn_0 dX7_recall_0 ?_
  refine g_aloadn_0 dX7_recall_1 ?_
  refine g_geti fo_7_4 pn_16 pc_16 rfl dX7_recall_2 ?_
  refine g_bipush 40 dX7_recall_5 rfl ?_
  refine g_iadd dX7_recall_7 ?_
  refine g_iconst 1 dX7_recall_8 rfl ?_
  refine g_isub dX7_recall_9 ?_
  refine g_bipush 40 dX7_recall_10 rfl ?_
  refine g_irem dX7_recall_12 (by decide) ?_
  refine g_put hm fo_7_4 fp_7_4 pn_16 pc_16 rfl dX7_recall_13 (fun m1 hm => ?_)
  refine g_aloadn_0 dX7_recall_16 ?_
  refine g_dup dX7_recall_17 rfl ?_
  refine g_geti fo_7_5 pn_16 pc_16 rfl dX7_recall_18 ?_
  refine g_iconst 1 dX7_recall_21 rfl ?_
  refine g_isub dX7_recall_22 ?_
  refine g_put hm fo_7_5 fp_7_5 pn_16 pc_16 rfl dX7_recall_23 (fun m2 hm => ?_)
  refine g_aloadn_1 dX7_recall_26 ?_
  refine g_aloadn_0 dX7_recall_27 ?_
  refine g_getr (q := 17) fo_7_0 pn_16 pc_16 rfl rfl dX7_recall_28 ?_
  refine g_aloadn_0 dX7_recall_31 ?_
  refine g_geti fo_7_4 pn_16 pc_16 rfl dX7_recall_32 ?_
  refine g_bipush 100 dX7_recall_35 rfl ?_
  refine g_imul dX7_recall_37 ?_
  refine g_v2V hm (fun _ h => c_X0_copyFrom cty_3 ar_17 h) pn_3 (pc_3 _ _) rfl ce_X0_copyFrom lk_X7_47 rfl rfl dX7_recall_38 (fun m3 hm => ?_)
  exact g_vret hm dX7_recall_41
def f_X7_logLength  (m : Sg)  : Option (Int32 × Sg) :=
  cal (f_X0_cell 4 m 97) (fun x2 m1 => some ((if 60 < x2 then 60 else x2), m1))
set_option maxRecDepth 4000 in
theorem c_X7_logLength {g : Cf} {m mm : Sg} {r : Int32} (hm : f_X7_logLength  m  = some (r, mm)) : Cl g 1 yX7_logLength cX7_logLength 2 (some .int) [.ref (g.ad 16), .ref (g.ad 3)] m (some (.int r)) mm := by
  refine cl_of (by decide) (Nat.le_of_ble_eq_true rfl) (vs := [some (.ref (g.ad 16)), some (.ref (g.ad 3))]) rfl rfl ?_
  show GX g 1 RX7 cX7_logLength 2 (some .int) (some (.int r)) mm 0 _ [] m
  unfold f_X7_logLength at hm
  refine g_aloadn_1 dX7_logLength_0 ?_
  refine g_bipush 97 dX7_logLength_1 rfl ?_
  refine g_v1 hm (fun _ _ h => c_X0_cell cty_3 h) pn_3 (pc_3 _ _) rfl ce_X0_cell lk_X7_50 rfl rfl dX7_logLength_3 (fun x2 m1 hm => ?_)
  refine g_bipush 60 dX7_logLength_6 rfl ?_
  refine g_mmin lk_X7_41 rfl rfl dX7_logLength_8 ?_
  exact g_iret hm dX7_logLength_11
def f_X7_rowOf  (m : Sg) (a1 : Int32) : Option (Int32 × Sg) :=
  some ((a1 - a1 / 100 * 100) * 3, m)
set_option maxRecDepth 4000 in
theorem c_X7_rowOf {g : Cf} {m mm : Sg} {r : Int32} {a1 : Int32} (hm : f_X7_rowOf  m a1 = some (r, mm)) : Cl g 0 yX7_rowOf cX7_rowOf 1 (some .int) [.int a1] m (some (.int r)) mm := by
  refine cl_of (by decide) (Nat.le_of_ble_eq_true rfl) (vs := [some (.int a1)]) rfl rfl ?_
  show GX g 0 RX7 cX7_rowOf 1 (some .int) (some (.int r)) mm 0 _ [] m
  unfold f_X7_rowOf at hm
  refine g_iloadn_0 dX7_rowOf_0 ?_
  refine g_bipush 100 dX7_rowOf_1 rfl ?_
  refine g_irem dX7_rowOf_3 (by decide) ?_
  refine g_iconst 3 dX7_rowOf_4 rfl ?_
  refine g_imul dX7_rowOf_5 ?_
  exact g_iret hm dX7_rowOf_6
def f_X7_paint  (m : Sg)  : Option (Sg) :=
  calv (f_X0_copyTo 4 19 100 m 0) (fun m1 => if cpk 0 0 300 300 300 = true then bnd (wrr m1 20 (va_cpy (m1.1 18) (m1.1 20) (0 : Int32).toNatClampNeg (0 : Int32).toNatClampNeg (300 : Int32).toNatClampNeg)) (fun m2 => bnd (wr m2 16 6 1) (fun m3 => some m3)) else none)
set_option maxRecDepth 4000 in
theorem c_X7_paint {g : Cf} {m mm : Sg} (hm : f_X7_paint  m  = some mm) : Cl g 2 yX7_paint cX7_paint 2 none [.ref (g.ad 16), .ref (g.ad 3)] m none mm := by
  refine cl_of (by decide) (Nat.le_of_ble_eq_true rfl) (vs := [some (.ref (g.ad 16)), some (.ref (g.ad 3))]) rfl rfl ?_
  show GX g 2 RX7 cX7_paint 2 none none mm 0 _ [] m
  unfold f_X7_paint at hm
  refine g_aloadn_1 dX7_paint_0 ?_
  refine g_aloadn_0 dX7_paint_1 ?_
  refine g_getr (q := 19) fo_7_2 pn_16 pc_16 rfl rfl dX7_paint_2 ?_
  refine g_iconst 0 dX7_paint_5 rfl ?_
  refine g_v2V hm (fun _ h => c_X0_copyTo cty_3 ar_19 h) pn_3 (pc_3 _ _) rfl ce_X0_copyTo lk_X7_37 rfl rfl dX7_paint_6 (fun m1 hm => ?_)
  refine g_aloadn_0 dX7_paint_9 ?_
  refine g_getr (q := 18) fo_7_1 pn_16 pc_16 rfl rfl dX7_paint_10 ?_
  refine g_iconst 0 dX7_paint_13 rfl ?_
  refine g_aloadn_0 dX7_paint_14 ?_
  refine g_getr (q := 20) fo_7_3 pn_16 pc_16 rfl rfl dX7_paint_15 ?_
  refine g_iconst 0 dX7_paint_18 rfl ?_
  refine g_sipush 300 dX7_paint_19 rfl ?_
  refine g_copy hm ar_18 ar_20 lk_X7_62 rfl rfl dX7_paint_22 (fun m2 hm => ?_)
  refine g_aloadn_0 dX7_paint_25 ?_
  refine g_iconst 1 dX7_paint_26 rfl ?_
  refine g_putz hm fo_7_6 fp_7_6 pn_16 pc_16 rfl rfl dX7_paint_27 (fun m3 hm => ?_)
  exact g_vret hm dX7_paint_30
def f_X7_hasImage  (m : Sg)  : Option (Int32 × Sg) :=
  if isB (m.1 16 6) = true then some (m.1 16 6, m) else none
set_option maxRecDepth 4000 in
theorem c_X7_hasImage {g : Cf} {m mm : Sg} {r : Int32} (hm : f_X7_hasImage  m  = some (r, mm)) : Cl g 0 yX7_hasImage cX7_hasImage 1 (some .boolean) [.ref (g.ad 16)] m (some (.int r)) mm := by
  refine cl_of (by decide) (Nat.le_of_ble_eq_true rfl) (vs := [some (.ref (g.ad 16))]) rfl rfl ?_
  show GX g 0 RX7 cX7_hasImage 1 (some .boolean) (some (.int r)) mm 0 _ [] m
  unfold f_X7_hasImage at hm
  refine g_aloadn_0 dX7_hasImage_0 ?_
  refine g_geti fo_7_6 pn_16 pc_16 rfl dX7_hasImage_1 ?_
  exact g_zret hm dX7_hasImage_4
def f_X7_restore  (m : Sg)  : Option (Sg) :=
  calv (f_X0_copyFrom 4 19 100 m 0) (fun m1 => if cpk 0 0 300 300 300 = true then bnd (wrr m1 18 (va_cpy (m1.1 20) (m1.1 18) (0 : Int32).toNatClampNeg (0 : Int32).toNatClampNeg (300 : Int32).toNatClampNeg)) (fun m2 => bnd (wr m2 16 5 0) (fun m3 => some m3)) else none)
set_option maxRecDepth 4000 in
theorem c_X7_restore {g : Cf} {m mm : Sg} (hm : f_X7_restore  m  = some mm) : Cl g 2 yX7_restore cX7_restore 2 none [.ref (g.ad 16), .ref (g.ad 3)] m none mm := by
  refine cl_of (by decide) (Nat.le_of_ble_eq_true rfl) (vs := [some (.ref (g.ad 16)), some (.ref (g.ad 3))]) rfl rfl ?_
  show GX g 2 RX7 cX7_restore 2 none none mm 0 _ [] m
  unfold f_X7_restore at hm
  refine g_aloadn_1 dX7_restore_0 ?_
  refine g_aloadn_0 dX7_restore_1 ?_
  refine g_getr (q := 19) fo_7_2 pn_16 pc_16 rfl rfl dX7_restore_2 ?_
  refine g_iconst 0 dX7_restore_5 rfl ?_
  refine g_v2V hm (fun _ h => c_X0_copyFrom cty_3 ar_19 h) pn_3 (pc_3 _ _) rfl ce_X0_copyFrom lk_X7_47 rfl rfl dX7_restore_6 (fun m1 hm => ?_)
  refine g_aloadn_0 dX7_restore_9 ?_
  refine g_getr (q := 20) fo_7_3 pn_16 pc_16 rfl rfl dX7_restore_10 ?_
  refine g_iconst 0 dX7_restore_13 rfl ?_
  refine g_aloadn_0 dX7_restore_14 ?_
  refine g_getr (q := 18) fo_7_1 pn_16 pc_16 rfl rfl dX7_restore_15 ?_
  refine g_iconst 0 dX7_restore_18 rfl ?_
  refine g_sipush 300 dX7_restore_19 rfl ?_
  refine g_copy hm ar_20 ar_18 lk_X7_62 rfl rfl dX7_restore_22 (fun m2 hm => ?_)
  refine g_aloadn_0 dX7_restore_25 ?_
  refine g_iconst 0 dX7_restore_26 rfl ?_
  refine g_put hm fo_7_5 fp_7_5 pn_16 pc_16 rfl dX7_restore_27 (fun m3 hm => ?_)
  exact g_vret hm dX7_restore_30
def f_X7_write  (m : Sg) (a1 : Int32) (a2 : Int32) : Option (Sg) :=
  cal (f_X0_cell 4 m 97) (fun x2 m1 => cal (f_X7_rowOf m1 x2) (fun x4 m3 => (if x4 < 0 then some m3 else
  (if (300 - 3) < x4 then some m3 else
  cal (f_X0_ruler 4 m3) (fun x6 m5 => if inr x4 300 = true then bnd (wr m5 18 x4.toNatClampNeg x6) (fun m7 => if inr (x4 + 1) 300 = true then bnd (wr m7 18 (x4 + 1).toNatClampNeg a1) (fun m8 => if inr (x4 + 2) 300 = true then bnd (wr m8 18 (x4 + 2).toNatClampNeg a2) (fun m9 => some m9) else none) else none) else none)))))
set_option maxRecDepth 4000 in
theorem c_X7_write {g : Cf} {m mm : Sg} {a1 : Int32} {a2 : Int32} (hm : f_X7_write  m a1 a2 = some mm) : Cl g 1 yX7_write cX7_write 5 none [.ref (g.ad 16), .ref (g.ad 3), .int a1, .int a2] m none mm := by
  refine cl_of (by decide) (Nat.le_of_ble_eq_true rfl) (vs := [some (.ref (g.ad 16)), some (.ref (g.ad 3)), some (.int a1), some (.int a2), none]) rfl rfl ?_
  show GX g 1 RX7 cX7_write 5 none none mm 0 _ [] m
  unfold f_X7_write at hm
  refine g_aloadn_1 dX7_write_0 ?_
  refine g_bipush 97 dX7_write_1 rfl ?_
  refine g_v1 hm (fun _ _ h => c_X0_cell cty_3 h) pn_3 (pc_3 _ _) rfl ce_X0_cell lk_X7_50 rfl rfl dX7_write_3 (fun x2 m1 hm => ?_)
  refine g_s1 hm (fun _ _ h => c_X7_rowOf h) ce_X7_rowOf lk_X7_54 rfl rfl dX7_write_6 (fun x4 m3 hm => ?_)
  refine g_istore_4 dX7_write_9 rfl ?_
  refine g_iload_4 dX7_write_11 ?_
  refine g_if_lt 59 hm dX7_write_13 (by decide) (fun hm => ?_) (fun hm => ?_)
  · exact g_vret hm dX7_write_59
  · refine g_iload_4 dX7_write_16 ?_
    refine g_aloadn_0 dX7_write_18 ?_
    refine g_getr (q := 18) fo_7_1 pn_16 pc_16 rfl rfl dX7_write_19 ?_
    refine g_alen (ty := .int) 300 ar_18.1 ar_18.2 rfl rfl dX7_write_22 ?_
    refine g_iconst 3 dX7_write_23 rfl ?_
    refine g_isub dX7_write_24 ?_
    refine g_icmp_gt 59 hm dX7_write_25 (by decide) (fun hm => ?_) (fun hm => ?_)
    · exact g_vret hm dX7_write_59
    · refine g_aloadn_0 dX7_write_28 ?_
      refine g_getr (q := 18) fo_7_1 pn_16 pc_16 rfl rfl dX7_write_29 ?_
      refine g_iload_4 dX7_write_32 ?_
      refine g_aloadn_1 dX7_write_34 ?_
      refine g_v0 hm (fun _ _ h => c_X0_ruler cty_3 h) pn_3 (pc_3 _ _) rfl ce_X0_ruler lk_X7_57 rfl rfl dX7_write_35 (fun x6 m5 hm => ?_)
      refine g_iastore hm ar_18.1 ar_18.2 dX7_write_38 (fun m7 hm => ?_)
      refine g_aloadn_0 dX7_write_39 ?_
      refine g_getr (q := 18) fo_7_1 pn_16 pc_16 rfl rfl dX7_write_40 ?_
      refine g_iload_4 dX7_write_43 ?_
      refine g_iconst 1 dX7_write_45 rfl ?_
      refine g_iadd dX7_write_46 ?_
      refine g_iloadn_2 dX7_write_47 ?_
      refine g_iastore hm ar_18.1 ar_18.2 dX7_write_48 (fun m8 hm => ?_)
      refine g_aloadn_0 dX7_write_49 ?_
      refine g_getr (q := 18) fo_7_1 pn_16 pc_16 rfl rfl dX7_write_50 ?_
      refine g_iload_4 dX7_write_53 ?_
      refine g_iconst 2 dX7_write_55 rfl ?_
      refine g_iadd dX7_write_56 ?_
      refine g_iloadn_3 dX7_write_57 ?_
      refine g_iastore hm ar_18.1 ar_18.2 dX7_write_58 (fun m9 hm => ?_)
      exact g_vret hm dX7_write_59
def f_X7_logged  (m : Sg) (a1 : Int32) (a2 : Int32) : Option (Int32 × Sg) :=
  cal (f_X7_rowOf m a1) (fun x2 m1 => bnd (x2 + a2) (fun x3 => (if x3 < 0 then some ((-1000000), m1) else
  (if 300 ≤ x3 then some ((-1000000), m1) else
  if inr x3 300 = true then some (m1.1 18 x3.toNatClampNeg, m1) else none))))
set_option maxRecDepth 4000 in
theorem c_X7_logged {g : Cf} {m mm : Sg} {r : Int32} {a1 : Int32} {a2 : Int32} (hm : f_X7_logged  m a1 a2 = some (r, mm)) : Cl g 1 yX7_logged cX7_logged 4 (some .int) [.ref (g.ad 16), .int a1, .int a2] m (some (.int r)) mm := by
  refine cl_of (by decide) (Nat.le_of_ble_eq_true rfl) (vs := [some (.ref (g.ad 16)), some (.int a1), some (.int a2), none]) rfl rfl ?_
  show GX g 1 RX7 cX7_logged 4 (some .int) (some (.int r)) mm 0 _ [] m
  unfold f_X7_logged at hm
  refine g_iloadn_1 dX7_logged_0 ?_
  refine g_s1 hm (fun _ _ h => c_X7_rowOf h) ce_X7_rowOf lk_X7_54 rfl rfl dX7_logged_1 (fun x2 m1 hm => ?_)
  refine g_iloadn_2 dX7_logged_4 ?_
  refine g_iadd dX7_logged_5 ?_
  refine g_istoreBn_3 hm dX7_logged_6 rfl (fun x3 hm => ?_)
  refine g_iloadn_3 dX7_logged_7 ?_
  refine g_if_lt 29 hm dX7_logged_8 (by decide) (fun hm => ?_) (fun hm => ?_)
  · refine g_ldc dX7_logged_29 ck_X7_61 ?_
    exact g_iret hm dX7_logged_31
  · refine g_iloadn_3 dX7_logged_11 ?_
    refine g_aloadn_0 dX7_logged_12 ?_
    refine g_getr (q := 18) fo_7_1 pn_16 pc_16 rfl rfl dX7_logged_13 ?_
    refine g_alen (ty := .int) 300 ar_18.1 ar_18.2 rfl rfl dX7_logged_16 ?_
    refine g_icmp_ge 29 hm dX7_logged_17 (by decide) (fun hm => ?_) (fun hm => ?_)
    · refine g_ldc dX7_logged_29 ck_X7_61 ?_
      exact g_iret hm dX7_logged_31
    · refine g_aloadn_0 dX7_logged_20 ?_
      refine g_getr (q := 18) fo_7_1 pn_16 pc_16 rfl rfl dX7_logged_21 ?_
      refine g_iloadn_3 dX7_logged_24 ?_
      refine g_iaload hm ar_18.1 ar_18.2 dX7_logged_25 (fun hm => ?_)
      refine g_goto 31 dX7_logged_26 (by decide) ?_
      exact g_iret hm dX7_logged_31
def f_X8_mayRule  (m : Sg) (a1 : Int32) : Option (Int32 × Sg) :=
  cal (f_X0_ruler 4 m) (fun x2 m1 => bnd (fun ((m3, x4) : Sg × Int32) => (if x4 = 0 then some (0, m3) else
  cal (f_X0_isBelowGrowing 4 m3 a1) (fun x7 m6 => (if x7 = 0 then some (0, m6) else
  some (1, m6))))) (fun (k5 : Sg × Int32 → Option (Int32 × Sg)) =>
  bnd (fun (m8 : Sg) => k5 (m8, 1)) (fun (k9 : Sg → Option (Int32 × Sg)) =>
  (if x2 = (-1) then k9 m1 else
  (if x2 = a1 then k9 m1 else
  cal (f_X0_isYounger 4 m1 a1 x2) (fun x11 m10 => (if x11 = 0 then k5 (m10, 0) else
  k9 m10)))))))
set_option maxRecDepth 4000 in
theorem c_X8_mayRule {g : Cf} {m mm : Sg} {r : Int32} {a1 : Int32} (hm : f_X8_mayRule  m a1 = some (r, mm)) : Cl g 2 yX8_mayRule cX8_mayRule 4 (some .boolean) [.ref (g.ad 21), .int a1] m (some (.int r)) mm := by
  refine cl_of (by decide) (Nat.le_of_ble_eq_true rfl) (vs := [some (.ref (g.ad 21)), some (.int a1), none, none]) rfl rfl ?_
  show GX g 2 RX8 cX8_mayRule 4 (some .boolean) (some (.int r)) mm 0 _ [] m
  unfold f_X8_mayRule at hm
  refine g_aloadn_0 dX8_mayRule_0 ?_
  refine g_getr (q := 3) fo_8_0 pn_21 pc_21 rfl rfl dX8_mayRule_1 ?_
  refine g_v0 hm (fun _ _ h => c_X0_ruler cty_3 h) pn_3 (pc_3 _ _) rfl ce_X0_ruler lk_X8_37 rfl rfl dX8_mayRule_4 (fun x2 m1 hm => ?_)
  refine g_istoren_2 dX8_mayRule_7 rfl ?_
  refine g_iloadn_2 dX8_mayRule_8 ?_
  refine g_iconst (-1) dX8_mayRule_9 rfl ?_
  refine g_jn (J := fun (s : Sg × Int32) => GX g 2 RX8 cX8_mayRule 4 (some .boolean) (some (.int r)) mm 35 [some (.ref (g.ad 21)), some (.int a1), none, none] [.int (s.2)] s.1) hm ?_ ?_
  · rintro ⟨m3, x4⟩ hm
    (try dsimp only at hm)
    (try dsimp only)
    refine g_istoren_3 dX8_mayRule_35 rfl ?_
    refine g_iloadn_3 dX8_mayRule_36 ?_
    refine g_if_eq 55 hm dX8_mayRule_37 (by decide) (fun hm => ?_) (fun hm => ?_)
    · refine g_iconst 0 dX8_mayRule_55 rfl ?_
      exact g_zretc hm rfl dX8_mayRule_56
    · refine g_aloadn_0 dX8_mayRule_40 ?_
      refine g_getr (q := 3) fo_8_0 pn_21 pc_21 rfl rfl dX8_mayRule_41 ?_
      refine g_iloadn_1 dX8_mayRule_44 ?_
      refine g_v1 hm (fun _ _ h => c_X0_isBelowGrowing cty_3 h) pn_3 (pc_3 _ _) rfl ce_X0_isBelowGrowing lk_X8_43 rfl rfl dX8_mayRule_45 (fun x7 m6 hm => ?_)
      refine g_if_eq 55 hm dX8_mayRule_48 (by decide) (fun hm => ?_) (fun hm => ?_)
      · refine g_iconst 0 dX8_mayRule_55 rfl ?_
        exact g_zretc hm rfl dX8_mayRule_56
      · refine g_iconst 1 dX8_mayRule_51 rfl ?_
        refine g_goto 56 dX8_mayRule_52 (by decide) ?_
        exact g_zretc hm rfl dX8_mayRule_56
  · intro k5 hk5 hm
    refine g_jn (J := fun (s : Sg) => GX g 2 RX8 cX8_mayRule 4 (some .boolean) (some (.int r)) mm 30 [some (.ref (g.ad 21)), some (.int a1), none, none] [] s) hm ?_ ?_
    · intro m8 hm
      refine g_iconst 1 dX8_mayRule_30 rfl ?_
      refine g_goto 35 dX8_mayRule_31 (by decide) ?_
      exact hk5 _ hm
    · intro k9 hk9 hm
      refine g_icmp_eq 30 hm dX8_mayRule_10 (by decide) (fun hm => ?_) (fun hm => ?_)
      · refine g_weak (vs' := [some (.ref (g.ad 21)), some (.int a1), none, none]) ⟨rfl, ⟨rfl, trivial⟩⟩ ?_
        exact hk9 _ hm
      · refine g_iloadn_2 dX8_mayRule_13 ?_
        refine g_iloadn_1 dX8_mayRule_14 ?_
        refine g_icmp_eq 30 hm dX8_mayRule_15 (by decide) (fun hm => ?_) (fun hm => ?_)
        · refine g_weak (vs' := [some (.ref (g.ad 21)), some (.int a1), none, none]) ⟨rfl, ⟨rfl, trivial⟩⟩ ?_
          exact hk9 _ hm
        · refine g_aloadn_0 dX8_mayRule_18 ?_
          refine g_getr (q := 3) fo_8_0 pn_21 pc_21 rfl rfl dX8_mayRule_19 ?_
          refine g_iloadn_1 dX8_mayRule_22 ?_
          refine g_iloadn_2 dX8_mayRule_23 ?_
          refine g_v2 hm (fun _ _ h => c_X0_isYounger cty_3 h) pn_3 (pc_3 _ _) rfl ce_X0_isYounger lk_X8_40 rfl rfl dX8_mayRule_24 (fun x11 m10 hm => ?_)
          refine g_if_eq 34 hm dX8_mayRule_27 (by decide) (fun hm => ?_) (fun hm => ?_)
          · refine g_iconst 0 dX8_mayRule_34 rfl ?_
            refine g_weak (vs' := [some (.ref (g.ad 21)), some (.int a1), none, none]) ⟨rfl, ⟨rfl, trivial⟩⟩ ?_
            exact hk5 _ hm
          · refine g_weak (vs' := [some (.ref (g.ad 21)), some (.int a1), none, none]) ⟨rfl, ⟨rfl, trivial⟩⟩ ?_
            exact hk9 _ hm
def f_X8_mindedBy_L4 (a1 : Int32) : (Sg × Int32 × Int32) → Option (((Sg × Int32)) ⊕ (Sg × Int32 × Int32)) := fun s => match s with
  | (m1, x2, x3) => 
  cal (f_X0_elders 4 m1) (fun x9 m8 => (if x9 ≤ x3 then some (.inl (m8, x2)) else
  bnd (fun ((m10, x11) : Sg × Int32) => bnd (x3 + 1) (fun x13 => some (.inr (m10, x11, x13)))) (fun (k12 : Sg × Int32 → Option (((Sg × Int32)) ⊕ (Sg × Int32 × Int32))) =>
  (if ((a1 >>> (x3 &&& 31)) &&& 1) = 0 then k12 (m8, x2) else
  cal (f_X0_old 4 m8 x3 2) (fun x15 m14 => bnd (x2 ||| x15) (fun x16 => k12 (m14, x16)))))))
def f_X8_mindedBy  (m : Sg) (a1 : Int32) : Option (Int32 × Sg) :=
  lpk (f_X8_mindedBy_L4 a1) (m, 0, 0) (fun ((m4, x5) : Sg × Int32) => some (x5, m4))
set_option maxRecDepth 4000 in
theorem c_X8_mindedBy {g : Cf} {m mm : Sg} {r : Int32} {a1 : Int32} (hm : f_X8_mindedBy  m a1 = some (r, mm)) : Cl g 1 yX8_mindedBy cX8_mindedBy 4 (some .int) [.ref (g.ad 21), .int a1] m (some (.int r)) mm := by
  refine cl_of (by decide) (Nat.le_of_ble_eq_true rfl) (vs := [some (.ref (g.ad 21)), some (.int a1), none, none]) rfl rfl ?_
  show GX g 1 RX8 cX8_mindedBy 4 (some .int) (some (.int r)) mm 0 _ [] m
  unfold f_X8_mindedBy at hm
  refine g_iconst 0 dX8_mindedBy_0 rfl ?_
  refine g_istoren_2 dX8_mindedBy_1 rfl ?_
  refine g_iconst 0 dX8_mindedBy_2 rfl ?_
  refine g_istoren_3 dX8_mindedBy_3 rfl ?_
  refine g_lp (I := fun (s : Sg × Int32 × Int32) => GX g 1 RX8 cX8_mindedBy 4 (some .int) (some (.int r)) mm 4 [some (.ref (g.ad 21)), some (.int a1), some (.int (s.2.1)), some (.int (s.2.2))] [] s.1) (E := fun (s : Sg × Int32) => GX g 1 RX8 cX8_mindedBy 4 (some .int) (some (.int r)) mm 41 [none, none, some (.int (s.2)), none] [] s.1) hm ?_ ?_
  · rintro ⟨m4, x5⟩ hm
    (try dsimp only at hm)
    (try dsimp only)
    refine g_iloadn_2 dX8_mindedBy_41 ?_
    exact g_iret hm dX8_mindedBy_42
  · rintro ⟨m1, x2, x3⟩ o hm hx7 hi6
    (try dsimp only [f_X8_mindedBy_L4] at hm)
    (try dsimp only)
    refine g_iloadn_3 dX8_mindedBy_4 ?_
    refine g_aloadn_0 dX8_mindedBy_5 ?_
    refine g_getr (q := 3) fo_8_0 pn_21 pc_21 rfl rfl dX8_mindedBy_6 ?_
    refine g_v0 hm (fun _ _ h => c_X0_elders cty_3 h) pn_3 (pc_3 _ _) rfl ce_X0_elders lk_X8_46 rfl rfl dX8_mindedBy_9 (fun x9 m8 hm => ?_)
    refine g_icmp_ge 41 hm dX8_mindedBy_12 (by decide) (fun hm => ?_) (fun hm => ?_)
    · refine g_weak (vs' := [none, none, some (.int x2), none]) ⟨rfl, trivial⟩ ?_
      cases hm
      exact hx7 _ rfl
    · refine g_iloadn_1 dX8_mindedBy_15 ?_
      refine g_iloadn_3 dX8_mindedBy_16 ?_
      refine g_ishr dX8_mindedBy_17 ?_
      refine g_iconst 1 dX8_mindedBy_18 rfl ?_
      refine g_iand dX8_mindedBy_19 ?_
      refine g_jn (J := fun (s : Sg × Int32) => GX g 1 RX8 cX8_mindedBy 4 (some .int) (some (.int r)) mm 35 [some (.ref (g.ad 21)), some (.int a1), some (.int (s.2)), some (.int x3)] [] s.1) hm ?_ ?_
      · rintro ⟨m10, x11⟩ hm
        (try dsimp only at hm)
        (try dsimp only)
        refine g_iinc_3 1 hm dX8_mindedBy_35 rfl rfl (fun x13 hm => ?_)
        refine g_goto 4 dX8_mindedBy_38 (by decide) ?_
        cases hm
        exact hi6 _ rfl
      · intro k12 hk12 hm
        refine g_if_eq 35 hm dX8_mindedBy_20 (by decide) (fun hm => ?_) (fun hm => ?_)
        · exact hk12 _ hm
        · refine g_iloadn_2 dX8_mindedBy_23 ?_
          refine g_aloadn_0 dX8_mindedBy_24 ?_
          refine g_getr (q := 3) fo_8_0 pn_21 pc_21 rfl rfl dX8_mindedBy_25 ?_
          refine g_iloadn_3 dX8_mindedBy_28 ?_
          refine g_iconst 2 dX8_mindedBy_29 rfl ?_
          refine g_v2 hm (fun _ _ h => c_X0_old cty_3 h) pn_3 (pc_3 _ _) rfl ce_X0_old lk_X8_62 rfl rfl dX8_mindedBy_30 (fun x15 m14 hm => ?_)
          refine g_ior dX8_mindedBy_33 ?_
          refine g_istoreBn_2 hm dX8_mindedBy_34 rfl (fun x16 hm => ?_)
          exact hk12 _ hm
def f_X8_unknownToElders  (m : Sg)  : Option (Int32 × Sg) :=
  cal (f_X0_triedTens 4 m) (fun x2 m1 => cal (f_X0_elders 4 m1) (fun x4 m3 => cal (f_X8_mindedBy m3 ((1 <<< (x4 &&& 31)) - 1)) (fun x6 m5 => some (x2 &&& (x6 ^^^ (-1)), m5))))
set_option maxRecDepth 4000 in
theorem c_X8_unknownToElders {g : Cf} {m mm : Sg} {r : Int32} (hm : f_X8_unknownToElders  m  = some (r, mm)) : Cl g 2 yX8_unknownToElders cX8_unknownToElders 1 (some .int) [.ref (g.ad 21)] m (some (.int r)) mm := by
  refine cl_of (by decide) (Nat.le_of_ble_eq_true rfl) (vs := [some (.ref (g.ad 21))]) rfl rfl ?_
  show GX g 2 RX8 cX8_unknownToElders 1 (some .int) (some (.int r)) mm 0 _ [] m
  unfold f_X8_unknownToElders at hm
  refine g_aloadn_0 dX8_unknownToElders_0 ?_
  refine g_getr (q := 3) fo_8_0 pn_21 pc_21 rfl rfl dX8_unknownToElders_1 ?_
  refine g_v0 hm (fun _ _ h => c_X0_triedTens cty_3 h) pn_3 (pc_3 _ _) rfl ce_X0_triedTens lk_X8_65 rfl rfl dX8_unknownToElders_4 (fun x2 m1 hm => ?_)
  refine g_aloadn_0 dX8_unknownToElders_7 ?_
  refine g_iconst 1 dX8_unknownToElders_8 rfl ?_
  refine g_aloadn_0 dX8_unknownToElders_9 ?_
  refine g_getr (q := 3) fo_8_0 pn_21 pc_21 rfl rfl dX8_unknownToElders_10 ?_
  refine g_v0 hm (fun _ _ h => c_X0_elders cty_3 h) pn_3 (pc_3 _ _) rfl ce_X0_elders lk_X8_46 rfl rfl dX8_unknownToElders_13 (fun x4 m3 hm => ?_)
  refine g_ishl dX8_unknownToElders_16 ?_
  refine g_iconst 1 dX8_unknownToElders_17 rfl ?_
  refine g_isub dX8_unknownToElders_18 ?_
  refine g_v1 hm (fun _ _ h => c_X8_mindedBy h) pn_21 (pc_21 _ _) rfl ce_X8_mindedBy lk_X8_52 rfl rfl dX8_unknownToElders_19 (fun x6 m5 hm => ?_)
  refine g_iconst (-1) dX8_unknownToElders_22 rfl ?_
  refine g_ixor dX8_unknownToElders_23 ?_
  refine g_iand dX8_unknownToElders_24 ?_
  exact g_iret hm dX8_unknownToElders_25
def f_X8_chainedWith_L6 (a1 : Int32) : (Sg × Int32 × Int32) → Option (((Sg × Int32)) ⊕ (Sg × Int32 × Int32)) := fun s => match s with
  | (m2, x3, x4) => 
  cal (f_X0_children 4 m2) (fun x10 m9 => (if x10 ≤ x4 then some (.inl (m9, x3)) else
  cal (f_X0_isYounger 4 m9 a1 x4) (fun x12 m11 => bnd (fun ((m13, x14) : Sg × Int32) => cal (f_X0_isYounger 4 m13 x4 a1) (fun x17 m16 => bnd (fun ((m18, x19) : Sg × Int32) => bnd (fun ((m21, x22) : Sg × Int32) => bnd (x4 + 1) (fun x24 => some (.inr (m21, x22, x24)))) (fun (k23 : Sg × Int32 → Option (((Sg × Int32)) ⊕ (Sg × Int32 × Int32))) =>
  bnd (fun (m25 : Sg) => bnd (x3 ||| (1 <<< (x4 &&& 31))) (fun x27 => k23 (m25, x27))) (fun (k26 : Sg → Option (((Sg × Int32)) ⊕ (Sg × Int32 × Int32))) =>
  (if x14 = 0 then (if x19 = 0 then k23 (m18, x3) else
  k26 m18) else
  k26 m18)))) (fun (k20 : Sg × Int32 → Option (((Sg × Int32)) ⊕ (Sg × Int32 × Int32))) =>
  bnd (fun (m28 : Sg) => k20 (m28, 0)) (fun (k29 : Sg → Option (((Sg × Int32)) ⊕ (Sg × Int32 × Int32))) =>
  (if x17 = 0 then k29 m16 else
  cal (f_X0_countOf 4 m16 x4) (fun x31 m30 => cal (f_X0_countOf 4 m30 a1) (fun x33 m32 => (if x33 ≤ x31 then k29 m32 else
  k20 (m32, 1))))))))) (fun (k15 : Sg × Int32 → Option (((Sg × Int32)) ⊕ (Sg × Int32 × Int32))) =>
  bnd (fun (m34 : Sg) => k15 (m34, 0)) (fun (k35 : Sg → Option (((Sg × Int32)) ⊕ (Sg × Int32 × Int32))) =>
  (if x12 = 0 then k35 m11 else
  cal (f_X0_countOf 4 m11 a1) (fun x37 m36 => cal (f_X0_countOf 4 m36 x4) (fun x39 m38 => (if x39 ≤ x37 then k35 m38 else
  k15 (m38, 1))))))))))
def f_X8_chainedWith  (m : Sg) (a1 : Int32) : Option (Int32 × Sg) :=
  bnd (1 <<< (a1 &&& 31)) (fun x1 => lpk (f_X8_chainedWith_L6 a1) (m, x1, 0) (fun ((m5, x6) : Sg × Int32) => some (x6, m5)))
set_option maxRecDepth 4000 in
theorem c_X8_chainedWith {g : Cf} {m mm : Sg} {r : Int32} {a1 : Int32} (hm : f_X8_chainedWith  m a1 = some (r, mm)) : Cl g 4 yX8_chainedWith cX8_chainedWith 6 (some .int) [.ref (g.ad 21), .int a1] m (some (.int r)) mm := by
  refine cl_of (by decide) (Nat.le_of_ble_eq_true rfl) (vs := [some (.ref (g.ad 21)), some (.int a1), none, none, none, none]) rfl rfl ?_
  show GX g 4 RX8 cX8_chainedWith 6 (some .int) (some (.int r)) mm 0 _ [] m
  unfold f_X8_chainedWith at hm
  refine g_iconst 1 dX8_chainedWith_0 rfl ?_
  refine g_iloadn_1 dX8_chainedWith_1 ?_
  refine g_ishl dX8_chainedWith_2 ?_
  refine g_istoreBn_2 hm dX8_chainedWith_3 rfl (fun x1 hm => ?_)
  refine g_iconst 0 dX8_chainedWith_4 rfl ?_
  refine g_istoren_3 dX8_chainedWith_5 rfl ?_
  refine g_lp (I := fun (s : Sg × Int32 × Int32) => GX g 4 RX8 cX8_chainedWith 6 (some .int) (some (.int r)) mm 6 [some (.ref (g.ad 21)), some (.int a1), some (.int (s.2.1)), some (.int (s.2.2)), none, none] [] s.1) (E := fun (s : Sg × Int32) => GX g 4 RX8 cX8_chainedWith 6 (some .int) (some (.int r)) mm 115 [none, none, some (.int (s.2)), none, none, none] [] s.1) hm ?_ ?_
  · rintro ⟨m5, x6⟩ hm
    (try dsimp only at hm)
    (try dsimp only)
    refine g_iloadn_2 dX8_chainedWith_115 ?_
    exact g_iret hm dX8_chainedWith_116
  · rintro ⟨m2, x3, x4⟩ o hm hx8 hi7
    (try dsimp only [f_X8_chainedWith_L6] at hm)
    (try dsimp only)
    refine g_iloadn_3 dX8_chainedWith_6 ?_
    refine g_aloadn_0 dX8_chainedWith_7 ?_
    refine g_getr (q := 3) fo_8_0 pn_21 pc_21 rfl rfl dX8_chainedWith_8 ?_
    refine g_v0 hm (fun _ _ h => c_X0_children cty_3 h) pn_3 (pc_3 _ _) rfl ce_X0_children lk_X8_21 rfl rfl dX8_chainedWith_11 (fun x10 m9 hm => ?_)
    refine g_icmp_ge 115 hm dX8_chainedWith_14 (by decide) (fun hm => ?_) (fun hm => ?_)
    · refine g_weak (vs' := [none, none, some (.int x3), none, none, none]) ⟨rfl, trivial⟩ ?_
      cases hm
      exact hx8 _ rfl
    · refine g_aloadn_0 dX8_chainedWith_17 ?_
      refine g_getr (q := 3) fo_8_0 pn_21 pc_21 rfl rfl dX8_chainedWith_18 ?_
      refine g_iloadn_1 dX8_chainedWith_21 ?_
      refine g_iloadn_3 dX8_chainedWith_22 ?_
      refine g_v2 hm (fun _ _ h => c_X0_isYounger cty_3 h) pn_3 (pc_3 _ _) rfl ce_X0_isYounger lk_X8_40 rfl rfl dX8_chainedWith_23 (fun x12 m11 hm => ?_)
      refine g_jn (J := fun (s : Sg × Int32) => GX g 4 RX8 cX8_chainedWith 6 (some .int) (some (.int r)) mm 53 [some (.ref (g.ad 21)), some (.int a1), some (.int x3), some (.int x4), none, none] [.int (s.2)] s.1) hm ?_ ?_
      · rintro ⟨m13, x14⟩ hm
        (try dsimp only at hm)
        (try dsimp only)
        refine g_istore_4 dX8_chainedWith_53 rfl ?_
        refine g_aloadn_0 dX8_chainedWith_55 ?_
        refine g_getr (q := 3) fo_8_0 pn_21 pc_21 rfl rfl dX8_chainedWith_56 ?_
        refine g_iloadn_3 dX8_chainedWith_59 ?_
        refine g_iloadn_1 dX8_chainedWith_60 ?_
        refine g_v2 hm (fun _ _ h => c_X0_isYounger cty_3 h) pn_3 (pc_3 _ _) rfl ce_X0_isYounger lk_X8_40 rfl rfl dX8_chainedWith_61 (fun x17 m16 hm => ?_)
        refine g_jn (J := fun (s : Sg × Int32) => GX g 4 RX8 cX8_chainedWith 6 (some .int) (some (.int r)) mm 91 [some (.ref (g.ad 21)), some (.int a1), some (.int x3), some (.int x4), some (.int x14), none] [.int (s.2)] s.1) hm ?_ ?_
        · rintro ⟨m18, x19⟩ hm
          (try dsimp only at hm)
          (try dsimp only)
          refine g_istore_5 dX8_chainedWith_91 rfl ?_
          refine g_iload_4 dX8_chainedWith_93 ?_
          refine g_jn (J := fun (s : Sg × Int32) => GX g 4 RX8 cX8_chainedWith 6 (some .int) (some (.int r)) mm 109 [some (.ref (g.ad 21)), some (.int a1), some (.int (s.2)), some (.int x4), none, none] [] s.1) hm ?_ ?_
          · rintro ⟨m21, x22⟩ hm
            (try dsimp only at hm)
            (try dsimp only)
            refine g_iinc_3 1 hm dX8_chainedWith_109 rfl rfl (fun x24 hm => ?_)
            refine g_goto 6 dX8_chainedWith_112 (by decide) ?_
            cases hm
            exact hi7 _ rfl
          · intro k23 hk23 hm
            refine g_jn (J := fun (s : Sg) => GX g 4 RX8 cX8_chainedWith 6 (some .int) (some (.int r)) mm 103 [some (.ref (g.ad 21)), some (.int a1), some (.int x3), some (.int x4), none, none] [] s) hm ?_ ?_
            · intro m25 hm
              refine g_iloadn_2 dX8_chainedWith_103 ?_
              refine g_iconst 1 dX8_chainedWith_104 rfl ?_
              refine g_iloadn_3 dX8_chainedWith_105 ?_
              refine g_ishl dX8_chainedWith_106 ?_
              refine g_ior dX8_chainedWith_107 ?_
              refine g_istoreBn_2 hm dX8_chainedWith_108 rfl (fun x27 hm => ?_)
              exact hk23 _ hm
            · intro k26 hk26 hm
              refine g_if_ne 103 hm dX8_chainedWith_95 (by decide) (fun hm => ?_) (fun hm => ?_)
              · refine g_weak (vs' := [some (.ref (g.ad 21)), some (.int a1), some (.int x3), some (.int x4), none, none]) ⟨rfl, ⟨rfl, ⟨rfl, ⟨rfl, trivial⟩⟩⟩⟩ ?_
                exact hk26 _ hm
              · refine g_iload_5 dX8_chainedWith_98 ?_
                refine g_if_eq 109 hm dX8_chainedWith_100 (by decide) (fun hm => ?_) (fun hm => ?_)
                · refine g_weak (vs' := [some (.ref (g.ad 21)), some (.int a1), some (.int x3), some (.int x4), none, none]) ⟨rfl, ⟨rfl, ⟨rfl, ⟨rfl, trivial⟩⟩⟩⟩ ?_
                  exact hk23 _ hm
                · refine g_weak (vs' := [some (.ref (g.ad 21)), some (.int a1), some (.int x3), some (.int x4), none, none]) ⟨rfl, ⟨rfl, ⟨rfl, ⟨rfl, trivial⟩⟩⟩⟩ ?_
                  exact hk26 _ hm
        · intro k20 hk20 hm
          refine g_jn (J := fun (s : Sg) => GX g 4 RX8 cX8_chainedWith 6 (some .int) (some (.int r)) mm 90 [some (.ref (g.ad 21)), some (.int a1), some (.int x3), some (.int x4), some (.int x14), none] [] s) hm ?_ ?_
          · intro m28 hm
            refine g_iconst 0 dX8_chainedWith_90 rfl ?_
            exact hk20 _ hm
          · intro k29 hk29 hm
            refine g_if_eq 90 hm dX8_chainedWith_64 (by decide) (fun hm => ?_) (fun hm => ?_)
            · exact hk29 _ hm
            · refine g_aloadn_0 dX8_chainedWith_67 ?_
              refine g_getr (q := 3) fo_8_0 pn_21 pc_21 rfl rfl dX8_chainedWith_68 ?_
              refine g_iloadn_3 dX8_chainedWith_71 ?_
              refine g_v1 hm (fun _ _ h => c_X0_countOf cty_3 h) pn_3 (pc_3 _ _) rfl ce_X0_countOf lk_X8_79 rfl rfl dX8_chainedWith_72 (fun x31 m30 hm => ?_)
              refine g_aloadn_0 dX8_chainedWith_75 ?_
              refine g_getr (q := 3) fo_8_0 pn_21 pc_21 rfl rfl dX8_chainedWith_76 ?_
              refine g_iloadn_1 dX8_chainedWith_79 ?_
              refine g_v1 hm (fun _ _ h => c_X0_countOf cty_3 h) pn_3 (pc_3 _ _) rfl ce_X0_countOf lk_X8_79 rfl rfl dX8_chainedWith_80 (fun x33 m32 hm => ?_)
              refine g_icmp_ge 90 hm dX8_chainedWith_83 (by decide) (fun hm => ?_) (fun hm => ?_)
              · exact hk29 _ hm
              · refine g_iconst 1 dX8_chainedWith_86 rfl ?_
                refine g_goto 91 dX8_chainedWith_87 (by decide) ?_
                exact hk20 _ hm
      · intro k15 hk15 hm
        refine g_jn (J := fun (s : Sg) => GX g 4 RX8 cX8_chainedWith 6 (some .int) (some (.int r)) mm 52 [some (.ref (g.ad 21)), some (.int a1), some (.int x3), some (.int x4), none, none] [] s) hm ?_ ?_
        · intro m34 hm
          refine g_iconst 0 dX8_chainedWith_52 rfl ?_
          exact hk15 _ hm
        · intro k35 hk35 hm
          refine g_if_eq 52 hm dX8_chainedWith_26 (by decide) (fun hm => ?_) (fun hm => ?_)
          · exact hk35 _ hm
          · refine g_aloadn_0 dX8_chainedWith_29 ?_
            refine g_getr (q := 3) fo_8_0 pn_21 pc_21 rfl rfl dX8_chainedWith_30 ?_
            refine g_iloadn_1 dX8_chainedWith_33 ?_
            refine g_v1 hm (fun _ _ h => c_X0_countOf cty_3 h) pn_3 (pc_3 _ _) rfl ce_X0_countOf lk_X8_79 rfl rfl dX8_chainedWith_34 (fun x37 m36 hm => ?_)
            refine g_aloadn_0 dX8_chainedWith_37 ?_
            refine g_getr (q := 3) fo_8_0 pn_21 pc_21 rfl rfl dX8_chainedWith_38 ?_
            refine g_iloadn_3 dX8_chainedWith_41 ?_
            refine g_v1 hm (fun _ _ h => c_X0_countOf cty_3 h) pn_3 (pc_3 _ _) rfl ce_X0_countOf lk_X8_79 rfl rfl dX8_chainedWith_42 (fun x39 m38 hm => ?_)
            refine g_icmp_ge 52 hm dX8_chainedWith_45 (by decide) (fun hm => ?_) (fun hm => ?_)
            · exact hk35 _ hm
            · refine g_iconst 1 dX8_chainedWith_48 rfl ?_
              refine g_goto 53 dX8_chainedWith_49 (by decide) ?_
              exact hk15 _ hm
def f_X8_isChain_L2 (a1 : Int32) : (Sg × Int32) → Option (((Sg) ⊕ (Sg)) ⊕ (Sg × Int32)) := fun s => match s with
  | (m1, x2) => 
  (if 8 ≤ x2 then some (.inl (.inr m1)) else
  bnd (fun (m7 : Sg) => bnd (x2 + 1) (fun x9 => some (.inr (m7, x9)))) (fun (k8 : Sg → Option (((Sg) ⊕ (Sg)) ⊕ (Sg × Int32))) =>
  (if ((a1 >>> (x2 &&& 31)) &&& 1) = 0 then k8 m1 else
  if inr x2 8 = true then (if (a1 &&& ((m1.1 22 x2.toNatClampNeg) ^^^ (-1))) = 0 then k8 m1 else
  some (.inl (.inl m1))) else none)))
def f_X8_isChain  (m : Sg) (a1 : Int32) : Option (Int32 × Sg) :=
  lpk (f_X8_isChain_L2 a1) (m, 0) (fun x => match x with
  | .inl m3 => some (0, m3)
  | .inr m4 => some (1, m4))
set_option maxRecDepth 4000 in
theorem c_X8_isChain {g : Cf} {m mm : Sg} {r : Int32} {a1 : Int32} (hm : f_X8_isChain  m a1 = some (r, mm)) : Cl g 0 yX8_isChain cX8_isChain 3 (some .boolean) [.ref (g.ad 21), .int a1] m (some (.int r)) mm := by
  refine cl_of (by decide) (Nat.le_of_ble_eq_true rfl) (vs := [some (.ref (g.ad 21)), some (.int a1), none]) rfl rfl ?_
  show GX g 0 RX8 cX8_isChain 3 (some .boolean) (some (.int r)) mm 0 _ [] m
  unfold f_X8_isChain at hm
  refine g_iconst 0 dX8_isChain_0 rfl ?_
  refine g_istoren_2 dX8_isChain_1 rfl ?_
  refine g_lp (I := fun (s : Sg × Int32) => GX g 0 RX8 cX8_isChain 3 (some .boolean) (some (.int r)) mm 2 [some (.ref (g.ad 21)), some (.int a1), some (.int (s.2))] [] s.1) (E := fun (x : (Sg) ⊕ (Sg)) => match x with | .inl m3 => GX g 0 RX8 cX8_isChain 3 (some .boolean) (some (.int r)) mm 32 [none, none, none] [] m3 | .inr m4 => GX g 0 RX8 cX8_isChain 3 (some .boolean) (some (.int r)) mm 40 [none, none, none] [] m4) hm ?_ ?_
  · rintro (m3 | m4) hm
    · (try dsimp only at hm)
      (try dsimp only)
      refine g_iconst 0 dX8_isChain_32 rfl ?_
      exact g_zretc hm rfl dX8_isChain_33
    · (try dsimp only at hm)
      (try dsimp only)
      refine g_iconst 1 dX8_isChain_40 rfl ?_
      exact g_zretc hm rfl dX8_isChain_41
  · rintro ⟨m1, x2⟩ o hm hx6 hi5
    (try dsimp only [f_X8_isChain_L2] at hm)
    (try dsimp only)
    refine g_iloadn_2 dX8_isChain_2 ?_
    refine g_aloadn_0 dX8_isChain_3 ?_
    refine g_getr (q := 22) fo_8_1 pn_21 pc_21 rfl rfl dX8_isChain_4 ?_
    refine g_alen (ty := .int) 8 ar_22.1 ar_22.2 rfl rfl dX8_isChain_7 ?_
    refine g_icmp_ge 40 hm dX8_isChain_8 (by decide) (fun hm => ?_) (fun hm => ?_)
    · refine g_weak (vs' := [none, none, none]) trivial ?_
      cases hm
      exact hx6 _ rfl
    · refine g_iloadn_1 dX8_isChain_11 ?_
      refine g_iloadn_2 dX8_isChain_12 ?_
      refine g_ishr dX8_isChain_13 ?_
      refine g_iconst 1 dX8_isChain_14 rfl ?_
      refine g_iand dX8_isChain_15 ?_
      refine g_jn (J := fun (s : Sg) => GX g 0 RX8 cX8_isChain 3 (some .boolean) (some (.int r)) mm 34 [some (.ref (g.ad 21)), some (.int a1), some (.int x2)] [] s) hm ?_ ?_
      · intro m7 hm
        refine g_iinc_2 1 hm dX8_isChain_34 rfl rfl (fun x9 hm => ?_)
        refine g_goto 2 dX8_isChain_37 (by decide) ?_
        cases hm
        exact hi5 _ rfl
      · intro k8 hk8 hm
        refine g_if_eq 34 hm dX8_isChain_16 (by decide) (fun hm => ?_) (fun hm => ?_)
        · exact hk8 _ hm
        · refine g_iloadn_1 dX8_isChain_19 ?_
          refine g_aloadn_0 dX8_isChain_20 ?_
          refine g_getr (q := 22) fo_8_1 pn_21 pc_21 rfl rfl dX8_isChain_21 ?_
          refine g_iloadn_2 dX8_isChain_24 ?_
          refine g_iaload hm ar_22.1 ar_22.2 dX8_isChain_25 (fun hm => ?_)
          refine g_iconst (-1) dX8_isChain_26 rfl ?_
          refine g_ixor dX8_isChain_27 ?_
          refine g_iand dX8_isChain_28 ?_
          refine g_if_eq 34 hm dX8_isChain_29 (by decide) (fun hm => ?_) (fun hm => ?_)
          · exact hk8 _ hm
          · refine g_weak (vs' := [none, none, none]) trivial ?_
            cases hm
            exact hx6 _ rfl
def f_X8_onlyByTheirSteps_L4 (a1 : Int32) : (Sg × Int32 × Int32) → Option (((Sg × Int32)) ⊕ (Sg × Int32 × Int32)) := fun s => match s with
  | (m1, x2, x3) => 
  cal (f_X0_children 4 m1) (fun x9 m8 => (if x9 ≤ x3 then some (.inl (m8, x2)) else
  cal (f_X0_askedBy 4 m8 a1) (fun x11 m10 => cal (f_X0_rightOf 4 m10 x3) (fun x13 m12 => bnd (fun ((m14, x15) : Sg × Int32) => cal (f_X0_stands 4 m14 x3 a1) (fun x18 m17 => bnd (fun ((m19, x20) : Sg × Int32) => bnd (x3 + 1) (fun x22 => some (.inr (m19, x20, x22)))) (fun (k21 : Sg × Int32 → Option (((Sg × Int32)) ⊕ (Sg × Int32 × Int32))) =>
  (if x18 = 0 then k21 (m17, x2) else
  (if x15 = 0 then bnd (x2 ||| (1 <<< (x3 &&& 31))) (fun x23 => k21 (m17, x23)) else
  k21 (m17, x2)))))) (fun (k16 : Sg × Int32 → Option (((Sg × Int32)) ⊕ (Sg × Int32 × Int32))) =>
  (if (x11 &&& (x13 ^^^ (-1))) = 0 then k16 (m12, 1) else
  k16 (m12, 0)))))))
def f_X8_onlyByTheirSteps  (m : Sg) (a1 : Int32) : Option (Int32 × Sg) :=
  lpk (f_X8_onlyByTheirSteps_L4 a1) (m, 0, 0) (fun ((m4, x5) : Sg × Int32) => some (x5, m4))
set_option maxRecDepth 4000 in
theorem c_X8_onlyByTheirSteps {g : Cf} {m mm : Sg} {r : Int32} {a1 : Int32} (hm : f_X8_onlyByTheirSteps  m a1 = some (r, mm)) : Cl g 4 yX8_onlyByTheirSteps cX8_onlyByTheirSteps 5 (some .int) [.ref (g.ad 21), .int a1] m (some (.int r)) mm := by
  refine cl_of (by decide) (Nat.le_of_ble_eq_true rfl) (vs := [some (.ref (g.ad 21)), some (.int a1), none, none, none]) rfl rfl ?_
  show GX g 4 RX8 cX8_onlyByTheirSteps 5 (some .int) (some (.int r)) mm 0 _ [] m
  unfold f_X8_onlyByTheirSteps at hm
  refine g_iconst 0 dX8_onlyByTheirSteps_0 rfl ?_
  refine g_istoren_2 dX8_onlyByTheirSteps_1 rfl ?_
  refine g_iconst 0 dX8_onlyByTheirSteps_2 rfl ?_
  refine g_istoren_3 dX8_onlyByTheirSteps_3 rfl ?_
  refine g_lp (I := fun (s : Sg × Int32 × Int32) => GX g 4 RX8 cX8_onlyByTheirSteps 5 (some .int) (some (.int r)) mm 4 [some (.ref (g.ad 21)), some (.int a1), some (.int (s.2.1)), some (.int (s.2.2)), none] [] s.1) (E := fun (s : Sg × Int32) => GX g 4 RX8 cX8_onlyByTheirSteps 5 (some .int) (some (.int r)) mm 73 [none, none, some (.int (s.2)), none, none] [] s.1) hm ?_ ?_
  · rintro ⟨m4, x5⟩ hm
    (try dsimp only at hm)
    (try dsimp only)
    refine g_iloadn_2 dX8_onlyByTheirSteps_73 ?_
    exact g_iret hm dX8_onlyByTheirSteps_74
  · rintro ⟨m1, x2, x3⟩ o hm hx7 hi6
    (try dsimp only [f_X8_onlyByTheirSteps_L4] at hm)
    (try dsimp only)
    refine g_iloadn_3 dX8_onlyByTheirSteps_4 ?_
    refine g_aloadn_0 dX8_onlyByTheirSteps_5 ?_
    refine g_getr (q := 3) fo_8_0 pn_21 pc_21 rfl rfl dX8_onlyByTheirSteps_6 ?_
    refine g_v0 hm (fun _ _ h => c_X0_children cty_3 h) pn_3 (pc_3 _ _) rfl ce_X0_children lk_X8_21 rfl rfl dX8_onlyByTheirSteps_9 (fun x9 m8 hm => ?_)
    refine g_icmp_ge 73 hm dX8_onlyByTheirSteps_12 (by decide) (fun hm => ?_) (fun hm => ?_)
    · refine g_weak (vs' := [none, none, some (.int x2), none, none]) ⟨rfl, trivial⟩ ?_
      cases hm
      exact hx7 _ rfl
    · refine g_aloadn_0 dX8_onlyByTheirSteps_15 ?_
      refine g_getr (q := 3) fo_8_0 pn_21 pc_21 rfl rfl dX8_onlyByTheirSteps_16 ?_
      refine g_iloadn_1 dX8_onlyByTheirSteps_19 ?_
      refine g_v1 hm (fun _ _ h => c_X0_askedBy cty_3 h) pn_3 (pc_3 _ _) rfl ce_X0_askedBy lk_X8_82 rfl rfl dX8_onlyByTheirSteps_20 (fun x11 m10 hm => ?_)
      refine g_aloadn_0 dX8_onlyByTheirSteps_23 ?_
      refine g_getr (q := 3) fo_8_0 pn_21 pc_21 rfl rfl dX8_onlyByTheirSteps_24 ?_
      refine g_iloadn_3 dX8_onlyByTheirSteps_27 ?_
      refine g_v1 hm (fun _ _ h => c_X0_rightOf cty_3 h) pn_3 (pc_3 _ _) rfl ce_X0_rightOf lk_X8_56 rfl rfl dX8_onlyByTheirSteps_28 (fun x13 m12 hm => ?_)
      refine g_iconst (-1) dX8_onlyByTheirSteps_31 rfl ?_
      refine g_ixor dX8_onlyByTheirSteps_32 ?_
      refine g_iand dX8_onlyByTheirSteps_33 ?_
      refine g_jn (J := fun (s : Sg × Int32) => GX g 4 RX8 cX8_onlyByTheirSteps 5 (some .int) (some (.int r)) mm 42 [some (.ref (g.ad 21)), some (.int a1), some (.int x2), some (.int x3), none] [.int (s.2)] s.1) hm ?_ ?_
      · rintro ⟨m14, x15⟩ hm
        (try dsimp only at hm)
        (try dsimp only)
        refine g_istore_4 dX8_onlyByTheirSteps_42 rfl ?_
        refine g_aloadn_0 dX8_onlyByTheirSteps_44 ?_
        refine g_getr (q := 3) fo_8_0 pn_21 pc_21 rfl rfl dX8_onlyByTheirSteps_45 ?_
        refine g_iloadn_3 dX8_onlyByTheirSteps_48 ?_
        refine g_iloadn_1 dX8_onlyByTheirSteps_49 ?_
        refine g_v2 hm (fun _ _ h => c_X0_stands cty_3 h) pn_3 (pc_3 _ _) rfl ce_X0_stands lk_X8_85 rfl rfl dX8_onlyByTheirSteps_50 (fun x18 m17 hm => ?_)
        refine g_jn (J := fun (s : Sg × Int32) => GX g 4 RX8 cX8_onlyByTheirSteps 5 (some .int) (some (.int r)) mm 67 [some (.ref (g.ad 21)), some (.int a1), some (.int (s.2)), some (.int x3), none] [] s.1) hm ?_ ?_
        · rintro ⟨m19, x20⟩ hm
          (try dsimp only at hm)
          (try dsimp only)
          refine g_iinc_3 1 hm dX8_onlyByTheirSteps_67 rfl rfl (fun x22 hm => ?_)
          refine g_goto 4 dX8_onlyByTheirSteps_70 (by decide) ?_
          cases hm
          exact hi6 _ rfl
        · intro k21 hk21 hm
          refine g_if_eq 67 hm dX8_onlyByTheirSteps_53 (by decide) (fun hm => ?_) (fun hm => ?_)
          · refine g_weak (vs' := [some (.ref (g.ad 21)), some (.int a1), some (.int x2), some (.int x3), none]) ⟨rfl, ⟨rfl, ⟨rfl, ⟨rfl, trivial⟩⟩⟩⟩ ?_
            exact hk21 _ hm
          · refine g_iload_4 dX8_onlyByTheirSteps_56 ?_
            refine g_if_ne 67 hm dX8_onlyByTheirSteps_58 (by decide) (fun hm => ?_) (fun hm => ?_)
            · refine g_weak (vs' := [some (.ref (g.ad 21)), some (.int a1), some (.int x2), some (.int x3), none]) ⟨rfl, ⟨rfl, ⟨rfl, ⟨rfl, trivial⟩⟩⟩⟩ ?_
              exact hk21 _ hm
            · refine g_iloadn_2 dX8_onlyByTheirSteps_61 ?_
              refine g_iconst 1 dX8_onlyByTheirSteps_62 rfl ?_
              refine g_iloadn_3 dX8_onlyByTheirSteps_63 ?_
              refine g_ishl dX8_onlyByTheirSteps_64 ?_
              refine g_ior dX8_onlyByTheirSteps_65 ?_
              refine g_istoreBn_2 hm dX8_onlyByTheirSteps_66 rfl (fun x23 hm => ?_)
              refine g_weak (vs' := [some (.ref (g.ad 21)), some (.int a1), some (.int x23), some (.int x3), none]) ⟨rfl, ⟨rfl, ⟨rfl, ⟨rfl, trivial⟩⟩⟩⟩ ?_
              exact hk21 _ hm
      · intro k16 hk16 hm
        refine g_if_ne 41 hm dX8_onlyByTheirSteps_34 (by decide) (fun hm => ?_) (fun hm => ?_)
        · refine g_iconst 0 dX8_onlyByTheirSteps_41 rfl ?_
          exact hk16 _ hm
        · refine g_iconst 1 dX8_onlyByTheirSteps_37 rfl ?_
          refine g_goto 42 dX8_onlyByTheirSteps_38 (by decide) ?_
          exact hk16 _ hm
def f_X8_standingFevered_L4 (a1 : Int32) : (Sg × Int32 × Int32) → Option (((Sg × Int32)) ⊕ (Sg × Int32 × Int32)) := fun s => match s with
  | (m1, x2, x3) => 
  cal (f_X0_children 4 m1) (fun x9 m8 => (if x9 ≤ x3 then some (.inl (m8, x2)) else
  cal (f_X0_rightOf 4 m8 x3) (fun x11 m10 => bnd (x11 &&& (-129)) (fun x12 => cal (f_X0_askedBy 4 m10 a1) (fun x14 m13 => cal (f_X0_askedOf 4 m13 x3 x14) (fun x16 m15 => bnd (fun ((m17, x18) : Sg × Int32) => bnd (x3 + 1) (fun x20 => some (.inr (m17, x18, x20)))) (fun (k19 : Sg × Int32 → Option (((Sg × Int32)) ⊕ (Sg × Int32 × Int32))) =>
  (if (x16 &&& (x12 ^^^ (-1))) = 0 then bnd (x2 ||| (1 <<< (x3 &&& 31))) (fun x21 => k19 (m15, x21)) else
  k19 (m15, x2)))))))))
def f_X8_standingFevered  (m : Sg) (a1 : Int32) : Option (Int32 × Sg) :=
  lpk (f_X8_standingFevered_L4 a1) (m, 0, 0) (fun ((m4, x5) : Sg × Int32) => some (x5, m4))
set_option maxRecDepth 4000 in
theorem c_X8_standingFevered {g : Cf} {m mm : Sg} {r : Int32} {a1 : Int32} (hm : f_X8_standingFevered  m a1 = some (r, mm)) : Cl g 2 yX8_standingFevered cX8_standingFevered 5 (some .int) [.ref (g.ad 21), .int a1] m (some (.int r)) mm := by
  refine cl_of (by decide) (Nat.le_of_ble_eq_true rfl) (vs := [some (.ref (g.ad 21)), some (.int a1), none, none, none]) rfl rfl ?_
  show GX g 2 RX8 cX8_standingFevered 5 (some .int) (some (.int r)) mm 0 _ [] m
  unfold f_X8_standingFevered at hm
  refine g_iconst 0 dX8_standingFevered_0 rfl ?_
  refine g_istoren_2 dX8_standingFevered_1 rfl ?_
  refine g_iconst 0 dX8_standingFevered_2 rfl ?_
  refine g_istoren_3 dX8_standingFevered_3 rfl ?_
  refine g_lp (I := fun (s : Sg × Int32 × Int32) => GX g 2 RX8 cX8_standingFevered 5 (some .int) (some (.int r)) mm 4 [some (.ref (g.ad 21)), some (.int a1), some (.int (s.2.1)), some (.int (s.2.2)), none] [] s.1) (E := fun (s : Sg × Int32) => GX g 2 RX8 cX8_standingFevered 5 (some .int) (some (.int r)) mm 65 [none, none, some (.int (s.2)), none, none] [] s.1) hm ?_ ?_
  · rintro ⟨m4, x5⟩ hm
    (try dsimp only at hm)
    (try dsimp only)
    refine g_iloadn_2 dX8_standingFevered_65 ?_
    exact g_iret hm dX8_standingFevered_66
  · rintro ⟨m1, x2, x3⟩ o hm hx7 hi6
    (try dsimp only [f_X8_standingFevered_L4] at hm)
    (try dsimp only)
    refine g_iloadn_3 dX8_standingFevered_4 ?_
    refine g_aloadn_0 dX8_standingFevered_5 ?_
    refine g_getr (q := 3) fo_8_0 pn_21 pc_21 rfl rfl dX8_standingFevered_6 ?_
    refine g_v0 hm (fun _ _ h => c_X0_children cty_3 h) pn_3 (pc_3 _ _) rfl ce_X0_children lk_X8_21 rfl rfl dX8_standingFevered_9 (fun x9 m8 hm => ?_)
    refine g_icmp_ge 65 hm dX8_standingFevered_12 (by decide) (fun hm => ?_) (fun hm => ?_)
    · refine g_weak (vs' := [none, none, some (.int x2), none, none]) ⟨rfl, trivial⟩ ?_
      cases hm
      exact hx7 _ rfl
    · refine g_aloadn_0 dX8_standingFevered_15 ?_
      refine g_getr (q := 3) fo_8_0 pn_21 pc_21 rfl rfl dX8_standingFevered_16 ?_
      refine g_iloadn_3 dX8_standingFevered_19 ?_
      refine g_v1 hm (fun _ _ h => c_X0_rightOf cty_3 h) pn_3 (pc_3 _ _) rfl ce_X0_rightOf lk_X8_56 rfl rfl dX8_standingFevered_20 (fun x11 m10 hm => ?_)
      refine g_sipush (-129) dX8_standingFevered_23 rfl ?_
      refine g_iand dX8_standingFevered_26 ?_
      refine g_istoreB_4 hm dX8_standingFevered_27 rfl (fun x12 hm => ?_)
      refine g_aloadn_0 dX8_standingFevered_29 ?_
      refine g_getr (q := 3) fo_8_0 pn_21 pc_21 rfl rfl dX8_standingFevered_30 ?_
      refine g_iloadn_3 dX8_standingFevered_33 ?_
      refine g_aloadn_0 dX8_standingFevered_34 ?_
      refine g_getr (q := 3) fo_8_0 pn_21 pc_21 rfl rfl dX8_standingFevered_35 ?_
      refine g_iloadn_1 dX8_standingFevered_38 ?_
      refine g_v1 hm (fun _ _ h => c_X0_askedBy cty_3 h) pn_3 (pc_3 _ _) rfl ce_X0_askedBy lk_X8_82 rfl rfl dX8_standingFevered_39 (fun x14 m13 hm => ?_)
      refine g_v2 hm (fun _ _ h => c_X0_askedOf cty_3 h) pn_3 (pc_3 _ _) rfl ce_X0_askedOf lk_X8_88 rfl rfl dX8_standingFevered_42 (fun x16 m15 hm => ?_)
      refine g_iload_4 dX8_standingFevered_45 ?_
      refine g_iconst (-1) dX8_standingFevered_47 rfl ?_
      refine g_ixor dX8_standingFevered_48 ?_
      refine g_iand dX8_standingFevered_49 ?_
      refine g_jn (J := fun (s : Sg × Int32) => GX g 2 RX8 cX8_standingFevered 5 (some .int) (some (.int r)) mm 59 [some (.ref (g.ad 21)), some (.int a1), some (.int (s.2)), some (.int x3), none] [] s.1) hm ?_ ?_
      · rintro ⟨m17, x18⟩ hm
        (try dsimp only at hm)
        (try dsimp only)
        refine g_iinc_3 1 hm dX8_standingFevered_59 rfl rfl (fun x20 hm => ?_)
        refine g_goto 4 dX8_standingFevered_62 (by decide) ?_
        cases hm
        exact hi6 _ rfl
      · intro k19 hk19 hm
        refine g_if_ne 59 hm dX8_standingFevered_50 (by decide) (fun hm => ?_) (fun hm => ?_)
        · refine g_weak (vs' := [some (.ref (g.ad 21)), some (.int a1), some (.int x2), some (.int x3), none]) ⟨rfl, ⟨rfl, ⟨rfl, ⟨rfl, trivial⟩⟩⟩⟩ ?_
          exact hk19 _ hm
        · refine g_iloadn_2 dX8_standingFevered_53 ?_
          refine g_iconst 1 dX8_standingFevered_54 rfl ?_
          refine g_iloadn_3 dX8_standingFevered_55 ?_
          refine g_ishl dX8_standingFevered_56 ?_
          refine g_ior dX8_standingFevered_57 ?_
          refine g_istoreBn_2 hm dX8_standingFevered_58 rfl (fun x21 hm => ?_)
          refine g_weak (vs' := [some (.ref (g.ad 21)), some (.int a1), some (.int x21), some (.int x3), none]) ⟨rfl, ⟨rfl, ⟨rfl, ⟨rfl, trivial⟩⟩⟩⟩ ?_
          exact hk19 _ hm
def f_X8_youngerStanding_L5 (a1 : Int32) (a2 : Int32) : (Sg × Int32 × Int32) → Option (((Sg × Int32)) ⊕ (Sg × Int32 × Int32)) := fun s => match s with
  | (m1, x2, x3) => 
  cal (f_X0_children 4 m1) (fun x9 m8 => (if x9 ≤ x3 then some (.inl (m8, x2)) else
  cal (f_X0_isYounger 4 m8 x3 a1) (fun x11 m10 => bnd (fun ((m12, x13) : Sg × Int32) => bnd (x3 + 1) (fun x15 => some (.inr (m12, x13, x15)))) (fun (k14 : Sg × Int32 → Option (((Sg × Int32)) ⊕ (Sg × Int32 × Int32))) =>
  (if x11 = 0 then k14 (m10, x2) else
  cal (f_X0_isBelowGrowing 4 m10 x3) (fun x17 m16 => (if x17 = 0 then k14 (m16, x2) else
  cal (f_X0_stands 4 m16 x3 a2) (fun x19 m18 => (if x19 = 0 then k14 (m18, x2) else
  bnd (x2 ||| (1 <<< (x3 &&& 31))) (fun x20 => k14 (m18, x20)))))))))))
def f_X8_youngerStanding  (m : Sg) (a1 : Int32) (a2 : Int32) : Option (Int32 × Sg) :=
  lpk (f_X8_youngerStanding_L5 a1 a2) (m, 0, 0) (fun ((m4, x5) : Sg × Int32) => some (x5, m4))
set_option maxRecDepth 4000 in
theorem c_X8_youngerStanding {g : Cf} {m mm : Sg} {r : Int32} {a1 : Int32} {a2 : Int32} (hm : f_X8_youngerStanding  m a1 a2 = some (r, mm)) : Cl g 4 yX8_youngerStanding cX8_youngerStanding 5 (some .int) [.ref (g.ad 21), .int a1, .int a2] m (some (.int r)) mm := by
  refine cl_of (by decide) (Nat.le_of_ble_eq_true rfl) (vs := [some (.ref (g.ad 21)), some (.int a1), some (.int a2), none, none]) rfl rfl ?_
  show GX g 4 RX8 cX8_youngerStanding 5 (some .int) (some (.int r)) mm 0 _ [] m
  unfold f_X8_youngerStanding at hm
  refine g_iconst 0 dX8_youngerStanding_0 rfl ?_
  refine g_istoren_3 dX8_youngerStanding_1 rfl ?_
  refine g_iconst 0 dX8_youngerStanding_2 rfl ?_
  refine g_istore_4 dX8_youngerStanding_3 rfl ?_
  refine g_lp (I := fun (s : Sg × Int32 × Int32) => GX g 4 RX8 cX8_youngerStanding 5 (some .int) (some (.int r)) mm 5 [some (.ref (g.ad 21)), some (.int a1), some (.int a2), some (.int (s.2.1)), some (.int (s.2.2))] [] s.1) (E := fun (s : Sg × Int32) => GX g 4 RX8 cX8_youngerStanding 5 (some .int) (some (.int r)) mm 68 [none, none, none, some (.int (s.2)), none] [] s.1) hm ?_ ?_
  · rintro ⟨m4, x5⟩ hm
    (try dsimp only at hm)
    (try dsimp only)
    refine g_iloadn_3 dX8_youngerStanding_68 ?_
    exact g_iret hm dX8_youngerStanding_69
  · rintro ⟨m1, x2, x3⟩ o hm hx7 hi6
    (try dsimp only [f_X8_youngerStanding_L5] at hm)
    (try dsimp only)
    refine g_iload_4 dX8_youngerStanding_5 ?_
    refine g_aloadn_0 dX8_youngerStanding_7 ?_
    refine g_getr (q := 3) fo_8_0 pn_21 pc_21 rfl rfl dX8_youngerStanding_8 ?_
    refine g_v0 hm (fun _ _ h => c_X0_children cty_3 h) pn_3 (pc_3 _ _) rfl ce_X0_children lk_X8_21 rfl rfl dX8_youngerStanding_11 (fun x9 m8 hm => ?_)
    refine g_icmp_ge 68 hm dX8_youngerStanding_14 (by decide) (fun hm => ?_) (fun hm => ?_)
    · refine g_weak (vs' := [none, none, none, some (.int x2), none]) ⟨rfl, trivial⟩ ?_
      cases hm
      exact hx7 _ rfl
    · refine g_aloadn_0 dX8_youngerStanding_17 ?_
      refine g_getr (q := 3) fo_8_0 pn_21 pc_21 rfl rfl dX8_youngerStanding_18 ?_
      refine g_iload_4 dX8_youngerStanding_21 ?_
      refine g_iloadn_1 dX8_youngerStanding_23 ?_
      refine g_v2 hm (fun _ _ h => c_X0_isYounger cty_3 h) pn_3 (pc_3 _ _) rfl ce_X0_isYounger lk_X8_40 rfl rfl dX8_youngerStanding_24 (fun x11 m10 hm => ?_)
      refine g_jn (J := fun (s : Sg × Int32) => GX g 4 RX8 cX8_youngerStanding 5 (some .int) (some (.int r)) mm 62 [some (.ref (g.ad 21)), some (.int a1), some (.int a2), some (.int (s.2)), some (.int x3)] [] s.1) hm ?_ ?_
      · rintro ⟨m12, x13⟩ hm
        (try dsimp only at hm)
        (try dsimp only)
        refine g_iinc_4 1 hm dX8_youngerStanding_62 rfl rfl (fun x15 hm => ?_)
        refine g_goto 5 dX8_youngerStanding_65 (by decide) ?_
        cases hm
        exact hi6 _ rfl
      · intro k14 hk14 hm
        refine g_if_eq 62 hm dX8_youngerStanding_27 (by decide) (fun hm => ?_) (fun hm => ?_)
        · exact hk14 _ hm
        · refine g_aloadn_0 dX8_youngerStanding_30 ?_
          refine g_getr (q := 3) fo_8_0 pn_21 pc_21 rfl rfl dX8_youngerStanding_31 ?_
          refine g_iload_4 dX8_youngerStanding_34 ?_
          refine g_v1 hm (fun _ _ h => c_X0_isBelowGrowing cty_3 h) pn_3 (pc_3 _ _) rfl ce_X0_isBelowGrowing lk_X8_43 rfl rfl dX8_youngerStanding_36 (fun x17 m16 hm => ?_)
          refine g_if_eq 62 hm dX8_youngerStanding_39 (by decide) (fun hm => ?_) (fun hm => ?_)
          · exact hk14 _ hm
          · refine g_aloadn_0 dX8_youngerStanding_42 ?_
            refine g_getr (q := 3) fo_8_0 pn_21 pc_21 rfl rfl dX8_youngerStanding_43 ?_
            refine g_iload_4 dX8_youngerStanding_46 ?_
            refine g_iloadn_2 dX8_youngerStanding_48 ?_
            refine g_v2 hm (fun _ _ h => c_X0_stands cty_3 h) pn_3 (pc_3 _ _) rfl ce_X0_stands lk_X8_85 rfl rfl dX8_youngerStanding_49 (fun x19 m18 hm => ?_)
            refine g_if_eq 62 hm dX8_youngerStanding_52 (by decide) (fun hm => ?_) (fun hm => ?_)
            · exact hk14 _ hm
            · refine g_iloadn_3 dX8_youngerStanding_55 ?_
              refine g_iconst 1 dX8_youngerStanding_56 rfl ?_
              refine g_iload_4 dX8_youngerStanding_57 ?_
              refine g_ishl dX8_youngerStanding_59 ?_
              refine g_ior dX8_youngerStanding_60 ?_
              refine g_istoreBn_3 hm dX8_youngerStanding_61 rfl (fun x20 hm => ?_)
              exact hk14 _ hm
def f_X8_rightInNursery_L4 (a1 : Int32) : (Sg × Int32 × Int32) → Option (((Sg × Int32)) ⊕ (Sg × Int32 × Int32)) := fun s => match s with
  | (m1, x2, x3) => 
  cal (f_X0_children 4 m1) (fun x9 m8 => (if x9 ≤ x3 then some (.inl (m8, x2)) else
  cal (f_X0_isOfNursery 4 m8 x3 a1) (fun x11 m10 => bnd (fun ((m12, x13) : Sg × Int32) => bnd (x3 + 1) (fun x15 => some (.inr (m12, x13, x15)))) (fun (k14 : Sg × Int32 → Option (((Sg × Int32)) ⊕ (Sg × Int32 × Int32))) =>
  (if x11 = 0 then k14 (m10, x2) else
  cal (f_X0_rightOf 4 m10 x3) (fun x17 m16 => bnd (x2 ||| x17) (fun x18 => k14 (m16, x18))))))))
def f_X8_rightInNursery  (m : Sg) (a1 : Int32) : Option (Int32 × Sg) :=
  lpk (f_X8_rightInNursery_L4 a1) (m, 0, 0) (fun ((m4, x5) : Sg × Int32) => some (x5, m4))
set_option maxRecDepth 4000 in
theorem c_X8_rightInNursery {g : Cf} {m mm : Sg} {r : Int32} {a1 : Int32} (hm : f_X8_rightInNursery  m a1 = some (r, mm)) : Cl g 2 yX8_rightInNursery cX8_rightInNursery 4 (some .int) [.ref (g.ad 21), .int a1] m (some (.int r)) mm := by
  refine cl_of (by decide) (Nat.le_of_ble_eq_true rfl) (vs := [some (.ref (g.ad 21)), some (.int a1), none, none]) rfl rfl ?_
  show GX g 2 RX8 cX8_rightInNursery 4 (some .int) (some (.int r)) mm 0 _ [] m
  unfold f_X8_rightInNursery at hm
  refine g_iconst 0 dX8_rightInNursery_0 rfl ?_
  refine g_istoren_2 dX8_rightInNursery_1 rfl ?_
  refine g_iconst 0 dX8_rightInNursery_2 rfl ?_
  refine g_istoren_3 dX8_rightInNursery_3 rfl ?_
  refine g_lp (I := fun (s : Sg × Int32 × Int32) => GX g 2 RX8 cX8_rightInNursery 4 (some .int) (some (.int r)) mm 4 [some (.ref (g.ad 21)), some (.int a1), some (.int (s.2.1)), some (.int (s.2.2))] [] s.1) (E := fun (s : Sg × Int32) => GX g 2 RX8 cX8_rightInNursery 4 (some .int) (some (.int r)) mm 44 [none, none, some (.int (s.2)), none] [] s.1) hm ?_ ?_
  · rintro ⟨m4, x5⟩ hm
    (try dsimp only at hm)
    (try dsimp only)
    refine g_iloadn_2 dX8_rightInNursery_44 ?_
    exact g_iret hm dX8_rightInNursery_45
  · rintro ⟨m1, x2, x3⟩ o hm hx7 hi6
    (try dsimp only [f_X8_rightInNursery_L4] at hm)
    (try dsimp only)
    refine g_iloadn_3 dX8_rightInNursery_4 ?_
    refine g_aloadn_0 dX8_rightInNursery_5 ?_
    refine g_getr (q := 3) fo_8_0 pn_21 pc_21 rfl rfl dX8_rightInNursery_6 ?_
    refine g_v0 hm (fun _ _ h => c_X0_children cty_3 h) pn_3 (pc_3 _ _) rfl ce_X0_children lk_X8_21 rfl rfl dX8_rightInNursery_9 (fun x9 m8 hm => ?_)
    refine g_icmp_ge 44 hm dX8_rightInNursery_12 (by decide) (fun hm => ?_) (fun hm => ?_)
    · refine g_weak (vs' := [none, none, some (.int x2), none]) ⟨rfl, trivial⟩ ?_
      cases hm
      exact hx7 _ rfl
    · refine g_aloadn_0 dX8_rightInNursery_15 ?_
      refine g_getr (q := 3) fo_8_0 pn_21 pc_21 rfl rfl dX8_rightInNursery_16 ?_
      refine g_iloadn_3 dX8_rightInNursery_19 ?_
      refine g_iloadn_1 dX8_rightInNursery_20 ?_
      refine g_v2 hm (fun _ _ h => c_X0_isOfNursery cty_3 h) pn_3 (pc_3 _ _) rfl ce_X0_isOfNursery lk_X8_25 rfl rfl dX8_rightInNursery_21 (fun x11 m10 hm => ?_)
      refine g_jn (J := fun (s : Sg × Int32) => GX g 2 RX8 cX8_rightInNursery 4 (some .int) (some (.int r)) mm 38 [some (.ref (g.ad 21)), some (.int a1), some (.int (s.2)), some (.int x3)] [] s.1) hm ?_ ?_
      · rintro ⟨m12, x13⟩ hm
        (try dsimp only at hm)
        (try dsimp only)
        refine g_iinc_3 1 hm dX8_rightInNursery_38 rfl rfl (fun x15 hm => ?_)
        refine g_goto 4 dX8_rightInNursery_41 (by decide) ?_
        cases hm
        exact hi6 _ rfl
      · intro k14 hk14 hm
        refine g_if_eq 38 hm dX8_rightInNursery_24 (by decide) (fun hm => ?_) (fun hm => ?_)
        · exact hk14 _ hm
        · refine g_iloadn_2 dX8_rightInNursery_27 ?_
          refine g_aloadn_0 dX8_rightInNursery_28 ?_
          refine g_getr (q := 3) fo_8_0 pn_21 pc_21 rfl rfl dX8_rightInNursery_29 ?_
          refine g_iloadn_3 dX8_rightInNursery_32 ?_
          refine g_v1 hm (fun _ _ h => c_X0_rightOf cty_3 h) pn_3 (pc_3 _ _) rfl ce_X0_rightOf lk_X8_56 rfl rfl dX8_rightInNursery_33 (fun x17 m16 hm => ?_)
          refine g_ior dX8_rightInNursery_36 ?_
          refine g_istoreBn_2 hm dX8_rightInNursery_37 rfl (fun x18 hm => ?_)
          exact hk14 _ hm
def f_X8_eldersSatisfied_L4 (a1 : Int32) : (Sg × Int32 × Int32) → Option (((Sg × Int32)) ⊕ (Sg × Int32 × Int32)) := fun s => match s with
  | (m1, x2, x3) => 
  cal (f_X0_elders 4 m1) (fun x9 m8 => (if x9 ≤ x3 then some (.inl (m8, x2)) else
  cal (f_X0_stands 4 m8 a1 x3) (fun x11 m10 => bnd (fun ((m12, x13) : Sg × Int32) => bnd (x3 + 1) (fun x15 => some (.inr (m12, x13, x15)))) (fun (k14 : Sg × Int32 → Option (((Sg × Int32)) ⊕ (Sg × Int32 × Int32))) =>
  (if x11 = 0 then k14 (m10, x2) else
  bnd (x2 ||| (1 <<< (x3 &&& 31))) (fun x16 => k14 (m10, x16)))))))
def f_X8_eldersSatisfied  (m : Sg) (a1 : Int32) : Option (Int32 × Sg) :=
  lpk (f_X8_eldersSatisfied_L4 a1) (m, 0, 0) (fun ((m4, x5) : Sg × Int32) => some (x5, m4))
set_option maxRecDepth 4000 in
theorem c_X8_eldersSatisfied {g : Cf} {m mm : Sg} {r : Int32} {a1 : Int32} (hm : f_X8_eldersSatisfied  m a1 = some (r, mm)) : Cl g 4 yX8_eldersSatisfied cX8_eldersSatisfied 4 (some .int) [.ref (g.ad 21), .int a1] m (some (.int r)) mm := by
  refine cl_of (by decide) (Nat.le_of_ble_eq_true rfl) (vs := [some (.ref (g.ad 21)), some (.int a1), none, none]) rfl rfl ?_
  show GX g 4 RX8 cX8_eldersSatisfied 4 (some .int) (some (.int r)) mm 0 _ [] m
  unfold f_X8_eldersSatisfied at hm
  refine g_iconst 0 dX8_eldersSatisfied_0 rfl ?_
  refine g_istoren_2 dX8_eldersSatisfied_1 rfl ?_
  refine g_iconst 0 dX8_eldersSatisfied_2 rfl ?_
  refine g_istoren_3 dX8_eldersSatisfied_3 rfl ?_
  refine g_lp (I := fun (s : Sg × Int32 × Int32) => GX g 4 RX8 cX8_eldersSatisfied 4 (some .int) (some (.int r)) mm 4 [some (.ref (g.ad 21)), some (.int a1), some (.int (s.2.1)), some (.int (s.2.2))] [] s.1) (E := fun (s : Sg × Int32) => GX g 4 RX8 cX8_eldersSatisfied 4 (some .int) (some (.int r)) mm 39 [none, none, some (.int (s.2)), none] [] s.1) hm ?_ ?_
  · rintro ⟨m4, x5⟩ hm
    (try dsimp only at hm)
    (try dsimp only)
    refine g_iloadn_2 dX8_eldersSatisfied_39 ?_
    exact g_iret hm dX8_eldersSatisfied_40
  · rintro ⟨m1, x2, x3⟩ o hm hx7 hi6
    (try dsimp only [f_X8_eldersSatisfied_L4] at hm)
    (try dsimp only)
    refine g_iloadn_3 dX8_eldersSatisfied_4 ?_
    refine g_aloadn_0 dX8_eldersSatisfied_5 ?_
    refine g_getr (q := 3) fo_8_0 pn_21 pc_21 rfl rfl dX8_eldersSatisfied_6 ?_
    refine g_v0 hm (fun _ _ h => c_X0_elders cty_3 h) pn_3 (pc_3 _ _) rfl ce_X0_elders lk_X8_46 rfl rfl dX8_eldersSatisfied_9 (fun x9 m8 hm => ?_)
    refine g_icmp_ge 39 hm dX8_eldersSatisfied_12 (by decide) (fun hm => ?_) (fun hm => ?_)
    · refine g_weak (vs' := [none, none, some (.int x2), none]) ⟨rfl, trivial⟩ ?_
      cases hm
      exact hx7 _ rfl
    · refine g_aloadn_0 dX8_eldersSatisfied_15 ?_
      refine g_getr (q := 3) fo_8_0 pn_21 pc_21 rfl rfl dX8_eldersSatisfied_16 ?_
      refine g_iloadn_1 dX8_eldersSatisfied_19 ?_
      refine g_iloadn_3 dX8_eldersSatisfied_20 ?_
      refine g_v2 hm (fun _ _ h => c_X0_stands cty_3 h) pn_3 (pc_3 _ _) rfl ce_X0_stands lk_X8_85 rfl rfl dX8_eldersSatisfied_21 (fun x11 m10 hm => ?_)
      refine g_jn (J := fun (s : Sg × Int32) => GX g 4 RX8 cX8_eldersSatisfied 4 (some .int) (some (.int r)) mm 33 [some (.ref (g.ad 21)), some (.int a1), some (.int (s.2)), some (.int x3)] [] s.1) hm ?_ ?_
      · rintro ⟨m12, x13⟩ hm
        (try dsimp only at hm)
        (try dsimp only)
        refine g_iinc_3 1 hm dX8_eldersSatisfied_33 rfl rfl (fun x15 hm => ?_)
        refine g_goto 4 dX8_eldersSatisfied_36 (by decide) ?_
        cases hm
        exact hi6 _ rfl
      · intro k14 hk14 hm
        refine g_if_eq 33 hm dX8_eldersSatisfied_24 (by decide) (fun hm => ?_) (fun hm => ?_)
        · exact hk14 _ hm
        · refine g_iloadn_2 dX8_eldersSatisfied_27 ?_
          refine g_iconst 1 dX8_eldersSatisfied_28 rfl ?_
          refine g_iloadn_3 dX8_eldersSatisfied_29 ?_
          refine g_ishl dX8_eldersSatisfied_30 ?_
          refine g_ior dX8_eldersSatisfied_31 ?_
          refine g_istoreBn_2 hm dX8_eldersSatisfied_32 rfl (fun x16 hm => ?_)
          exact hk14 _ hm
def f_X8_fewestAbsent_L4 (a1 : Int32) : (Sg × Int32 × Int32) → Option (((Sg × Int32)) ⊕ (Sg × Int32 × Int32)) := fun s => match s with
  | (m1, x2, x3) => 
  cal (f_X0_elders 4 m1) (fun x9 m8 => (if (1 <<< (x9 &&& 31)) ≤ x3 then some (.inl (m8, x2)) else
  cal (f_X0_trierWithout 4 m8 x3) (fun x11 m10 => bnd (fun ((m12, x13) : Sg × Int32) => bnd (fun ((m15, x16) : Sg × Int32) => bnd (x3 + 1) (fun x18 => some (.inr (m15, x16, x18)))) (fun (k17 : Sg × Int32 → Option (((Sg × Int32)) ⊕ (Sg × Int32 × Int32))) =>
  (if x13 = 0 then k17 (m12, x2) else
  bnd (fun (m19 : Sg) => k17 (m19, x3)) (fun (k20 : Sg → Option (((Sg × Int32)) ⊕ (Sg × Int32 × Int32))) =>
  (if x2 = (-1) then k20 m12 else
  cal (f_J6_bitCount_0f7a4 m12 x3) (fun x22 m21 => cal (f_J6_bitCount_0f7a4 m21 x2) (fun x24 m23 => (if x24 ≤ x22 then k17 (m23, x2) else
  k20 m23)))))))) (fun (k14 : Sg × Int32 → Option (((Sg × Int32)) ⊕ (Sg × Int32 × Int32))) =>
  bnd (fun (m25 : Sg) => k14 (m25, 0)) (fun (k26 : Sg → Option (((Sg × Int32)) ⊕ (Sg × Int32 × Int32))) =>
  (if x11 = (-1) then k26 m10 else
  cal (f_X0_stands 4 m10 a1 x11) (fun x28 m27 => (if x28 = 0 then k26 m27 else
  k14 (m27, 1)))))))))
def f_X8_fewestAbsent  (m : Sg) (a1 : Int32) : Option (Int32 × Sg) :=
  lpk (f_X8_fewestAbsent_L4 a1) (m, (-1), 0) (fun ((m4, x5) : Sg × Int32) => some (x5, m4))
set_option maxRecDepth 4000 in
theorem c_X8_fewestAbsent {g : Cf} {m mm : Sg} {r : Int32} {a1 : Int32} (hm : f_X8_fewestAbsent  m a1 = some (r, mm)) : Cl g 4 yX8_fewestAbsent cX8_fewestAbsent 6 (some .int) [.ref (g.ad 21), .int a1] m (some (.int r)) mm := by
  refine cl_of (by decide) (Nat.le_of_ble_eq_true rfl) (vs := [some (.ref (g.ad 21)), some (.int a1), none, none, none, none]) rfl rfl ?_
  show GX g 4 RX8 cX8_fewestAbsent 6 (some .int) (some (.int r)) mm 0 _ [] m
  unfold f_X8_fewestAbsent at hm
  refine g_iconst (-1) dX8_fewestAbsent_0 rfl ?_
  refine g_istoren_2 dX8_fewestAbsent_1 rfl ?_
  refine g_iconst 0 dX8_fewestAbsent_2 rfl ?_
  refine g_istoren_3 dX8_fewestAbsent_3 rfl ?_
  refine g_lp (I := fun (s : Sg × Int32 × Int32) => GX g 4 RX8 cX8_fewestAbsent 6 (some .int) (some (.int r)) mm 4 [some (.ref (g.ad 21)), some (.int a1), some (.int (s.2.1)), some (.int (s.2.2)), none, none] [] s.1) (E := fun (s : Sg × Int32) => GX g 4 RX8 cX8_fewestAbsent 6 (some .int) (some (.int r)) mm 82 [none, none, some (.int (s.2)), none, none, none] [] s.1) hm ?_ ?_
  · rintro ⟨m4, x5⟩ hm
    (try dsimp only at hm)
    (try dsimp only)
    refine g_iloadn_2 dX8_fewestAbsent_82 ?_
    exact g_iret hm dX8_fewestAbsent_83
  · rintro ⟨m1, x2, x3⟩ o hm hx7 hi6
    (try dsimp only [f_X8_fewestAbsent_L4] at hm)
    (try dsimp only)
    refine g_iloadn_3 dX8_fewestAbsent_4 ?_
    refine g_iconst 1 dX8_fewestAbsent_5 rfl ?_
    refine g_aloadn_0 dX8_fewestAbsent_6 ?_
    refine g_getr (q := 3) fo_8_0 pn_21 pc_21 rfl rfl dX8_fewestAbsent_7 ?_
    refine g_v0 hm (fun _ _ h => c_X0_elders cty_3 h) pn_3 (pc_3 _ _) rfl ce_X0_elders lk_X8_46 rfl rfl dX8_fewestAbsent_10 (fun x9 m8 hm => ?_)
    refine g_ishl dX8_fewestAbsent_13 ?_
    refine g_icmp_ge 82 hm dX8_fewestAbsent_14 (by decide) (fun hm => ?_) (fun hm => ?_)
    · refine g_weak (vs' := [none, none, some (.int x2), none, none, none]) ⟨rfl, trivial⟩ ?_
      cases hm
      exact hx7 _ rfl
    · refine g_aloadn_0 dX8_fewestAbsent_17 ?_
      refine g_getr (q := 3) fo_8_0 pn_21 pc_21 rfl rfl dX8_fewestAbsent_18 ?_
      refine g_iloadn_3 dX8_fewestAbsent_21 ?_
      refine g_v1 hm (fun _ _ h => c_X0_trierWithout cty_3 h) pn_3 (pc_3 _ _) rfl ce_X0_trierWithout lk_X8_91 rfl rfl dX8_fewestAbsent_22 (fun x11 m10 hm => ?_)
      refine g_istore_4 dX8_fewestAbsent_25 rfl ?_
      refine g_iload_4 dX8_fewestAbsent_27 ?_
      refine g_iconst (-1) dX8_fewestAbsent_29 rfl ?_
      refine g_jn (J := fun (s : Sg × Int32) => GX g 4 RX8 cX8_fewestAbsent 6 (some .int) (some (.int r)) mm 51 [some (.ref (g.ad 21)), some (.int a1), some (.int x2), some (.int x3), none, none] [.int (s.2)] s.1) hm ?_ ?_
      · rintro ⟨m12, x13⟩ hm
        (try dsimp only at hm)
        (try dsimp only)
        refine g_istore_5 dX8_fewestAbsent_51 rfl ?_
        refine g_iload_5 dX8_fewestAbsent_53 ?_
        refine g_jn (J := fun (s : Sg × Int32) => GX g 4 RX8 cX8_fewestAbsent 6 (some .int) (some (.int r)) mm 76 [some (.ref (g.ad 21)), some (.int a1), some (.int (s.2)), some (.int x3), none, none] [] s.1) hm ?_ ?_
        · rintro ⟨m15, x16⟩ hm
          (try dsimp only at hm)
          (try dsimp only)
          refine g_iinc_3 1 hm dX8_fewestAbsent_76 rfl rfl (fun x18 hm => ?_)
          refine g_goto 4 dX8_fewestAbsent_79 (by decide) ?_
          cases hm
          exact hi6 _ rfl
        · intro k17 hk17 hm
          refine g_if_eq 76 hm dX8_fewestAbsent_55 (by decide) (fun hm => ?_) (fun hm => ?_)
          · refine g_weak (vs' := [some (.ref (g.ad 21)), some (.int a1), some (.int x2), some (.int x3), none, none]) ⟨rfl, ⟨rfl, ⟨rfl, ⟨rfl, trivial⟩⟩⟩⟩ ?_
            exact hk17 _ hm
          · refine g_iloadn_2 dX8_fewestAbsent_58 ?_
            refine g_iconst (-1) dX8_fewestAbsent_59 rfl ?_
            refine g_jn (J := fun (s : Sg) => GX g 4 RX8 cX8_fewestAbsent 6 (some .int) (some (.int r)) mm 74 [some (.ref (g.ad 21)), some (.int a1), none, some (.int x3), none, none] [] s) hm ?_ ?_
            · intro m19 hm
              refine g_iloadn_3 dX8_fewestAbsent_74 ?_
              refine g_istoren_2 dX8_fewestAbsent_75 rfl ?_
              exact hk17 _ hm
            · intro k20 hk20 hm
              refine g_icmp_eq 74 hm dX8_fewestAbsent_60 (by decide) (fun hm => ?_) (fun hm => ?_)
              · refine g_weak (vs' := [some (.ref (g.ad 21)), some (.int a1), none, some (.int x3), none, none]) ⟨rfl, ⟨rfl, ⟨rfl, trivial⟩⟩⟩ ?_
                exact hk20 _ hm
              · refine g_iloadn_3 dX8_fewestAbsent_63 ?_
                refine g_s1 hm (fun _ _ h => c_J6_bitCount_0f7a4 h) ce_J6_bitCount_0f7a4 lk_X8_71 rfl rfl dX8_fewestAbsent_64 (fun x22 m21 hm => ?_)
                refine g_iloadn_2 dX8_fewestAbsent_67 ?_
                refine g_s1 hm (fun _ _ h => c_J6_bitCount_0f7a4 h) ce_J6_bitCount_0f7a4 lk_X8_71 rfl rfl dX8_fewestAbsent_68 (fun x24 m23 hm => ?_)
                refine g_icmp_ge 76 hm dX8_fewestAbsent_71 (by decide) (fun hm => ?_) (fun hm => ?_)
                · refine g_weak (vs' := [some (.ref (g.ad 21)), some (.int a1), some (.int x2), some (.int x3), none, none]) ⟨rfl, ⟨rfl, ⟨rfl, ⟨rfl, trivial⟩⟩⟩⟩ ?_
                  exact hk17 _ hm
                · refine g_weak (vs' := [some (.ref (g.ad 21)), some (.int a1), none, some (.int x3), none, none]) ⟨rfl, ⟨rfl, ⟨rfl, trivial⟩⟩⟩ ?_
                  exact hk20 _ hm
      · intro k14 hk14 hm
        refine g_jn (J := fun (s : Sg) => GX g 4 RX8 cX8_fewestAbsent 6 (some .int) (some (.int r)) mm 50 [some (.ref (g.ad 21)), some (.int a1), some (.int x2), some (.int x3), none, none] [] s) hm ?_ ?_
        · intro m25 hm
          refine g_iconst 0 dX8_fewestAbsent_50 rfl ?_
          exact hk14 _ hm
        · intro k26 hk26 hm
          refine g_icmp_eq 50 hm dX8_fewestAbsent_30 (by decide) (fun hm => ?_) (fun hm => ?_)
          · refine g_weak (vs' := [some (.ref (g.ad 21)), some (.int a1), some (.int x2), some (.int x3), none, none]) ⟨rfl, ⟨rfl, ⟨rfl, ⟨rfl, trivial⟩⟩⟩⟩ ?_
            exact hk26 _ hm
          · refine g_aloadn_0 dX8_fewestAbsent_33 ?_
            refine g_getr (q := 3) fo_8_0 pn_21 pc_21 rfl rfl dX8_fewestAbsent_34 ?_
            refine g_iloadn_1 dX8_fewestAbsent_37 ?_
            refine g_iload_4 dX8_fewestAbsent_38 ?_
            refine g_v2 hm (fun _ _ h => c_X0_stands cty_3 h) pn_3 (pc_3 _ _) rfl ce_X0_stands lk_X8_85 rfl rfl dX8_fewestAbsent_40 (fun x28 m27 hm => ?_)
            refine g_if_eq 50 hm dX8_fewestAbsent_43 (by decide) (fun hm => ?_) (fun hm => ?_)
            · refine g_weak (vs' := [some (.ref (g.ad 21)), some (.int a1), some (.int x2), some (.int x3), none, none]) ⟨rfl, ⟨rfl, ⟨rfl, ⟨rfl, trivial⟩⟩⟩⟩ ?_
              exact hk26 _ hm
            · refine g_iconst 1 dX8_fewestAbsent_46 rfl ?_
              refine g_goto 51 dX8_fewestAbsent_47 (by decide) ?_
              refine g_weak (vs' := [some (.ref (g.ad 21)), some (.int a1), some (.int x2), some (.int x3), none, none]) ⟨rfl, ⟨rfl, ⟨rfl, ⟨rfl, trivial⟩⟩⟩⟩ ?_
              exact hk14 _ hm
def f_X8_inOrderOfAge_L18 (x2 : Int32) : (Sg × Int32 × Int32) → Option (((Sg × Int32)) ⊕ (Sg × Int32 × Int32)) := fun s => match s with
  | (m10, x11, x12) => 
  cal (f_X0_children 4 m10) (fun x18 m17 => (if x18 ≤ x12 then some (.inl (m17, x11)) else
  cal (f_X0_goesFirst 4 m17 x12 x2) (fun x20 m19 => bnd (fun ((m21, x22) : Sg × Int32) => bnd (x11 + x22) (fun x24 => bnd (x12 + 1) (fun x25 => some (.inr (m21, x24, x25))))) (fun (k23 : Sg × Int32 → Option (((Sg × Int32)) ⊕ (Sg × Int32 × Int32))) =>
  (if x20 = 0 then k23 (m19, 0) else
  k23 (m19, 1))))))
def f_X8_inOrderOfAge_L2 (a1 : Int32) : (Sg × Int32) → Option (((Sg × Int32) ⊕ (Sg)) ⊕ (Sg × Int32)) := fun s => match s with
  | (m1, x2) => 
  cal (f_X0_children 4 m1) (fun x9 m8 => (if x9 ≤ x2 then some (.inl (.inr m8)) else
  lpk (f_X8_inOrderOfAge_L18 x2) (m8, 0, 0) (fun ((m13, x14) : Sg × Int32) => (if x14 = a1 then some (.inl (.inl (m13, x2))) else
  bnd (x2 + 1) (fun x26 => some (.inr (m13, x26)))))))
def f_X8_inOrderOfAge  (m : Sg) (a1 : Int32) : Option (Int32 × Sg) :=
  lpk (f_X8_inOrderOfAge_L2 a1) (m, 0) (fun x => match x with
  | .inl (m3, x4) => some (x4, m3)
  | .inr m5 => some ((-1), m5))
set_option maxRecDepth 4000 in
theorem c_X8_inOrderOfAge {g : Cf} {m mm : Sg} {r : Int32} {a1 : Int32} (hm : f_X8_inOrderOfAge  m a1 = some (r, mm)) : Cl g 3 yX8_inOrderOfAge cX8_inOrderOfAge 5 (some .int) [.ref (g.ad 21), .int a1] m (some (.int r)) mm := by
  refine cl_of (by decide) (Nat.le_of_ble_eq_true rfl) (vs := [some (.ref (g.ad 21)), some (.int a1), none, none, none]) rfl rfl ?_
  show GX g 3 RX8 cX8_inOrderOfAge 5 (some .int) (some (.int r)) mm 0 _ [] m
  unfold f_X8_inOrderOfAge at hm
  refine g_iconst 0 dX8_inOrderOfAge_0 rfl ?_
  refine g_istoren_2 dX8_inOrderOfAge_1 rfl ?_
  refine g_lp (I := fun (s : Sg × Int32) => GX g 3 RX8 cX8_inOrderOfAge 5 (some .int) (some (.int r)) mm 2 [some (.ref (g.ad 21)), some (.int a1), some (.int (s.2)), none, none] [] s.1) (E := fun (x : (Sg × Int32) ⊕ (Sg)) => match x with | .inl (m3, x4) => GX g 3 RX8 cX8_inOrderOfAge 5 (some .int) (some (.int r)) mm 62 [none, none, some (.int x4), none, none] [] m3 | .inr m5 => GX g 3 RX8 cX8_inOrderOfAge 5 (some .int) (some (.int r)) mm 70 [none, none, none, none, none] [] m5) hm ?_ ?_
  · rintro (⟨m3, x4⟩ | m5) hm
    · (try dsimp only at hm)
      (try dsimp only)
      refine g_iloadn_2 dX8_inOrderOfAge_62 ?_
      exact g_iret hm dX8_inOrderOfAge_63
    · (try dsimp only at hm)
      (try dsimp only)
      refine g_iconst (-1) dX8_inOrderOfAge_70 rfl ?_
      exact g_iret hm dX8_inOrderOfAge_71
  · rintro ⟨m1, x2⟩ o hm hx7 hi6
    (try dsimp only [f_X8_inOrderOfAge_L2] at hm)
    (try dsimp only)
    refine g_iloadn_2 dX8_inOrderOfAge_2 ?_
    refine g_aloadn_0 dX8_inOrderOfAge_3 ?_
    refine g_getr (q := 3) fo_8_0 pn_21 pc_21 rfl rfl dX8_inOrderOfAge_4 ?_
    refine g_v0 hm (fun _ _ h => c_X0_children cty_3 h) pn_3 (pc_3 _ _) rfl ce_X0_children lk_X8_21 rfl rfl dX8_inOrderOfAge_7 (fun x9 m8 hm => ?_)
    refine g_icmp_ge 70 hm dX8_inOrderOfAge_10 (by decide) (fun hm => ?_) (fun hm => ?_)
    · refine g_weak (vs' := [none, none, none, none, none]) trivial ?_
      cases hm
      exact hx7 _ rfl
    · refine g_iconst 0 dX8_inOrderOfAge_13 rfl ?_
      refine g_istoren_3 dX8_inOrderOfAge_14 rfl ?_
      refine g_iconst 0 dX8_inOrderOfAge_15 rfl ?_
      refine g_istore_4 dX8_inOrderOfAge_16 rfl ?_
      refine g_lp (I := fun (s : Sg × Int32 × Int32) => GX g 3 RX8 cX8_inOrderOfAge 5 (some .int) (some (.int r)) mm 18 [some (.ref (g.ad 21)), some (.int a1), some (.int x2), some (.int (s.2.1)), some (.int (s.2.2))] [] s.1) (E := fun (s : Sg × Int32) => GX g 3 RX8 cX8_inOrderOfAge 5 (some .int) (some (.int r)) mm 57 [some (.ref (g.ad 21)), some (.int a1), some (.int x2), some (.int (s.2)), none] [] s.1) hm ?_ ?_
      · rintro ⟨m13, x14⟩ hm
        (try dsimp only at hm)
        (try dsimp only)
        refine g_iloadn_3 dX8_inOrderOfAge_57 ?_
        refine g_iloadn_1 dX8_inOrderOfAge_58 ?_
        refine g_icmp_ne 64 hm dX8_inOrderOfAge_59 (by decide) (fun hm => ?_) (fun hm => ?_)
        · refine g_iinc_2 1 hm dX8_inOrderOfAge_64 rfl rfl (fun x26 hm => ?_)
          refine g_goto 2 dX8_inOrderOfAge_67 (by decide) ?_
          refine g_weak (vs' := [some (.ref (g.ad 21)), some (.int a1), some (.int x26), none, none]) ⟨rfl, ⟨rfl, ⟨rfl, trivial⟩⟩⟩ ?_
          cases hm
          exact hi6 _ rfl
        · refine g_weak (vs' := [none, none, some (.int x2), none, none]) ⟨rfl, trivial⟩ ?_
          cases hm
          exact hx7 _ rfl
      · rintro ⟨m10, x11, x12⟩ o hm hx16 hi15
        (try dsimp only [f_X8_inOrderOfAge_L18] at hm)
        (try dsimp only)
        refine g_iload_4 dX8_inOrderOfAge_18 ?_
        refine g_aloadn_0 dX8_inOrderOfAge_20 ?_
        refine g_getr (q := 3) fo_8_0 pn_21 pc_21 rfl rfl dX8_inOrderOfAge_21 ?_
        refine g_v0 hm (fun _ _ h => c_X0_children cty_3 h) pn_3 (pc_3 _ _) rfl ce_X0_children lk_X8_21 rfl rfl dX8_inOrderOfAge_24 (fun x18 m17 hm => ?_)
        refine g_icmp_ge 57 hm dX8_inOrderOfAge_27 (by decide) (fun hm => ?_) (fun hm => ?_)
        · refine g_weak (vs' := [some (.ref (g.ad 21)), some (.int a1), some (.int x2), some (.int x11), none]) ⟨rfl, ⟨rfl, ⟨rfl, ⟨rfl, trivial⟩⟩⟩⟩ ?_
          cases hm
          exact hx16 _ rfl
        · refine g_iloadn_3 dX8_inOrderOfAge_30 ?_
          refine g_aloadn_0 dX8_inOrderOfAge_31 ?_
          refine g_getr (q := 3) fo_8_0 pn_21 pc_21 rfl rfl dX8_inOrderOfAge_32 ?_
          refine g_iload_4 dX8_inOrderOfAge_35 ?_
          refine g_iloadn_2 dX8_inOrderOfAge_37 ?_
          refine g_v2 hm (fun _ _ h => c_X0_goesFirst cty_3 h) pn_3 (pc_3 _ _) rfl ce_X0_goesFirst lk_X8_94 rfl rfl dX8_inOrderOfAge_38 (fun x20 m19 hm => ?_)
          refine g_jn (J := fun (s : Sg × Int32) => GX g 3 RX8 cX8_inOrderOfAge 5 (some .int) (some (.int r)) mm 49 [some (.ref (g.ad 21)), some (.int a1), some (.int x2), none, some (.int x12)] [.int (s.2), .int x11] s.1) hm ?_ ?_
          · rintro ⟨m21, x22⟩ hm
            (try dsimp only at hm)
            (try dsimp only)
            refine g_iadd dX8_inOrderOfAge_49 ?_
            refine g_istoreBn_3 hm dX8_inOrderOfAge_50 rfl (fun x24 hm => ?_)
            refine g_iinc_4 1 hm dX8_inOrderOfAge_51 rfl rfl (fun x25 hm => ?_)
            refine g_goto 18 dX8_inOrderOfAge_54 (by decide) ?_
            cases hm
            exact hi15 _ rfl
          · intro k23 hk23 hm
            refine g_if_eq 48 hm dX8_inOrderOfAge_41 (by decide) (fun hm => ?_) (fun hm => ?_)
            · refine g_iconst 0 dX8_inOrderOfAge_48 rfl ?_
              refine g_weak (vs' := [some (.ref (g.ad 21)), some (.int a1), some (.int x2), none, some (.int x12)]) ⟨rfl, ⟨rfl, ⟨rfl, ⟨rfl, trivial⟩⟩⟩⟩ ?_
              exact hk23 _ hm
            · refine g_iconst 1 dX8_inOrderOfAge_44 rfl ?_
              refine g_goto 49 dX8_inOrderOfAge_45 (by decide) ?_
              refine g_weak (vs' := [some (.ref (g.ad 21)), some (.int a1), some (.int x2), none, some (.int x12)]) ⟨rfl, ⟨rfl, ⟨rfl, ⟨rfl, trivial⟩⟩⟩⟩ ?_
              exact hk23 _ hm
def f_X8_cheapest_L5 (a1 : Int32) (a2 : Int32) : (Sg × Int32 × Int32) → Option (((Sg × Int32)) ⊕ (Sg × Int32 × Int32)) := fun s => match s with
  | (m1, x2, x3) => 
  cal (f_X0_children 4 m1) (fun x9 m8 => (if x9 ≤ x3 then some (.inl (m8, x2)) else
  cal (f_X0_isOfNursery 4 m8 x3 a1) (fun x11 m10 => bnd (fun ((m12, x13) : Sg × Int32) => bnd (x3 + 1) (fun x15 => some (.inr (m12, x13, x15)))) (fun (k14 : Sg × Int32 → Option (((Sg × Int32)) ⊕ (Sg × Int32 × Int32))) =>
  (if x11 = 0 then k14 (m10, x2) else
  cal (f_X8_mayRule m10 x3) (fun x17 m16 => (if x17 = 0 then k14 (m16, x2) else
  bnd (fun (m18 : Sg) => k14 (m18, x3)) (fun (k19 : Sg → Option (((Sg × Int32)) ⊕ (Sg × Int32 × Int32))) =>
  (if x2 = (-1) then k19 m16 else
  cal (f_X0_plumsToRule 4 m16 x3 a2) (fun x21 m20 => cal (f_X0_plumsToRule 4 m20 x2 a2) (fun x23 m22 => (if x23 ≤ x21 then k14 (m22, x2) else
  k19 m22))))))))))))
def f_X8_cheapest  (m : Sg) (a1 : Int32) (a2 : Int32) : Option (Int32 × Sg) :=
  lpk (f_X8_cheapest_L5 a1 a2) (m, (-1), 0) (fun ((m4, x5) : Sg × Int32) => some (x5, m4))
set_option maxRecDepth 4000 in
theorem c_X8_cheapest {g : Cf} {m mm : Sg} {r : Int32} {a1 : Int32} {a2 : Int32} (hm : f_X8_cheapest  m a1 a2 = some (r, mm)) : Cl g 5 yX8_cheapest cX8_cheapest 5 (some .int) [.ref (g.ad 21), .int a1, .int a2] m (some (.int r)) mm := by
  refine cl_of (by decide) (Nat.le_of_ble_eq_true rfl) (vs := [some (.ref (g.ad 21)), some (.int a1), some (.int a2), none, none]) rfl rfl ?_
  show GX g 5 RX8 cX8_cheapest 5 (some .int) (some (.int r)) mm 0 _ [] m
  unfold f_X8_cheapest at hm
  refine g_iconst (-1) dX8_cheapest_0 rfl ?_
  refine g_istoren_3 dX8_cheapest_1 rfl ?_
  refine g_iconst 0 dX8_cheapest_2 rfl ?_
  refine g_istore_4 dX8_cheapest_3 rfl ?_
  refine g_lp (I := fun (s : Sg × Int32 × Int32) => GX g 5 RX8 cX8_cheapest 5 (some .int) (some (.int r)) mm 5 [some (.ref (g.ad 21)), some (.int a1), some (.int a2), some (.int (s.2.1)), some (.int (s.2.2))] [] s.1) (E := fun (s : Sg × Int32) => GX g 5 RX8 cX8_cheapest 5 (some .int) (some (.int r)) mm 75 [none, none, none, some (.int (s.2)), none] [] s.1) hm ?_ ?_
  · rintro ⟨m4, x5⟩ hm
    (try dsimp only at hm)
    (try dsimp only)
    refine g_iloadn_3 dX8_cheapest_75 ?_
    exact g_iret hm dX8_cheapest_76
  · rintro ⟨m1, x2, x3⟩ o hm hx7 hi6
    (try dsimp only [f_X8_cheapest_L5] at hm)
    (try dsimp only)
    refine g_iload_4 dX8_cheapest_5 ?_
    refine g_aloadn_0 dX8_cheapest_7 ?_
    refine g_getr (q := 3) fo_8_0 pn_21 pc_21 rfl rfl dX8_cheapest_8 ?_
    refine g_v0 hm (fun _ _ h => c_X0_children cty_3 h) pn_3 (pc_3 _ _) rfl ce_X0_children lk_X8_21 rfl rfl dX8_cheapest_11 (fun x9 m8 hm => ?_)
    refine g_icmp_ge 75 hm dX8_cheapest_14 (by decide) (fun hm => ?_) (fun hm => ?_)
    · refine g_weak (vs' := [none, none, none, some (.int x2), none]) ⟨rfl, trivial⟩ ?_
      cases hm
      exact hx7 _ rfl
    · refine g_aloadn_0 dX8_cheapest_17 ?_
      refine g_getr (q := 3) fo_8_0 pn_21 pc_21 rfl rfl dX8_cheapest_18 ?_
      refine g_iload_4 dX8_cheapest_21 ?_
      refine g_iloadn_1 dX8_cheapest_23 ?_
      refine g_v2 hm (fun _ _ h => c_X0_isOfNursery cty_3 h) pn_3 (pc_3 _ _) rfl ce_X0_isOfNursery lk_X8_25 rfl rfl dX8_cheapest_24 (fun x11 m10 hm => ?_)
      refine g_jn (J := fun (s : Sg × Int32) => GX g 5 RX8 cX8_cheapest 5 (some .int) (some (.int r)) mm 69 [some (.ref (g.ad 21)), some (.int a1), some (.int a2), some (.int (s.2)), some (.int x3)] [] s.1) hm ?_ ?_
      · rintro ⟨m12, x13⟩ hm
        (try dsimp only at hm)
        (try dsimp only)
        refine g_iinc_4 1 hm dX8_cheapest_69 rfl rfl (fun x15 hm => ?_)
        refine g_goto 5 dX8_cheapest_72 (by decide) ?_
        cases hm
        exact hi6 _ rfl
      · intro k14 hk14 hm
        refine g_if_eq 69 hm dX8_cheapest_27 (by decide) (fun hm => ?_) (fun hm => ?_)
        · exact hk14 _ hm
        · refine g_aloadn_0 dX8_cheapest_30 ?_
          refine g_iload_4 dX8_cheapest_31 ?_
          refine g_v1 hm (fun _ _ h => c_X8_mayRule h) pn_21 (pc_21 _ _) rfl ce_X8_mayRule lk_X8_29 rfl rfl dX8_cheapest_33 (fun x17 m16 hm => ?_)
          refine g_if_eq 69 hm dX8_cheapest_36 (by decide) (fun hm => ?_) (fun hm => ?_)
          · exact hk14 _ hm
          · refine g_iloadn_3 dX8_cheapest_39 ?_
            refine g_iconst (-1) dX8_cheapest_40 rfl ?_
            refine g_jn (J := fun (s : Sg) => GX g 5 RX8 cX8_cheapest 5 (some .int) (some (.int r)) mm 66 [some (.ref (g.ad 21)), some (.int a1), some (.int a2), none, some (.int x3)] [] s) hm ?_ ?_
            · intro m18 hm
              refine g_iload_4 dX8_cheapest_66 ?_
              refine g_istoren_3 dX8_cheapest_68 rfl ?_
              exact hk14 _ hm
            · intro k19 hk19 hm
              refine g_icmp_eq 66 hm dX8_cheapest_41 (by decide) (fun hm => ?_) (fun hm => ?_)
              · refine g_weak (vs' := [some (.ref (g.ad 21)), some (.int a1), some (.int a2), none, some (.int x3)]) ⟨rfl, ⟨rfl, ⟨rfl, ⟨rfl, trivial⟩⟩⟩⟩ ?_
                exact hk19 _ hm
              · refine g_aloadn_0 dX8_cheapest_44 ?_
                refine g_getr (q := 3) fo_8_0 pn_21 pc_21 rfl rfl dX8_cheapest_45 ?_
                refine g_iload_4 dX8_cheapest_48 ?_
                refine g_iloadn_2 dX8_cheapest_50 ?_
                refine g_v2 hm (fun _ _ h => c_X0_plumsToRule cty_3 h) pn_3 (pc_3 _ _) rfl ce_X0_plumsToRule lk_X8_33 rfl rfl dX8_cheapest_51 (fun x21 m20 hm => ?_)
                refine g_aloadn_0 dX8_cheapest_54 ?_
                refine g_getr (q := 3) fo_8_0 pn_21 pc_21 rfl rfl dX8_cheapest_55 ?_
                refine g_iloadn_3 dX8_cheapest_58 ?_
                refine g_iloadn_2 dX8_cheapest_59 ?_
                refine g_v2 hm (fun _ _ h => c_X0_plumsToRule cty_3 h) pn_3 (pc_3 _ _) rfl ce_X0_plumsToRule lk_X8_33 rfl rfl dX8_cheapest_60 (fun x23 m22 hm => ?_)
                refine g_icmp_ge 69 hm dX8_cheapest_63 (by decide) (fun hm => ?_) (fun hm => ?_)
                · exact hk14 _ hm
                · refine g_weak (vs' := [some (.ref (g.ad 21)), some (.int a1), some (.int a2), none, some (.int x3)]) ⟨rfl, ⟨rfl, ⟨rfl, ⟨rfl, trivial⟩⟩⟩⟩ ?_
                  exact hk19 _ hm
def f_X8_couldHaveTaught  (m : Sg) (a1 : Int32) (a2 : Int32) : Option (Int32 × Sg) :=
  cal (f_X8_mindedBy m a1) (fun x2 m1 => cal (f_X0_rightOf 4 m1 a2) (fun x4 m3 => (if (x4 &&& (x2 ^^^ (-1))) = 0 then cal (f_X0_kid 4 m3 a2 2) (fun x6 m5 => (if (x6 &&& x2) = 0 then some (1, m5) else
  some (0, m5))) else
  some (0, m3))))
set_option maxRecDepth 4000 in
theorem c_X8_couldHaveTaught {g : Cf} {m mm : Sg} {r : Int32} {a1 : Int32} {a2 : Int32} (hm : f_X8_couldHaveTaught  m a1 a2 = some (r, mm)) : Cl g 2 yX8_couldHaveTaught cX8_couldHaveTaught 4 (some .boolean) [.ref (g.ad 21), .int a1, .int a2] m (some (.int r)) mm := by
  refine cl_of (by decide) (Nat.le_of_ble_eq_true rfl) (vs := [some (.ref (g.ad 21)), some (.int a1), some (.int a2), none]) rfl rfl ?_
  show GX g 2 RX8 cX8_couldHaveTaught 4 (some .boolean) (some (.int r)) mm 0 _ [] m
  unfold f_X8_couldHaveTaught at hm
  refine g_aloadn_0 dX8_couldHaveTaught_0 ?_
  refine g_iloadn_1 dX8_couldHaveTaught_1 ?_
  refine g_v1 hm (fun _ _ h => c_X8_mindedBy h) pn_21 (pc_21 _ _) rfl ce_X8_mindedBy lk_X8_52 rfl rfl dX8_couldHaveTaught_2 (fun x2 m1 hm => ?_)
  refine g_istoren_3 dX8_couldHaveTaught_5 rfl ?_
  refine g_aloadn_0 dX8_couldHaveTaught_6 ?_
  refine g_getr (q := 3) fo_8_0 pn_21 pc_21 rfl rfl dX8_couldHaveTaught_7 ?_
  refine g_iloadn_2 dX8_couldHaveTaught_10 ?_
  refine g_v1 hm (fun _ _ h => c_X0_rightOf cty_3 h) pn_3 (pc_3 _ _) rfl ce_X0_rightOf lk_X8_56 rfl rfl dX8_couldHaveTaught_11 (fun x4 m3 hm => ?_)
  refine g_iloadn_3 dX8_couldHaveTaught_14 ?_
  refine g_iconst (-1) dX8_couldHaveTaught_15 rfl ?_
  refine g_ixor dX8_couldHaveTaught_16 ?_
  refine g_iand dX8_couldHaveTaught_17 ?_
  refine g_if_ne 39 hm dX8_couldHaveTaught_18 (by decide) (fun hm => ?_) (fun hm => ?_)
  · refine g_iconst 0 dX8_couldHaveTaught_39 rfl ?_
    exact g_zretc hm rfl dX8_couldHaveTaught_40
  · refine g_aloadn_0 dX8_couldHaveTaught_21 ?_
    refine g_getr (q := 3) fo_8_0 pn_21 pc_21 rfl rfl dX8_couldHaveTaught_22 ?_
    refine g_iloadn_2 dX8_couldHaveTaught_25 ?_
    refine g_iconst 2 dX8_couldHaveTaught_26 rfl ?_
    refine g_v2 hm (fun _ _ h => c_X0_kid cty_3 h) pn_3 (pc_3 _ _) rfl ce_X0_kid lk_X8_59 rfl rfl dX8_couldHaveTaught_27 (fun x6 m5 hm => ?_)
    refine g_iloadn_3 dX8_couldHaveTaught_30 ?_
    refine g_iand dX8_couldHaveTaught_31 ?_
    refine g_if_ne 39 hm dX8_couldHaveTaught_32 (by decide) (fun hm => ?_) (fun hm => ?_)
    · refine g_iconst 0 dX8_couldHaveTaught_39 rfl ?_
      exact g_zretc hm rfl dX8_couldHaveTaught_40
    · refine g_iconst 1 dX8_couldHaveTaught_35 rfl ?_
      refine g_goto 40 dX8_couldHaveTaught_36 (by decide) ?_
      exact g_zretc hm rfl dX8_couldHaveTaught_40
def f_X8_longestChain_L2  : (Sg × Int32) → Option (((Sg)) ⊕ (Sg × Int32)) := fun s => match s with
  | (m1, x2) => 
  cal (f_X0_children 4 m1) (fun x7 m6 => (if x7 ≤ x2 then some (.inl m6) else
  (if 8 ≤ x2 then some (.inl m6) else
  cal (f_X8_chainedWith m6 x2) (fun x9 m8 => if inr x2 8 = true then bnd (wr m8 22 x2.toNatClampNeg x9) (fun m10 => bnd (x2 + 1) (fun x11 => some (.inr (m10, x11)))) else none))))
def f_X8_longestChain_L43  : (Sg × Int32 × Int32) → Option (((Sg × Int32)) ⊕ (Sg × Int32 × Int32)) := fun s => match s with
  | (m12, x13, x14) => 
  cal (f_X0_children 4 m12) (fun x20 m19 => (if (1 <<< (x20 &&& 31)) ≤ x14 then some (.inl (m19, x13)) else
  cal (f_J6_bitCount_0f7a4 m19 x14) (fun x22 m21 => cal (f_J6_bitCount_0f7a4 m21 x13) (fun x24 m23 => bnd (fun ((m25, x26) : Sg × Int32) => bnd (x14 + 1) (fun x28 => some (.inr (m25, x26, x28)))) (fun (k27 : Sg × Int32 → Option (((Sg × Int32)) ⊕ (Sg × Int32 × Int32))) =>
  (if x22 ≤ x24 then k27 (m23, x13) else
  cal (f_X8_isChain m23 x14) (fun x30 m29 => (if x30 = 0 then k27 (m29, x13) else
  k27 (m29, x14)))))))))
def f_X8_longestChain  (m : Sg)  : Option (Int32 × Sg) :=
  lpk (f_X8_longestChain_L2) (m, 0) (fun m3 => lpk (f_X8_longestChain_L43) (m3, 0, 1) (fun ((m15, x16) : Sg × Int32) => some (x16, m15)))
set_option maxRecDepth 4000 in
theorem c_X8_longestChain {g : Cf} {m mm : Sg} {r : Int32} (hm : f_X8_longestChain  m  = some (r, mm)) : Cl g 5 yX8_longestChain cX8_longestChain 3 (some .int) [.ref (g.ad 21)] m (some (.int r)) mm := by
  refine cl_of (by decide) (Nat.le_of_ble_eq_true rfl) (vs := [some (.ref (g.ad 21)), none, none]) rfl rfl ?_
  show GX g 5 RX8 cX8_longestChain 3 (some .int) (some (.int r)) mm 0 _ [] m
  unfold f_X8_longestChain at hm
  refine g_iconst 0 dX8_longestChain_0 rfl ?_
  refine g_istoren_1 dX8_longestChain_1 rfl ?_
  refine g_lp (I := fun (s : Sg × Int32) => GX g 5 RX8 cX8_longestChain 3 (some .int) (some (.int r)) mm 2 [some (.ref (g.ad 21)), some (.int (s.2)), none] [] s.1) (E := fun (s : Sg) => GX g 5 RX8 cX8_longestChain 3 (some .int) (some (.int r)) mm 39 [some (.ref (g.ad 21)), none, none] [] s) hm ?_ ?_
  · rintro m3 hm
    (try dsimp only at hm)
    (try dsimp only)
    refine g_iconst 0 dX8_longestChain_39 rfl ?_
    refine g_istoren_1 dX8_longestChain_40 rfl ?_
    refine g_iconst 1 dX8_longestChain_41 rfl ?_
    refine g_istoren_2 dX8_longestChain_42 rfl ?_
    refine g_lp (I := fun (s : Sg × Int32 × Int32) => GX g 5 RX8 cX8_longestChain 3 (some .int) (some (.int r)) mm 43 [some (.ref (g.ad 21)), some (.int (s.2.1)), some (.int (s.2.2))] [] s.1) (E := fun (s : Sg × Int32) => GX g 5 RX8 cX8_longestChain 3 (some .int) (some (.int r)) mm 83 [none, some (.int (s.2)), none] [] s.1) hm ?_ ?_
    · rintro ⟨m15, x16⟩ hm
      (try dsimp only at hm)
      (try dsimp only)
      refine g_iloadn_1 dX8_longestChain_83 ?_
      exact g_iret hm dX8_longestChain_84
    · rintro ⟨m12, x13, x14⟩ o hm hx18 hi17
      (try dsimp only [f_X8_longestChain_L43] at hm)
      (try dsimp only)
      refine g_iloadn_2 dX8_longestChain_43 ?_
      refine g_iconst 1 dX8_longestChain_44 rfl ?_
      refine g_aloadn_0 dX8_longestChain_45 ?_
      refine g_getr (q := 3) fo_8_0 pn_21 pc_21 rfl rfl dX8_longestChain_46 ?_
      refine g_v0 hm (fun _ _ h => c_X0_children cty_3 h) pn_3 (pc_3 _ _) rfl ce_X0_children lk_X8_21 rfl rfl dX8_longestChain_49 (fun x20 m19 hm => ?_)
      refine g_ishl dX8_longestChain_52 ?_
      refine g_icmp_ge 83 hm dX8_longestChain_53 (by decide) (fun hm => ?_) (fun hm => ?_)
      · refine g_weak (vs' := [none, some (.int x13), none]) ⟨rfl, trivial⟩ ?_
        cases hm
        exact hx18 _ rfl
      · refine g_iloadn_2 dX8_longestChain_56 ?_
        refine g_s1 hm (fun _ _ h => c_J6_bitCount_0f7a4 h) ce_J6_bitCount_0f7a4 lk_X8_71 rfl rfl dX8_longestChain_57 (fun x22 m21 hm => ?_)
        refine g_iloadn_1 dX8_longestChain_60 ?_
        refine g_s1 hm (fun _ _ h => c_J6_bitCount_0f7a4 h) ce_J6_bitCount_0f7a4 lk_X8_71 rfl rfl dX8_longestChain_61 (fun x24 m23 hm => ?_)
        refine g_jn (J := fun (s : Sg × Int32) => GX g 5 RX8 cX8_longestChain 3 (some .int) (some (.int r)) mm 77 [some (.ref (g.ad 21)), some (.int (s.2)), some (.int x14)] [] s.1) hm ?_ ?_
        · rintro ⟨m25, x26⟩ hm
          (try dsimp only at hm)
          (try dsimp only)
          refine g_iinc_2 1 hm dX8_longestChain_77 rfl rfl (fun x28 hm => ?_)
          refine g_goto 43 dX8_longestChain_80 (by decide) ?_
          cases hm
          exact hi17 _ rfl
        · intro k27 hk27 hm
          refine g_icmp_le 77 hm dX8_longestChain_64 (by decide) (fun hm => ?_) (fun hm => ?_)
          · exact hk27 _ hm
          · refine g_aloadn_0 dX8_longestChain_67 ?_
            refine g_iloadn_2 dX8_longestChain_68 ?_
            refine g_v1 hm (fun _ _ h => c_X8_isChain h) pn_21 (pc_21 _ _) rfl ce_X8_isChain lk_X8_76 rfl rfl dX8_longestChain_69 (fun x30 m29 hm => ?_)
            refine g_if_eq 77 hm dX8_longestChain_72 (by decide) (fun hm => ?_) (fun hm => ?_)
            · exact hk27 _ hm
            · refine g_iloadn_2 dX8_longestChain_75 ?_
              refine g_istoren_1 dX8_longestChain_76 rfl ?_
              exact hk27 _ hm
  · rintro ⟨m1, x2⟩ o hm hx5 hi4
    (try dsimp only [f_X8_longestChain_L2] at hm)
    (try dsimp only)
    refine g_iloadn_1 dX8_longestChain_2 ?_
    refine g_aloadn_0 dX8_longestChain_3 ?_
    refine g_getr (q := 3) fo_8_0 pn_21 pc_21 rfl rfl dX8_longestChain_4 ?_
    refine g_v0 hm (fun _ _ h => c_X0_children cty_3 h) pn_3 (pc_3 _ _) rfl ce_X0_children lk_X8_21 rfl rfl dX8_longestChain_7 (fun x7 m6 hm => ?_)
    refine g_icmp_ge 39 hm dX8_longestChain_10 (by decide) (fun hm => ?_) (fun hm => ?_)
    · refine g_weak (vs' := [some (.ref (g.ad 21)), none, none]) ⟨rfl, trivial⟩ ?_
      cases hm
      exact hx5 _ rfl
    · refine g_iloadn_1 dX8_longestChain_13 ?_
      refine g_aloadn_0 dX8_longestChain_14 ?_
      refine g_getr (q := 22) fo_8_1 pn_21 pc_21 rfl rfl dX8_longestChain_15 ?_
      refine g_alen (ty := .int) 8 ar_22.1 ar_22.2 rfl rfl dX8_longestChain_18 ?_
      refine g_icmp_ge 39 hm dX8_longestChain_19 (by decide) (fun hm => ?_) (fun hm => ?_)
      · refine g_weak (vs' := [some (.ref (g.ad 21)), none, none]) ⟨rfl, trivial⟩ ?_
        cases hm
        exact hx5 _ rfl
      · refine g_aloadn_0 dX8_longestChain_22 ?_
        refine g_getr (q := 22) fo_8_1 pn_21 pc_21 rfl rfl dX8_longestChain_23 ?_
        refine g_iloadn_1 dX8_longestChain_26 ?_
        refine g_aloadn_0 dX8_longestChain_27 ?_
        refine g_iloadn_1 dX8_longestChain_28 ?_
        refine g_v1 hm (fun _ _ h => c_X8_chainedWith h) pn_21 (pc_21 _ _) rfl ce_X8_chainedWith lk_X8_68 rfl rfl dX8_longestChain_29 (fun x9 m8 hm => ?_)
        refine g_iastore hm ar_22.1 ar_22.2 dX8_longestChain_32 (fun m10 hm => ?_)
        refine g_iinc_1 1 hm dX8_longestChain_33 rfl rfl (fun x11 hm => ?_)
        refine g_goto 2 dX8_longestChain_36 (by decide) ?_
        cases hm
        exact hi4 _ rfl
def f_X8_teachersAt_L5 (a1 : Int32) (a2 : Int32) : (Sg × Int32 × Int32) → Option (((Sg × Int32) ⊕ (Sg × Int32)) ⊕ (Sg × Int32 × Int32)) := fun s => match s with
  | (m1, x2, x3) => 
  cal (f_X0_elders 4 m1) (fun x11 m10 => (if (1 <<< (x11 &&& 31)) ≤ x3 then some (.inl (.inr (m10, x2))) else
  cal (f_X8_couldHaveTaught m10 x3 a1) (fun x13 m12 => bnd (fun ((m14, x15) : Sg × Int32) => bnd (x3 + 1) (fun x17 => some (.inr (m14, x15, x17)))) (fun (k16 : Sg × Int32 → Option (((Sg × Int32) ⊕ (Sg × Int32)) ⊕ (Sg × Int32 × Int32))) =>
  (if x13 = 0 then k16 (m12, x2) else
  (if x2 = a2 then some (.inl (.inl (m12, x3))) else
  bnd (x2 + 1) (fun x18 => k16 (m12, x18))))))))
def f_X8_teachersAt  (m : Sg) (a1 : Int32) (a2 : Int32) : Option (Int32 × Sg) :=
  lpk (f_X8_teachersAt_L5 a1 a2) (m, 0, 1) (fun x => match x with
  | .inl (m4, x5) => some (x5, m4)
  | .inr (m6, x7) => (if a2 = (-1) then some (x7, m6) else
  some ((-1), m6)))
set_option maxRecDepth 4000 in
theorem c_X8_teachersAt {g : Cf} {m mm : Sg} {r : Int32} {a1 : Int32} {a2 : Int32} (hm : f_X8_teachersAt  m a1 a2 = some (r, mm)) : Cl g 3 yX8_teachersAt cX8_teachersAt 5 (some .int) [.ref (g.ad 21), .int a1, .int a2] m (some (.int r)) mm := by
  refine cl_of (by decide) (Nat.le_of_ble_eq_true rfl) (vs := [some (.ref (g.ad 21)), some (.int a1), some (.int a2), none, none]) rfl rfl ?_
  show GX g 3 RX8 cX8_teachersAt 5 (some .int) (some (.int r)) mm 0 _ [] m
  unfold f_X8_teachersAt at hm
  refine g_iconst 0 dX8_teachersAt_0 rfl ?_
  refine g_istoren_3 dX8_teachersAt_1 rfl ?_
  refine g_iconst 1 dX8_teachersAt_2 rfl ?_
  refine g_istore_4 dX8_teachersAt_3 rfl ?_
  refine g_lp (I := fun (s : Sg × Int32 × Int32) => GX g 3 RX8 cX8_teachersAt 5 (some .int) (some (.int r)) mm 5 [some (.ref (g.ad 21)), some (.int a1), some (.int a2), some (.int (s.2.1)), some (.int (s.2.2))] [] s.1) (E := fun (x : (Sg × Int32) ⊕ (Sg × Int32)) => match x with | .inl (m4, x5) => GX g 3 RX8 cX8_teachersAt 5 (some .int) (some (.int r)) mm 34 [none, none, none, none, some (.int x5)] [] m4 | .inr (m6, x7) => GX g 3 RX8 cX8_teachersAt 5 (some .int) (some (.int r)) mm 46 [none, none, some (.int a2), some (.int x7), none] [] m6) hm ?_ ?_
  · rintro (⟨m4, x5⟩ | ⟨m6, x7⟩) hm
    · (try dsimp only at hm)
      (try dsimp only)
      refine g_iload_4 dX8_teachersAt_34 ?_
      exact g_iret hm dX8_teachersAt_36
    · (try dsimp only at hm)
      (try dsimp only)
      refine g_iloadn_2 dX8_teachersAt_46 ?_
      refine g_iconst (-1) dX8_teachersAt_47 rfl ?_
      refine g_icmp_ne 55 hm dX8_teachersAt_48 (by decide) (fun hm => ?_) (fun hm => ?_)
      · refine g_iconst (-1) dX8_teachersAt_55 rfl ?_
        exact g_iret hm dX8_teachersAt_56
      · refine g_iloadn_3 dX8_teachersAt_51 ?_
        refine g_goto 56 dX8_teachersAt_52 (by decide) ?_
        exact g_iret hm dX8_teachersAt_56
  · rintro ⟨m1, x2, x3⟩ o hm hx9 hi8
    (try dsimp only [f_X8_teachersAt_L5] at hm)
    (try dsimp only)
    refine g_iload_4 dX8_teachersAt_5 ?_
    refine g_iconst 1 dX8_teachersAt_7 rfl ?_
    refine g_aloadn_0 dX8_teachersAt_8 ?_
    refine g_getr (q := 3) fo_8_0 pn_21 pc_21 rfl rfl dX8_teachersAt_9 ?_
    refine g_v0 hm (fun _ _ h => c_X0_elders cty_3 h) pn_3 (pc_3 _ _) rfl ce_X0_elders lk_X8_46 rfl rfl dX8_teachersAt_12 (fun x11 m10 hm => ?_)
    refine g_ishl dX8_teachersAt_15 ?_
    refine g_icmp_ge 46 hm dX8_teachersAt_16 (by decide) (fun hm => ?_) (fun hm => ?_)
    · refine g_weak (vs' := [none, none, some (.int a2), some (.int x2), none]) ⟨rfl, ⟨rfl, trivial⟩⟩ ?_
      cases hm
      exact hx9 _ rfl
    · refine g_aloadn_0 dX8_teachersAt_19 ?_
      refine g_iload_4 dX8_teachersAt_20 ?_
      refine g_iloadn_1 dX8_teachersAt_22 ?_
      refine g_v2 hm (fun _ _ h => c_X8_couldHaveTaught h) pn_21 (pc_21 _ _) rfl ce_X8_couldHaveTaught lk_X8_49 rfl rfl dX8_teachersAt_23 (fun x13 m12 hm => ?_)
      refine g_jn (J := fun (s : Sg × Int32) => GX g 3 RX8 cX8_teachersAt 5 (some .int) (some (.int r)) mm 40 [some (.ref (g.ad 21)), some (.int a1), some (.int a2), some (.int (s.2)), some (.int x3)] [] s.1) hm ?_ ?_
      · rintro ⟨m14, x15⟩ hm
        (try dsimp only at hm)
        (try dsimp only)
        refine g_iinc_4 1 hm dX8_teachersAt_40 rfl rfl (fun x17 hm => ?_)
        refine g_goto 5 dX8_teachersAt_43 (by decide) ?_
        cases hm
        exact hi8 _ rfl
      · intro k16 hk16 hm
        refine g_if_eq 40 hm dX8_teachersAt_26 (by decide) (fun hm => ?_) (fun hm => ?_)
        · exact hk16 _ hm
        · refine g_iloadn_3 dX8_teachersAt_29 ?_
          refine g_iloadn_2 dX8_teachersAt_30 ?_
          refine g_icmp_ne 37 hm dX8_teachersAt_31 (by decide) (fun hm => ?_) (fun hm => ?_)
          · refine g_iinc_3 1 hm dX8_teachersAt_37 rfl rfl (fun x18 hm => ?_)
            exact hk16 _ hm
          · refine g_weak (vs' := [none, none, none, none, some (.int x3)]) ⟨rfl, trivial⟩ ?_
            cases hm
            exact hx9 _ rfl
