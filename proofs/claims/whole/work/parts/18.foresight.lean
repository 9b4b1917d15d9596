def f_X3_bestRow  (m : Sg)  : Option (Int32 × Sg) :=
  some (m.1 23 6, m)
set_option maxRecDepth 4000 in
theorem c_X3_bestRow {g : Cf} {m mm : Sg} {r : Int32} (hm : f_X3_bestRow  m  = some (r, mm)) : Cl g 0 yX3_bestRow cX3_bestRow 1 (some .int) [.ref (g.ad 23)] m (some (.int r)) mm := by
  refine cl_of (by decide) (Nat.le_of_ble_eq_true rfl) (vs := [some (.ref (g.ad 23))]) rfl rfl ?_
  show GX g 0 RX3 cX3_bestRow 1 (some .int) (some (.int r)) mm 0 _ [] m
  unfold f_X3_bestRow at hm
  refine g_aloadn_0 dX3_bestRow_0 ?_
  refine g_geti fo_3_6 pn_23 pc_23 rfl dX3_bestRow_1 ?_
  exact g_iret hm dX3_bestRow_4
def f_X3_bestMonths  (m : Sg)  : Option (Int32 × Sg) :=
  some (m.1 23 7, m)
set_option maxRecDepth 4000 in
theorem c_X3_bestMonths {g : Cf} {m mm : Sg} {r : Int32} (hm : f_X3_bestMonths  m  = some (r, mm)) : Cl g 0 yX3_bestMonths cX3_bestMonths 1 (some .int) [.ref (g.ad 23)] m (some (.int r)) mm := by
  refine cl_of (by decide) (Nat.le_of_ble_eq_true rfl) (vs := [some (.ref (g.ad 23))]) rfl rfl ?_
  show GX g 0 RX3 cX3_bestMonths 1 (some .int) (some (.int r)) mm 0 _ [] m
  unfold f_X3_bestMonths at hm
  refine g_aloadn_0 dX3_bestMonths_0 ?_
  refine g_geti fo_3_7 pn_23 pc_23 rfl dX3_bestMonths_1 ?_
  exact g_iret hm dX3_bestMonths_4
def f_X3_bestLength  (m : Sg)  : Option (Int32 × Sg) :=
  some (m.1 23 8, m)
set_option maxRecDepth 4000 in
theorem c_X3_bestLength {g : Cf} {m mm : Sg} {r : Int32} (hm : f_X3_bestLength  m  = some (r, mm)) : Cl g 0 yX3_bestLength cX3_bestLength 1 (some .int) [.ref (g.ad 23)] m (some (.int r)) mm := by
  refine cl_of (by decide) (Nat.le_of_ble_eq_true rfl) (vs := [some (.ref (g.ad 23))]) rfl rfl ?_
  show GX g 0 RX3 cX3_bestLength 1 (some .int) (some (.int r)) mm 0 _ [] m
  unfold f_X3_bestLength at hm
  refine g_aloadn_0 dX3_bestLength_0 ?_
  refine g_geti fo_3_8 pn_23 pc_23 rfl dX3_bestLength_1 ?_
  exact g_iret hm dX3_bestLength_4
def f_X3_bestLaw  (m : Sg)  : Option (Int32 × Sg) :=
  some (m.1 23 9, m)
set_option maxRecDepth 4000 in
theorem c_X3_bestLaw {g : Cf} {m mm : Sg} {r : Int32} (hm : f_X3_bestLaw  m  = some (r, mm)) : Cl g 0 yX3_bestLaw cX3_bestLaw 1 (some .int) [.ref (g.ad 23)] m (some (.int r)) mm := by
  refine cl_of (by decide) (Nat.le_of_ble_eq_true rfl) (vs := [some (.ref (g.ad 23))]) rfl rfl ?_
  show GX g 0 RX3 cX3_bestLaw 1 (some .int) (some (.int r)) mm 0 _ [] m
  unfold f_X3_bestLaw at hm
  refine g_aloadn_0 dX3_bestLaw_0 ?_
  refine g_geti fo_3_9 pn_23 pc_23 rfl dX3_bestLaw_1 ?_
  exact g_iret hm dX3_bestLaw_4
def f_X3_bestTreasury  (m : Sg)  : Option (Int32 × Sg) :=
  some (m.1 23 10, m)
set_option maxRecDepth 4000 in
theorem c_X3_bestTreasury {g : Cf} {m mm : Sg} {r : Int32} (hm : f_X3_bestTreasury  m  = some (r, mm)) : Cl g 0 yX3_bestTreasury cX3_bestTreasury 1 (some .int) [.ref (g.ad 23)] m (some (.int r)) mm := by
  refine cl_of (by decide) (Nat.le_of_ble_eq_true rfl) (vs := [some (.ref (g.ad 23))]) rfl rfl ?_
  show GX g 0 RX3 cX3_bestTreasury 1 (some .int) (some (.int r)) mm 0 _ [] m
  unfold f_X3_bestTreasury at hm
  refine g_aloadn_0 dX3_bestTreasury_0 ?_
  refine g_geti fo_3_10 pn_23 pc_23 rfl dX3_bestTreasury_1 ?_
  exact g_iret hm dX3_bestTreasury_4
def f_X3_rulerOfNextMonth  (m : Sg)  : Option (Int32 × Sg) :=
  calv (f_X0_beginMonth 6 m) (fun m1 => cal (f_X0_trier 6 m1) (fun x3 m2 => calv (f_X0_crown 6 m2 x3) (fun m4 => cal (f_X0_ruler 6 m4) (fun x6 m5 => some (x6, m5)))))
set_option maxRecDepth 4000 in
theorem c_X3_rulerOfNextMonth {g : Cf} {m mm : Sg} {r : Int32} (hm : f_X3_rulerOfNextMonth  m  = some (r, mm)) : Cl g 4 yX3_rulerOfNextMonth cX3_rulerOfNextMonth 1 (some .int) [.ref (g.ad 23)] m (some (.int r)) mm := by
  refine cl_of (by decide) (Nat.le_of_ble_eq_true rfl) (vs := [some (.ref (g.ad 23))]) rfl rfl ?_
  show GX g 4 RX3 cX3_rulerOfNextMonth 1 (some .int) (some (.int r)) mm 0 _ [] m
  unfold f_X3_rulerOfNextMonth at hm
  refine g_aloadn_0 dX3_rulerOfNextMonth_0 ?_
  refine g_getr (q := 5) fo_3_1 pn_23 pc_23 rfl rfl dX3_rulerOfNextMonth_1 ?_
  refine g_v0V hm (fun _ h => c_X0_beginMonth cty_5 h) pn_5 (pc_5 _ _) rfl ce_X0_beginMonth lk_X3_71 rfl rfl dX3_rulerOfNextMonth_4 (fun m1 hm => ?_)
  refine g_aloadn_0 dX3_rulerOfNextMonth_7 ?_
  refine g_getr (q := 5) fo_3_1 pn_23 pc_23 rfl rfl dX3_rulerOfNextMonth_8 ?_
  refine g_aloadn_0 dX3_rulerOfNextMonth_11 ?_
  refine g_getr (q := 5) fo_3_1 pn_23 pc_23 rfl rfl dX3_rulerOfNextMonth_12 ?_
  refine g_v0 hm (fun _ _ h => c_X0_trier cty_5 h) pn_5 (pc_5 _ _) rfl ce_X0_trier lk_X3_74 rfl rfl dX3_rulerOfNextMonth_15 (fun x3 m2 hm => ?_)
  refine g_v1V hm (fun _ h => c_X0_crown cty_5 h) pn_5 (pc_5 _ _) rfl ce_X0_crown lk_X3_77 rfl rfl dX3_rulerOfNextMonth_18 (fun m4 hm => ?_)
  refine g_aloadn_0 dX3_rulerOfNextMonth_21 ?_
  refine g_getr (q := 5) fo_3_1 pn_23 pc_23 rfl rfl dX3_rulerOfNextMonth_22 ?_
  refine g_v0 hm (fun _ _ h => c_X0_ruler cty_5 h) pn_5 (pc_5 _ _) rfl ce_X0_ruler lk_X3_58 rfl rfl dX3_rulerOfNextMonth_25 (fun x6 m5 hm => ?_)
  exact g_iret hm dX3_rulerOfNextMonth_28
def f_X3_reignOfChild_L16 (a1 : Int32) (a2 : Int32) : (Sg × Int32 × Int32) → Option (((Sg × Int32)) ⊕ (Sg × Int32 × Int32)) := fun s => match s with
  | (m2, x3, x4) => 
  (if a2 ≤ x4 then some (.inl (m2, x3)) else
  cal (f_X3_rulerOfNextMonth m2) (fun x10 m9 => bnd (fun ((m11, x12) : Sg × Int32) => bnd (x3 + x12) (fun x14 => bnd (x4 + 1) (fun x15 => some (.inr (m11, x14, x15))))) (fun (k13 : Sg × Int32 → Option (((Sg × Int32)) ⊕ (Sg × Int32 × Int32))) =>
  (if x10 = a1 then k13 (m9, 1) else
  k13 (m9, 0)))))
def f_X3_reignOfChild  (m : Sg) (a1 : Int32) (a2 : Int32) : Option (Int32 × Sg) :=
  calv (f_X0_become 6 4 m) (fun m1 => lpk (f_X3_reignOfChild_L16 a1 a2) (m1, 0, 0) (fun ((m5, x6) : Sg × Int32) => some (x6, m5)))
set_option maxRecDepth 4000 in
theorem c_X3_reignOfChild {g : Cf} {m mm : Sg} {r : Int32} {a1 : Int32} {a2 : Int32} (hm : f_X3_reignOfChild  m a1 a2 = some (r, mm)) : Cl g 5 yX3_reignOfChild cX3_reignOfChild 5 (some .int) [.ref (g.ad 23), .int a1, .int a2] m (some (.int r)) mm := by
  refine cl_of (by decide) (Nat.le_of_ble_eq_true rfl) (vs := [some (.ref (g.ad 23)), some (.int a1), some (.int a2), none, none]) rfl rfl ?_
  show GX g 5 RX3 cX3_reignOfChild 5 (some .int) (some (.int r)) mm 0 _ [] m
  unfold f_X3_reignOfChild at hm
  refine g_aloadn_0 dX3_reignOfChild_0 ?_
  refine g_getr (q := 5) fo_3_1 pn_23 pc_23 rfl rfl dX3_reignOfChild_1 ?_
  refine g_aloadn_0 dX3_reignOfChild_4 ?_
  refine g_getr (q := 3) fo_3_0 pn_23 pc_23 rfl rfl dX3_reignOfChild_5 ?_
  refine g_v1V hm (fun _ h => c_X0_become cty_5 cty_3 h) pn_5 (pc_5 _ _) rfl ce_X0_become lk_X3_50 rfl rfl dX3_reignOfChild_8 (fun m1 hm => ?_)
  refine g_iconst 0 dX3_reignOfChild_11 rfl ?_
  refine g_istoren_3 dX3_reignOfChild_12 rfl ?_
  refine g_iconst 0 dX3_reignOfChild_13 rfl ?_
  refine g_istore_4 dX3_reignOfChild_14 rfl ?_
  refine g_lp (I := fun (s : Sg × Int32 × Int32) => GX g 5 RX3 cX3_reignOfChild 5 (some .int) (some (.int r)) mm 16 [some (.ref (g.ad 23)), some (.int a1), some (.int a2), some (.int (s.2.1)), some (.int (s.2.2))] [] s.1) (E := fun (s : Sg × Int32) => GX g 5 RX3 cX3_reignOfChild 5 (some .int) (some (.int r)) mm 44 [none, none, none, some (.int (s.2)), none] [] s.1) hm ?_ ?_
  · rintro ⟨m5, x6⟩ hm
    (try dsimp only at hm)
    (try dsimp only)
    refine g_iloadn_3 dX3_reignOfChild_44 ?_
    exact g_iret hm dX3_reignOfChild_45
  · rintro ⟨m2, x3, x4⟩ o hm hx8 hi7
    (try dsimp only [f_X3_reignOfChild_L16] at hm)
    (try dsimp only)
    refine g_iload_4 dX3_reignOfChild_16 ?_
    refine g_iloadn_2 dX3_reignOfChild_18 ?_
    refine g_icmp_ge 44 hm dX3_reignOfChild_19 (by decide) (fun hm => ?_) (fun hm => ?_)
    · refine g_weak (vs' := [none, none, none, some (.int x3), none]) ⟨rfl, trivial⟩ ?_
      cases hm
      exact hx8 _ rfl
    · refine g_iloadn_3 dX3_reignOfChild_22 ?_
      refine g_aloadn_0 dX3_reignOfChild_23 ?_
      refine g_v0 hm (fun _ _ h => c_X3_rulerOfNextMonth h) pn_23 (pc_23 _ _) rfl ce_X3_rulerOfNextMonth lk_X3_54 rfl rfl dX3_reignOfChild_24 (fun x10 m9 hm => ?_)
      refine g_iloadn_1 dX3_reignOfChild_27 ?_
      refine g_jn (J := fun (s : Sg × Int32) => GX g 5 RX3 cX3_reignOfChild 5 (some .int) (some (.int r)) mm 36 [some (.ref (g.ad 23)), some (.int a1), some (.int a2), none, some (.int x4)] [.int (s.2), .int x3] s.1) hm ?_ ?_
      · rintro ⟨m11, x12⟩ hm
        (try dsimp only at hm)
        (try dsimp only)
        refine g_iadd dX3_reignOfChild_36 ?_
        refine g_istoreBn_3 hm dX3_reignOfChild_37 rfl (fun x14 hm => ?_)
        refine g_iinc_4 1 hm dX3_reignOfChild_38 rfl rfl (fun x15 hm => ?_)
        refine g_goto 16 dX3_reignOfChild_41 (by decide) ?_
        cases hm
        exact hi7 _ rfl
      · intro k13 hk13 hm
        refine g_icmp_ne 35 hm dX3_reignOfChild_28 (by decide) (fun hm => ?_) (fun hm => ?_)
        · refine g_iconst 0 dX3_reignOfChild_35 rfl ?_
          refine g_weak (vs' := [some (.ref (g.ad 23)), some (.int a1), some (.int a2), none, some (.int x4)]) ⟨rfl, ⟨rfl, ⟨rfl, ⟨rfl, trivial⟩⟩⟩⟩ ?_
          exact hk13 _ hm
        · refine g_iconst 1 dX3_reignOfChild_31 rfl ?_
          refine g_goto 36 dX3_reignOfChild_32 (by decide) ?_
          refine g_weak (vs' := [some (.ref (g.ad 23)), some (.int a1), some (.int a2), none, some (.int x4)]) ⟨rfl, ⟨rfl, ⟨rfl, ⟨rfl, trivial⟩⟩⟩⟩ ?_
          exact hk13 _ hm
def f_X3_reignOfNursery_L16 (a1 : Int32) (a2 : Int32) : (Sg × Int32 × Int32) → Option (((Sg × Int32)) ⊕ (Sg × Int32 × Int32)) := fun s => match s with
  | (m2, x3, x4) => 
  (if a2 ≤ x4 then some (.inl (m2, x3)) else
  cal (f_X3_rulerOfNextMonth m2) (fun x10 m9 => cal (f_X0_isOfNursery 6 m9 x10 a1) (fun x12 m11 => bnd (fun ((m13, x14) : Sg × Int32) => bnd (x3 + x14) (fun x16 => bnd (x4 + 1) (fun x17 => some (.inr (m13, x16, x17))))) (fun (k15 : Sg × Int32 → Option (((Sg × Int32)) ⊕ (Sg × Int32 × Int32))) =>
  (if x12 = 0 then k15 (m11, 0) else
  k15 (m11, 1))))))
def f_X3_reignOfNursery  (m : Sg) (a1 : Int32) (a2 : Int32) : Option (Int32 × Sg) :=
  calv (f_X0_become 6 4 m) (fun m1 => lpk (f_X3_reignOfNursery_L16 a1 a2) (m1, 0, 0) (fun ((m5, x6) : Sg × Int32) => some (x6, m5)))
set_option maxRecDepth 4000 in
theorem c_X3_reignOfNursery {g : Cf} {m mm : Sg} {r : Int32} {a1 : Int32} {a2 : Int32} (hm : f_X3_reignOfNursery  m a1 a2 = some (r, mm)) : Cl g 5 yX3_reignOfNursery cX3_reignOfNursery 5 (some .int) [.ref (g.ad 23), .int a1, .int a2] m (some (.int r)) mm := by
  refine cl_of (by decide) (Nat.le_of_ble_eq_true rfl) (vs := [some (.ref (g.ad 23)), some (.int a1), some (.int a2), none, none]) rfl rfl ?_
  show GX g 5 RX3 cX3_reignOfNursery 5 (some .int) (some (.int r)) mm 0 _ [] m
  unfold f_X3_reignOfNursery at hm
  refine g_aloadn_0 dX3_reignOfNursery_0 ?_
  refine g_getr (q := 5) fo_3_1 pn_23 pc_23 rfl rfl dX3_reignOfNursery_1 ?_
  refine g_aloadn_0 dX3_reignOfNursery_4 ?_
  refine g_getr (q := 3) fo_3_0 pn_23 pc_23 rfl rfl dX3_reignOfNursery_5 ?_
  refine g_v1V hm (fun _ h => c_X0_become cty_5 cty_3 h) pn_5 (pc_5 _ _) rfl ce_X0_become lk_X3_50 rfl rfl dX3_reignOfNursery_8 (fun m1 hm => ?_)
  refine g_iconst 0 dX3_reignOfNursery_11 rfl ?_
  refine g_istoren_3 dX3_reignOfNursery_12 rfl ?_
  refine g_iconst 0 dX3_reignOfNursery_13 rfl ?_
  refine g_istore_4 dX3_reignOfNursery_14 rfl ?_
  refine g_lp (I := fun (s : Sg × Int32 × Int32) => GX g 5 RX3 cX3_reignOfNursery 5 (some .int) (some (.int r)) mm 16 [some (.ref (g.ad 23)), some (.int a1), some (.int a2), some (.int (s.2.1)), some (.int (s.2.2))] [] s.1) (E := fun (s : Sg × Int32) => GX g 5 RX3 cX3_reignOfNursery 5 (some .int) (some (.int r)) mm 51 [none, none, none, some (.int (s.2)), none] [] s.1) hm ?_ ?_
  · rintro ⟨m5, x6⟩ hm
    (try dsimp only at hm)
    (try dsimp only)
    refine g_iloadn_3 dX3_reignOfNursery_51 ?_
    exact g_iret hm dX3_reignOfNursery_52
  · rintro ⟨m2, x3, x4⟩ o hm hx8 hi7
    (try dsimp only [f_X3_reignOfNursery_L16] at hm)
    (try dsimp only)
    refine g_iload_4 dX3_reignOfNursery_16 ?_
    refine g_iloadn_2 dX3_reignOfNursery_18 ?_
    refine g_icmp_ge 51 hm dX3_reignOfNursery_19 (by decide) (fun hm => ?_) (fun hm => ?_)
    · refine g_weak (vs' := [none, none, none, some (.int x3), none]) ⟨rfl, trivial⟩ ?_
      cases hm
      exact hx8 _ rfl
    · refine g_iloadn_3 dX3_reignOfNursery_22 ?_
      refine g_aloadn_0 dX3_reignOfNursery_23 ?_
      refine g_getr (q := 5) fo_3_1 pn_23 pc_23 rfl rfl dX3_reignOfNursery_24 ?_
      refine g_aloadn_0 dX3_reignOfNursery_27 ?_
      refine g_v0 hm (fun _ _ h => c_X3_rulerOfNextMonth h) pn_23 (pc_23 _ _) rfl ce_X3_rulerOfNextMonth lk_X3_54 rfl rfl dX3_reignOfNursery_28 (fun x10 m9 hm => ?_)
      refine g_iloadn_1 dX3_reignOfNursery_31 ?_
      refine g_v2 hm (fun _ _ h => c_X0_isOfNursery cty_5 h) pn_5 (pc_5 _ _) rfl ce_X0_isOfNursery lk_X3_80 rfl rfl dX3_reignOfNursery_32 (fun x12 m11 hm => ?_)
      refine g_jn (J := fun (s : Sg × Int32) => GX g 5 RX3 cX3_reignOfNursery 5 (some .int) (some (.int r)) mm 43 [some (.ref (g.ad 23)), some (.int a1), some (.int a2), none, some (.int x4)] [.int (s.2), .int x3] s.1) hm ?_ ?_
      · rintro ⟨m13, x14⟩ hm
        (try dsimp only at hm)
        (try dsimp only)
        refine g_iadd dX3_reignOfNursery_43 ?_
        refine g_istoreBn_3 hm dX3_reignOfNursery_44 rfl (fun x16 hm => ?_)
        refine g_iinc_4 1 hm dX3_reignOfNursery_45 rfl rfl (fun x17 hm => ?_)
        refine g_goto 16 dX3_reignOfNursery_48 (by decide) ?_
        cases hm
        exact hi7 _ rfl
      · intro k15 hk15 hm
        refine g_if_eq 42 hm dX3_reignOfNursery_35 (by decide) (fun hm => ?_) (fun hm => ?_)
        · refine g_iconst 0 dX3_reignOfNursery_42 rfl ?_
          refine g_weak (vs' := [some (.ref (g.ad 23)), some (.int a1), some (.int a2), none, some (.int x4)]) ⟨rfl, ⟨rfl, ⟨rfl, ⟨rfl, trivial⟩⟩⟩⟩ ?_
          exact hk15 _ hm
        · refine g_iconst 1 dX3_reignOfNursery_38 rfl ?_
          refine g_goto 43 dX3_reignOfNursery_39 (by decide) ?_
          refine g_weak (vs' := [some (.ref (g.ad 23)), some (.int a1), some (.int a2), none, some (.int x4)]) ⟨rfl, ⟨rfl, ⟨rfl, ⟨rfl, trivial⟩⟩⟩⟩ ?_
          exact hk15 _ hm
def f_X3_monthsOfTrials_L13 (a1 : Int32) : (Sg × Int32) → Option (((Sg × Int32) ⊕ (Sg)) ⊕ (Sg × Int32)) := fun s => match s with
  | (m2, x3) => 
  (if a1 < x3 then some (.inl (.inr m2)) else
  cal (f_X0_trier 6 m2) (fun x10 m9 => (if x10 = (-1) then some (.inl (.inl (m9, x3))) else
  calv (f_X0_beginMonth 6 m9) (fun m11 => bnd (x3 + 1) (fun x12 => some (.inr (m11, x12)))))))
def f_X3_monthsOfTrials  (m : Sg) (a1 : Int32) : Option (Int32 × Sg) :=
  calv (f_X0_become 6 4 m) (fun m1 => lpk (f_X3_monthsOfTrials_L13 a1) (m1, 0) (fun x => match x with
  | .inl (m4, x5) => some (x5, m4)
  | .inr m6 => some ((-1), m6)))
set_option maxRecDepth 4000 in
theorem c_X3_monthsOfTrials {g : Cf} {m mm : Sg} {r : Int32} {a1 : Int32} (hm : f_X3_monthsOfTrials  m a1 = some (r, mm)) : Cl g 4 yX3_monthsOfTrials cX3_monthsOfTrials 3 (some .int) [.ref (g.ad 23), .int a1] m (some (.int r)) mm := by
  refine cl_of (by decide) (Nat.le_of_ble_eq_true rfl) (vs := [some (.ref (g.ad 23)), some (.int a1), none]) rfl rfl ?_
  show GX g 4 RX3 cX3_monthsOfTrials 3 (some .int) (some (.int r)) mm 0 _ [] m
  unfold f_X3_monthsOfTrials at hm
  refine g_aloadn_0 dX3_monthsOfTrials_0 ?_
  refine g_getr (q := 5) fo_3_1 pn_23 pc_23 rfl rfl dX3_monthsOfTrials_1 ?_
  refine g_aloadn_0 dX3_monthsOfTrials_4 ?_
  refine g_getr (q := 3) fo_3_0 pn_23 pc_23 rfl rfl dX3_monthsOfTrials_5 ?_
  refine g_v1V hm (fun _ h => c_X0_become cty_5 cty_3 h) pn_5 (pc_5 _ _) rfl ce_X0_become lk_X3_50 rfl rfl dX3_monthsOfTrials_8 (fun m1 hm => ?_)
  refine g_iconst 0 dX3_monthsOfTrials_11 rfl ?_
  refine g_istoren_2 dX3_monthsOfTrials_12 rfl ?_
  refine g_lp (I := fun (s : Sg × Int32) => GX g 4 RX3 cX3_monthsOfTrials 3 (some .int) (some (.int r)) mm 13 [some (.ref (g.ad 23)), some (.int a1), some (.int (s.2))] [] s.1) (E := fun (x : (Sg × Int32) ⊕ (Sg)) => match x with | .inl (m4, x5) => GX g 4 RX3 cX3_monthsOfTrials 3 (some .int) (some (.int r)) mm 29 [none, none, some (.int x5)] [] m4 | .inr m6 => GX g 4 RX3 cX3_monthsOfTrials 3 (some .int) (some (.int r)) mm 44 [none, none, none] [] m6) hm ?_ ?_
  · rintro (⟨m4, x5⟩ | m6) hm
    · (try dsimp only at hm)
      (try dsimp only)
      refine g_iloadn_2 dX3_monthsOfTrials_29 ?_
      exact g_iret hm dX3_monthsOfTrials_30
    · (try dsimp only at hm)
      (try dsimp only)
      refine g_iconst (-1) dX3_monthsOfTrials_44 rfl ?_
      exact g_iret hm dX3_monthsOfTrials_45
  · rintro ⟨m2, x3⟩ o hm hx8 hi7
    (try dsimp only [f_X3_monthsOfTrials_L13] at hm)
    (try dsimp only)
    refine g_iloadn_2 dX3_monthsOfTrials_13 ?_
    refine g_iloadn_1 dX3_monthsOfTrials_14 ?_
    refine g_icmp_gt 44 hm dX3_monthsOfTrials_15 (by decide) (fun hm => ?_) (fun hm => ?_)
    · refine g_weak (vs' := [none, none, none]) trivial ?_
      cases hm
      exact hx8 _ rfl
    · refine g_aloadn_0 dX3_monthsOfTrials_18 ?_
      refine g_getr (q := 5) fo_3_1 pn_23 pc_23 rfl rfl dX3_monthsOfTrials_19 ?_
      refine g_v0 hm (fun _ _ h => c_X0_trier cty_5 h) pn_5 (pc_5 _ _) rfl ce_X0_trier lk_X3_74 rfl rfl dX3_monthsOfTrials_22 (fun x10 m9 hm => ?_)
      refine g_iconst (-1) dX3_monthsOfTrials_25 rfl ?_
      refine g_icmp_ne 31 hm dX3_monthsOfTrials_26 (by decide) (fun hm => ?_) (fun hm => ?_)
      · refine g_aloadn_0 dX3_monthsOfTrials_31 ?_
        refine g_getr (q := 5) fo_3_1 pn_23 pc_23 rfl rfl dX3_monthsOfTrials_32 ?_
        refine g_v0V hm (fun _ h => c_X0_beginMonth cty_5 h) pn_5 (pc_5 _ _) rfl ce_X0_beginMonth lk_X3_71 rfl rfl dX3_monthsOfTrials_35 (fun m11 hm => ?_)
        refine g_iinc_2 1 hm dX3_monthsOfTrials_38 rfl rfl (fun x12 hm => ?_)
        refine g_goto 13 dX3_monthsOfTrials_41 (by decide) ?_
        cases hm
        exact hi7 _ rfl
      · refine g_weak (vs' := [none, none, some (.int x3)]) ⟨rfl, trivial⟩ ?_
        cases hm
        exact hx8 _ rfl
def f_X3_tenOfRow_L7 (a3 : Int32) : (Sg × Int32 × Int32) → Option (((Sg × Int32)) ⊕ (Sg × Int32 × Int32)) := fun s => match s with
  | (m2, x3, x4) => 
  (if x4 ≤ a3 then some (.inl (m2, x3)) else
  bnd (x3 / 10) (fun x9 => bnd (x4 + (-1)) (fun x10 => some (.inr (m2, x9, x10)))))
def f_X3_tenOfRow  (m : Sg) (a1 : Int32) (a2 : Int32) (a3 : Int32) : Option (Int32 × Sg) :=
  bnd (a2 - 1) (fun x1 => lpk (f_X3_tenOfRow_L7 a3) (m, a1, x1) (fun ((m5, x6) : Sg × Int32) => some (x6 - x6 / 10 * 10, m5)))
set_option maxRecDepth 4000 in
theorem c_X3_tenOfRow {g : Cf} {m mm : Sg} {r : Int32} {a1 : Int32} {a2 : Int32} {a3 : Int32} (hm : f_X3_tenOfRow  m a1 a2 a3 = some (r, mm)) : Cl g 0 yX3_tenOfRow cX3_tenOfRow 5 (some .int) [.int a1, .int a2, .int a3] m (some (.int r)) mm := by
  refine cl_of (by decide) (Nat.le_of_ble_eq_true rfl) (vs := [some (.int a1), some (.int a2), some (.int a3), none, none]) rfl rfl ?_
  show GX g 0 RX3 cX3_tenOfRow 5 (some .int) (some (.int r)) mm 0 _ [] m
  unfold f_X3_tenOfRow at hm
  refine g_iloadn_0 dX3_tenOfRow_0 ?_
  refine g_istoren_3 dX3_tenOfRow_1 rfl ?_
  refine g_iloadn_1 dX3_tenOfRow_2 ?_
  refine g_iconst 1 dX3_tenOfRow_3 rfl ?_
  refine g_isub dX3_tenOfRow_4 ?_
  refine g_istoreB_4 hm dX3_tenOfRow_5 rfl (fun x1 hm => ?_)
  refine g_weak (vs' := [none, none, some (.int a3), some (.int a1), some (.int x1)]) ⟨rfl, ⟨rfl, ⟨rfl, trivial⟩⟩⟩ ?_
  refine g_lp (I := fun (s : Sg × Int32 × Int32) => GX g 0 RX3 cX3_tenOfRow 5 (some .int) (some (.int r)) mm 7 [none, none, some (.int a3), some (.int (s.2.1)), some (.int (s.2.2))] [] s.1) (E := fun (s : Sg × Int32) => GX g 0 RX3 cX3_tenOfRow 5 (some .int) (some (.int r)) mm 24 [none, none, none, some (.int (s.2)), none] [] s.1) hm ?_ ?_
  · rintro ⟨m5, x6⟩ hm
    (try dsimp only at hm)
    (try dsimp only)
    refine g_iloadn_3 dX3_tenOfRow_24 ?_
    refine g_bipush 10 dX3_tenOfRow_25 rfl ?_
    refine g_irem dX3_tenOfRow_27 (by decide) ?_
    exact g_iret hm dX3_tenOfRow_28
  · rintro ⟨m2, x3, x4⟩ o hm hx8 hi7
    (try dsimp only [f_X3_tenOfRow_L7] at hm)
    (try dsimp only)
    refine g_iload_4 dX3_tenOfRow_7 ?_
    refine g_iloadn_2 dX3_tenOfRow_9 ?_
    refine g_icmp_le 24 hm dX3_tenOfRow_10 (by decide) (fun hm => ?_) (fun hm => ?_)
    · refine g_weak (vs' := [none, none, none, some (.int x3), none]) ⟨rfl, trivial⟩ ?_
      cases hm
      exact hx8 _ rfl
    · refine g_iloadn_3 dX3_tenOfRow_13 ?_
      refine g_bipush 10 dX3_tenOfRow_14 rfl ?_
      refine g_idiv dX3_tenOfRow_16 (by decide) ?_
      refine g_istoreBn_3 hm dX3_tenOfRow_17 rfl (fun x9 hm => ?_)
      refine g_iinc_4 (-1) hm dX3_tenOfRow_18 rfl rfl (fun x10 hm => ?_)
      refine g_goto 7 dX3_tenOfRow_21 (by decide) ?_
      cases hm
      exact hi7 _ rfl
def f_X3_foreseeOthers_L13 (a1 : Int32) (a2 : Int32) : (Sg × Int32) → Option (((Sg)) ⊕ (Sg × Int32)) := fun s => match s with
  | (m2, x3) => 
  (if a2 ≤ x3 then some (.inl m2) else
  (if 24 ≤ x3 then some (.inl m2) else
  (if 24 ≤ x3 then some (.inl m2) else
  calv (f_X0_beginMonth 6 m2) (fun m7 => cal (f_X0_trier 6 m7) (fun x9 m8 => bnd (fun ((m10, x11) : Sg × Int32) => if inr x3 24 = true then bnd (wr m10 24 x3.toNatClampNeg x11) (fun m13 => bnd (fun ((m14, x15) : Sg × Int32) => if inr x3 24 = true then bnd (wr m14 25 x3.toNatClampNeg x15) (fun m17 => bnd (x3 + 1) (fun x18 => some (.inr (m17, x18)))) else none) (fun (k16 : Sg × Int32 → Option (((Sg)) ⊕ (Sg × Int32))) =>
  (if x9 = (-1) then k16 (m13, (-1)) else
  cal (f_X0_askedBy 6 m13 x9) (fun x20 m19 => cal (f_X0_claimant 6 m19 x20 a1) (fun x22 m21 => k16 (m21, x22)))))) else none) (fun (k12 : Sg × Int32 → Option (((Sg)) ⊕ (Sg × Int32))) =>
  (if x9 = (-1) then k12 (m8, (-1)) else
  cal (f_X0_askedBy 6 m8 x9) (fun x24 m23 => cal (f_X0_askedOf 6 m23 a1 x24) (fun x26 m25 => k12 (m25, x26))))))))))
def f_X3_foreseeOthers  (m : Sg) (a1 : Int32) (a2 : Int32) : Option (Sg) :=
  calv (f_X0_become 6 4 m) (fun m1 => lpk (f_X3_foreseeOthers_L13 a1 a2) (m1, 0) (fun m4 => some m4))
set_option maxRecDepth 4000 in
theorem c_X3_foreseeOthers {g : Cf} {m mm : Sg} {a1 : Int32} {a2 : Int32} (hm : f_X3_foreseeOthers  m a1 a2 = some mm) : Cl g 4 yX3_foreseeOthers cX3_foreseeOthers 5 none [.ref (g.ad 23), .int a1, .int a2] m none mm := by
  refine cl_of (by decide) (Nat.le_of_ble_eq_true rfl) (vs := [some (.ref (g.ad 23)), some (.int a1), some (.int a2), none, none]) rfl rfl ?_
  show GX g 4 RX3 cX3_foreseeOthers 5 none none mm 0 _ [] m
  unfold f_X3_foreseeOthers at hm
  refine g_aloadn_0 dX3_foreseeOthers_0 ?_
  refine g_getr (q := 5) fo_3_1 pn_23 pc_23 rfl rfl dX3_foreseeOthers_1 ?_
  refine g_aloadn_0 dX3_foreseeOthers_4 ?_
  refine g_getr (q := 3) fo_3_0 pn_23 pc_23 rfl rfl dX3_foreseeOthers_5 ?_
  refine g_v1V hm (fun _ h => c_X0_become cty_5 cty_3 h) pn_5 (pc_5 _ _) rfl ce_X0_become lk_X3_50 rfl rfl dX3_foreseeOthers_8 (fun m1 hm => ?_)
  refine g_iconst 0 dX3_foreseeOthers_11 rfl ?_
  refine g_istoren_3 dX3_foreseeOthers_12 rfl ?_
  refine g_lp (I := fun (s : Sg × Int32) => GX g 4 RX3 cX3_foreseeOthers 5 none none mm 13 [some (.ref (g.ad 23)), some (.int a1), some (.int a2), some (.int (s.2)), none] [] s.1) (E := fun (s : Sg) => GX g 4 RX3 cX3_foreseeOthers 5 none none mm 124 [none, none, none, none, none] [] s) hm ?_ ?_
  · rintro m4 hm
    (try dsimp only at hm)
    (try dsimp only)
    exact g_vret hm dX3_foreseeOthers_124
  · rintro ⟨m2, x3⟩ o hm hx6 hi5
    (try dsimp only [f_X3_foreseeOthers_L13] at hm)
    (try dsimp only)
    refine g_iloadn_3 dX3_foreseeOthers_13 ?_
    refine g_iloadn_2 dX3_foreseeOthers_14 ?_
    refine g_icmp_ge 124 hm dX3_foreseeOthers_15 (by decide) (fun hm => ?_) (fun hm => ?_)
    · refine g_weak (vs' := [none, none, none, none, none]) trivial ?_
      cases hm
      exact hx6 _ rfl
    · refine g_iloadn_3 dX3_foreseeOthers_18 ?_
      refine g_aloadn_0 dX3_foreseeOthers_19 ?_
      refine g_getr (q := 24) fo_3_3 pn_23 pc_23 rfl rfl dX3_foreseeOthers_20 ?_
      refine g_alen (ty := .int) 24 ar_24.1 ar_24.2 rfl rfl dX3_foreseeOthers_23 ?_
      refine g_icmp_ge 124 hm dX3_foreseeOthers_24 (by decide) (fun hm => ?_) (fun hm => ?_)
      · refine g_weak (vs' := [none, none, none, none, none]) trivial ?_
        cases hm
        exact hx6 _ rfl
      · refine g_iloadn_3 dX3_foreseeOthers_27 ?_
        refine g_aloadn_0 dX3_foreseeOthers_28 ?_
        refine g_getr (q := 25) fo_3_4 pn_23 pc_23 rfl rfl dX3_foreseeOthers_29 ?_
        refine g_alen (ty := .int) 24 ar_25.1 ar_25.2 rfl rfl dX3_foreseeOthers_32 ?_
        refine g_icmp_ge 124 hm dX3_foreseeOthers_33 (by decide) (fun hm => ?_) (fun hm => ?_)
        · refine g_weak (vs' := [none, none, none, none, none]) trivial ?_
          cases hm
          exact hx6 _ rfl
        · refine g_aloadn_0 dX3_foreseeOthers_36 ?_
          refine g_getr (q := 5) fo_3_1 pn_23 pc_23 rfl rfl dX3_foreseeOthers_37 ?_
          refine g_v0V hm (fun _ h => c_X0_beginMonth cty_5 h) pn_5 (pc_5 _ _) rfl ce_X0_beginMonth lk_X3_71 rfl rfl dX3_foreseeOthers_40 (fun m7 hm => ?_)
          refine g_aloadn_0 dX3_foreseeOthers_43 ?_
          refine g_getr (q := 5) fo_3_1 pn_23 pc_23 rfl rfl dX3_foreseeOthers_44 ?_
          refine g_v0 hm (fun _ _ h => c_X0_trier cty_5 h) pn_5 (pc_5 _ _) rfl ce_X0_trier lk_X3_74 rfl rfl dX3_foreseeOthers_47 (fun x9 m8 hm => ?_)
          refine g_istore_4 dX3_foreseeOthers_50 rfl ?_
          refine g_aloadn_0 dX3_foreseeOthers_52 ?_
          refine g_getr (q := 24) fo_3_3 pn_23 pc_23 rfl rfl dX3_foreseeOthers_53 ?_
          refine g_iloadn_3 dX3_foreseeOthers_56 ?_
          refine g_iload_4 dX3_foreseeOthers_57 ?_
          refine g_iconst (-1) dX3_foreseeOthers_59 rfl ?_
          refine g_jn (J := fun (s : Sg × Int32) => GX g 4 RX3 cX3_foreseeOthers 5 none none mm 84 [some (.ref (g.ad 23)), some (.int a1), some (.int a2), some (.int x3), some (.int x9)] [.int (s.2), .int x3, .ref (g.ad 24)] s.1) hm ?_ ?_
          · rintro ⟨m10, x11⟩ hm
            (try dsimp only at hm)
            (try dsimp only)
            refine g_iastore hm ar_24.1 ar_24.2 dX3_foreseeOthers_84 (fun m13 hm => ?_)
            refine g_aloadn_0 dX3_foreseeOthers_85 ?_
            refine g_getr (q := 25) fo_3_4 pn_23 pc_23 rfl rfl dX3_foreseeOthers_86 ?_
            refine g_iloadn_3 dX3_foreseeOthers_89 ?_
            refine g_iload_4 dX3_foreseeOthers_90 ?_
            refine g_iconst (-1) dX3_foreseeOthers_92 rfl ?_
            refine g_jn (J := fun (s : Sg × Int32) => GX g 4 RX3 cX3_foreseeOthers 5 none none mm 117 [some (.ref (g.ad 23)), some (.int a1), some (.int a2), some (.int x3), none] [.int (s.2), .int x3, .ref (g.ad 25)] s.1) hm ?_ ?_
            · rintro ⟨m14, x15⟩ hm
              (try dsimp only at hm)
              (try dsimp only)
              refine g_iastore hm ar_25.1 ar_25.2 dX3_foreseeOthers_117 (fun m17 hm => ?_)
              refine g_iinc_3 1 hm dX3_foreseeOthers_118 rfl rfl (fun x18 hm => ?_)
              refine g_goto 13 dX3_foreseeOthers_121 (by decide) ?_
              cases hm
              exact hi5 _ rfl
            · intro k16 hk16 hm
              refine g_icmp_ne 100 hm dX3_foreseeOthers_93 (by decide) (fun hm => ?_) (fun hm => ?_)
              · refine g_aloadn_0 dX3_foreseeOthers_100 ?_
                refine g_getr (q := 5) fo_3_1 pn_23 pc_23 rfl rfl dX3_foreseeOthers_101 ?_
                refine g_aloadn_0 dX3_foreseeOthers_104 ?_
                refine g_getr (q := 5) fo_3_1 pn_23 pc_23 rfl rfl dX3_foreseeOthers_105 ?_
                refine g_iload_4 dX3_foreseeOthers_108 ?_
                refine g_v1 hm (fun _ _ h => c_X0_askedBy cty_5 h) pn_5 (pc_5 _ _) rfl ce_X0_askedBy lk_X3_121 rfl rfl dX3_foreseeOthers_110 (fun x20 m19 hm => ?_)
                refine g_iloadn_1 dX3_foreseeOthers_113 ?_
                refine g_v2 hm (fun _ _ h => c_X0_claimant cty_5 h) pn_5 (pc_5 _ _) rfl ce_X0_claimant lk_X3_127 rfl rfl dX3_foreseeOthers_114 (fun x22 m21 hm => ?_)
                refine g_weak (vs' := [some (.ref (g.ad 23)), some (.int a1), some (.int a2), some (.int x3), none]) ⟨rfl, ⟨rfl, ⟨rfl, ⟨rfl, trivial⟩⟩⟩⟩ ?_
                exact hk16 _ hm
              · refine g_iconst (-1) dX3_foreseeOthers_96 rfl ?_
                refine g_goto 117 dX3_foreseeOthers_97 (by decide) ?_
                refine g_weak (vs' := [some (.ref (g.ad 23)), some (.int a1), some (.int a2), some (.int x3), none]) ⟨rfl, ⟨rfl, ⟨rfl, ⟨rfl, trivial⟩⟩⟩⟩ ?_
                exact hk16 _ hm
          · intro k12 hk12 hm
            refine g_icmp_ne 67 hm dX3_foreseeOthers_60 (by decide) (fun hm => ?_) (fun hm => ?_)
            · refine g_aloadn_0 dX3_foreseeOthers_67 ?_
              refine g_getr (q := 5) fo_3_1 pn_23 pc_23 rfl rfl dX3_foreseeOthers_68 ?_
              refine g_iloadn_1 dX3_foreseeOthers_71 ?_
              refine g_aloadn_0 dX3_foreseeOthers_72 ?_
              refine g_getr (q := 5) fo_3_1 pn_23 pc_23 rfl rfl dX3_foreseeOthers_73 ?_
              refine g_iload_4 dX3_foreseeOthers_76 ?_
              refine g_v1 hm (fun _ _ h => c_X0_askedBy cty_5 h) pn_5 (pc_5 _ _) rfl ce_X0_askedBy lk_X3_121 rfl rfl dX3_foreseeOthers_78 (fun x24 m23 hm => ?_)
              refine g_v2 hm (fun _ _ h => c_X0_askedOf cty_5 h) pn_5 (pc_5 _ _) rfl ce_X0_askedOf lk_X3_124 rfl rfl dX3_foreseeOthers_81 (fun x26 m25 hm => ?_)
              exact hk12 _ hm
            · refine g_iconst (-1) dX3_foreseeOthers_63 rfl ?_
              refine g_goto 84 dX3_foreseeOthers_64 (by decide) ?_
              exact hk12 _ hm
def f_X3_monthsByRow_L60 (a1 : Int32) (a2 : Int32) (a3 : Int32) (a4 : Int32) (x4 : Int32) (x9 : Int32) : (Sg × Int32 × Int32 × Int32 × Int32 × Int32) → Option (((Sg × Int32)) ⊕ (Sg × Int32 × Int32 × Int32 × Int32 × Int32)) := fun s => match s with
  | (m12, x13, x14, x15, x16, x17) => 
  (if a2 ≤ x17 then some (.inl (m12, x15)) else
  (if 24 ≤ x17 then some (.inl (m12, x15)) else
  (if 24 ≤ x17 then some (.inl (m12, x15)) else
  bnd (x17 + 1) (fun x22 => bnd (fun ((m23, x24, x25) : Sg × Int32 × Int32) => if inr x17 24 = true then bnd (m23.1 25 x17.toNatClampNeg) (fun x27 => if inr x17 24 = true then bnd (fun ((m28, x29) : Sg × Int32) => bnd (fun ((m31, x32) : Sg × Int32) => cal (f_X0_rulerBehind 4 m31 x14 x32 x22) (fun x35 m34 => bnd (fun ((m36, x37) : Sg × Int32) => bnd (x15 + x37) (fun x39 => bnd (x17 + 1) (fun x40 => some (.inr (m36, x24, x35, x39, x25, x40))))) (fun (k38 : Sg × Int32 → Option (((Sg × Int32)) ⊕ (Sg × Int32 × Int32 × Int32 × Int32 × Int32))) =>
  (if x35 = a1 then k38 (m34, 1) else
  k38 (m34, 0))))) (fun (k33 : Sg × Int32 → Option (((Sg × Int32)) ⊕ (Sg × Int32 × Int32 × Int32 × Int32 × Int32))) =>
  (if x29 = 0 then k33 (m28, x27) else
  bnd (fun (m41 : Sg) => k33 (m41, a1)) (fun (k42 : Sg → Option (((Sg × Int32)) ⊕ (Sg × Int32 × Int32 × Int32 × Int32 × Int32))) =>
  (if x27 = (-1) then k42 m28 else
  cal (f_X0_goesFirst 4 m28 a1 x27) (fun x44 m43 => (if x44 = 0 then k33 (m43, x27) else
  k42 m43))))))) (fun (k30 : Sg × Int32 → Option (((Sg × Int32)) ⊕ (Sg × Int32 × Int32 × Int32 × Int32 × Int32))) =>
  bnd (fun (m45 : Sg) => k30 (m45, 0)) (fun (k46 : Sg → Option (((Sg × Int32)) ⊕ (Sg × Int32 × Int32 × Int32 × Int32 × Int32))) =>
  (if (m23.1 24 x17.toNatClampNeg) = (-1) then k46 m23 else
  if inr x17 24 = true then (if ((m23.1 24 x17.toNatClampNeg) &&& (x24 ^^^ (-1))) = 0 then (if x9 ≤ x22 then k46 m23 else
  k30 (m23, 1)) else
  k46 m23) else none))) else none) else none) (fun (k26 : Sg × Int32 × Int32 → Option (((Sg × Int32)) ⊕ (Sg × Int32 × Int32 × Int32 × Int32 × Int32))) =>
  (if a4 ≤ x16 then k26 (m12, x13, x16) else
  (if x22 = (x4 * (x16 + 1)) then cal (f_X3_tenOfRow m12 a3 a4 x16) (fun x48 m47 => bnd (x13 ||| (1 <<< (x48 &&& 31))) (fun x49 => bnd (x16 + 1) (fun x50 => k26 (m47, x49, x50)))) else
  k26 (m12, x13, x16))))))))
def f_X3_monthsByRow  (m : Sg) (a1 : Int32) (a2 : Int32) (a3 : Int32) (a4 : Int32) : Option (Int32 × Sg) :=
  cal (f_X0_rightOf 4 m a1) (fun x2 m1 => cal (f_X0_kid 4 m1 a1 4) (fun x4 m3 => cal (f_X0_cell 4 m3 92) (fun x6 m5 => cal (f_X0_kid 4 m5 a1 0) (fun x8 m7 => bnd (x6 - x8) (fun x9 => cal (f_X0_ruler 4 m7) (fun x11 m10 => lpk (f_X3_monthsByRow_L60 a1 a2 a3 a4 x4 x9) (m10, x2, x11, 0, 0, 0) (fun ((m18, x19) : Sg × Int32) => some (x19, m18))))))))
set_option maxRecDepth 4000 in
theorem c_X3_monthsByRow {g : Cf} {m mm : Sg} {r : Int32} {a1 : Int32} {a2 : Int32} {a3 : Int32} {a4 : Int32} (hm : f_X3_monthsByRow  m a1 a2 a3 a4 = some (r, mm)) : Cl g 3 yX3_monthsByRow cX3_monthsByRow 15 (some .int) [.ref (g.ad 23), .int a1, .int a2, .int a3, .int a4] m (some (.int r)) mm := by
  refine cl_of (by decide) (Nat.le_of_ble_eq_true rfl) (vs := [some (.ref (g.ad 23)), some (.int a1), some (.int a2), some (.int a3), some (.int a4), none, none, none, none, none, none, none, none, none, none]) rfl rfl ?_
  show GX g 3 RX3 cX3_monthsByRow 15 (some .int) (some (.int r)) mm 0 _ [] m
  unfold f_X3_monthsByRow at hm
  refine g_aloadn_0 dX3_monthsByRow_0 ?_
  refine g_getr (q := 3) fo_3_0 pn_23 pc_23 rfl rfl dX3_monthsByRow_1 ?_
  refine g_iloadn_1 dX3_monthsByRow_4 ?_
  refine g_v1 hm (fun _ _ h => c_X0_rightOf cty_3 h) pn_3 (pc_3 _ _) rfl ce_X0_rightOf lk_X3_102 rfl rfl dX3_monthsByRow_5 (fun x2 m1 hm => ?_)
  refine g_istore_5 dX3_monthsByRow_8 rfl ?_
  refine g_aloadn_0 dX3_monthsByRow_10 ?_
  refine g_getr (q := 3) fo_3_0 pn_23 pc_23 rfl rfl dX3_monthsByRow_11 ?_
  refine g_iloadn_1 dX3_monthsByRow_14 ?_
  refine g_iconst 4 dX3_monthsByRow_15 rfl ?_
  refine g_v2 hm (fun _ _ h => c_X0_kid cty_3 h) pn_3 (pc_3 _ _) rfl ce_X0_kid lk_X3_105 rfl rfl dX3_monthsByRow_16 (fun x4 m3 hm => ?_)
  refine g_istore_6 dX3_monthsByRow_19 rfl ?_
  refine g_aloadn_0 dX3_monthsByRow_21 ?_
  refine g_getr (q := 3) fo_3_0 pn_23 pc_23 rfl rfl dX3_monthsByRow_22 ?_
  refine g_bipush 92 dX3_monthsByRow_25 rfl ?_
  refine g_v1 hm (fun _ _ h => c_X0_cell cty_3 h) pn_3 (pc_3 _ _) rfl ce_X0_cell lk_X3_88 rfl rfl dX3_monthsByRow_27 (fun x6 m5 hm => ?_)
  refine g_aloadn_0 dX3_monthsByRow_30 ?_
  refine g_getr (q := 3) fo_3_0 pn_23 pc_23 rfl rfl dX3_monthsByRow_31 ?_
  refine g_iloadn_1 dX3_monthsByRow_34 ?_
  refine g_iconst 0 dX3_monthsByRow_35 rfl ?_
  refine g_v2 hm (fun _ _ h => c_X0_kid cty_3 h) pn_3 (pc_3 _ _) rfl ce_X0_kid lk_X3_105 rfl rfl dX3_monthsByRow_36 (fun x8 m7 hm => ?_)
  refine g_isub dX3_monthsByRow_39 ?_
  refine g_istoreB_7 hm dX3_monthsByRow_40 rfl (fun x9 hm => ?_)
  refine g_aloadn_0 dX3_monthsByRow_42 ?_
  refine g_getr (q := 3) fo_3_0 pn_23 pc_23 rfl rfl dX3_monthsByRow_43 ?_
  refine g_v0 hm (fun _ _ h => c_X0_ruler cty_3 h) pn_3 (pc_3 _ _) rfl ce_X0_ruler lk_X3_58 rfl rfl dX3_monthsByRow_46 (fun x11 m10 hm => ?_)
  refine g_istore_8 dX3_monthsByRow_49 rfl ?_
  refine g_iconst 0 dX3_monthsByRow_51 rfl ?_
  refine g_istore_9 dX3_monthsByRow_52 rfl ?_
  refine g_iconst 0 dX3_monthsByRow_54 rfl ?_
  refine g_istore_10 dX3_monthsByRow_55 rfl ?_
  refine g_iconst 0 dX3_monthsByRow_57 rfl ?_
  refine g_istore_11 dX3_monthsByRow_58 rfl ?_
  refine g_lp (I := fun (s : Sg × Int32 × Int32 × Int32 × Int32 × Int32) => GX g 3 RX3 cX3_monthsByRow 15 (some .int) (some (.int r)) mm 60 [some (.ref (g.ad 23)), some (.int a1), some (.int a2), some (.int a3), some (.int a4), some (.int (s.2.1)), some (.int x4), some (.int x9), some (.int (s.2.2.1)), some (.int (s.2.2.2.1)), some (.int (s.2.2.2.2.1)), some (.int (s.2.2.2.2.2)), none, none, none] [] s.1) (E := fun (s : Sg × Int32) => GX g 3 RX3 cX3_monthsByRow 15 (some .int) (some (.int r)) mm 242 [none, none, none, none, none, none, none, none, none, some (.int (s.2)), none, none, none, none, none] [] s.1) hm ?_ ?_
  · rintro ⟨m18, x19⟩ hm
    (try dsimp only at hm)
    (try dsimp only)
    refine g_iload_9 dX3_monthsByRow_242 ?_
    exact g_iret hm dX3_monthsByRow_244
  · rintro ⟨m12, x13, x14, x15, x16, x17⟩ o hm hx21 hi20
    (try dsimp only [f_X3_monthsByRow_L60] at hm)
    (try dsimp only)
    refine g_iload_11 dX3_monthsByRow_60 ?_
    refine g_iloadn_2 dX3_monthsByRow_62 ?_
    refine g_icmp_ge 242 hm dX3_monthsByRow_63 (by decide) (fun hm => ?_) (fun hm => ?_)
    · refine g_weak (vs' := [none, none, none, none, none, none, none, none, none, some (.int x15), none, none, none, none, none]) ⟨rfl, trivial⟩ ?_
      cases hm
      exact hx21 _ rfl
    · refine g_iload_11 dX3_monthsByRow_66 ?_
      refine g_aloadn_0 dX3_monthsByRow_68 ?_
      refine g_getr (q := 24) fo_3_3 pn_23 pc_23 rfl rfl dX3_monthsByRow_69 ?_
      refine g_alen (ty := .int) 24 ar_24.1 ar_24.2 rfl rfl dX3_monthsByRow_72 ?_
      refine g_icmp_ge 242 hm dX3_monthsByRow_73 (by decide) (fun hm => ?_) (fun hm => ?_)
      · refine g_weak (vs' := [none, none, none, none, none, none, none, none, none, some (.int x15), none, none, none, none, none]) ⟨rfl, trivial⟩ ?_
        cases hm
        exact hx21 _ rfl
      · refine g_iload_11 dX3_monthsByRow_76 ?_
        refine g_aloadn_0 dX3_monthsByRow_78 ?_
        refine g_getr (q := 25) fo_3_4 pn_23 pc_23 rfl rfl dX3_monthsByRow_79 ?_
        refine g_alen (ty := .int) 24 ar_25.1 ar_25.2 rfl rfl dX3_monthsByRow_82 ?_
        refine g_icmp_ge 242 hm dX3_monthsByRow_83 (by decide) (fun hm => ?_) (fun hm => ?_)
        · refine g_weak (vs' := [none, none, none, none, none, none, none, none, none, some (.int x15), none, none, none, none, none]) ⟨rfl, trivial⟩ ?_
          cases hm
          exact hx21 _ rfl
        · refine g_iload_11 dX3_monthsByRow_86 ?_
          refine g_iconst 1 dX3_monthsByRow_88 rfl ?_
          refine g_iadd dX3_monthsByRow_89 ?_
          refine g_istoreB_12 hm dX3_monthsByRow_90 rfl (fun x22 hm => ?_)
          refine g_iload_10 dX3_monthsByRow_92 ?_
          refine g_iload_4 dX3_monthsByRow_94 ?_
          refine g_jn (J := fun (s : Sg × Int32 × Int32) => GX g 3 RX3 cX3_monthsByRow 15 (some .int) (some (.int r)) mm 129 [some (.ref (g.ad 23)), some (.int a1), some (.int a2), some (.int a3), some (.int a4), some (.int (s.2.1)), some (.int x4), some (.int x9), some (.int x14), some (.int x15), some (.int (s.2.2)), some (.int x17), some (.int x22), none, none] [] s.1) hm ?_ ?_
          · rintro ⟨m23, x24, x25⟩ hm
            (try dsimp only at hm)
            (try dsimp only)
            refine g_aloadn_0 dX3_monthsByRow_129 ?_
            refine g_getr (q := 25) fo_3_4 pn_23 pc_23 rfl rfl dX3_monthsByRow_130 ?_
            refine g_iload_11 dX3_monthsByRow_133 ?_
            refine g_iaload hm ar_25.1 ar_25.2 dX3_monthsByRow_135 (fun hm => ?_)
            refine g_istoreB_13 hm dX3_monthsByRow_136 rfl (fun x27 hm => ?_)
            refine g_aloadn_0 dX3_monthsByRow_138 ?_
            refine g_getr (q := 24) fo_3_3 pn_23 pc_23 rfl rfl dX3_monthsByRow_139 ?_
            refine g_iload_11 dX3_monthsByRow_142 ?_
            refine g_iaload hm ar_24.1 ar_24.2 dX3_monthsByRow_144 (fun hm => ?_)
            refine g_iconst (-1) dX3_monthsByRow_145 rfl ?_
            refine g_jn (J := fun (s : Sg × Int32) => GX g 3 RX3 cX3_monthsByRow 15 (some .int) (some (.int r)) mm 176 [some (.ref (g.ad 23)), some (.int a1), some (.int a2), some (.int a3), some (.int a4), some (.int x24), some (.int x4), some (.int x9), some (.int x14), some (.int x15), some (.int x25), some (.int x17), some (.int x22), some (.int x27), none] [.int (s.2)] s.1) hm ?_ ?_
            · rintro ⟨m28, x29⟩ hm
              (try dsimp only at hm)
              (try dsimp only)
              refine g_istore_14 dX3_monthsByRow_176 rfl ?_
              refine g_iload_14 dX3_monthsByRow_178 ?_
              refine g_jn (J := fun (s : Sg × Int32) => GX g 3 RX3 cX3_monthsByRow 15 (some .int) (some (.int r)) mm 205 [some (.ref (g.ad 23)), some (.int a1), some (.int a2), some (.int a3), some (.int a4), some (.int x24), some (.int x4), some (.int x9), some (.int x14), some (.int x15), some (.int x25), some (.int x17), some (.int x22), some (.int (s.2)), none] [] s.1) hm ?_ ?_
              · rintro ⟨m31, x32⟩ hm
                (try dsimp only at hm)
                (try dsimp only)
                refine g_aloadn_0 dX3_monthsByRow_205 ?_
                refine g_getr (q := 3) fo_3_0 pn_23 pc_23 rfl rfl dX3_monthsByRow_206 ?_
                refine g_iload_8 dX3_monthsByRow_209 ?_
                refine g_iload_13 dX3_monthsByRow_211 ?_
                refine g_iload_12 dX3_monthsByRow_213 ?_
                refine g_v3 hm (fun _ _ h => c_X0_rulerBehind cty_3 h) pn_3 (pc_3 _ _) rfl ce_X0_rulerBehind lk_X3_133 rfl rfl dX3_monthsByRow_215 (fun x35 m34 hm => ?_)
                refine g_istore_8 dX3_monthsByRow_218 rfl ?_
                refine g_iload_9 dX3_monthsByRow_220 ?_
                refine g_iload_8 dX3_monthsByRow_222 ?_
                refine g_iloadn_1 dX3_monthsByRow_224 ?_
                refine g_jn (J := fun (s : Sg × Int32) => GX g 3 RX3 cX3_monthsByRow 15 (some .int) (some (.int r)) mm 233 [some (.ref (g.ad 23)), some (.int a1), some (.int a2), some (.int a3), some (.int a4), some (.int x24), some (.int x4), some (.int x9), some (.int x35), none, some (.int x25), some (.int x17), none, none, none] [.int (s.2), .int x15] s.1) hm ?_ ?_
                · rintro ⟨m36, x37⟩ hm
                  (try dsimp only at hm)
                  (try dsimp only)
                  refine g_iadd dX3_monthsByRow_233 ?_
                  refine g_istoreB_9 hm dX3_monthsByRow_234 rfl (fun x39 hm => ?_)
                  refine g_iinc_11 1 hm dX3_monthsByRow_236 rfl rfl (fun x40 hm => ?_)
                  refine g_goto 60 dX3_monthsByRow_239 (by decide) ?_
                  cases hm
                  exact hi20 _ rfl
                · intro k38 hk38 hm
                  refine g_icmp_ne 232 hm dX3_monthsByRow_225 (by decide) (fun hm => ?_) (fun hm => ?_)
                  · refine g_iconst 0 dX3_monthsByRow_232 rfl ?_
                    refine g_weak (vs' := [some (.ref (g.ad 23)), some (.int a1), some (.int a2), some (.int a3), some (.int a4), some (.int x24), some (.int x4), some (.int x9), some (.int x35), none, some (.int x25), some (.int x17), none, none, none]) ⟨rfl, ⟨rfl, ⟨rfl, ⟨rfl, ⟨rfl, ⟨rfl, ⟨rfl, ⟨rfl, ⟨rfl, ⟨rfl, ⟨rfl, trivial⟩⟩⟩⟩⟩⟩⟩⟩⟩⟩⟩ ?_
                    exact hk38 _ hm
                  · refine g_iconst 1 dX3_monthsByRow_228 rfl ?_
                    refine g_goto 233 dX3_monthsByRow_229 (by decide) ?_
                    refine g_weak (vs' := [some (.ref (g.ad 23)), some (.int a1), some (.int a2), some (.int a3), some (.int a4), some (.int x24), some (.int x4), some (.int x9), some (.int x35), none, some (.int x25), some (.int x17), none, none, none]) ⟨rfl, ⟨rfl, ⟨rfl, ⟨rfl, ⟨rfl, ⟨rfl, ⟨rfl, ⟨rfl, ⟨rfl, ⟨rfl, ⟨rfl, trivial⟩⟩⟩⟩⟩⟩⟩⟩⟩⟩⟩ ?_
                    exact hk38 _ hm
              · intro k33 hk33 hm
                refine g_if_eq 205 hm dX3_monthsByRow_180 (by decide) (fun hm => ?_) (fun hm => ?_)
                · refine g_weak (vs' := [some (.ref (g.ad 23)), some (.int a1), some (.int a2), some (.int a3), some (.int a4), some (.int x24), some (.int x4), some (.int x9), some (.int x14), some (.int x15), some (.int x25), some (.int x17), some (.int x22), some (.int x27), none]) ⟨rfl, ⟨rfl, ⟨rfl, ⟨rfl, ⟨rfl, ⟨rfl, ⟨rfl, ⟨rfl, ⟨rfl, ⟨rfl, ⟨rfl, ⟨rfl, ⟨rfl, ⟨rfl, trivial⟩⟩⟩⟩⟩⟩⟩⟩⟩⟩⟩⟩⟩⟩ ?_
                  exact hk33 _ hm
                · refine g_iload_13 dX3_monthsByRow_183 ?_
                  refine g_iconst (-1) dX3_monthsByRow_185 rfl ?_
                  refine g_jn (J := fun (s : Sg) => GX g 3 RX3 cX3_monthsByRow 15 (some .int) (some (.int r)) mm 202 [some (.ref (g.ad 23)), some (.int a1), some (.int a2), some (.int a3), some (.int a4), some (.int x24), some (.int x4), some (.int x9), some (.int x14), some (.int x15), some (.int x25), some (.int x17), some (.int x22), none, none] [] s) hm ?_ ?_
                  · intro m41 hm
                    refine g_iloadn_1 dX3_monthsByRow_202 ?_
                    refine g_istore_13 dX3_monthsByRow_203 rfl ?_
                    exact hk33 _ hm
                  · intro k42 hk42 hm
                    refine g_icmp_eq 202 hm dX3_monthsByRow_186 (by decide) (fun hm => ?_) (fun hm => ?_)
                    · refine g_weak (vs' := [some (.ref (g.ad 23)), some (.int a1), some (.int a2), some (.int a3), some (.int a4), some (.int x24), some (.int x4), some (.int x9), some (.int x14), some (.int x15), some (.int x25), some (.int x17), some (.int x22), none, none]) ⟨rfl, ⟨rfl, ⟨rfl, ⟨rfl, ⟨rfl, ⟨rfl, ⟨rfl, ⟨rfl, ⟨rfl, ⟨rfl, ⟨rfl, ⟨rfl, ⟨rfl, trivial⟩⟩⟩⟩⟩⟩⟩⟩⟩⟩⟩⟩⟩ ?_
                      exact hk42 _ hm
                    · refine g_aloadn_0 dX3_monthsByRow_189 ?_
                      refine g_getr (q := 3) fo_3_0 pn_23 pc_23 rfl rfl dX3_monthsByRow_190 ?_
                      refine g_iloadn_1 dX3_monthsByRow_193 ?_
                      refine g_iload_13 dX3_monthsByRow_194 ?_
                      refine g_v2 hm (fun _ _ h => c_X0_goesFirst cty_3 h) pn_3 (pc_3 _ _) rfl ce_X0_goesFirst lk_X3_130 rfl rfl dX3_monthsByRow_196 (fun x44 m43 hm => ?_)
                      refine g_if_eq 205 hm dX3_monthsByRow_199 (by decide) (fun hm => ?_) (fun hm => ?_)
                      · refine g_weak (vs' := [some (.ref (g.ad 23)), some (.int a1), some (.int a2), some (.int a3), some (.int a4), some (.int x24), some (.int x4), some (.int x9), some (.int x14), some (.int x15), some (.int x25), some (.int x17), some (.int x22), some (.int x27), none]) ⟨rfl, ⟨rfl, ⟨rfl, ⟨rfl, ⟨rfl, ⟨rfl, ⟨rfl, ⟨rfl, ⟨rfl, ⟨rfl, ⟨rfl, ⟨rfl, ⟨rfl, ⟨rfl, trivial⟩⟩⟩⟩⟩⟩⟩⟩⟩⟩⟩⟩⟩⟩ ?_
                        exact hk33 _ hm
                      · refine g_weak (vs' := [some (.ref (g.ad 23)), some (.int a1), some (.int a2), some (.int a3), some (.int a4), some (.int x24), some (.int x4), some (.int x9), some (.int x14), some (.int x15), some (.int x25), some (.int x17), some (.int x22), none, none]) ⟨rfl, ⟨rfl, ⟨rfl, ⟨rfl, ⟨rfl, ⟨rfl, ⟨rfl, ⟨rfl, ⟨rfl, ⟨rfl, ⟨rfl, ⟨rfl, ⟨rfl, trivial⟩⟩⟩⟩⟩⟩⟩⟩⟩⟩⟩⟩⟩ ?_
                        exact hk42 _ hm
            · intro k30 hk30 hm
              refine g_jn (J := fun (s : Sg) => GX g 3 RX3 cX3_monthsByRow 15 (some .int) (some (.int r)) mm 175 [some (.ref (g.ad 23)), some (.int a1), some (.int a2), some (.int a3), some (.int a4), some (.int x24), some (.int x4), some (.int x9), some (.int x14), some (.int x15), some (.int x25), some (.int x17), some (.int x22), some (.int x27), none] [] s) hm ?_ ?_
              · intro m45 hm
                refine g_iconst 0 dX3_monthsByRow_175 rfl ?_
                exact hk30 _ hm
              · intro k46 hk46 hm
                refine g_icmp_eq 175 hm dX3_monthsByRow_146 (by decide) (fun hm => ?_) (fun hm => ?_)
                · exact hk46 _ hm
                · refine g_aloadn_0 dX3_monthsByRow_149 ?_
                  refine g_getr (q := 24) fo_3_3 pn_23 pc_23 rfl rfl dX3_monthsByRow_150 ?_
                  refine g_iload_11 dX3_monthsByRow_153 ?_
                  refine g_iaload hm ar_24.1 ar_24.2 dX3_monthsByRow_155 (fun hm => ?_)
                  refine g_iload_5 dX3_monthsByRow_156 ?_
                  refine g_iconst (-1) dX3_monthsByRow_158 rfl ?_
                  refine g_ixor dX3_monthsByRow_159 ?_
                  refine g_iand dX3_monthsByRow_160 ?_
                  refine g_if_ne 175 hm dX3_monthsByRow_161 (by decide) (fun hm => ?_) (fun hm => ?_)
                  · exact hk46 _ hm
                  · refine g_iload_12 dX3_monthsByRow_164 ?_
                    refine g_iload_7 dX3_monthsByRow_166 ?_
                    refine g_icmp_ge 175 hm dX3_monthsByRow_168 (by decide) (fun hm => ?_) (fun hm => ?_)
                    · exact hk46 _ hm
                    · refine g_iconst 1 dX3_monthsByRow_171 rfl ?_
                      refine g_goto 176 dX3_monthsByRow_172 (by decide) ?_
                      exact hk30 _ hm
          · intro k26 hk26 hm
            refine g_icmp_ge 129 hm dX3_monthsByRow_96 (by decide) (fun hm => ?_) (fun hm => ?_)
            · exact hk26 _ hm
            · refine g_iload_12 dX3_monthsByRow_99 ?_
              refine g_iload_6 dX3_monthsByRow_101 ?_
              refine g_iload_10 dX3_monthsByRow_103 ?_
              refine g_iconst 1 dX3_monthsByRow_105 rfl ?_
              refine g_iadd dX3_monthsByRow_106 ?_
              refine g_imul dX3_monthsByRow_107 ?_
              refine g_icmp_ne 129 hm dX3_monthsByRow_108 (by decide) (fun hm => ?_) (fun hm => ?_)
              · exact hk26 _ hm
              · refine g_iload_5 dX3_monthsByRow_111 ?_
                refine g_iconst 1 dX3_monthsByRow_113 rfl ?_
                refine g_iloadn_3 dX3_monthsByRow_114 ?_
                refine g_iload_4 dX3_monthsByRow_115 ?_
                refine g_iload_10 dX3_monthsByRow_117 ?_
                refine g_s3 hm (fun _ _ h => c_X3_tenOfRow h) ce_X3_tenOfRow lk_X3_117 rfl rfl dX3_monthsByRow_119 (fun x48 m47 hm => ?_)
                refine g_ishl dX3_monthsByRow_122 ?_
                refine g_ior dX3_monthsByRow_123 ?_
                refine g_istoreB_5 hm dX3_monthsByRow_124 rfl (fun x49 hm => ?_)
                refine g_iinc_10 1 hm dX3_monthsByRow_126 rfl rfl (fun x50 hm => ?_)
                exact hk26 _ hm
def f_X3_othersLearning_L5 (a1 : Int32) (a2 : Int32) : (Sg × Int32 × Int32) → Option (((Sg × Int32)) ⊕ (Sg × Int32 × Int32)) := fun s => match s with
  | (m1, x2, x3) => 
  cal (f_X0_children 4 m1) (fun x9 m8 => (if x9 ≤ x3 then some (.inl (m8, x2)) else
  bnd (fun ((m10, x11) : Sg × Int32) => bnd (x3 + 1) (fun x13 => some (.inr (m10, x11, x13)))) (fun (k12 : Sg × Int32 → Option (((Sg × Int32)) ⊕ (Sg × Int32 × Int32))) =>
  (if x3 = a1 then k12 (m8, x2) else
  cal (f_X0_kid 4 m8 x3 6) (fun x15 m14 => (if x15 = a2 then bnd (x2 ||| (1 <<< (x3 &&& 31))) (fun x16 => k12 (m14, x16)) else
  k12 (m14, x2)))))))
def f_X3_othersLearning  (m : Sg) (a1 : Int32) (a2 : Int32) : Option (Int32 × Sg) :=
  lpk (f_X3_othersLearning_L5 a1 a2) (m, 0, 0) (fun ((m4, x5) : Sg × Int32) => some (x5, m4))
set_option maxRecDepth 4000 in
theorem c_X3_othersLearning {g : Cf} {m mm : Sg} {r : Int32} {a1 : Int32} {a2 : Int32} (hm : f_X3_othersLearning  m a1 a2 = some (r, mm)) : Cl g 1 yX3_othersLearning cX3_othersLearning 5 (some .int) [.ref (g.ad 23), .int a1, .int a2] m (some (.int r)) mm := by
  refine cl_of (by decide) (Nat.le_of_ble_eq_true rfl) (vs := [some (.ref (g.ad 23)), some (.int a1), some (.int a2), none, none]) rfl rfl ?_
  show GX g 1 RX3 cX3_othersLearning 5 (some .int) (some (.int r)) mm 0 _ [] m
  unfold f_X3_othersLearning at hm
  refine g_iconst 0 dX3_othersLearning_0 rfl ?_
  refine g_istoren_3 dX3_othersLearning_1 rfl ?_
  refine g_iconst 0 dX3_othersLearning_2 rfl ?_
  refine g_istore_4 dX3_othersLearning_3 rfl ?_
  refine g_lp (I := fun (s : Sg × Int32 × Int32) => GX g 1 RX3 cX3_othersLearning 5 (some .int) (some (.int r)) mm 5 [some (.ref (g.ad 23)), some (.int a1), some (.int a2), some (.int (s.2.1)), some (.int (s.2.2))] [] s.1) (E := fun (s : Sg × Int32) => GX g 1 RX3 cX3_othersLearning 5 (some .int) (some (.int r)) mm 51 [none, none, none, some (.int (s.2)), none] [] s.1) hm ?_ ?_
  · rintro ⟨m4, x5⟩ hm
    (try dsimp only at hm)
    (try dsimp only)
    refine g_iloadn_3 dX3_othersLearning_51 ?_
    exact g_iret hm dX3_othersLearning_52
  · rintro ⟨m1, x2, x3⟩ o hm hx7 hi6
    (try dsimp only [f_X3_othersLearning_L5] at hm)
    (try dsimp only)
    refine g_iload_4 dX3_othersLearning_5 ?_
    refine g_aloadn_0 dX3_othersLearning_7 ?_
    refine g_getr (q := 3) fo_3_0 pn_23 pc_23 rfl rfl dX3_othersLearning_8 ?_
    refine g_v0 hm (fun _ _ h => c_X0_children cty_3 h) pn_3 (pc_3 _ _) rfl ce_X0_children lk_X3_148 rfl rfl dX3_othersLearning_11 (fun x9 m8 hm => ?_)
    refine g_icmp_ge 51 hm dX3_othersLearning_14 (by decide) (fun hm => ?_) (fun hm => ?_)
    · refine g_weak (vs' := [none, none, none, some (.int x2), none]) ⟨rfl, trivial⟩ ?_
      cases hm
      exact hx7 _ rfl
    · refine g_iload_4 dX3_othersLearning_17 ?_
      refine g_iloadn_1 dX3_othersLearning_19 ?_
      refine g_jn (J := fun (s : Sg × Int32) => GX g 1 RX3 cX3_othersLearning 5 (some .int) (some (.int r)) mm 45 [some (.ref (g.ad 23)), some (.int a1), some (.int a2), some (.int (s.2)), some (.int x3)] [] s.1) hm ?_ ?_
      · rintro ⟨m10, x11⟩ hm
        (try dsimp only at hm)
        (try dsimp only)
        refine g_iinc_4 1 hm dX3_othersLearning_45 rfl rfl (fun x13 hm => ?_)
        refine g_goto 5 dX3_othersLearning_48 (by decide) ?_
        cases hm
        exact hi6 _ rfl
      · intro k12 hk12 hm
        refine g_icmp_eq 45 hm dX3_othersLearning_20 (by decide) (fun hm => ?_) (fun hm => ?_)
        · exact hk12 _ hm
        · refine g_aloadn_0 dX3_othersLearning_23 ?_
          refine g_getr (q := 3) fo_3_0 pn_23 pc_23 rfl rfl dX3_othersLearning_24 ?_
          refine g_iload_4 dX3_othersLearning_27 ?_
          refine g_bipush 6 dX3_othersLearning_29 rfl ?_
          refine g_v2 hm (fun _ _ h => c_X0_kid cty_3 h) pn_3 (pc_3 _ _) rfl ce_X0_kid lk_X3_105 rfl rfl dX3_othersLearning_31 (fun x15 m14 hm => ?_)
          refine g_iloadn_2 dX3_othersLearning_34 ?_
          refine g_icmp_ne 45 hm dX3_othersLearning_35 (by decide) (fun hm => ?_) (fun hm => ?_)
          · exact hk12 _ hm
          · refine g_iloadn_3 dX3_othersLearning_38 ?_
            refine g_iconst 1 dX3_othersLearning_39 rfl ?_
            refine g_iload_4 dX3_othersLearning_40 ?_
            refine g_ishl dX3_othersLearning_42 ?_
            refine g_ior dX3_othersLearning_43 ?_
            refine g_istoreBn_3 hm dX3_othersLearning_44 rfl (fun x16 hm => ?_)
            exact hk12 _ hm
def f_X3_rulesAll_L14 (a2 : Int32) (a3 : Int32) : (Sg × Int32) → Option (((Sg)) ⊕ (Sg × Int32)) := fun s => match s with
  | (m2, x3) => 
  cal (f_X0_children 4 m2) (fun x8 m7 => (if x8 ≤ x3 then some (.inl m7) else
  bnd (fun (m9 : Sg) => bnd (x3 + 1) (fun x11 => some (.inr (m9, x11)))) (fun (k10 : Sg → Option (((Sg)) ⊕ (Sg × Int32))) =>
  (if ((a3 >>> (x3 &&& 31)) &&& 1) = 0 then k10 m7 else
  calv (f_X0_setKept 6 m7 x3 a2 1) (fun m12 => k10 m12)))))
def f_X3_rulesAll_L55 (a1 : Int32) (a4 : Int32) : (Sg × Int32) → Option (((Sg) ⊕ (Sg)) ⊕ (Sg × Int32)) := fun s => match s with
  | (m13, x14) => 
  (if a4 ≤ x14 then some (.inl (.inr m13)) else
  cal (f_X3_rulerOfNextMonth m13) (fun x20 m19 => (if x20 = a1 then bnd (x14 + 1) (fun x21 => some (.inr (m19, x21))) else
  some (.inl (.inl m19)))))
def f_X3_rulesAll  (m : Sg) (a1 : Int32) (a2 : Int32) (a3 : Int32) (a4 : Int32) : Option (Int32 × Sg) :=
  calv (f_X0_become 6 4 m) (fun m1 => lpk (f_X3_rulesAll_L14 a2 a3) (m1, 0) (fun m4 => lpk (f_X3_rulesAll_L55 a1 a4) (m4, 0) (fun x => match x with
  | .inl m15 => some (0, m15)
  | .inr m16 => some (1, m16))))
set_option maxRecDepth 4000 in
theorem c_X3_rulesAll {g : Cf} {m mm : Sg} {r : Int32} {a1 : Int32} {a2 : Int32} {a3 : Int32} {a4 : Int32} (hm : f_X3_rulesAll  m a1 a2 a3 a4 = some (r, mm)) : Cl g 5 yX3_rulesAll cX3_rulesAll 6 (some .boolean) [.ref (g.ad 23), .int a1, .int a2, .int a3, .int a4] m (some (.int r)) mm := by
  refine cl_of (by decide) (Nat.le_of_ble_eq_true rfl) (vs := [some (.ref (g.ad 23)), some (.int a1), some (.int a2), some (.int a3), some (.int a4), none]) rfl rfl ?_
  show GX g 5 RX3 cX3_rulesAll 6 (some .boolean) (some (.int r)) mm 0 _ [] m
  unfold f_X3_rulesAll at hm
  refine g_aloadn_0 dX3_rulesAll_0 ?_
  refine g_getr (q := 5) fo_3_1 pn_23 pc_23 rfl rfl dX3_rulesAll_1 ?_
  refine g_aloadn_0 dX3_rulesAll_4 ?_
  refine g_getr (q := 3) fo_3_0 pn_23 pc_23 rfl rfl dX3_rulesAll_5 ?_
  refine g_v1V hm (fun _ h => c_X0_become cty_5 cty_3 h) pn_5 (pc_5 _ _) rfl ce_X0_become lk_X3_50 rfl rfl dX3_rulesAll_8 (fun m1 hm => ?_)
  refine g_iconst 0 dX3_rulesAll_11 rfl ?_
  refine g_istore_5 dX3_rulesAll_12 rfl ?_
  refine g_lp (I := fun (s : Sg × Int32) => GX g 5 RX3 cX3_rulesAll 6 (some .boolean) (some (.int r)) mm 14 [some (.ref (g.ad 23)), some (.int a1), some (.int a2), some (.int a3), some (.int a4), some (.int (s.2))] [] s.1) (E := fun (s : Sg) => GX g 5 RX3 cX3_rulesAll 6 (some .boolean) (some (.int r)) mm 52 [some (.ref (g.ad 23)), some (.int a1), none, none, some (.int a4), none] [] s) hm ?_ ?_
  · rintro m4 hm
    (try dsimp only at hm)
    (try dsimp only)
    refine g_iconst 0 dX3_rulesAll_52 rfl ?_
    refine g_istore_5 dX3_rulesAll_53 rfl ?_
    refine g_lp (I := fun (s : Sg × Int32) => GX g 5 RX3 cX3_rulesAll 6 (some .boolean) (some (.int r)) mm 55 [some (.ref (g.ad 23)), some (.int a1), none, none, some (.int a4), some (.int (s.2))] [] s.1) (E := fun (x : (Sg) ⊕ (Sg)) => match x with | .inl m15 => GX g 5 RX3 cX3_rulesAll 6 (some .boolean) (some (.int r)) mm 70 [none, none, none, none, none, none] [] m15 | .inr m16 => GX g 5 RX3 cX3_rulesAll 6 (some .boolean) (some (.int r)) mm 78 [none, none, none, none, none, none] [] m16) hm ?_ ?_
    · rintro (m15 | m16) hm
      · (try dsimp only at hm)
        (try dsimp only)
        refine g_iconst 0 dX3_rulesAll_70 rfl ?_
        exact g_zretc hm rfl dX3_rulesAll_71
      · (try dsimp only at hm)
        (try dsimp only)
        refine g_iconst 1 dX3_rulesAll_78 rfl ?_
        exact g_zretc hm rfl dX3_rulesAll_79
    · rintro ⟨m13, x14⟩ o hm hx18 hi17
      (try dsimp only [f_X3_rulesAll_L55] at hm)
      (try dsimp only)
      refine g_iload_5 dX3_rulesAll_55 ?_
      refine g_iload_4 dX3_rulesAll_57 ?_
      refine g_icmp_ge 78 hm dX3_rulesAll_59 (by decide) (fun hm => ?_) (fun hm => ?_)
      · refine g_weak (vs' := [none, none, none, none, none, none]) trivial ?_
        cases hm
        exact hx18 _ rfl
      · refine g_aloadn_0 dX3_rulesAll_62 ?_
        refine g_v0 hm (fun _ _ h => c_X3_rulerOfNextMonth h) pn_23 (pc_23 _ _) rfl ce_X3_rulerOfNextMonth lk_X3_54 rfl rfl dX3_rulesAll_63 (fun x20 m19 hm => ?_)
        refine g_iloadn_1 dX3_rulesAll_66 ?_
        refine g_icmp_eq 72 hm dX3_rulesAll_67 (by decide) (fun hm => ?_) (fun hm => ?_)
        · refine g_iinc_5 1 hm dX3_rulesAll_72 rfl rfl (fun x21 hm => ?_)
          refine g_goto 55 dX3_rulesAll_75 (by decide) ?_
          cases hm
          exact hi17 _ rfl
        · refine g_weak (vs' := [none, none, none, none, none, none]) trivial ?_
          cases hm
          exact hx18 _ rfl
  · rintro ⟨m2, x3⟩ o hm hx6 hi5
    (try dsimp only [f_X3_rulesAll_L14] at hm)
    (try dsimp only)
    refine g_iload_5 dX3_rulesAll_14 ?_
    refine g_aloadn_0 dX3_rulesAll_16 ?_
    refine g_getr (q := 3) fo_3_0 pn_23 pc_23 rfl rfl dX3_rulesAll_17 ?_
    refine g_v0 hm (fun _ _ h => c_X0_children cty_3 h) pn_3 (pc_3 _ _) rfl ce_X0_children lk_X3_148 rfl rfl dX3_rulesAll_20 (fun x8 m7 hm => ?_)
    refine g_icmp_ge 52 hm dX3_rulesAll_23 (by decide) (fun hm => ?_) (fun hm => ?_)
    · refine g_weak (vs' := [some (.ref (g.ad 23)), some (.int a1), none, none, some (.int a4), none]) ⟨rfl, ⟨rfl, ⟨rfl, trivial⟩⟩⟩ ?_
      cases hm
      exact hx6 _ rfl
    · refine g_iloadn_3 dX3_rulesAll_26 ?_
      refine g_iload_5 dX3_rulesAll_27 ?_
      refine g_ishr dX3_rulesAll_29 ?_
      refine g_iconst 1 dX3_rulesAll_30 rfl ?_
      refine g_iand dX3_rulesAll_31 ?_
      refine g_jn (J := fun (s : Sg) => GX g 5 RX3 cX3_rulesAll 6 (some .boolean) (some (.int r)) mm 46 [some (.ref (g.ad 23)), some (.int a1), some (.int a2), some (.int a3), some (.int a4), some (.int x3)] [] s) hm ?_ ?_
      · intro m9 hm
        refine g_iinc_5 1 hm dX3_rulesAll_46 rfl rfl (fun x11 hm => ?_)
        refine g_goto 14 dX3_rulesAll_49 (by decide) ?_
        cases hm
        exact hi5 _ rfl
      · intro k10 hk10 hm
        refine g_if_eq 46 hm dX3_rulesAll_32 (by decide) (fun hm => ?_) (fun hm => ?_)
        · exact hk10 _ hm
        · refine g_aloadn_0 dX3_rulesAll_35 ?_
          refine g_getr (q := 5) fo_3_1 pn_23 pc_23 rfl rfl dX3_rulesAll_36 ?_
          refine g_iload_5 dX3_rulesAll_39 ?_
          refine g_iloadn_2 dX3_rulesAll_41 ?_
          refine g_iconst 1 dX3_rulesAll_42 rfl ?_
          refine g_v3V hm (fun _ h => c_X0_setKept cty_5 h) pn_5 (pc_5 _ _) rfl ce_X0_setKept lk_X3_151 rfl rfl dX3_rulesAll_43 (fun m12 hm => ?_)
          exact hk10 _ hm
def f_X3_teachLowest  (m : Sg) (a1 : Int32) : Option (Sg) :=
  cal (f_X0_lowestNotRight 6 m a1) (fun x2 m1 => (if x2 = (-1) then some m1 else
  calv (f_X0_makeRight 6 m1 a1 x2) (fun m3 => some m3)))
set_option maxRecDepth 4000 in
theorem c_X3_teachLowest {g : Cf} {m mm : Sg} {a1 : Int32} (hm : f_X3_teachLowest  m a1 = some mm) : Cl g 3 yX3_teachLowest cX3_teachLowest 3 none [.ref (g.ad 23), .int a1] m none mm := by
  refine cl_of (by decide) (Nat.le_of_ble_eq_true rfl) (vs := [some (.ref (g.ad 23)), some (.int a1), none]) rfl rfl ?_
  show GX g 3 RX3 cX3_teachLowest 3 none none mm 0 _ [] m
  unfold f_X3_teachLowest at hm
  refine g_aloadn_0 dX3_teachLowest_0 ?_
  refine g_getr (q := 5) fo_3_1 pn_23 pc_23 rfl rfl dX3_teachLowest_1 ?_
  refine g_iloadn_1 dX3_teachLowest_4 ?_
  refine g_v1 hm (fun _ _ h => c_X0_lowestNotRight cty_5 h) pn_5 (pc_5 _ _) rfl ce_X0_lowestNotRight lk_X3_158 rfl rfl dX3_teachLowest_5 (fun x2 m1 hm => ?_)
  refine g_istoren_2 dX3_teachLowest_8 rfl ?_
  refine g_iloadn_2 dX3_teachLowest_9 ?_
  refine g_iconst (-1) dX3_teachLowest_10 rfl ?_
  refine g_icmp_eq 23 hm dX3_teachLowest_11 (by decide) (fun hm => ?_) (fun hm => ?_)
  · exact g_vret hm dX3_teachLowest_23
  · refine g_aloadn_0 dX3_teachLowest_14 ?_
    refine g_getr (q := 5) fo_3_1 pn_23 pc_23 rfl rfl dX3_teachLowest_15 ?_
    refine g_iloadn_1 dX3_teachLowest_18 ?_
    refine g_iloadn_2 dX3_teachLowest_19 ?_
    refine g_v2V hm (fun _ h => c_X0_makeRight cty_5 h) pn_5 (pc_5 _ _) rfl ce_X0_makeRight lk_X3_161 rfl rfl dX3_teachLowest_20 (fun m3 hm => ?_)
    exact g_vret hm dX3_teachLowest_23
def f_X3_placeOf  (m : Sg) (a1 : Int32) (a2 : Int32) : Option (Int32 × Sg) :=
  some ((a1 * 8) + a2, m)
set_option maxRecDepth 4000 in
theorem c_X3_placeOf {g : Cf} {m mm : Sg} {r : Int32} {a1 : Int32} {a2 : Int32} (hm : f_X3_placeOf  m a1 a2 = some (r, mm)) : Cl g 0 yX3_placeOf cX3_placeOf 2 (some .int) [.int a1, .int a2] m (some (.int r)) mm := by
  refine cl_of (by decide) (Nat.le_of_ble_eq_true rfl) (vs := [some (.int a1), some (.int a2)]) rfl rfl ?_
  show GX g 0 RX3 cX3_placeOf 2 (some .int) (some (.int r)) mm 0 _ [] m
  unfold f_X3_placeOf at hm
  refine g_iloadn_0 dX3_placeOf_0 ?_
  refine g_bipush 8 dX3_placeOf_1 rfl ?_
  refine g_imul dX3_placeOf_3 ?_
  refine g_iloadn_1 dX3_placeOf_4 ?_
  refine g_iadd dX3_placeOf_5 ?_
  exact g_iret hm dX3_placeOf_6
def f_X3_weighed  (m : Sg) (a1 : Int32) (a2 : Int32) : Option (Int32 × Sg) :=
  cal (f_X3_placeOf m a1 a2) (fun x2 m1 => (if x2 < 0 then some (0, m1) else
  (if 64 ≤ x2 then some (0, m1) else
  if inr x2 64 = true then some (m1.1 26 x2.toNatClampNeg, m1) else none)))
set_option maxRecDepth 4000 in
theorem c_X3_weighed {g : Cf} {m mm : Sg} {r : Int32} {a1 : Int32} {a2 : Int32} (hm : f_X3_weighed  m a1 a2 = some (r, mm)) : Cl g 1 yX3_weighed cX3_weighed 4 (some .int) [.ref (g.ad 23), .int a1, .int a2] m (some (.int r)) mm := by
  refine cl_of (by decide) (Nat.le_of_ble_eq_true rfl) (vs := [some (.ref (g.ad 23)), some (.int a1), some (.int a2), none]) rfl rfl ?_
  show GX g 1 RX3 cX3_weighed 4 (some .int) (some (.int r)) mm 0 _ [] m
  unfold f_X3_weighed at hm
  refine g_iloadn_1 dX3_weighed_0 ?_
  refine g_iloadn_2 dX3_weighed_1 ?_
  refine g_s2 hm (fun _ _ h => c_X3_placeOf h) ce_X3_placeOf lk_X3_167 rfl rfl dX3_weighed_2 (fun x2 m1 hm => ?_)
  refine g_istoren_3 dX3_weighed_5 rfl ?_
  refine g_iloadn_3 dX3_weighed_6 ?_
  refine g_if_lt 28 hm dX3_weighed_7 (by decide) (fun hm => ?_) (fun hm => ?_)
  · refine g_iconst 0 dX3_weighed_28 rfl ?_
    exact g_iret hm dX3_weighed_29
  · refine g_iloadn_3 dX3_weighed_10 ?_
    refine g_aloadn_0 dX3_weighed_11 ?_
    refine g_getr (q := 26) fo_3_5 pn_23 pc_23 rfl rfl dX3_weighed_12 ?_
    refine g_alen (ty := .int) 64 ar_26.1 ar_26.2 rfl rfl dX3_weighed_15 ?_
    refine g_icmp_ge 28 hm dX3_weighed_16 (by decide) (fun hm => ?_) (fun hm => ?_)
    · refine g_iconst 0 dX3_weighed_28 rfl ?_
      exact g_iret hm dX3_weighed_29
    · refine g_aloadn_0 dX3_weighed_19 ?_
      refine g_getr (q := 26) fo_3_5 pn_23 pc_23 rfl rfl dX3_weighed_20 ?_
      refine g_iloadn_3 dX3_weighed_23 ?_
      refine g_iaload hm ar_26.1 ar_26.2 dX3_weighed_24 (fun hm => ?_)
      refine g_goto 29 dX3_weighed_25 (by decide) ?_
      exact g_iret hm dX3_weighed_29
def f_X3_isRest_L32 (a1 : Int32) (a2 : Int32) (x2 : Int32) (x4 : Int32) (x6 : Int32) : (Sg × Int32) → Option (((Sg) ⊕ (Sg) ⊕ (Sg)) ⊕ (Sg × Int32)) := fun s => match s with
  | (m7, x8) => 
  cal (f_X0_children 4 m7) (fun x15 m14 => (if x15 ≤ x8 then some (.inl (.inr (.inr m14))) else
  cal (f_X0_isOfNursery 4 m14 x8 x4) (fun x17 m16 => bnd (fun (m18 : Sg) => cal (f_X0_isOfNursery 4 m18 x8 x6) (fun x21 m20 => bnd (fun (m22 : Sg) => bnd (x8 + 1) (fun x24 => some (.inr (m22, x24)))) (fun (k23 : Sg → Option (((Sg) ⊕ (Sg) ⊕ (Sg)) ⊕ (Sg × Int32))) =>
  (if x21 = 0 then k23 m20 else
  cal (f_X3_weighed m20 a1 x8) (fun x26 m25 => (if x2 ≤ x26 then k23 m25 else
  some (.inl (.inr (.inl m25))))))))) (fun (k19 : Sg → Option (((Sg) ⊕ (Sg) ⊕ (Sg)) ⊕ (Sg × Int32))) =>
  (if x17 = 0 then k19 m16 else
  cal (f_X3_weighed m16 x8 a2) (fun x28 m27 => (if x28 ≤ x2 then k19 m27 else
  some (.inl (.inl m27)))))))))
def f_X3_isRest  (m : Sg) (a1 : Int32) (a2 : Int32) : Option (Int32 × Sg) :=
  cal (f_X3_weighed m a1 a2) (fun x2 m1 => cal (f_X0_kid 4 m1 a1 3) (fun x4 m3 => cal (f_X0_kid 4 m3 a2 3) (fun x6 m5 => lpk (f_X3_isRest_L32 a1 a2 x2 x4 x6) (m5, 0) (fun x => match x with
  | .inl m9 => some (0, m9)
  | .inr (.inl m10) => some (0, m10)
  | .inr (.inr m11) => some (1, m11)))))
set_option maxRecDepth 4000 in
theorem c_X3_isRest {g : Cf} {m mm : Sg} {r : Int32} {a1 : Int32} {a2 : Int32} (hm : f_X3_isRest  m a1 a2 = some (r, mm)) : Cl g 2 yX3_isRest cX3_isRest 7 (some .boolean) [.ref (g.ad 23), .int a1, .int a2] m (some (.int r)) mm := by
  refine cl_of (by decide) (Nat.le_of_ble_eq_true rfl) (vs := [some (.ref (g.ad 23)), some (.int a1), some (.int a2), none, none, none, none]) rfl rfl ?_
  show GX g 2 RX3 cX3_isRest 7 (some .boolean) (some (.int r)) mm 0 _ [] m
  unfold f_X3_isRest at hm
  refine g_aloadn_0 dX3_isRest_0 ?_
  refine g_iloadn_1 dX3_isRest_1 ?_
  refine g_iloadn_2 dX3_isRest_2 ?_
  refine g_v2 hm (fun _ _ h => c_X3_weighed h) pn_23 (pc_23 _ _) rfl ce_X3_weighed lk_X3_173 rfl rfl dX3_isRest_3 (fun x2 m1 hm => ?_)
  refine g_istoren_3 dX3_isRest_6 rfl ?_
  refine g_aloadn_0 dX3_isRest_7 ?_
  refine g_getr (q := 3) fo_3_0 pn_23 pc_23 rfl rfl dX3_isRest_8 ?_
  refine g_iloadn_1 dX3_isRest_11 ?_
  refine g_iconst 3 dX3_isRest_12 rfl ?_
  refine g_v2 hm (fun _ _ h => c_X0_kid cty_3 h) pn_3 (pc_3 _ _) rfl ce_X0_kid lk_X3_105 rfl rfl dX3_isRest_13 (fun x4 m3 hm => ?_)
  refine g_istore_4 dX3_isRest_16 rfl ?_
  refine g_aloadn_0 dX3_isRest_18 ?_
  refine g_getr (q := 3) fo_3_0 pn_23 pc_23 rfl rfl dX3_isRest_19 ?_
  refine g_iloadn_2 dX3_isRest_22 ?_
  refine g_iconst 3 dX3_isRest_23 rfl ?_
  refine g_v2 hm (fun _ _ h => c_X0_kid cty_3 h) pn_3 (pc_3 _ _) rfl ce_X0_kid lk_X3_105 rfl rfl dX3_isRest_24 (fun x6 m5 hm => ?_)
  refine g_istore_5 dX3_isRest_27 rfl ?_
  refine g_iconst 0 dX3_isRest_29 rfl ?_
  refine g_istore_6 dX3_isRest_30 rfl ?_
  refine g_lp (I := fun (s : Sg × Int32) => GX g 2 RX3 cX3_isRest 7 (some .boolean) (some (.int r)) mm 32 [some (.ref (g.ad 23)), some (.int a1), some (.int a2), some (.int x2), some (.int x4), some (.int x6), some (.int (s.2))] [] s.1) (E := fun (x : (Sg) ⊕ (Sg) ⊕ (Sg)) => match x with | .inl m9 => GX g 2 RX3 cX3_isRest 7 (some .boolean) (some (.int r)) mm 69 [none, none, none, none, none, none, none] [] m9 | .inr (.inl m10) => GX g 2 RX3 cX3_isRest 7 (some .boolean) (some (.int r)) mm 96 [none, none, none, none, none, none, none] [] m10 | .inr (.inr m11) => GX g 2 RX3 cX3_isRest 7 (some .boolean) (some (.int r)) mm 104 [none, none, none, none, none, none, none] [] m11) hm ?_ ?_
  · rintro (m9 | m10 | m11) hm
    · (try dsimp only at hm)
      (try dsimp only)
      refine g_iconst 0 dX3_isRest_69 rfl ?_
      exact g_zretc hm rfl dX3_isRest_70
    · (try dsimp only at hm)
      (try dsimp only)
      refine g_iconst 0 dX3_isRest_96 rfl ?_
      exact g_zretc hm rfl dX3_isRest_97
    · (try dsimp only at hm)
      (try dsimp only)
      refine g_iconst 1 dX3_isRest_104 rfl ?_
      exact g_zretc hm rfl dX3_isRest_105
  · rintro ⟨m7, x8⟩ o hm hx13 hi12
    (try dsimp only [f_X3_isRest_L32] at hm)
    (try dsimp only)
    refine g_iload_6 dX3_isRest_32 ?_
    refine g_aloadn_0 dX3_isRest_34 ?_
    refine g_getr (q := 3) fo_3_0 pn_23 pc_23 rfl rfl dX3_isRest_35 ?_
    refine g_v0 hm (fun _ _ h => c_X0_children cty_3 h) pn_3 (pc_3 _ _) rfl ce_X0_children lk_X3_148 rfl rfl dX3_isRest_38 (fun x15 m14 hm => ?_)
    refine g_icmp_ge 104 hm dX3_isRest_41 (by decide) (fun hm => ?_) (fun hm => ?_)
    · refine g_weak (vs' := [none, none, none, none, none, none, none]) trivial ?_
      cases hm
      exact hx13 _ rfl
    · refine g_aloadn_0 dX3_isRest_44 ?_
      refine g_getr (q := 3) fo_3_0 pn_23 pc_23 rfl rfl dX3_isRest_45 ?_
      refine g_iload_6 dX3_isRest_48 ?_
      refine g_iload_4 dX3_isRest_50 ?_
      refine g_v2 hm (fun _ _ h => c_X0_isOfNursery cty_3 h) pn_3 (pc_3 _ _) rfl ce_X0_isOfNursery lk_X3_80 rfl rfl dX3_isRest_52 (fun x17 m16 hm => ?_)
      refine g_jn (J := fun (s : Sg) => GX g 2 RX3 cX3_isRest 7 (some .boolean) (some (.int r)) mm 71 [some (.ref (g.ad 23)), some (.int a1), some (.int a2), some (.int x2), some (.int x4), some (.int x6), some (.int x8)] [] s) hm ?_ ?_
      · intro m18 hm
        refine g_aloadn_0 dX3_isRest_71 ?_
        refine g_getr (q := 3) fo_3_0 pn_23 pc_23 rfl rfl dX3_isRest_72 ?_
        refine g_iload_6 dX3_isRest_75 ?_
        refine g_iload_5 dX3_isRest_77 ?_
        refine g_v2 hm (fun _ _ h => c_X0_isOfNursery cty_3 h) pn_3 (pc_3 _ _) rfl ce_X0_isOfNursery lk_X3_80 rfl rfl dX3_isRest_79 (fun x21 m20 hm => ?_)
        refine g_jn (J := fun (s : Sg) => GX g 2 RX3 cX3_isRest 7 (some .boolean) (some (.int r)) mm 98 [some (.ref (g.ad 23)), some (.int a1), some (.int a2), some (.int x2), some (.int x4), some (.int x6), some (.int x8)] [] s) hm ?_ ?_
        · intro m22 hm
          refine g_iinc_6 1 hm dX3_isRest_98 rfl rfl (fun x24 hm => ?_)
          refine g_goto 32 dX3_isRest_101 (by decide) ?_
          cases hm
          exact hi12 _ rfl
        · intro k23 hk23 hm
          refine g_if_eq 98 hm dX3_isRest_82 (by decide) (fun hm => ?_) (fun hm => ?_)
          · exact hk23 _ hm
          · refine g_aloadn_0 dX3_isRest_85 ?_
            refine g_iloadn_1 dX3_isRest_86 ?_
            refine g_iload_6 dX3_isRest_87 ?_
            refine g_v2 hm (fun _ _ h => c_X3_weighed h) pn_23 (pc_23 _ _) rfl ce_X3_weighed lk_X3_173 rfl rfl dX3_isRest_89 (fun x26 m25 hm => ?_)
            refine g_iloadn_3 dX3_isRest_92 ?_
            refine g_icmp_ge 98 hm dX3_isRest_93 (by decide) (fun hm => ?_) (fun hm => ?_)
            · exact hk23 _ hm
            · refine g_weak (vs' := [none, none, none, none, none, none, none]) trivial ?_
              cases hm
              exact hx13 _ rfl
      · intro k19 hk19 hm
        refine g_if_eq 71 hm dX3_isRest_55 (by decide) (fun hm => ?_) (fun hm => ?_)
        · exact hk19 _ hm
        · refine g_aloadn_0 dX3_isRest_58 ?_
          refine g_iload_6 dX3_isRest_59 ?_
          refine g_iloadn_2 dX3_isRest_61 ?_
          refine g_v2 hm (fun _ _ h => c_X3_weighed h) pn_23 (pc_23 _ _) rfl ce_X3_weighed lk_X3_173 rfl rfl dX3_isRest_62 (fun x28 m27 hm => ?_)
          refine g_iloadn_3 dX3_isRest_65 ?_
          refine g_icmp_le 71 hm dX3_isRest_66 (by decide) (fun hm => ?_) (fun hm => ?_)
          · exact hk19 _ hm
          · refine g_weak (vs' := [none, none, none, none, none, none, none]) trivial ?_
            cases hm
            exact hx13 _ rfl
def f_X3_goOn_L13 (a1 : Int32) (a2 : Int32) (nl : Nat) (ln : (Nat → Nat)) : (Sg × Int32) → Option (((Sg)) ⊕ (Sg × Int32)) := fun s => match s with
  | (m2, x3) => 
  (if a1 ≤ x3 then some (.inl m2) else
  cal (f_X3_rulerOfNextMonth m2) (fun x8 m7 => cal (f_X0_ruler 6 m7) (fun x10 m9 => bnd (fun ((m11, x12) : Sg × Int32) => calv (f_X0_reignAndTake 6 m11 x12) (fun m14 => bnd (x3 + 1) (fun x15 => some (.inr (m14, x15))))) (fun (k13 : Sg × Int32 → Option (((Sg)) ⊕ (Sg × Int32))) =>
  (if x10 = (-1) then k13 (m9, 0) else
  cal (f_X5_taxOf nl ln 6 m9 x10 a2) (fun x17 m16 => k13 (m16, x17)))))))
def f_X3_goOn (nl : Nat) (ln : Nat → Nat)  (m : Sg) (a1 : Int32) (a2 : Int32) : Option (Sg) :=
  calv (f_X0_become 6 4 m) (fun m1 => lpk (f_X3_goOn_L13 a1 a2 nl ln) (m1, 0) (fun m4 => some m4))
set_option maxRecDepth 4000 in
theorem c_X3_goOn {g : Cf} {m mm : Sg} {a1 : Int32} {a2 : Int32} (H4 : g.nl ≤ 4) (HX : XOK g) (hm : f_X3_goOn g.nl g.ln  m a1 a2 = some mm) : Cl g 7 yX3_goOn cX3_goOn 5 none [.ref (g.ad 23), .int a1, .int a2] m none mm := by
  refine cl_of (by decide) (Nat.le_of_ble_eq_true rfl) (vs := [some (.ref (g.ad 23)), some (.int a1), some (.int a2), none, none]) rfl rfl ?_
  show GX g 7 RX3 cX3_goOn 5 none none mm 0 _ [] m
  unfold f_X3_goOn at hm
  refine g_aloadn_0 dX3_goOn_0 ?_
  refine g_getr (q := 5) fo_3_1 pn_23 pc_23 rfl rfl dX3_goOn_1 ?_
  refine g_aloadn_0 dX3_goOn_4 ?_
  refine g_getr (q := 3) fo_3_0 pn_23 pc_23 rfl rfl dX3_goOn_5 ?_
  refine g_v1V hm (fun _ h => c_X0_become cty_5 cty_3 h) pn_5 (pc_5 _ _) rfl ce_X0_become lk_X3_50 rfl rfl dX3_goOn_8 (fun m1 hm => ?_)
  refine g_iconst 0 dX3_goOn_11 rfl ?_
  refine g_istoren_3 dX3_goOn_12 rfl ?_
  refine g_lp (I := fun (s : Sg × Int32) => GX g 7 RX3 cX3_goOn 5 none none mm 13 [some (.ref (g.ad 23)), some (.int a1), some (.int a2), some (.int (s.2)), none] [] s.1) (E := fun (s : Sg) => GX g 7 RX3 cX3_goOn 5 none none mm 69 [none, none, none, none, none] [] s) hm ?_ ?_
  · rintro m4 hm
    (try dsimp only at hm)
    (try dsimp only)
    exact g_vret hm dX3_goOn_69
  · rintro ⟨m2, x3⟩ o hm hx6 hi5
    (try dsimp only [f_X3_goOn_L13] at hm)
    (try dsimp only)
    refine g_iloadn_3 dX3_goOn_13 ?_
    refine g_iloadn_1 dX3_goOn_14 ?_
    refine g_icmp_ge 69 hm dX3_goOn_15 (by decide) (fun hm => ?_) (fun hm => ?_)
    · refine g_weak (vs' := [none, none, none, none, none]) trivial ?_
      cases hm
      exact hx6 _ rfl
    · refine g_aloadn_0 dX3_goOn_18 ?_
      refine g_v0 hm (fun _ _ h => c_X3_rulerOfNextMonth h) pn_23 (pc_23 _ _) rfl ce_X3_rulerOfNextMonth lk_X3_54 rfl rfl dX3_goOn_19 (fun x8 m7 hm => ?_)
      refine g_pop dX3_goOn_22 rfl ?_
      refine g_aloadn_0 dX3_goOn_23 ?_
      refine g_getr (q := 5) fo_3_1 pn_23 pc_23 rfl rfl dX3_goOn_24 ?_
      refine g_v0 hm (fun _ _ h => c_X0_ruler cty_5 h) pn_5 (pc_5 _ _) rfl ce_X0_ruler lk_X3_58 rfl rfl dX3_goOn_27 (fun x10 m9 hm => ?_)
      refine g_istore_4 dX3_goOn_30 rfl ?_
      refine g_aloadn_0 dX3_goOn_32 ?_
      refine g_getr (q := 5) fo_3_1 pn_23 pc_23 rfl rfl dX3_goOn_33 ?_
      refine g_iload_4 dX3_goOn_36 ?_
      refine g_iconst (-1) dX3_goOn_38 rfl ?_
      refine g_jn (J := fun (s : Sg × Int32) => GX g 7 RX3 cX3_goOn 5 none none mm 60 [some (.ref (g.ad 23)), some (.int a1), some (.int a2), some (.int x3), none] [.int (s.2), .ref (g.ad 5)] s.1) hm ?_ ?_
      · rintro ⟨m11, x12⟩ hm
        (try dsimp only at hm)
        (try dsimp only)
        refine g_v1V hm (fun _ h => c_X0_reignAndTake cty_5 h) pn_5 (pc_5 _ _) rfl ce_X0_reignAndTake lk_X3_67 rfl rfl dX3_goOn_60 (fun m14 hm => ?_)
        refine g_iinc_3 1 hm dX3_goOn_63 rfl rfl (fun x15 hm => ?_)
        refine g_goto 13 dX3_goOn_66 (by decide) ?_
        cases hm
        exact hi5 _ rfl
      · intro k13 hk13 hm
        refine g_icmp_ne 46 hm dX3_goOn_39 (by decide) (fun hm => ?_) (fun hm => ?_)
        · refine g_aloadn_0 dX3_goOn_46 ?_
          refine g_getr (q := 13) fo_3_2 pn_23 pc_23 rfl rfl dX3_goOn_47 ?_
          refine g_aloadn_0 dX3_goOn_50 ?_
          refine g_getr (q := 5) fo_3_1 pn_23 pc_23 rfl rfl dX3_goOn_51 ?_
          refine g_iload_4 dX3_goOn_54 ?_
          refine g_iloadn_2 dX3_goOn_56 ?_
          refine g_v3 hm (fun _ _ h => c_X5_taxOf H4 HX cty_5 h) pn_13 (pc_13 _ _) rfl ce_X5_taxOf lk_X3_61 rfl rfl dX3_goOn_57 (fun x17 m16 hm => ?_)
          refine g_weak (vs' := [some (.ref (g.ad 23)), some (.int a1), some (.int a2), some (.int x3), none]) ⟨rfl, ⟨rfl, ⟨rfl, ⟨rfl, trivial⟩⟩⟩⟩ ?_
          exact hk13 _ hm
        · refine g_iconst 0 dX3_goOn_42 rfl ?_
          refine g_goto 60 dX3_goOn_43 (by decide) ?_
          refine g_weak (vs' := [some (.ref (g.ad 23)), some (.int a1), some (.int a2), some (.int x3), none]) ⟨rfl, ⟨rfl, ⟨rfl, ⟨rfl, trivial⟩⟩⟩⟩ ?_
          exact hk13 _ hm
def f_X3_seekLaw_L26 (a1 : Int32) (nl : Nat) (ln : (Nat → Nat)) : (Sg × Int32) → Option (((Sg)) ⊕ (Sg × Int32)) := fun s => match s with
  | (m6, x7) => 
  cal (f_X5_size m6) (fun x12 m11 => (if x12 ≤ x7 then some (.inl m11) else
  calv (f_X3_goOn nl ln m11 a1 x7) (fun m13 => cal (f_X0_cell 6 m13 99) (fun x15 m14 => bnd (fun (m16 : Sg) => bnd (x7 + 1) (fun x18 => some (.inr (m16, x18)))) (fun (k17 : Sg → Option (((Sg)) ⊕ (Sg × Int32))) =>
  (if x15 ≤ (m14.1 23 10) then k17 m14 else
  bnd (wr m14 23 9 x7) (fun m19 => cal (f_X0_cell 6 m19 99) (fun x21 m20 => bnd (wr m20 23 10 x21) (fun m22 => k17 m22)))))))))
def f_X3_seekLaw (nl : Nat) (ln : Nat → Nat)  (m : Sg) (a1 : Int32) : Option (Sg) :=
  bnd (wr m 23 9 (-1)) (fun m1 => calv (f_X3_goOn nl ln m1 a1 (-1)) (fun m2 => cal (f_X0_cell 6 m2 99) (fun x4 m3 => bnd (wr m3 23 10 x4) (fun m5 => lpk (f_X3_seekLaw_L26 a1 nl ln) (m5, 0) (fun m8 => some m8)))))
set_option maxRecDepth 4000 in
theorem c_X3_seekLaw {g : Cf} {m mm : Sg} {a1 : Int32} (H4 : g.nl ≤ 4) (HX : XOK g) (hm : f_X3_seekLaw g.nl g.ln  m a1 = some mm) : Cl g 8 yX3_seekLaw cX3_seekLaw 3 none [.ref (g.ad 23), .int a1] m none mm := by
  refine cl_of (by decide) (Nat.le_of_ble_eq_true rfl) (vs := [some (.ref (g.ad 23)), some (.int a1), none]) rfl rfl ?_
  show GX g 8 RX3 cX3_seekLaw 3 none none mm 0 _ [] m
  unfold f_X3_seekLaw at hm
  refine g_aloadn_0 dX3_seekLaw_0 ?_
  refine g_iconst (-1) dX3_seekLaw_1 rfl ?_
  refine g_put hm fo_3_9 fp_3_9 pn_23 pc_23 rfl dX3_seekLaw_2 (fun m1 hm => ?_)
  refine g_aloadn_0 dX3_seekLaw_5 ?_
  refine g_iloadn_1 dX3_seekLaw_6 ?_
  refine g_iconst (-1) dX3_seekLaw_7 rfl ?_
  refine g_v2V hm (fun _ h => c_X3_goOn H4 HX h) pn_23 (pc_23 _ _) rfl ce_X3_goOn lk_X3_84 rfl rfl dX3_seekLaw_8 (fun m2 hm => ?_)
  refine g_aloadn_0 dX3_seekLaw_11 ?_
  refine g_aloadn_0 dX3_seekLaw_12 ?_
  refine g_getr (q := 5) fo_3_1 pn_23 pc_23 rfl rfl dX3_seekLaw_13 ?_
  refine g_bipush 99 dX3_seekLaw_16 rfl ?_
  refine g_v1 hm (fun _ _ h => c_X0_cell cty_5 h) pn_5 (pc_5 _ _) rfl ce_X0_cell lk_X3_88 rfl rfl dX3_seekLaw_18 (fun x4 m3 hm => ?_)
  refine g_put hm fo_3_10 fp_3_10 pn_23 pc_23 rfl dX3_seekLaw_21 (fun m5 hm => ?_)
  refine g_iconst 0 dX3_seekLaw_24 rfl ?_
  refine g_istoren_2 dX3_seekLaw_25 rfl ?_
  refine g_lp (I := fun (s : Sg × Int32) => GX g 8 RX3 cX3_seekLaw 3 none none mm 26 [some (.ref (g.ad 23)), some (.int a1), some (.int (s.2))] [] s.1) (E := fun (s : Sg) => GX g 8 RX3 cX3_seekLaw 3 none none mm 83 [none, none, none] [] s) hm ?_ ?_
  · rintro m8 hm
    (try dsimp only at hm)
    (try dsimp only)
    exact g_vret hm dX3_seekLaw_83
  · rintro ⟨m6, x7⟩ o hm hx10 hi9
    (try dsimp only [f_X3_seekLaw_L26] at hm)
    (try dsimp only)
    refine g_iloadn_2 dX3_seekLaw_26 ?_
    refine g_aloadn_0 dX3_seekLaw_27 ?_
    refine g_getr (q := 13) fo_3_2 pn_23 pc_23 rfl rfl dX3_seekLaw_28 ?_
    refine g_v0 hm (fun _ _ h => c_X5_size h) pn_13 (pc_13 _ _) rfl ce_X5_size lk_X3_92 rfl rfl dX3_seekLaw_31 (fun x12 m11 hm => ?_)
    refine g_icmp_ge 83 hm dX3_seekLaw_34 (by decide) (fun hm => ?_) (fun hm => ?_)
    · refine g_weak (vs' := [none, none, none]) trivial ?_
      cases hm
      exact hx10 _ rfl
    · refine g_aloadn_0 dX3_seekLaw_37 ?_
      refine g_iloadn_1 dX3_seekLaw_38 ?_
      refine g_iloadn_2 dX3_seekLaw_39 ?_
      refine g_v2V hm (fun _ h => c_X3_goOn H4 HX h) pn_23 (pc_23 _ _) rfl ce_X3_goOn lk_X3_84 rfl rfl dX3_seekLaw_40 (fun m13 hm => ?_)
      refine g_aloadn_0 dX3_seekLaw_43 ?_
      refine g_getr (q := 5) fo_3_1 pn_23 pc_23 rfl rfl dX3_seekLaw_44 ?_
      refine g_bipush 99 dX3_seekLaw_47 rfl ?_
      refine g_v1 hm (fun _ _ h => c_X0_cell cty_5 h) pn_5 (pc_5 _ _) rfl ce_X0_cell lk_X3_88 rfl rfl dX3_seekLaw_49 (fun x15 m14 hm => ?_)
      refine g_aloadn_0 dX3_seekLaw_52 ?_
      refine g_geti fo_3_10 pn_23 pc_23 rfl dX3_seekLaw_53 ?_
      refine g_jn (J := fun (s : Sg) => GX g 8 RX3 cX3_seekLaw 3 none none mm 77 [some (.ref (g.ad 23)), some (.int a1), some (.int x7)] [] s) hm ?_ ?_
      · intro m16 hm
        refine g_iinc_2 1 hm dX3_seekLaw_77 rfl rfl (fun x18 hm => ?_)
        refine g_goto 26 dX3_seekLaw_80 (by decide) ?_
        cases hm
        exact hi9 _ rfl
      · intro k17 hk17 hm
        refine g_icmp_le 77 hm dX3_seekLaw_56 (by decide) (fun hm => ?_) (fun hm => ?_)
        · exact hk17 _ hm
        · refine g_aloadn_0 dX3_seekLaw_59 ?_
          refine g_iloadn_2 dX3_seekLaw_60 ?_
          refine g_put hm fo_3_9 fp_3_9 pn_23 pc_23 rfl dX3_seekLaw_61 (fun m19 hm => ?_)
          refine g_aloadn_0 dX3_seekLaw_64 ?_
          refine g_aloadn_0 dX3_seekLaw_65 ?_
          refine g_getr (q := 5) fo_3_1 pn_23 pc_23 rfl rfl dX3_seekLaw_66 ?_
          refine g_bipush 99 dX3_seekLaw_69 rfl ?_
          refine g_v1 hm (fun _ _ h => c_X0_cell cty_5 h) pn_5 (pc_5 _ _) rfl ce_X0_cell lk_X3_88 rfl rfl dX3_seekLaw_71 (fun x21 m20 hm => ?_)
          refine g_put hm fo_3_10 fp_3_10 pn_23 pc_23 rfl dX3_seekLaw_74 (fun m22 hm => ?_)
          exact hk17 _ hm
def f_X3_isOfTens_L5 (a1 : Int32) (a2 : Int32) : (Sg × Int32 × Int32) → Option (((Sg) ⊕ (Sg)) ⊕ (Sg × Int32 × Int32)) := fun s => match s with
  | (m1, x2, x3) => 
  (if a2 ≤ x3 then some (.inl (.inr m1)) else
  cal (f_X3_tenOfRow m1 a1 a2 x3) (fun x9 m8 => (if ((x2 >>> (x9 &&& 31)) &&& 1) = 0 then some (.inl (.inl m8)) else
  bnd (x2 &&& ((1 <<< (x9 &&& 31)) ^^^ (-1))) (fun x10 => bnd (x3 + 1) (fun x11 => some (.inr (m8, x10, x11)))))))
def f_X3_isOfTens  (m : Sg) (a1 : Int32) (a2 : Int32) (a3 : Int32) : Option (Int32 × Sg) :=
  lpk (f_X3_isOfTens_L5 a1 a2) (m, a3, 0) (fun x => match x with
  | .inl m4 => some (0, m4)
  | .inr m5 => some (1, m5))
set_option maxRecDepth 4000 in
theorem c_X3_isOfTens {g : Cf} {m mm : Sg} {r : Int32} {a1 : Int32} {a2 : Int32} {a3 : Int32} (hm : f_X3_isOfTens  m a1 a2 a3 = some (r, mm)) : Cl g 1 yX3_isOfTens cX3_isOfTens 6 (some .boolean) [.int a1, .int a2, .int a3] m (some (.int r)) mm := by
  refine cl_of (by decide) (Nat.le_of_ble_eq_true rfl) (vs := [some (.int a1), some (.int a2), some (.int a3), none, none, none]) rfl rfl ?_
  show GX g 1 RX3 cX3_isOfTens 6 (some .boolean) (some (.int r)) mm 0 _ [] m
  unfold f_X3_isOfTens at hm
  refine g_iloadn_2 dX3_isOfTens_0 ?_
  refine g_istoren_3 dX3_isOfTens_1 rfl ?_
  refine g_iconst 0 dX3_isOfTens_2 rfl ?_
  refine g_istore_4 dX3_isOfTens_3 rfl ?_
  refine g_weak (vs' := [some (.int a1), some (.int a2), none, some (.int a3), some (.int 0), none]) ⟨rfl, ⟨rfl, ⟨rfl, ⟨rfl, trivial⟩⟩⟩⟩ ?_
  refine g_lp (I := fun (s : Sg × Int32 × Int32) => GX g 1 RX3 cX3_isOfTens 6 (some .boolean) (some (.int r)) mm 5 [some (.int a1), some (.int a2), none, some (.int (s.2.1)), some (.int (s.2.2)), none] [] s.1) (E := fun (x : (Sg) ⊕ (Sg)) => match x with | .inl m4 => GX g 1 RX3 cX3_isOfTens 6 (some .boolean) (some (.int r)) mm 29 [none, none, none, none, none, none] [] m4 | .inr m5 => GX g 1 RX3 cX3_isOfTens 6 (some .boolean) (some (.int r)) mm 46 [none, none, none, none, none, none] [] m5) hm ?_ ?_
  · rintro (m4 | m5) hm
    · (try dsimp only at hm)
      (try dsimp only)
      refine g_iconst 0 dX3_isOfTens_29 rfl ?_
      exact g_zretc hm rfl dX3_isOfTens_30
    · (try dsimp only at hm)
      (try dsimp only)
      refine g_iconst 1 dX3_isOfTens_46 rfl ?_
      exact g_zretc hm rfl dX3_isOfTens_47
  · rintro ⟨m1, x2, x3⟩ o hm hx7 hi6
    (try dsimp only [f_X3_isOfTens_L5] at hm)
    (try dsimp only)
    refine g_iload_4 dX3_isOfTens_5 ?_
    refine g_iloadn_1 dX3_isOfTens_7 ?_
    refine g_icmp_ge 46 hm dX3_isOfTens_8 (by decide) (fun hm => ?_) (fun hm => ?_)
    · refine g_weak (vs' := [none, none, none, none, none, none]) trivial ?_
      cases hm
      exact hx7 _ rfl
    · refine g_iloadn_0 dX3_isOfTens_11 ?_
      refine g_iloadn_1 dX3_isOfTens_12 ?_
      refine g_iload_4 dX3_isOfTens_13 ?_
      refine g_s3 hm (fun _ _ h => c_X3_tenOfRow h) ce_X3_tenOfRow lk_X3_117 rfl rfl dX3_isOfTens_15 (fun x9 m8 hm => ?_)
      refine g_istore_5 dX3_isOfTens_18 rfl ?_
      refine g_iloadn_3 dX3_isOfTens_20 ?_
      refine g_iload_5 dX3_isOfTens_21 ?_
      refine g_ishr dX3_isOfTens_23 ?_
      refine g_iconst 1 dX3_isOfTens_24 rfl ?_
      refine g_iand dX3_isOfTens_25 ?_
      refine g_if_ne 31 hm dX3_isOfTens_26 (by decide) (fun hm => ?_) (fun hm => ?_)
      · refine g_iloadn_3 dX3_isOfTens_31 ?_
        refine g_iconst 1 dX3_isOfTens_32 rfl ?_
        refine g_iload_5 dX3_isOfTens_33 ?_
        refine g_ishl dX3_isOfTens_35 ?_
        refine g_iconst (-1) dX3_isOfTens_36 rfl ?_
        refine g_ixor dX3_isOfTens_37 ?_
        refine g_iand dX3_isOfTens_38 ?_
        refine g_istoreBn_3 hm dX3_isOfTens_39 rfl (fun x10 hm => ?_)
        refine g_iinc_4 1 hm dX3_isOfTens_40 rfl rfl (fun x11 hm => ?_)
        refine g_goto 5 dX3_isOfTens_43 (by decide) ?_
        refine g_weak (vs' := [some (.int a1), some (.int a2), none, some (.int x10), some (.int x11), none]) ⟨rfl, ⟨rfl, ⟨rfl, ⟨rfl, trivial⟩⟩⟩⟩ ?_
        cases hm
        exact hi6 _ rfl
      · refine g_weak (vs' := [none, none, none, none, none, none]) trivial ?_
        cases hm
        exact hx7 _ rfl
def f_X3_fewestKept_L14 (a1 : Int32) (a2 : Int32) (a3 : Int32) (x2 : Int32) : (Sg × Int32 × Int32) → Option (((Sg × Int32)) ⊕ (Sg × Int32 × Int32)) := fun s => match s with
  | (m3, x4, x5) => 
  (if x2 < x5 then some (.inl (m3, x4)) else
  bnd (fun ((m10, x11) : Sg × Int32) => bnd (fun ((m13, x14) : Sg × Int32) => bnd (x5 + 1) (fun x16 => some (.inr (m13, x14, x16)))) (fun (k15 : Sg × Int32 → Option (((Sg × Int32)) ⊕ (Sg × Int32 × Int32))) =>
  (if (x5 &&& (x2 ^^^ (-1))) = 0 then (if x11 = 0 then k15 (m10, x4) else
  cal (f_X3_rulesAll m10 a1 a2 x5 a3) (fun x18 m17 => (if x18 = 0 then k15 (m17, x4) else
  k15 (m17, x5)))) else
  k15 (m10, x4)))) (fun (k12 : Sg × Int32 → Option (((Sg × Int32)) ⊕ (Sg × Int32 × Int32))) =>
  bnd (fun (m19 : Sg) => k12 (m19, 1)) (fun (k20 : Sg → Option (((Sg × Int32)) ⊕ (Sg × Int32 × Int32))) =>
  (if x4 = (-1) then k20 m3 else
  cal (f_J6_bitCount_0f7a4 m3 x5) (fun x22 m21 => cal (f_J6_bitCount_0f7a4 m21 x4) (fun x24 m23 => (if x24 ≤ x22 then k12 (m23, 0) else
  k20 m23)))))))
def f_X3_fewestKept  (m : Sg) (a1 : Int32) (a2 : Int32) (a3 : Int32) : Option (Int32 × Sg) :=
  cal (f_X3_othersLearning m a1 a2) (fun x2 m1 => lpk (f_X3_fewestKept_L14 a1 a2 a3 x2) (m1, (-1), 0) (fun ((m6, x7) : Sg × Int32) => some (x7, m6)))
set_option maxRecDepth 4000 in
theorem c_X3_fewestKept {g : Cf} {m mm : Sg} {r : Int32} {a1 : Int32} {a2 : Int32} {a3 : Int32} (hm : f_X3_fewestKept  m a1 a2 a3 = some (r, mm)) : Cl g 6 yX3_fewestKept cX3_fewestKept 8 (some .int) [.ref (g.ad 23), .int a1, .int a2, .int a3] m (some (.int r)) mm := by
  refine cl_of (by decide) (Nat.le_of_ble_eq_true rfl) (vs := [some (.ref (g.ad 23)), some (.int a1), some (.int a2), some (.int a3), none, none, none, none]) rfl rfl ?_
  show GX g 6 RX3 cX3_fewestKept 8 (some .int) (some (.int r)) mm 0 _ [] m
  unfold f_X3_fewestKept at hm
  refine g_aloadn_0 dX3_fewestKept_0 ?_
  refine g_iloadn_1 dX3_fewestKept_1 ?_
  refine g_iloadn_2 dX3_fewestKept_2 ?_
  refine g_v2 hm (fun _ _ h => c_X3_othersLearning h) pn_23 (pc_23 _ _) rfl ce_X3_othersLearning lk_X3_136 rfl rfl dX3_fewestKept_3 (fun x2 m1 hm => ?_)
  refine g_istore_4 dX3_fewestKept_6 rfl ?_
  refine g_iconst (-1) dX3_fewestKept_8 rfl ?_
  refine g_istore_5 dX3_fewestKept_9 rfl ?_
  refine g_iconst 0 dX3_fewestKept_11 rfl ?_
  refine g_istore_6 dX3_fewestKept_12 rfl ?_
  refine g_lp (I := fun (s : Sg × Int32 × Int32) => GX g 6 RX3 cX3_fewestKept 8 (some .int) (some (.int r)) mm 14 [some (.ref (g.ad 23)), some (.int a1), some (.int a2), some (.int a3), some (.int x2), some (.int (s.2.1)), some (.int (s.2.2)), none] [] s.1) (E := fun (s : Sg × Int32) => GX g 6 RX3 cX3_fewestKept 8 (some .int) (some (.int r)) mm 84 [none, none, none, none, none, some (.int (s.2)), none, none] [] s.1) hm ?_ ?_
  · rintro ⟨m6, x7⟩ hm
    (try dsimp only at hm)
    (try dsimp only)
    refine g_iload_5 dX3_fewestKept_84 ?_
    exact g_iret hm dX3_fewestKept_86
  · rintro ⟨m3, x4, x5⟩ o hm hx9 hi8
    (try dsimp only [f_X3_fewestKept_L14] at hm)
    (try dsimp only)
    refine g_iload_6 dX3_fewestKept_14 ?_
    refine g_iload_4 dX3_fewestKept_16 ?_
    refine g_icmp_gt 84 hm dX3_fewestKept_18 (by decide) (fun hm => ?_) (fun hm => ?_)
    · refine g_weak (vs' := [none, none, none, none, none, some (.int x4), none, none]) ⟨rfl, trivial⟩ ?_
      cases hm
      exact hx9 _ rfl
    · refine g_iload_5 dX3_fewestKept_21 ?_
      refine g_iconst (-1) dX3_fewestKept_23 rfl ?_
      refine g_jn (J := fun (s : Sg × Int32) => GX g 6 RX3 cX3_fewestKept 8 (some .int) (some (.int r)) mm 45 [some (.ref (g.ad 23)), some (.int a1), some (.int a2), some (.int a3), some (.int x2), some (.int x4), some (.int x5), none] [.int (s.2)] s.1) hm ?_ ?_
      · rintro ⟨m10, x11⟩ hm
        (try dsimp only at hm)
        (try dsimp only)
        refine g_istore_7 dX3_fewestKept_45 rfl ?_
        refine g_iload_6 dX3_fewestKept_47 ?_
        refine g_iload_4 dX3_fewestKept_49 ?_
        refine g_iconst (-1) dX3_fewestKept_51 rfl ?_
        refine g_ixor dX3_fewestKept_52 ?_
        refine g_iand dX3_fewestKept_53 ?_
        refine g_jn (J := fun (s : Sg × Int32) => GX g 6 RX3 cX3_fewestKept 8 (some .int) (some (.int r)) mm 78 [some (.ref (g.ad 23)), some (.int a1), some (.int a2), some (.int a3), some (.int x2), some (.int (s.2)), some (.int x5), none] [] s.1) hm ?_ ?_
        · rintro ⟨m13, x14⟩ hm
          (try dsimp only at hm)
          (try dsimp only)
          refine g_iinc_6 1 hm dX3_fewestKept_78 rfl rfl (fun x16 hm => ?_)
          refine g_goto 14 dX3_fewestKept_81 (by decide) ?_
          cases hm
          exact hi8 _ rfl
        · intro k15 hk15 hm
          refine g_if_ne 78 hm dX3_fewestKept_54 (by decide) (fun hm => ?_) (fun hm => ?_)
          · refine g_weak (vs' := [some (.ref (g.ad 23)), some (.int a1), some (.int a2), some (.int a3), some (.int x2), some (.int x4), some (.int x5), none]) ⟨rfl, ⟨rfl, ⟨rfl, ⟨rfl, ⟨rfl, ⟨rfl, ⟨rfl, trivial⟩⟩⟩⟩⟩⟩⟩ ?_
            exact hk15 _ hm
          · refine g_iload_7 dX3_fewestKept_57 ?_
            refine g_if_eq 78 hm dX3_fewestKept_59 (by decide) (fun hm => ?_) (fun hm => ?_)
            · refine g_weak (vs' := [some (.ref (g.ad 23)), some (.int a1), some (.int a2), some (.int a3), some (.int x2), some (.int x4), some (.int x5), none]) ⟨rfl, ⟨rfl, ⟨rfl, ⟨rfl, ⟨rfl, ⟨rfl, ⟨rfl, trivial⟩⟩⟩⟩⟩⟩⟩ ?_
              exact hk15 _ hm
            · refine g_aloadn_0 dX3_fewestKept_62 ?_
              refine g_iloadn_1 dX3_fewestKept_63 ?_
              refine g_iloadn_2 dX3_fewestKept_64 ?_
              refine g_iload_6 dX3_fewestKept_65 ?_
              refine g_iloadn_3 dX3_fewestKept_67 ?_
              refine g_v4 hm (fun _ _ h => c_X3_rulesAll h) pn_23 (pc_23 _ _) rfl ce_X3_rulesAll lk_X3_144 rfl rfl dX3_fewestKept_68 (fun x18 m17 hm => ?_)
              refine g_if_eq 78 hm dX3_fewestKept_71 (by decide) (fun hm => ?_) (fun hm => ?_)
              · refine g_weak (vs' := [some (.ref (g.ad 23)), some (.int a1), some (.int a2), some (.int a3), some (.int x2), some (.int x4), some (.int x5), none]) ⟨rfl, ⟨rfl, ⟨rfl, ⟨rfl, ⟨rfl, ⟨rfl, ⟨rfl, trivial⟩⟩⟩⟩⟩⟩⟩ ?_
                exact hk15 _ hm
              · refine g_iload_6 dX3_fewestKept_74 ?_
                refine g_istore_5 dX3_fewestKept_76 rfl ?_
                refine g_weak (vs' := [some (.ref (g.ad 23)), some (.int a1), some (.int a2), some (.int a3), some (.int x2), some (.int x5), some (.int x5), none]) ⟨rfl, ⟨rfl, ⟨rfl, ⟨rfl, ⟨rfl, ⟨rfl, ⟨rfl, trivial⟩⟩⟩⟩⟩⟩⟩ ?_
                exact hk15 _ hm
      · intro k12 hk12 hm
        refine g_jn (J := fun (s : Sg) => GX g 6 RX3 cX3_fewestKept 8 (some .int) (some (.int r)) mm 40 [some (.ref (g.ad 23)), some (.int a1), some (.int a2), some (.int a3), some (.int x2), some (.int x4), some (.int x5), none] [] s) hm ?_ ?_
        · intro m19 hm
          refine g_iconst 1 dX3_fewestKept_40 rfl ?_
          refine g_goto 45 dX3_fewestKept_41 (by decide) ?_
          exact hk12 _ hm
        · intro k20 hk20 hm
          refine g_icmp_eq 40 hm dX3_fewestKept_24 (by decide) (fun hm => ?_) (fun hm => ?_)
          · exact hk20 _ hm
          · refine g_iload_6 dX3_fewestKept_27 ?_
            refine g_s1 hm (fun _ _ h => c_J6_bitCount_0f7a4 h) ce_J6_bitCount_0f7a4 lk_X3_139 rfl rfl dX3_fewestKept_29 (fun x22 m21 hm => ?_)
            refine g_iload_5 dX3_fewestKept_32 ?_
            refine g_s1 hm (fun _ _ h => c_J6_bitCount_0f7a4 h) ce_J6_bitCount_0f7a4 lk_X3_139 rfl rfl dX3_fewestKept_34 (fun x24 m23 hm => ?_)
            refine g_icmp_ge 44 hm dX3_fewestKept_37 (by decide) (fun hm => ?_) (fun hm => ?_)
            · refine g_iconst 0 dX3_fewestKept_44 rfl ?_
              exact hk12 _ hm
            · exact hk20 _ hm
def f_X3_gain_L48 (x5 : Int32) (x7 : Int32) : (Sg × Int32 × Int32) → Option (((Sg × Int32)) ⊕ (Sg × Int32 × Int32)) := fun s => match s with
  | (m8, x9, x10) => 
  (if 12 ≤ x10 then some (.inl (m8, x9)) else
  cal (f_X3_rulerOfNextMonth m8) (fun x16 m15 => cal (f_X0_isOfNursery 6 m15 x16 x5) (fun x18 m17 => bnd (fun ((m19, x20) : Sg × Int32) => bnd (x9 + x20) (fun x22 => cal (f_X0_isOfNursery 6 m19 x16 x7) (fun x24 m23 => bnd (fun ((m25, x26) : Sg × Int32) => bnd (x22 - x26) (fun x28 => bnd (x10 + 1) (fun x29 => some (.inr (m25, x28, x29))))) (fun (k27 : Sg × Int32 → Option (((Sg × Int32)) ⊕ (Sg × Int32 × Int32))) =>
  (if x24 = 0 then k27 (m23, 0) else
  k27 (m23, 1)))))) (fun (k21 : Sg × Int32 → Option (((Sg × Int32)) ⊕ (Sg × Int32 × Int32))) =>
  (if x18 = 0 then k21 (m17, 0) else
  k21 (m17, 1))))))
def f_X3_gain  (m : Sg) (a1 : Int32) (a2 : Int32) : Option (Int32 × Sg) :=
  calv (f_X0_become 6 4 m) (fun m1 => calv (f_X3_teachLowest m1 a1) (fun m2 => calv (f_X3_teachLowest m2 a2) (fun m3 => cal (f_X0_kid 4 m3 a1 3) (fun x5 m4 => cal (f_X0_kid 4 m4 a2 3) (fun x7 m6 => lpk (f_X3_gain_L48 x5 x7) (m6, 0, 0) (fun ((m11, x12) : Sg × Int32) => some (x12, m11)))))))
set_option maxRecDepth 4000 in
theorem c_X3_gain {g : Cf} {m mm : Sg} {r : Int32} {a1 : Int32} {a2 : Int32} (hm : f_X3_gain  m a1 a2 = some (r, mm)) : Cl g 5 yX3_gain cX3_gain 8 (some .int) [.ref (g.ad 23), .int a1, .int a2] m (some (.int r)) mm := by
  refine cl_of (by decide) (Nat.le_of_ble_eq_true rfl) (vs := [some (.ref (g.ad 23)), some (.int a1), some (.int a2), none, none, none, none, none]) rfl rfl ?_
  show GX g 5 RX3 cX3_gain 8 (some .int) (some (.int r)) mm 0 _ [] m
  unfold f_X3_gain at hm
  refine g_aloadn_0 dX3_gain_0 ?_
  refine g_getr (q := 5) fo_3_1 pn_23 pc_23 rfl rfl dX3_gain_1 ?_
  refine g_aloadn_0 dX3_gain_4 ?_
  refine g_getr (q := 3) fo_3_0 pn_23 pc_23 rfl rfl dX3_gain_5 ?_
  refine g_v1V hm (fun _ h => c_X0_become cty_5 cty_3 h) pn_5 (pc_5 _ _) rfl ce_X0_become lk_X3_50 rfl rfl dX3_gain_8 (fun m1 hm => ?_)
  refine g_aloadn_0 dX3_gain_11 ?_
  refine g_iloadn_1 dX3_gain_12 ?_
  refine g_v1V hm (fun _ h => c_X3_teachLowest h) pn_23 (pc_23 _ _) rfl ce_X3_teachLowest lk_X3_155 rfl rfl dX3_gain_13 (fun m2 hm => ?_)
  refine g_aloadn_0 dX3_gain_16 ?_
  refine g_iloadn_2 dX3_gain_17 ?_
  refine g_v1V hm (fun _ h => c_X3_teachLowest h) pn_23 (pc_23 _ _) rfl ce_X3_teachLowest lk_X3_155 rfl rfl dX3_gain_18 (fun m3 hm => ?_)
  refine g_aloadn_0 dX3_gain_21 ?_
  refine g_getr (q := 3) fo_3_0 pn_23 pc_23 rfl rfl dX3_gain_22 ?_
  refine g_iloadn_1 dX3_gain_25 ?_
  refine g_iconst 3 dX3_gain_26 rfl ?_
  refine g_v2 hm (fun _ _ h => c_X0_kid cty_3 h) pn_3 (pc_3 _ _) rfl ce_X0_kid lk_X3_105 rfl rfl dX3_gain_27 (fun x5 m4 hm => ?_)
  refine g_istoren_3 dX3_gain_30 rfl ?_
  refine g_aloadn_0 dX3_gain_31 ?_
  refine g_getr (q := 3) fo_3_0 pn_23 pc_23 rfl rfl dX3_gain_32 ?_
  refine g_iloadn_2 dX3_gain_35 ?_
  refine g_iconst 3 dX3_gain_36 rfl ?_
  refine g_v2 hm (fun _ _ h => c_X0_kid cty_3 h) pn_3 (pc_3 _ _) rfl ce_X0_kid lk_X3_105 rfl rfl dX3_gain_37 (fun x7 m6 hm => ?_)
  refine g_istore_4 dX3_gain_40 rfl ?_
  refine g_iconst 0 dX3_gain_42 rfl ?_
  refine g_istore_5 dX3_gain_43 rfl ?_
  refine g_iconst 0 dX3_gain_45 rfl ?_
  refine g_istore_6 dX3_gain_46 rfl ?_
  refine g_weak (vs' := [some (.ref (g.ad 23)), none, none, some (.int x5), some (.int x7), some (.int 0), some (.int 0), none]) ⟨rfl, ⟨rfl, ⟨rfl, ⟨rfl, ⟨rfl, trivial⟩⟩⟩⟩⟩ ?_
  refine g_lp (I := fun (s : Sg × Int32 × Int32) => GX g 5 RX3 cX3_gain 8 (some .int) (some (.int r)) mm 48 [some (.ref (g.ad 23)), none, none, some (.int x5), some (.int x7), some (.int (s.2.1)), some (.int (s.2.2)), none] [] s.1) (E := fun (s : Sg × Int32) => GX g 5 RX3 cX3_gain 8 (some .int) (some (.int r)) mm 114 [none, none, none, none, none, some (.int (s.2)), none, none] [] s.1) hm ?_ ?_
  · rintro ⟨m11, x12⟩ hm
    (try dsimp only at hm)
    (try dsimp only)
    refine g_iload_5 dX3_gain_114 ?_
    exact g_iret hm dX3_gain_116
  · rintro ⟨m8, x9, x10⟩ o hm hx14 hi13
    (try dsimp only [f_X3_gain_L48] at hm)
    (try dsimp only)
    refine g_iload_6 dX3_gain_48 ?_
    refine g_bipush 12 dX3_gain_50 rfl ?_
    refine g_icmp_ge 114 hm dX3_gain_52 (by decide) (fun hm => ?_) (fun hm => ?_)
    · refine g_weak (vs' := [none, none, none, none, none, some (.int x9), none, none]) ⟨rfl, trivial⟩ ?_
      cases hm
      exact hx14 _ rfl
    · refine g_aloadn_0 dX3_gain_55 ?_
      refine g_v0 hm (fun _ _ h => c_X3_rulerOfNextMonth h) pn_23 (pc_23 _ _) rfl ce_X3_rulerOfNextMonth lk_X3_54 rfl rfl dX3_gain_56 (fun x16 m15 hm => ?_)
      refine g_istore_7 dX3_gain_59 rfl ?_
      refine g_iload_5 dX3_gain_61 ?_
      refine g_aloadn_0 dX3_gain_63 ?_
      refine g_getr (q := 5) fo_3_1 pn_23 pc_23 rfl rfl dX3_gain_64 ?_
      refine g_iload_7 dX3_gain_67 ?_
      refine g_iloadn_3 dX3_gain_69 ?_
      refine g_v2 hm (fun _ _ h => c_X0_isOfNursery cty_5 h) pn_5 (pc_5 _ _) rfl ce_X0_isOfNursery lk_X3_80 rfl rfl dX3_gain_70 (fun x18 m17 hm => ?_)
      refine g_jn (J := fun (s : Sg × Int32) => GX g 5 RX3 cX3_gain 8 (some .int) (some (.int r)) mm 81 [some (.ref (g.ad 23)), none, none, some (.int x5), some (.int x7), none, some (.int x10), some (.int x16)] [.int (s.2), .int x9] s.1) hm ?_ ?_
      · rintro ⟨m19, x20⟩ hm
        (try dsimp only at hm)
        (try dsimp only)
        refine g_iadd dX3_gain_81 ?_
        refine g_istoreB_5 hm dX3_gain_82 rfl (fun x22 hm => ?_)
        refine g_iload_5 dX3_gain_84 ?_
        refine g_aloadn_0 dX3_gain_86 ?_
        refine g_getr (q := 5) fo_3_1 pn_23 pc_23 rfl rfl dX3_gain_87 ?_
        refine g_iload_7 dX3_gain_90 ?_
        refine g_iload_4 dX3_gain_92 ?_
        refine g_v2 hm (fun _ _ h => c_X0_isOfNursery cty_5 h) pn_5 (pc_5 _ _) rfl ce_X0_isOfNursery lk_X3_80 rfl rfl dX3_gain_94 (fun x24 m23 hm => ?_)
        refine g_jn (J := fun (s : Sg × Int32) => GX g 5 RX3 cX3_gain 8 (some .int) (some (.int r)) mm 105 [some (.ref (g.ad 23)), none, none, some (.int x5), some (.int x7), none, some (.int x10), none] [.int (s.2), .int x22] s.1) hm ?_ ?_
        · rintro ⟨m25, x26⟩ hm
          (try dsimp only at hm)
          (try dsimp only)
          refine g_isub dX3_gain_105 ?_
          refine g_istoreB_5 hm dX3_gain_106 rfl (fun x28 hm => ?_)
          refine g_iinc_6 1 hm dX3_gain_108 rfl rfl (fun x29 hm => ?_)
          refine g_goto 48 dX3_gain_111 (by decide) ?_
          cases hm
          exact hi13 _ rfl
        · intro k27 hk27 hm
          refine g_if_eq 104 hm dX3_gain_97 (by decide) (fun hm => ?_) (fun hm => ?_)
          · refine g_iconst 0 dX3_gain_104 rfl ?_
            refine g_weak (vs' := [some (.ref (g.ad 23)), none, none, some (.int x5), some (.int x7), none, some (.int x10), none]) ⟨rfl, ⟨rfl, ⟨rfl, ⟨rfl, trivial⟩⟩⟩⟩ ?_
            exact hk27 _ hm
          · refine g_iconst 1 dX3_gain_100 rfl ?_
            refine g_goto 105 dX3_gain_101 (by decide) ?_
            refine g_weak (vs' := [some (.ref (g.ad 23)), none, none, some (.int x5), some (.int x7), none, some (.int x10), none]) ⟨rfl, ⟨rfl, ⟨rfl, ⟨rfl, trivial⟩⟩⟩⟩ ?_
            exact hk27 _ hm
      · intro k21 hk21 hm
        refine g_if_eq 80 hm dX3_gain_73 (by decide) (fun hm => ?_) (fun hm => ?_)
        · refine g_iconst 0 dX3_gain_80 rfl ?_
          refine g_weak (vs' := [some (.ref (g.ad 23)), none, none, some (.int x5), some (.int x7), none, some (.int x10), some (.int x16)]) ⟨rfl, ⟨rfl, ⟨rfl, ⟨rfl, ⟨rfl, trivial⟩⟩⟩⟩⟩ ?_
          exact hk21 _ hm
        · refine g_iconst 1 dX3_gain_76 rfl ?_
          refine g_goto 81 dX3_gain_77 (by decide) ?_
          refine g_weak (vs' := [some (.ref (g.ad 23)), none, none, some (.int x5), some (.int x7), none, some (.int x10), some (.int x16)]) ⟨rfl, ⟨rfl, ⟨rfl, ⟨rfl, ⟨rfl, trivial⟩⟩⟩⟩⟩ ?_
          exact hk21 _ hm
def f_X3_restAt_L21 (a1 : Int32) (a2 : Int32) (a3 : Int32) (x3 : Int32) : (Sg × Int32 × Int32) → Option (((Sg × Int32) ⊕ (Sg × Int32)) ⊕ (Sg × Int32 × Int32)) := fun s => match s with
  | (m13, x14, x15) => 
  cal (f_X0_children 4 m13) (fun x23 m22 => (if x23 ≤ x15 then some (.inl (.inr (m22, x14))) else
  cal (f_X0_isOfNursery 4 m22 x3 a1) (fun x25 m24 => bnd (fun ((m26, x27) : Sg × Int32) => bnd (x15 + 1) (fun x29 => some (.inr (m26, x27, x29)))) (fun (k28 : Sg × Int32 → Option (((Sg × Int32) ⊕ (Sg × Int32)) ⊕ (Sg × Int32 × Int32))) =>
  (if x25 = 0 then k28 (m24, x14) else
  cal (f_X0_isOfNursery 4 m24 x15 a2) (fun x31 m30 => (if x31 = 0 then k28 (m30, x14) else
  cal (f_X3_isRest m30 x3 x15) (fun x33 m32 => (if x33 = 0 then k28 (m32, x14) else
  (if x14 = a3 then some (.inl (.inl (m32, x15))) else
  bnd (x14 + 1) (fun x34 => k28 (m32, x34))))))))))))
def f_X3_restAt_L6 (a1 : Int32) (a2 : Int32) (a3 : Int32) : (Sg × Int32 × Int32) → Option (((Sg × Int32 × Int32) ⊕ (Sg × Int32)) ⊕ (Sg × Int32 × Int32)) := fun s => match s with
  | (m1, x2, x3) => 
  cal (f_X0_children 4 m1) (fun x12 m11 => (if x12 ≤ x3 then some (.inl (.inr (m11, x2))) else
  lpk (f_X3_restAt_L21 a1 a2 a3 x3) (m11, x2, 0) (fun x => match x with
  | .inl (m16, x17) => some (.inl (.inl (m16, x3, x17)))
  | .inr (m18, x19) => bnd (x3 + 1) (fun x35 => some (.inr (m18, x19, x35))))))
def f_X3_restAt  (m : Sg) (a1 : Int32) (a2 : Int32) (a3 : Int32) : Option (Int32 × Sg) :=
  lpk (f_X3_restAt_L6 a1 a2 a3) (m, 0, 0) (fun x => match x with
  | .inl (m4, x5, x6) => some ((10 * x5) + x6, m4)
  | .inr (m7, x8) => (if a3 = (-1) then some (x8, m7) else
  some ((-1), m7)))
set_option maxRecDepth 4000 in
theorem c_X3_restAt {g : Cf} {m mm : Sg} {r : Int32} {a1 : Int32} {a2 : Int32} {a3 : Int32} (hm : f_X3_restAt  m a1 a2 a3 = some (r, mm)) : Cl g 3 yX3_restAt cX3_restAt 7 (some .int) [.ref (g.ad 23), .int a1, .int a2, .int a3] m (some (.int r)) mm := by
  refine cl_of (by decide) (Nat.le_of_ble_eq_true rfl) (vs := [some (.ref (g.ad 23)), some (.int a1), some (.int a2), some (.int a3), none, none, none]) rfl rfl ?_
  show GX g 3 RX3 cX3_restAt 7 (some .int) (some (.int r)) mm 0 _ [] m
  unfold f_X3_restAt at hm
  refine g_iconst 0 dX3_restAt_0 rfl ?_
  refine g_istore_4 dX3_restAt_1 rfl ?_
  refine g_iconst 0 dX3_restAt_3 rfl ?_
  refine g_istore_5 dX3_restAt_4 rfl ?_
  refine g_lp (I := fun (s : Sg × Int32 × Int32) => GX g 3 RX3 cX3_restAt 7 (some .int) (some (.int r)) mm 6 [some (.ref (g.ad 23)), some (.int a1), some (.int a2), some (.int a3), some (.int (s.2.1)), some (.int (s.2.2)), none] [] s.1) (E := fun (x : (Sg × Int32 × Int32) ⊕ (Sg × Int32)) => match x with | .inl (m4, x5, x6) => GX g 3 RX3 cX3_restAt 7 (some .int) (some (.int r)) mm 76 [none, none, none, none, none, some (.int x5), some (.int x6)] [] m4 | .inr (m7, x8) => GX g 3 RX3 cX3_restAt 7 (some .int) (some (.int r)) mm 100 [none, none, none, some (.int a3), some (.int x8), none, none] [] m7) hm ?_ ?_
  · rintro (⟨m4, x5, x6⟩ | ⟨m7, x8⟩) hm
    · (try dsimp only at hm)
      (try dsimp only)
      refine g_bipush 10 dX3_restAt_76 rfl ?_
      refine g_iload_5 dX3_restAt_78 ?_
      refine g_imul dX3_restAt_80 ?_
      refine g_iload_6 dX3_restAt_81 ?_
      refine g_iadd dX3_restAt_83 ?_
      exact g_iret hm dX3_restAt_84
    · (try dsimp only at hm)
      (try dsimp only)
      refine g_iloadn_3 dX3_restAt_100 ?_
      refine g_iconst (-1) dX3_restAt_101 rfl ?_
      refine g_icmp_ne 110 hm dX3_restAt_102 (by decide) (fun hm => ?_) (fun hm => ?_)
      · refine g_iconst (-1) dX3_restAt_110 rfl ?_
        exact g_iret hm dX3_restAt_111
      · refine g_iload_4 dX3_restAt_105 ?_
        refine g_goto 111 dX3_restAt_107 (by decide) ?_
        exact g_iret hm dX3_restAt_111
  · rintro ⟨m1, x2, x3⟩ o hm hx10 hi9
    (try dsimp only [f_X3_restAt_L6] at hm)
    (try dsimp only)
    refine g_iload_5 dX3_restAt_6 ?_
    refine g_aloadn_0 dX3_restAt_8 ?_
    refine g_getr (q := 3) fo_3_0 pn_23 pc_23 rfl rfl dX3_restAt_9 ?_
    refine g_v0 hm (fun _ _ h => c_X0_children cty_3 h) pn_3 (pc_3 _ _) rfl ce_X0_children lk_X3_148 rfl rfl dX3_restAt_12 (fun x12 m11 hm => ?_)
    refine g_icmp_ge 100 hm dX3_restAt_15 (by decide) (fun hm => ?_) (fun hm => ?_)
    · refine g_weak (vs' := [none, none, none, some (.int a3), some (.int x2), none, none]) ⟨rfl, ⟨rfl, trivial⟩⟩ ?_
      cases hm
      exact hx10 _ rfl
    · refine g_iconst 0 dX3_restAt_18 rfl ?_
      refine g_istore_6 dX3_restAt_19 rfl ?_
      refine g_lp (I := fun (s : Sg × Int32 × Int32) => GX g 3 RX3 cX3_restAt 7 (some .int) (some (.int r)) mm 21 [some (.ref (g.ad 23)), some (.int a1), some (.int a2), some (.int a3), some (.int (s.2.1)), some (.int x3), some (.int (s.2.2))] [] s.1) (E := fun (x : (Sg × Int32) ⊕ (Sg × Int32)) => match x with | .inl (m16, x17) => GX g 3 RX3 cX3_restAt 7 (some .int) (some (.int r)) mm 76 [none, none, none, none, none, some (.int x3), some (.int x17)] [] m16 | .inr (m18, x19) => GX g 3 RX3 cX3_restAt 7 (some .int) (some (.int r)) mm 94 [some (.ref (g.ad 23)), some (.int a1), some (.int a2), some (.int a3), some (.int x19), some (.int x3), none] [] m18) hm ?_ ?_
      · rintro (⟨m16, x17⟩ | ⟨m18, x19⟩) hm
        · (try dsimp only at hm)
          (try dsimp only)
          cases hm
          exact hx10 _ rfl
        · (try dsimp only at hm)
          (try dsimp only)
          refine g_iinc_5 1 hm dX3_restAt_94 rfl rfl (fun x35 hm => ?_)
          refine g_goto 6 dX3_restAt_97 (by decide) ?_
          cases hm
          exact hi9 _ rfl
      · rintro ⟨m13, x14, x15⟩ o hm hx21 hi20
        (try dsimp only [f_X3_restAt_L21] at hm)
        (try dsimp only)
        refine g_iload_6 dX3_restAt_21 ?_
        refine g_aloadn_0 dX3_restAt_23 ?_
        refine g_getr (q := 3) fo_3_0 pn_23 pc_23 rfl rfl dX3_restAt_24 ?_
        refine g_v0 hm (fun _ _ h => c_X0_children cty_3 h) pn_3 (pc_3 _ _) rfl ce_X0_children lk_X3_148 rfl rfl dX3_restAt_27 (fun x23 m22 hm => ?_)
        refine g_icmp_ge 94 hm dX3_restAt_30 (by decide) (fun hm => ?_) (fun hm => ?_)
        · refine g_weak (vs' := [some (.ref (g.ad 23)), some (.int a1), some (.int a2), some (.int a3), some (.int x14), some (.int x3), none]) ⟨rfl, ⟨rfl, ⟨rfl, ⟨rfl, ⟨rfl, ⟨rfl, trivial⟩⟩⟩⟩⟩⟩ ?_
          cases hm
          exact hx21 _ rfl
        · refine g_aloadn_0 dX3_restAt_33 ?_
          refine g_getr (q := 3) fo_3_0 pn_23 pc_23 rfl rfl dX3_restAt_34 ?_
          refine g_iload_5 dX3_restAt_37 ?_
          refine g_iloadn_1 dX3_restAt_39 ?_
          refine g_v2 hm (fun _ _ h => c_X0_isOfNursery cty_3 h) pn_3 (pc_3 _ _) rfl ce_X0_isOfNursery lk_X3_80 rfl rfl dX3_restAt_40 (fun x25 m24 hm => ?_)
          refine g_jn (J := fun (s : Sg × Int32) => GX g 3 RX3 cX3_restAt 7 (some .int) (some (.int r)) mm 88 [some (.ref (g.ad 23)), some (.int a1), some (.int a2), some (.int a3), some (.int (s.2)), some (.int x3), some (.int x15)] [] s.1) hm ?_ ?_
          · rintro ⟨m26, x27⟩ hm
            (try dsimp only at hm)
            (try dsimp only)
            refine g_iinc_6 1 hm dX3_restAt_88 rfl rfl (fun x29 hm => ?_)
            refine g_goto 21 dX3_restAt_91 (by decide) ?_
            cases hm
            exact hi20 _ rfl
          · intro k28 hk28 hm
            refine g_if_eq 88 hm dX3_restAt_43 (by decide) (fun hm => ?_) (fun hm => ?_)
            · exact hk28 _ hm
            · refine g_aloadn_0 dX3_restAt_46 ?_
              refine g_getr (q := 3) fo_3_0 pn_23 pc_23 rfl rfl dX3_restAt_47 ?_
              refine g_iload_6 dX3_restAt_50 ?_
              refine g_iloadn_2 dX3_restAt_52 ?_
              refine g_v2 hm (fun _ _ h => c_X0_isOfNursery cty_3 h) pn_3 (pc_3 _ _) rfl ce_X0_isOfNursery lk_X3_80 rfl rfl dX3_restAt_53 (fun x31 m30 hm => ?_)
              refine g_if_eq 88 hm dX3_restAt_56 (by decide) (fun hm => ?_) (fun hm => ?_)
              · exact hk28 _ hm
              · refine g_aloadn_0 dX3_restAt_59 ?_
                refine g_iload_5 dX3_restAt_60 ?_
                refine g_iload_6 dX3_restAt_62 ?_
                refine g_v2 hm (fun _ _ h => c_X3_isRest h) pn_23 (pc_23 _ _) rfl ce_X3_isRest lk_X3_164 rfl rfl dX3_restAt_64 (fun x33 m32 hm => ?_)
                refine g_if_eq 88 hm dX3_restAt_67 (by decide) (fun hm => ?_) (fun hm => ?_)
                · exact hk28 _ hm
                · refine g_iload_4 dX3_restAt_70 ?_
                  refine g_iloadn_3 dX3_restAt_72 ?_
                  refine g_icmp_ne 85 hm dX3_restAt_73 (by decide) (fun hm => ?_) (fun hm => ?_)
                  · refine g_iinc_4 1 hm dX3_restAt_85 rfl rfl (fun x34 hm => ?_)
                    exact hk28 _ hm
                  · refine g_weak (vs' := [none, none, none, none, none, some (.int x3), some (.int x15)]) ⟨rfl, ⟨rfl, trivial⟩⟩ ?_
                    cases hm
                    exact hx21 _ rfl
def f_X3_weighAll_L16 (a1 : Int32) (a2 : Int32) (x2 : Int32) : (Sg × Int32) → Option (((Sg)) ⊕ (Sg × Int32)) := fun s => match s with
  | (m8, x9) => 
  cal (f_X0_children 4 m8) (fun x14 m13 => (if x14 ≤ x9 then some (.inl m13) else
  cal (f_X3_placeOf m13 x2 x9) (fun x16 m15 => cal (f_X0_isOfNursery 4 m15 x2 a1) (fun x18 m17 => bnd (fun (m19 : Sg) => bnd (x9 + 1) (fun x21 => some (.inr (m19, x21)))) (fun (k20 : Sg → Option (((Sg)) ⊕ (Sg × Int32))) =>
  (if x18 = 0 then k20 m17 else
  cal (f_X0_isOfNursery 4 m17 x9 a2) (fun x23 m22 => (if x23 = 0 then k20 m22 else
  (if 64 ≤ x16 then k20 m22 else
  cal (f_X3_gain m22 x2 x9) (fun x25 m24 => if inr x16 64 = true then bnd (wr m24 26 x16.toNatClampNeg x25) (fun m26 => k20 m26) else none))))))))))
def f_X3_weighAll_L2 (a1 : Int32) (a2 : Int32) : (Sg × Int32) → Option (((Sg)) ⊕ (Sg × Int32)) := fun s => match s with
  | (m1, x2) => 
  cal (f_X0_children 4 m1) (fun x7 m6 => (if x7 ≤ x2 then some (.inl m6) else
  lpk (f_X3_weighAll_L16 a1 a2 x2) (m6, 0) (fun m10 => bnd (x2 + 1) (fun x27 => some (.inr (m10, x27))))))
def f_X3_weighAll  (m : Sg) (a1 : Int32) (a2 : Int32) : Option (Sg) :=
  lpk (f_X3_weighAll_L2 a1 a2) (m, 0) (fun m3 => some m3)
set_option maxRecDepth 4000 in
theorem c_X3_weighAll {g : Cf} {m mm : Sg} {a1 : Int32} {a2 : Int32} (hm : f_X3_weighAll  m a1 a2 = some mm) : Cl g 6 yX3_weighAll cX3_weighAll 6 none [.ref (g.ad 23), .int a1, .int a2] m none mm := by
  refine cl_of (by decide) (Nat.le_of_ble_eq_true rfl) (vs := [some (.ref (g.ad 23)), some (.int a1), some (.int a2), none, none, none]) rfl rfl ?_
  show GX g 6 RX3 cX3_weighAll 6 none none mm 0 _ [] m
  unfold f_X3_weighAll at hm
  refine g_iconst 0 dX3_weighAll_0 rfl ?_
  refine g_istoren_3 dX3_weighAll_1 rfl ?_
  refine g_lp (I := fun (s : Sg × Int32) => GX g 6 RX3 cX3_weighAll 6 none none mm 2 [some (.ref (g.ad 23)), some (.int a1), some (.int a2), some (.int (s.2)), none, none] [] s.1) (E := fun (s : Sg) => GX g 6 RX3 cX3_weighAll 6 none none mm 97 [none, none, none, none, none, none] [] s) hm ?_ ?_
  · rintro m3 hm
    (try dsimp only at hm)
    (try dsimp only)
    exact g_vret hm dX3_weighAll_97
  · rintro ⟨m1, x2⟩ o hm hx5 hi4
    (try dsimp only [f_X3_weighAll_L2] at hm)
    (try dsimp only)
    refine g_iloadn_3 dX3_weighAll_2 ?_
    refine g_aloadn_0 dX3_weighAll_3 ?_
    refine g_getr (q := 3) fo_3_0 pn_23 pc_23 rfl rfl dX3_weighAll_4 ?_
    refine g_v0 hm (fun _ _ h => c_X0_children cty_3 h) pn_3 (pc_3 _ _) rfl ce_X0_children lk_X3_148 rfl rfl dX3_weighAll_7 (fun x7 m6 hm => ?_)
    refine g_icmp_ge 97 hm dX3_weighAll_10 (by decide) (fun hm => ?_) (fun hm => ?_)
    · refine g_weak (vs' := [none, none, none, none, none, none]) trivial ?_
      cases hm
      exact hx5 _ rfl
    · refine g_iconst 0 dX3_weighAll_13 rfl ?_
      refine g_istore_4 dX3_weighAll_14 rfl ?_
      refine g_lp (I := fun (s : Sg × Int32) => GX g 6 RX3 cX3_weighAll 6 none none mm 16 [some (.ref (g.ad 23)), some (.int a1), some (.int a2), some (.int x2), some (.int (s.2)), none] [] s.1) (E := fun (s : Sg) => GX g 6 RX3 cX3_weighAll 6 none none mm 91 [some (.ref (g.ad 23)), some (.int a1), some (.int a2), some (.int x2), none, none] [] s) hm ?_ ?_
      · rintro m10 hm
        (try dsimp only at hm)
        (try dsimp only)
        refine g_iinc_3 1 hm dX3_weighAll_91 rfl rfl (fun x27 hm => ?_)
        refine g_goto 2 dX3_weighAll_94 (by decide) ?_
        cases hm
        exact hi4 _ rfl
      · rintro ⟨m8, x9⟩ o hm hx12 hi11
        (try dsimp only [f_X3_weighAll_L16] at hm)
        (try dsimp only)
        refine g_iload_4 dX3_weighAll_16 ?_
        refine g_aloadn_0 dX3_weighAll_18 ?_
        refine g_getr (q := 3) fo_3_0 pn_23 pc_23 rfl rfl dX3_weighAll_19 ?_
        refine g_v0 hm (fun _ _ h => c_X0_children cty_3 h) pn_3 (pc_3 _ _) rfl ce_X0_children lk_X3_148 rfl rfl dX3_weighAll_22 (fun x14 m13 hm => ?_)
        refine g_icmp_ge 91 hm dX3_weighAll_25 (by decide) (fun hm => ?_) (fun hm => ?_)
        · refine g_weak (vs' := [some (.ref (g.ad 23)), some (.int a1), some (.int a2), some (.int x2), none, none]) ⟨rfl, ⟨rfl, ⟨rfl, ⟨rfl, trivial⟩⟩⟩⟩ ?_
          cases hm
          exact hx12 _ rfl
        · refine g_iloadn_3 dX3_weighAll_28 ?_
          refine g_iload_4 dX3_weighAll_29 ?_
          refine g_s2 hm (fun _ _ h => c_X3_placeOf h) ce_X3_placeOf lk_X3_167 rfl rfl dX3_weighAll_31 (fun x16 m15 hm => ?_)
          refine g_istore_5 dX3_weighAll_34 rfl ?_
          refine g_aloadn_0 dX3_weighAll_36 ?_
          refine g_getr (q := 3) fo_3_0 pn_23 pc_23 rfl rfl dX3_weighAll_37 ?_
          refine g_iloadn_3 dX3_weighAll_40 ?_
          refine g_iloadn_1 dX3_weighAll_41 ?_
          refine g_v2 hm (fun _ _ h => c_X0_isOfNursery cty_3 h) pn_3 (pc_3 _ _) rfl ce_X0_isOfNursery lk_X3_80 rfl rfl dX3_weighAll_42 (fun x18 m17 hm => ?_)
          refine g_jn (J := fun (s : Sg) => GX g 6 RX3 cX3_weighAll 6 none none mm 85 [some (.ref (g.ad 23)), some (.int a1), some (.int a2), some (.int x2), some (.int x9), none] [] s) hm ?_ ?_
          · intro m19 hm
            refine g_iinc_4 1 hm dX3_weighAll_85 rfl rfl (fun x21 hm => ?_)
            refine g_goto 16 dX3_weighAll_88 (by decide) ?_
            cases hm
            exact hi11 _ rfl
          · intro k20 hk20 hm
            refine g_if_eq 85 hm dX3_weighAll_45 (by decide) (fun hm => ?_) (fun hm => ?_)
            · refine g_weak (vs' := [some (.ref (g.ad 23)), some (.int a1), some (.int a2), some (.int x2), some (.int x9), none]) ⟨rfl, ⟨rfl, ⟨rfl, ⟨rfl, ⟨rfl, trivial⟩⟩⟩⟩⟩ ?_
              exact hk20 _ hm
            · refine g_aloadn_0 dX3_weighAll_48 ?_
              refine g_getr (q := 3) fo_3_0 pn_23 pc_23 rfl rfl dX3_weighAll_49 ?_
              refine g_iload_4 dX3_weighAll_52 ?_
              refine g_iloadn_2 dX3_weighAll_54 ?_
              refine g_v2 hm (fun _ _ h => c_X0_isOfNursery cty_3 h) pn_3 (pc_3 _ _) rfl ce_X0_isOfNursery lk_X3_80 rfl rfl dX3_weighAll_55 (fun x23 m22 hm => ?_)
              refine g_if_eq 85 hm dX3_weighAll_58 (by decide) (fun hm => ?_) (fun hm => ?_)
              · refine g_weak (vs' := [some (.ref (g.ad 23)), some (.int a1), some (.int a2), some (.int x2), some (.int x9), none]) ⟨rfl, ⟨rfl, ⟨rfl, ⟨rfl, ⟨rfl, trivial⟩⟩⟩⟩⟩ ?_
                exact hk20 _ hm
              · refine g_iload_5 dX3_weighAll_61 ?_
                refine g_aloadn_0 dX3_weighAll_63 ?_
                refine g_getr (q := 26) fo_3_5 pn_23 pc_23 rfl rfl dX3_weighAll_64 ?_
                refine g_alen (ty := .int) 64 ar_26.1 ar_26.2 rfl rfl dX3_weighAll_67 ?_
                refine g_icmp_ge 85 hm dX3_weighAll_68 (by decide) (fun hm => ?_) (fun hm => ?_)
                · refine g_weak (vs' := [some (.ref (g.ad 23)), some (.int a1), some (.int a2), some (.int x2), some (.int x9), none]) ⟨rfl, ⟨rfl, ⟨rfl, ⟨rfl, ⟨rfl, trivial⟩⟩⟩⟩⟩ ?_
                  exact hk20 _ hm
                · refine g_aloadn_0 dX3_weighAll_71 ?_
                  refine g_getr (q := 26) fo_3_5 pn_23 pc_23 rfl rfl dX3_weighAll_72 ?_
                  refine g_iload_5 dX3_weighAll_75 ?_
                  refine g_aloadn_0 dX3_weighAll_77 ?_
                  refine g_iloadn_3 dX3_weighAll_78 ?_
                  refine g_iload_4 dX3_weighAll_79 ?_
                  refine g_v2 hm (fun _ _ h => c_X3_gain h) pn_23 (pc_23 _ _) rfl ce_X3_gain lk_X3_170 rfl rfl dX3_weighAll_81 (fun x25 m24 hm => ?_)
                  refine g_iastore hm ar_26.1 ar_26.2 dX3_weighAll_84 (fun m26 hm => ?_)
                  refine g_weak (vs' := [some (.ref (g.ad 23)), some (.int a1), some (.int a2), some (.int x2), some (.int x9), none]) ⟨rfl, ⟨rfl, ⟨rfl, ⟨rfl, ⟨rfl, trivial⟩⟩⟩⟩⟩ ?_
                  exact hk20 _ hm
def f_X3_seekRowOfLength_L3 (a1 : Int32) (a2 : Int32) (a3 : Int32) (a4 : Int32) (a5 : Int32) : (Sg × Int32) → Option (((Sg)) ⊕ (Sg × Int32)) := fun s => match s with
  | (m1, x2) => 
  (if a4 ≤ x2 then some (.inl m1) else
  (if a2 ≤ (m1.1 23 7) then some (.inl m1) else
  cal (f_X3_isOfTens m1 x2 a3 a5) (fun x7 m6 => bnd (fun (m8 : Sg) => bnd (x2 + 1) (fun x10 => some (.inr (m8, x10)))) (fun (k9 : Sg → Option (((Sg)) ⊕ (Sg × Int32))) =>
  (if x7 = 0 then k9 m6 else
  cal (f_X3_monthsByRow m6 a1 a2 x2 a3) (fun x12 m11 => (if x12 ≤ (m11.1 23 7) then k9 m11 else
  bnd (wr m11 23 6 x2) (fun m13 => bnd (wr m13 23 8 a3) (fun m14 => bnd (wr m14 23 7 x12) (fun m15 => k9 m15))))))))))
def f_X3_seekRowOfLength  (m : Sg) (a1 : Int32) (a2 : Int32) (a3 : Int32) (a4 : Int32) (a5 : Int32) : Option (Sg) :=
  lpk (f_X3_seekRowOfLength_L3 a1 a2 a3 a4 a5) (m, 0) (fun m3 => some m3)
set_option maxRecDepth 4000 in
theorem c_X3_seekRowOfLength {g : Cf} {m mm : Sg} {a1 : Int32} {a2 : Int32} {a3 : Int32} {a4 : Int32} {a5 : Int32} (hm : f_X3_seekRowOfLength  m a1 a2 a3 a4 a5 = some mm) : Cl g 4 yX3_seekRowOfLength cX3_seekRowOfLength 8 none [.ref (g.ad 23), .int a1, .int a2, .int a3, .int a4, .int a5] m none mm := by
  refine cl_of (by decide) (Nat.le_of_ble_eq_true rfl) (vs := [some (.ref (g.ad 23)), some (.int a1), some (.int a2), some (.int a3), some (.int a4), some (.int a5), none, none]) rfl rfl ?_
  show GX g 4 RX3 cX3_seekRowOfLength 8 none none mm 0 _ [] m
  unfold f_X3_seekRowOfLength at hm
  refine g_iconst 0 dX3_seekRowOfLength_0 rfl ?_
  refine g_istore_6 dX3_seekRowOfLength_1 rfl ?_
  refine g_lp (I := fun (s : Sg × Int32) => GX g 4 RX3 cX3_seekRowOfLength 8 none none mm 3 [some (.ref (g.ad 23)), some (.int a1), some (.int a2), some (.int a3), some (.int a4), some (.int a5), some (.int (s.2)), none] [] s.1) (E := fun (s : Sg) => GX g 4 RX3 cX3_seekRowOfLength 8 none none mm 75 [none, none, none, none, none, none, none, none] [] s) hm ?_ ?_
  · rintro m3 hm
    (try dsimp only at hm)
    (try dsimp only)
    exact g_vret hm dX3_seekRowOfLength_75
  · rintro ⟨m1, x2⟩ o hm hx5 hi4
    (try dsimp only [f_X3_seekRowOfLength_L3] at hm)
    (try dsimp only)
    refine g_iload_6 dX3_seekRowOfLength_3 ?_
    refine g_iload_4 dX3_seekRowOfLength_5 ?_
    refine g_icmp_ge 75 hm dX3_seekRowOfLength_7 (by decide) (fun hm => ?_) (fun hm => ?_)
    · refine g_weak (vs' := [none, none, none, none, none, none, none, none]) trivial ?_
      cases hm
      exact hx5 _ rfl
    · refine g_aloadn_0 dX3_seekRowOfLength_10 ?_
      refine g_geti fo_3_7 pn_23 pc_23 rfl dX3_seekRowOfLength_11 ?_
      refine g_iloadn_2 dX3_seekRowOfLength_14 ?_
      refine g_icmp_ge 75 hm dX3_seekRowOfLength_15 (by decide) (fun hm => ?_) (fun hm => ?_)
      · refine g_weak (vs' := [none, none, none, none, none, none, none, none]) trivial ?_
        cases hm
        exact hx5 _ rfl
      · refine g_iload_6 dX3_seekRowOfLength_18 ?_
        refine g_iloadn_3 dX3_seekRowOfLength_20 ?_
        refine g_iload_5 dX3_seekRowOfLength_21 ?_
        refine g_s3 hm (fun _ _ h => c_X3_isOfTens h) ce_X3_isOfTens lk_X3_113 rfl rfl dX3_seekRowOfLength_23 (fun x7 m6 hm => ?_)
        refine g_jn (J := fun (s : Sg) => GX g 4 RX3 cX3_seekRowOfLength 8 none none mm 69 [some (.ref (g.ad 23)), some (.int a1), some (.int a2), some (.int a3), some (.int a4), some (.int a5), some (.int x2), none] [] s) hm ?_ ?_
        · intro m8 hm
          refine g_iinc_6 1 hm dX3_seekRowOfLength_69 rfl rfl (fun x10 hm => ?_)
          refine g_goto 3 dX3_seekRowOfLength_72 (by decide) ?_
          cases hm
          exact hi4 _ rfl
        · intro k9 hk9 hm
          refine g_if_ne 32 hm dX3_seekRowOfLength_26 (by decide) (fun hm => ?_) (fun hm => ?_)
          · refine g_aloadn_0 dX3_seekRowOfLength_32 ?_
            refine g_iloadn_1 dX3_seekRowOfLength_33 ?_
            refine g_iloadn_2 dX3_seekRowOfLength_34 ?_
            refine g_iload_6 dX3_seekRowOfLength_35 ?_
            refine g_iloadn_3 dX3_seekRowOfLength_37 ?_
            refine g_v4 hm (fun _ _ h => c_X3_monthsByRow h) pn_23 (pc_23 _ _) rfl ce_X3_monthsByRow lk_X3_98 rfl rfl dX3_seekRowOfLength_38 (fun x12 m11 hm => ?_)
            refine g_istore_7 dX3_seekRowOfLength_41 rfl ?_
            refine g_iload_7 dX3_seekRowOfLength_43 ?_
            refine g_aloadn_0 dX3_seekRowOfLength_45 ?_
            refine g_geti fo_3_7 pn_23 pc_23 rfl dX3_seekRowOfLength_46 ?_
            refine g_icmp_le 69 hm dX3_seekRowOfLength_49 (by decide) (fun hm => ?_) (fun hm => ?_)
            · refine g_weak (vs' := [some (.ref (g.ad 23)), some (.int a1), some (.int a2), some (.int a3), some (.int a4), some (.int a5), some (.int x2), none]) ⟨rfl, ⟨rfl, ⟨rfl, ⟨rfl, ⟨rfl, ⟨rfl, ⟨rfl, trivial⟩⟩⟩⟩⟩⟩⟩ ?_
              exact hk9 _ hm
            · refine g_aloadn_0 dX3_seekRowOfLength_52 ?_
              refine g_iload_6 dX3_seekRowOfLength_53 ?_
              refine g_put hm fo_3_6 fp_3_6 pn_23 pc_23 rfl dX3_seekRowOfLength_55 (fun m13 hm => ?_)
              refine g_aloadn_0 dX3_seekRowOfLength_58 ?_
              refine g_iloadn_3 dX3_seekRowOfLength_59 ?_
              refine g_put hm fo_3_8 fp_3_8 pn_23 pc_23 rfl dX3_seekRowOfLength_60 (fun m14 hm => ?_)
              refine g_aloadn_0 dX3_seekRowOfLength_63 ?_
              refine g_iload_7 dX3_seekRowOfLength_64 ?_
              refine g_put hm fo_3_7 fp_3_7 pn_23 pc_23 rfl dX3_seekRowOfLength_66 (fun m15 hm => ?_)
              refine g_weak (vs' := [some (.ref (g.ad 23)), some (.int a1), some (.int a2), some (.int a3), some (.int a4), some (.int a5), some (.int x2), none]) ⟨rfl, ⟨rfl, ⟨rfl, ⟨rfl, ⟨rfl, ⟨rfl, ⟨rfl, trivial⟩⟩⟩⟩⟩⟩⟩ ?_
              exact hk9 _ hm
          · refine g_goto 69 dX3_seekRowOfLength_29 (by decide) ?_
            exact hk9 _ hm
def f_X3_seekRow_L62 (a1 : Int32) (a2 : Int32) (x11 : Int32) : (Sg × Int32 × Int32) → Option (((Sg)) ⊕ (Sg × Int32 × Int32)) := fun s => match s with
  | (m12, x13, x14) => 
  (if 3 < x14 then some (.inl m12) else
  bnd (x13 * 10) (fun x18 => cal (f_X0_kid 4 m12 a1 4) (fun x20 m19 => bnd (fun (m21 : Sg) => bnd (x14 + 1) (fun x23 => some (.inr (m21, x18, x23)))) (fun (k22 : Sg → Option (((Sg)) ⊕ (Sg × Int32 × Int32))) =>
  (if a2 < (x14 * x20) then k22 m19 else
  calv (f_X3_seekRowOfLength m19 a1 a2 x14 x18 x11) (fun m24 => k22 m24))))))
def f_X3_seekRow  (m : Sg) (a1 : Int32) (a2 : Int32) : Option (Sg) :=
  calv (f_X3_foreseeOthers m a1 a2) (fun m1 => bnd (wr m1 23 6 (-1)) (fun m2 => bnd (wr m2 23 8 0) (fun m3 => cal (f_X3_monthsByRow m3 a1 a2 0 0) (fun x5 m4 => bnd (wr m4 23 7 x5) (fun m6 => cal (f_X0_rightOf 4 m6 a1) (fun x8 m7 => cal (f_X0_kid 4 m7 a1 8) (fun x10 m9 => bnd ((511 &&& (x8 ^^^ (-1))) &&& (x10 ^^^ (-1))) (fun x11 => lpk (f_X3_seekRow_L62 a1 a2 x11) (m9, 1, 1) (fun m15 => some m15)))))))))
set_option maxRecDepth 4000 in
theorem c_X3_seekRow {g : Cf} {m mm : Sg} {a1 : Int32} {a2 : Int32} (hm : f_X3_seekRow  m a1 a2 = some mm) : Cl g 5 yX3_seekRow cX3_seekRow 6 none [.ref (g.ad 23), .int a1, .int a2] m none mm := by
  refine cl_of (by decide) (Nat.le_of_ble_eq_true rfl) (vs := [some (.ref (g.ad 23)), some (.int a1), some (.int a2), none, none, none]) rfl rfl ?_
  show GX g 5 RX3 cX3_seekRow 6 none none mm 0 _ [] m
  unfold f_X3_seekRow at hm
  refine g_aloadn_0 dX3_seekRow_0 ?_
  refine g_iloadn_1 dX3_seekRow_1 ?_
  refine g_iloadn_2 dX3_seekRow_2 ?_
  refine g_v2V hm (fun _ h => c_X3_foreseeOthers h) pn_23 (pc_23 _ _) rfl ce_X3_foreseeOthers lk_X3_95 rfl rfl dX3_seekRow_3 (fun m1 hm => ?_)
  refine g_aloadn_0 dX3_seekRow_6 ?_
  refine g_iconst (-1) dX3_seekRow_7 rfl ?_
  refine g_put hm fo_3_6 fp_3_6 pn_23 pc_23 rfl dX3_seekRow_8 (fun m2 hm => ?_)
  refine g_aloadn_0 dX3_seekRow_11 ?_
  refine g_iconst 0 dX3_seekRow_12 rfl ?_
  refine g_put hm fo_3_8 fp_3_8 pn_23 pc_23 rfl dX3_seekRow_13 (fun m3 hm => ?_)
  refine g_aloadn_0 dX3_seekRow_16 ?_
  refine g_aloadn_0 dX3_seekRow_17 ?_
  refine g_iloadn_1 dX3_seekRow_18 ?_
  refine g_iloadn_2 dX3_seekRow_19 ?_
  refine g_iconst 0 dX3_seekRow_20 rfl ?_
  refine g_iconst 0 dX3_seekRow_21 rfl ?_
  refine g_v4 hm (fun _ _ h => c_X3_monthsByRow h) pn_23 (pc_23 _ _) rfl ce_X3_monthsByRow lk_X3_98 rfl rfl dX3_seekRow_22 (fun x5 m4 hm => ?_)
  refine g_put hm fo_3_7 fp_3_7 pn_23 pc_23 rfl dX3_seekRow_25 (fun m6 hm => ?_)
  refine g_sipush 511 dX3_seekRow_28 rfl ?_
  refine g_aloadn_0 dX3_seekRow_31 ?_
  refine g_getr (q := 3) fo_3_0 pn_23 pc_23 rfl rfl dX3_seekRow_32 ?_
  refine g_iloadn_1 dX3_seekRow_35 ?_
  refine g_v1 hm (fun _ _ h => c_X0_rightOf cty_3 h) pn_3 (pc_3 _ _) rfl ce_X0_rightOf lk_X3_102 rfl rfl dX3_seekRow_36 (fun x8 m7 hm => ?_)
  refine g_iconst (-1) dX3_seekRow_39 rfl ?_
  refine g_ixor dX3_seekRow_40 ?_
  refine g_iand dX3_seekRow_41 ?_
  refine g_aloadn_0 dX3_seekRow_42 ?_
  refine g_getr (q := 3) fo_3_0 pn_23 pc_23 rfl rfl dX3_seekRow_43 ?_
  refine g_iloadn_1 dX3_seekRow_46 ?_
  refine g_bipush 8 dX3_seekRow_47 rfl ?_
  refine g_v2 hm (fun _ _ h => c_X0_kid cty_3 h) pn_3 (pc_3 _ _) rfl ce_X0_kid lk_X3_105 rfl rfl dX3_seekRow_49 (fun x10 m9 hm => ?_)
  refine g_iconst (-1) dX3_seekRow_52 rfl ?_
  refine g_ixor dX3_seekRow_53 ?_
  refine g_iand dX3_seekRow_54 ?_
  refine g_istoreBn_3 hm dX3_seekRow_55 rfl (fun x11 hm => ?_)
  refine g_iconst 1 dX3_seekRow_56 rfl ?_
  refine g_istore_4 dX3_seekRow_57 rfl ?_
  refine g_iconst 1 dX3_seekRow_59 rfl ?_
  refine g_istore_5 dX3_seekRow_60 rfl ?_
  refine g_lp (I := fun (s : Sg × Int32 × Int32) => GX g 5 RX3 cX3_seekRow 6 none none mm 62 [some (.ref (g.ad 23)), some (.int a1), some (.int a2), some (.int x11), some (.int (s.2.1)), some (.int (s.2.2))] [] s.1) (E := fun (s : Sg) => GX g 5 RX3 cX3_seekRow 6 none none mm 108 [none, none, none, none, none, none] [] s) hm ?_ ?_
  · rintro m15 hm
    (try dsimp only at hm)
    (try dsimp only)
    exact g_vret hm dX3_seekRow_108
  · rintro ⟨m12, x13, x14⟩ o hm hx17 hi16
    (try dsimp only [f_X3_seekRow_L62] at hm)
    (try dsimp only)
    refine g_iload_5 dX3_seekRow_62 ?_
    refine g_iconst 3 dX3_seekRow_64 rfl ?_
    refine g_icmp_gt 108 hm dX3_seekRow_65 (by decide) (fun hm => ?_) (fun hm => ?_)
    · refine g_weak (vs' := [none, none, none, none, none, none]) trivial ?_
      cases hm
      exact hx17 _ rfl
    · refine g_iload_4 dX3_seekRow_68 ?_
      refine g_bipush 10 dX3_seekRow_70 rfl ?_
      refine g_imul dX3_seekRow_72 ?_
      refine g_istoreB_4 hm dX3_seekRow_73 rfl (fun x18 hm => ?_)
      refine g_iload_5 dX3_seekRow_75 ?_
      refine g_aloadn_0 dX3_seekRow_77 ?_
      refine g_getr (q := 3) fo_3_0 pn_23 pc_23 rfl rfl dX3_seekRow_78 ?_
      refine g_iloadn_1 dX3_seekRow_81 ?_
      refine g_iconst 4 dX3_seekRow_82 rfl ?_
      refine g_v2 hm (fun _ _ h => c_X0_kid cty_3 h) pn_3 (pc_3 _ _) rfl ce_X0_kid lk_X3_105 rfl rfl dX3_seekRow_83 (fun x20 m19 hm => ?_)
      refine g_imul dX3_seekRow_86 ?_
      refine g_iloadn_2 dX3_seekRow_87 ?_
      refine g_jn (J := fun (s : Sg) => GX g 5 RX3 cX3_seekRow 6 none none mm 102 [some (.ref (g.ad 23)), some (.int a1), some (.int a2), some (.int x11), some (.int x18), some (.int x14)] [] s) hm ?_ ?_
      · intro m21 hm
        refine g_iinc_5 1 hm dX3_seekRow_102 rfl rfl (fun x23 hm => ?_)
        refine g_goto 62 dX3_seekRow_105 (by decide) ?_
        cases hm
        exact hi16 _ rfl
      · intro k22 hk22 hm
        refine g_icmp_gt 102 hm dX3_seekRow_88 (by decide) (fun hm => ?_) (fun hm => ?_)
        · exact hk22 _ hm
        · refine g_aloadn_0 dX3_seekRow_91 ?_
          refine g_iloadn_1 dX3_seekRow_92 ?_
          refine g_iloadn_2 dX3_seekRow_93 ?_
          refine g_iload_5 dX3_seekRow_94 ?_
          refine g_iload_4 dX3_seekRow_96 ?_
          refine g_iloadn_3 dX3_seekRow_98 ?_
          refine g_v5V hm (fun _ h => c_X3_seekRowOfLength h) pn_23 (pc_23 _ _) rfl ce_X3_seekRowOfLength lk_X3_109 rfl rfl dX3_seekRow_99 (fun m24 hm => ?_)
          exact hk22 _ hm
