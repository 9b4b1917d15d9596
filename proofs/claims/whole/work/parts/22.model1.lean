def f_X11_thrown  (m : Sg)  : Option (Int32 × Sg) :=
  some (m.1 27 0, m)
set_option maxRecDepth 4000 in
theorem c_X11_thrown {g : Cf} {m mm : Sg} {r : Int32} (hm : f_X11_thrown  m  = some (r, mm)) : Cl g 0 yX11_thrown cX11_thrown 1 (some .int) [.ref (g.ad 27)] m (some (.int r)) mm := by
  refine cl_of (by decide) (Nat.le_of_ble_eq_true rfl) (vs := [some (.ref (g.ad 27))]) rfl rfl ?_
  show GX g 0 RX11 cX11_thrown 1 (some .int) (some (.int r)) mm 0 _ [] m
  unfold f_X11_thrown at hm
  refine g_aloadn_0 dX11_thrown_0 ?_
  refine g_geti fo_11_0 pn_27 pc_27 rfl dX11_thrown_1 ?_
  exact g_iret hm dX11_thrown_4
def f_X11_isIn  (m : Sg) (a1 : Int64) (a2 : Int64) (a3 : Int64) : Option (Int32 × Sg) :=
  (if (lg_cmp a1 a2) < 0 then some (0, m) else
  (if 0 < (lg_cmp a1 a3) then some (0, m) else
  some (1, m)))
set_option maxRecDepth 4000 in
theorem c_X11_isIn {g : Cf} {m mm : Sg} {r : Int32} {a1 : Int64} {a2 : Int64} {a3 : Int64} (hm : f_X11_isIn  m a1 a2 a3 = some (r, mm)) : Cl g 0 yX11_isIn cX11_isIn 6 (some .boolean) [.long a1, .long a2, .long a3] m (some (.int r)) mm := by
  refine cl_of (by decide) (Nat.le_of_ble_eq_true rfl) (vs := [some (.long a1), none, some (.long a2), none, some (.long a3), none]) rfl rfl ?_
  show GX g 0 RX11 cX11_isIn 6 (some .boolean) (some (.int r)) mm 0 _ [] m
  unfold f_X11_isIn at hm
  refine g_lloadn_0 dX11_isIn_0 ?_
  refine g_lloadn_2 dX11_isIn_1 ?_
  refine g_lcmp dX11_isIn_2 ?_
  refine g_if_lt 17 hm dX11_isIn_3 (by decide) (fun hm => ?_) (fun hm => ?_)
  · refine g_iconst 0 dX11_isIn_17 rfl ?_
    exact g_zretc hm rfl dX11_isIn_18
  · refine g_lloadn_0 dX11_isIn_6 ?_
    refine g_lload_4 dX11_isIn_7 ?_
    refine g_lcmp dX11_isIn_9 ?_
    refine g_if_gt 17 hm dX11_isIn_10 (by decide) (fun hm => ?_) (fun hm => ?_)
    · refine g_iconst 0 dX11_isIn_17 rfl ?_
      exact g_zretc hm rfl dX11_isIn_18
    · refine g_iconst 1 dX11_isIn_13 rfl ?_
      refine g_goto 18 dX11_isIn_14 (by decide) ?_
      exact g_zretc hm rfl dX11_isIn_18
def f_X11_has  (m : Sg) (a1 : Int32) (a2 : Int32) : Option (Int32 × Sg) :=
  (if ((a1 >>> (a2 &&& 31)) &&& 1) = 1 then some (1, m) else
  some (0, m))
set_option maxRecDepth 4000 in
theorem c_X11_has {g : Cf} {m mm : Sg} {r : Int32} {a1 : Int32} {a2 : Int32} (hm : f_X11_has  m a1 a2 = some (r, mm)) : Cl g 0 yX11_has cX11_has 2 (some .boolean) [.int a1, .int a2] m (some (.int r)) mm := by
  refine cl_of (by decide) (Nat.le_of_ble_eq_true rfl) (vs := [some (.int a1), some (.int a2)]) rfl rfl ?_
  show GX g 0 RX11 cX11_has 2 (some .boolean) (some (.int r)) mm 0 _ [] m
  unfold f_X11_has at hm
  refine g_iloadn_0 dX11_has_0 ?_
  refine g_iloadn_1 dX11_has_1 ?_
  refine g_ishr dX11_has_2 ?_
  refine g_iconst 1 dX11_has_3 rfl ?_
  refine g_iand dX11_has_4 ?_
  refine g_iconst 1 dX11_has_5 rfl ?_
  refine g_icmp_ne 13 hm dX11_has_6 (by decide) (fun hm => ?_) (fun hm => ?_)
  · refine g_iconst 0 dX11_has_13 rfl ?_
    exact g_zretc hm rfl dX11_has_14
  · refine g_iconst 1 dX11_has_9 rfl ?_
    refine g_goto 14 dX11_has_10 (by decide) ?_
    exact g_zretc hm rfl dX11_has_14
def f_X11_isAmong_L2 (k : Nat) (a1 : Int32) : (Sg × Int32) → Option (((Sg) ⊕ (Sg)) ⊕ (Sg × Int32)) := fun s => match s with
  | (m1, x2) => 
  cal (f_J0_length_8abf5 k m1) (fun x8 m7 => (if x8 ≤ x2 then some (.inl (.inr m7)) else
  cal (f_J0_charAt_5068e k m7 x2) (fun x10 m9 => (if x10 = a1 then some (.inl (.inl m9)) else
  bnd (x2 + 1) (fun x11 => some (.inr (m9, x11)))))))
def f_X11_isAmong (k : Nat) (m : Sg) (a1 : Int32) : Option (Int32 × Sg) :=
  lpk (f_X11_isAmong_L2 k a1) (m, 0) (fun x => match x with
  | .inl m3 => some (1, m3)
  | .inr m4 => some (0, m4))
set_option maxRecDepth 4000 in
theorem c_X11_isAmong {g : Cf} {m mm : Sg} {r : Int32} {k : Nat} {a1 : Int32} (HX : XOK g) (Hk : k < 5) (hm : f_X11_isAmong k m a1 = some (r, mm)) : Cl g 4 yX11_isAmong cX11_isAmong 3 (some .boolean) [.ref (g.sa k), .int a1] m (some (.int r)) mm := by
  refine cl_of (by decide) (Nat.le_of_ble_eq_true rfl) (vs := [some (.ref (g.sa k)), some (.int a1), none]) rfl rfl ?_
  show GX g 4 RX11 cX11_isAmong 3 (some .boolean) (some (.int r)) mm 0 _ [] m
  unfold f_X11_isAmong at hm
  refine g_iconst 0 dX11_isAmong_0 rfl ?_
  refine g_istoren_2 dX11_isAmong_1 rfl ?_
  refine g_lp (I := fun (s : Sg × Int32) => GX g 4 RX11 cX11_isAmong 3 (some .boolean) (some (.int r)) mm 2 [some (.ref (g.sa k)), some (.int a1), some (.int (s.2))] [] s.1) (E := fun (x : (Sg) ⊕ (Sg)) => match x with | .inl m3 => GX g 4 RX11 cX11_isAmong 3 (some .boolean) (some (.int r)) mm 19 [none, none, none] [] m3 | .inr m4 => GX g 4 RX11 cX11_isAmong 3 (some .boolean) (some (.int r)) mm 27 [none, none, none] [] m4) hm ?_ ?_
  · rintro (m3 | m4) hm
    · (try dsimp only at hm)
      (try dsimp only)
      refine g_iconst 1 dX11_isAmong_19 rfl ?_
      exact g_zretc hm rfl dX11_isAmong_20
    · (try dsimp only at hm)
      (try dsimp only)
      refine g_iconst 0 dX11_isAmong_27 rfl ?_
      exact g_zretc hm rfl dX11_isAmong_28
  · rintro ⟨m1, x2⟩ o hm hx6 hi5
    (try dsimp only [f_X11_isAmong_L2] at hm)
    (try dsimp only)
    refine g_iloadn_2 dX11_isAmong_2 ?_
    refine g_aloadn_0 dX11_isAmong_3 ?_
    refine g_w0 hm (fun _ _ h => c_J0_length_8abf5 HX Hk h) HX Hk ce_J0_length_8abf5 lk_X11_83 rfl rfl dX11_isAmong_4 (fun x8 m7 hm => ?_)
    refine g_icmp_ge 27 hm dX11_isAmong_7 (by decide) (fun hm => ?_) (fun hm => ?_)
    · refine g_weak (vs' := [none, none, none]) trivial ?_
      cases hm
      exact hx6 _ rfl
    · refine g_aloadn_0 dX11_isAmong_10 ?_
      refine g_iloadn_2 dX11_isAmong_11 ?_
      refine g_w1 hm (fun _ _ h => c_J0_charAt_5068e HX Hk h) HX Hk ce_J0_charAt_5068e lk_X11_89 rfl rfl dX11_isAmong_12 (fun x10 m9 hm => ?_)
      refine g_iloadn_1 dX11_isAmong_15 ?_
      refine g_icmp_ne 21 hm dX11_isAmong_16 (by decide) (fun hm => ?_) (fun hm => ?_)
      · refine g_iinc_2 1 hm dX11_isAmong_21 rfl rfl (fun x11 hm => ?_)
        refine g_goto 2 dX11_isAmong_24 (by decide) ?_
        cases hm
        exact hi5 _ rfl
      · refine g_weak (vs' := [none, none, none]) trivial ?_
        cases hm
        exact hx6 _ rfl
def f_X11_bytesIn_L5 (a1 : Int32) : (Sg × Int32 × Int32) → Option (((Sg × Int32)) ⊕ (Sg × Int32 × Int32)) := fun s => match s with
  | (m1, x2, x3) => 
  (if x3 < 0 then some (.inl (m1, x2)) else
  bnd (fun ((m8, x9) : Sg × Int32) => bnd (x2 + x9) (fun x11 => bnd (x3 + (-8)) (fun x12 => some (.inr (m8, x11, x12))))) (fun (k10 : Sg × Int32 → Option (((Sg × Int32)) ⊕ (Sg × Int32 × Int32))) =>
  (if ((a1 >>> (x3 &&& 31)) &&& 255) = 0 then k10 (m1, 0) else
  k10 (m1, 1))))
def f_X11_bytesIn  (m : Sg) (a1 : Int32) : Option (Int32 × Sg) :=
  lpk (f_X11_bytesIn_L5 a1) (m, 0, 24) (fun ((m4, x5) : Sg × Int32) => some (x5, m4))
set_option maxRecDepth 4000 in
theorem c_X11_bytesIn {g : Cf} {m mm : Sg} {r : Int32} {a1 : Int32} (hm : f_X11_bytesIn  m a1 = some (r, mm)) : Cl g 0 yX11_bytesIn cX11_bytesIn 3 (some .int) [.int a1] m (some (.int r)) mm := by
  refine cl_of (by decide) (Nat.le_of_ble_eq_true rfl) (vs := [some (.int a1), none, none]) rfl rfl ?_
  show GX g 0 RX11 cX11_bytesIn 3 (some .int) (some (.int r)) mm 0 _ [] m
  unfold f_X11_bytesIn at hm
  refine g_iconst 0 dX11_bytesIn_0 rfl ?_
  refine g_istoren_1 dX11_bytesIn_1 rfl ?_
  refine g_bipush 24 dX11_bytesIn_2 rfl ?_
  refine g_istoren_2 dX11_bytesIn_4 rfl ?_
  refine g_lp (I := fun (s : Sg × Int32 × Int32) => GX g 0 RX11 cX11_bytesIn 3 (some .int) (some (.int r)) mm 5 [some (.int a1), some (.int (s.2.1)), some (.int (s.2.2))] [] s.1) (E := fun (s : Sg × Int32) => GX g 0 RX11 cX11_bytesIn 3 (some .int) (some (.int r)) mm 33 [none, some (.int (s.2)), none] [] s.1) hm ?_ ?_
  · rintro ⟨m4, x5⟩ hm
    (try dsimp only at hm)
    (try dsimp only)
    refine g_iloadn_1 dX11_bytesIn_33 ?_
    exact g_iret hm dX11_bytesIn_34
  · rintro ⟨m1, x2, x3⟩ o hm hx7 hi6
    (try dsimp only [f_X11_bytesIn_L5] at hm)
    (try dsimp only)
    refine g_iloadn_2 dX11_bytesIn_5 ?_
    refine g_if_lt 33 hm dX11_bytesIn_6 (by decide) (fun hm => ?_) (fun hm => ?_)
    · refine g_weak (vs' := [none, some (.int x2), none]) ⟨rfl, trivial⟩ ?_
      cases hm
      exact hx7 _ rfl
    · refine g_iloadn_1 dX11_bytesIn_9 ?_
      refine g_iloadn_0 dX11_bytesIn_10 ?_
      refine g_iloadn_2 dX11_bytesIn_11 ?_
      refine g_ishr dX11_bytesIn_12 ?_
      refine g_sipush 255 dX11_bytesIn_13 rfl ?_
      refine g_iand dX11_bytesIn_16 ?_
      refine g_jn (J := fun (s : Sg × Int32) => GX g 0 RX11 cX11_bytesIn 3 (some .int) (some (.int r)) mm 25 [some (.int a1), none, some (.int x3)] [.int (s.2), .int x2] s.1) hm ?_ ?_
      · rintro ⟨m8, x9⟩ hm
        (try dsimp only at hm)
        (try dsimp only)
        refine g_iadd dX11_bytesIn_25 ?_
        refine g_istoreBn_1 hm dX11_bytesIn_26 rfl (fun x11 hm => ?_)
        refine g_iinc_2 (-8) hm dX11_bytesIn_27 rfl rfl (fun x12 hm => ?_)
        refine g_goto 5 dX11_bytesIn_30 (by decide) ?_
        cases hm
        exact hi6 _ rfl
      · intro k10 hk10 hm
        refine g_if_eq 24 hm dX11_bytesIn_17 (by decide) (fun hm => ?_) (fun hm => ?_)
        · refine g_iconst 0 dX11_bytesIn_24 rfl ?_
          refine g_weak (vs' := [some (.int a1), none, some (.int x3)]) ⟨rfl, ⟨rfl, trivial⟩⟩ ?_
          exact hk10 _ hm
        · refine g_iconst 1 dX11_bytesIn_20 rfl ?_
          refine g_goto 25 dX11_bytesIn_21 (by decide) ?_
          refine g_weak (vs' := [some (.int a1), none, some (.int x3)]) ⟨rfl, ⟨rfl, trivial⟩⟩ ?_
          exact hk10 _ hm
def f_X11_put_L3 (a1 : Int32) : (Sg × Int32) → Option (((Sg)) ⊕ (Sg × Int32)) := fun s => match s with
  | (m1, x2) => 
  (if x2 < 0 then some (.inl m1) else
  bnd (fun (m6 : Sg) => bnd (x2 + (-8)) (fun x8 => some (.inr (m6, x8)))) (fun (k7 : Sg → Option (((Sg)) ⊕ (Sg × Int32))) =>
  (if ((a1 >>> (x2 &&& 31)) &&& 255) = 0 then k7 m1 else
  if inr (m1.1 27 6) 240 = true then bnd (wr m1 28 (m1.1 27 6).toNatClampNeg (vp_nar .byte ((a1 >>> (x2 &&& 31) : Int32).toInt8.toInt32))) (fun m9 => bnd (wr m9 27 6 ((m9.1 27 6) + 1)) (fun m10 => k7 m10)) else none)))
def f_X11_put  (m : Sg) (a1 : Int32) : Option (Sg) :=
  lpk (f_X11_put_L3 a1) (m, 24) (fun m3 => some m3)
set_option maxRecDepth 4000 in
theorem c_X11_put {g : Cf} {m mm : Sg} {a1 : Int32} (hm : f_X11_put  m a1 = some mm) : Cl g 0 yX11_put cX11_put 3 none [.ref (g.ad 27), .int a1] m none mm := by
  refine cl_of (by decide) (Nat.le_of_ble_eq_true rfl) (vs := [some (.ref (g.ad 27)), some (.int a1), none]) rfl rfl ?_
  show GX g 0 RX11 cX11_put 3 none none mm 0 _ [] m
  unfold f_X11_put at hm
  refine g_bipush 24 dX11_put_0 rfl ?_
  refine g_istoren_2 dX11_put_2 rfl ?_
  refine g_lp (I := fun (s : Sg × Int32) => GX g 0 RX11 cX11_put 3 none none mm 3 [some (.ref (g.ad 27)), some (.int a1), some (.int (s.2))] [] s.1) (E := fun (s : Sg) => GX g 0 RX11 cX11_put 3 none none mm 49 [none, none, none] [] s) hm ?_ ?_
  · rintro m3 hm
    (try dsimp only at hm)
    (try dsimp only)
    exact g_vret hm dX11_put_49
  · rintro ⟨m1, x2⟩ o hm hx5 hi4
    (try dsimp only [f_X11_put_L3] at hm)
    (try dsimp only)
    refine g_iloadn_2 dX11_put_3 ?_
    refine g_if_lt 49 hm dX11_put_4 (by decide) (fun hm => ?_) (fun hm => ?_)
    · refine g_weak (vs' := [none, none, none]) trivial ?_
      cases hm
      exact hx5 _ rfl
    · refine g_iloadn_1 dX11_put_7 ?_
      refine g_iloadn_2 dX11_put_8 ?_
      refine g_ishr dX11_put_9 ?_
      refine g_sipush 255 dX11_put_10 rfl ?_
      refine g_iand dX11_put_13 ?_
      refine g_jn (J := fun (s : Sg) => GX g 0 RX11 cX11_put 3 none none mm 43 [some (.ref (g.ad 27)), some (.int a1), some (.int x2)] [] s) hm ?_ ?_
      · intro m6 hm
        refine g_iinc_2 (-8) hm dX11_put_43 rfl rfl (fun x8 hm => ?_)
        refine g_goto 3 dX11_put_46 (by decide) ?_
        cases hm
        exact hi4 _ rfl
      · intro k7 hk7 hm
        refine g_if_ne 20 hm dX11_put_14 (by decide) (fun hm => ?_) (fun hm => ?_)
        · refine g_aloadn_0 dX11_put_20 ?_
          refine g_getr (q := 28) fo_11_1 pn_27 pc_27 rfl rfl dX11_put_21 ?_
          refine g_aloadn_0 dX11_put_24 ?_
          refine g_geti fo_11_6 pn_27 pc_27 rfl dX11_put_25 ?_
          refine g_iloadn_1 dX11_put_28 ?_
          refine g_iloadn_2 dX11_put_29 ?_
          refine g_ishr dX11_put_30 ?_
          refine g_i2b dX11_put_31 ?_
          refine g_bastore hm ar_28.1 ar_28.2 dX11_put_32 (fun m9 hm => ?_)
          refine g_aloadn_0 dX11_put_33 ?_
          refine g_dup dX11_put_34 rfl ?_
          refine g_geti fo_11_6 pn_27 pc_27 rfl dX11_put_35 ?_
          refine g_iconst 1 dX11_put_38 rfl ?_
          refine g_iadd dX11_put_39 ?_
          refine g_put hm fo_11_6 fp_11_6 pn_27 pc_27 rfl dX11_put_40 (fun m10 hm => ?_)
          exact hk7 _ hm
        · refine g_goto 43 dX11_put_17 (by decide) ?_
          exact hk7 _ hm
def f_X11_feed  (m : Sg) (a1 : Int32) (a2 : Int32) (a3 : Int32) (a4 : Int32) (a5 : Int32) : Option (Int32 × Sg) :=
  bnd (wr m 27 0 0) (fun m1 => cal (f_X11_bytesIn m1 a1) (fun x3 m2 => cal (f_X11_bytesIn m2 a2) (fun x5 m4 => cal (f_X11_bytesIn m4 a3) (fun x7 m6 => cal (f_X11_bytesIn m6 a4) (fun x9 m8 => cal (f_X11_bytesIn m8 a5) (fun x11 m10 => (if ((((((m1.1 27 6) + x3) + x5) + x7) + x9) + x11) ≤ 240 then calv (f_X11_put m10 a1) (fun m12 => calv (f_X11_put m12 a2) (fun m13 => calv (f_X11_put m13 a3) (fun m14 => calv (f_X11_put m14 a4) (fun m15 => calv (f_X11_put m15 a5) (fun m16 => some (m16.1 27 6, m16)))))) else
  some ((-1), m10))))))))
set_option maxRecDepth 4000 in
theorem c_X11_feed {g : Cf} {m mm : Sg} {r : Int32} {a1 : Int32} {a2 : Int32} {a3 : Int32} {a4 : Int32} {a5 : Int32} (hm : f_X11_feed  m a1 a2 a3 a4 a5 = some (r, mm)) : Cl g 1 yX11_feed cX11_feed 6 (some .int) [.ref (g.ad 27), .int a1, .int a2, .int a3, .int a4, .int a5] m (some (.int r)) mm := by
  refine cl_of (by decide) (Nat.le_of_ble_eq_true rfl) (vs := [some (.ref (g.ad 27)), some (.int a1), some (.int a2), some (.int a3), some (.int a4), some (.int a5)]) rfl rfl ?_
  show GX g 1 RX11 cX11_feed 6 (some .int) (some (.int r)) mm 0 _ [] m
  unfold f_X11_feed at hm
  refine g_aloadn_0 dX11_feed_0 ?_
  refine g_iconst 0 dX11_feed_1 rfl ?_
  refine g_put hm fo_11_0 fp_11_0 pn_27 pc_27 rfl dX11_feed_2 (fun m1 hm => ?_)
  refine g_aloadn_0 dX11_feed_5 ?_
  refine g_geti fo_11_6 pn_27 pc_27 rfl dX11_feed_6 ?_
  refine g_iloadn_1 dX11_feed_9 ?_
  refine g_s1 hm (fun _ _ h => c_X11_bytesIn h) ce_X11_bytesIn lk_X11_95 rfl rfl dX11_feed_10 (fun x3 m2 hm => ?_)
  refine g_iadd dX11_feed_13 ?_
  refine g_iloadn_2 dX11_feed_14 ?_
  refine g_s1 hm (fun _ _ h => c_X11_bytesIn h) ce_X11_bytesIn lk_X11_95 rfl rfl dX11_feed_15 (fun x5 m4 hm => ?_)
  refine g_iadd dX11_feed_18 ?_
  refine g_iloadn_3 dX11_feed_19 ?_
  refine g_s1 hm (fun _ _ h => c_X11_bytesIn h) ce_X11_bytesIn lk_X11_95 rfl rfl dX11_feed_20 (fun x7 m6 hm => ?_)
  refine g_iadd dX11_feed_23 ?_
  refine g_iload_4 dX11_feed_24 ?_
  refine g_s1 hm (fun _ _ h => c_X11_bytesIn h) ce_X11_bytesIn lk_X11_95 rfl rfl dX11_feed_26 (fun x9 m8 hm => ?_)
  refine g_iadd dX11_feed_29 ?_
  refine g_iload_5 dX11_feed_30 ?_
  refine g_s1 hm (fun _ _ h => c_X11_bytesIn h) ce_X11_bytesIn lk_X11_95 rfl rfl dX11_feed_32 (fun x11 m10 hm => ?_)
  refine g_iadd dX11_feed_35 ?_
  refine g_sipush 240 dX11_feed_36 rfl ?_
  refine g_icmp_le 44 hm dX11_feed_39 (by decide) (fun hm => ?_) (fun hm => ?_)
  · refine g_aloadn_0 dX11_feed_44 ?_
    refine g_iloadn_1 dX11_feed_45 ?_
    refine g_v1V hm (fun _ h => c_X11_put h) pn_27 (pc_27 _ _) rfl ce_X11_put lk_X11_99 rfl rfl dX11_feed_46 (fun m12 hm => ?_)
    refine g_aloadn_0 dX11_feed_49 ?_
    refine g_iloadn_2 dX11_feed_50 ?_
    refine g_v1V hm (fun _ h => c_X11_put h) pn_27 (pc_27 _ _) rfl ce_X11_put lk_X11_99 rfl rfl dX11_feed_51 (fun m13 hm => ?_)
    refine g_aloadn_0 dX11_feed_54 ?_
    refine g_iloadn_3 dX11_feed_55 ?_
    refine g_v1V hm (fun _ h => c_X11_put h) pn_27 (pc_27 _ _) rfl ce_X11_put lk_X11_99 rfl rfl dX11_feed_56 (fun m14 hm => ?_)
    refine g_aloadn_0 dX11_feed_59 ?_
    refine g_iload_4 dX11_feed_60 ?_
    refine g_v1V hm (fun _ h => c_X11_put h) pn_27 (pc_27 _ _) rfl ce_X11_put lk_X11_99 rfl rfl dX11_feed_62 (fun m15 hm => ?_)
    refine g_aloadn_0 dX11_feed_65 ?_
    refine g_iload_5 dX11_feed_66 ?_
    refine g_v1V hm (fun _ h => c_X11_put h) pn_27 (pc_27 _ _) rfl ce_X11_put lk_X11_99 rfl rfl dX11_feed_68 (fun m16 hm => ?_)
    refine g_aloadn_0 dX11_feed_71 ?_
    refine g_geti fo_11_6 pn_27 pc_27 rfl dX11_feed_72 ?_
    exact g_iret hm dX11_feed_75
  · refine g_iconst (-1) dX11_feed_42 rfl ?_
    exact g_iret hm dX11_feed_43
def f_X11_end  (m : Sg) (a1 : Int32) : Option (Int32 × Sg) :=
  bnd (wr m 27 0 0) (fun m1 => (if a1 < 0 then some (0, m1) else
  (if a1 ≤ (m1.1 27 6) then bnd (wr m1 27 6 a1) (fun m2 => some (1, m2)) else
  some (0, m1))))
set_option maxRecDepth 4000 in
theorem c_X11_end {g : Cf} {m mm : Sg} {r : Int32} {a1 : Int32} (hm : f_X11_end  m a1 = some (r, mm)) : Cl g 0 yX11_end cX11_end 2 (some .boolean) [.ref (g.ad 27), .int a1] m (some (.int r)) mm := by
  refine cl_of (by decide) (Nat.le_of_ble_eq_true rfl) (vs := [some (.ref (g.ad 27)), some (.int a1)]) rfl rfl ?_
  show GX g 0 RX11 cX11_end 2 (some .boolean) (some (.int r)) mm 0 _ [] m
  unfold f_X11_end at hm
  refine g_aloadn_0 dX11_end_0 ?_
  refine g_iconst 0 dX11_end_1 rfl ?_
  refine g_put hm fo_11_0 fp_11_0 pn_27 pc_27 rfl dX11_end_2 (fun m1 hm => ?_)
  refine g_iloadn_1 dX11_end_5 ?_
  refine g_if_lt 17 hm dX11_end_6 (by decide) (fun hm => ?_) (fun hm => ?_)
  · refine g_iconst 0 dX11_end_17 rfl ?_
    exact g_zretc hm rfl dX11_end_18
  · refine g_iloadn_1 dX11_end_9 ?_
    refine g_aloadn_0 dX11_end_10 ?_
    refine g_geti fo_11_6 pn_27 pc_27 rfl dX11_end_11 ?_
    refine g_icmp_le 19 hm dX11_end_14 (by decide) (fun hm => ?_) (fun hm => ?_)
    · refine g_aloadn_0 dX11_end_19 ?_
      refine g_iloadn_1 dX11_end_20 ?_
      refine g_put hm fo_11_6 fp_11_6 pn_27 pc_27 rfl dX11_end_21 (fun m2 hm => ?_)
      refine g_iconst 1 dX11_end_24 rfl ?_
      exact g_zretc hm rfl dX11_end_25
    · refine g_iconst 0 dX11_end_17 rfl ?_
      exact g_zretc hm rfl dX11_end_18
def f_X11_look_L0  : Sg → Option (((Sg)) ⊕ (Sg)) := fun m1 => 
  (if (m1.1 27 9) ≤ (m1.1 27 10) then some (.inl m1) else
  if inr ((m1.1 27 8) + (m1.1 27 10)) (if m1.1 27 5 = 0 then 240 else 960) = true then (if (m1.1 (if m1.1 27 5 = 0 then 28 else 29) ((m1.1 27 8) + (m1.1 27 10)).toNatClampNeg) = 32 then bnd (wr m1 27 10 ((m1.1 27 10) + 1)) (fun m5 => some (.inr m5)) else
  some (.inl m1)) else none)
def f_X11_look  (m : Sg)  : Option (Int32 × Sg) :=
  lpk (f_X11_look_L0) m (fun m2 => (if (m2.1 27 9) ≤ (m2.1 27 10) then some ((-1), m2) else
  if inr ((m2.1 27 8) + (m2.1 27 10)) (if m2.1 27 5 = 0 then 240 else 960) = true then some ((m2.1 (if m2.1 27 5 = 0 then 28 else 29) ((m2.1 27 8) + (m2.1 27 10)).toNatClampNeg) &&& 255, m2) else none))
set_option maxRecDepth 4000 in
theorem c_X11_look {g : Cf} {m mm : Sg} {r : Int32} (hm : f_X11_look  m  = some (r, mm)) : Cl g 0 yX11_look cX11_look 1 (some .int) [.ref (g.ad 27)] m (some (.int r)) mm := by
  refine cl_of (by decide) (Nat.le_of_ble_eq_true rfl) (vs := [some (.ref (g.ad 27))]) rfl rfl ?_
  show GX g 0 RX11 cX11_look 1 (some .int) (some (.int r)) mm 0 _ [] m
  unfold f_X11_look at hm
  refine g_lp (I := fun (s : Sg) => GX g 0 RX11 cX11_look 1 (some .int) (some (.int r)) mm 0 [some (.ref (g.ad 27))] [] s) (E := fun (s : Sg) => GX g 0 RX11 cX11_look 1 (some .int) (some (.int r)) mm 43 [some (.ref (g.ad 27))] [] s) hm ?_ ?_
  · rintro m2 hm
    (try dsimp only at hm)
    (try dsimp only)
    refine g_aloadn_0 dX11_look_43 ?_
    refine g_geti fo_11_10 pn_27 pc_27 rfl dX11_look_44 ?_
    refine g_aloadn_0 dX11_look_47 ?_
    refine g_geti fo_11_9 pn_27 pc_27 rfl dX11_look_48 ?_
    refine g_icmp_ge 75 hm dX11_look_51 (by decide) (fun hm => ?_) (fun hm => ?_)
    · refine g_iconst (-1) dX11_look_75 rfl ?_
      exact g_iret hm dX11_look_76
    · refine g_aloadn_0 dX11_look_54 ?_
      refine g_gett fo_11_5 pn_27 pc_27 rfl dX11_look_55 ?_
      refine g_aloadn_0 dX11_look_58 ?_
      refine g_geti fo_11_8 pn_27 pc_27 rfl dX11_look_59 ?_
      refine g_aloadn_0 dX11_look_62 ?_
      refine g_geti fo_11_10 pn_27 pc_27 rfl dX11_look_63 ?_
      refine g_iadd dX11_look_66 ?_
      refine g_baload hm (ar_txt (m2.1 27 5)).1 (ar_txt (m2.1 27 5)).2 dX11_look_67 (fun hm => ?_)
      refine g_sipush 255 dX11_look_68 rfl ?_
      refine g_iand dX11_look_71 ?_
      refine g_goto 76 dX11_look_72 (by decide) ?_
      exact g_iret hm dX11_look_76
  · rintro m1 o hm hx4 hi3
    (try dsimp only [f_X11_look_L0] at hm)
    (try dsimp only)
    refine g_aloadn_0 dX11_look_0 ?_
    refine g_geti fo_11_10 pn_27 pc_27 rfl dX11_look_1 ?_
    refine g_aloadn_0 dX11_look_4 ?_
    refine g_geti fo_11_9 pn_27 pc_27 rfl dX11_look_5 ?_
    refine g_icmp_ge 43 hm dX11_look_8 (by decide) (fun hm => ?_) (fun hm => ?_)
    · cases hm
      exact hx4 _ rfl
    · refine g_aloadn_0 dX11_look_11 ?_
      refine g_gett fo_11_5 pn_27 pc_27 rfl dX11_look_12 ?_
      refine g_aloadn_0 dX11_look_15 ?_
      refine g_geti fo_11_8 pn_27 pc_27 rfl dX11_look_16 ?_
      refine g_aloadn_0 dX11_look_19 ?_
      refine g_geti fo_11_10 pn_27 pc_27 rfl dX11_look_20 ?_
      refine g_iadd dX11_look_23 ?_
      refine g_baload hm (ar_txt (m1.1 27 5)).1 (ar_txt (m1.1 27 5)).2 dX11_look_24 (fun hm => ?_)
      refine g_bipush 32 dX11_look_25 rfl ?_
      refine g_icmp_ne 43 hm dX11_look_27 (by decide) (fun hm => ?_) (fun hm => ?_)
      · cases hm
        exact hx4 _ rfl
      · refine g_aloadn_0 dX11_look_30 ?_
        refine g_dup dX11_look_31 rfl ?_
        refine g_geti fo_11_10 pn_27 pc_27 rfl dX11_look_32 ?_
        refine g_iconst 1 dX11_look_35 rfl ?_
        refine g_iadd dX11_look_36 ?_
        refine g_put hm fo_11_10 fp_11_10 pn_27 pc_27 rfl dX11_look_37 (fun m5 hm => ?_)
        refine g_goto 0 dX11_look_40 (by decide) ?_
        cases hm
        exact hi3 _ rfl
def f_X11_fails  (m : Sg)  : Option (Int32 × Sg) :=
  (if (m.1 27 11) = (-1) then bnd (wr m 27 11 (m.1 27 10)) (fun m1 => some (0, m1)) else
  some (0, m))
set_option maxRecDepth 4000 in
theorem c_X11_fails {g : Cf} {m mm : Sg} {r : Int32} (hm : f_X11_fails  m  = some (r, mm)) : Cl g 0 yX11_fails cX11_fails 1 (some .boolean) [.ref (g.ad 27)] m (some (.int r)) mm := by
  refine cl_of (by decide) (Nat.le_of_ble_eq_true rfl) (vs := [some (.ref (g.ad 27))]) rfl rfl ?_
  show GX g 0 RX11 cX11_fails 1 (some .boolean) (some (.int r)) mm 0 _ [] m
  unfold f_X11_fails at hm
  refine g_aloadn_0 dX11_fails_0 ?_
  refine g_geti fo_11_11 pn_27 pc_27 rfl dX11_fails_1 ?_
  refine g_iconst (-1) dX11_fails_4 rfl ?_
  refine g_icmp_ne 16 hm dX11_fails_5 (by decide) (fun hm => ?_) (fun hm => ?_)
  · refine g_iconst 0 dX11_fails_16 rfl ?_
    exact g_zretc hm rfl dX11_fails_17
  · refine g_aloadn_0 dX11_fails_8 ?_
    refine g_aloadn_0 dX11_fails_9 ?_
    refine g_geti fo_11_10 pn_27 pc_27 rfl dX11_fails_10 ?_
    refine g_put hm fo_11_11 fp_11_11 pn_27 pc_27 rfl dX11_fails_13 (fun m1 hm => ?_)
    refine g_iconst 0 dX11_fails_16 rfl ?_
    exact g_zretc hm rfl dX11_fails_17
def f_X11_goesIn  (m : Sg)  : Option (Int32 × Sg) :=
  (if (m.1 27 12) = 6 then cal (f_X11_fails m) (fun x4 m3 => if isB x4 = true then some (x4, m3) else none) else
  bnd (wr m 27 12 ((m.1 27 12) + 1)) (fun m1 => bnd (wr m1 27 10 ((m1.1 27 10) + 1)) (fun m2 => some (1, m2))))
set_option maxRecDepth 4000 in
theorem c_X11_goesIn {g : Cf} {m mm : Sg} {r : Int32} (hm : f_X11_goesIn  m  = some (r, mm)) : Cl g 1 yX11_goesIn cX11_goesIn 1 (some .boolean) [.ref (g.ad 27)] m (some (.int r)) mm := by
  refine cl_of (by decide) (Nat.le_of_ble_eq_true rfl) (vs := [some (.ref (g.ad 27))]) rfl rfl ?_
  show GX g 1 RX11 cX11_goesIn 1 (some .boolean) (some (.int r)) mm 0 _ [] m
  unfold f_X11_goesIn at hm
  refine g_aloadn_0 dX11_goesIn_0 ?_
  refine g_geti fo_11_12 pn_27 pc_27 rfl dX11_goesIn_1 ?_
  refine g_bipush 6 dX11_goesIn_4 rfl ?_
  refine g_icmp_ne 14 hm dX11_goesIn_6 (by decide) (fun hm => ?_) (fun hm => ?_)
  · refine g_aloadn_0 dX11_goesIn_14 ?_
    refine g_dup dX11_goesIn_15 rfl ?_
    refine g_geti fo_11_12 pn_27 pc_27 rfl dX11_goesIn_16 ?_
    refine g_iconst 1 dX11_goesIn_19 rfl ?_
    refine g_iadd dX11_goesIn_20 ?_
    refine g_put hm fo_11_12 fp_11_12 pn_27 pc_27 rfl dX11_goesIn_21 (fun m1 hm => ?_)
    refine g_aloadn_0 dX11_goesIn_24 ?_
    refine g_dup dX11_goesIn_25 rfl ?_
    refine g_geti fo_11_10 pn_27 pc_27 rfl dX11_goesIn_26 ?_
    refine g_iconst 1 dX11_goesIn_29 rfl ?_
    refine g_iadd dX11_goesIn_30 ?_
    refine g_put hm fo_11_10 fp_11_10 pn_27 pc_27 rfl dX11_goesIn_31 (fun m2 hm => ?_)
    refine g_iconst 1 dX11_goesIn_34 rfl ?_
    exact g_zretc hm rfl dX11_goesIn_35
  · refine g_aloadn_0 dX11_goesIn_9 ?_
    refine g_v0 hm (fun _ _ h => c_X11_fails h) pn_27 (pc_27 _ _) rfl ce_X11_fails lk_X11_118 rfl rfl dX11_goesIn_10 (fun x4 m3 hm => ?_)
    exact g_zret hm dX11_goesIn_13
def f_X11_takes  (m : Sg) (a1 : Int32) : Option (Int32 × Sg) :=
  bnd (fun (m1 : Sg) => cal (f_X11_fails m1) (fun x4 m3 => if isB x4 = true then some (x4, m3) else none)) (fun (k2 : Sg → Option (Int32 × Sg)) =>
  (if (m.1 27 11) = (-1) then cal (f_X11_look m) (fun x6 m5 => (if x6 = a1 then bnd (wr m5 27 10 ((m5.1 27 10) + 1)) (fun m7 => some (1, m7)) else
  k2 m5)) else
  k2 m))
set_option maxRecDepth 4000 in
theorem c_X11_takes {g : Cf} {m mm : Sg} {r : Int32} {a1 : Int32} (hm : f_X11_takes  m a1 = some (r, mm)) : Cl g 1 yX11_takes cX11_takes 2 (some .boolean) [.ref (g.ad 27), .int a1] m (some (.int r)) mm := by
  refine cl_of (by decide) (Nat.le_of_ble_eq_true rfl) (vs := [some (.ref (g.ad 27)), some (.int a1)]) rfl rfl ?_
  show GX g 1 RX11 cX11_takes 2 (some .boolean) (some (.int r)) mm 0 _ [] m
  unfold f_X11_takes at hm
  refine g_aloadn_0 dX11_takes_0 ?_
  refine g_geti fo_11_11 pn_27 pc_27 rfl dX11_takes_1 ?_
  refine g_iconst (-1) dX11_takes_4 rfl ?_
  refine g_jn (J := fun (s : Sg) => GX g 1 RX11 cX11_takes 2 (some .boolean) (some (.int r)) mm 16 [some (.ref (g.ad 27)), none] [] s) hm ?_ ?_
  · intro m1 hm
    refine g_aloadn_0 dX11_takes_16 ?_
    refine g_v0 hm (fun _ _ h => c_X11_fails h) pn_27 (pc_27 _ _) rfl ce_X11_fails lk_X11_118 rfl rfl dX11_takes_17 (fun x4 m3 hm => ?_)
    exact g_zret hm dX11_takes_20
  · intro k2 hk2 hm
    refine g_icmp_ne 16 hm dX11_takes_5 (by decide) (fun hm => ?_) (fun hm => ?_)
    · refine g_weak (vs' := [some (.ref (g.ad 27)), none]) ⟨rfl, trivial⟩ ?_
      exact hk2 _ hm
    · refine g_aloadn_0 dX11_takes_8 ?_
      refine g_v0 hm (fun _ _ h => c_X11_look h) pn_27 (pc_27 _ _) rfl ce_X11_look lk_X11_122 rfl rfl dX11_takes_9 (fun x6 m5 hm => ?_)
      refine g_iloadn_1 dX11_takes_12 ?_
      refine g_icmp_eq 21 hm dX11_takes_13 (by decide) (fun hm => ?_) (fun hm => ?_)
      · refine g_aloadn_0 dX11_takes_21 ?_
        refine g_dup dX11_takes_22 rfl ?_
        refine g_geti fo_11_10 pn_27 pc_27 rfl dX11_takes_23 ?_
        refine g_iconst 1 dX11_takes_26 rfl ?_
        refine g_iadd dX11_takes_27 ?_
        refine g_put hm fo_11_10 fp_11_10 pn_27 pc_27 rfl dX11_takes_28 (fun m7 hm => ?_)
        refine g_iconst 1 dX11_takes_31 rfl ?_
        exact g_zretc hm rfl dX11_takes_32
      · refine g_weak (vs' := [some (.ref (g.ad 27)), none]) ⟨rfl, trivial⟩ ?_
        exact hk2 _ hm
def f_X11_isDigit  (m : Sg)  : Option (Int32 × Sg) :=
  (if (m.1 27 9) ≤ (m.1 27 10) then some (0, m) else
  if inr ((m.1 27 8) + (m.1 27 10)) (if m.1 27 5 = 0 then 240 else 960) = true then (if (m.1 (if m.1 27 5 = 0 then 28 else 29) ((m.1 27 8) + (m.1 27 10)).toNatClampNeg) < 48 then some (0, m) else
  if inr ((m.1 27 8) + (m.1 27 10)) (if m.1 27 5 = 0 then 240 else 960) = true then (if 57 < (m.1 (if m.1 27 5 = 0 then 28 else 29) ((m.1 27 8) + (m.1 27 10)).toNatClampNeg) then some (0, m) else
  some (1, m)) else none) else none)
set_option maxRecDepth 4000 in
theorem c_X11_isDigit {g : Cf} {m mm : Sg} {r : Int32} (hm : f_X11_isDigit  m  = some (r, mm)) : Cl g 0 yX11_isDigit cX11_isDigit 1 (some .boolean) [.ref (g.ad 27)] m (some (.int r)) mm := by
  refine cl_of (by decide) (Nat.le_of_ble_eq_true rfl) (vs := [some (.ref (g.ad 27))]) rfl rfl ?_
  show GX g 0 RX11 cX11_isDigit 1 (some .boolean) (some (.int r)) mm 0 _ [] m
  unfold f_X11_isDigit at hm
  refine g_aloadn_0 dX11_isDigit_0 ?_
  refine g_geti fo_11_10 pn_27 pc_27 rfl dX11_isDigit_1 ?_
  refine g_aloadn_0 dX11_isDigit_4 ?_
  refine g_geti fo_11_9 pn_27 pc_27 rfl dX11_isDigit_5 ?_
  refine g_icmp_ge 53 hm dX11_isDigit_8 (by decide) (fun hm => ?_) (fun hm => ?_)
  · refine g_iconst 0 dX11_isDigit_53 rfl ?_
    exact g_zretc hm rfl dX11_isDigit_54
  · refine g_aloadn_0 dX11_isDigit_11 ?_
    refine g_gett fo_11_5 pn_27 pc_27 rfl dX11_isDigit_12 ?_
    refine g_aloadn_0 dX11_isDigit_15 ?_
    refine g_geti fo_11_8 pn_27 pc_27 rfl dX11_isDigit_16 ?_
    refine g_aloadn_0 dX11_isDigit_19 ?_
    refine g_geti fo_11_10 pn_27 pc_27 rfl dX11_isDigit_20 ?_
    refine g_iadd dX11_isDigit_23 ?_
    refine g_baload hm (ar_txt (m.1 27 5)).1 (ar_txt (m.1 27 5)).2 dX11_isDigit_24 (fun hm => ?_)
    refine g_bipush 48 dX11_isDigit_25 rfl ?_
    refine g_icmp_lt 53 hm dX11_isDigit_27 (by decide) (fun hm => ?_) (fun hm => ?_)
    · refine g_iconst 0 dX11_isDigit_53 rfl ?_
      exact g_zretc hm rfl dX11_isDigit_54
    · refine g_aloadn_0 dX11_isDigit_30 ?_
      refine g_gett fo_11_5 pn_27 pc_27 rfl dX11_isDigit_31 ?_
      refine g_aloadn_0 dX11_isDigit_34 ?_
      refine g_geti fo_11_8 pn_27 pc_27 rfl dX11_isDigit_35 ?_
      refine g_aloadn_0 dX11_isDigit_38 ?_
      refine g_geti fo_11_10 pn_27 pc_27 rfl dX11_isDigit_39 ?_
      refine g_iadd dX11_isDigit_42 ?_
      refine g_baload hm (ar_txt (m.1 27 5)).1 (ar_txt (m.1 27 5)).2 dX11_isDigit_43 (fun hm => ?_)
      refine g_bipush 57 dX11_isDigit_44 rfl ?_
      refine g_icmp_gt 53 hm dX11_isDigit_46 (by decide) (fun hm => ?_) (fun hm => ?_)
      · refine g_iconst 0 dX11_isDigit_53 rfl ?_
        exact g_zretc hm rfl dX11_isDigit_54
      · refine g_iconst 1 dX11_isDigit_49 rfl ?_
        refine g_goto 54 dX11_isDigit_50 (by decide) ?_
        exact g_zretc hm rfl dX11_isDigit_54
def f_X11_within  (m : Sg) (a1 : Int64) : Option (Int32 × Sg) :=
  some (((if ((if (a1 : Int64) < 1000000 then a1 else 1000000) : Int64) < (-1000000) then (-1000000) else (if (a1 : Int64) < 1000000 then a1 else 1000000)) : Int64).toInt32, m)
set_option maxRecDepth 4000 in
theorem c_X11_within {g : Cf} {m mm : Sg} {r : Int32} {a1 : Int64} (hm : f_X11_within  m a1 = some (r, mm)) : Cl g 1 yX11_within cX11_within 2 (some .int) [.long a1] m (some (.int r)) mm := by
  refine cl_of (by decide) (Nat.le_of_ble_eq_true rfl) (vs := [some (.long a1), none]) rfl rfl ?_
  show GX g 1 RX11 cX11_within 2 (some .int) (some (.int r)) mm 0 _ [] m
  unfold f_X11_within at hm
  refine g_ldc2_w dX11_within_0 ck_X11_125 ?_
  refine g_ldc2_w dX11_within_3 ck_X11_127 ?_
  refine g_lloadn_0 dX11_within_6 ?_
  refine g_mminL lk_X11_129 rfl rfl dX11_within_7 ?_
  refine g_mmaxL lk_X11_135 rfl rfl dX11_within_10 ?_
  refine g_l2i dX11_within_13 ?_
  exact g_iret hm dX11_within_14
def f_X11_isSign  (m : Sg) (a1 : Int32) : Option (Int32 × Sg) :=
  bnd (fun (m1 : Sg) => some (1, m1)) (fun (k2 : Sg → Option (Int32 × Sg)) =>
  (if a1 = 61 then k2 m else
  (if a1 = 60 then k2 m else
  (if a1 = 62 then k2 m else
  some (0, m)))))
set_option maxRecDepth 4000 in
theorem c_X11_isSign {g : Cf} {m mm : Sg} {r : Int32} {a1 : Int32} (hm : f_X11_isSign  m a1 = some (r, mm)) : Cl g 0 yX11_isSign cX11_isSign 1 (some .boolean) [.int a1] m (some (.int r)) mm := by
  refine cl_of (by decide) (Nat.le_of_ble_eq_true rfl) (vs := [some (.int a1)]) rfl rfl ?_
  show GX g 0 RX11 cX11_isSign 1 (some .boolean) (some (.int r)) mm 0 _ [] m
  unfold f_X11_isSign at hm
  refine g_iloadn_0 dX11_isSign_0 ?_
  refine g_bipush 61 dX11_isSign_1 rfl ?_
  refine g_jn (J := fun (s : Sg) => GX g 0 RX11 cX11_isSign 1 (some .boolean) (some (.int r)) mm 18 [none] [] s) hm ?_ ?_
  · intro m1 hm
    refine g_iconst 1 dX11_isSign_18 rfl ?_
    refine g_goto 23 dX11_isSign_19 (by decide) ?_
    exact g_zretc hm rfl dX11_isSign_23
  · intro k2 hk2 hm
    refine g_icmp_eq 18 hm dX11_isSign_3 (by decide) (fun hm => ?_) (fun hm => ?_)
    · refine g_weak (vs' := [none]) trivial ?_
      exact hk2 _ hm
    · refine g_iloadn_0 dX11_isSign_6 ?_
      refine g_bipush 60 dX11_isSign_7 rfl ?_
      refine g_icmp_eq 18 hm dX11_isSign_9 (by decide) (fun hm => ?_) (fun hm => ?_)
      · refine g_weak (vs' := [none]) trivial ?_
        exact hk2 _ hm
      · refine g_iloadn_0 dX11_isSign_12 ?_
        refine g_bipush 62 dX11_isSign_13 rfl ?_
        refine g_icmp_ne 22 hm dX11_isSign_15 (by decide) (fun hm => ?_) (fun hm => ?_)
        · refine g_iconst 0 dX11_isSign_22 rfl ?_
          exact g_zretc hm rfl dX11_isSign_23
        · refine g_weak (vs' := [none]) trivial ?_
          exact hk2 _ hm
def RH11 (g : Cf) (d : Nat) (R : Nat → Sg → Int32 → Int32 → Option (Int32 × Sg)) : Prop :=
  (∀ {m m1 : Sg} {r : Int32}, R 0 m 0 0 = some (r, m1) → Cl g d yX11_atom cX11_atom 4 (some .int) [.ref (g.ad 27)] m (some (.int r)) m1) ∧
  (∀ {m m1 : Sg} {r : Int32}, R 1 m 0 0 = some (r, m1) → Cl g d yX11_term cX11_term 5 (some .int) [.ref (g.ad 27)] m (some (.int r)) m1) ∧
  (∀ {m m1 : Sg} {r : Int32}, R 2 m 0 0 = some (r, m1) → Cl g d yX11_sum cX11_sum 5 (some .int) [.ref (g.ad 27)] m (some (.int r)) m1) ∧
  (∀ {m m1 : Sg} {a b : Int32} {r : Int32}, R 3 m a b = some (r, m1) → Cl g d yX11_compares cX11_compares 6 (some .boolean) [.ref (g.ad 27), .int a, .int b] m (some (.int r)) m1) ∧
  (∀ {m m1 : Sg} {r : Int32}, R 4 m 0 0 = some (r, m1) → Cl g d yX11_unit cX11_unit 3 (some .boolean) [.ref (g.ad 27)] m (some (.int r)) m1) ∧
  (∀ {m m1 : Sg} {a b : Int32} {r : Int32}, R 5 m a b = some (r, m1) → Cl g d yX11_part cX11_part 5 (some .boolean) [.ref (g.ad 27), .int a, .int b] m (some (.int r)) m1) ∧
  (∀ {m m1 : Sg} {a b : Int32} {r : Int32}, R 6 m a b = some (r, m1) → Cl g d yX11_condition cX11_condition 5 (some .boolean) [.ref (g.ad 27), .int a, .int b] m (some (.int r)) m1)
def f_X11_atom_L90  : (Sg × Int32 × Int32) → Option (((Sg) ⊕ (Sg × Int32)) ⊕ (Sg × Int32 × Int32)) := fun s => match s with
  | (m9, x10, x11) => 
  cal (f_X11_isDigit m9) (fun x18 m17 => (if x18 = 0 then some (.inl (.inr (m17, x10))) else
  (if (m17.1 27 11) = (-1) then (if x11 = 4 then some (.inl (.inl m17)) else
  if inr ((m17.1 27 8) + (m17.1 27 10)) (if m17.1 27 5 = 0 then 240 else 960) = true then bnd (((10 * x10) + (m17.1 (if m17.1 27 5 = 0 then 28 else 29) ((m17.1 27 8) + (m17.1 27 10)).toNatClampNeg)) - 48) (fun x19 => bnd (wr m17 27 10 ((m17.1 27 10) + 1)) (fun m20 => bnd (x11 + 1) (fun x21 => some (.inr (m20, x19, x21))))) else none) else
  some (.inl (.inr (m17, x10))))))
def f_X11_atom (R : Nat → Sg → Int32 → Int32 → Option (Int32 × Sg))  (m : Sg)  : Option (Int32 × Sg) :=
  cal (f_X11_look m) (fun x2 m1 => cal (f_X11_isAmong 1 m1 x2) (fun x4 m3 => (if x4 = 0 then (if x2 = 91 then cal (f_X11_goesIn m3) (fun x27 m26 => (if x27 = 0 then some (0, m26) else
  cal (R 2 m26 0 0) (fun x29 m28 => cal (f_X11_takes m28 93) (fun x31 m30 => (if x31 = 0 then some (0, m30) else
  bnd (wr m30 27 12 ((m30.1 27 12) - 1)) (fun m32 => some (x29, m32))))))) else
  cal (f_X11_isDigit m3) (fun x6 m5 => bnd (fun (m7 : Sg) => lpk (f_X11_atom_L90) (m7, 0, 0) (fun x => match x with
  | .inl m12 => cal (f_X11_fails m12) (fun x23 m22 => some (0, m22))
  | .inr (m13, x14) => some (x14, m13))) (fun (k8 : Sg → Option (Int32 × Sg)) =>
  (if x6 = 0 then cal (f_X11_fails m5) (fun x25 m24 => k8 m24) else
  k8 m5)))) else
  bnd (wr m3 27 10 ((m3.1 27 10) + 1)) (fun m33 => if inr x2 128 = true then some (m33.1 31 x2.toNatClampNeg, m33) else none))))
set_option maxRecDepth 4000 in
theorem c_X11_atom {g : Cf} {m mm : Sg} {r : Int32} {R : Nat → Sg → Int32 → Int32 → Option (Int32 × Sg)} {d : Nat} (hb : 9 ≤ d) (hR : RH11 g d R) (HX : XOK g) (hm : f_X11_atom R  m  = some (r, mm)) : Cl g (d + 1) yX11_atom cX11_atom 4 (some .int) [.ref (g.ad 27)] m (some (.int r)) mm := by
  refine cl_of (by decide) (Nat.le_of_ble_eq_true rfl) (vs := [some (.ref (g.ad 27)), none, none, none]) rfl rfl ?_
  show GX g (d + 1) RX11 cX11_atom 4 (some .int) (some (.int r)) mm 0 _ [] m
  unfold f_X11_atom at hm
  refine g_aloadn_0 dX11_atom_0 ?_
  refine g_v0 hm (fun _ _ h => c_X11_look h) pn_27 (pc_27 _ _) rfl ce_X11_look lk_X11_122 (bl_of (by omega)) rfl dX11_atom_1 (fun x2 m1 hm => ?_)
  refine g_istoren_1 dX11_atom_4 rfl ?_
  refine g_ldcS (k := 1) (tx := "caknmw") HX (by decide) dX11_atom_5 ?_
  refine g_iloadn_1 dX11_atom_7 ?_
  refine g_s2 hm (fun _ _ h => c_X11_isAmong HX (by decide) h) ce_X11_isAmong lk_X11_138 (bl_of (by omega)) rfl dX11_atom_8 (fun x4 m3 hm => ?_)
  refine g_if_eq 31 hm dX11_atom_11 (by decide) (fun hm => ?_) (fun hm => ?_)
  · refine g_iloadn_1 dX11_atom_31 ?_
    refine g_bipush 91 dX11_atom_32 rfl ?_
    refine g_icmp_ne 74 hm dX11_atom_34 (by decide) (fun hm => ?_) (fun hm => ?_)
    · refine g_aloadn_0 dX11_atom_74 ?_
      refine g_v0 hm (fun _ _ h => c_X11_isDigit h) pn_27 (pc_27 _ _) rfl ce_X11_isDigit lk_X11_152 (bl_of (by omega)) rfl dX11_atom_75 (fun x6 m5 hm => ?_)
      refine g_jn (J := fun (s : Sg) => GX g (d + 1) RX11 cX11_atom 4 (some .int) (some (.int r)) mm 86 [some (.ref (g.ad 27)), none, none, none] [] s) hm ?_ ?_
      · intro m7 hm
        refine g_iconst 0 dX11_atom_86 rfl ?_
        refine g_istoren_2 dX11_atom_87 rfl ?_
        refine g_iconst 0 dX11_atom_88 rfl ?_
        refine g_istoren_3 dX11_atom_89 rfl ?_
        refine g_lp (I := fun (s : Sg × Int32 × Int32) => GX g (d + 1) RX11 cX11_atom 4 (some .int) (some (.int r)) mm 90 [some (.ref (g.ad 27)), none, some (.int (s.2.1)), some (.int (s.2.2))] [] s.1) (E := fun (x : (Sg) ⊕ (Sg × Int32)) => match x with | .inl m12 => GX g (d + 1) RX11 cX11_atom 4 (some .int) (some (.int r)) mm 110 [some (.ref (g.ad 27)), none, none, none] [] m12 | .inr (m13, x14) => GX g (d + 1) RX11 cX11_atom 4 (some .int) (some (.int r)) mm 156 [none, none, some (.int x14), none] [] m13) hm ?_ ?_
        · rintro (m12 | ⟨m13, x14⟩) hm
          · (try dsimp only at hm)
            (try dsimp only)
            refine g_aloadn_0 dX11_atom_110 ?_
            refine g_v0 hm (fun _ _ h => c_X11_fails h) pn_27 (pc_27 _ _) rfl ce_X11_fails lk_X11_118 (bl_of (by omega)) rfl dX11_atom_111 (fun x23 m22 hm => ?_)
            refine g_pop dX11_atom_114 rfl ?_
            refine g_iconst 0 dX11_atom_115 rfl ?_
            exact g_iret hm dX11_atom_116
          · (try dsimp only at hm)
            (try dsimp only)
            refine g_iloadn_2 dX11_atom_156 ?_
            exact g_iret hm dX11_atom_157
        · rintro ⟨m9, x10, x11⟩ o hm hx16 hi15
          (try dsimp only [f_X11_atom_L90] at hm)
          (try dsimp only)
          refine g_aloadn_0 dX11_atom_90 ?_
          refine g_v0 hm (fun _ _ h => c_X11_isDigit h) pn_27 (pc_27 _ _) rfl ce_X11_isDigit lk_X11_152 (bl_of (by omega)) rfl dX11_atom_91 (fun x18 m17 hm => ?_)
          refine g_if_eq 156 hm dX11_atom_94 (by decide) (fun hm => ?_) (fun hm => ?_)
          · refine g_weak (vs' := [none, none, some (.int x10), none]) ⟨rfl, trivial⟩ ?_
            cases hm
            exact hx16 _ rfl
          · refine g_aloadn_0 dX11_atom_97 ?_
            refine g_geti fo_11_11 pn_27 pc_27 rfl dX11_atom_98 ?_
            refine g_iconst (-1) dX11_atom_101 rfl ?_
            refine g_icmp_ne 156 hm dX11_atom_102 (by decide) (fun hm => ?_) (fun hm => ?_)
            · refine g_weak (vs' := [none, none, some (.int x10), none]) ⟨rfl, trivial⟩ ?_
              cases hm
              exact hx16 _ rfl
            · refine g_iloadn_3 dX11_atom_105 ?_
              refine g_iconst 4 dX11_atom_106 rfl ?_
              refine g_icmp_ne 117 hm dX11_atom_107 (by decide) (fun hm => ?_) (fun hm => ?_)
              · refine g_bipush 10 dX11_atom_117 rfl ?_
                refine g_iloadn_2 dX11_atom_119 ?_
                refine g_imul dX11_atom_120 ?_
                refine g_aloadn_0 dX11_atom_121 ?_
                refine g_gett fo_11_5 pn_27 pc_27 rfl dX11_atom_122 ?_
                refine g_aloadn_0 dX11_atom_125 ?_
                refine g_geti fo_11_8 pn_27 pc_27 rfl dX11_atom_126 ?_
                refine g_aloadn_0 dX11_atom_129 ?_
                refine g_geti fo_11_10 pn_27 pc_27 rfl dX11_atom_130 ?_
                refine g_iadd dX11_atom_133 ?_
                refine g_baload hm (ar_txt (m17.1 27 5)).1 (ar_txt (m17.1 27 5)).2 dX11_atom_134 (fun hm => ?_)
                refine g_iadd dX11_atom_135 ?_
                refine g_bipush 48 dX11_atom_136 rfl ?_
                refine g_isub dX11_atom_138 ?_
                refine g_istoreBn_2 hm dX11_atom_139 rfl (fun x19 hm => ?_)
                refine g_aloadn_0 dX11_atom_140 ?_
                refine g_dup dX11_atom_141 rfl ?_
                refine g_geti fo_11_10 pn_27 pc_27 rfl dX11_atom_142 ?_
                refine g_iconst 1 dX11_atom_145 rfl ?_
                refine g_iadd dX11_atom_146 ?_
                refine g_put hm fo_11_10 fp_11_10 pn_27 pc_27 rfl dX11_atom_147 (fun m20 hm => ?_)
                refine g_iinc_3 1 hm dX11_atom_150 rfl rfl (fun x21 hm => ?_)
                refine g_goto 90 dX11_atom_153 (by decide) ?_
                cases hm
                exact hi15 _ rfl
              · refine g_weak (vs' := [some (.ref (g.ad 27)), none, none, none]) ⟨rfl, trivial⟩ ?_
                cases hm
                exact hx16 _ rfl
      · intro k8 hk8 hm
        refine g_if_ne 86 hm dX11_atom_78 (by decide) (fun hm => ?_) (fun hm => ?_)
        · refine g_weak (vs' := [some (.ref (g.ad 27)), none, none, none]) ⟨rfl, trivial⟩ ?_
          exact hk8 _ hm
        · refine g_aloadn_0 dX11_atom_81 ?_
          refine g_v0 hm (fun _ _ h => c_X11_fails h) pn_27 (pc_27 _ _) rfl ce_X11_fails lk_X11_118 (bl_of (by omega)) rfl dX11_atom_82 (fun x25 m24 hm => ?_)
          refine g_pop dX11_atom_85 rfl ?_
          refine g_weak (vs' := [some (.ref (g.ad 27)), none, none, none]) ⟨rfl, trivial⟩ ?_
          exact hk8 _ hm
    · refine g_aloadn_0 dX11_atom_37 ?_
      refine g_v0 hm (fun _ _ h => c_X11_goesIn h) pn_27 (pc_27 _ _) rfl ce_X11_goesIn lk_X11_142 (bl_of (by omega)) rfl dX11_atom_38 (fun x27 m26 hm => ?_)
      refine g_if_ne 46 hm dX11_atom_41 (by decide) (fun hm => ?_) (fun hm => ?_)
      · refine g_aloadn_0 dX11_atom_46 ?_
        refine g_v0 hm (fun _ _ h => hR.2.2.1 h) pn_27 (pc_27 _ _) rfl ce_X11_sum lk_X11_145 bl_self rfl dX11_atom_47 (fun x29 m28 hm => ?_)
        refine g_istoren_2 dX11_atom_50 rfl ?_
        refine g_aloadn_0 dX11_atom_51 ?_
        refine g_bipush 93 dX11_atom_52 rfl ?_
        refine g_v1 hm (fun _ _ h => c_X11_takes h) pn_27 (pc_27 _ _) rfl ce_X11_takes lk_X11_148 (bl_of (by omega)) rfl dX11_atom_54 (fun x31 m30 hm => ?_)
        refine g_if_ne 62 hm dX11_atom_57 (by decide) (fun hm => ?_) (fun hm => ?_)
        · refine g_aloadn_0 dX11_atom_62 ?_
          refine g_dup dX11_atom_63 rfl ?_
          refine g_geti fo_11_12 pn_27 pc_27 rfl dX11_atom_64 ?_
          refine g_iconst 1 dX11_atom_67 rfl ?_
          refine g_isub dX11_atom_68 ?_
          refine g_put hm fo_11_12 fp_11_12 pn_27 pc_27 rfl dX11_atom_69 (fun m32 hm => ?_)
          refine g_iloadn_2 dX11_atom_72 ?_
          exact g_iret hm dX11_atom_73
        · refine g_iconst 0 dX11_atom_60 rfl ?_
          exact g_iret hm dX11_atom_61
      · refine g_iconst 0 dX11_atom_44 rfl ?_
        exact g_iret hm dX11_atom_45
  · refine g_aloadn_0 dX11_atom_14 ?_
    refine g_dup dX11_atom_15 rfl ?_
    refine g_geti fo_11_10 pn_27 pc_27 rfl dX11_atom_16 ?_
    refine g_iconst 1 dX11_atom_19 rfl ?_
    refine g_iadd dX11_atom_20 ?_
    refine g_put hm fo_11_10 fp_11_10 pn_27 pc_27 rfl dX11_atom_21 (fun m33 hm => ?_)
    refine g_aloadn_0 dX11_atom_24 ?_
    refine g_getr (q := 31) fo_11_4 pn_27 pc_27 rfl rfl dX11_atom_25 ?_
    refine g_iloadn_1 dX11_atom_28 ?_
    refine g_iaload hm ar_31.1 ar_31.2 dX11_atom_29 (fun hm => ?_)
    exact g_iret hm dX11_atom_30
def f_X11_term_L5 (R : Nat → Sg → Int32 → Int32 → Option (Int32 × Sg))  : (Sg × Int32) → Option (((Sg × Int32)) ⊕ (Sg × Int32)) := fun s => match s with
  | (m3, x4) => 
  (if (m3.1 27 11) = (-1) then cal (f_X11_look m3) (fun x10 m9 => bnd (fun (m11 : Sg) => cal (f_X11_look m11) (fun x14 m13 => bnd (fun ((m15, x16) : Sg × Int32) => bnd (wr m15 27 10 ((m15.1 27 10) + 1)) (fun m18 => cal (R 0 m18 0 0) (fun x20 m19 => bnd ((x20 : Int32).toInt64) (fun x21 => bnd (fun ((m22, x23) : Sg × Int64) => cal (f_X11_within m22 x23) (fun x26 m25 => some (.inr (m25, x26)))) (fun (k24 : Sg × Int64 → Option (((Sg × Int32)) ⊕ (Sg × Int32))) =>
  (if x16 = 0 then (if (lg_cmp x21 0) = 0 then k24 (m19, 0) else
  if (!(decide (x21 = 0))) = true then k24 (m19, (((x4 : Int32).toInt64) / x21)) else none) else
  k24 (m19, (((x4 : Int32).toInt64) * x21)))))))) (fun (k17 : Sg × Int32 → Option (((Sg × Int32)) ⊕ (Sg × Int32))) =>
  (if x14 = 42 then k17 (m13, 1) else
  k17 (m13, 0))))) (fun (k12 : Sg → Option (((Sg × Int32)) ⊕ (Sg × Int32))) =>
  (if x10 = 42 then k12 m9 else
  cal (f_X11_look m9) (fun x28 m27 => (if x28 = 47 then k12 m27 else
  some (.inl (m27, x4))))))) else
  some (.inl (m3, x4)))
def f_X11_term (R : Nat → Sg → Int32 → Int32 → Option (Int32 × Sg))  (m : Sg)  : Option (Int32 × Sg) :=
  cal (R 0 m 0 0) (fun x2 m1 => lpk (f_X11_term_L5 R) (m1, x2) (fun ((m5, x6) : Sg × Int32) => some (x6, m5)))
set_option maxRecDepth 4000 in
theorem c_X11_term {g : Cf} {m mm : Sg} {r : Int32} {R : Nat → Sg → Int32 → Int32 → Option (Int32 × Sg)} {d : Nat} (hb : 9 ≤ d) (hR : RH11 g d R) (HX : XOK g) (hm : f_X11_term R  m  = some (r, mm)) : Cl g (d + 1) yX11_term cX11_term 5 (some .int) [.ref (g.ad 27)] m (some (.int r)) mm := by
  refine cl_of (by decide) (Nat.le_of_ble_eq_true rfl) (vs := [some (.ref (g.ad 27)), none, none, none, none]) rfl rfl ?_
  show GX g (d + 1) RX11 cX11_term 5 (some .int) (some (.int r)) mm 0 _ [] m
  unfold f_X11_term at hm
  refine g_aloadn_0 dX11_term_0 ?_
  refine g_v0 hm (fun _ _ h => hR.1 h) pn_27 (pc_27 _ _) rfl ce_X11_atom lk_X11_155 bl_self rfl dX11_term_1 (fun x2 m1 hm => ?_)
  refine g_istoren_1 dX11_term_4 rfl ?_
  refine g_lp (I := fun (s : Sg × Int32) => GX g (d + 1) RX11 cX11_term 5 (some .int) (some (.int r)) mm 5 [some (.ref (g.ad 27)), some (.int (s.2)), none, none, none] [] s.1) (E := fun (s : Sg × Int32) => GX g (d + 1) RX11 cX11_term 5 (some .int) (some (.int r)) mm 94 [none, some (.int (s.2)), none, none, none] [] s.1) hm ?_ ?_
  · rintro ⟨m5, x6⟩ hm
    (try dsimp only at hm)
    (try dsimp only)
    refine g_iloadn_1 dX11_term_94 ?_
    exact g_iret hm dX11_term_95
  · rintro ⟨m3, x4⟩ o hm hx8 hi7
    (try dsimp only [f_X11_term_L5] at hm)
    (try dsimp only)
    refine g_aloadn_0 dX11_term_5 ?_
    refine g_geti fo_11_11 pn_27 pc_27 rfl dX11_term_6 ?_
    refine g_iconst (-1) dX11_term_9 rfl ?_
    refine g_icmp_ne 94 hm dX11_term_10 (by decide) (fun hm => ?_) (fun hm => ?_)
    · refine g_weak (vs' := [none, some (.int x4), none, none, none]) ⟨rfl, trivial⟩ ?_
      cases hm
      exact hx8 _ rfl
    · refine g_aloadn_0 dX11_term_13 ?_
      refine g_v0 hm (fun _ _ h => c_X11_look h) pn_27 (pc_27 _ _) rfl ce_X11_look lk_X11_122 (bl_of (by omega)) rfl dX11_term_14 (fun x10 m9 hm => ?_)
      refine g_bipush 42 dX11_term_17 rfl ?_
      refine g_jn (J := fun (s : Sg) => GX g (d + 1) RX11 cX11_term 5 (some .int) (some (.int r)) mm 31 [some (.ref (g.ad 27)), some (.int x4), none, none, none] [] s) hm ?_ ?_
      · intro m11 hm
        refine g_aloadn_0 dX11_term_31 ?_
        refine g_v0 hm (fun _ _ h => c_X11_look h) pn_27 (pc_27 _ _) rfl ce_X11_look lk_X11_122 (bl_of (by omega)) rfl dX11_term_32 (fun x14 m13 hm => ?_)
        refine g_bipush 42 dX11_term_35 rfl ?_
        refine g_jn (J := fun (s : Sg × Int32) => GX g (d + 1) RX11 cX11_term 5 (some .int) (some (.int r)) mm 45 [some (.ref (g.ad 27)), some (.int x4), none, none, none] [.int (s.2)] s.1) hm ?_ ?_
        · rintro ⟨m15, x16⟩ hm
          (try dsimp only at hm)
          (try dsimp only)
          refine g_istoren_2 dX11_term_45 rfl ?_
          refine g_aloadn_0 dX11_term_46 ?_
          refine g_dup dX11_term_47 rfl ?_
          refine g_geti fo_11_10 pn_27 pc_27 rfl dX11_term_48 ?_
          refine g_iconst 1 dX11_term_51 rfl ?_
          refine g_iadd dX11_term_52 ?_
          refine g_put hm fo_11_10 fp_11_10 pn_27 pc_27 rfl dX11_term_53 (fun m18 hm => ?_)
          refine g_aloadn_0 dX11_term_56 ?_
          refine g_v0 hm (fun _ _ h => hR.1 h) pn_27 (pc_27 _ _) rfl ce_X11_atom lk_X11_155 bl_self rfl dX11_term_57 (fun x20 m19 hm => ?_)
          refine g_i2l dX11_term_60 ?_
          refine g_lstoreBn_3 hm dX11_term_61 rfl (fun x21 hm => ?_)
          refine g_iloadn_2 dX11_term_62 ?_
          refine g_jn (J := fun (s : Sg × Int64) => GX g (d + 1) RX11 cX11_term 5 (some .int) (some (.int r)) mm 87 [some (.ref (g.ad 27)), none, none, none, none] [.long (s.2)] s.1) hm ?_ ?_
          · rintro ⟨m22, x23⟩ hm
            (try dsimp only at hm)
            (try dsimp only)
            refine g_s1 hm (fun _ _ h => c_X11_within h) ce_X11_within lk_X11_158 (bl_of (by omega)) rfl dX11_term_87 (fun x26 m25 hm => ?_)
            refine g_istoren_1 dX11_term_90 rfl ?_
            refine g_goto 5 dX11_term_91 (by decide) ?_
            cases hm
            exact hi7 _ rfl
          · intro k24 hk24 hm
            refine g_if_eq 73 hm dX11_term_63 (by decide) (fun hm => ?_) (fun hm => ?_)
            · refine g_lloadn_3 dX11_term_73 ?_
              refine g_lconst 0 dX11_term_74 rfl ?_
              refine g_lcmp dX11_term_75 ?_
              refine g_if_ne 83 hm dX11_term_76 (by decide) (fun hm => ?_) (fun hm => ?_)
              · refine g_iloadn_1 dX11_term_83 ?_
                refine g_i2l dX11_term_84 ?_
                refine g_lloadn_3 dX11_term_85 ?_
                refine g_ldivN hm dX11_term_86 (fun hm => ?_)
                refine g_weak (vs' := [some (.ref (g.ad 27)), none, none, none, none]) ⟨rfl, trivial⟩ ?_
                exact hk24 _ hm
              · refine g_lconst 0 dX11_term_79 rfl ?_
                refine g_goto 87 dX11_term_80 (by decide) ?_
                refine g_weak (vs' := [some (.ref (g.ad 27)), none, none, none, none]) ⟨rfl, trivial⟩ ?_
                exact hk24 _ hm
            · refine g_iloadn_1 dX11_term_66 ?_
              refine g_i2l dX11_term_67 ?_
              refine g_lloadn_3 dX11_term_68 ?_
              refine g_lmul dX11_term_69 ?_
              refine g_goto 87 dX11_term_70 (by decide) ?_
              refine g_weak (vs' := [some (.ref (g.ad 27)), none, none, none, none]) ⟨rfl, trivial⟩ ?_
              exact hk24 _ hm
        · intro k17 hk17 hm
          refine g_icmp_ne 44 hm dX11_term_37 (by decide) (fun hm => ?_) (fun hm => ?_)
          · refine g_iconst 0 dX11_term_44 rfl ?_
            exact hk17 _ hm
          · refine g_iconst 1 dX11_term_40 rfl ?_
            refine g_goto 45 dX11_term_41 (by decide) ?_
            exact hk17 _ hm
      · intro k12 hk12 hm
        refine g_icmp_eq 31 hm dX11_term_19 (by decide) (fun hm => ?_) (fun hm => ?_)
        · exact hk12 _ hm
        · refine g_aloadn_0 dX11_term_22 ?_
          refine g_v0 hm (fun _ _ h => c_X11_look h) pn_27 (pc_27 _ _) rfl ce_X11_look lk_X11_122 (bl_of (by omega)) rfl dX11_term_23 (fun x28 m27 hm => ?_)
          refine g_bipush 47 dX11_term_26 rfl ?_
          refine g_icmp_ne 94 hm dX11_term_28 (by decide) (fun hm => ?_) (fun hm => ?_)
          · refine g_weak (vs' := [none, some (.int x4), none, none, none]) ⟨rfl, trivial⟩ ?_
            cases hm
            exact hx8 _ rfl
          · exact hk12 _ hm
def f_X11_sum_L5 (R : Nat → Sg → Int32 → Int32 → Option (Int32 × Sg))  : (Sg × Int32) → Option (((Sg × Int32)) ⊕ (Sg × Int32)) := fun s => match s with
  | (m3, x4) => 
  (if (m3.1 27 11) = (-1) then cal (f_X11_look m3) (fun x10 m9 => bnd (fun (m11 : Sg) => cal (f_X11_look m11) (fun x14 m13 => bnd (fun ((m15, x16) : Sg × Int32) => bnd (wr m15 27 10 ((m15.1 27 10) + 1)) (fun m18 => cal (R 1 m18 0 0) (fun x20 m19 => bnd ((x20 : Int32).toInt64) (fun x21 => bnd (fun ((m22, x23) : Sg × Int64) => cal (f_X11_within m22 x23) (fun x26 m25 => some (.inr (m25, x26)))) (fun (k24 : Sg × Int64 → Option (((Sg × Int32)) ⊕ (Sg × Int32))) =>
  (if x16 = 0 then k24 (m19, (((x4 : Int32).toInt64) - x21)) else
  k24 (m19, (((x4 : Int32).toInt64) + x21)))))))) (fun (k17 : Sg × Int32 → Option (((Sg × Int32)) ⊕ (Sg × Int32))) =>
  (if x14 = 43 then k17 (m13, 1) else
  k17 (m13, 0))))) (fun (k12 : Sg → Option (((Sg × Int32)) ⊕ (Sg × Int32))) =>
  (if x10 = 43 then k12 m9 else
  cal (f_X11_look m9) (fun x28 m27 => (if x28 = 45 then k12 m27 else
  some (.inl (m27, x4))))))) else
  some (.inl (m3, x4)))
def f_X11_sum (R : Nat → Sg → Int32 → Int32 → Option (Int32 × Sg))  (m : Sg)  : Option (Int32 × Sg) :=
  cal (R 1 m 0 0) (fun x2 m1 => lpk (f_X11_sum_L5 R) (m1, x2) (fun ((m5, x6) : Sg × Int32) => some (x6, m5)))
set_option maxRecDepth 4000 in
theorem c_X11_sum {g : Cf} {m mm : Sg} {r : Int32} {R : Nat → Sg → Int32 → Int32 → Option (Int32 × Sg)} {d : Nat} (hb : 9 ≤ d) (hR : RH11 g d R) (HX : XOK g) (hm : f_X11_sum R  m  = some (r, mm)) : Cl g (d + 1) yX11_sum cX11_sum 5 (some .int) [.ref (g.ad 27)] m (some (.int r)) mm := by
  refine cl_of (by decide) (Nat.le_of_ble_eq_true rfl) (vs := [some (.ref (g.ad 27)), none, none, none, none]) rfl rfl ?_
  show GX g (d + 1) RX11 cX11_sum 5 (some .int) (some (.int r)) mm 0 _ [] m
  unfold f_X11_sum at hm
  refine g_aloadn_0 dX11_sum_0 ?_
  refine g_v0 hm (fun _ _ h => hR.2.1 h) pn_27 (pc_27 _ _) rfl ce_X11_term lk_X11_162 bl_self rfl dX11_sum_1 (fun x2 m1 hm => ?_)
  refine g_istoren_1 dX11_sum_4 rfl ?_
  refine g_lp (I := fun (s : Sg × Int32) => GX g (d + 1) RX11 cX11_sum 5 (some .int) (some (.int r)) mm 5 [some (.ref (g.ad 27)), some (.int (s.2)), none, none, none] [] s.1) (E := fun (s : Sg × Int32) => GX g (d + 1) RX11 cX11_sum 5 (some .int) (some (.int r)) mm 84 [none, some (.int (s.2)), none, none, none] [] s.1) hm ?_ ?_
  · rintro ⟨m5, x6⟩ hm
    (try dsimp only at hm)
    (try dsimp only)
    refine g_iloadn_1 dX11_sum_84 ?_
    exact g_iret hm dX11_sum_85
  · rintro ⟨m3, x4⟩ o hm hx8 hi7
    (try dsimp only [f_X11_sum_L5] at hm)
    (try dsimp only)
    refine g_aloadn_0 dX11_sum_5 ?_
    refine g_geti fo_11_11 pn_27 pc_27 rfl dX11_sum_6 ?_
    refine g_iconst (-1) dX11_sum_9 rfl ?_
    refine g_icmp_ne 84 hm dX11_sum_10 (by decide) (fun hm => ?_) (fun hm => ?_)
    · refine g_weak (vs' := [none, some (.int x4), none, none, none]) ⟨rfl, trivial⟩ ?_
      cases hm
      exact hx8 _ rfl
    · refine g_aloadn_0 dX11_sum_13 ?_
      refine g_v0 hm (fun _ _ h => c_X11_look h) pn_27 (pc_27 _ _) rfl ce_X11_look lk_X11_122 (bl_of (by omega)) rfl dX11_sum_14 (fun x10 m9 hm => ?_)
      refine g_bipush 43 dX11_sum_17 rfl ?_
      refine g_jn (J := fun (s : Sg) => GX g (d + 1) RX11 cX11_sum 5 (some .int) (some (.int r)) mm 31 [some (.ref (g.ad 27)), some (.int x4), none, none, none] [] s) hm ?_ ?_
      · intro m11 hm
        refine g_aloadn_0 dX11_sum_31 ?_
        refine g_v0 hm (fun _ _ h => c_X11_look h) pn_27 (pc_27 _ _) rfl ce_X11_look lk_X11_122 (bl_of (by omega)) rfl dX11_sum_32 (fun x14 m13 hm => ?_)
        refine g_bipush 43 dX11_sum_35 rfl ?_
        refine g_jn (J := fun (s : Sg × Int32) => GX g (d + 1) RX11 cX11_sum 5 (some .int) (some (.int r)) mm 45 [some (.ref (g.ad 27)), some (.int x4), none, none, none] [.int (s.2)] s.1) hm ?_ ?_
        · rintro ⟨m15, x16⟩ hm
          (try dsimp only at hm)
          (try dsimp only)
          refine g_istoren_2 dX11_sum_45 rfl ?_
          refine g_aloadn_0 dX11_sum_46 ?_
          refine g_dup dX11_sum_47 rfl ?_
          refine g_geti fo_11_10 pn_27 pc_27 rfl dX11_sum_48 ?_
          refine g_iconst 1 dX11_sum_51 rfl ?_
          refine g_iadd dX11_sum_52 ?_
          refine g_put hm fo_11_10 fp_11_10 pn_27 pc_27 rfl dX11_sum_53 (fun m18 hm => ?_)
          refine g_aloadn_0 dX11_sum_56 ?_
          refine g_v0 hm (fun _ _ h => hR.2.1 h) pn_27 (pc_27 _ _) rfl ce_X11_term lk_X11_162 bl_self rfl dX11_sum_57 (fun x20 m19 hm => ?_)
          refine g_i2l dX11_sum_60 ?_
          refine g_lstoreBn_3 hm dX11_sum_61 rfl (fun x21 hm => ?_)
          refine g_iloadn_2 dX11_sum_62 ?_
          refine g_jn (J := fun (s : Sg × Int64) => GX g (d + 1) RX11 cX11_sum 5 (some .int) (some (.int r)) mm 77 [some (.ref (g.ad 27)), none, none, none, none] [.long (s.2)] s.1) hm ?_ ?_
          · rintro ⟨m22, x23⟩ hm
            (try dsimp only at hm)
            (try dsimp only)
            refine g_s1 hm (fun _ _ h => c_X11_within h) ce_X11_within lk_X11_158 (bl_of (by omega)) rfl dX11_sum_77 (fun x26 m25 hm => ?_)
            refine g_istoren_1 dX11_sum_80 rfl ?_
            refine g_goto 5 dX11_sum_81 (by decide) ?_
            cases hm
            exact hi7 _ rfl
          · intro k24 hk24 hm
            refine g_if_eq 73 hm dX11_sum_63 (by decide) (fun hm => ?_) (fun hm => ?_)
            · refine g_iloadn_1 dX11_sum_73 ?_
              refine g_i2l dX11_sum_74 ?_
              refine g_lloadn_3 dX11_sum_75 ?_
              refine g_lsub dX11_sum_76 ?_
              refine g_weak (vs' := [some (.ref (g.ad 27)), none, none, none, none]) ⟨rfl, trivial⟩ ?_
              exact hk24 _ hm
            · refine g_iloadn_1 dX11_sum_66 ?_
              refine g_i2l dX11_sum_67 ?_
              refine g_lloadn_3 dX11_sum_68 ?_
              refine g_ladd dX11_sum_69 ?_
              refine g_goto 77 dX11_sum_70 (by decide) ?_
              refine g_weak (vs' := [some (.ref (g.ad 27)), none, none, none, none]) ⟨rfl, trivial⟩ ?_
              exact hk24 _ hm
        · intro k17 hk17 hm
          refine g_icmp_ne 44 hm dX11_sum_37 (by decide) (fun hm => ?_) (fun hm => ?_)
          · refine g_iconst 0 dX11_sum_44 rfl ?_
            exact hk17 _ hm
          · refine g_iconst 1 dX11_sum_40 rfl ?_
            refine g_goto 45 dX11_sum_41 (by decide) ?_
            exact hk17 _ hm
      · intro k12 hk12 hm
        refine g_icmp_eq 31 hm dX11_sum_19 (by decide) (fun hm => ?_) (fun hm => ?_)
        · exact hk12 _ hm
        · refine g_aloadn_0 dX11_sum_22 ?_
          refine g_v0 hm (fun _ _ h => c_X11_look h) pn_27 (pc_27 _ _) rfl ce_X11_look lk_X11_122 (bl_of (by omega)) rfl dX11_sum_23 (fun x28 m27 hm => ?_)
          refine g_bipush 45 dX11_sum_26 rfl ?_
          refine g_icmp_ne 84 hm dX11_sum_28 (by decide) (fun hm => ?_) (fun hm => ?_)
          · refine g_weak (vs' := [none, some (.int x4), none, none, none]) ⟨rfl, trivial⟩ ?_
            cases hm
            exact hx8 _ rfl
          · exact hk12 _ hm
def f_X11_compares (R : Nat → Sg → Int32 → Int32 → Option (Int32 × Sg))  (m : Sg) (a1 : Int32) (a2 : Int32) : Option (Int32 × Sg) :=
  bnd (fun ((m1, x2) : Sg × Int32) => (if (m1.1 27 11) = (-1) then cal (f_X11_look m1) (fun x5 m4 => cal (f_X11_isSign m4 x5) (fun x7 m6 => (if x7 = 0 then cal (f_X11_fails m6) (fun x12 m11 => if isB x12 = true then some (x12, m11) else none) else
  bnd (wr m6 27 10 ((m6.1 27 10) + 1)) (fun m8 => cal (R 2 m8 0 0) (fun x10 m9 => (if x5 = 61 then (if x2 = x10 then some (1, m9) else
  some (0, m9)) else
  (if x5 = 60 then (if x10 ≤ x2 then some (0, m9) else
  some (1, m9)) else
  (if x2 ≤ x10 then some (0, m9) else
  some (1, m9))))))))) else
  some (0, m1))) (fun (k3 : Sg × Int32 → Option (Int32 × Sg)) =>
  (if a1 = 0 then cal (R 2 m 0 0) (fun x14 m13 => k3 (m13, x14)) else
  k3 (m, a2)))
set_option maxRecDepth 4000 in
theorem c_X11_compares {g : Cf} {m mm : Sg} {r : Int32} {a1 : Int32} {a2 : Int32} {R : Nat → Sg → Int32 → Int32 → Option (Int32 × Sg)} {d : Nat} (hb : 9 ≤ d) (hR : RH11 g d R) (HX : XOK g) (hm : f_X11_compares R  m a1 a2 = some (r, mm)) : Cl g (d + 1) yX11_compares cX11_compares 6 (some .boolean) [.ref (g.ad 27), .int a1, .int a2] m (some (.int r)) mm := by
  refine cl_of (by decide) (Nat.le_of_ble_eq_true rfl) (vs := [some (.ref (g.ad 27)), some (.int a1), some (.int a2), none, none, none]) rfl rfl ?_
  show GX g (d + 1) RX11 cX11_compares 6 (some .boolean) (some (.int r)) mm 0 _ [] m
  unfold f_X11_compares at hm
  refine g_iloadn_1 dX11_compares_0 ?_
  refine g_jn (J := fun (s : Sg × Int32) => GX g (d + 1) RX11 cX11_compares 6 (some .boolean) (some (.int r)) mm 12 [some (.ref (g.ad 27)), none, none, none, none, none] [.int (s.2)] s.1) hm ?_ ?_
  · rintro ⟨m1, x2⟩ hm
    (try dsimp only at hm)
    (try dsimp only)
    refine g_istoren_3 dX11_compares_12 rfl ?_
    refine g_aloadn_0 dX11_compares_13 ?_
    refine g_geti fo_11_11 pn_27 pc_27 rfl dX11_compares_14 ?_
    refine g_iconst (-1) dX11_compares_17 rfl ?_
    refine g_icmp_eq 23 hm dX11_compares_18 (by decide) (fun hm => ?_) (fun hm => ?_)
    · refine g_aloadn_0 dX11_compares_23 ?_
      refine g_v0 hm (fun _ _ h => c_X11_look h) pn_27 (pc_27 _ _) rfl ce_X11_look lk_X11_122 (bl_of (by omega)) rfl dX11_compares_24 (fun x5 m4 hm => ?_)
      refine g_istore_4 dX11_compares_27 rfl ?_
      refine g_iload_4 dX11_compares_29 ?_
      refine g_s1 hm (fun _ _ h => c_X11_isSign h) ce_X11_isSign lk_X11_165 (bl_of (by omega)) rfl dX11_compares_31 (fun x7 m6 hm => ?_)
      refine g_if_ne 42 hm dX11_compares_34 (by decide) (fun hm => ?_) (fun hm => ?_)
      · refine g_aloadn_0 dX11_compares_42 ?_
        refine g_dup dX11_compares_43 rfl ?_
        refine g_geti fo_11_10 pn_27 pc_27 rfl dX11_compares_44 ?_
        refine g_iconst 1 dX11_compares_47 rfl ?_
        refine g_iadd dX11_compares_48 ?_
        refine g_put hm fo_11_10 fp_11_10 pn_27 pc_27 rfl dX11_compares_49 (fun m8 hm => ?_)
        refine g_aloadn_0 dX11_compares_52 ?_
        refine g_v0 hm (fun _ _ h => hR.2.2.1 h) pn_27 (pc_27 _ _) rfl ce_X11_sum lk_X11_145 bl_self rfl dX11_compares_53 (fun x10 m9 hm => ?_)
        refine g_istore_5 dX11_compares_56 rfl ?_
        refine g_iload_4 dX11_compares_58 ?_
        refine g_bipush 61 dX11_compares_60 rfl ?_
        refine g_icmp_ne 79 hm dX11_compares_62 (by decide) (fun hm => ?_) (fun hm => ?_)
        · refine g_iload_4 dX11_compares_79 ?_
          refine g_bipush 60 dX11_compares_81 rfl ?_
          refine g_icmp_ne 100 hm dX11_compares_83 (by decide) (fun hm => ?_) (fun hm => ?_)
          · refine g_iloadn_3 dX11_compares_100 ?_
            refine g_iload_5 dX11_compares_101 ?_
            refine g_icmp_le 110 hm dX11_compares_103 (by decide) (fun hm => ?_) (fun hm => ?_)
            · refine g_iconst 0 dX11_compares_110 rfl ?_
              exact g_zretc hm rfl dX11_compares_111
            · refine g_iconst 1 dX11_compares_106 rfl ?_
              refine g_goto 111 dX11_compares_107 (by decide) ?_
              exact g_zretc hm rfl dX11_compares_111
          · refine g_iloadn_3 dX11_compares_86 ?_
            refine g_iload_5 dX11_compares_87 ?_
            refine g_icmp_ge 96 hm dX11_compares_89 (by decide) (fun hm => ?_) (fun hm => ?_)
            · refine g_iconst 0 dX11_compares_96 rfl ?_
              refine g_goto 111 dX11_compares_97 (by decide) ?_
              exact g_zretc hm rfl dX11_compares_111
            · refine g_iconst 1 dX11_compares_92 rfl ?_
              refine g_goto 111 dX11_compares_93 (by decide) ?_
              exact g_zretc hm rfl dX11_compares_111
        · refine g_iloadn_3 dX11_compares_65 ?_
          refine g_iload_5 dX11_compares_66 ?_
          refine g_icmp_ne 75 hm dX11_compares_68 (by decide) (fun hm => ?_) (fun hm => ?_)
          · refine g_iconst 0 dX11_compares_75 rfl ?_
            refine g_goto 111 dX11_compares_76 (by decide) ?_
            exact g_zretc hm rfl dX11_compares_111
          · refine g_iconst 1 dX11_compares_71 rfl ?_
            refine g_goto 111 dX11_compares_72 (by decide) ?_
            exact g_zretc hm rfl dX11_compares_111
      · refine g_aloadn_0 dX11_compares_37 ?_
        refine g_v0 hm (fun _ _ h => c_X11_fails h) pn_27 (pc_27 _ _) rfl ce_X11_fails lk_X11_118 (bl_of (by omega)) rfl dX11_compares_38 (fun x12 m11 hm => ?_)
        exact g_zret hm dX11_compares_41
    · refine g_iconst 0 dX11_compares_21 rfl ?_
      exact g_zretc hm rfl dX11_compares_22
  · intro k3 hk3 hm
    refine g_if_eq 8 hm dX11_compares_1 (by decide) (fun hm => ?_) (fun hm => ?_)
    · refine g_aloadn_0 dX11_compares_8 ?_
      refine g_v0 hm (fun _ _ h => hR.2.2.1 h) pn_27 (pc_27 _ _) rfl ce_X11_sum lk_X11_145 bl_self rfl dX11_compares_9 (fun x14 m13 hm => ?_)
      refine g_weak (vs' := [some (.ref (g.ad 27)), none, none, none, none, none]) ⟨rfl, trivial⟩ ?_
      exact hk3 _ hm
    · refine g_iloadn_2 dX11_compares_4 ?_
      refine g_goto 12 dX11_compares_5 (by decide) ?_
      refine g_weak (vs' := [some (.ref (g.ad 27)), none, none, none, none, none]) ⟨rfl, trivial⟩ ?_
      exact hk3 _ hm
def f_X11_unit (R : Nat → Sg → Int32 → Int32 → Option (Int32 × Sg))  (m : Sg)  : Option (Int32 × Sg) :=
  cal (f_X11_look m) (fun x2 m1 => (if x2 = 33 then cal (f_X11_goesIn m1) (fun x13 m12 => (if x13 = 0 then some (0, m12) else
  cal (R 4 m12 0 0) (fun x15 m14 => bnd (wr m14 27 12 ((m14.1 27 12) - 1)) (fun m16 => (if x15 = 0 then some (1, m16) else
  some (0, m16)))))) else
  (if x2 = 40 then cal (f_X11_goesIn m1) (fun x6 m5 => (if x6 = 0 then some (0, m5) else
  cal (R 6 m5 0 0) (fun x8 m7 => cal (f_X11_takes m7 41) (fun x10 m9 => (if x10 = 0 then some (0, m9) else
  bnd (wr m9 27 12 ((m9.1 27 12) - 1)) (fun m11 => if isB x8 = true then some (x8, m11) else none)))))) else
  cal (R 3 m1 0 0) (fun x4 m3 => if isB x4 = true then some (x4, m3) else none))))
set_option maxRecDepth 4000 in
theorem c_X11_unit {g : Cf} {m mm : Sg} {r : Int32} {R : Nat → Sg → Int32 → Int32 → Option (Int32 × Sg)} {d : Nat} (hb : 9 ≤ d) (hR : RH11 g d R) (HX : XOK g) (hm : f_X11_unit R  m  = some (r, mm)) : Cl g (d + 1) yX11_unit cX11_unit 3 (some .boolean) [.ref (g.ad 27)] m (some (.int r)) mm := by
  refine cl_of (by decide) (Nat.le_of_ble_eq_true rfl) (vs := [some (.ref (g.ad 27)), none, none]) rfl rfl ?_
  show GX g (d + 1) RX11 cX11_unit 3 (some .boolean) (some (.int r)) mm 0 _ [] m
  unfold f_X11_unit at hm
  refine g_aloadn_0 dX11_unit_0 ?_
  refine g_v0 hm (fun _ _ h => c_X11_look h) pn_27 (pc_27 _ _) rfl ce_X11_look lk_X11_122 (bl_of (by omega)) rfl dX11_unit_1 (fun x2 m1 hm => ?_)
  refine g_istoren_1 dX11_unit_4 rfl ?_
  refine g_iloadn_1 dX11_unit_5 ?_
  refine g_bipush 33 dX11_unit_6 rfl ?_
  refine g_icmp_ne 45 hm dX11_unit_8 (by decide) (fun hm => ?_) (fun hm => ?_)
  · refine g_iloadn_1 dX11_unit_45 ?_
    refine g_bipush 40 dX11_unit_46 rfl ?_
    refine g_icmp_ne 90 hm dX11_unit_48 (by decide) (fun hm => ?_) (fun hm => ?_)
    · refine g_aloadn_0 dX11_unit_90 ?_
      refine g_iconst 0 dX11_unit_91 rfl ?_
      refine g_iconst 0 dX11_unit_92 rfl ?_
      refine g_v2 hm (fun _ _ h => hR.2.2.2.1 h) pn_27 (pc_27 _ _) rfl ce_X11_compares lk_X11_175 bl_self rfl dX11_unit_93 (fun x4 m3 hm => ?_)
      exact g_zret hm dX11_unit_96
    · refine g_aloadn_0 dX11_unit_51 ?_
      refine g_v0 hm (fun _ _ h => c_X11_goesIn h) pn_27 (pc_27 _ _) rfl ce_X11_goesIn lk_X11_142 (bl_of (by omega)) rfl dX11_unit_52 (fun x6 m5 hm => ?_)
      refine g_if_ne 60 hm dX11_unit_55 (by decide) (fun hm => ?_) (fun hm => ?_)
      · refine g_aloadn_0 dX11_unit_60 ?_
        refine g_iconst 0 dX11_unit_61 rfl ?_
        refine g_iconst 0 dX11_unit_62 rfl ?_
        refine g_v2 hm (fun _ _ h => hR.2.2.2.2.2.2 h) pn_27 (pc_27 _ _) rfl ce_X11_condition lk_X11_171 bl_self rfl dX11_unit_63 (fun x8 m7 hm => ?_)
        refine g_istoren_2 dX11_unit_66 rfl ?_
        refine g_aloadn_0 dX11_unit_67 ?_
        refine g_bipush 41 dX11_unit_68 rfl ?_
        refine g_v1 hm (fun _ _ h => c_X11_takes h) pn_27 (pc_27 _ _) rfl ce_X11_takes lk_X11_148 (bl_of (by omega)) rfl dX11_unit_70 (fun x10 m9 hm => ?_)
        refine g_if_ne 78 hm dX11_unit_73 (by decide) (fun hm => ?_) (fun hm => ?_)
        · refine g_aloadn_0 dX11_unit_78 ?_
          refine g_dup dX11_unit_79 rfl ?_
          refine g_geti fo_11_12 pn_27 pc_27 rfl dX11_unit_80 ?_
          refine g_iconst 1 dX11_unit_83 rfl ?_
          refine g_isub dX11_unit_84 ?_
          refine g_put hm fo_11_12 fp_11_12 pn_27 pc_27 rfl dX11_unit_85 (fun m11 hm => ?_)
          refine g_iloadn_2 dX11_unit_88 ?_
          exact g_zret hm dX11_unit_89
        · refine g_iconst 0 dX11_unit_76 rfl ?_
          exact g_zretc hm rfl dX11_unit_77
      · refine g_iconst 0 dX11_unit_58 rfl ?_
        exact g_zretc hm rfl dX11_unit_59
  · refine g_aloadn_0 dX11_unit_11 ?_
    refine g_v0 hm (fun _ _ h => c_X11_goesIn h) pn_27 (pc_27 _ _) rfl ce_X11_goesIn lk_X11_142 (bl_of (by omega)) rfl dX11_unit_12 (fun x13 m12 hm => ?_)
    refine g_if_ne 20 hm dX11_unit_15 (by decide) (fun hm => ?_) (fun hm => ?_)
    · refine g_aloadn_0 dX11_unit_20 ?_
      refine g_v0 hm (fun _ _ h => hR.2.2.2.2.1 h) pn_27 (pc_27 _ _) rfl ce_X11_unit lk_X11_168 bl_self rfl dX11_unit_21 (fun x15 m14 hm => ?_)
      refine g_istoren_2 dX11_unit_24 rfl ?_
      refine g_aloadn_0 dX11_unit_25 ?_
      refine g_dup dX11_unit_26 rfl ?_
      refine g_geti fo_11_12 pn_27 pc_27 rfl dX11_unit_27 ?_
      refine g_iconst 1 dX11_unit_30 rfl ?_
      refine g_isub dX11_unit_31 ?_
      refine g_put hm fo_11_12 fp_11_12 pn_27 pc_27 rfl dX11_unit_32 (fun m16 hm => ?_)
      refine g_iloadn_2 dX11_unit_35 ?_
      refine g_if_ne 43 hm dX11_unit_36 (by decide) (fun hm => ?_) (fun hm => ?_)
      · refine g_iconst 0 dX11_unit_43 rfl ?_
        exact g_zretc hm rfl dX11_unit_44
      · refine g_iconst 1 dX11_unit_39 rfl ?_
        refine g_goto 44 dX11_unit_40 (by decide) ?_
        exact g_zretc hm rfl dX11_unit_44
    · refine g_iconst 0 dX11_unit_18 rfl ?_
      exact g_zretc hm rfl dX11_unit_19
def f_X11_part_L18 (R : Nat → Sg → Int32 → Int32 → Option (Int32 × Sg))  : (Sg × Int32) → Option (((Sg × Int32)) ⊕ (Sg × Int32)) := fun s => match s with
  | (m4, x5) => 
  (if (m4.1 27 11) = (-1) then cal (f_X11_look m4) (fun x11 m10 => (if x11 = 38 then bnd (wr m10 27 10 ((m10.1 27 10) + 1)) (fun m12 => cal (R 4 m12 0 0) (fun x14 m13 => bnd (fun ((m15, x16) : Sg × Int32) => some (.inr (m15, x16))) (fun (k17 : Sg × Int32 → Option (((Sg × Int32)) ⊕ (Sg × Int32))) =>
  bnd (fun (m18 : Sg) => k17 (m18, 0)) (fun (k19 : Sg → Option (((Sg × Int32)) ⊕ (Sg × Int32))) =>
  (if x5 = 0 then k19 m13 else
  (if x14 = 0 then k19 m13 else
  k17 (m13, 1))))))) else
  some (.inl (m10, x5)))) else
  some (.inl (m4, x5)))
def f_X11_part (R : Nat → Sg → Int32 → Int32 → Option (Int32 × Sg))  (m : Sg) (a1 : Int32) (a2 : Int32) : Option (Int32 × Sg) :=
  bnd (fun ((m1, x2) : Sg × Int32) => lpk (f_X11_part_L18 R) (m1, x2) (fun ((m6, x7) : Sg × Int32) => if isB x7 = true then some (x7, m6) else none)) (fun (k3 : Sg × Int32 → Option (Int32 × Sg)) =>
  (if a1 = 0 then cal (R 4 m 0 0) (fun x21 m20 => k3 (m20, x21)) else
  cal (R 3 m 1 a2) (fun x23 m22 => k3 (m22, x23))))
set_option maxRecDepth 4000 in
theorem c_X11_part {g : Cf} {m mm : Sg} {r : Int32} {a1 : Int32} {a2 : Int32} {R : Nat → Sg → Int32 → Int32 → Option (Int32 × Sg)} {d : Nat} (hb : 9 ≤ d) (hR : RH11 g d R) (HX : XOK g) (hm : f_X11_part R  m a1 a2 = some (r, mm)) : Cl g (d + 1) yX11_part cX11_part 5 (some .boolean) [.ref (g.ad 27), .int a1, .int a2] m (some (.int r)) mm := by
  refine cl_of (by decide) (Nat.le_of_ble_eq_true rfl) (vs := [some (.ref (g.ad 27)), some (.int a1), some (.int a2), none, none]) rfl rfl ?_
  show GX g (d + 1) RX11 cX11_part 5 (some .boolean) (some (.int r)) mm 0 _ [] m
  unfold f_X11_part at hm
  refine g_iloadn_1 dX11_part_0 ?_
  refine g_jn (J := fun (s : Sg × Int32) => GX g (d + 1) RX11 cX11_part 5 (some .boolean) (some (.int r)) mm 17 [some (.ref (g.ad 27)), none, none, none, none] [.int (s.2)] s.1) hm ?_ ?_
  · rintro ⟨m1, x2⟩ hm
    (try dsimp only at hm)
    (try dsimp only)
    refine g_istoren_3 dX11_part_17 rfl ?_
    refine g_lp (I := fun (s : Sg × Int32) => GX g (d + 1) RX11 cX11_part 5 (some .boolean) (some (.int r)) mm 18 [some (.ref (g.ad 27)), none, none, some (.int (s.2)), none] [] s.1) (E := fun (s : Sg × Int32) => GX g (d + 1) RX11 cX11_part 5 (some .boolean) (some (.int r)) mm 69 [none, none, none, some (.int (s.2)), none] [] s.1) hm ?_ ?_
    · rintro ⟨m6, x7⟩ hm
      (try dsimp only at hm)
      (try dsimp only)
      refine g_iloadn_3 dX11_part_69 ?_
      exact g_zret hm dX11_part_70
    · rintro ⟨m4, x5⟩ o hm hx9 hi8
      (try dsimp only [f_X11_part_L18] at hm)
      (try dsimp only)
      refine g_aloadn_0 dX11_part_18 ?_
      refine g_geti fo_11_11 pn_27 pc_27 rfl dX11_part_19 ?_
      refine g_iconst (-1) dX11_part_22 rfl ?_
      refine g_icmp_ne 69 hm dX11_part_23 (by decide) (fun hm => ?_) (fun hm => ?_)
      · refine g_weak (vs' := [none, none, none, some (.int x5), none]) ⟨rfl, trivial⟩ ?_
        cases hm
        exact hx9 _ rfl
      · refine g_aloadn_0 dX11_part_26 ?_
        refine g_v0 hm (fun _ _ h => c_X11_look h) pn_27 (pc_27 _ _) rfl ce_X11_look lk_X11_122 (bl_of (by omega)) rfl dX11_part_27 (fun x11 m10 hm => ?_)
        refine g_bipush 38 dX11_part_30 rfl ?_
        refine g_icmp_ne 69 hm dX11_part_32 (by decide) (fun hm => ?_) (fun hm => ?_)
        · refine g_weak (vs' := [none, none, none, some (.int x5), none]) ⟨rfl, trivial⟩ ?_
          cases hm
          exact hx9 _ rfl
        · refine g_aloadn_0 dX11_part_35 ?_
          refine g_dup dX11_part_36 rfl ?_
          refine g_geti fo_11_10 pn_27 pc_27 rfl dX11_part_37 ?_
          refine g_iconst 1 dX11_part_40 rfl ?_
          refine g_iadd dX11_part_41 ?_
          refine g_put hm fo_11_10 fp_11_10 pn_27 pc_27 rfl dX11_part_42 (fun m12 hm => ?_)
          refine g_aloadn_0 dX11_part_45 ?_
          refine g_v0 hm (fun _ _ h => hR.2.2.2.2.1 h) pn_27 (pc_27 _ _) rfl ce_X11_unit lk_X11_168 bl_self rfl dX11_part_46 (fun x14 m13 hm => ?_)
          refine g_istore_4 dX11_part_49 rfl ?_
          refine g_iloadn_3 dX11_part_51 ?_
          refine g_jn (J := fun (s : Sg × Int32) => GX g (d + 1) RX11 cX11_part 5 (some .boolean) (some (.int r)) mm 65 [some (.ref (g.ad 27)), none, none, none, none] [.int (s.2)] s.1) hm ?_ ?_
          · rintro ⟨m15, x16⟩ hm
            (try dsimp only at hm)
            (try dsimp only)
            refine g_istoren_3 dX11_part_65 rfl ?_
            refine g_goto 18 dX11_part_66 (by decide) ?_
            cases hm
            exact hi8 _ rfl
          · intro k17 hk17 hm
            refine g_jn (J := fun (s : Sg) => GX g (d + 1) RX11 cX11_part 5 (some .boolean) (some (.int r)) mm 64 [some (.ref (g.ad 27)), none, none, none, none] [] s) hm ?_ ?_
            · intro m18 hm
              refine g_iconst 0 dX11_part_64 rfl ?_
              exact hk17 _ hm
            · intro k19 hk19 hm
              refine g_if_eq 64 hm dX11_part_52 (by decide) (fun hm => ?_) (fun hm => ?_)
              · refine g_weak (vs' := [some (.ref (g.ad 27)), none, none, none, none]) ⟨rfl, trivial⟩ ?_
                exact hk19 _ hm
              · refine g_iload_4 dX11_part_55 ?_
                refine g_if_eq 64 hm dX11_part_57 (by decide) (fun hm => ?_) (fun hm => ?_)
                · refine g_weak (vs' := [some (.ref (g.ad 27)), none, none, none, none]) ⟨rfl, trivial⟩ ?_
                  exact hk19 _ hm
                · refine g_iconst 1 dX11_part_60 rfl ?_
                  refine g_goto 65 dX11_part_61 (by decide) ?_
                  refine g_weak (vs' := [some (.ref (g.ad 27)), none, none, none, none]) ⟨rfl, trivial⟩ ?_
                  exact hk17 _ hm
  · intro k3 hk3 hm
    refine g_if_eq 13 hm dX11_part_1 (by decide) (fun hm => ?_) (fun hm => ?_)
    · refine g_aloadn_0 dX11_part_13 ?_
      refine g_v0 hm (fun _ _ h => hR.2.2.2.2.1 h) pn_27 (pc_27 _ _) rfl ce_X11_unit lk_X11_168 bl_self rfl dX11_part_14 (fun x21 m20 hm => ?_)
      refine g_weak (vs' := [some (.ref (g.ad 27)), none, none, none, none]) ⟨rfl, trivial⟩ ?_
      exact hk3 _ hm
    · refine g_aloadn_0 dX11_part_4 ?_
      refine g_iconst 1 dX11_part_5 rfl ?_
      refine g_iloadn_2 dX11_part_6 ?_
      refine g_v2 hm (fun _ _ h => hR.2.2.2.1 h) pn_27 (pc_27 _ _) rfl ce_X11_compares lk_X11_175 bl_self rfl dX11_part_7 (fun x23 m22 hm => ?_)
      refine g_goto 17 dX11_part_10 (by decide) ?_
      refine g_weak (vs' := [some (.ref (g.ad 27)), none, none, none, none]) ⟨rfl, trivial⟩ ?_
      exact hk3 _ hm
def f_X11_condition_L7 (R : Nat → Sg → Int32 → Int32 → Option (Int32 × Sg))  : (Sg × Int32) → Option (((Sg × Int32)) ⊕ (Sg × Int32)) := fun s => match s with
  | (m3, x4) => 
  (if (m3.1 27 11) = (-1) then cal (f_X11_look m3) (fun x10 m9 => (if x10 = 124 then bnd (wr m9 27 10 ((m9.1 27 10) + 1)) (fun m11 => cal (R 5 m11 0 0) (fun x13 m12 => bnd (fun ((m14, x15) : Sg × Int32) => some (.inr (m14, x15))) (fun (k16 : Sg × Int32 → Option (((Sg × Int32)) ⊕ (Sg × Int32))) =>
  bnd (fun (m17 : Sg) => k16 (m17, 1)) (fun (k18 : Sg → Option (((Sg × Int32)) ⊕ (Sg × Int32))) =>
  (if x4 = 0 then (if x13 = 0 then k16 (m12, 0) else
  k18 m12) else
  k18 m12))))) else
  some (.inl (m9, x4)))) else
  some (.inl (m3, x4)))
def f_X11_condition (R : Nat → Sg → Int32 → Int32 → Option (Int32 × Sg))  (m : Sg) (a1 : Int32) (a2 : Int32) : Option (Int32 × Sg) :=
  cal (R 5 m a1 a2) (fun x2 m1 => lpk (f_X11_condition_L7 R) (m1, x2) (fun ((m5, x6) : Sg × Int32) => if isB x6 = true then some (x6, m5) else none))
set_option maxRecDepth 4000 in
theorem c_X11_condition {g : Cf} {m mm : Sg} {r : Int32} {a1 : Int32} {a2 : Int32} {R : Nat → Sg → Int32 → Int32 → Option (Int32 × Sg)} {d : Nat} (hb : 9 ≤ d) (hR : RH11 g d R) (HX : XOK g) (hm : f_X11_condition R  m a1 a2 = some (r, mm)) : Cl g (d + 1) yX11_condition cX11_condition 5 (some .boolean) [.ref (g.ad 27), .int a1, .int a2] m (some (.int r)) mm := by
  refine cl_of (by decide) (Nat.le_of_ble_eq_true rfl) (vs := [some (.ref (g.ad 27)), some (.int a1), some (.int a2), none, none]) rfl rfl ?_
  show GX g (d + 1) RX11 cX11_condition 5 (some .boolean) (some (.int r)) mm 0 _ [] m
  unfold f_X11_condition at hm
  refine g_aloadn_0 dX11_condition_0 ?_
  refine g_iloadn_1 dX11_condition_1 ?_
  refine g_iloadn_2 dX11_condition_2 ?_
  refine g_v2 hm (fun _ _ h => hR.2.2.2.2.2.1 h) pn_27 (pc_27 _ _) rfl ce_X11_part lk_X11_178 bl_self rfl dX11_condition_3 (fun x2 m1 hm => ?_)
  refine g_istoren_3 dX11_condition_6 rfl ?_
  refine g_weak (vs' := [some (.ref (g.ad 27)), none, none, some (.int x2), none]) ⟨rfl, ⟨rfl, trivial⟩⟩ ?_
  refine g_lp (I := fun (s : Sg × Int32) => GX g (d + 1) RX11 cX11_condition 5 (some .boolean) (some (.int r)) mm 7 [some (.ref (g.ad 27)), none, none, some (.int (s.2)), none] [] s.1) (E := fun (s : Sg × Int32) => GX g (d + 1) RX11 cX11_condition 5 (some .boolean) (some (.int r)) mm 60 [none, none, none, some (.int (s.2)), none] [] s.1) hm ?_ ?_
  · rintro ⟨m5, x6⟩ hm
    (try dsimp only at hm)
    (try dsimp only)
    refine g_iloadn_3 dX11_condition_60 ?_
    exact g_zret hm dX11_condition_61
  · rintro ⟨m3, x4⟩ o hm hx8 hi7
    (try dsimp only [f_X11_condition_L7] at hm)
    (try dsimp only)
    refine g_aloadn_0 dX11_condition_7 ?_
    refine g_geti fo_11_11 pn_27 pc_27 rfl dX11_condition_8 ?_
    refine g_iconst (-1) dX11_condition_11 rfl ?_
    refine g_icmp_ne 60 hm dX11_condition_12 (by decide) (fun hm => ?_) (fun hm => ?_)
    · refine g_weak (vs' := [none, none, none, some (.int x4), none]) ⟨rfl, trivial⟩ ?_
      cases hm
      exact hx8 _ rfl
    · refine g_aloadn_0 dX11_condition_15 ?_
      refine g_v0 hm (fun _ _ h => c_X11_look h) pn_27 (pc_27 _ _) rfl ce_X11_look lk_X11_122 (bl_of (by omega)) rfl dX11_condition_16 (fun x10 m9 hm => ?_)
      refine g_bipush 124 dX11_condition_19 rfl ?_
      refine g_icmp_ne 60 hm dX11_condition_21 (by decide) (fun hm => ?_) (fun hm => ?_)
      · refine g_weak (vs' := [none, none, none, some (.int x4), none]) ⟨rfl, trivial⟩ ?_
        cases hm
        exact hx8 _ rfl
      · refine g_aloadn_0 dX11_condition_24 ?_
        refine g_dup dX11_condition_25 rfl ?_
        refine g_geti fo_11_10 pn_27 pc_27 rfl dX11_condition_26 ?_
        refine g_iconst 1 dX11_condition_29 rfl ?_
        refine g_iadd dX11_condition_30 ?_
        refine g_put hm fo_11_10 fp_11_10 pn_27 pc_27 rfl dX11_condition_31 (fun m11 hm => ?_)
        refine g_aloadn_0 dX11_condition_34 ?_
        refine g_iconst 0 dX11_condition_35 rfl ?_
        refine g_iconst 0 dX11_condition_36 rfl ?_
        refine g_v2 hm (fun _ _ h => hR.2.2.2.2.2.1 h) pn_27 (pc_27 _ _) rfl ce_X11_part lk_X11_178 bl_self rfl dX11_condition_37 (fun x13 m12 hm => ?_)
        refine g_istore_4 dX11_condition_40 rfl ?_
        refine g_iloadn_3 dX11_condition_42 ?_
        refine g_jn (J := fun (s : Sg × Int32) => GX g (d + 1) RX11 cX11_condition 5 (some .boolean) (some (.int r)) mm 56 [some (.ref (g.ad 27)), none, none, none, none] [.int (s.2)] s.1) hm ?_ ?_
        · rintro ⟨m14, x15⟩ hm
          (try dsimp only at hm)
          (try dsimp only)
          refine g_istoren_3 dX11_condition_56 rfl ?_
          refine g_goto 7 dX11_condition_57 (by decide) ?_
          cases hm
          exact hi7 _ rfl
        · intro k16 hk16 hm
          refine g_jn (J := fun (s : Sg) => GX g (d + 1) RX11 cX11_condition 5 (some .boolean) (some (.int r)) mm 51 [some (.ref (g.ad 27)), none, none, none, none] [] s) hm ?_ ?_
          · intro m17 hm
            refine g_iconst 1 dX11_condition_51 rfl ?_
            refine g_goto 56 dX11_condition_52 (by decide) ?_
            exact hk16 _ hm
          · intro k18 hk18 hm
            refine g_if_ne 51 hm dX11_condition_43 (by decide) (fun hm => ?_) (fun hm => ?_)
            · refine g_weak (vs' := [some (.ref (g.ad 27)), none, none, none, none]) ⟨rfl, trivial⟩ ?_
              exact hk18 _ hm
            · refine g_iload_4 dX11_condition_46 ?_
              refine g_if_eq 55 hm dX11_condition_48 (by decide) (fun hm => ?_) (fun hm => ?_)
              · refine g_iconst 0 dX11_condition_55 rfl ?_
                refine g_weak (vs' := [some (.ref (g.ad 27)), none, none, none, none]) ⟨rfl, trivial⟩ ?_
                exact hk16 _ hm
              · refine g_weak (vs' := [some (.ref (g.ad 27)), none, none, none, none]) ⟨rfl, trivial⟩ ?_
                exact hk18 _ hm
def rec11 : Nat → Nat → Sg → Int32 → Int32 → Option (Int32 × Sg)
  | 0, _, _, _, _ => none
  | n + 1, 0, m, a, b => f_X11_atom (rec11 n) m 
  | n + 1, 1, m, a, b => f_X11_term (rec11 n) m 
  | n + 1, 2, m, a, b => f_X11_sum (rec11 n) m 
  | n + 1, 3, m, a, b => f_X11_compares (rec11 n) m a b
  | n + 1, 4, m, a, b => f_X11_unit (rec11 n) m 
  | n + 1, 5, m, a, b => f_X11_part (rec11 n) m a b
  | n + 1, 6, m, a, b => f_X11_condition (rec11 n) m a b
  | _ + 1, _, _, _, _ => none
set_option maxRecDepth 4000 in
theorem hrec11 {g : Cf} (HX : XOK g) : ∀ n, RH11 g (9 + n) (rec11 n)
  | 0 => ⟨fun h => (by cases h), fun h => (by cases h), fun h => (by cases h), fun h => (by cases h), fun h => (by cases h), fun h => (by cases h), fun h => (by cases h)⟩
  | n + 1 => ⟨fun h => c_X11_atom (Nat.le_add_right _ _) (hrec11 HX n) HX h, fun h => c_X11_term (Nat.le_add_right _ _) (hrec11 HX n) HX h, fun h => c_X11_sum (Nat.le_add_right _ _) (hrec11 HX n) HX h, fun h => c_X11_compares (Nat.le_add_right _ _) (hrec11 HX n) HX h, fun h => c_X11_unit (Nat.le_add_right _ _) (hrec11 HX n) HX h, fun h => c_X11_part (Nat.le_add_right _ _) (hrec11 HX n) HX h, fun h => c_X11_condition (Nat.le_add_right _ _) (hrec11 HX n) HX h⟩
