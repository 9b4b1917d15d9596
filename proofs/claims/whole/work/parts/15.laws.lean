def f_X4_endOfClause_L2 (P : Nat) (n : Nat) : (Sg × Int32) → Option (((Sg × Int32) ⊕ (Sg)) ⊕ (Sg × Int32)) := fun s => match s with
  | (m1, x2) => 
  (if (Int32.ofNat n) ≤ x2 then some (.inl (.inr m1)) else
  if inr x2 n = true then (if (m1.1 (P + 1) x2.toNatClampNeg) = 10059 then some (.inl (.inl (m1, x2))) else
  bnd (x2 + 1) (fun x8 => some (.inr (m1, x8)))) else none)
def f_X4_endOfClause (P : Nat) (n : Nat) (m : Sg) (a1 : Int32) : Option (Int32 × Sg) :=
  lpk (f_X4_endOfClause_L2 P n) (m, a1) (fun x => match x with
  | .inl (m3, x4) => some (x4, m3)
  | .inr m5 => some ((Int32.ofNat n), m5))
set_option maxRecDepth 4000 in
theorem c_X4_endOfClause {g : Cf} {m mm : Sg} {r : Int32} {P : Nat} {n : Nat} {a1 : Int32} (HL : LAWO g P n) (hm : f_X4_endOfClause P n m a1 = some (r, mm)) : Cl g 0 yX4_endOfClause cX4_endOfClause 3 (some .int) [.ref (g.ad P), .int a1] m (some (.int r)) mm := by
  refine cl_of (by decide) (Nat.le_of_ble_eq_true rfl) (vs := [some (.ref (g.ad P)), some (.int a1), none]) rfl rfl ?_
  show GX g 0 RX4 cX4_endOfClause 3 (some .int) (some (.int r)) mm 0 _ [] m
  unfold f_X4_endOfClause at hm
  refine g_iloadn_1 dX4_endOfClause_0 ?_
  refine g_istoren_2 dX4_endOfClause_1 rfl ?_
  refine g_weak (vs' := [some (.ref (g.ad P)), none, some (.int a1)]) ⟨rfl, ⟨rfl, trivial⟩⟩ ?_
  refine g_lp (I := fun (s : Sg × Int32) => GX g 0 RX4 cX4_endOfClause 3 (some .int) (some (.int r)) mm 2 [some (.ref (g.ad P)), none, some (.int (s.2))] [] s.1) (E := fun (x : (Sg × Int32) ⊕ (Sg)) => match x with | .inl (m3, x4) => GX g 0 RX4 cX4_endOfClause 3 (some .int) (some (.int r)) mm 23 [none, none, some (.int x4)] [] m3 | .inr m5 => GX g 0 RX4 cX4_endOfClause 3 (some .int) (some (.int r)) mm 31 [some (.ref (g.ad P)), none, none] [] m5) hm ?_ ?_
  · rintro (⟨m3, x4⟩ | m5) hm
    · (try dsimp only at hm)
      (try dsimp only)
      refine g_iloadn_2 dX4_endOfClause_23 ?_
      exact g_iret hm dX4_endOfClause_24
    · (try dsimp only at hm)
      (try dsimp only)
      refine g_aloadn_0 dX4_endOfClause_31 ?_
      refine g_getr (q := (P + 1)) fo_4_0 HL.1 HL.2.1 rfl HL.2.2.2.2.1 dX4_endOfClause_32 ?_
      refine g_alen (ty := .int) (Int32.ofNat n) HL.2.2.1.1 HL.2.2.1.2 rfl rfl dX4_endOfClause_35 ?_
      exact g_iret hm dX4_endOfClause_36
  · rintro ⟨m1, x2⟩ o hm hx7 hi6
    (try dsimp only [f_X4_endOfClause_L2] at hm)
    (try dsimp only)
    refine g_iloadn_2 dX4_endOfClause_2 ?_
    refine g_aloadn_0 dX4_endOfClause_3 ?_
    refine g_getr (q := (P + 1)) fo_4_0 HL.1 HL.2.1 rfl HL.2.2.2.2.1 dX4_endOfClause_4 ?_
    refine g_alen (ty := .int) (Int32.ofNat n) HL.2.2.1.1 HL.2.2.1.2 rfl rfl dX4_endOfClause_7 ?_
    refine g_icmp_ge 31 hm dX4_endOfClause_8 (by decide) (fun hm => ?_) (fun hm => ?_)
    · refine g_weak (vs' := [some (.ref (g.ad P)), none, none]) ⟨rfl, trivial⟩ ?_
      cases hm
      exact hx7 _ rfl
    · refine g_aloadn_0 dX4_endOfClause_11 ?_
      refine g_getr (q := (P + 1)) fo_4_0 HL.1 HL.2.1 rfl HL.2.2.2.2.1 dX4_endOfClause_12 ?_
      refine g_iloadn_2 dX4_endOfClause_15 ?_
      refine g_iaload hm HL.2.2.1.1 HL.2.2.1.2 dX4_endOfClause_16 (fun hm => ?_)
      refine g_sipush 10059 dX4_endOfClause_17 rfl ?_
      refine g_icmp_ne 25 hm dX4_endOfClause_20 (by decide) (fun hm => ?_) (fun hm => ?_)
      · refine g_iinc_2 1 hm dX4_endOfClause_25 rfl rfl (fun x8 hm => ?_)
        refine g_goto 2 dX4_endOfClause_28 (by decide) ?_
        cases hm
        exact hi6 _ rfl
      · refine g_weak (vs' := [none, none, some (.int x2)]) ⟨rfl, trivial⟩ ?_
        cases hm
        exact hx7 _ rfl
def f_X4_push (P : Nat) (n : Nat) (m : Sg) (a1 : Int32) : Option (Sg) :=
  (if 18 ≤ (m.1 P 2) then some m else
  if inr (m.1 P 2) 18 = true then bnd (wr m (P + 2) (m.1 P 2).toNatClampNeg a1) (fun m1 => bnd (wr m1 P 2 ((m1.1 P 2) + 1)) (fun m2 => some m2)) else none)
set_option maxRecDepth 4000 in
theorem c_X4_push {g : Cf} {m mm : Sg} {P : Nat} {n : Nat} {a1 : Int32} (HL : LAWO g P n) (hm : f_X4_push P n m a1 = some mm) : Cl g 0 yX4_push cX4_push 2 none [.ref (g.ad P), .int a1] m none mm := by
  refine cl_of (by decide) (Nat.le_of_ble_eq_true rfl) (vs := [some (.ref (g.ad P)), some (.int a1)]) rfl rfl ?_
  show GX g 0 RX4 cX4_push 2 none none mm 0 _ [] m
  unfold f_X4_push at hm
  refine g_aloadn_0 dX4_push_0 ?_
  refine g_geti fo_4_2 HL.1 HL.2.1 rfl dX4_push_1 ?_
  refine g_aloadn_0 dX4_push_4 ?_
  refine g_getr (q := (P + 2)) fo_4_1 HL.1 HL.2.1 rfl HL.2.2.2.2.2 dX4_push_5 ?_
  refine g_alen (ty := .int) 18 HL.2.2.2.1.1 HL.2.2.2.1.2 rfl rfl dX4_push_8 ?_
  refine g_icmp_ge 32 hm dX4_push_9 (by decide) (fun hm => ?_) (fun hm => ?_)
  · exact g_vret hm dX4_push_32
  · refine g_aloadn_0 dX4_push_12 ?_
    refine g_getr (q := (P + 2)) fo_4_1 HL.1 HL.2.1 rfl HL.2.2.2.2.2 dX4_push_13 ?_
    refine g_aloadn_0 dX4_push_16 ?_
    refine g_geti fo_4_2 HL.1 HL.2.1 rfl dX4_push_17 ?_
    refine g_iloadn_1 dX4_push_20 ?_
    refine g_iastore hm HL.2.2.2.1.1 HL.2.2.2.1.2 dX4_push_21 (fun m1 hm => ?_)
    refine g_aloadn_0 dX4_push_22 ?_
    refine g_dup dX4_push_23 rfl ?_
    refine g_geti fo_4_2 HL.1 HL.2.1 rfl dX4_push_24 ?_
    refine g_iconst 1 dX4_push_27 rfl ?_
    refine g_iadd dX4_push_28 ?_
    refine g_put hm fo_4_2 fp_4_2 HL.1 HL.2.1 rfl dX4_push_29 (fun m2 hm => ?_)
    exact g_vret hm dX4_push_32
def f_X4_pop (P : Nat) (n : Nat) (m : Sg)  : Option (Int32 × Sg) :=
  (if (m.1 P 2) ≤ 0 then some (0, m) else
  (if (m.1 P 2) ≤ 18 then bnd (wr m P 2 ((m.1 P 2) - 1)) (fun m1 => if inr (m1.1 P 2) 18 = true then some (m1.1 (P + 2) (m1.1 P 2).toNatClampNeg, m1) else none) else
  some (0, m)))
set_option maxRecDepth 4000 in
theorem c_X4_pop {g : Cf} {m mm : Sg} {r : Int32} {P : Nat} {n : Nat} (HL : LAWO g P n) (hm : f_X4_pop P n m  = some (r, mm)) : Cl g 0 yX4_pop cX4_pop 1 (some .int) [.ref (g.ad P)] m (some (.int r)) mm := by
  refine cl_of (by decide) (Nat.le_of_ble_eq_true rfl) (vs := [some (.ref (g.ad P))]) rfl rfl ?_
  show GX g 0 RX4 cX4_pop 1 (some .int) (some (.int r)) mm 0 _ [] m
  unfold f_X4_pop at hm
  refine g_aloadn_0 dX4_pop_0 ?_
  refine g_geti fo_4_2 HL.1 HL.2.1 rfl dX4_pop_1 ?_
  refine g_if_le 19 hm dX4_pop_4 (by decide) (fun hm => ?_) (fun hm => ?_)
  · refine g_iconst 0 dX4_pop_19 rfl ?_
    exact g_iret hm dX4_pop_20
  · refine g_aloadn_0 dX4_pop_7 ?_
    refine g_geti fo_4_2 HL.1 HL.2.1 rfl dX4_pop_8 ?_
    refine g_aloadn_0 dX4_pop_11 ?_
    refine g_getr (q := (P + 2)) fo_4_1 HL.1 HL.2.1 rfl HL.2.2.2.2.2 dX4_pop_12 ?_
    refine g_alen (ty := .int) 18 HL.2.2.2.1.1 HL.2.2.2.1.2 rfl rfl dX4_pop_15 ?_
    refine g_icmp_le 21 hm dX4_pop_16 (by decide) (fun hm => ?_) (fun hm => ?_)
    · refine g_aloadn_0 dX4_pop_21 ?_
      refine g_dup dX4_pop_22 rfl ?_
      refine g_geti fo_4_2 HL.1 HL.2.1 rfl dX4_pop_23 ?_
      refine g_iconst 1 dX4_pop_26 rfl ?_
      refine g_isub dX4_pop_27 ?_
      refine g_put hm fo_4_2 fp_4_2 HL.1 HL.2.1 rfl dX4_pop_28 (fun m1 hm => ?_)
      refine g_aloadn_0 dX4_pop_31 ?_
      refine g_getr (q := (P + 2)) fo_4_1 HL.1 HL.2.1 rfl HL.2.2.2.2.2 dX4_pop_32 ?_
      refine g_aloadn_0 dX4_pop_35 ?_
      refine g_geti fo_4_2 HL.1 HL.2.1 rfl dX4_pop_36 ?_
      refine g_iaload hm HL.2.2.2.1.1 HL.2.2.2.1.2 dX4_pop_39 (fun hm => ?_)
      exact g_iret hm dX4_pop_40
    · refine g_iconst 0 dX4_pop_19 rfl ?_
      exact g_iret hm dX4_pop_20
def f_X4_held  (m : Sg) (a1 : Int64) : Option (Int32 × Sg) :=
  some (((if ((if (a1 : Int64) < 1000000 then a1 else 1000000) : Int64) < (-1000000) then (-1000000) else (if (a1 : Int64) < 1000000 then a1 else 1000000)) : Int64).toInt32, m)
set_option maxRecDepth 4000 in
theorem c_X4_held {g : Cf} {m mm : Sg} {r : Int32} {a1 : Int64} (hm : f_X4_held  m a1 = some (r, mm)) : Cl g 1 yX4_held cX4_held 2 (some .int) [.long a1] m (some (.int r)) mm := by
  refine cl_of (by decide) (Nat.le_of_ble_eq_true rfl) (vs := [some (.long a1), none]) rfl rfl ?_
  show GX g 1 RX4 cX4_held 2 (some .int) (some (.int r)) mm 0 _ [] m
  unfold f_X4_held at hm
  refine g_ldc2_w dX4_held_0 ck_X4_63 ?_
  refine g_ldc2_w dX4_held_3 ck_X4_65 ?_
  refine g_lloadn_0 dX4_held_6 ?_
  refine g_mminL lk_X4_67 rfl rfl dX4_held_7 ?_
  refine g_mmaxL lk_X4_71 rfl rfl dX4_held_10 ?_
  refine g_l2i dX4_held_13 ?_
  exact g_iret hm dX4_held_14
theorem lkd_X4_reckon {x : Int32} (q38 : ¬ x = 38) (q42 : ¬ x = 42) (q43 : ¬ x = 43) (q45 : ¬ x = 45) (q47 : ¬ x = 47) (q60 : ¬ x = 60) (q61 : ¬ x = 61) (q62 : ¬ x = 62) (q124 : ¬ x = 124) : Op.lookupswitch.offset [((38 : Int), (160 : Int)), (42, 101), (43, 83), (45, 92), (47, 110), (60, 138), (61, 127), (62, 149), (124, 164)] 168 x.toInt = 168 := by
  have h1 := i32_ne q38; have h2 := i32_ne q42; have h3 := i32_ne q43; have h4 := i32_ne q45; have h5 := i32_ne q47; have h6 := i32_ne q60; have h7 := i32_ne q61; have h8 := i32_ne q62; have h9 := i32_ne q124
  simp at h1 h2 h3 h4 h5 h6 h7 h8 h9
  simp [Op.lookupswitch.offset, h1, h2, h3, h4, h5, h6, h7, h8, h9]
  (try omega)
def f_X4_reckon  (m : Sg) (a1 : Int32) (a2 : Int32) (a3 : Int32) : Option (Int32 × Sg) :=
  (if a2 = 38 then some (a1 &&& a3, m) else
  (if a2 = 42 then cal (f_X4_held m (((a1 : Int32).toInt64) * ((a3 : Int32).toInt64))) (fun x2 m1 => some (x2, m1)) else
  (if a2 = 43 then cal (f_X4_held m (((a1 : Int32).toInt64) + ((a3 : Int32).toInt64))) (fun x4 m3 => some (x4, m3)) else
  (if a2 = 45 then cal (f_X4_held m (((a1 : Int32).toInt64) - ((a3 : Int32).toInt64))) (fun x6 m5 => some (x6, m5)) else
  (if a2 = 47 then (if a3 = 0 then some (0, m) else
  if (!(decide ((a3 : Int32).toInt64 = 0))) = true then cal (f_X4_held m (((a1 : Int32).toInt64) / ((a3 : Int32).toInt64))) (fun x8 m7 => some (x8, m7)) else none) else
  (if a2 = 60 then (if a3 ≤ a1 then some (0, m) else
  some (1, m)) else
  (if a2 = 61 then (if a1 = a3 then some (1, m) else
  some (0, m)) else
  (if a2 = 62 then (if a1 ≤ a3 then some (0, m) else
  some (1, m)) else
  (if a2 = 124 then some (a1 ||| a3, m) else
  some (0, m))))))))))
set_option maxRecDepth 4000 in
theorem c_X4_reckon {g : Cf} {m mm : Sg} {r : Int32} {a1 : Int32} {a2 : Int32} {a3 : Int32} (hm : f_X4_reckon  m a1 a2 a3 = some (r, mm)) : Cl g 2 yX4_reckon cX4_reckon 3 (some .int) [.int a1, .int a2, .int a3] m (some (.int r)) mm := by
  refine cl_of (by decide) (Nat.le_of_ble_eq_true rfl) (vs := [some (.int a1), some (.int a2), some (.int a3)]) rfl rfl ?_
  show GX g 2 RX4 cX4_reckon 3 (some .int) (some (.int r)) mm 0 _ [] m
  unfold f_X4_reckon at hm
  refine g_iloadn_1 dX4_reckon_0 ?_
  refine g_lc (off := 160) 161 hm dX4_reckon_1 (by decide) (by decide) (by decide) (fun hm => ?_) (fun q38 hm => ?_)
  · refine g_iloadn_0 dX4_reckon_161 ?_
    refine g_iloadn_2 dX4_reckon_162 ?_
    refine g_iand dX4_reckon_163 ?_
    exact g_iret hm dX4_reckon_164
  · refine g_lc (off := 101) 102 hm dX4_reckon_1 (by decide) (by decide) (by decide) (fun hm => ?_) (fun q42 hm => ?_)
    · refine g_iloadn_0 dX4_reckon_102 ?_
      refine g_i2l dX4_reckon_103 ?_
      refine g_iloadn_2 dX4_reckon_104 ?_
      refine g_i2l dX4_reckon_105 ?_
      refine g_lmul dX4_reckon_106 ?_
      refine g_s1 hm (fun _ _ h => c_X4_held h) ce_X4_held lk_X4_59 rfl rfl dX4_reckon_107 (fun x2 m1 hm => ?_)
      exact g_iret hm dX4_reckon_110
    · refine g_lc (off := 83) 84 hm dX4_reckon_1 (by decide) (by decide) (by decide) (fun hm => ?_) (fun q43 hm => ?_)
      · refine g_iloadn_0 dX4_reckon_84 ?_
        refine g_i2l dX4_reckon_85 ?_
        refine g_iloadn_2 dX4_reckon_86 ?_
        refine g_i2l dX4_reckon_87 ?_
        refine g_ladd dX4_reckon_88 ?_
        refine g_s1 hm (fun _ _ h => c_X4_held h) ce_X4_held lk_X4_59 rfl rfl dX4_reckon_89 (fun x4 m3 hm => ?_)
        exact g_iret hm dX4_reckon_92
      · refine g_lc (off := 92) 93 hm dX4_reckon_1 (by decide) (by decide) (by decide) (fun hm => ?_) (fun q45 hm => ?_)
        · refine g_iloadn_0 dX4_reckon_93 ?_
          refine g_i2l dX4_reckon_94 ?_
          refine g_iloadn_2 dX4_reckon_95 ?_
          refine g_i2l dX4_reckon_96 ?_
          refine g_lsub dX4_reckon_97 ?_
          refine g_s1 hm (fun _ _ h => c_X4_held h) ce_X4_held lk_X4_59 rfl rfl dX4_reckon_98 (fun x6 m5 hm => ?_)
          exact g_iret hm dX4_reckon_101
        · refine g_lc (off := 110) 111 hm dX4_reckon_1 (by decide) (by decide) (by decide) (fun hm => ?_) (fun q47 hm => ?_)
          · refine g_iloadn_2 dX4_reckon_111 ?_
            refine g_if_ne 119 hm dX4_reckon_112 (by decide) (fun hm => ?_) (fun hm => ?_)
            · refine g_iloadn_0 dX4_reckon_119 ?_
              refine g_i2l dX4_reckon_120 ?_
              refine g_iloadn_2 dX4_reckon_121 ?_
              refine g_i2l dX4_reckon_122 ?_
              refine g_ldivN hm dX4_reckon_123 (fun hm => ?_)
              refine g_s1 hm (fun _ _ h => c_X4_held h) ce_X4_held lk_X4_59 rfl rfl dX4_reckon_124 (fun x8 m7 hm => ?_)
              exact g_iret hm dX4_reckon_127
            · refine g_iconst 0 dX4_reckon_115 rfl ?_
              refine g_goto 127 dX4_reckon_116 (by decide) ?_
              exact g_iret hm dX4_reckon_127
          · refine g_lc (off := 138) 139 hm dX4_reckon_1 (by decide) (by decide) (by decide) (fun hm => ?_) (fun q60 hm => ?_)
            · refine g_iloadn_0 dX4_reckon_139 ?_
              refine g_iloadn_2 dX4_reckon_140 ?_
              refine g_icmp_ge 148 hm dX4_reckon_141 (by decide) (fun hm => ?_) (fun hm => ?_)
              · refine g_iconst 0 dX4_reckon_148 rfl ?_
                exact g_iret hm dX4_reckon_149
              · refine g_iconst 1 dX4_reckon_144 rfl ?_
                refine g_goto 149 dX4_reckon_145 (by decide) ?_
                exact g_iret hm dX4_reckon_149
            · refine g_lc (off := 127) 128 hm dX4_reckon_1 (by decide) (by decide) (by decide) (fun hm => ?_) (fun q61 hm => ?_)
              · refine g_iloadn_0 dX4_reckon_128 ?_
                refine g_iloadn_2 dX4_reckon_129 ?_
                refine g_icmp_ne 137 hm dX4_reckon_130 (by decide) (fun hm => ?_) (fun hm => ?_)
                · refine g_iconst 0 dX4_reckon_137 rfl ?_
                  exact g_iret hm dX4_reckon_138
                · refine g_iconst 1 dX4_reckon_133 rfl ?_
                  refine g_goto 138 dX4_reckon_134 (by decide) ?_
                  exact g_iret hm dX4_reckon_138
              · refine g_lc (off := 149) 150 hm dX4_reckon_1 (by decide) (by decide) (by decide) (fun hm => ?_) (fun q62 hm => ?_)
                · refine g_iloadn_0 dX4_reckon_150 ?_
                  refine g_iloadn_2 dX4_reckon_151 ?_
                  refine g_icmp_le 159 hm dX4_reckon_152 (by decide) (fun hm => ?_) (fun hm => ?_)
                  · refine g_iconst 0 dX4_reckon_159 rfl ?_
                    exact g_iret hm dX4_reckon_160
                  · refine g_iconst 1 dX4_reckon_155 rfl ?_
                    refine g_goto 160 dX4_reckon_156 (by decide) ?_
                    exact g_iret hm dX4_reckon_160
                · refine g_lc (off := 164) 165 hm dX4_reckon_1 (by decide) (by decide) (by decide) (fun hm => ?_) (fun q124 hm => ?_)
                  · refine g_iloadn_0 dX4_reckon_165 ?_
                    refine g_iloadn_2 dX4_reckon_166 ?_
                    refine g_ior dX4_reckon_167 ?_
                    exact g_iret hm dX4_reckon_168
                  · refine g_lk 169 dX4_reckon_1 (by decide) (lkd_X4_reckon q38 q42 q43 q45 q47 q60 q61 q62 q124) (by decide) ?_
                    refine g_iconst 0 dX4_reckon_169 rfl ?_
                    exact g_iret hm dX4_reckon_170
def f_X4_worth_L7 (P : Nat) (n : Nat) : (Sg × Int32) → Option (((Sg) ⊕ (Sg)) ⊕ (Sg × Int32)) := fun s => match s with
  | (m2, x3) => 
  (if (Int32.ofNat n) ≤ x3 then some (.inl (.inr m2)) else
  if inr x3 n = true then bnd ((m2.1 (P + 1) x3.toNatClampNeg) - 10000) (fun x8 => (if x8 = 59 then some (.inl (.inl m2)) else
  bnd (fun ((m9, x10) : Sg × Int32) => bnd (fun ((m12, x13) : Sg × Int32) => bnd (x13 + 1) (fun x15 => some (.inr (m12, x15)))) (fun (k14 : Sg × Int32 → Option (((Sg) ⊕ (Sg)) ⊕ (Sg × Int32))) =>
  (if 0 ≤ x8 then bnd (fun (m16 : Sg) => (if x8 = 63 then cal (f_X4_pop P n m16) (fun x29 m28 => bnd (fun ((m30, x31) : Sg × Int32) => k14 (m30, x31)) (fun (k32 : Sg × Int32 → Option (((Sg) ⊕ (Sg)) ⊕ (Sg × Int32))) =>
  (if x29 = 0 then cal (f_X4_endOfClause P n m28 x3) (fun x34 m33 => k32 (m33, x34)) else
  k32 (m28, x3)))) else
  (if x8 = 33 then cal (f_X4_pop P n m16) (fun x26 m25 => calv (f_X4_push P n m25 (1 - x26)) (fun m27 => k14 (m27, x3))) else
  cal (f_X4_pop P n m16) (fun x19 m18 => cal (f_X4_pop P n m18) (fun x21 m20 => cal (f_X4_reckon m20 x21 x8 x19) (fun x23 m22 => calv (f_X4_push P n m22 x23) (fun m24 => k14 (m24, x3)))))))) (fun (k17 : Sg → Option (((Sg) ⊕ (Sg)) ⊕ (Sg × Int32))) =>
  (if x10 < 0 then k17 m9 else
  (if 6 ≤ x10 then k17 m9 else
  if inr x10 6 = true then calv (f_X4_push P n m9 (m9.1 15 x10.toNatClampNeg)) (fun m35 => k14 (m35, x3)) else none))) else
  if inr x3 n = true then calv (f_X4_push P n m9 (m9.1 (P + 1) x3.toNatClampNeg)) (fun m36 => k14 (m36, x3)) else none))) (fun (k11 : Sg × Int32 → Option (((Sg) ⊕ (Sg)) ⊕ (Sg × Int32))) =>
  (if 0 ≤ x8 then cal (f_J0_indexOf_0f7a4 1 m2 (((x8 : Int32).toUInt32 % 65536).toInt32)) (fun x38 m37 => k11 (m37, x38)) else
  k11 (m2, (-1)))))) else none)
def f_X4_worth (P : Nat) (n : Nat) (m : Sg)  : Option (Int32 × Sg) :=
  bnd (wr m P 2 0) (fun m1 => lpk (f_X4_worth_L7 P n) (m1, 0) (fun x => match x with
  | .inl m4 => cal (f_X4_pop P n m4) (fun x40 m39 => some (x40, m39))
  | .inr m5 => some (0, m5)))
set_option maxRecDepth 4000 in
theorem c_X4_worth {g : Cf} {m mm : Sg} {r : Int32} {P : Nat} {n : Nat} (HX : XOK g) (HL : LAWO g P n) (hm : f_X4_worth P n m  = some (r, mm)) : Cl g 4 yX4_worth cX4_worth 6 (some .int) [.ref (g.ad P), .ref (g.ad 15)] m (some (.int r)) mm := by
  refine cl_of (by decide) (Nat.le_of_ble_eq_true rfl) (vs := [some (.ref (g.ad P)), some (.ref (g.ad 15)), none, none, none, none]) rfl rfl ?_
  show GX g 4 RX4 cX4_worth 6 (some .int) (some (.int r)) mm 0 _ [] m
  unfold f_X4_worth at hm
  refine g_aloadn_0 dX4_worth_0 ?_
  refine g_iconst 0 dX4_worth_1 rfl ?_
  refine g_put hm fo_4_2 fp_4_2 HL.1 HL.2.1 rfl dX4_worth_2 (fun m1 hm => ?_)
  refine g_iconst 0 dX4_worth_5 rfl ?_
  refine g_istoren_2 dX4_worth_6 rfl ?_
  refine g_lp (I := fun (s : Sg × Int32) => GX g 4 RX4 cX4_worth 6 (some .int) (some (.int r)) mm 7 [some (.ref (g.ad P)), some (.ref (g.ad 15)), some (.int (s.2)), none, none, none] [] s.1) (E := fun (x : (Sg) ⊕ (Sg)) => match x with | .inl m4 => GX g 4 RX4 cX4_worth 6 (some .int) (some (.int r)) mm 33 [some (.ref (g.ad P)), none, none, none, none, none] [] m4 | .inr m5 => GX g 4 RX4 cX4_worth 6 (some .int) (some (.int r)) mm 166 [none, none, none, none, none, none] [] m5) hm ?_ ?_
  · rintro (m4 | m5) hm
    · (try dsimp only at hm)
      (try dsimp only)
      refine g_aloadn_0 dX4_worth_33 ?_
      refine g_v0 hm (fun _ _ h => c_X4_pop HL h) HL.1 (HL.2.1 _ _) rfl ce_X4_pop lk_X4_38 rfl rfl dX4_worth_34 (fun x40 m39 hm => ?_)
      exact g_iret hm dX4_worth_37
    · (try dsimp only at hm)
      (try dsimp only)
      refine g_iconst 0 dX4_worth_166 rfl ?_
      exact g_iret hm dX4_worth_167
  · rintro ⟨m2, x3⟩ o hm hx7 hi6
    (try dsimp only [f_X4_worth_L7] at hm)
    (try dsimp only)
    refine g_iloadn_2 dX4_worth_7 ?_
    refine g_aloadn_0 dX4_worth_8 ?_
    refine g_getr (q := (P + 1)) fo_4_0 HL.1 HL.2.1 rfl HL.2.2.2.2.1 dX4_worth_9 ?_
    refine g_alen (ty := .int) (Int32.ofNat n) HL.2.2.1.1 HL.2.2.1.2 rfl rfl dX4_worth_12 ?_
    refine g_icmp_ge 166 hm dX4_worth_13 (by decide) (fun hm => ?_) (fun hm => ?_)
    · refine g_weak (vs' := [none, none, none, none, none, none]) trivial ?_
      cases hm
      exact hx7 _ rfl
    · refine g_aloadn_0 dX4_worth_16 ?_
      refine g_getr (q := (P + 1)) fo_4_0 HL.1 HL.2.1 rfl HL.2.2.2.2.1 dX4_worth_17 ?_
      refine g_iloadn_2 dX4_worth_20 ?_
      refine g_iaload hm HL.2.2.1.1 HL.2.2.1.2 dX4_worth_21 (fun hm => ?_)
      refine g_sipush 10000 dX4_worth_22 rfl ?_
      refine g_isub dX4_worth_25 ?_
      refine g_istoreBn_3 hm dX4_worth_26 rfl (fun x8 hm => ?_)
      refine g_iloadn_3 dX4_worth_27 ?_
      refine g_bipush 59 dX4_worth_28 rfl ?_
      refine g_icmp_ne 38 hm dX4_worth_30 (by decide) (fun hm => ?_) (fun hm => ?_)
      · refine g_iloadn_3 dX4_worth_38 ?_
        refine g_jn (J := fun (s : Sg × Int32) => GX g 4 RX4 cX4_worth 6 (some .int) (some (.int r)) mm 53 [some (.ref (g.ad P)), some (.ref (g.ad 15)), some (.int x3), some (.int x8), none, none] [.int (s.2)] s.1) hm ?_ ?_
        · rintro ⟨m9, x10⟩ hm
          (try dsimp only at hm)
          (try dsimp only)
          refine g_istore_4 dX4_worth_53 rfl ?_
          refine g_iloadn_3 dX4_worth_55 ?_
          refine g_jn (J := fun (s : Sg × Int32) => GX g 4 RX4 cX4_worth 6 (some .int) (some (.int r)) mm 160 [some (.ref (g.ad P)), some (.ref (g.ad 15)), some (.int (s.2)), none, none, none] [] s.1) hm ?_ ?_
          · rintro ⟨m12, x13⟩ hm
            (try dsimp only at hm)
            (try dsimp only)
            refine g_iinc_2 1 hm dX4_worth_160 rfl rfl (fun x15 hm => ?_)
            refine g_goto 7 dX4_worth_163 (by decide) ?_
            cases hm
            exact hi6 _ rfl
          · intro k14 hk14 hm
            refine g_if_ge 72 hm dX4_worth_56 (by decide) (fun hm => ?_) (fun hm => ?_)
            · refine g_iload_4 dX4_worth_72 ?_
              refine g_jn (J := fun (s : Sg) => GX g 4 RX4 cX4_worth 6 (some .int) (some (.int r)) mm 95 [some (.ref (g.ad P)), some (.ref (g.ad 15)), some (.int x3), some (.int x8), none, none] [] s) hm ?_ ?_
              · intro m16 hm
                refine g_iloadn_3 dX4_worth_95 ?_
                refine g_bipush 63 dX4_worth_96 rfl ?_
                refine g_icmp_ne 121 hm dX4_worth_98 (by decide) (fun hm => ?_) (fun hm => ?_)
                · refine g_iloadn_3 dX4_worth_121 ?_
                  refine g_bipush 33 dX4_worth_122 rfl ?_
                  refine g_icmp_ne 140 hm dX4_worth_124 (by decide) (fun hm => ?_) (fun hm => ?_)
                  · refine g_aloadn_0 dX4_worth_140 ?_
                    refine g_v0 hm (fun _ _ h => c_X4_pop HL h) HL.1 (HL.2.1 _ _) rfl ce_X4_pop lk_X4_38 rfl rfl dX4_worth_141 (fun x19 m18 hm => ?_)
                    refine g_istore_5 dX4_worth_144 rfl ?_
                    refine g_aloadn_0 dX4_worth_146 ?_
                    refine g_aloadn_0 dX4_worth_147 ?_
                    refine g_v0 hm (fun _ _ h => c_X4_pop HL h) HL.1 (HL.2.1 _ _) rfl ce_X4_pop lk_X4_38 rfl rfl dX4_worth_148 (fun x21 m20 hm => ?_)
                    refine g_iloadn_3 dX4_worth_151 ?_
                    refine g_iload_5 dX4_worth_152 ?_
                    refine g_s3 hm (fun _ _ h => c_X4_reckon h) ce_X4_reckon lk_X4_55 rfl rfl dX4_worth_154 (fun x23 m22 hm => ?_)
                    refine g_v1V hm (fun _ h => c_X4_push HL h) HL.1 (HL.2.1 _ _) rfl ce_X4_push lk_X4_48 rfl rfl dX4_worth_157 (fun m24 hm => ?_)
                    refine g_weak (vs' := [some (.ref (g.ad P)), some (.ref (g.ad 15)), some (.int x3), none, none, none]) ⟨rfl, ⟨rfl, ⟨rfl, trivial⟩⟩⟩ ?_
                    exact hk14 _ hm
                  · refine g_aloadn_0 dX4_worth_127 ?_
                    refine g_iconst 1 dX4_worth_128 rfl ?_
                    refine g_aloadn_0 dX4_worth_129 ?_
                    refine g_v0 hm (fun _ _ h => c_X4_pop HL h) HL.1 (HL.2.1 _ _) rfl ce_X4_pop lk_X4_38 rfl rfl dX4_worth_130 (fun x26 m25 hm => ?_)
                    refine g_isub dX4_worth_133 ?_
                    refine g_v1V hm (fun _ h => c_X4_push HL h) HL.1 (HL.2.1 _ _) rfl ce_X4_push lk_X4_48 rfl rfl dX4_worth_134 (fun m27 hm => ?_)
                    refine g_goto 160 dX4_worth_137 (by decide) ?_
                    refine g_weak (vs' := [some (.ref (g.ad P)), some (.ref (g.ad 15)), some (.int x3), none, none, none]) ⟨rfl, ⟨rfl, ⟨rfl, trivial⟩⟩⟩ ?_
                    exact hk14 _ hm
                · refine g_aloadn_0 dX4_worth_101 ?_
                  refine g_v0 hm (fun _ _ h => c_X4_pop HL h) HL.1 (HL.2.1 _ _) rfl ce_X4_pop lk_X4_38 rfl rfl dX4_worth_102 (fun x29 m28 hm => ?_)
                  refine g_jn (J := fun (s : Sg × Int32) => GX g 4 RX4 cX4_worth 6 (some .int) (some (.int r)) mm 117 [some (.ref (g.ad P)), some (.ref (g.ad 15)), none, none, none, none] [.int (s.2)] s.1) hm ?_ ?_
                  · rintro ⟨m30, x31⟩ hm
                    (try dsimp only at hm)
                    (try dsimp only)
                    refine g_istoren_2 dX4_worth_117 rfl ?_
                    refine g_goto 160 dX4_worth_118 (by decide) ?_
                    exact hk14 _ hm
                  · intro k32 hk32 hm
                    refine g_if_ne 116 hm dX4_worth_105 (by decide) (fun hm => ?_) (fun hm => ?_)
                    · refine g_iloadn_2 dX4_worth_116 ?_
                      refine g_weak (vs' := [some (.ref (g.ad P)), some (.ref (g.ad 15)), none, none, none, none]) ⟨rfl, ⟨rfl, trivial⟩⟩ ?_
                      exact hk32 _ hm
                    · refine g_aloadn_0 dX4_worth_108 ?_
                      refine g_iloadn_2 dX4_worth_109 ?_
                      refine g_v1 hm (fun _ _ h => c_X4_endOfClause HL h) HL.1 (HL.2.1 _ _) rfl ce_X4_endOfClause lk_X4_52 rfl rfl dX4_worth_110 (fun x34 m33 hm => ?_)
                      refine g_goto 117 dX4_worth_113 (by decide) ?_
                      refine g_weak (vs' := [some (.ref (g.ad P)), some (.ref (g.ad 15)), none, none, none, none]) ⟨rfl, ⟨rfl, trivial⟩⟩ ?_
                      exact hk32 _ hm
              · intro k17 hk17 hm
                refine g_if_lt 95 hm dX4_worth_74 (by decide) (fun hm => ?_) (fun hm => ?_)
                · refine g_weak (vs' := [some (.ref (g.ad P)), some (.ref (g.ad 15)), some (.int x3), some (.int x8), none, none]) ⟨rfl, ⟨rfl, ⟨rfl, ⟨rfl, trivial⟩⟩⟩⟩ ?_
                  exact hk17 _ hm
                · refine g_iload_4 dX4_worth_77 ?_
                  refine g_aloadn_1 dX4_worth_79 ?_
                  refine g_alen (ty := .int) 6 ar_15.1 ar_15.2 rfl rfl dX4_worth_80 ?_
                  refine g_icmp_ge 95 hm dX4_worth_81 (by decide) (fun hm => ?_) (fun hm => ?_)
                  · refine g_weak (vs' := [some (.ref (g.ad P)), some (.ref (g.ad 15)), some (.int x3), some (.int x8), none, none]) ⟨rfl, ⟨rfl, ⟨rfl, ⟨rfl, trivial⟩⟩⟩⟩ ?_
                    exact hk17 _ hm
                  · refine g_aloadn_0 dX4_worth_84 ?_
                    refine g_aloadn_1 dX4_worth_85 ?_
                    refine g_iload_4 dX4_worth_86 ?_
                    refine g_iaload hm ar_15.1 ar_15.2 dX4_worth_88 (fun hm => ?_)
                    refine g_v1V hm (fun _ h => c_X4_push HL h) HL.1 (HL.2.1 _ _) rfl ce_X4_push lk_X4_48 rfl rfl dX4_worth_89 (fun m35 hm => ?_)
                    refine g_goto 160 dX4_worth_92 (by decide) ?_
                    refine g_weak (vs' := [some (.ref (g.ad P)), some (.ref (g.ad 15)), some (.int x3), none, none, none]) ⟨rfl, ⟨rfl, ⟨rfl, trivial⟩⟩⟩ ?_
                    exact hk14 _ hm
            · refine g_aloadn_0 dX4_worth_59 ?_
              refine g_aloadn_0 dX4_worth_60 ?_
              refine g_getr (q := (P + 1)) fo_4_0 HL.1 HL.2.1 rfl HL.2.2.2.2.1 dX4_worth_61 ?_
              refine g_iloadn_2 dX4_worth_64 ?_
              refine g_iaload hm HL.2.2.1.1 HL.2.2.1.2 dX4_worth_65 (fun hm => ?_)
              refine g_v1V hm (fun _ h => c_X4_push HL h) HL.1 (HL.2.1 _ _) rfl ce_X4_push lk_X4_48 rfl rfl dX4_worth_66 (fun m36 hm => ?_)
              refine g_goto 160 dX4_worth_69 (by decide) ?_
              refine g_weak (vs' := [some (.ref (g.ad P)), some (.ref (g.ad 15)), some (.int x3), none, none, none]) ⟨rfl, ⟨rfl, ⟨rfl, trivial⟩⟩⟩ ?_
              exact hk14 _ hm
        · intro k11 hk11 hm
          refine g_if_ge 46 hm dX4_worth_39 (by decide) (fun hm => ?_) (fun hm => ?_)
          · refine g_ldcS (k := 1) (tx := "caknmw") HX (by decide) dX4_worth_46 ?_
            refine g_iloadn_3 dX4_worth_48 ?_
            refine g_i2c dX4_worth_49 ?_
            refine g_w1 hm (fun _ _ h => c_J0_indexOf_0f7a4 HX (by decide) h) HX (by decide) ce_J0_indexOf_0f7a4 lk_X4_43 rfl rfl dX4_worth_50 (fun x38 m37 hm => ?_)
            exact hk11 _ hm
          · refine g_iconst (-1) dX4_worth_42 rfl ?_
            refine g_goto 53 dX4_worth_43 (by decide) ?_
            exact hk11 _ hm
      · refine g_weak (vs' := [some (.ref (g.ad P)), none, none, none, none, none]) ⟨rfl, trivial⟩ ?_
        cases hm
        exact hx7 _ rfl
def f_X5_size  (m : Sg)  : Option (Int32 × Sg) :=
  some (m.1 13 2, m)
set_option maxRecDepth 4000 in
theorem c_X5_size {g : Cf} {m mm : Sg} {r : Int32} (hm : f_X5_size  m  = some (r, mm)) : Cl g 0 yX5_size cX5_size 1 (some .int) [.ref (g.ad 13)] m (some (.int r)) mm := by
  refine cl_of (by decide) (Nat.le_of_ble_eq_true rfl) (vs := [some (.ref (g.ad 13))]) rfl rfl ?_
  show GX g 0 RX5 cX5_size 1 (some .int) (some (.int r)) mm 0 _ [] m
  unfold f_X5_size at hm
  refine g_aloadn_0 dX5_size_0 ?_
  refine g_geti fo_5_2 pn_13 pc_13 rfl dX5_size_1 ?_
  exact g_iret hm dX5_size_4
def f_X5_holding  (m : Sg)  : Option (Int32 × Sg) :=
  some (m.1 13 3, m)
set_option maxRecDepth 4000 in
theorem c_X5_holding {g : Cf} {m mm : Sg} {r : Int32} (hm : f_X5_holding  m  = some (r, mm)) : Cl g 0 yX5_holding cX5_holding 1 (some .int) [.ref (g.ad 13)] m (some (.int r)) mm := by
  refine cl_of (by decide) (Nat.le_of_ble_eq_true rfl) (vs := [some (.ref (g.ad 13))]) rfl rfl ?_
  show GX g 0 RX5 cX5_holding 1 (some .int) (some (.int r)) mm 0 _ [] m
  unfold f_X5_holding at hm
  refine g_aloadn_0 dX5_holding_0 ?_
  refine g_geti fo_5_3 pn_13 pc_13 rfl dX5_holding_1 ?_
  exact g_iret hm dX5_holding_4
def f_X5_hasRoom  (m : Sg)  : Option (Int32 × Sg) :=
  (if 4 ≤ (m.1 13 2) then some (0, m) else
  some (1, m))
set_option maxRecDepth 4000 in
theorem c_X5_hasRoom {g : Cf} {m mm : Sg} {r : Int32} (hm : f_X5_hasRoom  m  = some (r, mm)) : Cl g 0 yX5_hasRoom cX5_hasRoom 1 (some .boolean) [.ref (g.ad 13)] m (some (.int r)) mm := by
  refine cl_of (by decide) (Nat.le_of_ble_eq_true rfl) (vs := [some (.ref (g.ad 13))]) rfl rfl ?_
  show GX g 0 RX5 cX5_hasRoom 1 (some .boolean) (some (.int r)) mm 0 _ [] m
  unfold f_X5_hasRoom at hm
  refine g_aloadn_0 dX5_hasRoom_0 ?_
  refine g_geti fo_5_2 pn_13 pc_13 rfl dX5_hasRoom_1 ?_
  refine g_iconst 4 dX5_hasRoom_4 rfl ?_
  refine g_icmp_ge 12 hm dX5_hasRoom_5 (by decide) (fun hm => ?_) (fun hm => ?_)
  · refine g_iconst 0 dX5_hasRoom_12 rfl ?_
    exact g_zretc hm rfl dX5_hasRoom_13
  · refine g_iconst 1 dX5_hasRoom_8 rfl ?_
    refine g_goto 13 dX5_hasRoom_9 (by decide) ?_
    exact g_zretc hm rfl dX5_hasRoom_13
def f_X5_letHold  (m : Sg) (a1 : Int32) : Option (Int32 × Sg) :=
  (if a1 < (-1) then some (0, m) else
  (if a1 < (m.1 13 2) then bnd (wr m 13 3 a1) (fun m1 => some (1, m1)) else
  some (0, m)))
set_option maxRecDepth 4000 in
theorem c_X5_letHold {g : Cf} {m mm : Sg} {r : Int32} {a1 : Int32} (hm : f_X5_letHold  m a1 = some (r, mm)) : Cl g 0 yX5_letHold cX5_letHold 2 (some .boolean) [.ref (g.ad 13), .int a1] m (some (.int r)) mm := by
  refine cl_of (by decide) (Nat.le_of_ble_eq_true rfl) (vs := [some (.ref (g.ad 13)), some (.int a1)]) rfl rfl ?_
  show GX g 0 RX5 cX5_letHold 2 (some .boolean) (some (.int r)) mm 0 _ [] m
  unfold f_X5_letHold at hm
  refine g_iloadn_1 dX5_letHold_0 ?_
  refine g_iconst (-1) dX5_letHold_1 rfl ?_
  refine g_icmp_lt 13 hm dX5_letHold_2 (by decide) (fun hm => ?_) (fun hm => ?_)
  · refine g_iconst 0 dX5_letHold_13 rfl ?_
    exact g_zretc hm rfl dX5_letHold_14
  · refine g_iloadn_1 dX5_letHold_5 ?_
    refine g_aloadn_0 dX5_letHold_6 ?_
    refine g_geti fo_5_2 pn_13 pc_13 rfl dX5_letHold_7 ?_
    refine g_icmp_lt 15 hm dX5_letHold_10 (by decide) (fun hm => ?_) (fun hm => ?_)
    · refine g_aloadn_0 dX5_letHold_15 ?_
      refine g_iloadn_1 dX5_letHold_16 ?_
      refine g_put hm fo_5_3 fp_5_3 pn_13 pc_13 rfl dX5_letHold_17 (fun m1 hm => ?_)
      refine g_iconst 1 dX5_letHold_20 rfl ?_
      exact g_zretc hm rfl dX5_letHold_21
    · refine g_iconst 0 dX5_letHold_13 rfl ?_
      exact g_zretc hm rfl dX5_letHold_14
def f_X5_setLetters (jc : Nat) (m : Sg) (a1 : Int32) (a2 : Int32) (a3 : Int32) : Option (Sg) :=
  bnd (wr m 15 0 a2) (fun m1 => cal (f_X0_kid jc m1 a1 0) (fun x3 m2 => bnd (wr m2 15 1 x3) (fun m4 => bnd (wr m4 15 2 a3) (fun m5 => cal (f_X0_kid jc m5 a1 3) (fun x7 m6 => bnd (wr m6 15 3 x7) (fun m8 => cal (f_X0_cell jc m8 97) (fun x10 m9 => bnd (wr m9 15 4 x10) (fun m11 => some m11))))))))
set_option maxRecDepth 4000 in
theorem c_X5_setLetters {g : Cf} {m mm : Sg} {jc : Nat} {ic : Nat} {a1 : Int32} {a2 : Int32} {a3 : Int32} (Hic : CTY g ic jc) (hm : f_X5_setLetters jc m a1 a2 a3 = some mm) : Cl g 1 yX5_setLetters cX5_setLetters 5 none [.ref (g.ad 13), .ref (g.ad ic), .int a1, .int a2, .int a3] m none mm := by
  refine cl_of (by decide) (Nat.le_of_ble_eq_true rfl) (vs := [some (.ref (g.ad 13)), some (.ref (g.ad ic)), some (.int a1), some (.int a2), some (.int a3)]) rfl rfl ?_
  show GX g 1 RX5 cX5_setLetters 5 none none mm 0 _ [] m
  unfold f_X5_setLetters at hm
  refine g_aloadn_0 dX5_setLetters_0 ?_
  refine g_getr (q := 15) fo_5_1 pn_13 pc_13 rfl rfl dX5_setLetters_1 ?_
  refine g_iconst 0 dX5_setLetters_4 rfl ?_
  refine g_iloadn_3 dX5_setLetters_5 ?_
  refine g_iastorec 0 hm rfl rfl ar_15.1 ar_15.2 dX5_setLetters_6 (fun m1 hm => ?_)
  refine g_aloadn_0 dX5_setLetters_7 ?_
  refine g_getr (q := 15) fo_5_1 pn_13 pc_13 rfl rfl dX5_setLetters_8 ?_
  refine g_iconst 1 dX5_setLetters_11 rfl ?_
  refine g_aloadn_1 dX5_setLetters_12 ?_
  refine g_iloadn_2 dX5_setLetters_13 ?_
  refine g_iconst 0 dX5_setLetters_14 rfl ?_
  refine g_v2 hm (fun _ _ h => c_X0_kid Hic h) Hic.1.1 (Hic.1.2.1 _ _) rfl ce_X0_kid lk_X5_49 rfl rfl dX5_setLetters_15 (fun x3 m2 hm => ?_)
  refine g_iastorec 1 hm rfl rfl ar_15.1 ar_15.2 dX5_setLetters_18 (fun m4 hm => ?_)
  refine g_aloadn_0 dX5_setLetters_19 ?_
  refine g_getr (q := 15) fo_5_1 pn_13 pc_13 rfl rfl dX5_setLetters_20 ?_
  refine g_iconst 2 dX5_setLetters_23 rfl ?_
  refine g_iload_4 dX5_setLetters_24 ?_
  refine g_iastorec 2 hm rfl rfl ar_15.1 ar_15.2 dX5_setLetters_26 (fun m5 hm => ?_)
  refine g_aloadn_0 dX5_setLetters_27 ?_
  refine g_getr (q := 15) fo_5_1 pn_13 pc_13 rfl rfl dX5_setLetters_28 ?_
  refine g_iconst 3 dX5_setLetters_31 rfl ?_
  refine g_aloadn_1 dX5_setLetters_32 ?_
  refine g_iloadn_2 dX5_setLetters_33 ?_
  refine g_iconst 3 dX5_setLetters_34 rfl ?_
  refine g_v2 hm (fun _ _ h => c_X0_kid Hic h) Hic.1.1 (Hic.1.2.1 _ _) rfl ce_X0_kid lk_X5_49 rfl rfl dX5_setLetters_35 (fun x7 m6 hm => ?_)
  refine g_iastorec 3 hm rfl rfl ar_15.1 ar_15.2 dX5_setLetters_38 (fun m8 hm => ?_)
  refine g_aloadn_0 dX5_setLetters_39 ?_
  refine g_getr (q := 15) fo_5_1 pn_13 pc_13 rfl rfl dX5_setLetters_40 ?_
  refine g_iconst 4 dX5_setLetters_43 rfl ?_
  refine g_aloadn_1 dX5_setLetters_44 ?_
  refine g_bipush 97 dX5_setLetters_45 rfl ?_
  refine g_v1 hm (fun _ _ h => c_X0_cell Hic h) Hic.1.1 (Hic.1.2.1 _ _) rfl ce_X0_cell lk_X5_56 rfl rfl dX5_setLetters_47 (fun x10 m9 hm => ?_)
  refine g_iastorec 4 hm rfl rfl ar_15.1 ar_15.2 dX5_setLetters_50 (fun m11 hm => ?_)
  exact g_vret hm dX5_setLetters_51
def f_X5_taxBy (nl : Nat) (ln : Nat → Nat)  (m : Sg) (a1 : Int32) (a2 : Int32) : Option (Int32 × Sg) :=
  (if a1 < 0 then some (a2, m) else
  (if 4 ≤ a1 then some (a2, m) else
  if inr a1 4 = true then (if a1.toNatClampNeg < nl then if inr a1 4 = true then (if a1.toNatClampNeg < nl then cal (f_X4_worth (45 + 3 * a1.toNatClampNeg) (ln a1.toNatClampNeg) m) (fun x4 m3 => some ((if (0 : Int32) < (if x4 < a2 then x4 else a2) then (if x4 < a2 then x4 else a2) else 0), m3)) else none) else none else some (a2, m)) else none))
set_option maxRecDepth 4000 in
theorem c_X5_taxBy {g : Cf} {m mm : Sg} {r : Int32} {a1 : Int32} {a2 : Int32} (H4 : g.nl ≤ 4) (HX : XOK g) (hm : f_X5_taxBy g.nl g.ln  m a1 a2 = some (r, mm)) : Cl g 5 yX5_taxBy cX5_taxBy 3 (some .int) [.ref (g.ad 13), .int a1, .int a2] m (some (.int r)) mm := by
  refine cl_of (by decide) (Nat.le_of_ble_eq_true rfl) (vs := [some (.ref (g.ad 13)), some (.int a1), some (.int a2)]) rfl rfl ?_
  show GX g 5 RX5 cX5_taxBy 3 (some .int) (some (.int r)) mm 0 _ [] m
  unfold f_X5_taxBy at hm
  refine g_iloadn_1 dX5_taxBy_0 ?_
  refine g_if_lt 22 hm dX5_taxBy_1 (by decide) (fun hm => ?_) (fun hm => ?_)
  · refine g_iloadn_2 dX5_taxBy_22 ?_
    exact g_iret hm dX5_taxBy_23
  · refine g_iloadn_1 dX5_taxBy_4 ?_
    refine g_aloadn_0 dX5_taxBy_5 ?_
    refine g_getr (q := 14) fo_5_0 pn_13 pc_13 rfl rfl dX5_taxBy_6 ?_
    refine g_alenQ dX5_taxBy_9 ?_
    refine g_icmp_ge 22 hm dX5_taxBy_10 (by decide) (fun hm => ?_) (fun hm => ?_)
    · refine g_iloadn_2 dX5_taxBy_22 ?_
      exact g_iret hm dX5_taxBy_23
    · refine g_aloadn_0 dX5_taxBy_13 ?_
      refine g_getr (q := 14) fo_5_0 pn_13 pc_13 rfl rfl dX5_taxBy_14 ?_
      refine g_iloadn_1 dX5_taxBy_17 ?_
      refine g_aaloadQ hm dX5_taxBy_18 (fun hl1 hm => ?_) (fun hm => ?_)
      · refine g_ifnnR 24 dX5_taxBy_19 (by decide) ?_
        refine g_iconst 0 dX5_taxBy_24 rfl ?_
        refine g_iloadn_2 dX5_taxBy_25 ?_
        refine g_aloadn_0 dX5_taxBy_26 ?_
        refine g_getr (q := 14) fo_5_0 pn_13 pc_13 rfl rfl dX5_taxBy_27 ?_
        refine g_iloadn_1 dX5_taxBy_30 ?_
        refine g_aaloadQ hm dX5_taxBy_31 (fun hl2 hm => ?_) (fun hm => ?_)
        · refine g_aloadn_0 dX5_taxBy_32 ?_
          refine g_getr (q := 15) fo_5_1 pn_13 pc_13 rfl rfl dX5_taxBy_33 ?_
          refine g_v1 hm (fun _ _ h => c_X4_worth HX (lawo_of hl2 H4) h) (lawo_of hl2 H4).1 ((lawo_of hl2 H4).2.1 _ _) rfl ce_X4_worth lk_X5_59 rfl rfl dX5_taxBy_36 (fun x4 m3 hm => ?_)
          refine g_mmin lk_X5_63 rfl rfl dX5_taxBy_39 ?_
          refine g_mmax lk_X5_68 rfl rfl dX5_taxBy_42 ?_
          exact g_iret hm dX5_taxBy_45
        · cases hm
      · refine g_ifnnN dX5_taxBy_19 ?_
        refine g_iloadn_2 dX5_taxBy_22 ?_
        exact g_iret hm dX5_taxBy_23
def f_X5_taxOf (nl : Nat) (ln : Nat → Nat) (jc : Nat) (m : Sg) (a1 : Int32) (a2 : Int32) : Option (Int32 × Sg) :=
  cal (f_X0_rightOf jc m a1) (fun x2 m1 => cal (f_X0_countOf jc m1 a1) (fun x4 m3 => cal (f_J6_bitCount_0f7a4 m3 x2) (fun x6 m5 => calv (f_X5_setLetters jc m5 a1 x4 x6) (fun m7 => cal (f_X0_kid jc m7 a1 2) (fun x9 m8 => cal (f_J6_bitCount_0f7a4 m8 x9) (fun x11 m10 => bnd (wr m10 15 5 x11) (fun m12 => cal (f_X5_taxBy nl ln m12 a2 x4) (fun x14 m13 => some (x14, m13)))))))))
set_option maxRecDepth 4000 in
theorem c_X5_taxOf {g : Cf} {m mm : Sg} {r : Int32} {jc : Nat} {ic : Nat} {a1 : Int32} {a2 : Int32} (H4 : g.nl ≤ 4) (HX : XOK g) (Hic : CTY g ic jc) (hm : f_X5_taxOf g.nl g.ln jc m a1 a2 = some (r, mm)) : Cl g 6 yX5_taxOf cX5_taxOf 6 (some .int) [.ref (g.ad 13), .ref (g.ad ic), .int a1, .int a2] m (some (.int r)) mm := by
  refine cl_of (by decide) (Nat.le_of_ble_eq_true rfl) (vs := [some (.ref (g.ad 13)), some (.ref (g.ad ic)), some (.int a1), some (.int a2), none, none]) rfl rfl ?_
  show GX g 6 RX5 cX5_taxOf 6 (some .int) (some (.int r)) mm 0 _ [] m
  unfold f_X5_taxOf at hm
  refine g_aloadn_1 dX5_taxOf_0 ?_
  refine g_iloadn_2 dX5_taxOf_1 ?_
  refine g_v1 hm (fun _ _ h => c_X0_rightOf Hic h) Hic.1.1 (Hic.1.2.1 _ _) rfl ce_X0_rightOf lk_X5_31 rfl rfl dX5_taxOf_2 (fun x2 m1 hm => ?_)
  refine g_istore_4 dX5_taxOf_5 rfl ?_
  refine g_aloadn_1 dX5_taxOf_7 ?_
  refine g_iloadn_2 dX5_taxOf_8 ?_
  refine g_v1 hm (fun _ _ h => c_X0_countOf Hic h) Hic.1.1 (Hic.1.2.1 _ _) rfl ce_X0_countOf lk_X5_37 rfl rfl dX5_taxOf_9 (fun x4 m3 hm => ?_)
  refine g_istore_5 dX5_taxOf_12 rfl ?_
  refine g_aloadn_0 dX5_taxOf_14 ?_
  refine g_aloadn_1 dX5_taxOf_15 ?_
  refine g_iloadn_2 dX5_taxOf_16 ?_
  refine g_iload_5 dX5_taxOf_17 ?_
  refine g_iload_4 dX5_taxOf_19 ?_
  refine g_s1 hm (fun _ _ h => c_J6_bitCount_0f7a4 h) ce_J6_bitCount_0f7a4 lk_X5_40 rfl rfl dX5_taxOf_21 (fun x6 m5 hm => ?_)
  refine g_v4V hm (fun _ h => c_X5_setLetters Hic h) pn_13 (pc_13 _ _) rfl ce_X5_setLetters lk_X5_45 rfl rfl dX5_taxOf_24 (fun m7 hm => ?_)
  refine g_aloadn_0 dX5_taxOf_27 ?_
  refine g_getr (q := 15) fo_5_1 pn_13 pc_13 rfl rfl dX5_taxOf_28 ?_
  refine g_iconst 5 dX5_taxOf_31 rfl ?_
  refine g_aloadn_1 dX5_taxOf_32 ?_
  refine g_iloadn_2 dX5_taxOf_33 ?_
  refine g_iconst 2 dX5_taxOf_34 rfl ?_
  refine g_v2 hm (fun _ _ h => c_X0_kid Hic h) Hic.1.1 (Hic.1.2.1 _ _) rfl ce_X0_kid lk_X5_49 rfl rfl dX5_taxOf_35 (fun x9 m8 hm => ?_)
  refine g_s1 hm (fun _ _ h => c_J6_bitCount_0f7a4 h) ce_J6_bitCount_0f7a4 lk_X5_40 rfl rfl dX5_taxOf_38 (fun x11 m10 hm => ?_)
  refine g_iastorec 5 hm rfl rfl ar_15.1 ar_15.2 dX5_taxOf_41 (fun m12 hm => ?_)
  refine g_aloadn_0 dX5_taxOf_42 ?_
  refine g_iloadn_3 dX5_taxOf_43 ?_
  refine g_iload_5 dX5_taxOf_44 ?_
  refine g_v2 hm (fun _ _ h => c_X5_taxBy H4 HX h) pn_13 (pc_13 _ _) rfl ce_X5_taxBy lk_X5_53 rfl rfl dX5_taxOf_46 (fun x14 m13 hm => ?_)
  exact g_iret hm dX5_taxOf_49
def f_X5_taxAtCount (nl : Nat) (ln : Nat → Nat)  (m : Sg) (a1 : Int32) (a2 : Int32) : Option (Int32 × Sg) :=
  calv (f_X5_setLetters 4 m a1 (a2 * 10) a2) (fun m1 => bnd (wr m1 15 5 0) (fun m2 => cal (f_X5_taxBy nl ln m2 (m2.1 13 3) (a2 * 10)) (fun x4 m3 => some (x4, m3))))
set_option maxRecDepth 4000 in
theorem c_X5_taxAtCount {g : Cf} {m mm : Sg} {r : Int32} {a1 : Int32} {a2 : Int32} (H4 : g.nl ≤ 4) (HX : XOK g) (hm : f_X5_taxAtCount g.nl g.ln  m a1 a2 = some (r, mm)) : Cl g 6 yX5_taxAtCount cX5_taxAtCount 4 (some .int) [.ref (g.ad 13), .ref (g.ad 3), .int a1, .int a2] m (some (.int r)) mm := by
  refine cl_of (by decide) (Nat.le_of_ble_eq_true rfl) (vs := [some (.ref (g.ad 13)), some (.ref (g.ad 3)), some (.int a1), some (.int a2)]) rfl rfl ?_
  show GX g 6 RX5 cX5_taxAtCount 4 (some .int) (some (.int r)) mm 0 _ [] m
  unfold f_X5_taxAtCount at hm
  refine g_aloadn_0 dX5_taxAtCount_0 ?_
  refine g_aloadn_1 dX5_taxAtCount_1 ?_
  refine g_iloadn_2 dX5_taxAtCount_2 ?_
  refine g_iloadn_3 dX5_taxAtCount_3 ?_
  refine g_bipush 10 dX5_taxAtCount_4 rfl ?_
  refine g_imul dX5_taxAtCount_6 ?_
  refine g_iloadn_3 dX5_taxAtCount_7 ?_
  refine g_v4V hm (fun _ h => c_X5_setLetters cty_3 h) pn_13 (pc_13 _ _) rfl ce_X5_setLetters lk_X5_45 rfl rfl dX5_taxAtCount_8 (fun m1 hm => ?_)
  refine g_aloadn_0 dX5_taxAtCount_11 ?_
  refine g_getr (q := 15) fo_5_1 pn_13 pc_13 rfl rfl dX5_taxAtCount_12 ?_
  refine g_iconst 5 dX5_taxAtCount_15 rfl ?_
  refine g_iconst 0 dX5_taxAtCount_16 rfl ?_
  refine g_iastorec 5 hm rfl rfl ar_15.1 ar_15.2 dX5_taxAtCount_17 (fun m2 hm => ?_)
  refine g_aloadn_0 dX5_taxAtCount_18 ?_
  refine g_aloadn_0 dX5_taxAtCount_19 ?_
  refine g_geti fo_5_3 pn_13 pc_13 rfl dX5_taxAtCount_20 ?_
  refine g_iloadn_3 dX5_taxAtCount_23 ?_
  refine g_bipush 10 dX5_taxAtCount_24 rfl ?_
  refine g_imul dX5_taxAtCount_26 ?_
  refine g_v2 hm (fun _ _ h => c_X5_taxBy H4 HX h) pn_13 (pc_13 _ _) rfl ce_X5_taxBy lk_X5_53 rfl rfl dX5_taxAtCount_27 (fun x4 m3 hm => ?_)
  exact g_iret hm dX5_taxAtCount_30
