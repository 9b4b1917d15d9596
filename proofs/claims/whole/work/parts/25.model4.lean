def RHP (g : Cf) (d : Nat) (R : Sg → Int32 → Int32 → Int32 → Int32 → Int32 → Option Sg) : Prop := ∀ {m m1 : Sg} {a b c e f : Int32}, R m a b c e f = some m1 → Cl g d yX11_goPlan cX11_goPlan 9 none [.ref (g.ad 27), .int a, .int b, .int c, .int e, .int f] m none m1
def f_X11_goPlan_L98 (a3 : Int32) (x2 : Int32) : (Sg × Int32 × Int32) → Option (((Sg × Int32)) ⊕ (Sg × Int32 × Int32)) := fun s => match s with
  | (m13, x14, x15) => 
  (if a3 ≤ x15 then some (.inl (m13, x14)) else
  bnd (fun ((m20, x21) : Sg × Int32) => bnd (x15 + 1) (fun x23 => some (.inr (m20, x21, x23)))) (fun (k22 : Sg × Int32 → Option (((Sg × Int32)) ⊕ (Sg × Int32 × Int32))) =>
  bnd (fun (m24 : Sg) => k22 (m24, 0)) (fun (k25 : Sg → Option (((Sg × Int32)) ⊕ (Sg × Int32 × Int32))) =>
  (if x14 = 0 then k25 m13 else
  if inr x15 3 = true then (if (m13.1 40 x15.toNatClampNeg) = x2 then k25 m13 else
  k22 (m13, 1)) else none))))
def f_X11_goPlan_L46 (R : Sg → Int32 → Int32 → Int32 → Int32 → Int32 → Option Sg) (a1 : Int32) (a2 : Int32) (a3 : Int32) (a4 : Int32) (a5 : Int32) : (Sg × Int32) → Option (((Sg)) ⊕ (Sg × Int32)) := fun s => match s with
  | (m1, x2) => 
  (if 9 ≤ x2 then some (.inl m1) else
  cal (f_X11_rightOf 38 m1 a1) (fun x7 m6 => cal (f_X11_has m6 x7 x2) (fun x9 m8 => bnd (fun ((m10, x11) : Sg × Int32) => lpk (f_X11_goPlan_L98 a3 x2) (m10, x11, 0) (fun ((m16, x17) : Sg × Int32) => bnd (fun (m26 : Sg) => bnd (x2 + 1) (fun x28 => some (.inr (m26, x28)))) (fun (k27 : Sg → Option (((Sg)) ⊕ (Sg × Int32))) =>
  (if x17 = 0 then k27 m16 else
  if inr a3 3 = true then bnd (wr m16 40 a3.toNatClampNeg x2) (fun m29 => calv (R m29 a1 a2 (a3 + 1) a4 ((10 * a5) + x2)) (fun m30 => k27 m30)) else none)))) (fun (k12 : Sg × Int32 → Option (((Sg)) ⊕ (Sg × Int32))) =>
  bnd (fun (m31 : Sg) => k12 (m31, 0)) (fun (k32 : Sg → Option (((Sg)) ⊕ (Sg × Int32))) =>
  (if x9 = 0 then if inr ((7 * a1) + 5) 244 = true then cal (f_X11_has m8 (m8.1 38 ((7 * a1) + 5).toNatClampNeg) x2) (fun x34 m33 => (if x34 = 0 then k12 (m33, 1) else
  k32 m33)) else none else
  k32 m8))))))
def f_X11_goPlan (R : Sg → Int32 → Int32 → Int32 → Int32 → Int32 → Option Sg)  (m : Sg) (a1 : Int32) (a2 : Int32) (a3 : Int32) (a4 : Int32) (a5 : Int32) : Option (Sg) :=
  (if a3 = a4 then cal (f_X11_reignBy m a1 a2 a3) (fun x36 m35 => (if (m35.1 27 40) < x36 then bnd (wr m35 27 40 x36) (fun m37 => bnd (wr m37 27 41 a5) (fun m38 => bnd (wr m38 27 42 a3) (fun m39 => some m39))) else
  some m35)) else
  lpk (f_X11_goPlan_L46 R a1 a2 a3 a4 a5) (m, 0) (fun m3 => some m3))
set_option maxRecDepth 4000 in
theorem c_X11_goPlan {g : Cf} {m mm : Sg} {a1 : Int32} {a2 : Int32} {a3 : Int32} {a4 : Int32} {a5 : Int32} {R : Sg → Int32 → Int32 → Int32 → Int32 → Int32 → Option Sg} {d : Nat} (hb : 80 ≤ d) (hR : RHP g d R) (HX : XOK g) (hm : f_X11_goPlan R  m a1 a2 a3 a4 a5 = some mm) : Cl g (d + 1) yX11_goPlan cX11_goPlan 9 none [.ref (g.ad 27), .int a1, .int a2, .int a3, .int a4, .int a5] m none mm := by
  refine cl_of (by decide) (Nat.le_of_ble_eq_true rfl) (vs := [some (.ref (g.ad 27)), some (.int a1), some (.int a2), some (.int a3), some (.int a4), some (.int a5), none, none, none]) rfl rfl ?_
  show GX g (d + 1) RX11 cX11_goPlan 9 none none mm 0 _ [] m
  unfold f_X11_goPlan at hm
  refine g_iloadn_3 dX11_goPlan_0 ?_
  refine g_iload_4 dX11_goPlan_1 ?_
  refine g_icmp_ne 43 hm dX11_goPlan_3 (by decide) (fun hm => ?_) (fun hm => ?_)
  · refine g_iconst 0 dX11_goPlan_43 rfl ?_
    refine g_istore_6 dX11_goPlan_44 rfl ?_
    refine g_lp (I := fun (s : Sg × Int32) => GX g (d + 1) RX11 cX11_goPlan 9 none none mm 46 [some (.ref (g.ad 27)), some (.int a1), some (.int a2), some (.int a3), some (.int a4), some (.int a5), some (.int (s.2)), none, none] [] s.1) (E := fun (s : Sg) => GX g (d + 1) RX11 cX11_goPlan 9 none none mm 175 [none, none, none, none, none, none, none, none, none] [] s) hm ?_ ?_
    · rintro m3 hm
      (try dsimp only at hm)
      (try dsimp only)
      exact g_vret hm dX11_goPlan_175
    · rintro ⟨m1, x2⟩ o hm hx5 hi4
      (try dsimp only [f_X11_goPlan_L46] at hm)
      (try dsimp only)
      refine g_iload_6 dX11_goPlan_46 ?_
      refine g_bipush 9 dX11_goPlan_48 rfl ?_
      refine g_icmp_ge 175 hm dX11_goPlan_50 (by decide) (fun hm => ?_) (fun hm => ?_)
      · refine g_weak (vs' := [none, none, none, none, none, none, none, none, none]) trivial ?_
        cases hm
        exact hx5 _ rfl
      · refine g_aloadn_0 dX11_goPlan_53 ?_
        refine g_getr (q := 38) fo_11_29 pn_27 pc_27 rfl rfl dX11_goPlan_54 ?_
        refine g_iloadn_1 dX11_goPlan_57 ?_
        refine g_s2 hm (fun _ _ h => c_X11_rightOf ar_38 h) ce_X11_rightOf lk_X11_272 (bl_of (by omega)) rfl dX11_goPlan_58 (fun x7 m6 hm => ?_)
        refine g_iload_6 dX11_goPlan_61 ?_
        refine g_s2 hm (fun _ _ h => c_X11_has h) ce_X11_has lk_X11_213 (bl_of (by omega)) rfl dX11_goPlan_63 (fun x9 m8 hm => ?_)
        refine g_jn (J := fun (s : Sg × Int32) => GX g (d + 1) RX11 cX11_goPlan 9 none none mm 93 [some (.ref (g.ad 27)), some (.int a1), some (.int a2), some (.int a3), some (.int a4), some (.int a5), some (.int x2), none, none] [.int (s.2)] s.1) hm ?_ ?_
        · rintro ⟨m10, x11⟩ hm
          (try dsimp only at hm)
          (try dsimp only)
          refine g_istore_7 dX11_goPlan_93 rfl ?_
          refine g_iconst 0 dX11_goPlan_95 rfl ?_
          refine g_istore_8 dX11_goPlan_96 rfl ?_
          refine g_lp (I := fun (s : Sg × Int32 × Int32) => GX g (d + 1) RX11 cX11_goPlan 9 none none mm 98 [some (.ref (g.ad 27)), some (.int a1), some (.int a2), some (.int a3), some (.int a4), some (.int a5), some (.int x2), some (.int (s.2.1)), some (.int (s.2.2))] [] s.1) (E := fun (s : Sg × Int32) => GX g (d + 1) RX11 cX11_goPlan 9 none none mm 134 [some (.ref (g.ad 27)), some (.int a1), some (.int a2), some (.int a3), some (.int a4), some (.int a5), some (.int x2), some (.int (s.2)), none] [] s.1) hm ?_ ?_
          · rintro ⟨m16, x17⟩ hm
            (try dsimp only at hm)
            (try dsimp only)
            refine g_iload_7 dX11_goPlan_134 ?_
            refine g_jn (J := fun (s : Sg) => GX g (d + 1) RX11 cX11_goPlan 9 none none mm 169 [some (.ref (g.ad 27)), some (.int a1), some (.int a2), some (.int a3), some (.int a4), some (.int a5), some (.int x2), none, none] [] s) hm ?_ ?_
            · intro m26 hm
              refine g_iinc_6 1 hm dX11_goPlan_169 rfl rfl (fun x28 hm => ?_)
              refine g_goto 46 dX11_goPlan_172 (by decide) ?_
              cases hm
              exact hi4 _ rfl
            · intro k27 hk27 hm
              refine g_if_ne 142 hm dX11_goPlan_136 (by decide) (fun hm => ?_) (fun hm => ?_)
              · refine g_aloadn_0 dX11_goPlan_142 ?_
                refine g_getr (q := 40) fo_11_37 pn_27 pc_27 rfl rfl dX11_goPlan_143 ?_
                refine g_iloadn_3 dX11_goPlan_146 ?_
                refine g_iload_6 dX11_goPlan_147 ?_
                refine g_iastore hm ar_40.1 ar_40.2 dX11_goPlan_149 (fun m29 hm => ?_)
                refine g_aloadn_0 dX11_goPlan_150 ?_
                refine g_iloadn_1 dX11_goPlan_151 ?_
                refine g_iloadn_2 dX11_goPlan_152 ?_
                refine g_iloadn_3 dX11_goPlan_153 ?_
                refine g_iconst 1 dX11_goPlan_154 rfl ?_
                refine g_iadd dX11_goPlan_155 ?_
                refine g_iload_4 dX11_goPlan_156 ?_
                refine g_bipush 10 dX11_goPlan_158 rfl ?_
                refine g_iload_5 dX11_goPlan_160 ?_
                refine g_imul dX11_goPlan_162 ?_
                refine g_iload_6 dX11_goPlan_163 ?_
                refine g_iadd dX11_goPlan_165 ?_
                refine g_v5V hm (fun _ h => hR h) pn_27 (pc_27 _ _) rfl ce_X11_goPlan lk_X11_404 bl_self rfl dX11_goPlan_166 (fun m30 hm => ?_)
                refine g_weak (vs' := [some (.ref (g.ad 27)), some (.int a1), some (.int a2), some (.int a3), some (.int a4), some (.int a5), some (.int x2), none, none]) ⟨rfl, ⟨rfl, ⟨rfl, ⟨rfl, ⟨rfl, ⟨rfl, ⟨rfl, trivial⟩⟩⟩⟩⟩⟩⟩ ?_
                exact hk27 _ hm
              · refine g_goto 169 dX11_goPlan_139 (by decide) ?_
                refine g_weak (vs' := [some (.ref (g.ad 27)), some (.int a1), some (.int a2), some (.int a3), some (.int a4), some (.int a5), some (.int x2), none, none]) ⟨rfl, ⟨rfl, ⟨rfl, ⟨rfl, ⟨rfl, ⟨rfl, ⟨rfl, trivial⟩⟩⟩⟩⟩⟩⟩ ?_
                exact hk27 _ hm
          · rintro ⟨m13, x14, x15⟩ o hm hx19 hi18
            (try dsimp only [f_X11_goPlan_L98] at hm)
            (try dsimp only)
            refine g_iload_8 dX11_goPlan_98 ?_
            refine g_iloadn_3 dX11_goPlan_100 ?_
            refine g_icmp_ge 134 hm dX11_goPlan_101 (by decide) (fun hm => ?_) (fun hm => ?_)
            · refine g_weak (vs' := [some (.ref (g.ad 27)), some (.int a1), some (.int a2), some (.int a3), some (.int a4), some (.int a5), some (.int x2), some (.int x14), none]) ⟨rfl, ⟨rfl, ⟨rfl, ⟨rfl, ⟨rfl, ⟨rfl, ⟨rfl, ⟨rfl, trivial⟩⟩⟩⟩⟩⟩⟩⟩ ?_
              cases hm
              exact hx19 _ rfl
            · refine g_iload_7 dX11_goPlan_104 ?_
              refine g_jn (J := fun (s : Sg × Int32) => GX g (d + 1) RX11 cX11_goPlan 9 none none mm 126 [some (.ref (g.ad 27)), some (.int a1), some (.int a2), some (.int a3), some (.int a4), some (.int a5), some (.int x2), none, some (.int x15)] [.int (s.2)] s.1) hm ?_ ?_
              · rintro ⟨m20, x21⟩ hm
                (try dsimp only at hm)
                (try dsimp only)
                refine g_istore_7 dX11_goPlan_126 rfl ?_
                refine g_iinc_8 1 hm dX11_goPlan_128 rfl rfl (fun x23 hm => ?_)
                refine g_goto 98 dX11_goPlan_131 (by decide) ?_
                cases hm
                exact hi18 _ rfl
              · intro k22 hk22 hm
                refine g_jn (J := fun (s : Sg) => GX g (d + 1) RX11 cX11_goPlan 9 none none mm 125 [some (.ref (g.ad 27)), some (.int a1), some (.int a2), some (.int a3), some (.int a4), some (.int a5), some (.int x2), none, some (.int x15)] [] s) hm ?_ ?_
                · intro m24 hm
                  refine g_iconst 0 dX11_goPlan_125 rfl ?_
                  exact hk22 _ hm
                · intro k25 hk25 hm
                  refine g_if_eq 125 hm dX11_goPlan_106 (by decide) (fun hm => ?_) (fun hm => ?_)
                  · refine g_weak (vs' := [some (.ref (g.ad 27)), some (.int a1), some (.int a2), some (.int a3), some (.int a4), some (.int a5), some (.int x2), none, some (.int x15)]) ⟨rfl, ⟨rfl, ⟨rfl, ⟨rfl, ⟨rfl, ⟨rfl, ⟨rfl, ⟨rfl, trivial⟩⟩⟩⟩⟩⟩⟩⟩ ?_
                    exact hk25 _ hm
                  · refine g_aloadn_0 dX11_goPlan_109 ?_
                    refine g_getr (q := 40) fo_11_37 pn_27 pc_27 rfl rfl dX11_goPlan_110 ?_
                    refine g_iload_8 dX11_goPlan_113 ?_
                    refine g_iaload hm ar_40.1 ar_40.2 dX11_goPlan_115 (fun hm => ?_)
                    refine g_iload_6 dX11_goPlan_116 ?_
                    refine g_icmp_eq 125 hm dX11_goPlan_118 (by decide) (fun hm => ?_) (fun hm => ?_)
                    · refine g_weak (vs' := [some (.ref (g.ad 27)), some (.int a1), some (.int a2), some (.int a3), some (.int a4), some (.int a5), some (.int x2), none, some (.int x15)]) ⟨rfl, ⟨rfl, ⟨rfl, ⟨rfl, ⟨rfl, ⟨rfl, ⟨rfl, ⟨rfl, trivial⟩⟩⟩⟩⟩⟩⟩⟩ ?_
                      exact hk25 _ hm
                    · refine g_iconst 1 dX11_goPlan_121 rfl ?_
                      refine g_goto 126 dX11_goPlan_122 (by decide) ?_
                      refine g_weak (vs' := [some (.ref (g.ad 27)), some (.int a1), some (.int a2), some (.int a3), some (.int a4), some (.int a5), some (.int x2), none, some (.int x15)]) ⟨rfl, ⟨rfl, ⟨rfl, ⟨rfl, ⟨rfl, ⟨rfl, ⟨rfl, ⟨rfl, trivial⟩⟩⟩⟩⟩⟩⟩⟩ ?_
                      exact hk22 _ hm
        · intro k12 hk12 hm
          refine g_jn (J := fun (s : Sg) => GX g (d + 1) RX11 cX11_goPlan 9 none none mm 92 [some (.ref (g.ad 27)), some (.int a1), some (.int a2), some (.int a3), some (.int a4), some (.int a5), some (.int x2), none, none] [] s) hm ?_ ?_
          · intro m31 hm
            refine g_iconst 0 dX11_goPlan_92 rfl ?_
            exact hk12 _ hm
          · intro k32 hk32 hm
            refine g_if_ne 92 hm dX11_goPlan_66 (by decide) (fun hm => ?_) (fun hm => ?_)
            · exact hk32 _ hm
            · refine g_aloadn_0 dX11_goPlan_69 ?_
              refine g_getr (q := 38) fo_11_29 pn_27 pc_27 rfl rfl dX11_goPlan_70 ?_
              refine g_bipush 7 dX11_goPlan_73 rfl ?_
              refine g_iloadn_1 dX11_goPlan_75 ?_
              refine g_imul dX11_goPlan_76 ?_
              refine g_iconst 5 dX11_goPlan_77 rfl ?_
              refine g_iadd dX11_goPlan_78 ?_
              refine g_iaload hm ar_38.1 ar_38.2 dX11_goPlan_79 (fun hm => ?_)
              refine g_iload_6 dX11_goPlan_80 ?_
              refine g_s2 hm (fun _ _ h => c_X11_has h) ce_X11_has lk_X11_213 (bl_of (by omega)) rfl dX11_goPlan_82 (fun x34 m33 hm => ?_)
              refine g_if_ne 92 hm dX11_goPlan_85 (by decide) (fun hm => ?_) (fun hm => ?_)
              · exact hk32 _ hm
              · refine g_iconst 1 dX11_goPlan_88 rfl ?_
                refine g_goto 93 dX11_goPlan_89 (by decide) ?_
                exact hk12 _ hm
  · refine g_aloadn_0 dX11_goPlan_6 ?_
    refine g_iloadn_1 dX11_goPlan_7 ?_
    refine g_iloadn_2 dX11_goPlan_8 ?_
    refine g_iloadn_3 dX11_goPlan_9 ?_
    refine g_v3 hm (fun _ _ h => c_X11_reignBy HX h) pn_27 (pc_27 _ _) rfl ce_X11_reignBy lk_X11_392 (bl_of (by omega)) rfl dX11_goPlan_10 (fun x36 m35 hm => ?_)
    refine g_istore_6 dX11_goPlan_13 rfl ?_
    refine g_iload_6 dX11_goPlan_15 ?_
    refine g_aloadn_0 dX11_goPlan_17 ?_
    refine g_geti fo_11_40 pn_27 pc_27 rfl dX11_goPlan_18 ?_
    refine g_icmp_gt 25 hm dX11_goPlan_21 (by decide) (fun hm => ?_) (fun hm => ?_)
    · refine g_aloadn_0 dX11_goPlan_25 ?_
      refine g_iload_6 dX11_goPlan_26 ?_
      refine g_put hm fo_11_40 fp_11_40 pn_27 pc_27 rfl dX11_goPlan_28 (fun m37 hm => ?_)
      refine g_aloadn_0 dX11_goPlan_31 ?_
      refine g_iload_5 dX11_goPlan_32 ?_
      refine g_put hm fo_11_41 fp_11_41 pn_27 pc_27 rfl dX11_goPlan_34 (fun m38 hm => ?_)
      refine g_aloadn_0 dX11_goPlan_37 ?_
      refine g_iloadn_3 dX11_goPlan_38 ?_
      refine g_put hm fo_11_42 fp_11_42 pn_27 pc_27 rfl dX11_goPlan_39 (fun m39 hm => ?_)
      exact g_vret hm dX11_goPlan_42
    · exact g_vret hm dX11_goPlan_24
def recP : Nat → Sg → Int32 → Int32 → Int32 → Int32 → Int32 → Option Sg
  | 0, _, _, _, _, _, _ => none
  | n + 1, m, a, b, c, e, f => f_X11_goPlan (recP n) m a b c e f
theorem hrecP {g : Cf} (HX : XOK g) : ∀ n, RHP g (80 + n) (recP n)
  | 0 => fun h => by cases h
  | n + 1 => fun h => c_X11_goPlan (Nat.le_add_right _ _) (hrecP HX n) HX h
def f_X11_plan_L64 (a1 : Int32) (a2 : Int32) : (Sg × Int32) → Option (((Sg)) ⊕ (Sg × Int32)) := fun s => match s with
  | (m11, x12) => 
  (if 4 ≤ x12 then some (.inl m11) else
  calv (recP 5 m11 a1 a2 0 x12 0) (fun m16 => bnd (x12 + 1) (fun x17 => some (.inr (m16, x17)))))
def f_X11_plan  (m : Sg) (a1 : Int32) (a2 : Int32) (a3 : Int32) : Option (Int32 × Sg) :=
  bnd (wr m 27 0 0) (fun m1 => cal (f_X11_isChild m1 a1) (fun x3 m2 => bnd (fun (m4 : Sg) => some ((-1000000), m4)) (fun (k5 : Sg → Option (Int32 × Sg)) =>
  (if x3 = 0 then k5 m2 else
  if inr ((7 * a1) + 3) 244 = true then (if (m2.1 38 ((7 * a1) + 3).toNatClampNeg) = (-1) then cal (f_X11_isIn m2 ((a2 : Int32).toInt64) 1 24) (fun x7 m6 => (if x7 = 0 then k5 m6 else
  cal (f_X11_isIn m6 ((a3 : Int32).toInt64) 0 2) (fun x9 m8 => (if x9 = 0 then k5 m8 else
  bnd (wr m8 27 40 (-1)) (fun m10 => lpk (f_X11_plan_L64 a1 a2) (m10, 0) (fun m13 => (if a3 = 0 then (if (m13.1 27 42) = 0 then some ((-1), m13) else
  some (m13.1 27 41, m13)) else
  (if a3 = 1 then some (m13.1 27 40, m13) else
  some (m13.1 27 42, m13))))))))) else
  k5 m2) else none))))
set_option maxRecDepth 4000 in
theorem c_X11_plan {g : Cf} {m mm : Sg} {r : Int32} {a1 : Int32} {a2 : Int32} {a3 : Int32} (HX : XOK g) (hm : f_X11_plan  m a1 a2 a3 = some (r, mm)) : Cl g 86 yX11_plan cX11_plan 5 (some .int) [.ref (g.ad 27), .int a1, .int a2, .int a3] m (some (.int r)) mm := by
  refine cl_of (by decide) (Nat.le_of_ble_eq_true rfl) (vs := [some (.ref (g.ad 27)), some (.int a1), some (.int a2), some (.int a3), none]) rfl rfl ?_
  show GX g 86 RX11 cX11_plan 5 (some .int) (some (.int r)) mm 0 _ [] m
  unfold f_X11_plan at hm
  refine g_aloadn_0 dX11_plan_0 ?_
  refine g_iconst 0 dX11_plan_1 rfl ?_
  refine g_put hm fo_11_0 fp_11_0 pn_27 pc_27 rfl dX11_plan_2 (fun m1 hm => ?_)
  refine g_aloadn_0 dX11_plan_5 ?_
  refine g_iloadn_1 dX11_plan_6 ?_
  refine g_v1 hm (fun _ _ h => c_X11_isChild h) pn_27 (pc_27 _ _) rfl ce_X11_isChild lk_X11_296 rfl rfl dX11_plan_7 (fun x3 m2 hm => ?_)
  refine g_jn (J := fun (s : Sg) => GX g 86 RX11 cX11_plan 5 (some .int) (some (.int r)) mm 52 [none, none, none, none, none] [] s) hm ?_ ?_
  · intro m4 hm
    refine g_ldc_w dX11_plan_52 ck_X11_378 ?_
    exact g_iret hm dX11_plan_55
  · intro k5 hk5 hm
    refine g_if_eq 52 hm dX11_plan_10 (by decide) (fun hm => ?_) (fun hm => ?_)
    · refine g_weak (vs' := [none, none, none, none, none]) trivial ?_
      exact hk5 _ hm
    · refine g_aloadn_0 dX11_plan_13 ?_
      refine g_getr (q := 38) fo_11_29 pn_27 pc_27 rfl rfl dX11_plan_14 ?_
      refine g_bipush 7 dX11_plan_17 rfl ?_
      refine g_iloadn_1 dX11_plan_19 ?_
      refine g_imul dX11_plan_20 ?_
      refine g_iconst 3 dX11_plan_21 rfl ?_
      refine g_iadd dX11_plan_22 ?_
      refine g_iaload hm ar_38.1 ar_38.2 dX11_plan_23 (fun hm => ?_)
      refine g_iconst (-1) dX11_plan_24 rfl ?_
      refine g_icmp_ne 52 hm dX11_plan_25 (by decide) (fun hm => ?_) (fun hm => ?_)
      · refine g_weak (vs' := [none, none, none, none, none]) trivial ?_
        exact hk5 _ hm
      · refine g_iloadn_2 dX11_plan_28 ?_
        refine g_i2l dX11_plan_29 ?_
        refine g_lconst 1 dX11_plan_30 rfl ?_
        refine g_ldc2_w dX11_plan_31 ck_X11_408 ?_
        refine g_s3 hm (fun _ _ h => c_X11_isIn h) ce_X11_isIn lk_X11_201 rfl rfl dX11_plan_34 (fun x7 m6 hm => ?_)
        refine g_if_eq 52 hm dX11_plan_37 (by decide) (fun hm => ?_) (fun hm => ?_)
        · refine g_weak (vs' := [none, none, none, none, none]) trivial ?_
          exact hk5 _ hm
        · refine g_iloadn_3 dX11_plan_40 ?_
          refine g_i2l dX11_plan_41 ?_
          refine g_lconst 0 dX11_plan_42 rfl ?_
          refine g_ldc2_w dX11_plan_43 ck_X11_307 ?_
          refine g_s3 hm (fun _ _ h => c_X11_isIn h) ce_X11_isIn lk_X11_201 rfl rfl dX11_plan_46 (fun x9 m8 hm => ?_)
          refine g_if_ne 56 hm dX11_plan_49 (by decide) (fun hm => ?_) (fun hm => ?_)
          · refine g_aloadn_0 dX11_plan_56 ?_
            refine g_iconst (-1) dX11_plan_57 rfl ?_
            refine g_put hm fo_11_40 fp_11_40 pn_27 pc_27 rfl dX11_plan_58 (fun m10 hm => ?_)
            refine g_iconst 0 dX11_plan_61 rfl ?_
            refine g_istore_4 dX11_plan_62 rfl ?_
            refine g_lp (I := fun (s : Sg × Int32) => GX g 86 RX11 cX11_plan 5 (some .int) (some (.int r)) mm 64 [some (.ref (g.ad 27)), some (.int a1), some (.int a2), some (.int a3), some (.int (s.2))] [] s.1) (E := fun (s : Sg) => GX g 86 RX11 cX11_plan 5 (some .int) (some (.int r)) mm 86 [some (.ref (g.ad 27)), none, none, some (.int a3), none] [] s) hm ?_ ?_
            · rintro m13 hm
              (try dsimp only at hm)
              (try dsimp only)
              refine g_iloadn_3 dX11_plan_86 ?_
              refine g_if_ne 106 hm dX11_plan_87 (by decide) (fun hm => ?_) (fun hm => ?_)
              · refine g_iloadn_3 dX11_plan_106 ?_
                refine g_iconst 1 dX11_plan_107 rfl ?_
                refine g_icmp_ne 118 hm dX11_plan_108 (by decide) (fun hm => ?_) (fun hm => ?_)
                · refine g_aloadn_0 dX11_plan_118 ?_
                  refine g_geti fo_11_42 pn_27 pc_27 rfl dX11_plan_119 ?_
                  exact g_iret hm dX11_plan_122
                · refine g_aloadn_0 dX11_plan_111 ?_
                  refine g_geti fo_11_40 pn_27 pc_27 rfl dX11_plan_112 ?_
                  refine g_goto 122 dX11_plan_115 (by decide) ?_
                  exact g_iret hm dX11_plan_122
              · refine g_aloadn_0 dX11_plan_90 ?_
                refine g_geti fo_11_42 pn_27 pc_27 rfl dX11_plan_91 ?_
                refine g_if_ne 101 hm dX11_plan_94 (by decide) (fun hm => ?_) (fun hm => ?_)
                · refine g_aloadn_0 dX11_plan_101 ?_
                  refine g_geti fo_11_41 pn_27 pc_27 rfl dX11_plan_102 ?_
                  exact g_iret hm dX11_plan_105
                · refine g_iconst (-1) dX11_plan_97 rfl ?_
                  refine g_goto 105 dX11_plan_98 (by decide) ?_
                  exact g_iret hm dX11_plan_105
            · rintro ⟨m11, x12⟩ o hm hx15 hi14
              (try dsimp only [f_X11_plan_L64] at hm)
              (try dsimp only)
              refine g_iload_4 dX11_plan_64 ?_
              refine g_iconst 4 dX11_plan_66 rfl ?_
              refine g_icmp_ge 86 hm dX11_plan_67 (by decide) (fun hm => ?_) (fun hm => ?_)
              · refine g_weak (vs' := [some (.ref (g.ad 27)), none, none, some (.int a3), none]) ⟨rfl, ⟨rfl, trivial⟩⟩ ?_
                cases hm
                exact hx15 _ rfl
              · refine g_aloadn_0 dX11_plan_70 ?_
                refine g_iloadn_1 dX11_plan_71 ?_
                refine g_iloadn_2 dX11_plan_72 ?_
                refine g_iconst 0 dX11_plan_73 rfl ?_
                refine g_iload_4 dX11_plan_74 ?_
                refine g_iconst 0 dX11_plan_76 rfl ?_
                refine g_v5V hm (fun _ h => (hrecP HX 5) h) pn_27 (pc_27 _ _) rfl ce_X11_goPlan lk_X11_404 rfl rfl dX11_plan_77 (fun m16 hm => ?_)
                refine g_iinc_4 1 hm dX11_plan_80 rfl rfl (fun x17 hm => ?_)
                refine g_goto 64 dX11_plan_83 (by decide) ?_
                cases hm
                exact hi14 _ rfl
          · refine g_weak (vs' := [none, none, none, none, none]) trivial ?_
            exact hk5 _ hm
