def f_X11_clause  (m : Sg)  : Option (Sg) :=
  cal (f_X11_look m) (fun x2 m1 => cal (f_X11_isAmong 0 m1 x2) (fun x4 m3 => (if x4 = 0 then cal (f_X11_fails m3) (fun x37 m36 => some m36) else
  bnd (wr m3 27 10 ((m3.1 27 10) + 1)) (fun m5 => cal (f_X11_takes m5 58) (fun x7 m6 => (if x7 = 0 then some m6 else
  cal (f_X11_look m6) (fun x9 m8 => bnd (fun ((m10, x11, x12) : Sg × Int32 × Int32) => (if (m10.1 27 11) = (-1) then (if (m10.1 27 17) = 0 then (if x2 = (m10.1 27 13) then (if x11 = 0 then some m10 else
  bnd (wr m10 27 17 1) (fun m14 => bnd (wr m14 27 14 x12) (fun m15 => some m15))) else
  some m10) else
  some m10) else
  some m10)) (fun (k13 : Sg × Int32 × Int32 → Option (Sg)) =>
  bnd (fun (m16 : Sg) => cal (rec11 64 6 m16 0 0) (fun x19 m18 => cal (f_X11_takes m18 63) (fun x21 m20 => (if x21 = 0 then some m20 else
  cal (rec11 64 2 m20 0 0) (fun x23 m22 => k13 (m22, x19, x23)))))) (fun (k17 : Sg → Option (Sg)) =>
  (if x9 = 33 then k17 m8 else
  (if x9 = 40 then k17 m8 else
  cal (rec11 64 2 m8 0 0) (fun x25 m24 => (if (m24.1 27 11) = (-1) then cal (f_X11_look m24) (fun x27 m26 => cal (f_X11_isSign m26 x27) (fun x29 m28 => (if x29 = 0 then k13 (m28, 1, x25) else
  cal (rec11 64 6 m28 1 x25) (fun x31 m30 => cal (f_X11_takes m30 63) (fun x33 m32 => (if x33 = 0 then some m32 else
  cal (rec11 64 2 m32 0 0) (fun x35 m34 => k13 (m34, x31, x35)))))))) else
  k13 (m24, 1, x25))))))))))))))
set_option maxRecDepth 4000 in
theorem c_X11_clause {g : Cf} {m mm : Sg} (HX : XOK g) (hm : f_X11_clause  m  = some mm) : Cl g 74 yX11_clause cX11_clause 5 none [.ref (g.ad 27)] m none mm := by
  refine cl_of (by decide) (Nat.le_of_ble_eq_true rfl) (vs := [some (.ref (g.ad 27)), none, none, none, none]) rfl rfl ?_
  show GX g 74 RX11 cX11_clause 5 none none mm 0 _ [] m
  unfold f_X11_clause at hm
  refine g_aloadn_0 dX11_clause_0 ?_
  refine g_v0 hm (fun _ _ h => c_X11_look h) pn_27 (pc_27 _ _) rfl ce_X11_look lk_X11_122 rfl rfl dX11_clause_1 (fun x2 m1 hm => ?_)
  refine g_istoren_1 dX11_clause_4 rfl ?_
  refine g_ldcS (k := 0) (tx := "y") HX (by decide) dX11_clause_5 ?_
  refine g_iloadn_1 dX11_clause_7 ?_
  refine g_s2 hm (fun _ _ h => c_X11_isAmong HX (by decide) h) ce_X11_isAmong lk_X11_138 rfl rfl dX11_clause_8 (fun x4 m3 hm => ?_)
  refine g_if_ne 20 hm dX11_clause_11 (by decide) (fun hm => ?_) (fun hm => ?_)
  · refine g_aloadn_0 dX11_clause_20 ?_
    refine g_dup dX11_clause_21 rfl ?_
    refine g_geti fo_11_10 pn_27 pc_27 rfl dX11_clause_22 ?_
    refine g_iconst 1 dX11_clause_25 rfl ?_
    refine g_iadd dX11_clause_26 ?_
    refine g_put hm fo_11_10 fp_11_10 pn_27 pc_27 rfl dX11_clause_27 (fun m5 hm => ?_)
    refine g_aloadn_0 dX11_clause_30 ?_
    refine g_bipush 58 dX11_clause_31 rfl ?_
    refine g_v1 hm (fun _ _ h => c_X11_takes h) pn_27 (pc_27 _ _) rfl ce_X11_takes lk_X11_148 rfl rfl dX11_clause_33 (fun x7 m6 hm => ?_)
    refine g_if_ne 40 hm dX11_clause_36 (by decide) (fun hm => ?_) (fun hm => ?_)
    · refine g_iconst 1 dX11_clause_40 rfl ?_
      refine g_istoren_2 dX11_clause_41 rfl ?_
      refine g_iconst 0 dX11_clause_42 rfl ?_
      refine g_istoren_3 dX11_clause_43 rfl ?_
      refine g_aloadn_0 dX11_clause_44 ?_
      refine g_v0 hm (fun _ _ h => c_X11_look h) pn_27 (pc_27 _ _) rfl ce_X11_look lk_X11_122 rfl rfl dX11_clause_45 (fun x9 m8 hm => ?_)
      refine g_istore_4 dX11_clause_48 rfl ?_
      refine g_iload_4 dX11_clause_50 ?_
      refine g_bipush 33 dX11_clause_52 rfl ?_
      refine g_jn (J := fun (s : Sg × Int32 × Int32) => GX g 74 RX11 cX11_clause 5 none none mm 134 [some (.ref (g.ad 27)), some (.int x2), some (.int (s.2.1)), some (.int (s.2.2)), none] [] s.1) hm ?_ ?_
      · rintro ⟨m10, x11, x12⟩ hm
        (try dsimp only at hm)
        (try dsimp only)
        refine g_aloadn_0 dX11_clause_134 ?_
        refine g_geti fo_11_11 pn_27 pc_27 rfl dX11_clause_135 ?_
        refine g_iconst (-1) dX11_clause_138 rfl ?_
        refine g_icmp_ne 161 hm dX11_clause_139 (by decide) (fun hm => ?_) (fun hm => ?_)
        · exact g_vret hm dX11_clause_161
        · refine g_aloadn_0 dX11_clause_142 ?_
          refine g_geti fo_11_17 pn_27 pc_27 rfl dX11_clause_143 ?_
          refine g_if_ne 161 hm dX11_clause_146 (by decide) (fun hm => ?_) (fun hm => ?_)
          · exact g_vret hm dX11_clause_161
          · refine g_iloadn_1 dX11_clause_149 ?_
            refine g_aloadn_0 dX11_clause_150 ?_
            refine g_geti fo_11_13 pn_27 pc_27 rfl dX11_clause_151 ?_
            refine g_icmp_ne 161 hm dX11_clause_154 (by decide) (fun hm => ?_) (fun hm => ?_)
            · exact g_vret hm dX11_clause_161
            · refine g_iloadn_2 dX11_clause_157 ?_
              refine g_if_ne 162 hm dX11_clause_158 (by decide) (fun hm => ?_) (fun hm => ?_)
              · refine g_aloadn_0 dX11_clause_162 ?_
                refine g_iconst 1 dX11_clause_163 rfl ?_
                refine g_putz hm fo_11_17 fp_11_17 pn_27 pc_27 rfl rfl dX11_clause_164 (fun m14 hm => ?_)
                refine g_aloadn_0 dX11_clause_167 ?_
                refine g_iloadn_3 dX11_clause_168 ?_
                refine g_put hm fo_11_14 fp_11_14 pn_27 pc_27 rfl dX11_clause_169 (fun m15 hm => ?_)
                exact g_vret hm dX11_clause_172
              · exact g_vret hm dX11_clause_161
      · intro k13 hk13 hm
        refine g_jn (J := fun (s : Sg) => GX g 74 RX11 cX11_clause 5 none none mm 64 [some (.ref (g.ad 27)), some (.int x2), none, none, none] [] s) hm ?_ ?_
        · intro m16 hm
          refine g_aloadn_0 dX11_clause_64 ?_
          refine g_iconst 0 dX11_clause_65 rfl ?_
          refine g_iconst 0 dX11_clause_66 rfl ?_
          refine g_v2 hm (fun _ _ h => (hrec11 HX 64).2.2.2.2.2.2 h) pn_27 (pc_27 _ _) rfl ce_X11_condition lk_X11_171 rfl rfl dX11_clause_67 (fun x19 m18 hm => ?_)
          refine g_istoren_2 dX11_clause_70 rfl ?_
          refine g_aloadn_0 dX11_clause_71 ?_
          refine g_bipush 63 dX11_clause_72 rfl ?_
          refine g_v1 hm (fun _ _ h => c_X11_takes h) pn_27 (pc_27 _ _) rfl ce_X11_takes lk_X11_148 rfl rfl dX11_clause_74 (fun x21 m20 hm => ?_)
          refine g_if_ne 81 hm dX11_clause_77 (by decide) (fun hm => ?_) (fun hm => ?_)
          · refine g_aloadn_0 dX11_clause_81 ?_
            refine g_v0 hm (fun _ _ h => (hrec11 HX 64).2.2.1 h) pn_27 (pc_27 _ _) rfl ce_X11_sum lk_X11_145 rfl rfl dX11_clause_82 (fun x23 m22 hm => ?_)
            refine g_istoren_3 dX11_clause_85 rfl ?_
            refine g_goto 134 dX11_clause_86 (by decide) ?_
            exact hk13 _ hm
          · exact g_vret hm dX11_clause_80
        · intro k17 hk17 hm
          refine g_icmp_eq 64 hm dX11_clause_54 (by decide) (fun hm => ?_) (fun hm => ?_)
          · refine g_weak (vs' := [some (.ref (g.ad 27)), some (.int x2), none, none, none]) ⟨rfl, ⟨rfl, trivial⟩⟩ ?_
            exact hk17 _ hm
          · refine g_iload_4 dX11_clause_57 ?_
            refine g_bipush 40 dX11_clause_59 rfl ?_
            refine g_icmp_ne 89 hm dX11_clause_61 (by decide) (fun hm => ?_) (fun hm => ?_)
            · refine g_aloadn_0 dX11_clause_89 ?_
              refine g_v0 hm (fun _ _ h => (hrec11 HX 64).2.2.1 h) pn_27 (pc_27 _ _) rfl ce_X11_sum lk_X11_145 rfl rfl dX11_clause_90 (fun x25 m24 hm => ?_)
              refine g_istoren_3 dX11_clause_93 rfl ?_
              refine g_aloadn_0 dX11_clause_94 ?_
              refine g_geti fo_11_11 pn_27 pc_27 rfl dX11_clause_95 ?_
              refine g_iconst (-1) dX11_clause_98 rfl ?_
              refine g_icmp_ne 134 hm dX11_clause_99 (by decide) (fun hm => ?_) (fun hm => ?_)
              · refine g_weak (vs' := [some (.ref (g.ad 27)), some (.int x2), some (.int 1), some (.int x25), none]) ⟨rfl, ⟨rfl, ⟨rfl, ⟨rfl, trivial⟩⟩⟩⟩ ?_
                exact hk13 _ hm
              · refine g_aloadn_0 dX11_clause_102 ?_
                refine g_v0 hm (fun _ _ h => c_X11_look h) pn_27 (pc_27 _ _) rfl ce_X11_look lk_X11_122 rfl rfl dX11_clause_103 (fun x27 m26 hm => ?_)
                refine g_s1 hm (fun _ _ h => c_X11_isSign h) ce_X11_isSign lk_X11_165 rfl rfl dX11_clause_106 (fun x29 m28 hm => ?_)
                refine g_if_eq 134 hm dX11_clause_109 (by decide) (fun hm => ?_) (fun hm => ?_)
                · refine g_weak (vs' := [some (.ref (g.ad 27)), some (.int x2), some (.int 1), some (.int x25), none]) ⟨rfl, ⟨rfl, ⟨rfl, ⟨rfl, trivial⟩⟩⟩⟩ ?_
                  exact hk13 _ hm
                · refine g_aloadn_0 dX11_clause_112 ?_
                  refine g_iconst 1 dX11_clause_113 rfl ?_
                  refine g_iloadn_3 dX11_clause_114 ?_
                  refine g_v2 hm (fun _ _ h => (hrec11 HX 64).2.2.2.2.2.2 h) pn_27 (pc_27 _ _) rfl ce_X11_condition lk_X11_171 rfl rfl dX11_clause_115 (fun x31 m30 hm => ?_)
                  refine g_istoren_2 dX11_clause_118 rfl ?_
                  refine g_aloadn_0 dX11_clause_119 ?_
                  refine g_bipush 63 dX11_clause_120 rfl ?_
                  refine g_v1 hm (fun _ _ h => c_X11_takes h) pn_27 (pc_27 _ _) rfl ce_X11_takes lk_X11_148 rfl rfl dX11_clause_122 (fun x33 m32 hm => ?_)
                  refine g_if_ne 129 hm dX11_clause_125 (by decide) (fun hm => ?_) (fun hm => ?_)
                  · refine g_aloadn_0 dX11_clause_129 ?_
                    refine g_v0 hm (fun _ _ h => (hrec11 HX 64).2.2.1 h) pn_27 (pc_27 _ _) rfl ce_X11_sum lk_X11_145 rfl rfl dX11_clause_130 (fun x35 m34 hm => ?_)
                    refine g_istoren_3 dX11_clause_133 rfl ?_
                    refine g_weak (vs' := [some (.ref (g.ad 27)), some (.int x2), some (.int x31), some (.int x35), none]) ⟨rfl, ⟨rfl, ⟨rfl, ⟨rfl, trivial⟩⟩⟩⟩ ?_
                    exact hk13 _ hm
                  · exact g_vret hm dX11_clause_128
            · refine g_weak (vs' := [some (.ref (g.ad 27)), some (.int x2), none, none, none]) ⟨rfl, ⟨rfl, trivial⟩⟩ ?_
              exact hk17 _ hm
    · exact g_vret hm dX11_clause_39
  · refine g_aloadn_0 dX11_clause_14 ?_
    refine g_v0 hm (fun _ _ h => c_X11_fails h) pn_27 (pc_27 _ _) rfl ce_X11_fails lk_X11_118 rfl rfl dX11_clause_15 (fun x37 m36 hm => ?_)
    refine g_pop dX11_clause_18 rfl ?_
    exact g_vret hm dX11_clause_19
def f_X11_starts (z : Int32) (m : Sg) (a1 : Int32) (a2 : Int32) : Option (Sg) :=
  bnd (wr m 27 5 z) (fun m1 => bnd (wr m1 27 8 a1) (fun m2 => bnd (wr m2 27 9 a2) (fun m3 => bnd (wr m3 27 10 0) (fun m4 => bnd (wr m4 27 11 (-1)) (fun m5 => some m5)))))
set_option maxRecDepth 4000 in
theorem c_X11_starts {g : Cf} {m mm : Sg} {z : Int32} {a1 : Int32} {a2 : Int32} {q : Nat} (Hz : TXT q z) (hm : f_X11_starts z m a1 a2 = some mm) : Cl g 0 yX11_starts cX11_starts 4 none [.ref (g.ad 27), .ref (g.ad q), .int a1, .int a2] m none mm := by
  refine cl_of (by decide) (Nat.le_of_ble_eq_true rfl) (vs := [some (.ref (g.ad 27)), some (.ref (g.ad q)), some (.int a1), some (.int a2)]) rfl rfl ?_
  show GX g 0 RX11 cX11_starts 4 none none mm 0 _ [] m
  unfold f_X11_starts at hm
  refine g_aloadn_0 dX11_starts_0 ?_
  refine g_aloadn_1 dX11_starts_1 ?_
  refine g_putt hm Hz rfl fo_11_5 dX11_starts_2 (fun m1 hm => ?_)
  refine g_aloadn_0 dX11_starts_5 ?_
  refine g_iloadn_2 dX11_starts_6 ?_
  refine g_put hm fo_11_8 fp_11_8 pn_27 pc_27 rfl dX11_starts_7 (fun m2 hm => ?_)
  refine g_aloadn_0 dX11_starts_10 ?_
  refine g_iloadn_3 dX11_starts_11 ?_
  refine g_put hm fo_11_9 fp_11_9 pn_27 pc_27 rfl dX11_starts_12 (fun m3 hm => ?_)
  refine g_aloadn_0 dX11_starts_15 ?_
  refine g_iconst 0 dX11_starts_16 rfl ?_
  refine g_put hm fo_11_10 fp_11_10 pn_27 pc_27 rfl dX11_starts_17 (fun m4 hm => ?_)
  refine g_aloadn_0 dX11_starts_20 ?_
  refine g_iconst (-1) dX11_starts_21 rfl ?_
  refine g_put hm fo_11_11 fp_11_11 pn_27 pc_27 rfl dX11_starts_22 (fun m5 hm => ?_)
  exact g_vret hm dX11_starts_25
def f_X11_goThrough_L32  : Sg → Option (((Sg)) ⊕ (Sg)) := fun m7 => 
  (if (m7.1 27 11) = (-1) then cal (f_X11_look m7) (fun x12 m11 => (if x12 = 59 then bnd (wr m11 27 10 ((m11.1 27 10) + 1)) (fun m13 => calv (f_X11_clause m13) (fun m14 => some (.inr m14))) else
  some (.inl m11))) else
  some (.inl m7))
def f_X11_goThrough (z : Int32) (m : Sg) (a1 : Int32) (a2 : Int32) : Option (Sg) :=
  calv (f_X11_starts z m a1 a2) (fun m1 => bnd (wr m1 27 13 121) (fun m2 => bnd (wr m2 27 12 0) (fun m3 => bnd (wr m3 27 17 0) (fun m4 => bnd (wr m4 27 14 0) (fun m5 => calv (f_X11_clause m5) (fun m6 => lpk (f_X11_goThrough_L32) m6 (fun m8 => (if (m8.1 27 11) = (-1) then cal (f_X11_look m8) (fun x16 m15 => (if x16 = (-1) then some m15 else
  cal (f_X11_fails m15) (fun x18 m17 => some m17))) else
  some m8))))))))
set_option maxRecDepth 4000 in
theorem c_X11_goThrough {g : Cf} {m mm : Sg} {z : Int32} {a1 : Int32} {a2 : Int32} {q : Nat} (HX : XOK g) (Hz : TXT q z) (hm : f_X11_goThrough z m a1 a2 = some mm) : Cl g 75 yX11_goThrough cX11_goThrough 4 none [.ref (g.ad 27), .ref (g.ad q), .int a1, .int a2] m none mm := by
  refine cl_of (by decide) (Nat.le_of_ble_eq_true rfl) (vs := [some (.ref (g.ad 27)), some (.ref (g.ad q)), some (.int a1), some (.int a2)]) rfl rfl ?_
  show GX g 75 RX11 cX11_goThrough 4 none none mm 0 _ [] m
  unfold f_X11_goThrough at hm
  refine g_aloadn_0 dX11_goThrough_0 ?_
  refine g_aloadn_1 dX11_goThrough_1 ?_
  refine g_iloadn_2 dX11_goThrough_2 ?_
  refine g_iloadn_3 dX11_goThrough_3 ?_
  refine g_v3V hm (fun _ h => c_X11_starts Hz h) pn_27 (pc_27 _ _) rfl ce_X11_starts lk_X11_191 rfl rfl dX11_goThrough_4 (fun m1 hm => ?_)
  refine g_aloadn_0 dX11_goThrough_7 ?_
  refine g_bipush 121 dX11_goThrough_8 rfl ?_
  refine g_put hm fo_11_13 fp_11_13 pn_27 pc_27 rfl dX11_goThrough_10 (fun m2 hm => ?_)
  refine g_aloadn_0 dX11_goThrough_13 ?_
  refine g_iconst 0 dX11_goThrough_14 rfl ?_
  refine g_put hm fo_11_12 fp_11_12 pn_27 pc_27 rfl dX11_goThrough_15 (fun m3 hm => ?_)
  refine g_aloadn_0 dX11_goThrough_18 ?_
  refine g_iconst 0 dX11_goThrough_19 rfl ?_
  refine g_putz hm fo_11_17 fp_11_17 pn_27 pc_27 rfl rfl dX11_goThrough_20 (fun m4 hm => ?_)
  refine g_aloadn_0 dX11_goThrough_23 ?_
  refine g_iconst 0 dX11_goThrough_24 rfl ?_
  refine g_put hm fo_11_14 fp_11_14 pn_27 pc_27 rfl dX11_goThrough_25 (fun m5 hm => ?_)
  refine g_aloadn_0 dX11_goThrough_28 ?_
  refine g_v0V hm (fun _ h => c_X11_clause HX h) pn_27 (pc_27 _ _) rfl ce_X11_clause lk_X11_195 rfl rfl dX11_goThrough_29 (fun m6 hm => ?_)
  refine g_weak (vs' := [some (.ref (g.ad 27)), none, none, none]) ⟨rfl, trivial⟩ ?_
  refine g_lp (I := fun (s : Sg) => GX g 75 RX11 cX11_goThrough 4 none none mm 32 [some (.ref (g.ad 27)), none, none, none] [] s) (E := fun (s : Sg) => GX g 75 RX11 cX11_goThrough 4 none none mm 66 [some (.ref (g.ad 27)), none, none, none] [] s) hm ?_ ?_
  · rintro m8 hm
    (try dsimp only at hm)
    (try dsimp only)
    refine g_aloadn_0 dX11_goThrough_66 ?_
    refine g_geti fo_11_11 pn_27 pc_27 rfl dX11_goThrough_67 ?_
    refine g_iconst (-1) dX11_goThrough_70 rfl ?_
    refine g_icmp_ne 87 hm dX11_goThrough_71 (by decide) (fun hm => ?_) (fun hm => ?_)
    · exact g_vret hm dX11_goThrough_87
    · refine g_aloadn_0 dX11_goThrough_74 ?_
      refine g_v0 hm (fun _ _ h => c_X11_look h) pn_27 (pc_27 _ _) rfl ce_X11_look lk_X11_122 rfl rfl dX11_goThrough_75 (fun x16 m15 hm => ?_)
      refine g_iconst (-1) dX11_goThrough_78 rfl ?_
      refine g_icmp_eq 87 hm dX11_goThrough_79 (by decide) (fun hm => ?_) (fun hm => ?_)
      · exact g_vret hm dX11_goThrough_87
      · refine g_aloadn_0 dX11_goThrough_82 ?_
        refine g_v0 hm (fun _ _ h => c_X11_fails h) pn_27 (pc_27 _ _) rfl ce_X11_fails lk_X11_118 rfl rfl dX11_goThrough_83 (fun x18 m17 hm => ?_)
        refine g_pop dX11_goThrough_86 rfl ?_
        exact g_vret hm dX11_goThrough_87
  · rintro m7 o hm hx10 hi9
    (try dsimp only [f_X11_goThrough_L32] at hm)
    (try dsimp only)
    refine g_aloadn_0 dX11_goThrough_32 ?_
    refine g_geti fo_11_11 pn_27 pc_27 rfl dX11_goThrough_33 ?_
    refine g_iconst (-1) dX11_goThrough_36 rfl ?_
    refine g_icmp_ne 66 hm dX11_goThrough_37 (by decide) (fun hm => ?_) (fun hm => ?_)
    · cases hm
      exact hx10 _ rfl
    · refine g_aloadn_0 dX11_goThrough_40 ?_
      refine g_v0 hm (fun _ _ h => c_X11_look h) pn_27 (pc_27 _ _) rfl ce_X11_look lk_X11_122 rfl rfl dX11_goThrough_41 (fun x12 m11 hm => ?_)
      refine g_bipush 59 dX11_goThrough_44 rfl ?_
      refine g_icmp_ne 66 hm dX11_goThrough_46 (by decide) (fun hm => ?_) (fun hm => ?_)
      · cases hm
        exact hx10 _ rfl
      · refine g_aloadn_0 dX11_goThrough_49 ?_
        refine g_dup dX11_goThrough_50 rfl ?_
        refine g_geti fo_11_10 pn_27 pc_27 rfl dX11_goThrough_51 ?_
        refine g_iconst 1 dX11_goThrough_54 rfl ?_
        refine g_iadd dX11_goThrough_55 ?_
        refine g_put hm fo_11_10 fp_11_10 pn_27 pc_27 rfl dX11_goThrough_56 (fun m13 hm => ?_)
        refine g_aloadn_0 dX11_goThrough_59 ?_
        refine g_v0V hm (fun _ h => c_X11_clause HX h) pn_27 (pc_27 _ _) rfl ce_X11_clause lk_X11_195 rfl rfl dX11_goThrough_60 (fun m14 hm => ?_)
        refine g_goto 32 dX11_goThrough_63 (by decide) ?_
        cases hm
        exact hi9 _ rfl
def f_X11_here  (m : Sg)  : Option (Int32 × Sg) :=
  (if (m.1 27 9) ≤ (m.1 27 10) then some ((-1), m) else
  if inr ((m.1 27 8) + (m.1 27 10)) (if m.1 27 5 = 0 then 240 else 960) = true then some ((m.1 (if m.1 27 5 = 0 then 28 else 29) ((m.1 27 8) + (m.1 27 10)).toNatClampNeg) &&& 255, m) else none)
set_option maxRecDepth 4000 in
theorem c_X11_here {g : Cf} {m mm : Sg} {r : Int32} (hm : f_X11_here  m  = some (r, mm)) : Cl g 0 yX11_here cX11_here 1 (some .int) [.ref (g.ad 27)] m (some (.int r)) mm := by
  refine cl_of (by decide) (Nat.le_of_ble_eq_true rfl) (vs := [some (.ref (g.ad 27))]) rfl rfl ?_
  show GX g 0 RX11 cX11_here 1 (some .int) (some (.int r)) mm 0 _ [] m
  unfold f_X11_here at hm
  refine g_aloadn_0 dX11_here_0 ?_
  refine g_geti fo_11_10 pn_27 pc_27 rfl dX11_here_1 ?_
  refine g_aloadn_0 dX11_here_4 ?_
  refine g_geti fo_11_9 pn_27 pc_27 rfl dX11_here_5 ?_
  refine g_icmp_ge 32 hm dX11_here_8 (by decide) (fun hm => ?_) (fun hm => ?_)
  · refine g_iconst (-1) dX11_here_32 rfl ?_
    exact g_iret hm dX11_here_33
  · refine g_aloadn_0 dX11_here_11 ?_
    refine g_gett fo_11_5 pn_27 pc_27 rfl dX11_here_12 ?_
    refine g_aloadn_0 dX11_here_15 ?_
    refine g_geti fo_11_8 pn_27 pc_27 rfl dX11_here_16 ?_
    refine g_aloadn_0 dX11_here_19 ?_
    refine g_geti fo_11_10 pn_27 pc_27 rfl dX11_here_20 ?_
    refine g_iadd dX11_here_23 ?_
    refine g_baload hm (ar_txt (m.1 27 5)).1 (ar_txt (m.1 27 5)).2 dX11_here_24 (fun hm => ?_)
    refine g_sipush 255 dX11_here_25 rfl ?_
    refine g_iand dX11_here_28 ?_
    refine g_goto 33 dX11_here_29 (by decide) ?_
    exact g_iret hm dX11_here_33
def f_X11_spotOf_L2 (k : Nat) (a1 : Int32) : (Sg × Int32) → Option (((Sg × Int32) ⊕ (Sg)) ⊕ (Sg × Int32)) := fun s => match s with
  | (m1, x2) => 
  cal (f_J0_length_8abf5 k m1) (fun x9 m8 => (if x9 ≤ x2 then some (.inl (.inr m8)) else
  cal (f_J0_charAt_5068e k m8 x2) (fun x11 m10 => (if x11 = a1 then some (.inl (.inl (m10, x2))) else
  bnd (x2 + 1) (fun x12 => some (.inr (m10, x12)))))))
def f_X11_spotOf (k : Nat) (m : Sg) (a1 : Int32) : Option (Int32 × Sg) :=
  lpk (f_X11_spotOf_L2 k a1) (m, 0) (fun x => match x with
  | .inl (m3, x4) => some (x4, m3)
  | .inr m5 => some ((-1), m5))
set_option maxRecDepth 4000 in
theorem c_X11_spotOf {g : Cf} {m mm : Sg} {r : Int32} {k : Nat} {a1 : Int32} (HX : XOK g) (Hk : k < 5) (hm : f_X11_spotOf k m a1 = some (r, mm)) : Cl g 4 yX11_spotOf cX11_spotOf 3 (some .int) [.ref (g.sa k), .int a1] m (some (.int r)) mm := by
  refine cl_of (by decide) (Nat.le_of_ble_eq_true rfl) (vs := [some (.ref (g.sa k)), some (.int a1), none]) rfl rfl ?_
  show GX g 4 RX11 cX11_spotOf 3 (some .int) (some (.int r)) mm 0 _ [] m
  unfold f_X11_spotOf at hm
  refine g_iconst 0 dX11_spotOf_0 rfl ?_
  refine g_istoren_2 dX11_spotOf_1 rfl ?_
  refine g_lp (I := fun (s : Sg × Int32) => GX g 4 RX11 cX11_spotOf 3 (some .int) (some (.int r)) mm 2 [some (.ref (g.sa k)), some (.int a1), some (.int (s.2))] [] s.1) (E := fun (x : (Sg × Int32) ⊕ (Sg)) => match x with | .inl (m3, x4) => GX g 4 RX11 cX11_spotOf 3 (some .int) (some (.int r)) mm 19 [none, none, some (.int x4)] [] m3 | .inr m5 => GX g 4 RX11 cX11_spotOf 3 (some .int) (some (.int r)) mm 27 [none, none, none] [] m5) hm ?_ ?_
  · rintro (⟨m3, x4⟩ | m5) hm
    · (try dsimp only at hm)
      (try dsimp only)
      refine g_iloadn_2 dX11_spotOf_19 ?_
      exact g_iret hm dX11_spotOf_20
    · (try dsimp only at hm)
      (try dsimp only)
      refine g_iconst (-1) dX11_spotOf_27 rfl ?_
      exact g_iret hm dX11_spotOf_28
  · rintro ⟨m1, x2⟩ o hm hx7 hi6
    (try dsimp only [f_X11_spotOf_L2] at hm)
    (try dsimp only)
    refine g_iloadn_2 dX11_spotOf_2 ?_
    refine g_aloadn_0 dX11_spotOf_3 ?_
    refine g_w0 hm (fun _ _ h => c_J0_length_8abf5 HX Hk h) HX Hk ce_J0_length_8abf5 lk_X11_83 rfl rfl dX11_spotOf_4 (fun x9 m8 hm => ?_)
    refine g_icmp_ge 27 hm dX11_spotOf_7 (by decide) (fun hm => ?_) (fun hm => ?_)
    · refine g_weak (vs' := [none, none, none]) trivial ?_
      cases hm
      exact hx7 _ rfl
    · refine g_aloadn_0 dX11_spotOf_10 ?_
      refine g_iloadn_2 dX11_spotOf_11 ?_
      refine g_w1 hm (fun _ _ h => c_J0_charAt_5068e HX Hk h) HX Hk ce_J0_charAt_5068e lk_X11_89 rfl rfl dX11_spotOf_12 (fun x11 m10 hm => ?_)
      refine g_iloadn_1 dX11_spotOf_15 ?_
      refine g_icmp_ne 21 hm dX11_spotOf_16 (by decide) (fun hm => ?_) (fun hm => ?_)
      · refine g_iinc_2 1 hm dX11_spotOf_21 rfl rfl (fun x12 hm => ?_)
        refine g_goto 2 dX11_spotOf_24 (by decide) ?_
        cases hm
        exact hi6 _ rfl
      · refine g_weak (vs' := [none, none, some (.int x2)]) ⟨rfl, trivial⟩ ?_
        cases hm
        exact hx7 _ rfl
def f_X11_readItem (w : Nat) (n : Nat) (m : Sg) (a1 : Int32) (a2 : Int32) (a3 : Int32) : Option (Sg) :=
  bnd (wr m 27 10 ((m.1 27 10) + 1)) (fun m1 => cal (f_X11_look m1) (fun x3 m2 => cal (f_X11_isDigit m2) (fun x5 m4 => (if x5 = 0 then cal (f_X11_fails m4) (fun x28 m27 => some m27) else
  bnd (x3 - 48) (fun x6 => bnd (wr m4 27 10 ((m4.1 27 10) + 1)) (fun m7 => cal (f_X11_isDigit m7) (fun x9 m8 => bnd (fun ((m10, x11) : Sg × Int32) => cal (f_X11_isDigit m10) (fun x14 m13 => (if x14 = 0 then cal (f_X11_isIn m13 ((x11 : Int32).toInt64) ((a2 : Int32).toInt64) ((a3 : Int32).toInt64)) (fun x16 m15 => (if x16 = 0 then bnd (wr m15 27 10 ((m15.1 27 10) - 1)) (fun m18 => cal (f_X11_fails m18) (fun x20 m19 => some m19)) else
  if inr a1 n = true then bnd (wr m15 w a1.toNatClampNeg x11) (fun m17 => some m17) else none)) else
  cal (f_X11_fails m13) (fun x22 m21 => some m21)))) (fun (k12 : Sg × Int32 → Option (Sg)) =>
  (if x9 = 0 then k12 (m8, x6) else
  cal (f_X11_here m8) (fun x24 m23 => bnd (((10 * x6) + x24) - 48) (fun x25 => bnd (wr m23 27 10 ((m23.1 27 10) + 1)) (fun m26 => k12 (m26, x25)))))))))))))
set_option maxRecDepth 4000 in
theorem c_X11_readItem {g : Cf} {m mm : Sg} {w : Nat} {n : Nat} {a1 : Int32} {a2 : Int32} {a3 : Int32} (Hw : ARR g w n 0) (hm : f_X11_readItem w n m a1 a2 a3 = some mm) : Cl g 1 yX11_readItem cX11_readItem 7 none [.ref (g.ad 27), .ref (g.ad w), .int a1, .int a2, .int a3] m none mm := by
  refine cl_of (by decide) (Nat.le_of_ble_eq_true rfl) (vs := [some (.ref (g.ad 27)), some (.ref (g.ad w)), some (.int a1), some (.int a2), some (.int a3), none, none]) rfl rfl ?_
  show GX g 1 RX11 cX11_readItem 7 none none mm 0 _ [] m
  unfold f_X11_readItem at hm
  refine g_aloadn_0 dX11_readItem_0 ?_
  refine g_dup dX11_readItem_1 rfl ?_
  refine g_geti fo_11_10 pn_27 pc_27 rfl dX11_readItem_2 ?_
  refine g_iconst 1 dX11_readItem_5 rfl ?_
  refine g_iadd dX11_readItem_6 ?_
  refine g_put hm fo_11_10 fp_11_10 pn_27 pc_27 rfl dX11_readItem_7 (fun m1 hm => ?_)
  refine g_aloadn_0 dX11_readItem_10 ?_
  refine g_v0 hm (fun _ _ h => c_X11_look h) pn_27 (pc_27 _ _) rfl ce_X11_look lk_X11_122 rfl rfl dX11_readItem_11 (fun x3 m2 hm => ?_)
  refine g_istore_5 dX11_readItem_14 rfl ?_
  refine g_aloadn_0 dX11_readItem_16 ?_
  refine g_v0 hm (fun _ _ h => c_X11_isDigit h) pn_27 (pc_27 _ _) rfl ce_X11_isDigit lk_X11_152 rfl rfl dX11_readItem_17 (fun x5 m4 hm => ?_)
  refine g_if_ne 29 hm dX11_readItem_20 (by decide) (fun hm => ?_) (fun hm => ?_)
  · refine g_iload_5 dX11_readItem_29 ?_
    refine g_bipush 48 dX11_readItem_31 rfl ?_
    refine g_isub dX11_readItem_33 ?_
    refine g_istoreB_6 hm dX11_readItem_34 rfl (fun x6 hm => ?_)
    refine g_aloadn_0 dX11_readItem_36 ?_
    refine g_dup dX11_readItem_37 rfl ?_
    refine g_geti fo_11_10 pn_27 pc_27 rfl dX11_readItem_38 ?_
    refine g_iconst 1 dX11_readItem_41 rfl ?_
    refine g_iadd dX11_readItem_42 ?_
    refine g_put hm fo_11_10 fp_11_10 pn_27 pc_27 rfl dX11_readItem_43 (fun m7 hm => ?_)
    refine g_aloadn_0 dX11_readItem_46 ?_
    refine g_v0 hm (fun _ _ h => c_X11_isDigit h) pn_27 (pc_27 _ _) rfl ce_X11_isDigit lk_X11_152 rfl rfl dX11_readItem_47 (fun x9 m8 hm => ?_)
    refine g_jn (J := fun (s : Sg × Int32) => GX g 1 RX11 cX11_readItem 7 none none mm 78 [some (.ref (g.ad 27)), some (.ref (g.ad w)), some (.int a1), some (.int a2), some (.int a3), none, some (.int (s.2))] [] s.1) hm ?_ ?_
    · rintro ⟨m10, x11⟩ hm
      (try dsimp only at hm)
      (try dsimp only)
      refine g_aloadn_0 dX11_readItem_78 ?_
      refine g_v0 hm (fun _ _ h => c_X11_isDigit h) pn_27 (pc_27 _ _) rfl ce_X11_isDigit lk_X11_152 rfl rfl dX11_readItem_79 (fun x14 m13 hm => ?_)
      refine g_if_eq 91 hm dX11_readItem_82 (by decide) (fun hm => ?_) (fun hm => ?_)
      · refine g_iload_6 dX11_readItem_91 ?_
        refine g_i2l dX11_readItem_93 ?_
        refine g_iloadn_3 dX11_readItem_94 ?_
        refine g_i2l dX11_readItem_95 ?_
        refine g_iload_4 dX11_readItem_96 ?_
        refine g_i2l dX11_readItem_98 ?_
        refine g_s3 hm (fun _ _ h => c_X11_isIn h) ce_X11_isIn lk_X11_201 rfl rfl dX11_readItem_99 (fun x16 m15 hm => ?_)
        refine g_if_ne 121 hm dX11_readItem_102 (by decide) (fun hm => ?_) (fun hm => ?_)
        · refine g_aloadn_1 dX11_readItem_121 ?_
          refine g_iloadn_2 dX11_readItem_122 ?_
          refine g_iload_6 dX11_readItem_123 ?_
          refine g_iastore hm Hw.1 Hw.2 dX11_readItem_125 (fun m17 hm => ?_)
          exact g_vret hm dX11_readItem_126
        · refine g_aloadn_0 dX11_readItem_105 ?_
          refine g_dup dX11_readItem_106 rfl ?_
          refine g_geti fo_11_10 pn_27 pc_27 rfl dX11_readItem_107 ?_
          refine g_iconst 1 dX11_readItem_110 rfl ?_
          refine g_isub dX11_readItem_111 ?_
          refine g_put hm fo_11_10 fp_11_10 pn_27 pc_27 rfl dX11_readItem_112 (fun m18 hm => ?_)
          refine g_aloadn_0 dX11_readItem_115 ?_
          refine g_v0 hm (fun _ _ h => c_X11_fails h) pn_27 (pc_27 _ _) rfl ce_X11_fails lk_X11_118 rfl rfl dX11_readItem_116 (fun x20 m19 hm => ?_)
          refine g_pop dX11_readItem_119 rfl ?_
          exact g_vret hm dX11_readItem_120
      · refine g_aloadn_0 dX11_readItem_85 ?_
        refine g_v0 hm (fun _ _ h => c_X11_fails h) pn_27 (pc_27 _ _) rfl ce_X11_fails lk_X11_118 rfl rfl dX11_readItem_86 (fun x22 m21 hm => ?_)
        refine g_pop dX11_readItem_89 rfl ?_
        exact g_vret hm dX11_readItem_90
    · intro k12 hk12 hm
      refine g_if_eq 78 hm dX11_readItem_50 (by decide) (fun hm => ?_) (fun hm => ?_)
      · refine g_weak (vs' := [some (.ref (g.ad 27)), some (.ref (g.ad w)), some (.int a1), some (.int a2), some (.int a3), none, some (.int x6)]) ⟨rfl, ⟨rfl, ⟨rfl, ⟨rfl, ⟨rfl, ⟨rfl, trivial⟩⟩⟩⟩⟩⟩ ?_
        exact hk12 _ hm
      · refine g_bipush 10 dX11_readItem_53 rfl ?_
        refine g_iload_6 dX11_readItem_55 ?_
        refine g_imul dX11_readItem_57 ?_
        refine g_aloadn_0 dX11_readItem_58 ?_
        refine g_v0 hm (fun _ _ h => c_X11_here h) pn_27 (pc_27 _ _) rfl ce_X11_here lk_X11_198 rfl rfl dX11_readItem_59 (fun x24 m23 hm => ?_)
        refine g_iadd dX11_readItem_62 ?_
        refine g_bipush 48 dX11_readItem_63 rfl ?_
        refine g_isub dX11_readItem_65 ?_
        refine g_istoreB_6 hm dX11_readItem_66 rfl (fun x25 hm => ?_)
        refine g_aloadn_0 dX11_readItem_68 ?_
        refine g_dup dX11_readItem_69 rfl ?_
        refine g_geti fo_11_10 pn_27 pc_27 rfl dX11_readItem_70 ?_
        refine g_iconst 1 dX11_readItem_73 rfl ?_
        refine g_iadd dX11_readItem_74 ?_
        refine g_put hm fo_11_10 fp_11_10 pn_27 pc_27 rfl dX11_readItem_75 (fun m26 hm => ?_)
        refine g_weak (vs' := [some (.ref (g.ad 27)), some (.ref (g.ad w)), some (.int a1), some (.int a2), some (.int a3), none, some (.int x25)]) ⟨rfl, ⟨rfl, ⟨rfl, ⟨rfl, ⟨rfl, ⟨rfl, trivial⟩⟩⟩⟩⟩⟩ ?_
        exact hk12 _ hm
  · refine g_aloadn_0 dX11_readItem_23 ?_
    refine g_v0 hm (fun _ _ h => c_X11_fails h) pn_27 (pc_27 _ _) rfl ce_X11_fails lk_X11_118 rfl rfl dX11_readItem_24 (fun x28 m27 hm => ?_)
    refine g_pop dX11_readItem_27 rfl ?_
    exact g_vret hm dX11_readItem_28
def f_X11_mostOf  (m : Sg) (a1 : Int32) (a2 : Int32) : Option (Int32 × Sg) :=
  (if a1 = 101 then (if a2 = 0 then some (99, m) else
  some (9, m)) else
  (if a1 = 114 then (if a2 = 0 then some (99, m) else
  some (9, m)) else
  (if a2 = 0 then some (99, m) else
  (if a2 = 3 then some (4, m) else
  (if a2 = 5 then some (3, m) else
  some (9, m))))))
set_option maxRecDepth 4000 in
theorem c_X11_mostOf {g : Cf} {m mm : Sg} {r : Int32} {a1 : Int32} {a2 : Int32} (hm : f_X11_mostOf  m a1 a2 = some (r, mm)) : Cl g 0 yX11_mostOf cX11_mostOf 2 (some .int) [.int a1, .int a2] m (some (.int r)) mm := by
  refine cl_of (by decide) (Nat.le_of_ble_eq_true rfl) (vs := [some (.int a1), some (.int a2)]) rfl rfl ?_
  show GX g 0 RX11 cX11_mostOf 2 (some .int) (some (.int r)) mm 0 _ [] m
  unfold f_X11_mostOf at hm
  refine g_iloadn_0 dX11_mostOf_0 ?_
  refine g_bipush 101 dX11_mostOf_1 rfl ?_
  refine g_icmp_ne 18 hm dX11_mostOf_3 (by decide) (fun hm => ?_) (fun hm => ?_)
  · refine g_iloadn_0 dX11_mostOf_18 ?_
    refine g_bipush 114 dX11_mostOf_19 rfl ?_
    refine g_icmp_ne 36 hm dX11_mostOf_21 (by decide) (fun hm => ?_) (fun hm => ?_)
    · refine g_iloadn_1 dX11_mostOf_36 ?_
      refine g_if_ne 45 hm dX11_mostOf_37 (by decide) (fun hm => ?_) (fun hm => ?_)
      · refine g_iloadn_1 dX11_mostOf_45 ?_
        refine g_iconst 3 dX11_mostOf_46 rfl ?_
        refine g_icmp_ne 54 hm dX11_mostOf_47 (by decide) (fun hm => ?_) (fun hm => ?_)
        · refine g_iloadn_1 dX11_mostOf_54 ?_
          refine g_iconst 5 dX11_mostOf_55 rfl ?_
          refine g_icmp_ne 63 hm dX11_mostOf_56 (by decide) (fun hm => ?_) (fun hm => ?_)
          · refine g_bipush 9 dX11_mostOf_63 rfl ?_
            exact g_iret hm dX11_mostOf_65
          · refine g_iconst 3 dX11_mostOf_59 rfl ?_
            refine g_goto 65 dX11_mostOf_60 (by decide) ?_
            exact g_iret hm dX11_mostOf_65
        · refine g_iconst 4 dX11_mostOf_50 rfl ?_
          refine g_goto 65 dX11_mostOf_51 (by decide) ?_
          exact g_iret hm dX11_mostOf_65
      · refine g_bipush 99 dX11_mostOf_40 rfl ?_
        refine g_goto 65 dX11_mostOf_42 (by decide) ?_
        exact g_iret hm dX11_mostOf_65
    · refine g_iloadn_1 dX11_mostOf_24 ?_
      refine g_if_ne 33 hm dX11_mostOf_25 (by decide) (fun hm => ?_) (fun hm => ?_)
      · refine g_bipush 9 dX11_mostOf_33 rfl ?_
        exact g_iret hm dX11_mostOf_35
      · refine g_bipush 99 dX11_mostOf_28 rfl ?_
        refine g_goto 35 dX11_mostOf_30 (by decide) ?_
        exact g_iret hm dX11_mostOf_35
  · refine g_iloadn_1 dX11_mostOf_6 ?_
    refine g_if_ne 15 hm dX11_mostOf_7 (by decide) (fun hm => ?_) (fun hm => ?_)
    · refine g_bipush 9 dX11_mostOf_15 rfl ?_
      exact g_iret hm dX11_mostOf_17
    · refine g_bipush 99 dX11_mostOf_10 rfl ?_
      refine g_goto 17 dX11_mostOf_12 (by decide) ?_
      exact g_iret hm dX11_mostOf_17
def f_X11_leastOf  (m : Sg) (a1 : Int32) (a2 : Int32) : Option (Int32 × Sg) :=
  bnd (fun (m1 : Sg) => some (1, m1)) (fun (k2 : Sg → Option (Int32 × Sg)) =>
  bnd (fun (m3 : Sg) => (if a1 = 114 then (if 2 ≤ a2 then some (0, m3) else
  k2 m3) else
  some (0, m3))) (fun (k4 : Sg → Option (Int32 × Sg)) =>
  (if a1 = 99 then (if 3 < a2 then k2 m else
  k4 m) else
  k4 m)))
set_option maxRecDepth 4000 in
theorem c_X11_leastOf {g : Cf} {m mm : Sg} {r : Int32} {a1 : Int32} {a2 : Int32} (hm : f_X11_leastOf  m a1 a2 = some (r, mm)) : Cl g 0 yX11_leastOf cX11_leastOf 2 (some .int) [.int a1, .int a2] m (some (.int r)) mm := by
  refine cl_of (by decide) (Nat.le_of_ble_eq_true rfl) (vs := [some (.int a1), some (.int a2)]) rfl rfl ?_
  show GX g 0 RX11 cX11_leastOf 2 (some .int) (some (.int r)) mm 0 _ [] m
  unfold f_X11_leastOf at hm
  refine g_iloadn_0 dX11_leastOf_0 ?_
  refine g_bipush 99 dX11_leastOf_1 rfl ?_
  refine g_jn (J := fun (s : Sg) => GX g 0 RX11 cX11_leastOf 2 (some .int) (some (.int r)) mm 22 [none, none] [] s) hm ?_ ?_
  · intro m1 hm
    refine g_iconst 1 dX11_leastOf_22 rfl ?_
    refine g_goto 27 dX11_leastOf_23 (by decide) ?_
    exact g_iret hm dX11_leastOf_27
  · intro k2 hk2 hm
    refine g_jn (J := fun (s : Sg) => GX g 0 RX11 cX11_leastOf 2 (some .int) (some (.int r)) mm 11 [some (.int a1), some (.int a2)] [] s) hm ?_ ?_
    · intro m3 hm
      refine g_iloadn_0 dX11_leastOf_11 ?_
      refine g_bipush 114 dX11_leastOf_12 rfl ?_
      refine g_icmp_ne 26 hm dX11_leastOf_14 (by decide) (fun hm => ?_) (fun hm => ?_)
      · refine g_iconst 0 dX11_leastOf_26 rfl ?_
        exact g_iret hm dX11_leastOf_27
      · refine g_iloadn_1 dX11_leastOf_17 ?_
        refine g_iconst 2 dX11_leastOf_18 rfl ?_
        refine g_icmp_ge 26 hm dX11_leastOf_19 (by decide) (fun hm => ?_) (fun hm => ?_)
        · refine g_iconst 0 dX11_leastOf_26 rfl ?_
          exact g_iret hm dX11_leastOf_27
        · refine g_weak (vs' := [none, none]) trivial ?_
          exact hk2 _ hm
    · intro k4 hk4 hm
      refine g_icmp_ne 11 hm dX11_leastOf_3 (by decide) (fun hm => ?_) (fun hm => ?_)
      · exact hk4 _ hm
      · refine g_iloadn_1 dX11_leastOf_6 ?_
        refine g_iconst 3 dX11_leastOf_7 rfl ?_
        refine g_icmp_gt 22 hm dX11_leastOf_8 (by decide) (fun hm => ?_) (fun hm => ?_)
        · refine g_weak (vs' := [none, none]) trivial ?_
          exact hk2 _ hm
        · exact hk4 _ hm
def f_X11_usual  (m : Sg) (a1 : Int32) (a2 : Int32) : Option (Int32 × Sg) :=
  (if a1 = 101 then (if a2 = 0 then some (70, m) else
  (if a2 = 1 then some (0, m) else
  some (9, m))) else
  (if a1 = 114 then (if a2 = 0 then some (90, m) else
  (if a2 = 1 then some (9, m) else
  some (1, m))) else
  (if a2 = 0 then some (40, m) else
  (if a2 = 2 then some (9, m) else
  (if a2 = 4 then some (2, m) else
  (if a2 = 5 then some (1, m) else
  some (0, m)))))))
set_option maxRecDepth 4000 in
theorem c_X11_usual {g : Cf} {m mm : Sg} {r : Int32} {a1 : Int32} {a2 : Int32} (hm : f_X11_usual  m a1 a2 = some (r, mm)) : Cl g 0 yX11_usual cX11_usual 2 (some .int) [.int a1, .int a2] m (some (.int r)) mm := by
  refine cl_of (by decide) (Nat.le_of_ble_eq_true rfl) (vs := [some (.int a1), some (.int a2)]) rfl rfl ?_
  show GX g 0 RX11 cX11_usual 2 (some .int) (some (.int r)) mm 0 _ [] m
  unfold f_X11_usual at hm
  refine g_iloadn_0 dX11_usual_0 ?_
  refine g_bipush 101 dX11_usual_1 rfl ?_
  refine g_icmp_ne 27 hm dX11_usual_3 (by decide) (fun hm => ?_) (fun hm => ?_)
  · refine g_iloadn_0 dX11_usual_27 ?_
    refine g_bipush 114 dX11_usual_28 rfl ?_
    refine g_icmp_ne 54 hm dX11_usual_30 (by decide) (fun hm => ?_) (fun hm => ?_)
    · refine g_iloadn_1 dX11_usual_54 ?_
      refine g_if_ne 63 hm dX11_usual_55 (by decide) (fun hm => ?_) (fun hm => ?_)
      · refine g_iloadn_1 dX11_usual_63 ?_
        refine g_iconst 2 dX11_usual_64 rfl ?_
        refine g_icmp_ne 73 hm dX11_usual_65 (by decide) (fun hm => ?_) (fun hm => ?_)
        · refine g_iloadn_1 dX11_usual_73 ?_
          refine g_iconst 4 dX11_usual_74 rfl ?_
          refine g_icmp_ne 82 hm dX11_usual_75 (by decide) (fun hm => ?_) (fun hm => ?_)
          · refine g_iloadn_1 dX11_usual_82 ?_
            refine g_iconst 5 dX11_usual_83 rfl ?_
            refine g_icmp_ne 91 hm dX11_usual_84 (by decide) (fun hm => ?_) (fun hm => ?_)
            · refine g_iconst 0 dX11_usual_91 rfl ?_
              exact g_iret hm dX11_usual_92
            · refine g_iconst 1 dX11_usual_87 rfl ?_
              refine g_goto 92 dX11_usual_88 (by decide) ?_
              exact g_iret hm dX11_usual_92
          · refine g_iconst 2 dX11_usual_78 rfl ?_
            refine g_goto 92 dX11_usual_79 (by decide) ?_
            exact g_iret hm dX11_usual_92
        · refine g_bipush 9 dX11_usual_68 rfl ?_
          refine g_goto 92 dX11_usual_70 (by decide) ?_
          exact g_iret hm dX11_usual_92
      · refine g_bipush 40 dX11_usual_58 rfl ?_
        refine g_goto 92 dX11_usual_60 (by decide) ?_
        exact g_iret hm dX11_usual_92
    · refine g_iloadn_1 dX11_usual_33 ?_
      refine g_if_ne 42 hm dX11_usual_34 (by decide) (fun hm => ?_) (fun hm => ?_)
      · refine g_iloadn_1 dX11_usual_42 ?_
        refine g_iconst 1 dX11_usual_43 rfl ?_
        refine g_icmp_ne 52 hm dX11_usual_44 (by decide) (fun hm => ?_) (fun hm => ?_)
        · refine g_iconst 1 dX11_usual_52 rfl ?_
          exact g_iret hm dX11_usual_53
        · refine g_bipush 9 dX11_usual_47 rfl ?_
          refine g_goto 53 dX11_usual_49 (by decide) ?_
          exact g_iret hm dX11_usual_53
      · refine g_bipush 90 dX11_usual_37 rfl ?_
        refine g_goto 53 dX11_usual_39 (by decide) ?_
        exact g_iret hm dX11_usual_53
  · refine g_iloadn_1 dX11_usual_6 ?_
    refine g_if_ne 15 hm dX11_usual_7 (by decide) (fun hm => ?_) (fun hm => ?_)
    · refine g_iloadn_1 dX11_usual_15 ?_
      refine g_iconst 1 dX11_usual_16 rfl ?_
      refine g_icmp_ne 24 hm dX11_usual_17 (by decide) (fun hm => ?_) (fun hm => ?_)
      · refine g_bipush 9 dX11_usual_24 rfl ?_
        exact g_iret hm dX11_usual_26
      · refine g_iconst 0 dX11_usual_20 rfl ?_
        refine g_goto 26 dX11_usual_21 (by decide) ?_
        exact g_iret hm dX11_usual_26
    · refine g_bipush 70 dX11_usual_10 rfl ?_
      refine g_goto 26 dX11_usual_12 (by decide) ?_
      exact g_iret hm dX11_usual_26
def f_X11_readItems_L3 (w : Nat) (n : Nat) (k : Nat) (a1 : Int32) (a2 : Int32) : (Sg × Int32) → Option (((Sg)) ⊕ (Sg × Int32)) := fun s => match s with
  | (m1, x2) => 
  cal (f_J0_length_8abf5 k m1) (fun x7 m6 => (if x7 ≤ x2 then some (.inl m6) else
  cal (f_X11_usual m6 a1 x2) (fun x9 m8 => if inr (a2 + x2) n = true then bnd (wr m8 w (a2 + x2).toNatClampNeg x9) (fun m10 => bnd (x2 + 1) (fun x11 => some (.inr (m10, x11)))) else none)))
def f_X11_readItems_L45 (w : Nat) (n : Nat) (k : Nat) (a1 : Int32) (a2 : Int32) : (Sg × Int32 × Int32) → Option (((Sg) ⊕ (Sg)) ⊕ (Sg × Int32 × Int32)) := fun s => match s with
  | (m16, x17, x18) => 
  (if x18 = (-1) then some (.inl (.inr m16)) else
  (if (m16.1 27 11) = (-1) then cal (f_X11_has m16 x17 x18) (fun x24 m23 => (if x24 = 0 then bnd (x17 ||| (1 <<< (x18 &&& 31))) (fun x25 => cal (f_X11_leastOf m23 a1 x18) (fun x27 m26 => cal (f_X11_mostOf m26 a1 x18) (fun x29 m28 => calv (f_X11_readItem w n m28 (a2 + x18) x27 x29) (fun m30 => (if (m30.1 27 11) = (-1) then cal (f_X11_look m30) (fun x32 m31 => cal (f_X11_spotOf k m31 x32) (fun x34 m33 => some (.inr (m33, x25, x34)))) else
  some (.inr (m30, x25, x18))))))) else
  some (.inl (.inl m23)))) else
  some (.inl (.inr m16))))
def f_X11_readItems (w : Nat) (n : Nat) (k : Nat) (m : Sg) (a1 : Int32) (a2 : Int32) : Option (Sg) :=
  lpk (f_X11_readItems_L3 w n k a1 a2) (m, 0) (fun m3 => cal (f_X11_look m3) (fun x13 m12 => cal (f_X11_spotOf k m12 x13) (fun x15 m14 => lpk (f_X11_readItems_L45 w n k a1 a2) (m14, 0, x15) (fun x => match x with
  | .inl m19 => cal (f_X11_fails m19) (fun x36 m35 => some m35)
  | .inr m20 => some m20))))
set_option maxRecDepth 4000 in
theorem c_X11_readItems {g : Cf} {m mm : Sg} {w : Nat} {n : Nat} {k : Nat} {a1 : Int32} {a2 : Int32} (HX : XOK g) (Hw : ARR g w n 0) (Hk : k < 5) (hm : f_X11_readItems w n k m a1 a2 = some mm) : Cl g 5 yX11_readItems cX11_readItems 7 none [.ref (g.ad 27), .int a1, .ref (g.ad w), .int a2, .ref (g.sa k)] m none mm := by
  refine cl_of (by decide) (Nat.le_of_ble_eq_true rfl) (vs := [some (.ref (g.ad 27)), some (.int a1), some (.ref (g.ad w)), some (.int a2), some (.ref (g.sa k)), none, none]) rfl rfl ?_
  show GX g 5 RX11 cX11_readItems 7 none none mm 0 _ [] m
  unfold f_X11_readItems at hm
  refine g_iconst 0 dX11_readItems_0 rfl ?_
  refine g_istore_5 dX11_readItems_1 rfl ?_
  refine g_lp (I := fun (s : Sg × Int32) => GX g 5 RX11 cX11_readItems 7 none none mm 3 [some (.ref (g.ad 27)), some (.int a1), some (.ref (g.ad w)), some (.int a2), some (.ref (g.sa k)), some (.int (s.2)), none] [] s.1) (E := fun (s : Sg) => GX g 5 RX11 cX11_readItems 7 none none mm 31 [some (.ref (g.ad 27)), some (.int a1), some (.ref (g.ad w)), some (.int a2), some (.ref (g.sa k)), none, none] [] s) hm ?_ ?_
  · rintro m3 hm
    (try dsimp only at hm)
    (try dsimp only)
    refine g_iconst 0 dX11_readItems_31 rfl ?_
    refine g_istore_5 dX11_readItems_32 rfl ?_
    refine g_aload_4 dX11_readItems_34 ?_
    refine g_aloadn_0 dX11_readItems_36 ?_
    refine g_v0 hm (fun _ _ h => c_X11_look h) pn_27 (pc_27 _ _) rfl ce_X11_look lk_X11_122 rfl rfl dX11_readItems_37 (fun x13 m12 hm => ?_)
    refine g_s2 hm (fun _ _ h => c_X11_spotOf HX Hk h) ce_X11_spotOf lk_X11_209 rfl rfl dX11_readItems_40 (fun x15 m14 hm => ?_)
    refine g_istore_6 dX11_readItems_43 rfl ?_
    refine g_lp (I := fun (s : Sg × Int32 × Int32) => GX g 5 RX11 cX11_readItems 7 none none mm 45 [some (.ref (g.ad 27)), some (.int a1), some (.ref (g.ad w)), some (.int a2), some (.ref (g.sa k)), some (.int (s.2.1)), some (.int (s.2.2))] [] s.1) (E := fun (x : (Sg) ⊕ (Sg)) => match x with | .inl m19 => GX g 5 RX11 cX11_readItems 7 none none mm 69 [some (.ref (g.ad 27)), none, none, none, none, none, none] [] m19 | .inr m20 => GX g 5 RX11 cX11_readItems 7 none none mm 127 [none, none, none, none, none, none, none] [] m20) hm ?_ ?_
    · rintro (m19 | m20) hm
      · (try dsimp only at hm)
        (try dsimp only)
        refine g_aloadn_0 dX11_readItems_69 ?_
        refine g_v0 hm (fun _ _ h => c_X11_fails h) pn_27 (pc_27 _ _) rfl ce_X11_fails lk_X11_118 rfl rfl dX11_readItems_70 (fun x36 m35 hm => ?_)
        refine g_pop dX11_readItems_73 rfl ?_
        exact g_vret hm dX11_readItems_74
      · (try dsimp only at hm)
        (try dsimp only)
        exact g_vret hm dX11_readItems_127
    · rintro ⟨m16, x17, x18⟩ o hm hx22 hi21
      (try dsimp only [f_X11_readItems_L45] at hm)
      (try dsimp only)
      refine g_iload_6 dX11_readItems_45 ?_
      refine g_iconst (-1) dX11_readItems_47 rfl ?_
      refine g_icmp_eq 127 hm dX11_readItems_48 (by decide) (fun hm => ?_) (fun hm => ?_)
      · refine g_weak (vs' := [none, none, none, none, none, none, none]) trivial ?_
        cases hm
        exact hx22 _ rfl
      · refine g_aloadn_0 dX11_readItems_51 ?_
        refine g_geti fo_11_11 pn_27 pc_27 rfl dX11_readItems_52 ?_
        refine g_iconst (-1) dX11_readItems_55 rfl ?_
        refine g_icmp_ne 127 hm dX11_readItems_56 (by decide) (fun hm => ?_) (fun hm => ?_)
        · refine g_weak (vs' := [none, none, none, none, none, none, none]) trivial ?_
          cases hm
          exact hx22 _ rfl
        · refine g_iload_5 dX11_readItems_59 ?_
          refine g_iload_6 dX11_readItems_61 ?_
          refine g_s2 hm (fun _ _ h => c_X11_has h) ce_X11_has lk_X11_213 rfl rfl dX11_readItems_63 (fun x24 m23 hm => ?_)
          refine g_if_eq 75 hm dX11_readItems_66 (by decide) (fun hm => ?_) (fun hm => ?_)
          · refine g_iload_5 dX11_readItems_75 ?_
            refine g_iconst 1 dX11_readItems_77 rfl ?_
            refine g_iload_6 dX11_readItems_78 ?_
            refine g_ishl dX11_readItems_80 ?_
            refine g_ior dX11_readItems_81 ?_
            refine g_istoreB_5 hm dX11_readItems_82 rfl (fun x25 hm => ?_)
            refine g_aloadn_0 dX11_readItems_84 ?_
            refine g_aloadn_2 dX11_readItems_85 ?_
            refine g_iloadn_3 dX11_readItems_86 ?_
            refine g_iload_6 dX11_readItems_87 ?_
            refine g_iadd dX11_readItems_89 ?_
            refine g_iloadn_1 dX11_readItems_90 ?_
            refine g_iload_6 dX11_readItems_91 ?_
            refine g_s2 hm (fun _ _ h => c_X11_leastOf h) ce_X11_leastOf lk_X11_217 rfl rfl dX11_readItems_93 (fun x27 m26 hm => ?_)
            refine g_iloadn_1 dX11_readItems_96 ?_
            refine g_iload_6 dX11_readItems_97 ?_
            refine g_s2 hm (fun _ _ h => c_X11_mostOf h) ce_X11_mostOf lk_X11_220 rfl rfl dX11_readItems_99 (fun x29 m28 hm => ?_)
            refine g_v4V hm (fun _ h => c_X11_readItem Hw h) pn_27 (pc_27 _ _) rfl ce_X11_readItem lk_X11_223 rfl rfl dX11_readItems_102 (fun m30 hm => ?_)
            refine g_aloadn_0 dX11_readItems_105 ?_
            refine g_geti fo_11_11 pn_27 pc_27 rfl dX11_readItems_106 ?_
            refine g_iconst (-1) dX11_readItems_109 rfl ?_
            refine g_icmp_ne 45 hm dX11_readItems_110 (by decide) (fun hm => ?_) (fun hm => ?_)
            · cases hm
              exact hi21 _ rfl
            · refine g_aload_4 dX11_readItems_113 ?_
              refine g_aloadn_0 dX11_readItems_115 ?_
              refine g_v0 hm (fun _ _ h => c_X11_look h) pn_27 (pc_27 _ _) rfl ce_X11_look lk_X11_122 rfl rfl dX11_readItems_116 (fun x32 m31 hm => ?_)
              refine g_s2 hm (fun _ _ h => c_X11_spotOf HX Hk h) ce_X11_spotOf lk_X11_209 rfl rfl dX11_readItems_119 (fun x34 m33 hm => ?_)
              refine g_istore_6 dX11_readItems_122 rfl ?_
              refine g_goto 45 dX11_readItems_124 (by decide) ?_
              cases hm
              exact hi21 _ rfl
          · refine g_weak (vs' := [some (.ref (g.ad 27)), none, none, none, none, none, none]) ⟨rfl, trivial⟩ ?_
            cases hm
            exact hx22 _ rfl
  · rintro ⟨m1, x2⟩ o hm hx5 hi4
    (try dsimp only [f_X11_readItems_L3] at hm)
    (try dsimp only)
    refine g_iload_5 dX11_readItems_3 ?_
    refine g_aload_4 dX11_readItems_5 ?_
    refine g_w0 hm (fun _ _ h => c_J0_length_8abf5 HX Hk h) HX Hk ce_J0_length_8abf5 lk_X11_83 rfl rfl dX11_readItems_7 (fun x7 m6 hm => ?_)
    refine g_icmp_ge 31 hm dX11_readItems_10 (by decide) (fun hm => ?_) (fun hm => ?_)
    · refine g_weak (vs' := [some (.ref (g.ad 27)), some (.int a1), some (.ref (g.ad w)), some (.int a2), some (.ref (g.sa k)), none, none]) ⟨rfl, ⟨rfl, ⟨rfl, ⟨rfl, ⟨rfl, trivial⟩⟩⟩⟩⟩ ?_
      cases hm
      exact hx5 _ rfl
    · refine g_aloadn_2 dX11_readItems_13 ?_
      refine g_iloadn_3 dX11_readItems_14 ?_
      refine g_iload_5 dX11_readItems_15 ?_
      refine g_iadd dX11_readItems_17 ?_
      refine g_iloadn_1 dX11_readItems_18 ?_
      refine g_iload_5 dX11_readItems_19 ?_
      refine g_s2 hm (fun _ _ h => c_X11_usual h) ce_X11_usual lk_X11_205 rfl rfl dX11_readItems_21 (fun x9 m8 hm => ?_)
      refine g_iastore hm Hw.1 Hw.2 dX11_readItems_24 (fun m10 hm => ?_)
      refine g_iinc_5 1 hm dX11_readItems_25 rfl rfl (fun x11 hm => ?_)
      refine g_goto 3 dX11_readItems_28 (by decide) ?_
      cases hm
      exact hi4 _ rfl
def f_X11_readClause  (m : Sg)  : Option (Sg) :=
  cal (f_X11_look m) (fun x2 m1 => bnd (fun ((m3, x4) : Sg × Int32) => (if x4 = 0 then cal (f_X11_fails m3) (fun x14 m13 => some m13) else
  bnd (wr m3 27 10 ((m3.1 27 10) + 1)) (fun m6 => (if x2 = 99 then bnd (wr m6 27 26 ((m6.1 27 26) + 1)) (fun m11 => calv (f_X11_readItems 33 48 2 m11 x2 (6 * ((m11.1 27 26) - 1))) (fun m12 => some m12)) else
  (if x2 = 101 then bnd (wr m6 27 27 ((m6.1 27 27) + 1)) (fun m9 => calv (f_X11_readItems 35 12 3 m9 x2 (3 * ((m9.1 27 27) - 1))) (fun m10 => some m10)) else
  bnd (wr m6 27 28 1) (fun m7 => calv (f_X11_readItems 37 3 4 m7 x2 0) (fun m8 => some m8))))))) (fun (k5 : Sg × Int32 → Option (Sg)) =>
  bnd (fun (m15 : Sg) => k5 (m15, 1)) (fun (k16 : Sg → Option (Sg)) =>
  bnd (fun (m17 : Sg) => bnd (fun (m19 : Sg) => bnd (fun (m21 : Sg) => k5 (m21, 0)) (fun (k22 : Sg → Option (Sg)) =>
  (if x2 = 114 then (if (m19.1 27 28) = 0 then k16 m19 else
  k22 m19) else
  k22 m19))) (fun (k20 : Sg → Option (Sg)) =>
  (if x2 = 101 then (if (m17.1 27 27) < 4 then k16 m17 else
  k20 m17) else
  k20 m17))) (fun (k18 : Sg → Option (Sg)) =>
  (if x2 = 99 then (if (m1.1 27 26) < 8 then k16 m1 else
  k18 m1) else
  k18 m1)))))
set_option maxRecDepth 4000 in
theorem c_X11_readClause {g : Cf} {m mm : Sg} (HX : XOK g) (hm : f_X11_readClause  m  = some mm) : Cl g 6 yX11_readClause cX11_readClause 3 none [.ref (g.ad 27)] m none mm := by
  refine cl_of (by decide) (Nat.le_of_ble_eq_true rfl) (vs := [some (.ref (g.ad 27)), none, none]) rfl rfl ?_
  show GX g 6 RX11 cX11_readClause 3 none none mm 0 _ [] m
  unfold f_X11_readClause at hm
  refine g_aloadn_0 dX11_readClause_0 ?_
  refine g_v0 hm (fun _ _ h => c_X11_look h) pn_27 (pc_27 _ _) rfl ce_X11_look lk_X11_122 rfl rfl dX11_readClause_1 (fun x2 m1 hm => ?_)
  refine g_istoren_1 dX11_readClause_4 rfl ?_
  refine g_iloadn_1 dX11_readClause_5 ?_
  refine g_bipush 99 dX11_readClause_6 rfl ?_
  refine g_jn (J := fun (s : Sg × Int32) => GX g 6 RX11 cX11_readClause 3 none none mm 52 [some (.ref (g.ad 27)), some (.int x2), none] [.int (s.2)] s.1) hm ?_ ?_
  · rintro ⟨m3, x4⟩ hm
    (try dsimp only at hm)
    (try dsimp only)
    refine g_istoren_2 dX11_readClause_52 rfl ?_
    refine g_iloadn_2 dX11_readClause_53 ?_
    refine g_if_ne 63 hm dX11_readClause_54 (by decide) (fun hm => ?_) (fun hm => ?_)
    · refine g_aloadn_0 dX11_readClause_63 ?_
      refine g_dup dX11_readClause_64 rfl ?_
      refine g_geti fo_11_10 pn_27 pc_27 rfl dX11_readClause_65 ?_
      refine g_iconst 1 dX11_readClause_68 rfl ?_
      refine g_iadd dX11_readClause_69 ?_
      refine g_put hm fo_11_10 fp_11_10 pn_27 pc_27 rfl dX11_readClause_70 (fun m6 hm => ?_)
      refine g_iloadn_1 dX11_readClause_73 ?_
      refine g_bipush 99 dX11_readClause_74 rfl ?_
      refine g_icmp_ne 112 hm dX11_readClause_76 (by decide) (fun hm => ?_) (fun hm => ?_)
      · refine g_iloadn_1 dX11_readClause_112 ?_
        refine g_bipush 101 dX11_readClause_113 rfl ?_
        refine g_icmp_ne 150 hm dX11_readClause_115 (by decide) (fun hm => ?_) (fun hm => ?_)
        · refine g_aloadn_0 dX11_readClause_150 ?_
          refine g_iconst 1 dX11_readClause_151 rfl ?_
          refine g_putz hm fo_11_28 fp_11_28 pn_27 pc_27 rfl rfl dX11_readClause_152 (fun m7 hm => ?_)
          refine g_aloadn_0 dX11_readClause_155 ?_
          refine g_iloadn_1 dX11_readClause_156 ?_
          refine g_aloadn_0 dX11_readClause_157 ?_
          refine g_getr (q := 37) fo_11_23 pn_27 pc_27 rfl rfl dX11_readClause_158 ?_
          refine g_iconst 0 dX11_readClause_161 rfl ?_
          refine g_ldcS (k := 4) (tx := "gup") HX (by decide) dX11_readClause_162 ?_
          refine g_v4V hm (fun _ h => c_X11_readItems HX ar_37 (by decide) h) pn_27 (pc_27 _ _) rfl ce_X11_readItems lk_X11_238 rfl rfl dX11_readClause_164 (fun m8 hm => ?_)
          exact g_vret hm dX11_readClause_167
        · refine g_aloadn_0 dX11_readClause_118 ?_
          refine g_dup dX11_readClause_119 rfl ?_
          refine g_geti fo_11_27 pn_27 pc_27 rfl dX11_readClause_120 ?_
          refine g_iconst 1 dX11_readClause_123 rfl ?_
          refine g_iadd dX11_readClause_124 ?_
          refine g_put hm fo_11_27 fp_11_27 pn_27 pc_27 rfl dX11_readClause_125 (fun m9 hm => ?_)
          refine g_aloadn_0 dX11_readClause_128 ?_
          refine g_iloadn_1 dX11_readClause_129 ?_
          refine g_aloadn_0 dX11_readClause_130 ?_
          refine g_getr (q := 35) fo_11_21 pn_27 pc_27 rfl rfl dX11_readClause_131 ?_
          refine g_iconst 3 dX11_readClause_134 rfl ?_
          refine g_aloadn_0 dX11_readClause_135 ?_
          refine g_geti fo_11_27 pn_27 pc_27 rfl dX11_readClause_136 ?_
          refine g_iconst 1 dX11_readClause_139 rfl ?_
          refine g_isub dX11_readClause_140 ?_
          refine g_imul dX11_readClause_141 ?_
          refine g_ldcS (k := 3) (tx := "afk") HX (by decide) dX11_readClause_142 ?_
          refine g_v4V hm (fun _ h => c_X11_readItems HX ar_35 (by decide) h) pn_27 (pc_27 _ _) rfl ce_X11_readItems lk_X11_238 rfl rfl dX11_readClause_144 (fun m10 hm => ?_)
          refine g_goto 167 dX11_readClause_147 (by decide) ?_
          exact g_vret hm dX11_readClause_167
      · refine g_aloadn_0 dX11_readClause_79 ?_
        refine g_dup dX11_readClause_80 rfl ?_
        refine g_geti fo_11_26 pn_27 pc_27 rfl dX11_readClause_81 ?_
        refine g_iconst 1 dX11_readClause_84 rfl ?_
        refine g_iadd dX11_readClause_85 ?_
        refine g_put hm fo_11_26 fp_11_26 pn_27 pc_27 rfl dX11_readClause_86 (fun m11 hm => ?_)
        refine g_aloadn_0 dX11_readClause_89 ?_
        refine g_iloadn_1 dX11_readClause_90 ?_
        refine g_aloadn_0 dX11_readClause_91 ?_
        refine g_getr (q := 33) fo_11_19 pn_27 pc_27 rfl rfl dX11_readClause_92 ?_
        refine g_bipush 6 dX11_readClause_95 rfl ?_
        refine g_aloadn_0 dX11_readClause_97 ?_
        refine g_geti fo_11_26 pn_27 pc_27 rfl dX11_readClause_98 ?_
        refine g_iconst 1 dX11_readClause_101 rfl ?_
        refine g_isub dX11_readClause_102 ?_
        refine g_imul dX11_readClause_103 ?_
        refine g_ldcS (k := 2) (tx := "akwnsy") HX (by decide) dX11_readClause_104 ?_
        refine g_v4V hm (fun _ h => c_X11_readItems HX ar_33 (by decide) h) pn_27 (pc_27 _ _) rfl ce_X11_readItems lk_X11_238 rfl rfl dX11_readClause_106 (fun m12 hm => ?_)
        refine g_goto 167 dX11_readClause_109 (by decide) ?_
        exact g_vret hm dX11_readClause_167
    · refine g_aloadn_0 dX11_readClause_57 ?_
      refine g_v0 hm (fun _ _ h => c_X11_fails h) pn_27 (pc_27 _ _) rfl ce_X11_fails lk_X11_118 rfl rfl dX11_readClause_58 (fun x14 m13 hm => ?_)
      refine g_pop dX11_readClause_61 rfl ?_
      exact g_vret hm dX11_readClause_62
  · intro k5 hk5 hm
    refine g_jn (J := fun (s : Sg) => GX g 6 RX11 cX11_readClause 3 none none mm 47 [some (.ref (g.ad 27)), some (.int x2), none] [] s) hm ?_ ?_
    · intro m15 hm
      refine g_iconst 1 dX11_readClause_47 rfl ?_
      refine g_goto 52 dX11_readClause_48 (by decide) ?_
      exact hk5 _ hm
    · intro k16 hk16 hm
      refine g_jn (J := fun (s : Sg) => GX g 6 RX11 cX11_readClause 3 none none mm 20 [some (.ref (g.ad 27)), some (.int x2), none] [] s) hm ?_ ?_
      · intro m17 hm
        refine g_iloadn_1 dX11_readClause_20 ?_
        refine g_bipush 101 dX11_readClause_21 rfl ?_
        refine g_jn (J := fun (s : Sg) => GX g 6 RX11 cX11_readClause 3 none none mm 34 [some (.ref (g.ad 27)), some (.int x2), none] [] s) hm ?_ ?_
        · intro m19 hm
          refine g_iloadn_1 dX11_readClause_34 ?_
          refine g_bipush 114 dX11_readClause_35 rfl ?_
          refine g_jn (J := fun (s : Sg) => GX g 6 RX11 cX11_readClause 3 none none mm 51 [some (.ref (g.ad 27)), some (.int x2), none] [] s) hm ?_ ?_
          · intro m21 hm
            refine g_iconst 0 dX11_readClause_51 rfl ?_
            exact hk5 _ hm
          · intro k22 hk22 hm
            refine g_icmp_ne 51 hm dX11_readClause_37 (by decide) (fun hm => ?_) (fun hm => ?_)
            · exact hk22 _ hm
            · refine g_aloadn_0 dX11_readClause_40 ?_
              refine g_geti fo_11_28 pn_27 pc_27 rfl dX11_readClause_41 ?_
              refine g_if_ne 51 hm dX11_readClause_44 (by decide) (fun hm => ?_) (fun hm => ?_)
              · exact hk22 _ hm
              · exact hk16 _ hm
        · intro k20 hk20 hm
          refine g_icmp_ne 34 hm dX11_readClause_23 (by decide) (fun hm => ?_) (fun hm => ?_)
          · exact hk20 _ hm
          · refine g_aloadn_0 dX11_readClause_26 ?_
            refine g_geti fo_11_27 pn_27 pc_27 rfl dX11_readClause_27 ?_
            refine g_iconst 4 dX11_readClause_30 rfl ?_
            refine g_icmp_lt 47 hm dX11_readClause_31 (by decide) (fun hm => ?_) (fun hm => ?_)
            · exact hk16 _ hm
            · exact hk20 _ hm
      · intro k18 hk18 hm
        refine g_icmp_ne 20 hm dX11_readClause_8 (by decide) (fun hm => ?_) (fun hm => ?_)
        · exact hk18 _ hm
        · refine g_aloadn_0 dX11_readClause_11 ?_
          refine g_geti fo_11_26 pn_27 pc_27 rfl dX11_readClause_12 ?_
          refine g_bipush 8 dX11_readClause_15 rfl ?_
          refine g_icmp_lt 47 hm dX11_readClause_17 (by decide) (fun hm => ?_) (fun hm => ?_)
          · exact hk16 _ hm
          · exact hk18 _ hm
def f_X11_readCounty_L30  : (Sg × Int32) → Option (((Sg)) ⊕ (Sg × Int32)) := fun s => match s with
  | (m5, x6) => 
  (if 3 ≤ x6 then some (.inl m5) else
  cal (f_X11_usual m5 114 x6) (fun x11 m10 => if inr x6 3 = true then bnd (wr m10 37 x6.toNatClampNeg x11) (fun m12 => bnd (x6 + 1) (fun x13 => some (.inr (m12, x13)))) else none))
def f_X11_readCounty_L55  : (Sg × Int32) → Option (((Sg)) ⊕ (Sg × Int32)) := fun s => match s with
  | (m14, x15) => 
  (if x15 = 0 then some (.inl m14) else
  (if (m14.1 27 11) = (-1) then calv (f_X11_readClause m14) (fun m19 => bnd (fun ((m20, x21) : Sg × Int32) => (if x21 = 0 then some (.inr (m20, x21)) else
  bnd (wr m20 27 10 ((m20.1 27 10) + 1)) (fun m23 => some (.inr (m23, x21))))) (fun (k22 : Sg × Int32 → Option (((Sg)) ⊕ (Sg × Int32))) =>
  bnd (fun (m24 : Sg) => k22 (m24, 0)) (fun (k25 : Sg → Option (((Sg)) ⊕ (Sg × Int32))) =>
  (if (m19.1 27 11) = (-1) then cal (f_X11_look m19) (fun x27 m26 => (if x27 = 59 then k22 (m26, 1) else
  k25 m26)) else
  k25 m19)))) else
  some (.inl m14)))
def f_X11_readCounty  (m : Sg)  : Option (Sg) :=
  calv (f_X11_starts 0 m 0 (m.1 27 6)) (fun m1 => bnd (wr m1 27 26 0) (fun m2 => bnd (wr m2 27 27 0) (fun m3 => bnd (wr m3 27 28 0) (fun m4 => lpk (f_X11_readCounty_L30) (m4, 0) (fun m7 => lpk (f_X11_readCounty_L55) (m7, 1) (fun m16 => (if (m16.1 27 11) = (-1) then cal (f_X11_look m16) (fun x29 m28 => bnd (fun (m30 : Sg) => cal (f_X11_fails m30) (fun x33 m32 => some m32)) (fun (k31 : Sg → Option (Sg)) =>
  (if x29 = (-1) then (if (m28.1 27 26) = 0 then k31 m28 else
  some m28) else
  k31 m28))) else
  some m16)))))))
set_option maxRecDepth 4000 in
theorem c_X11_readCounty {g : Cf} {m mm : Sg} (HX : XOK g) (hm : f_X11_readCounty  m  = some mm) : Cl g 7 yX11_readCounty cX11_readCounty 2 none [.ref (g.ad 27)] m none mm := by
  refine cl_of (by decide) (Nat.le_of_ble_eq_true rfl) (vs := [some (.ref (g.ad 27)), none]) rfl rfl ?_
  show GX g 7 RX11 cX11_readCounty 2 none none mm 0 _ [] m
  unfold f_X11_readCounty at hm
  refine g_aloadn_0 dX11_readCounty_0 ?_
  refine g_aloadn_0 dX11_readCounty_1 ?_
  refine g_getr (q := 28) fo_11_1 pn_27 pc_27 rfl rfl dX11_readCounty_2 ?_
  refine g_iconst 0 dX11_readCounty_5 rfl ?_
  refine g_aloadn_0 dX11_readCounty_6 ?_
  refine g_geti fo_11_6 pn_27 pc_27 rfl dX11_readCounty_7 ?_
  refine g_v3V hm (fun _ h => c_X11_starts txt_28 h) pn_27 (pc_27 _ _) rfl ce_X11_starts lk_X11_191 rfl rfl dX11_readCounty_10 (fun m1 hm => ?_)
  refine g_aloadn_0 dX11_readCounty_13 ?_
  refine g_iconst 0 dX11_readCounty_14 rfl ?_
  refine g_put hm fo_11_26 fp_11_26 pn_27 pc_27 rfl dX11_readCounty_15 (fun m2 hm => ?_)
  refine g_aloadn_0 dX11_readCounty_18 ?_
  refine g_iconst 0 dX11_readCounty_19 rfl ?_
  refine g_put hm fo_11_27 fp_11_27 pn_27 pc_27 rfl dX11_readCounty_20 (fun m3 hm => ?_)
  refine g_aloadn_0 dX11_readCounty_23 ?_
  refine g_iconst 0 dX11_readCounty_24 rfl ?_
  refine g_putz hm fo_11_28 fp_11_28 pn_27 pc_27 rfl rfl dX11_readCounty_25 (fun m4 hm => ?_)
  refine g_iconst 0 dX11_readCounty_28 rfl ?_
  refine g_istoren_1 dX11_readCounty_29 rfl ?_
  refine g_lp (I := fun (s : Sg × Int32) => GX g 7 RX11 cX11_readCounty 2 none none mm 30 [some (.ref (g.ad 27)), some (.int (s.2))] [] s.1) (E := fun (s : Sg) => GX g 7 RX11 cX11_readCounty 2 none none mm 53 [some (.ref (g.ad 27)), none] [] s) hm ?_ ?_
  · rintro m7 hm
    (try dsimp only at hm)
    (try dsimp only)
    refine g_iconst 1 dX11_readCounty_53 rfl ?_
    refine g_istoren_1 dX11_readCounty_54 rfl ?_
    refine g_lp (I := fun (s : Sg × Int32) => GX g 7 RX11 cX11_readCounty 2 none none mm 55 [some (.ref (g.ad 27)), some (.int (s.2))] [] s.1) (E := fun (s : Sg) => GX g 7 RX11 cX11_readCounty 2 none none mm 111 [some (.ref (g.ad 27)), none] [] s) hm ?_ ?_
    · rintro m16 hm
      (try dsimp only at hm)
      (try dsimp only)
      refine g_aloadn_0 dX11_readCounty_111 ?_
      refine g_geti fo_11_11 pn_27 pc_27 rfl dX11_readCounty_112 ?_
      refine g_iconst (-1) dX11_readCounty_115 rfl ?_
      refine g_icmp_ne 139 hm dX11_readCounty_116 (by decide) (fun hm => ?_) (fun hm => ?_)
      · exact g_vret hm dX11_readCounty_139
      · refine g_aloadn_0 dX11_readCounty_119 ?_
        refine g_v0 hm (fun _ _ h => c_X11_look h) pn_27 (pc_27 _ _) rfl ce_X11_look lk_X11_122 rfl rfl dX11_readCounty_120 (fun x29 m28 hm => ?_)
        refine g_iconst (-1) dX11_readCounty_123 rfl ?_
        refine g_jn (J := fun (s : Sg) => GX g 7 RX11 cX11_readCounty 2 none none mm 134 [some (.ref (g.ad 27)), none] [] s) hm ?_ ?_
        · intro m30 hm
          refine g_aloadn_0 dX11_readCounty_134 ?_
          refine g_v0 hm (fun _ _ h => c_X11_fails h) pn_27 (pc_27 _ _) rfl ce_X11_fails lk_X11_118 rfl rfl dX11_readCounty_135 (fun x33 m32 hm => ?_)
          refine g_pop dX11_readCounty_138 rfl ?_
          exact g_vret hm dX11_readCounty_139
        · intro k31 hk31 hm
          refine g_icmp_ne 134 hm dX11_readCounty_124 (by decide) (fun hm => ?_) (fun hm => ?_)
          · exact hk31 _ hm
          · refine g_aloadn_0 dX11_readCounty_127 ?_
            refine g_geti fo_11_26 pn_27 pc_27 rfl dX11_readCounty_128 ?_
            refine g_if_ne 139 hm dX11_readCounty_131 (by decide) (fun hm => ?_) (fun hm => ?_)
            · exact g_vret hm dX11_readCounty_139
            · exact hk31 _ hm
    · rintro ⟨m14, x15⟩ o hm hx18 hi17
      (try dsimp only [f_X11_readCounty_L55] at hm)
      (try dsimp only)
      refine g_iloadn_1 dX11_readCounty_55 ?_
      refine g_if_eq 111 hm dX11_readCounty_56 (by decide) (fun hm => ?_) (fun hm => ?_)
      · refine g_weak (vs' := [some (.ref (g.ad 27)), none]) ⟨rfl, trivial⟩ ?_
        cases hm
        exact hx18 _ rfl
      · refine g_aloadn_0 dX11_readCounty_59 ?_
        refine g_geti fo_11_11 pn_27 pc_27 rfl dX11_readCounty_60 ?_
        refine g_iconst (-1) dX11_readCounty_63 rfl ?_
        refine g_icmp_ne 111 hm dX11_readCounty_64 (by decide) (fun hm => ?_) (fun hm => ?_)
        · refine g_weak (vs' := [some (.ref (g.ad 27)), none]) ⟨rfl, trivial⟩ ?_
          cases hm
          exact hx18 _ rfl
        · refine g_aloadn_0 dX11_readCounty_67 ?_
          refine g_v0V hm (fun _ h => c_X11_readClause HX h) pn_27 (pc_27 _ _) rfl ce_X11_readClause lk_X11_246 rfl rfl dX11_readCounty_68 (fun m19 hm => ?_)
          refine g_aloadn_0 dX11_readCounty_71 ?_
          refine g_geti fo_11_11 pn_27 pc_27 rfl dX11_readCounty_72 ?_
          refine g_iconst (-1) dX11_readCounty_75 rfl ?_
          refine g_jn (J := fun (s : Sg × Int32) => GX g 7 RX11 cX11_readCounty 2 none none mm 93 [some (.ref (g.ad 27)), none] [.int (s.2)] s.1) hm ?_ ?_
          · rintro ⟨m20, x21⟩ hm
            (try dsimp only at hm)
            (try dsimp only)
            refine g_istoren_1 dX11_readCounty_93 rfl ?_
            refine g_iloadn_1 dX11_readCounty_94 ?_
            refine g_if_eq 55 hm dX11_readCounty_95 (by decide) (fun hm => ?_) (fun hm => ?_)
            · cases hm
              exact hi17 _ rfl
            · refine g_aloadn_0 dX11_readCounty_98 ?_
              refine g_dup dX11_readCounty_99 rfl ?_
              refine g_geti fo_11_10 pn_27 pc_27 rfl dX11_readCounty_100 ?_
              refine g_iconst 1 dX11_readCounty_103 rfl ?_
              refine g_iadd dX11_readCounty_104 ?_
              refine g_put hm fo_11_10 fp_11_10 pn_27 pc_27 rfl dX11_readCounty_105 (fun m23 hm => ?_)
              refine g_goto 55 dX11_readCounty_108 (by decide) ?_
              cases hm
              exact hi17 _ rfl
          · intro k22 hk22 hm
            refine g_jn (J := fun (s : Sg) => GX g 7 RX11 cX11_readCounty 2 none none mm 92 [some (.ref (g.ad 27)), none] [] s) hm ?_ ?_
            · intro m24 hm
              refine g_iconst 0 dX11_readCounty_92 rfl ?_
              exact hk22 _ hm
            · intro k25 hk25 hm
              refine g_icmp_ne 92 hm dX11_readCounty_76 (by decide) (fun hm => ?_) (fun hm => ?_)
              · refine g_weak (vs' := [some (.ref (g.ad 27)), none]) ⟨rfl, trivial⟩ ?_
                exact hk25 _ hm
              · refine g_aloadn_0 dX11_readCounty_79 ?_
                refine g_v0 hm (fun _ _ h => c_X11_look h) pn_27 (pc_27 _ _) rfl ce_X11_look lk_X11_122 rfl rfl dX11_readCounty_80 (fun x27 m26 hm => ?_)
                refine g_bipush 59 dX11_readCounty_83 rfl ?_
                refine g_icmp_ne 92 hm dX11_readCounty_85 (by decide) (fun hm => ?_) (fun hm => ?_)
                · refine g_weak (vs' := [some (.ref (g.ad 27)), none]) ⟨rfl, trivial⟩ ?_
                  exact hk25 _ hm
                · refine g_iconst 1 dX11_readCounty_88 rfl ?_
                  refine g_goto 93 dX11_readCounty_89 (by decide) ?_
                  refine g_weak (vs' := [some (.ref (g.ad 27)), none]) ⟨rfl, trivial⟩ ?_
                  exact hk22 _ hm
  · rintro ⟨m5, x6⟩ o hm hx9 hi8
    (try dsimp only [f_X11_readCounty_L30] at hm)
    (try dsimp only)
    refine g_iloadn_1 dX11_readCounty_30 ?_
    refine g_iconst 3 dX11_readCounty_31 rfl ?_
    refine g_icmp_ge 53 hm dX11_readCounty_32 (by decide) (fun hm => ?_) (fun hm => ?_)
    · refine g_weak (vs' := [some (.ref (g.ad 27)), none]) ⟨rfl, trivial⟩ ?_
      cases hm
      exact hx9 _ rfl
    · refine g_aloadn_0 dX11_readCounty_35 ?_
      refine g_getr (q := 37) fo_11_23 pn_27 pc_27 rfl rfl dX11_readCounty_36 ?_
      refine g_iloadn_1 dX11_readCounty_39 ?_
      refine g_bipush 114 dX11_readCounty_40 rfl ?_
      refine g_iloadn_1 dX11_readCounty_42 ?_
      refine g_s2 hm (fun _ _ h => c_X11_usual h) ce_X11_usual lk_X11_205 rfl rfl dX11_readCounty_43 (fun x11 m10 hm => ?_)
      refine g_iastore hm ar_37.1 ar_37.2 dX11_readCounty_46 (fun m12 hm => ?_)
      refine g_iinc_1 1 hm dX11_readCounty_47 rfl rfl (fun x13 hm => ?_)
      refine g_goto 30 dX11_readCounty_50 (by decide) ?_
      cases hm
      exact hi8 _ rfl
def f_X11_fault  (m : Sg) (a1 : Int32) : Option (Int32 × Sg) :=
  bnd (wr m 27 0 0) (fun m1 => cal (f_X11_isIn m1 ((a1 : Int32).toInt64) 0 1) (fun x3 m2 => (if x3 = 0 then some ((-2), m2) else
  bnd (fun (m4 : Sg) => some (m4.1 27 11, m4)) (fun (k5 : Sg → Option (Int32 × Sg)) =>
  (if a1 = 0 then calv (f_X11_readCounty m2) (fun m7 => k5 m7) else
  calv (f_X11_goThrough 0 m2 0 (m2.1 27 6)) (fun m6 => k5 m6))))))
set_option maxRecDepth 4000 in
theorem c_X11_fault {g : Cf} {m mm : Sg} {r : Int32} {a1 : Int32} (HX : XOK g) (hm : f_X11_fault  m a1 = some (r, mm)) : Cl g 76 yX11_fault cX11_fault 2 (some .int) [.ref (g.ad 27), .int a1] m (some (.int r)) mm := by
  refine cl_of (by decide) (Nat.le_of_ble_eq_true rfl) (vs := [some (.ref (g.ad 27)), some (.int a1)]) rfl rfl ?_
  show GX g 76 RX11 cX11_fault 2 (some .int) (some (.int r)) mm 0 _ [] m
  unfold f_X11_fault at hm
  refine g_aloadn_0 dX11_fault_0 ?_
  refine g_iconst 0 dX11_fault_1 rfl ?_
  refine g_put hm fo_11_0 fp_11_0 pn_27 pc_27 rfl dX11_fault_2 (fun m1 hm => ?_)
  refine g_iloadn_1 dX11_fault_5 ?_
  refine g_i2l dX11_fault_6 ?_
  refine g_lconst 0 dX11_fault_7 rfl ?_
  refine g_lconst 1 dX11_fault_8 rfl ?_
  refine g_s3 hm (fun _ _ h => c_X11_isIn h) ce_X11_isIn lk_X11_201 rfl rfl dX11_fault_9 (fun x3 m2 hm => ?_)
  refine g_if_ne 18 hm dX11_fault_12 (by decide) (fun hm => ?_) (fun hm => ?_)
  · refine g_iloadn_1 dX11_fault_18 ?_
    refine g_jn (J := fun (s : Sg) => GX g 76 RX11 cX11_fault 2 (some .int) (some (.int r)) mm 42 [some (.ref (g.ad 27)), none] [] s) hm ?_ ?_
    · intro m4 hm
      refine g_aloadn_0 dX11_fault_42 ?_
      refine g_geti fo_11_11 pn_27 pc_27 rfl dX11_fault_43 ?_
      exact g_iret hm dX11_fault_46
    · intro k5 hk5 hm
      refine g_if_ne 29 hm dX11_fault_19 (by decide) (fun hm => ?_) (fun hm => ?_)
      · refine g_aloadn_0 dX11_fault_29 ?_
        refine g_aloadn_0 dX11_fault_30 ?_
        refine g_getr (q := 28) fo_11_1 pn_27 pc_27 rfl rfl dX11_fault_31 ?_
        refine g_iconst 0 dX11_fault_34 rfl ?_
        refine g_aloadn_0 dX11_fault_35 ?_
        refine g_geti fo_11_6 pn_27 pc_27 rfl dX11_fault_36 ?_
        refine g_v3V hm (fun _ h => c_X11_goThrough HX txt_28 h) pn_27 (pc_27 _ _) rfl ce_X11_goThrough lk_X11_252 rfl rfl dX11_fault_39 (fun m6 hm => ?_)
        refine g_weak (vs' := [some (.ref (g.ad 27)), none]) ⟨rfl, trivial⟩ ?_
        exact hk5 _ hm
      · refine g_aloadn_0 dX11_fault_22 ?_
        refine g_v0V hm (fun _ h => c_X11_readCounty HX h) pn_27 (pc_27 _ _) rfl ce_X11_readCounty lk_X11_249 rfl rfl dX11_fault_23 (fun m7 hm => ?_)
        refine g_goto 42 dX11_fault_26 (by decide) ?_
        refine g_weak (vs' := [some (.ref (g.ad 27)), none]) ⟨rfl, trivial⟩ ?_
        exact hk5 _ hm
  · refine g_bipush (-2) dX11_fault_15 rfl ?_
    exact g_iret hm dX11_fault_17
def f_X11_text_L133  : (Sg × Int32) → Option (((Sg)) ⊕ (Sg × Int32)) := fun s => match s with
  | (m12, x13) => 
  (if 48 ≤ x13 then some (.inl m12) else
  if inr x13 48 = true then if inr x13 48 = true then bnd (wr m12 32 x13.toNatClampNeg (m12.1 33 x13.toNatClampNeg)) (fun m17 => bnd (x13 + 1) (fun x18 => some (.inr (m17, x18)))) else none else none)
def f_X11_text_L159  : (Sg × Int32) → Option (((Sg)) ⊕ (Sg × Int32)) := fun s => match s with
  | (m19, x20) => 
  (if 12 ≤ x20 then some (.inl m19) else
  if inr x20 12 = true then if inr x20 12 = true then bnd (wr m19 34 x20.toNatClampNeg (m19.1 35 x20.toNatClampNeg)) (fun m24 => bnd (x20 + 1) (fun x25 => some (.inr (m24, x25)))) else none else none)
def f_X11_text_L185  : (Sg × Int32) → Option (((Sg)) ⊕ (Sg × Int32)) := fun s => match s with
  | (m26, x27) => 
  (if 3 ≤ x27 then some (.inl m26) else
  if inr x27 3 = true then if inr x27 3 = true then bnd (wr m26 36 x27.toNatClampNeg (m26.1 37 x27.toNatClampNeg)) (fun m31 => bnd (x27 + 1) (fun x32 => some (.inr (m31, x32)))) else none else none)
def f_X11_text_L210  : (Sg × Int32) → Option (((Sg)) ⊕ (Sg × Int32)) := fun s => match s with
  | (m33, x34) => 
  (if 244 ≤ x34 then some (.inl m33) else
  if inr x34 244 = true then bnd (wr m33 38 x34.toNatClampNeg 0) (fun m38 => bnd (x34 + 1) (fun x39 => some (.inr (m38, x39)))) else none)
def f_X11_text_L232  : (Sg × Int32) → Option (((Sg)) ⊕ (Sg × Int32)) := fun s => match s with
  | (m40, x41) => 
  (if (m40.1 27 24) ≤ x41 then some (.inl m40) else
  if inr (6 * x41) 48 = true then if inr ((7 * x41) + 0) 244 = true then bnd (wr m40 38 ((7 * x41) + 0).toNatClampNeg (m40.1 32 (6 * x41).toNatClampNeg)) (fun m45 => if inr ((6 * x41) + 1) 48 = true then if inr ((7 * x41) + 1) 244 = true then bnd (wr m45 38 ((7 * x41) + 1).toNatClampNeg ((1 <<< ((m45.1 32 ((6 * x41) + 1).toNatClampNeg) &&& 31)) - 1)) (fun m46 => if inr ((6 * x41) + 2) 48 = true then bnd (fun ((m47, x48) : Sg × Int32) => if inr ((7 * x41) + 2) 244 = true then bnd (wr m47 38 ((7 * x41) + 2).toNatClampNeg x48) (fun m50 => if inr ((7 * x41) + 3) 244 = true then bnd (wr m50 38 ((7 * x41) + 3).toNatClampNeg (-1)) (fun m51 => bnd (x41 + 1) (fun x52 => some (.inr (m51, x52)))) else none) else none) (fun (k49 : Sg × Int32 → Option (((Sg)) ⊕ (Sg × Int32))) =>
  (if (m46.1 32 ((6 * x41) + 2).toNatClampNeg) = 9 then k49 (m46, 0) else
  if inr ((6 * x41) + 2) 48 = true then k49 (m46, (1 <<< ((m46.1 32 ((6 * x41) + 2).toNatClampNeg) &&& 31))) else none)) else none) else none else none) else none else none)
def f_X11_text_L350  : (Sg × Int32) → Option (((Sg)) ⊕ (Sg × Int32)) := fun s => match s with
  | (m53, x54) => 
  (if (m53.1 27 25) ≤ x54 then some (.inl m53) else
  if inr ((3 * x54) + 2) 12 = true then if inr (56 + x54) 244 = true then bnd (wr m53 38 (56 + x54).toNatClampNeg ((1 <<< ((m53.1 34 ((3 * x54) + 2).toNatClampNeg) &&& 31)) - 1)) (fun m58 => bnd (x54 + 1) (fun x59 => some (.inr (m58, x59)))) else none else none)
def f_X11_text_L56 (x8 : Int32) : (Sg × Int32) → Option (((Sg)) ⊕ (Sg × Int32)) := fun s => match s with
  | (m63, x64) => 
  (if x8 ≤ x64 then some (.inl m63) else
  if inr x64 240 = true then if inr ((240 * (m63.1 27 7)) + x64) 960 = true then bnd (wr m63 29 ((240 * (m63.1 27 7)) + x64).toNatClampNeg (vp_nar .byte (m63.1 28 x64.toNatClampNeg))) (fun m68 => bnd (x64 + 1) (fun x69 => some (.inr (m68, x69)))) else none else none)
def f_X11_text  (m : Sg) (a1 : Int32) : Option (Int32 × Sg) :=
  bnd (wr m 27 0 0) (fun m1 => cal (f_X11_isIn m1 ((a1 : Int32).toInt64) 0 1) (fun x3 m2 => (if x3 = 0 then some ((-1), m2) else
  bnd (fun (m4 : Sg) => cal (f_X11_fault m4 a1) (fun x7 m6 => (if x7 = (-1) then bnd (m6.1 27 6) (fun x8 => bnd (wr m6 27 6 0) (fun m9 => (if a1 = 1 then lpk (f_X11_text_L56 x8) (m9, 0) (fun m65 => if inr (m65.1 27 7) 4 = true then bnd (wr m65 30 (m65.1 27 7).toNatClampNeg x8) (fun m70 => bnd (wr m70 27 7 ((m70.1 27 7) + 1)) (fun m71 => some ((m71.1 27 7) - 1, m71))) else none) else
  bnd (wr m9 27 24 (m9.1 27 26)) (fun m10 => bnd (wr m10 27 25 (m10.1 27 27)) (fun m11 => lpk (f_X11_text_L133) (m11, 0) (fun m14 => lpk (f_X11_text_L159) (m14, 0) (fun m21 => lpk (f_X11_text_L185) (m21, 0) (fun m28 => lpk (f_X11_text_L210) (m28, 0) (fun m35 => lpk (f_X11_text_L232) (m35, 0) (fun m42 => lpk (f_X11_text_L350) (m42, 0) (fun m55 => bnd (wr m55 38 61 (-1)) (fun m60 => bnd (wr m60 27 39 0) (fun m61 => bnd (wr m61 27 45 0) (fun m62 => some (m62.1 27 24, m62))))))))))))))) else
  some ((-1), m6)))) (fun (k5 : Sg → Option (Int32 × Sg)) =>
  (if a1 = 1 then (if (m2.1 27 7) = 4 then some ((-1), m2) else
  k5 m2) else
  k5 m2)))))
set_option maxRecDepth 4000 in
theorem c_X11_text {g : Cf} {m mm : Sg} {r : Int32} {a1 : Int32} (HX : XOK g) (hm : f_X11_text  m a1 = some (r, mm)) : Cl g 77 yX11_text cX11_text 4 (some .int) [.ref (g.ad 27), .int a1] m (some (.int r)) mm := by
  refine cl_of (by decide) (Nat.le_of_ble_eq_true rfl) (vs := [some (.ref (g.ad 27)), some (.int a1), none, none]) rfl rfl ?_
  show GX g 77 RX11 cX11_text 4 (some .int) (some (.int r)) mm 0 _ [] m
  unfold f_X11_text at hm
  refine g_aloadn_0 dX11_text_0 ?_
  refine g_iconst 0 dX11_text_1 rfl ?_
  refine g_put hm fo_11_0 fp_11_0 pn_27 pc_27 rfl dX11_text_2 (fun m1 hm => ?_)
  refine g_iloadn_1 dX11_text_5 ?_
  refine g_i2l dX11_text_6 ?_
  refine g_lconst 0 dX11_text_7 rfl ?_
  refine g_lconst 1 dX11_text_8 rfl ?_
  refine g_s3 hm (fun _ _ h => c_X11_isIn h) ce_X11_isIn lk_X11_201 rfl rfl dX11_text_9 (fun x3 m2 hm => ?_)
  refine g_if_eq 37 hm dX11_text_12 (by decide) (fun hm => ?_) (fun hm => ?_)
  · refine g_iconst (-1) dX11_text_37 rfl ?_
    exact g_iret hm dX11_text_38
  · refine g_iloadn_1 dX11_text_15 ?_
    refine g_iconst 1 dX11_text_16 rfl ?_
    refine g_jn (J := fun (s : Sg) => GX g 77 RX11 cX11_text 4 (some .int) (some (.int r)) mm 28 [some (.ref (g.ad 27)), some (.int a1), none, none] [] s) hm ?_ ?_
    · intro m4 hm
      refine g_aloadn_0 dX11_text_28 ?_
      refine g_iloadn_1 dX11_text_29 ?_
      refine g_v1 hm (fun _ _ h => c_X11_fault HX h) pn_27 (pc_27 _ _) rfl ce_X11_fault lk_X11_258 rfl rfl dX11_text_30 (fun x7 m6 hm => ?_)
      refine g_iconst (-1) dX11_text_33 rfl ?_
      refine g_icmp_eq 39 hm dX11_text_34 (by decide) (fun hm => ?_) (fun hm => ?_)
      · refine g_aloadn_0 dX11_text_39 ?_
        refine g_geti fo_11_6 pn_27 pc_27 rfl dX11_text_40 ?_
        refine g_istoreBn_2 hm dX11_text_43 rfl (fun x8 hm => ?_)
        refine g_aloadn_0 dX11_text_44 ?_
        refine g_iconst 0 dX11_text_45 rfl ?_
        refine g_put hm fo_11_6 fp_11_6 pn_27 pc_27 rfl dX11_text_46 (fun m9 hm => ?_)
        refine g_iloadn_1 dX11_text_49 ?_
        refine g_iconst 1 dX11_text_50 rfl ?_
        refine g_icmp_ne 115 hm dX11_text_51 (by decide) (fun hm => ?_) (fun hm => ?_)
        · refine g_aloadn_0 dX11_text_115 ?_
          refine g_aloadn_0 dX11_text_116 ?_
          refine g_geti fo_11_26 pn_27 pc_27 rfl dX11_text_117 ?_
          refine g_put hm fo_11_24 fp_11_24 pn_27 pc_27 rfl dX11_text_120 (fun m10 hm => ?_)
          refine g_aloadn_0 dX11_text_123 ?_
          refine g_aloadn_0 dX11_text_124 ?_
          refine g_geti fo_11_27 pn_27 pc_27 rfl dX11_text_125 ?_
          refine g_put hm fo_11_25 fp_11_25 pn_27 pc_27 rfl dX11_text_128 (fun m11 hm => ?_)
          refine g_iconst 0 dX11_text_131 rfl ?_
          refine g_istoren_3 dX11_text_132 rfl ?_
          refine g_weak (vs' := [some (.ref (g.ad 27)), none, none, some (.int 0)]) ⟨rfl, ⟨rfl, trivial⟩⟩ ?_
          refine g_lp (I := fun (s : Sg × Int32) => GX g 77 RX11 cX11_text 4 (some .int) (some (.int r)) mm 133 [some (.ref (g.ad 27)), none, none, some (.int (s.2))] [] s.1) (E := fun (s : Sg) => GX g 77 RX11 cX11_text 4 (some .int) (some (.int r)) mm 157 [some (.ref (g.ad 27)), none, none, none] [] s) hm ?_ ?_
          · rintro m14 hm
            (try dsimp only at hm)
            (try dsimp only)
            refine g_iconst 0 dX11_text_157 rfl ?_
            refine g_istoren_3 dX11_text_158 rfl ?_
            refine g_lp (I := fun (s : Sg × Int32) => GX g 77 RX11 cX11_text 4 (some .int) (some (.int r)) mm 159 [some (.ref (g.ad 27)), none, none, some (.int (s.2))] [] s.1) (E := fun (s : Sg) => GX g 77 RX11 cX11_text 4 (some .int) (some (.int r)) mm 183 [some (.ref (g.ad 27)), none, none, none] [] s) hm ?_ ?_
            · rintro m21 hm
              (try dsimp only at hm)
              (try dsimp only)
              refine g_iconst 0 dX11_text_183 rfl ?_
              refine g_istoren_3 dX11_text_184 rfl ?_
              refine g_lp (I := fun (s : Sg × Int32) => GX g 77 RX11 cX11_text 4 (some .int) (some (.int r)) mm 185 [some (.ref (g.ad 27)), none, none, some (.int (s.2))] [] s.1) (E := fun (s : Sg) => GX g 77 RX11 cX11_text 4 (some .int) (some (.int r)) mm 208 [some (.ref (g.ad 27)), none, none, none] [] s) hm ?_ ?_
              · rintro m28 hm
                (try dsimp only at hm)
                (try dsimp only)
                refine g_iconst 0 dX11_text_208 rfl ?_
                refine g_istoren_3 dX11_text_209 rfl ?_
                refine g_lp (I := fun (s : Sg × Int32) => GX g 77 RX11 cX11_text 4 (some .int) (some (.int r)) mm 210 [some (.ref (g.ad 27)), none, none, some (.int (s.2))] [] s.1) (E := fun (s : Sg) => GX g 77 RX11 cX11_text 4 (some .int) (some (.int r)) mm 230 [some (.ref (g.ad 27)), none, none, none] [] s) hm ?_ ?_
                · rintro m35 hm
                  (try dsimp only at hm)
                  (try dsimp only)
                  refine g_iconst 0 dX11_text_230 rfl ?_
                  refine g_istoren_3 dX11_text_231 rfl ?_
                  refine g_lp (I := fun (s : Sg × Int32) => GX g 77 RX11 cX11_text 4 (some .int) (some (.int r)) mm 232 [some (.ref (g.ad 27)), none, none, some (.int (s.2))] [] s.1) (E := fun (s : Sg) => GX g 77 RX11 cX11_text 4 (some .int) (some (.int r)) mm 348 [some (.ref (g.ad 27)), none, none, none] [] s) hm ?_ ?_
                  · rintro m42 hm
                    (try dsimp only at hm)
                    (try dsimp only)
                    refine g_iconst 0 dX11_text_348 rfl ?_
                    refine g_istoren_3 dX11_text_349 rfl ?_
                    refine g_lp (I := fun (s : Sg × Int32) => GX g 77 RX11 cX11_text 4 (some .int) (some (.int r)) mm 350 [some (.ref (g.ad 27)), none, none, some (.int (s.2))] [] s.1) (E := fun (s : Sg) => GX g 77 RX11 cX11_text 4 (some .int) (some (.int r)) mm 387 [some (.ref (g.ad 27)), none, none, none] [] s) hm ?_ ?_
                    · rintro m55 hm
                      (try dsimp only at hm)
                      (try dsimp only)
                      refine g_aloadn_0 dX11_text_387 ?_
                      refine g_getr (q := 38) fo_11_29 pn_27 pc_27 rfl rfl dX11_text_388 ?_
                      refine g_bipush 61 dX11_text_391 rfl ?_
                      refine g_iconst (-1) dX11_text_393 rfl ?_
                      refine g_iastorec 61 hm rfl rfl ar_38.1 ar_38.2 dX11_text_394 (fun m60 hm => ?_)
                      refine g_aloadn_0 dX11_text_395 ?_
                      refine g_iconst 0 dX11_text_396 rfl ?_
                      refine g_put hm fo_11_39 fp_11_39 pn_27 pc_27 rfl dX11_text_397 (fun m61 hm => ?_)
                      refine g_aloadn_0 dX11_text_400 ?_
                      refine g_iconst 0 dX11_text_401 rfl ?_
                      refine g_putz hm fo_11_45 fp_11_45 pn_27 pc_27 rfl rfl dX11_text_402 (fun m62 hm => ?_)
                      refine g_aloadn_0 dX11_text_405 ?_
                      refine g_geti fo_11_24 pn_27 pc_27 rfl dX11_text_406 ?_
                      exact g_iret hm dX11_text_409
                    · rintro ⟨m53, x54⟩ o hm hx57 hi56
                      (try dsimp only [f_X11_text_L350] at hm)
                      (try dsimp only)
                      refine g_iloadn_3 dX11_text_350 ?_
                      refine g_aloadn_0 dX11_text_351 ?_
                      refine g_geti fo_11_25 pn_27 pc_27 rfl dX11_text_352 ?_
                      refine g_icmp_ge 387 hm dX11_text_355 (by decide) (fun hm => ?_) (fun hm => ?_)
                      · refine g_weak (vs' := [some (.ref (g.ad 27)), none, none, none]) ⟨rfl, trivial⟩ ?_
                        cases hm
                        exact hx57 _ rfl
                      · refine g_aloadn_0 dX11_text_358 ?_
                        refine g_getr (q := 38) fo_11_29 pn_27 pc_27 rfl rfl dX11_text_359 ?_
                        refine g_bipush 56 dX11_text_362 rfl ?_
                        refine g_iloadn_3 dX11_text_364 ?_
                        refine g_iadd dX11_text_365 ?_
                        refine g_iconst 1 dX11_text_366 rfl ?_
                        refine g_aloadn_0 dX11_text_367 ?_
                        refine g_getr (q := 34) fo_11_20 pn_27 pc_27 rfl rfl dX11_text_368 ?_
                        refine g_iconst 3 dX11_text_371 rfl ?_
                        refine g_iloadn_3 dX11_text_372 ?_
                        refine g_imul dX11_text_373 ?_
                        refine g_iconst 2 dX11_text_374 rfl ?_
                        refine g_iadd dX11_text_375 ?_
                        refine g_iaload hm ar_34.1 ar_34.2 dX11_text_376 (fun hm => ?_)
                        refine g_ishl dX11_text_377 ?_
                        refine g_iconst 1 dX11_text_378 rfl ?_
                        refine g_isub dX11_text_379 ?_
                        refine g_iastore hm ar_38.1 ar_38.2 dX11_text_380 (fun m58 hm => ?_)
                        refine g_iinc_3 1 hm dX11_text_381 rfl rfl (fun x59 hm => ?_)
                        refine g_goto 350 dX11_text_384 (by decide) ?_
                        cases hm
                        exact hi56 _ rfl
                  · rintro ⟨m40, x41⟩ o hm hx44 hi43
                    (try dsimp only [f_X11_text_L232] at hm)
                    (try dsimp only)
                    refine g_iloadn_3 dX11_text_232 ?_
                    refine g_aloadn_0 dX11_text_233 ?_
                    refine g_geti fo_11_24 pn_27 pc_27 rfl dX11_text_234 ?_
                    refine g_icmp_ge 348 hm dX11_text_237 (by decide) (fun hm => ?_) (fun hm => ?_)
                    · refine g_weak (vs' := [some (.ref (g.ad 27)), none, none, none]) ⟨rfl, trivial⟩ ?_
                      cases hm
                      exact hx44 _ rfl
                    · refine g_aloadn_0 dX11_text_240 ?_
                      refine g_getr (q := 38) fo_11_29 pn_27 pc_27 rfl rfl dX11_text_241 ?_
                      refine g_bipush 7 dX11_text_244 rfl ?_
                      refine g_iloadn_3 dX11_text_246 ?_
                      refine g_imul dX11_text_247 ?_
                      refine g_iconst 0 dX11_text_248 rfl ?_
                      refine g_iadd dX11_text_249 ?_
                      refine g_aloadn_0 dX11_text_250 ?_
                      refine g_getr (q := 32) fo_11_18 pn_27 pc_27 rfl rfl dX11_text_251 ?_
                      refine g_bipush 6 dX11_text_254 rfl ?_
                      refine g_iloadn_3 dX11_text_256 ?_
                      refine g_imul dX11_text_257 ?_
                      refine g_iaload hm ar_32.1 ar_32.2 dX11_text_258 (fun hm => ?_)
                      refine g_iastore hm ar_38.1 ar_38.2 dX11_text_259 (fun m45 hm => ?_)
                      refine g_aloadn_0 dX11_text_260 ?_
                      refine g_getr (q := 38) fo_11_29 pn_27 pc_27 rfl rfl dX11_text_261 ?_
                      refine g_bipush 7 dX11_text_264 rfl ?_
                      refine g_iloadn_3 dX11_text_266 ?_
                      refine g_imul dX11_text_267 ?_
                      refine g_iconst 1 dX11_text_268 rfl ?_
                      refine g_iadd dX11_text_269 ?_
                      refine g_iconst 1 dX11_text_270 rfl ?_
                      refine g_aloadn_0 dX11_text_271 ?_
                      refine g_getr (q := 32) fo_11_18 pn_27 pc_27 rfl rfl dX11_text_272 ?_
                      refine g_bipush 6 dX11_text_275 rfl ?_
                      refine g_iloadn_3 dX11_text_277 ?_
                      refine g_imul dX11_text_278 ?_
                      refine g_iconst 1 dX11_text_279 rfl ?_
                      refine g_iadd dX11_text_280 ?_
                      refine g_iaload hm ar_32.1 ar_32.2 dX11_text_281 (fun hm => ?_)
                      refine g_ishl dX11_text_282 ?_
                      refine g_iconst 1 dX11_text_283 rfl ?_
                      refine g_isub dX11_text_284 ?_
                      refine g_iastore hm ar_38.1 ar_38.2 dX11_text_285 (fun m46 hm => ?_)
                      refine g_aloadn_0 dX11_text_286 ?_
                      refine g_getr (q := 38) fo_11_29 pn_27 pc_27 rfl rfl dX11_text_287 ?_
                      refine g_bipush 7 dX11_text_290 rfl ?_
                      refine g_iloadn_3 dX11_text_292 ?_
                      refine g_imul dX11_text_293 ?_
                      refine g_iconst 2 dX11_text_294 rfl ?_
                      refine g_iadd dX11_text_295 ?_
                      refine g_aloadn_0 dX11_text_296 ?_
                      refine g_getr (q := 32) fo_11_18 pn_27 pc_27 rfl rfl dX11_text_297 ?_
                      refine g_bipush 6 dX11_text_300 rfl ?_
                      refine g_iloadn_3 dX11_text_302 ?_
                      refine g_imul dX11_text_303 ?_
                      refine g_iconst 2 dX11_text_304 rfl ?_
                      refine g_iadd dX11_text_305 ?_
                      refine g_iaload hm ar_32.1 ar_32.2 dX11_text_306 (fun hm => ?_)
                      refine g_bipush 9 dX11_text_307 rfl ?_
                      refine g_jn (J := fun (s : Sg × Int32) => GX g 77 RX11 cX11_text 4 (some .int) (some (.int r)) mm 329 [some (.ref (g.ad 27)), none, none, some (.int x41)] [.int (s.2), .int ((7 * x41) + 2), .ref (g.ad 38)] s.1) hm ?_ ?_
                      · rintro ⟨m47, x48⟩ hm
                        (try dsimp only at hm)
                        (try dsimp only)
                        refine g_iastore hm ar_38.1 ar_38.2 dX11_text_329 (fun m50 hm => ?_)
                        refine g_aloadn_0 dX11_text_330 ?_
                        refine g_getr (q := 38) fo_11_29 pn_27 pc_27 rfl rfl dX11_text_331 ?_
                        refine g_bipush 7 dX11_text_334 rfl ?_
                        refine g_iloadn_3 dX11_text_336 ?_
                        refine g_imul dX11_text_337 ?_
                        refine g_iconst 3 dX11_text_338 rfl ?_
                        refine g_iadd dX11_text_339 ?_
                        refine g_iconst (-1) dX11_text_340 rfl ?_
                        refine g_iastore hm ar_38.1 ar_38.2 dX11_text_341 (fun m51 hm => ?_)
                        refine g_iinc_3 1 hm dX11_text_342 rfl rfl (fun x52 hm => ?_)
                        refine g_goto 232 dX11_text_345 (by decide) ?_
                        cases hm
                        exact hi43 _ rfl
                      · intro k49 hk49 hm
                        refine g_icmp_ne 316 hm dX11_text_309 (by decide) (fun hm => ?_) (fun hm => ?_)
                        · refine g_iconst 1 dX11_text_316 rfl ?_
                          refine g_aloadn_0 dX11_text_317 ?_
                          refine g_getr (q := 32) fo_11_18 pn_27 pc_27 rfl rfl dX11_text_318 ?_
                          refine g_bipush 6 dX11_text_321 rfl ?_
                          refine g_iloadn_3 dX11_text_323 ?_
                          refine g_imul dX11_text_324 ?_
                          refine g_iconst 2 dX11_text_325 rfl ?_
                          refine g_iadd dX11_text_326 ?_
                          refine g_iaload hm ar_32.1 ar_32.2 dX11_text_327 (fun hm => ?_)
                          refine g_ishl dX11_text_328 ?_
                          exact hk49 _ hm
                        · refine g_iconst 0 dX11_text_312 rfl ?_
                          refine g_goto 329 dX11_text_313 (by decide) ?_
                          exact hk49 _ hm
                · rintro ⟨m33, x34⟩ o hm hx37 hi36
                  (try dsimp only [f_X11_text_L210] at hm)
                  (try dsimp only)
                  refine g_iloadn_3 dX11_text_210 ?_
                  refine g_sipush 244 dX11_text_211 rfl ?_
                  refine g_icmp_ge 230 hm dX11_text_214 (by decide) (fun hm => ?_) (fun hm => ?_)
                  · refine g_weak (vs' := [some (.ref (g.ad 27)), none, none, none]) ⟨rfl, trivial⟩ ?_
                    cases hm
                    exact hx37 _ rfl
                  · refine g_aloadn_0 dX11_text_217 ?_
                    refine g_getr (q := 38) fo_11_29 pn_27 pc_27 rfl rfl dX11_text_218 ?_
                    refine g_iloadn_3 dX11_text_221 ?_
                    refine g_iconst 0 dX11_text_222 rfl ?_
                    refine g_iastore hm ar_38.1 ar_38.2 dX11_text_223 (fun m38 hm => ?_)
                    refine g_iinc_3 1 hm dX11_text_224 rfl rfl (fun x39 hm => ?_)
                    refine g_goto 210 dX11_text_227 (by decide) ?_
                    cases hm
                    exact hi36 _ rfl
              · rintro ⟨m26, x27⟩ o hm hx30 hi29
                (try dsimp only [f_X11_text_L185] at hm)
                (try dsimp only)
                refine g_iloadn_3 dX11_text_185 ?_
                refine g_iconst 3 dX11_text_186 rfl ?_
                refine g_icmp_ge 208 hm dX11_text_187 (by decide) (fun hm => ?_) (fun hm => ?_)
                · refine g_weak (vs' := [some (.ref (g.ad 27)), none, none, none]) ⟨rfl, trivial⟩ ?_
                  cases hm
                  exact hx30 _ rfl
                · refine g_aloadn_0 dX11_text_190 ?_
                  refine g_getr (q := 36) fo_11_22 pn_27 pc_27 rfl rfl dX11_text_191 ?_
                  refine g_iloadn_3 dX11_text_194 ?_
                  refine g_aloadn_0 dX11_text_195 ?_
                  refine g_getr (q := 37) fo_11_23 pn_27 pc_27 rfl rfl dX11_text_196 ?_
                  refine g_iloadn_3 dX11_text_199 ?_
                  refine g_iaload hm ar_37.1 ar_37.2 dX11_text_200 (fun hm => ?_)
                  refine g_iastore hm ar_36.1 ar_36.2 dX11_text_201 (fun m31 hm => ?_)
                  refine g_iinc_3 1 hm dX11_text_202 rfl rfl (fun x32 hm => ?_)
                  refine g_goto 185 dX11_text_205 (by decide) ?_
                  cases hm
                  exact hi29 _ rfl
            · rintro ⟨m19, x20⟩ o hm hx23 hi22
              (try dsimp only [f_X11_text_L159] at hm)
              (try dsimp only)
              refine g_iloadn_3 dX11_text_159 ?_
              refine g_bipush 12 dX11_text_160 rfl ?_
              refine g_icmp_ge 183 hm dX11_text_162 (by decide) (fun hm => ?_) (fun hm => ?_)
              · refine g_weak (vs' := [some (.ref (g.ad 27)), none, none, none]) ⟨rfl, trivial⟩ ?_
                cases hm
                exact hx23 _ rfl
              · refine g_aloadn_0 dX11_text_165 ?_
                refine g_getr (q := 34) fo_11_20 pn_27 pc_27 rfl rfl dX11_text_166 ?_
                refine g_iloadn_3 dX11_text_169 ?_
                refine g_aloadn_0 dX11_text_170 ?_
                refine g_getr (q := 35) fo_11_21 pn_27 pc_27 rfl rfl dX11_text_171 ?_
                refine g_iloadn_3 dX11_text_174 ?_
                refine g_iaload hm ar_35.1 ar_35.2 dX11_text_175 (fun hm => ?_)
                refine g_iastore hm ar_34.1 ar_34.2 dX11_text_176 (fun m24 hm => ?_)
                refine g_iinc_3 1 hm dX11_text_177 rfl rfl (fun x25 hm => ?_)
                refine g_goto 159 dX11_text_180 (by decide) ?_
                cases hm
                exact hi22 _ rfl
          · rintro ⟨m12, x13⟩ o hm hx16 hi15
            (try dsimp only [f_X11_text_L133] at hm)
            (try dsimp only)
            refine g_iloadn_3 dX11_text_133 ?_
            refine g_bipush 48 dX11_text_134 rfl ?_
            refine g_icmp_ge 157 hm dX11_text_136 (by decide) (fun hm => ?_) (fun hm => ?_)
            · refine g_weak (vs' := [some (.ref (g.ad 27)), none, none, none]) ⟨rfl, trivial⟩ ?_
              cases hm
              exact hx16 _ rfl
            · refine g_aloadn_0 dX11_text_139 ?_
              refine g_getr (q := 32) fo_11_18 pn_27 pc_27 rfl rfl dX11_text_140 ?_
              refine g_iloadn_3 dX11_text_143 ?_
              refine g_aloadn_0 dX11_text_144 ?_
              refine g_getr (q := 33) fo_11_19 pn_27 pc_27 rfl rfl dX11_text_145 ?_
              refine g_iloadn_3 dX11_text_148 ?_
              refine g_iaload hm ar_33.1 ar_33.2 dX11_text_149 (fun hm => ?_)
              refine g_iastore hm ar_32.1 ar_32.2 dX11_text_150 (fun m17 hm => ?_)
              refine g_iinc_3 1 hm dX11_text_151 rfl rfl (fun x18 hm => ?_)
              refine g_goto 133 dX11_text_154 (by decide) ?_
              cases hm
              exact hi15 _ rfl
        · refine g_iconst 0 dX11_text_54 rfl ?_
          refine g_istoren_3 dX11_text_55 rfl ?_
          refine g_weak (vs' := [some (.ref (g.ad 27)), none, some (.int x8), some (.int 0)]) ⟨rfl, ⟨rfl, ⟨rfl, trivial⟩⟩⟩ ?_
          refine g_lp (I := fun (s : Sg × Int32) => GX g 77 RX11 cX11_text 4 (some .int) (some (.int r)) mm 56 [some (.ref (g.ad 27)), none, some (.int x8), some (.int (s.2))] [] s.1) (E := fun (s : Sg) => GX g 77 RX11 cX11_text 4 (some .int) (some (.int r)) mm 88 [some (.ref (g.ad 27)), none, some (.int x8), none] [] s) hm ?_ ?_
          · rintro m65 hm
            (try dsimp only at hm)
            (try dsimp only)
            refine g_aloadn_0 dX11_text_88 ?_
            refine g_getr (q := 30) fo_11_3 pn_27 pc_27 rfl rfl dX11_text_89 ?_
            refine g_aloadn_0 dX11_text_92 ?_
            refine g_geti fo_11_7 pn_27 pc_27 rfl dX11_text_93 ?_
            refine g_iloadn_2 dX11_text_96 ?_
            refine g_iastore hm ar_30.1 ar_30.2 dX11_text_97 (fun m70 hm => ?_)
            refine g_aloadn_0 dX11_text_98 ?_
            refine g_dup dX11_text_99 rfl ?_
            refine g_geti fo_11_7 pn_27 pc_27 rfl dX11_text_100 ?_
            refine g_iconst 1 dX11_text_103 rfl ?_
            refine g_iadd dX11_text_104 ?_
            refine g_put hm fo_11_7 fp_11_7 pn_27 pc_27 rfl dX11_text_105 (fun m71 hm => ?_)
            refine g_aloadn_0 dX11_text_108 ?_
            refine g_geti fo_11_7 pn_27 pc_27 rfl dX11_text_109 ?_
            refine g_iconst 1 dX11_text_112 rfl ?_
            refine g_isub dX11_text_113 ?_
            exact g_iret hm dX11_text_114
          · rintro ⟨m63, x64⟩ o hm hx67 hi66
            (try dsimp only [f_X11_text_L56] at hm)
            (try dsimp only)
            refine g_iloadn_3 dX11_text_56 ?_
            refine g_iloadn_2 dX11_text_57 ?_
            refine g_icmp_ge 88 hm dX11_text_58 (by decide) (fun hm => ?_) (fun hm => ?_)
            · refine g_weak (vs' := [some (.ref (g.ad 27)), none, some (.int x8), none]) ⟨rfl, ⟨rfl, trivial⟩⟩ ?_
              cases hm
              exact hx67 _ rfl
            · refine g_aloadn_0 dX11_text_61 ?_
              refine g_getr (q := 29) fo_11_2 pn_27 pc_27 rfl rfl dX11_text_62 ?_
              refine g_sipush 240 dX11_text_65 rfl ?_
              refine g_aloadn_0 dX11_text_68 ?_
              refine g_geti fo_11_7 pn_27 pc_27 rfl dX11_text_69 ?_
              refine g_imul dX11_text_72 ?_
              refine g_iloadn_3 dX11_text_73 ?_
              refine g_iadd dX11_text_74 ?_
              refine g_aloadn_0 dX11_text_75 ?_
              refine g_getr (q := 28) fo_11_1 pn_27 pc_27 rfl rfl dX11_text_76 ?_
              refine g_iloadn_3 dX11_text_79 ?_
              refine g_baload hm ar_28.1 ar_28.2 dX11_text_80 (fun hm => ?_)
              refine g_bastore hm ar_29.1 ar_29.2 dX11_text_81 (fun m68 hm => ?_)
              refine g_iinc_3 1 hm dX11_text_82 rfl rfl (fun x69 hm => ?_)
              refine g_goto 56 dX11_text_85 (by decide) ?_
              cases hm
              exact hi66 _ rfl
      · refine g_iconst (-1) dX11_text_37 rfl ?_
        exact g_iret hm dX11_text_38
    · intro k5 hk5 hm
      refine g_icmp_ne 28 hm dX11_text_17 (by decide) (fun hm => ?_) (fun hm => ?_)
      · exact hk5 _ hm
      · refine g_aloadn_0 dX11_text_20 ?_
        refine g_geti fo_11_7 pn_27 pc_27 rfl dX11_text_21 ?_
        refine g_iconst 4 dX11_text_24 rfl ?_
        refine g_icmp_eq 37 hm dX11_text_25 (by decide) (fun hm => ?_) (fun hm => ?_)
        · refine g_iconst (-1) dX11_text_37 rfl ?_
          exact g_iret hm dX11_text_38
        · exact hk5 _ hm
def f_X11_copy_L2 (w : Nat) (u : Nat) : (Sg × Int32) → Option (((Sg)) ⊕ (Sg × Int32)) := fun s => match s with
  | (m1, x2) => 
  (if 244 ≤ x2 then some (.inl m1) else
  if inr x2 244 = true then if inr x2 244 = true then bnd (wr m1 u x2.toNatClampNeg (m1.1 w x2.toNatClampNeg)) (fun m6 => bnd (x2 + 1) (fun x7 => some (.inr (m6, x7)))) else none else none)
def f_X11_copy (w : Nat) (u : Nat) (m : Sg)  : Option (Sg) :=
  lpk (f_X11_copy_L2 w u) (m, 0) (fun m3 => some m3)
set_option maxRecDepth 4000 in
theorem c_X11_copy {g : Cf} {m mm : Sg} {w : Nat} {u : Nat} (Hw : ARR g w 244 0) (Hu : ARR g u 244 0) (hm : f_X11_copy w u m  = some mm) : Cl g 0 yX11_copy cX11_copy 3 none [.ref (g.ad w), .ref (g.ad u)] m none mm := by
  refine cl_of (by decide) (Nat.le_of_ble_eq_true rfl) (vs := [some (.ref (g.ad w)), some (.ref (g.ad u)), none]) rfl rfl ?_
  show GX g 0 RX11 cX11_copy 3 none none mm 0 _ [] m
  unfold f_X11_copy at hm
  refine g_iconst 0 dX11_copy_0 rfl ?_
  refine g_istoren_2 dX11_copy_1 rfl ?_
  refine g_lp (I := fun (s : Sg × Int32) => GX g 0 RX11 cX11_copy 3 none none mm 2 [some (.ref (g.ad w)), some (.ref (g.ad u)), some (.int (s.2))] [] s.1) (E := fun (s : Sg) => GX g 0 RX11 cX11_copy 3 none none mm 21 [none, none, none] [] s) hm ?_ ?_
  · rintro m3 hm
    (try dsimp only at hm)
    (try dsimp only)
    exact g_vret hm dX11_copy_21
  · rintro ⟨m1, x2⟩ o hm hx5 hi4
    (try dsimp only [f_X11_copy_L2] at hm)
    (try dsimp only)
    refine g_iloadn_2 dX11_copy_2 ?_
    refine g_sipush 244 dX11_copy_3 rfl ?_
    refine g_icmp_ge 21 hm dX11_copy_6 (by decide) (fun hm => ?_) (fun hm => ?_)
    · refine g_weak (vs' := [none, none, none]) trivial ?_
      cases hm
      exact hx5 _ rfl
    · refine g_aloadn_1 dX11_copy_9 ?_
      refine g_iloadn_2 dX11_copy_10 ?_
      refine g_aloadn_0 dX11_copy_11 ?_
      refine g_iloadn_2 dX11_copy_12 ?_
      refine g_iaload hm Hw.1 Hw.2 dX11_copy_13 (fun hm => ?_)
      refine g_iastore hm Hu.1 Hu.2 dX11_copy_14 (fun m6 hm => ?_)
      refine g_iinc_2 1 hm dX11_copy_15 rfl rfl (fun x7 hm => ?_)
      refine g_goto 2 dX11_copy_18 (by decide) ?_
      cases hm
      exact hi4 _ rfl
def f_X11_isChild  (m : Sg) (a1 : Int32) : Option (Int32 × Sg) :=
  (if a1 < 0 then some (0, m) else
  (if (m.1 27 24) ≤ a1 then some (0, m) else
  some (1, m)))
set_option maxRecDepth 4000 in
theorem c_X11_isChild {g : Cf} {m mm : Sg} {r : Int32} {a1 : Int32} (hm : f_X11_isChild  m a1 = some (r, mm)) : Cl g 0 yX11_isChild cX11_isChild 2 (some .boolean) [.ref (g.ad 27), .int a1] m (some (.int r)) mm := by
  refine cl_of (by decide) (Nat.le_of_ble_eq_true rfl) (vs := [some (.ref (g.ad 27)), some (.int a1)]) rfl rfl ?_
  show GX g 0 RX11 cX11_isChild 2 (some .boolean) (some (.int r)) mm 0 _ [] m
  unfold f_X11_isChild at hm
  refine g_iloadn_1 dX11_isChild_0 ?_
  refine g_if_lt 16 hm dX11_isChild_1 (by decide) (fun hm => ?_) (fun hm => ?_)
  · refine g_iconst 0 dX11_isChild_16 rfl ?_
    exact g_zretc hm rfl dX11_isChild_17
  · refine g_iloadn_1 dX11_isChild_4 ?_
    refine g_aloadn_0 dX11_isChild_5 ?_
    refine g_geti fo_11_24 pn_27 pc_27 rfl dX11_isChild_6 ?_
    refine g_icmp_ge 16 hm dX11_isChild_9 (by decide) (fun hm => ?_) (fun hm => ?_)
    · refine g_iconst 0 dX11_isChild_16 rfl ?_
      exact g_zretc hm rfl dX11_isChild_17
    · refine g_iconst 1 dX11_isChild_12 rfl ?_
      refine g_goto 17 dX11_isChild_13 (by decide) ?_
      exact g_zretc hm rfl dX11_isChild_17
def f_X11_isElder  (m : Sg) (a1 : Int32) : Option (Int32 × Sg) :=
  (if a1 < 0 then some (0, m) else
  (if (m.1 27 25) ≤ a1 then some (0, m) else
  some (1, m)))
set_option maxRecDepth 4000 in
theorem c_X11_isElder {g : Cf} {m mm : Sg} {r : Int32} {a1 : Int32} (hm : f_X11_isElder  m a1 = some (r, mm)) : Cl g 0 yX11_isElder cX11_isElder 2 (some .boolean) [.ref (g.ad 27), .int a1] m (some (.int r)) mm := by
  refine cl_of (by decide) (Nat.le_of_ble_eq_true rfl) (vs := [some (.ref (g.ad 27)), some (.int a1)]) rfl rfl ?_
  show GX g 0 RX11 cX11_isElder 2 (some .boolean) (some (.int r)) mm 0 _ [] m
  unfold f_X11_isElder at hm
  refine g_iloadn_1 dX11_isElder_0 ?_
  refine g_if_lt 16 hm dX11_isElder_1 (by decide) (fun hm => ?_) (fun hm => ?_)
  · refine g_iconst 0 dX11_isElder_16 rfl ?_
    exact g_zretc hm rfl dX11_isElder_17
  · refine g_iloadn_1 dX11_isElder_4 ?_
    refine g_aloadn_0 dX11_isElder_5 ?_
    refine g_geti fo_11_25 pn_27 pc_27 rfl dX11_isElder_6 ?_
    refine g_icmp_ge 16 hm dX11_isElder_9 (by decide) (fun hm => ?_) (fun hm => ?_)
    · refine g_iconst 0 dX11_isElder_16 rfl ?_
      exact g_zretc hm rfl dX11_isElder_17
    · refine g_iconst 1 dX11_isElder_12 rfl ?_
      refine g_goto 17 dX11_isElder_13 (by decide) ?_
      exact g_zretc hm rfl dX11_isElder_17
def f_X11_rightOf (w : Nat) (m : Sg) (a1 : Int32) : Option (Int32 × Sg) :=
  if inr ((7 * a1) + 1) 244 = true then if inr ((7 * a1) + 2) 244 = true then some ((m.1 w ((7 * a1) + 1).toNatClampNeg) &&& ((m.1 w ((7 * a1) + 2).toNatClampNeg) ^^^ (-1)), m) else none else none
set_option maxRecDepth 4000 in
theorem c_X11_rightOf {g : Cf} {m mm : Sg} {r : Int32} {w : Nat} {a1 : Int32} (Hw : ARR g w 244 0) (hm : f_X11_rightOf w m a1 = some (r, mm)) : Cl g 0 yX11_rightOf cX11_rightOf 2 (some .int) [.ref (g.ad w), .int a1] m (some (.int r)) mm := by
  refine cl_of (by decide) (Nat.le_of_ble_eq_true rfl) (vs := [some (.ref (g.ad w)), some (.int a1)]) rfl rfl ?_
  show GX g 0 RX11 cX11_rightOf 2 (some .int) (some (.int r)) mm 0 _ [] m
  unfold f_X11_rightOf at hm
  refine g_aloadn_0 dX11_rightOf_0 ?_
  refine g_bipush 7 dX11_rightOf_1 rfl ?_
  refine g_iloadn_1 dX11_rightOf_3 ?_
  refine g_imul dX11_rightOf_4 ?_
  refine g_iconst 1 dX11_rightOf_5 rfl ?_
  refine g_iadd dX11_rightOf_6 ?_
  refine g_iaload hm Hw.1 Hw.2 dX11_rightOf_7 (fun hm => ?_)
  refine g_aloadn_0 dX11_rightOf_8 ?_
  refine g_bipush 7 dX11_rightOf_9 rfl ?_
  refine g_iloadn_1 dX11_rightOf_11 ?_
  refine g_imul dX11_rightOf_12 ?_
  refine g_iconst 2 dX11_rightOf_13 rfl ?_
  refine g_iadd dX11_rightOf_14 ?_
  refine g_iaload hm Hw.1 Hw.2 dX11_rightOf_15 (fun hm => ?_)
  refine g_iconst (-1) dX11_rightOf_16 rfl ?_
  refine g_ixor dX11_rightOf_17 ?_
  refine g_iand dX11_rightOf_18 ?_
  exact g_iret hm dX11_rightOf_19
def f_X11_countOf_L2 (w : Nat) (a1 : Int32) : (Sg × Int32) → Option (((Sg × Int32)) ⊕ (Sg × Int32)) := fun s => match s with
  | (m1, x2) => 
  (if 9 ≤ x2 then some (.inl (m1, x2)) else
  cal (f_X11_rightOf w m1 a1) (fun x8 m7 => cal (f_X11_has m7 x8 x2) (fun x10 m9 => (if x10 = 0 then some (.inl (m9, x2)) else
  bnd (x2 + 1) (fun x11 => some (.inr (m9, x11)))))))
def f_X11_countOf (w : Nat) (m : Sg) (a1 : Int32) : Option (Int32 × Sg) :=
  lpk (f_X11_countOf_L2 w a1) (m, 0) (fun ((m3, x4) : Sg × Int32) => some (10 * x4, m3))
set_option maxRecDepth 4000 in
theorem c_X11_countOf {g : Cf} {m mm : Sg} {r : Int32} {w : Nat} {a1 : Int32} (Hw : ARR g w 244 0) (hm : f_X11_countOf w m a1 = some (r, mm)) : Cl g 1 yX11_countOf cX11_countOf 3 (some .int) [.ref (g.ad w), .int a1] m (some (.int r)) mm := by
  refine cl_of (by decide) (Nat.le_of_ble_eq_true rfl) (vs := [some (.ref (g.ad w)), some (.int a1), none]) rfl rfl ?_
  show GX g 1 RX11 cX11_countOf 3 (some .int) (some (.int r)) mm 0 _ [] m
  unfold f_X11_countOf at hm
  refine g_iconst 0 dX11_countOf_0 rfl ?_
  refine g_istoren_2 dX11_countOf_1 rfl ?_
  refine g_lp (I := fun (s : Sg × Int32) => GX g 1 RX11 cX11_countOf 3 (some .int) (some (.int r)) mm 2 [some (.ref (g.ad w)), some (.int a1), some (.int (s.2))] [] s.1) (E := fun (s : Sg × Int32) => GX g 1 RX11 cX11_countOf 3 (some .int) (some (.int r)) mm 26 [none, none, some (.int (s.2))] [] s.1) hm ?_ ?_
  · rintro ⟨m3, x4⟩ hm
    (try dsimp only at hm)
    (try dsimp only)
    refine g_bipush 10 dX11_countOf_26 rfl ?_
    refine g_iloadn_2 dX11_countOf_28 ?_
    refine g_imul dX11_countOf_29 ?_
    exact g_iret hm dX11_countOf_30
  · rintro ⟨m1, x2⟩ o hm hx6 hi5
    (try dsimp only [f_X11_countOf_L2] at hm)
    (try dsimp only)
    refine g_iloadn_2 dX11_countOf_2 ?_
    refine g_bipush 9 dX11_countOf_3 rfl ?_
    refine g_icmp_ge 26 hm dX11_countOf_5 (by decide) (fun hm => ?_) (fun hm => ?_)
    · refine g_weak (vs' := [none, none, some (.int x2)]) ⟨rfl, trivial⟩ ?_
      cases hm
      exact hx6 _ rfl
    · refine g_aloadn_0 dX11_countOf_8 ?_
      refine g_iloadn_1 dX11_countOf_9 ?_
      refine g_s2 hm (fun _ _ h => c_X11_rightOf Hw h) ce_X11_rightOf lk_X11_272 rfl rfl dX11_countOf_10 (fun x8 m7 hm => ?_)
      refine g_iloadn_2 dX11_countOf_13 ?_
      refine g_s2 hm (fun _ _ h => c_X11_has h) ce_X11_has lk_X11_213 rfl rfl dX11_countOf_14 (fun x10 m9 hm => ?_)
      refine g_if_eq 26 hm dX11_countOf_17 (by decide) (fun hm => ?_) (fun hm => ?_)
      · refine g_weak (vs' := [none, none, some (.int x2)]) ⟨rfl, trivial⟩ ?_
        cases hm
        exact hx6 _ rfl
      · refine g_iinc_2 1 hm dX11_countOf_20 rfl rfl (fun x11 hm => ?_)
        refine g_goto 2 dX11_countOf_23 (by decide) ?_
        cases hm
        exact hi5 _ rfl
def f_X11_asks_L6 (w : Nat) (a1 : Int32) (a2 : Int32) : (Sg × Int32 × Int32) → Option (((Sg × Int32)) ⊕ (Sg × Int32 × Int32)) := fun s => match s with
  | (m1, x2, x3) => 
  (if (m1.1 36 1) ≤ x3 then some (.inl (m1, x2)) else
  if inr (56 + a1) 244 = true then cal (f_X11_has m1 (m1.1 w (56 + a1).toNatClampNeg) x3) (fun x9 m8 => bnd (fun ((m10, x11) : Sg × Int32) => bnd (x2 ||| x11) (fun x13 => bnd (x3 + 1) (fun x14 => some (.inr (m10, x13, x14))))) (fun (k12 : Sg × Int32 → Option (((Sg × Int32)) ⊕ (Sg × Int32 × Int32))) =>
  bnd (fun (m15 : Sg) => k12 (m15, 0)) (fun (k16 : Sg → Option (((Sg × Int32)) ⊕ (Sg × Int32 × Int32))) =>
  (if x9 = 0 then k16 m8 else
  if (!(decide (a2 = 0))) = true then (if (x3 - x3 / a2 * a2) = 0 then k12 (m8, (1 <<< (x3 &&& 31))) else
  k16 m8) else none)))) else none)
def f_X11_asks (w : Nat) (m : Sg) (a1 : Int32) (a2 : Int32) : Option (Int32 × Sg) :=
  lpk (f_X11_asks_L6 w a1 a2) (m, 0, 0) (fun ((m4, x5) : Sg × Int32) => some (x5, m4))
set_option maxRecDepth 4000 in
theorem c_X11_asks {g : Cf} {m mm : Sg} {r : Int32} {w : Nat} {a1 : Int32} {a2 : Int32} (Hw : ARR g w 244 0) (hm : f_X11_asks w m a1 a2 = some (r, mm)) : Cl g 1 yX11_asks cX11_asks 6 (some .int) [.ref (g.ad 27), .ref (g.ad w), .int a1, .int a2] m (some (.int r)) mm := by
  refine cl_of (by decide) (Nat.le_of_ble_eq_true rfl) (vs := [some (.ref (g.ad 27)), some (.ref (g.ad w)), some (.int a1), some (.int a2), none, none]) rfl rfl ?_
  show GX g 1 RX11 cX11_asks 6 (some .int) (some (.int r)) mm 0 _ [] m
  unfold f_X11_asks at hm
  refine g_iconst 0 dX11_asks_0 rfl ?_
  refine g_istore_4 dX11_asks_1 rfl ?_
  refine g_iconst 0 dX11_asks_3 rfl ?_
  refine g_istore_5 dX11_asks_4 rfl ?_
  refine g_lp (I := fun (s : Sg × Int32 × Int32) => GX g 1 RX11 cX11_asks 6 (some .int) (some (.int r)) mm 6 [some (.ref (g.ad 27)), some (.ref (g.ad w)), some (.int a1), some (.int a2), some (.int (s.2.1)), some (.int (s.2.2))] [] s.1) (E := fun (s : Sg × Int32) => GX g 1 RX11 cX11_asks 6 (some .int) (some (.int r)) mm 57 [none, none, none, none, some (.int (s.2)), none] [] s.1) hm ?_ ?_
  · rintro ⟨m4, x5⟩ hm
    (try dsimp only at hm)
    (try dsimp only)
    refine g_iload_4 dX11_asks_57 ?_
    exact g_iret hm dX11_asks_59
  · rintro ⟨m1, x2, x3⟩ o hm hx7 hi6
    (try dsimp only [f_X11_asks_L6] at hm)
    (try dsimp only)
    refine g_iload_5 dX11_asks_6 ?_
    refine g_aloadn_0 dX11_asks_8 ?_
    refine g_getr (q := 36) fo_11_22 pn_27 pc_27 rfl rfl dX11_asks_9 ?_
    refine g_iconst 1 dX11_asks_12 rfl ?_
    refine g_ialoadc 1 rfl rfl ar_36.1 ar_36.2 dX11_asks_13 ?_
    refine g_icmp_ge 57 hm dX11_asks_14 (by decide) (fun hm => ?_) (fun hm => ?_)
    · refine g_weak (vs' := [none, none, none, none, some (.int x2), none]) ⟨rfl, trivial⟩ ?_
      cases hm
      exact hx7 _ rfl
    · refine g_iload_4 dX11_asks_17 ?_
      refine g_aloadn_1 dX11_asks_19 ?_
      refine g_bipush 56 dX11_asks_20 rfl ?_
      refine g_iloadn_2 dX11_asks_22 ?_
      refine g_iadd dX11_asks_23 ?_
      refine g_iaload hm Hw.1 Hw.2 dX11_asks_24 (fun hm => ?_)
      refine g_iload_5 dX11_asks_25 ?_
      refine g_s2 hm (fun _ _ h => c_X11_has h) ce_X11_has lk_X11_213 rfl rfl dX11_asks_27 (fun x9 m8 hm => ?_)
      refine g_jn (J := fun (s : Sg × Int32) => GX g 1 RX11 cX11_asks 6 (some .int) (some (.int r)) mm 48 [some (.ref (g.ad 27)), some (.ref (g.ad w)), some (.int a1), some (.int a2), none, some (.int x3)] [.int (s.2), .int x2] s.1) hm ?_ ?_
      · rintro ⟨m10, x11⟩ hm
        (try dsimp only at hm)
        (try dsimp only)
        refine g_ior dX11_asks_48 ?_
        refine g_istoreB_4 hm dX11_asks_49 rfl (fun x13 hm => ?_)
        refine g_iinc_5 1 hm dX11_asks_51 rfl rfl (fun x14 hm => ?_)
        refine g_goto 6 dX11_asks_54 (by decide) ?_
        cases hm
        exact hi6 _ rfl
      · intro k12 hk12 hm
        refine g_jn (J := fun (s : Sg) => GX g 1 RX11 cX11_asks 6 (some .int) (some (.int r)) mm 47 [some (.ref (g.ad 27)), some (.ref (g.ad w)), some (.int a1), some (.int a2), none, some (.int x3)] [.int x2] s) hm ?_ ?_
        · intro m15 hm
          refine g_iconst 0 dX11_asks_47 rfl ?_
          exact hk12 _ hm
        · intro k16 hk16 hm
          refine g_if_eq 47 hm dX11_asks_30 (by decide) (fun hm => ?_) (fun hm => ?_)
          · refine g_weak (vs' := [some (.ref (g.ad 27)), some (.ref (g.ad w)), some (.int a1), some (.int a2), none, some (.int x3)]) ⟨rfl, ⟨rfl, ⟨rfl, ⟨rfl, ⟨rfl, trivial⟩⟩⟩⟩⟩ ?_
            exact hk16 _ hm
          · refine g_iload_5 dX11_asks_33 ?_
            refine g_iloadn_3 dX11_asks_35 ?_
            refine g_iremN hm dX11_asks_36 (fun hm => ?_)
            refine g_if_ne 47 hm dX11_asks_37 (by decide) (fun hm => ?_) (fun hm => ?_)
            · refine g_weak (vs' := [some (.ref (g.ad 27)), some (.ref (g.ad w)), some (.int a1), some (.int a2), none, some (.int x3)]) ⟨rfl, ⟨rfl, ⟨rfl, ⟨rfl, ⟨rfl, trivial⟩⟩⟩⟩⟩ ?_
              exact hk16 _ hm
            · refine g_iconst 1 dX11_asks_40 rfl ?_
              refine g_iload_5 dX11_asks_41 ?_
              refine g_ishl dX11_asks_43 ?_
              refine g_goto 48 dX11_asks_44 (by decide) ?_
              refine g_weak (vs' := [some (.ref (g.ad 27)), some (.ref (g.ad w)), some (.int a1), some (.int a2), none, some (.int x3)]) ⟨rfl, ⟨rfl, ⟨rfl, ⟨rfl, ⟨rfl, trivial⟩⟩⟩⟩⟩ ?_
              exact hk12 _ hm
def f_X11_slipsOf (w : Nat) (m : Sg) (a1 : Int32) (a2 : Int32) : Option (Int32 × Sg) :=
  if inr ((6 * a1) + 5) 48 = true then cal (f_X11_asks w m a2 (m.1 32 ((6 * a1) + 5).toNatClampNeg)) (fun x2 m1 => cal (f_X11_rightOf w m1 a1) (fun x4 m3 => some (x2 &&& (x4 ^^^ (-1)), m3))) else none
set_option maxRecDepth 4000 in
theorem c_X11_slipsOf {g : Cf} {m mm : Sg} {r : Int32} {w : Nat} {a1 : Int32} {a2 : Int32} (Hw : ARR g w 244 0) (hm : f_X11_slipsOf w m a1 a2 = some (r, mm)) : Cl g 2 yX11_slipsOf cX11_slipsOf 4 (some .int) [.ref (g.ad 27), .ref (g.ad w), .int a1, .int a2] m (some (.int r)) mm := by
  refine cl_of (by decide) (Nat.le_of_ble_eq_true rfl) (vs := [some (.ref (g.ad 27)), some (.ref (g.ad w)), some (.int a1), some (.int a2)]) rfl rfl ?_
  show GX g 2 RX11 cX11_slipsOf 4 (some .int) (some (.int r)) mm 0 _ [] m
  unfold f_X11_slipsOf at hm
  refine g_aloadn_0 dX11_slipsOf_0 ?_
  refine g_aloadn_1 dX11_slipsOf_1 ?_
  refine g_iloadn_3 dX11_slipsOf_2 ?_
  refine g_aloadn_0 dX11_slipsOf_3 ?_
  refine g_getr (q := 32) fo_11_18 pn_27 pc_27 rfl rfl dX11_slipsOf_4 ?_
  refine g_bipush 6 dX11_slipsOf_7 rfl ?_
  refine g_iloadn_2 dX11_slipsOf_9 ?_
  refine g_imul dX11_slipsOf_10 ?_
  refine g_iconst 5 dX11_slipsOf_11 rfl ?_
  refine g_iadd dX11_slipsOf_12 ?_
  refine g_iaload hm ar_32.1 ar_32.2 dX11_slipsOf_13 (fun hm => ?_)
  refine g_v3 hm (fun _ _ h => c_X11_asks Hw h) pn_27 (pc_27 _ _) rfl ce_X11_asks lk_X11_276 rfl rfl dX11_slipsOf_14 (fun x2 m1 hm => ?_)
  refine g_aloadn_1 dX11_slipsOf_17 ?_
  refine g_iloadn_2 dX11_slipsOf_18 ?_
  refine g_s2 hm (fun _ _ h => c_X11_rightOf Hw h) ce_X11_rightOf lk_X11_272 rfl rfl dX11_slipsOf_19 (fun x4 m3 hm => ?_)
  refine g_iconst (-1) dX11_slipsOf_22 rfl ?_
  refine g_ixor dX11_slipsOf_23 ?_
  refine g_iand dX11_slipsOf_24 ?_
  exact g_iret hm dX11_slipsOf_25
def f_X11_examinerOf_L5 (w : Nat) (a1 : Int32) : (Sg × Int32 × Int32) → Option (((Sg × Int32)) ⊕ (Sg × Int32 × Int32)) := fun s => match s with
  | (m1, x2, x3) => 
  (if (m1.1 27 25) ≤ x3 then some (.inl (m1, x2)) else
  cal (f_X11_has m1 a1 x3) (fun x9 m8 => bnd (fun ((m10, x11) : Sg × Int32) => bnd (x3 + 1) (fun x13 => some (.inr (m10, x11, x13)))) (fun (k12 : Sg × Int32 → Option (((Sg × Int32)) ⊕ (Sg × Int32 × Int32))) =>
  (if x9 = 0 then cal (f_X11_asks w m8 x3 1) (fun x15 m14 => (if x15 = 0 then k12 (m14, x2) else
  bnd (fun (m16 : Sg) => k12 (m16, x3)) (fun (k17 : Sg → Option (((Sg × Int32)) ⊕ (Sg × Int32 × Int32))) =>
  (if x2 = (-1) then k17 m14 else
  if inr (3 * x3) 12 = true then if inr (3 * x2) 12 = true then (if (m14.1 34 (3 * x3).toNatClampNeg) ≤ (m14.1 34 (3 * x2).toNatClampNeg) then k12 (m14, x2) else
  k17 m14) else none else none)))) else
  k12 (m8, x2)))))
def f_X11_examinerOf (w : Nat) (m : Sg) (a1 : Int32) : Option (Int32 × Sg) :=
  lpk (f_X11_examinerOf_L5 w a1) (m, (-1), 0) (fun ((m4, x5) : Sg × Int32) => some (x5, m4))
set_option maxRecDepth 4000 in
theorem c_X11_examinerOf {g : Cf} {m mm : Sg} {r : Int32} {w : Nat} {a1 : Int32} (Hw : ARR g w 244 0) (hm : f_X11_examinerOf w m a1 = some (r, mm)) : Cl g 2 yX11_examinerOf cX11_examinerOf 5 (some .int) [.ref (g.ad 27), .ref (g.ad w), .int a1] m (some (.int r)) mm := by
  refine cl_of (by decide) (Nat.le_of_ble_eq_true rfl) (vs := [some (.ref (g.ad 27)), some (.ref (g.ad w)), some (.int a1), none, none]) rfl rfl ?_
  show GX g 2 RX11 cX11_examinerOf 5 (some .int) (some (.int r)) mm 0 _ [] m
  unfold f_X11_examinerOf at hm
  refine g_iconst (-1) dX11_examinerOf_0 rfl ?_
  refine g_istoren_3 dX11_examinerOf_1 rfl ?_
  refine g_iconst 0 dX11_examinerOf_2 rfl ?_
  refine g_istore_4 dX11_examinerOf_3 rfl ?_
  refine g_lp (I := fun (s : Sg × Int32 × Int32) => GX g 2 RX11 cX11_examinerOf 5 (some .int) (some (.int r)) mm 5 [some (.ref (g.ad 27)), some (.ref (g.ad w)), some (.int a1), some (.int (s.2.1)), some (.int (s.2.2))] [] s.1) (E := fun (s : Sg × Int32) => GX g 2 RX11 cX11_examinerOf 5 (some .int) (some (.int r)) mm 71 [none, none, none, some (.int (s.2)), none] [] s.1) hm ?_ ?_
  · rintro ⟨m4, x5⟩ hm
    (try dsimp only at hm)
    (try dsimp only)
    refine g_iloadn_3 dX11_examinerOf_71 ?_
    exact g_iret hm dX11_examinerOf_72
  · rintro ⟨m1, x2, x3⟩ o hm hx7 hi6
    (try dsimp only [f_X11_examinerOf_L5] at hm)
    (try dsimp only)
    refine g_iload_4 dX11_examinerOf_5 ?_
    refine g_aloadn_0 dX11_examinerOf_7 ?_
    refine g_geti fo_11_25 pn_27 pc_27 rfl dX11_examinerOf_8 ?_
    refine g_icmp_ge 71 hm dX11_examinerOf_11 (by decide) (fun hm => ?_) (fun hm => ?_)
    · refine g_weak (vs' := [none, none, none, some (.int x2), none]) ⟨rfl, trivial⟩ ?_
      cases hm
      exact hx7 _ rfl
    · refine g_iloadn_2 dX11_examinerOf_14 ?_
      refine g_iload_4 dX11_examinerOf_15 ?_
      refine g_s2 hm (fun _ _ h => c_X11_has h) ce_X11_has lk_X11_213 rfl rfl dX11_examinerOf_17 (fun x9 m8 hm => ?_)
      refine g_jn (J := fun (s : Sg × Int32) => GX g 2 RX11 cX11_examinerOf 5 (some .int) (some (.int r)) mm 65 [some (.ref (g.ad 27)), some (.ref (g.ad w)), some (.int a1), some (.int (s.2)), some (.int x3)] [] s.1) hm ?_ ?_
      · rintro ⟨m10, x11⟩ hm
        (try dsimp only at hm)
        (try dsimp only)
        refine g_iinc_4 1 hm dX11_examinerOf_65 rfl rfl (fun x13 hm => ?_)
        refine g_goto 5 dX11_examinerOf_68 (by decide) ?_
        cases hm
        exact hi6 _ rfl
      · intro k12 hk12 hm
        refine g_if_ne 65 hm dX11_examinerOf_20 (by decide) (fun hm => ?_) (fun hm => ?_)
        · exact hk12 _ hm
        · refine g_aloadn_0 dX11_examinerOf_23 ?_
          refine g_aloadn_1 dX11_examinerOf_24 ?_
          refine g_iload_4 dX11_examinerOf_25 ?_
          refine g_iconst 1 dX11_examinerOf_27 rfl ?_
          refine g_v3 hm (fun _ _ h => c_X11_asks Hw h) pn_27 (pc_27 _ _) rfl ce_X11_asks lk_X11_276 rfl rfl dX11_examinerOf_28 (fun x15 m14 hm => ?_)
          refine g_if_ne 37 hm dX11_examinerOf_31 (by decide) (fun hm => ?_) (fun hm => ?_)
          · refine g_iloadn_3 dX11_examinerOf_37 ?_
            refine g_iconst (-1) dX11_examinerOf_38 rfl ?_
            refine g_jn (J := fun (s : Sg) => GX g 2 RX11 cX11_examinerOf 5 (some .int) (some (.int r)) mm 62 [some (.ref (g.ad 27)), some (.ref (g.ad w)), some (.int a1), none, some (.int x3)] [] s) hm ?_ ?_
            · intro m16 hm
              refine g_iload_4 dX11_examinerOf_62 ?_
              refine g_istoren_3 dX11_examinerOf_64 rfl ?_
              exact hk12 _ hm
            · intro k17 hk17 hm
              refine g_icmp_eq 62 hm dX11_examinerOf_39 (by decide) (fun hm => ?_) (fun hm => ?_)
              · refine g_weak (vs' := [some (.ref (g.ad 27)), some (.ref (g.ad w)), some (.int a1), none, some (.int x3)]) ⟨rfl, ⟨rfl, ⟨rfl, ⟨rfl, trivial⟩⟩⟩⟩ ?_
                exact hk17 _ hm
              · refine g_aloadn_0 dX11_examinerOf_42 ?_
                refine g_getr (q := 34) fo_11_20 pn_27 pc_27 rfl rfl dX11_examinerOf_43 ?_
                refine g_iconst 3 dX11_examinerOf_46 rfl ?_
                refine g_iload_4 dX11_examinerOf_47 ?_
                refine g_imul dX11_examinerOf_49 ?_
                refine g_iaload hm ar_34.1 ar_34.2 dX11_examinerOf_50 (fun hm => ?_)
                refine g_aloadn_0 dX11_examinerOf_51 ?_
                refine g_getr (q := 34) fo_11_20 pn_27 pc_27 rfl rfl dX11_examinerOf_52 ?_
                refine g_iconst 3 dX11_examinerOf_55 rfl ?_
                refine g_iloadn_3 dX11_examinerOf_56 ?_
                refine g_imul dX11_examinerOf_57 ?_
                refine g_iaload hm ar_34.1 ar_34.2 dX11_examinerOf_58 (fun hm => ?_)
                refine g_icmp_le 65 hm dX11_examinerOf_59 (by decide) (fun hm => ?_) (fun hm => ?_)
                · exact hk12 _ hm
                · refine g_weak (vs' := [some (.ref (g.ad 27)), some (.ref (g.ad w)), some (.int a1), none, some (.int x3)]) ⟨rfl, ⟨rfl, ⟨rfl, ⟨rfl, trivial⟩⟩⟩⟩ ?_
                  exact hk17 _ hm
          · refine g_goto 65 dX11_examinerOf_34 (by decide) ?_
            exact hk12 _ hm
def f_X11_taxBy  (m : Sg) (a1 : Int32) (a2 : Int32) (a3 : Int32) (a4 : Int32) (a5 : Int32) (a6 : Int32) : Option (Int32 × Sg) :=
  (if (m.1 27 31) = (-1) then some (a1, m) else
  bnd (wr m 31 99 a1) (fun m1 => bnd (wr m1 31 97 a2) (fun m2 => bnd (wr m2 31 107 a3) (fun m3 => bnd (wr m3 31 110 a4) (fun m4 => bnd (wr m4 31 109 a5) (fun m5 => bnd (wr m5 31 119 a6) (fun m6 => if inr (m6.1 27 31) 4 = true then calv (f_X11_goThrough 1 m6 (240 * (m6.1 27 31)) (m6.1 30 (m6.1 27 31).toNatClampNeg)) (fun m7 => some ((if (0 : Int32) < (if (m7.1 27 14) < a1 then (m7.1 27 14) else a1) then (if (m7.1 27 14) < a1 then (m7.1 27 14) else a1) else 0), m7)) else none)))))))
set_option maxRecDepth 4000 in
theorem c_X11_taxBy {g : Cf} {m mm : Sg} {r : Int32} {a1 : Int32} {a2 : Int32} {a3 : Int32} {a4 : Int32} {a5 : Int32} {a6 : Int32} (HX : XOK g) (hm : f_X11_taxBy  m a1 a2 a3 a4 a5 a6 = some (r, mm)) : Cl g 76 yX11_taxBy cX11_taxBy 7 (some .int) [.ref (g.ad 27), .int a1, .int a2, .int a3, .int a4, .int a5, .int a6] m (some (.int r)) mm := by
  refine cl_of (by decide) (Nat.le_of_ble_eq_true rfl) (vs := [some (.ref (g.ad 27)), some (.int a1), some (.int a2), some (.int a3), some (.int a4), some (.int a5), some (.int a6)]) rfl rfl ?_
  show GX g 76 RX11 cX11_taxBy 7 (some .int) (some (.int r)) mm 0 _ [] m
  unfold f_X11_taxBy at hm
  refine g_aloadn_0 dX11_taxBy_0 ?_
  refine g_geti fo_11_31 pn_27 pc_27 rfl dX11_taxBy_1 ?_
  refine g_iconst (-1) dX11_taxBy_4 rfl ?_
  refine g_icmp_ne 10 hm dX11_taxBy_5 (by decide) (fun hm => ?_) (fun hm => ?_)
  · refine g_aloadn_0 dX11_taxBy_10 ?_
    refine g_getr (q := 31) fo_11_4 pn_27 pc_27 rfl rfl dX11_taxBy_11 ?_
    refine g_bipush 99 dX11_taxBy_14 rfl ?_
    refine g_iloadn_1 dX11_taxBy_16 ?_
    refine g_iastorec 99 hm rfl rfl ar_31.1 ar_31.2 dX11_taxBy_17 (fun m1 hm => ?_)
    refine g_aloadn_0 dX11_taxBy_18 ?_
    refine g_getr (q := 31) fo_11_4 pn_27 pc_27 rfl rfl dX11_taxBy_19 ?_
    refine g_bipush 97 dX11_taxBy_22 rfl ?_
    refine g_iloadn_2 dX11_taxBy_24 ?_
    refine g_iastorec 97 hm rfl rfl ar_31.1 ar_31.2 dX11_taxBy_25 (fun m2 hm => ?_)
    refine g_aloadn_0 dX11_taxBy_26 ?_
    refine g_getr (q := 31) fo_11_4 pn_27 pc_27 rfl rfl dX11_taxBy_27 ?_
    refine g_bipush 107 dX11_taxBy_30 rfl ?_
    refine g_iloadn_3 dX11_taxBy_32 ?_
    refine g_iastorec 107 hm rfl rfl ar_31.1 ar_31.2 dX11_taxBy_33 (fun m3 hm => ?_)
    refine g_aloadn_0 dX11_taxBy_34 ?_
    refine g_getr (q := 31) fo_11_4 pn_27 pc_27 rfl rfl dX11_taxBy_35 ?_
    refine g_bipush 110 dX11_taxBy_38 rfl ?_
    refine g_iload_4 dX11_taxBy_40 ?_
    refine g_iastorec 110 hm rfl rfl ar_31.1 ar_31.2 dX11_taxBy_42 (fun m4 hm => ?_)
    refine g_aloadn_0 dX11_taxBy_43 ?_
    refine g_getr (q := 31) fo_11_4 pn_27 pc_27 rfl rfl dX11_taxBy_44 ?_
    refine g_bipush 109 dX11_taxBy_47 rfl ?_
    refine g_iload_5 dX11_taxBy_49 ?_
    refine g_iastorec 109 hm rfl rfl ar_31.1 ar_31.2 dX11_taxBy_51 (fun m5 hm => ?_)
    refine g_aloadn_0 dX11_taxBy_52 ?_
    refine g_getr (q := 31) fo_11_4 pn_27 pc_27 rfl rfl dX11_taxBy_53 ?_
    refine g_bipush 119 dX11_taxBy_56 rfl ?_
    refine g_iload_6 dX11_taxBy_58 ?_
    refine g_iastorec 119 hm rfl rfl ar_31.1 ar_31.2 dX11_taxBy_60 (fun m6 hm => ?_)
    refine g_aloadn_0 dX11_taxBy_61 ?_
    refine g_aloadn_0 dX11_taxBy_62 ?_
    refine g_getr (q := 29) fo_11_2 pn_27 pc_27 rfl rfl dX11_taxBy_63 ?_
    refine g_sipush 240 dX11_taxBy_66 rfl ?_
    refine g_aloadn_0 dX11_taxBy_69 ?_
    refine g_geti fo_11_31 pn_27 pc_27 rfl dX11_taxBy_70 ?_
    refine g_imul dX11_taxBy_73 ?_
    refine g_aloadn_0 dX11_taxBy_74 ?_
    refine g_getr (q := 30) fo_11_3 pn_27 pc_27 rfl rfl dX11_taxBy_75 ?_
    refine g_aloadn_0 dX11_taxBy_78 ?_
    refine g_geti fo_11_31 pn_27 pc_27 rfl dX11_taxBy_79 ?_
    refine g_iaload hm ar_30.1 ar_30.2 dX11_taxBy_82 (fun hm => ?_)
    refine g_v3V hm (fun _ h => c_X11_goThrough HX txt_29 h) pn_27 (pc_27 _ _) rfl ce_X11_goThrough lk_X11_252 rfl rfl dX11_taxBy_83 (fun m7 hm => ?_)
    refine g_iconst 0 dX11_taxBy_86 rfl ?_
    refine g_iloadn_1 dX11_taxBy_87 ?_
    refine g_aloadn_0 dX11_taxBy_88 ?_
    refine g_geti fo_11_14 pn_27 pc_27 rfl dX11_taxBy_89 ?_
    refine g_mmin lk_X11_280 rfl rfl dX11_taxBy_92 ?_
    refine g_mmax lk_X11_282 rfl rfl dX11_taxBy_95 ?_
    exact g_iret hm dX11_taxBy_98
  · refine g_iloadn_1 dX11_taxBy_8 ?_
    exact g_iret hm dX11_taxBy_9
def f_X11_taxOf (w : Nat) (m : Sg) (a1 : Int32) : Option (Int32 × Sg) :=
  cal (f_X11_countOf w m a1) (fun x2 m1 => if inr ((7 * a1) + 0) 244 = true then cal (f_X11_rightOf w m1 a1) (fun x4 m3 => cal (f_J6_bitCount_0f7a4 m3 x4) (fun x6 m5 => if inr ((6 * a1) + 3) 48 = true then if inr ((7 * a1) + 2) 244 = true then cal (f_J6_bitCount_0f7a4 m5 (m5.1 w ((7 * a1) + 2).toNatClampNeg)) (fun x8 m7 => cal (f_X11_taxBy m7 x2 (m1.1 w ((7 * a1) + 0).toNatClampNeg) x6 (m5.1 32 ((6 * a1) + 3).toNatClampNeg) (m5.1 w 60) x8) (fun x10 m9 => some (x10, m9))) else none else none)) else none)
set_option maxRecDepth 4000 in
theorem c_X11_taxOf {g : Cf} {m mm : Sg} {r : Int32} {w : Nat} {a1 : Int32} (HX : XOK g) (Hw : ARR g w 244 0) (hm : f_X11_taxOf w m a1 = some (r, mm)) : Cl g 77 yX11_taxOf cX11_taxOf 3 (some .int) [.ref (g.ad 27), .ref (g.ad w), .int a1] m (some (.int r)) mm := by
  refine cl_of (by decide) (Nat.le_of_ble_eq_true rfl) (vs := [some (.ref (g.ad 27)), some (.ref (g.ad w)), some (.int a1)]) rfl rfl ?_
  show GX g 77 RX11 cX11_taxOf 3 (some .int) (some (.int r)) mm 0 _ [] m
  unfold f_X11_taxOf at hm
  refine g_aloadn_0 dX11_taxOf_0 ?_
  refine g_aloadn_1 dX11_taxOf_1 ?_
  refine g_iloadn_2 dX11_taxOf_2 ?_
  refine g_s2 hm (fun _ _ h => c_X11_countOf Hw h) ce_X11_countOf lk_X11_284 rfl rfl dX11_taxOf_3 (fun x2 m1 hm => ?_)
  refine g_aloadn_1 dX11_taxOf_6 ?_
  refine g_bipush 7 dX11_taxOf_7 rfl ?_
  refine g_iloadn_2 dX11_taxOf_9 ?_
  refine g_imul dX11_taxOf_10 ?_
  refine g_iconst 0 dX11_taxOf_11 rfl ?_
  refine g_iadd dX11_taxOf_12 ?_
  refine g_iaload hm Hw.1 Hw.2 dX11_taxOf_13 (fun hm => ?_)
  refine g_aloadn_1 dX11_taxOf_14 ?_
  refine g_iloadn_2 dX11_taxOf_15 ?_
  refine g_s2 hm (fun _ _ h => c_X11_rightOf Hw h) ce_X11_rightOf lk_X11_272 rfl rfl dX11_taxOf_16 (fun x4 m3 hm => ?_)
  refine g_s1 hm (fun _ _ h => c_J6_bitCount_0f7a4 h) ce_J6_bitCount_0f7a4 lk_X11_287 rfl rfl dX11_taxOf_19 (fun x6 m5 hm => ?_)
  refine g_aloadn_0 dX11_taxOf_22 ?_
  refine g_getr (q := 32) fo_11_18 pn_27 pc_27 rfl rfl dX11_taxOf_23 ?_
  refine g_bipush 6 dX11_taxOf_26 rfl ?_
  refine g_iloadn_2 dX11_taxOf_28 ?_
  refine g_imul dX11_taxOf_29 ?_
  refine g_iconst 3 dX11_taxOf_30 rfl ?_
  refine g_iadd dX11_taxOf_31 ?_
  refine g_iaload hm ar_32.1 ar_32.2 dX11_taxOf_32 (fun hm => ?_)
  refine g_aloadn_1 dX11_taxOf_33 ?_
  refine g_bipush 60 dX11_taxOf_34 rfl ?_
  refine g_ialoadc 60 rfl rfl Hw.1 Hw.2 dX11_taxOf_36 ?_
  refine g_aloadn_1 dX11_taxOf_37 ?_
  refine g_bipush 7 dX11_taxOf_38 rfl ?_
  refine g_iloadn_2 dX11_taxOf_40 ?_
  refine g_imul dX11_taxOf_41 ?_
  refine g_iconst 2 dX11_taxOf_42 rfl ?_
  refine g_iadd dX11_taxOf_43 ?_
  refine g_iaload hm Hw.1 Hw.2 dX11_taxOf_44 (fun hm => ?_)
  refine g_s1 hm (fun _ _ h => c_J6_bitCount_0f7a4 h) ce_J6_bitCount_0f7a4 lk_X11_287 rfl rfl dX11_taxOf_45 (fun x8 m7 hm => ?_)
  refine g_v6 hm (fun _ _ h => c_X11_taxBy HX h) pn_27 (pc_27 _ _) rfl ce_X11_taxBy lk_X11_292 rfl rfl dX11_taxOf_48 (fun x10 m9 hm => ?_)
  exact g_iret hm dX11_taxOf_51
def f_X11_child  (m : Sg) (a1 : Int32) (a2 : Int32) : Option (Int32 × Sg) :=
  cal (f_X11_isChild m a1) (fun x2 m1 => bnd (fun ((m3, x4) : Sg × Int32) => bnd (wr m3 27 0 x4) (fun m6 => (if (m6.1 27 0) ≤ 0 then (if a2 = 0 then if inr ((7 * a1) + 0) 244 = true then some (m6.1 38 ((7 * a1) + 0).toNatClampNeg, m6) else none else
  (if a2 = 1 then if inr ((7 * a1) + 1) 244 = true then some (m6.1 38 ((7 * a1) + 1).toNatClampNeg, m6) else none else
  (if a2 = 2 then if inr ((7 * a1) + 2) 244 = true then some (m6.1 38 ((7 * a1) + 2).toNatClampNeg, m6) else none else
  (if a2 = 3 then if inr ((6 * a1) + a2) 48 = true then some (m6.1 32 ((6 * a1) + a2).toNatClampNeg, m6) else none else
  (if a2 = 4 then if inr ((6 * a1) + a2) 48 = true then some (m6.1 32 ((6 * a1) + a2).toNatClampNeg, m6) else none else
  (if a2 = 5 then if inr ((6 * a1) + a2) 48 = true then some (m6.1 32 ((6 * a1) + a2).toNatClampNeg, m6) else none else
  (if a2 = 6 then if inr (((7 * a1) + a2) - 3) 244 = true then some (m6.1 38 (((7 * a1) + a2) - 3).toNatClampNeg, m6) else none else
  (if a2 = 7 then if inr (((7 * a1) + a2) - 3) 244 = true then some (m6.1 38 (((7 * a1) + a2) - 3).toNatClampNeg, m6) else none else
  (if a2 = 8 then if inr (((7 * a1) + a2) - 3) 244 = true then some (m6.1 38 (((7 * a1) + a2) - 3).toNatClampNeg, m6) else none else
  (if a2 = 9 then if inr (((7 * a1) + a2) - 3) 244 = true then some (m6.1 38 (((7 * a1) + a2) - 3).toNatClampNeg, m6) else none else
  (if a2 = 10 then cal (f_X11_countOf 38 m6 a1) (fun x8 m7 => some (x8, m7)) else
  (if a2 = 11 then cal (f_X11_taxOf 38 m6 a1) (fun x10 m9 => some (x10, m9)) else
  if inr (((7 * a1) + a2) - 3) 244 = true then some (m6.1 38 (((7 * a1) + a2) - 3).toNatClampNeg, m6) else none)))))))))))) else
  some (0, m6)))) (fun (k5 : Sg × Int32 → Option (Int32 × Sg)) =>
  bnd (fun (m11 : Sg) => k5 (m11, 1)) (fun (k12 : Sg → Option (Int32 × Sg)) =>
  (if x2 = 0 then k12 m1 else
  cal (f_X11_isIn m1 ((a2 : Int32).toInt64) 0 11) (fun x14 m13 => (if x14 = 0 then k12 m13 else
  k5 (m13, 0)))))))
set_option maxRecDepth 4000 in
theorem c_X11_child {g : Cf} {m mm : Sg} {r : Int32} {a1 : Int32} {a2 : Int32} (HX : XOK g) (hm : f_X11_child  m a1 a2 = some (r, mm)) : Cl g 78 yX11_child cX11_child 3 (some .int) [.ref (g.ad 27), .int a1, .int a2] m (some (.int r)) mm := by
  refine cl_of (by decide) (Nat.le_of_ble_eq_true rfl) (vs := [some (.ref (g.ad 27)), some (.int a1), some (.int a2)]) rfl rfl ?_
  show GX g 78 RX11 cX11_child 3 (some .int) (some (.int r)) mm 0 _ [] m
  unfold f_X11_child at hm
  refine g_aloadn_0 dX11_child_0 ?_
  refine g_aloadn_0 dX11_child_1 ?_
  refine g_iloadn_1 dX11_child_2 ?_
  refine g_v1 hm (fun _ _ h => c_X11_isChild h) pn_27 (pc_27 _ _) rfl ce_X11_isChild lk_X11_296 rfl rfl dX11_child_3 (fun x2 m1 hm => ?_)
  refine g_jn (J := fun (s : Sg × Int32) => GX g 78 RX11 cX11_child 3 (some .int) (some (.int r)) mm 26 [some (.ref (g.ad 27)), some (.int a1), some (.int a2)] [.int (s.2), .ref (g.ad 27)] s.1) hm ?_ ?_
  · rintro ⟨m3, x4⟩ hm
    (try dsimp only at hm)
    (try dsimp only)
    refine g_put hm fo_11_0 fp_11_0 pn_27 pc_27 rfl dX11_child_26 (fun m6 hm => ?_)
    refine g_aloadn_0 dX11_child_29 ?_
    refine g_geti fo_11_0 pn_27 pc_27 rfl dX11_child_30 ?_
    refine g_if_le 38 hm dX11_child_33 (by decide) (fun hm => ?_) (fun hm => ?_)
    · refine g_iloadn_2 dX11_child_38 ?_
      refine g_tc 100 hm dX11_child_39 (by decide) (by decide) rfl (by decide) (fun hm => ?_) (fun q0 hm => ?_)
      · refine g_aloadn_0 dX11_child_100 ?_
        refine g_getr (q := 38) fo_11_29 pn_27 pc_27 rfl rfl dX11_child_101 ?_
        refine g_bipush 7 dX11_child_104 rfl ?_
        refine g_iloadn_1 dX11_child_106 ?_
        refine g_imul dX11_child_107 ?_
        refine g_iconst 0 dX11_child_108 rfl ?_
        refine g_iadd dX11_child_109 ?_
        refine g_iaload hm ar_38.1 ar_38.2 dX11_child_110 (fun hm => ?_)
        exact g_iret hm dX11_child_111
      · refine g_tc 112 hm dX11_child_39 (by decide) (by decide) rfl (by decide) (fun hm => ?_) (fun q1 hm => ?_)
        · refine g_aloadn_0 dX11_child_112 ?_
          refine g_getr (q := 38) fo_11_29 pn_27 pc_27 rfl rfl dX11_child_113 ?_
          refine g_bipush 7 dX11_child_116 rfl ?_
          refine g_iloadn_1 dX11_child_118 ?_
          refine g_imul dX11_child_119 ?_
          refine g_iconst 1 dX11_child_120 rfl ?_
          refine g_iadd dX11_child_121 ?_
          refine g_iaload hm ar_38.1 ar_38.2 dX11_child_122 (fun hm => ?_)
          exact g_iret hm dX11_child_123
        · refine g_tc 124 hm dX11_child_39 (by decide) (by decide) rfl (by decide) (fun hm => ?_) (fun q2 hm => ?_)
          · refine g_aloadn_0 dX11_child_124 ?_
            refine g_getr (q := 38) fo_11_29 pn_27 pc_27 rfl rfl dX11_child_125 ?_
            refine g_bipush 7 dX11_child_128 rfl ?_
            refine g_iloadn_1 dX11_child_130 ?_
            refine g_imul dX11_child_131 ?_
            refine g_iconst 2 dX11_child_132 rfl ?_
            refine g_iadd dX11_child_133 ?_
            refine g_iaload hm ar_38.1 ar_38.2 dX11_child_134 (fun hm => ?_)
            exact g_iret hm dX11_child_135
          · refine g_tc 136 hm dX11_child_39 (by decide) (by decide) rfl (by decide) (fun hm => ?_) (fun q3 hm => ?_)
            · refine g_aloadn_0 dX11_child_136 ?_
              refine g_getr (q := 32) fo_11_18 pn_27 pc_27 rfl rfl dX11_child_137 ?_
              refine g_bipush 6 dX11_child_140 rfl ?_
              refine g_iloadn_1 dX11_child_142 ?_
              refine g_imul dX11_child_143 ?_
              refine g_iloadn_2 dX11_child_144 ?_
              refine g_iadd dX11_child_145 ?_
              refine g_iaload hm ar_32.1 ar_32.2 dX11_child_146 (fun hm => ?_)
              exact g_iret hm dX11_child_147
            · refine g_tc 136 hm dX11_child_39 (by decide) (by decide) rfl (by decide) (fun hm => ?_) (fun q4 hm => ?_)
              · refine g_aloadn_0 dX11_child_136 ?_
                refine g_getr (q := 32) fo_11_18 pn_27 pc_27 rfl rfl dX11_child_137 ?_
                refine g_bipush 6 dX11_child_140 rfl ?_
                refine g_iloadn_1 dX11_child_142 ?_
                refine g_imul dX11_child_143 ?_
                refine g_iloadn_2 dX11_child_144 ?_
                refine g_iadd dX11_child_145 ?_
                refine g_iaload hm ar_32.1 ar_32.2 dX11_child_146 (fun hm => ?_)
                exact g_iret hm dX11_child_147
              · refine g_tc 136 hm dX11_child_39 (by decide) (by decide) rfl (by decide) (fun hm => ?_) (fun q5 hm => ?_)
                · refine g_aloadn_0 dX11_child_136 ?_
                  refine g_getr (q := 32) fo_11_18 pn_27 pc_27 rfl rfl dX11_child_137 ?_
                  refine g_bipush 6 dX11_child_140 rfl ?_
                  refine g_iloadn_1 dX11_child_142 ?_
                  refine g_imul dX11_child_143 ?_
                  refine g_iloadn_2 dX11_child_144 ?_
                  refine g_iadd dX11_child_145 ?_
                  refine g_iaload hm ar_32.1 ar_32.2 dX11_child_146 (fun hm => ?_)
                  exact g_iret hm dX11_child_147
                · refine g_tc 167 hm dX11_child_39 (by decide) (by decide) rfl (by decide) (fun hm => ?_) (fun q6 hm => ?_)
                  · refine g_aloadn_0 dX11_child_167 ?_
                    refine g_getr (q := 38) fo_11_29 pn_27 pc_27 rfl rfl dX11_child_168 ?_
                    refine g_bipush 7 dX11_child_171 rfl ?_
                    refine g_iloadn_1 dX11_child_173 ?_
                    refine g_imul dX11_child_174 ?_
                    refine g_iloadn_2 dX11_child_175 ?_
                    refine g_iadd dX11_child_176 ?_
                    refine g_iconst 3 dX11_child_177 rfl ?_
                    refine g_isub dX11_child_178 ?_
                    refine g_iaload hm ar_38.1 ar_38.2 dX11_child_179 (fun hm => ?_)
                    exact g_iret hm dX11_child_180
                  · refine g_tc 167 hm dX11_child_39 (by decide) (by decide) rfl (by decide) (fun hm => ?_) (fun q7 hm => ?_)
                    · refine g_aloadn_0 dX11_child_167 ?_
                      refine g_getr (q := 38) fo_11_29 pn_27 pc_27 rfl rfl dX11_child_168 ?_
                      refine g_bipush 7 dX11_child_171 rfl ?_
                      refine g_iloadn_1 dX11_child_173 ?_
                      refine g_imul dX11_child_174 ?_
                      refine g_iloadn_2 dX11_child_175 ?_
                      refine g_iadd dX11_child_176 ?_
                      refine g_iconst 3 dX11_child_177 rfl ?_
                      refine g_isub dX11_child_178 ?_
                      refine g_iaload hm ar_38.1 ar_38.2 dX11_child_179 (fun hm => ?_)
                      exact g_iret hm dX11_child_180
                    · refine g_tc 167 hm dX11_child_39 (by decide) (by decide) rfl (by decide) (fun hm => ?_) (fun q8 hm => ?_)
                      · refine g_aloadn_0 dX11_child_167 ?_
                        refine g_getr (q := 38) fo_11_29 pn_27 pc_27 rfl rfl dX11_child_168 ?_
                        refine g_bipush 7 dX11_child_171 rfl ?_
                        refine g_iloadn_1 dX11_child_173 ?_
                        refine g_imul dX11_child_174 ?_
                        refine g_iloadn_2 dX11_child_175 ?_
                        refine g_iadd dX11_child_176 ?_
                        refine g_iconst 3 dX11_child_177 rfl ?_
                        refine g_isub dX11_child_178 ?_
                        refine g_iaload hm ar_38.1 ar_38.2 dX11_child_179 (fun hm => ?_)
                        exact g_iret hm dX11_child_180
                      · refine g_tc 167 hm dX11_child_39 (by decide) (by decide) rfl (by decide) (fun hm => ?_) (fun q9 hm => ?_)
                        · refine g_aloadn_0 dX11_child_167 ?_
                          refine g_getr (q := 38) fo_11_29 pn_27 pc_27 rfl rfl dX11_child_168 ?_
                          refine g_bipush 7 dX11_child_171 rfl ?_
                          refine g_iloadn_1 dX11_child_173 ?_
                          refine g_imul dX11_child_174 ?_
                          refine g_iloadn_2 dX11_child_175 ?_
                          refine g_iadd dX11_child_176 ?_
                          refine g_iconst 3 dX11_child_177 rfl ?_
                          refine g_isub dX11_child_178 ?_
                          refine g_iaload hm ar_38.1 ar_38.2 dX11_child_179 (fun hm => ?_)
                          exact g_iret hm dX11_child_180
                        · refine g_tc 148 hm dX11_child_39 (by decide) (by decide) rfl (by decide) (fun hm => ?_) (fun q10 hm => ?_)
                          · refine g_aloadn_0 dX11_child_148 ?_
                            refine g_getr (q := 38) fo_11_29 pn_27 pc_27 rfl rfl dX11_child_149 ?_
                            refine g_iloadn_1 dX11_child_152 ?_
                            refine g_s2 hm (fun _ _ h => c_X11_countOf ar_38 h) ce_X11_countOf lk_X11_284 rfl rfl dX11_child_153 (fun x8 m7 hm => ?_)
                            exact g_iret hm dX11_child_156
                          · refine g_tc 157 hm dX11_child_39 (by decide) (by decide) rfl (by decide) (fun hm => ?_) (fun q11 hm => ?_)
                            · refine g_aloadn_0 dX11_child_157 ?_
                              refine g_aloadn_0 dX11_child_158 ?_
                              refine g_getr (q := 38) fo_11_29 pn_27 pc_27 rfl rfl dX11_child_159 ?_
                              refine g_iloadn_1 dX11_child_162 ?_
                              refine g_v2 hm (fun _ _ h => c_X11_taxOf HX ar_38 h) pn_27 (pc_27 _ _) rfl ce_X11_taxOf lk_X11_301 rfl rfl dX11_child_163 (fun x10 m9 hm => ?_)
                              exact g_iret hm dX11_child_166
                            · refine g_td 167 dX11_child_39 (by have := i32_ne q0 ; have := i32_ne q1 ; have := i32_ne q2 ; have := i32_ne q3 ; have := i32_ne q4 ; have := i32_ne q5 ; have := i32_ne q6 ; have := i32_ne q7 ; have := i32_ne q8 ; have := i32_ne q9 ; have := i32_ne q10 ; have := i32_ne q11; simp at *; omega) (by decide) ?_
                              refine g_aloadn_0 dX11_child_167 ?_
                              refine g_getr (q := 38) fo_11_29 pn_27 pc_27 rfl rfl dX11_child_168 ?_
                              refine g_bipush 7 dX11_child_171 rfl ?_
                              refine g_iloadn_1 dX11_child_173 ?_
                              refine g_imul dX11_child_174 ?_
                              refine g_iloadn_2 dX11_child_175 ?_
                              refine g_iadd dX11_child_176 ?_
                              refine g_iconst 3 dX11_child_177 rfl ?_
                              refine g_isub dX11_child_178 ?_
                              refine g_iaload hm ar_38.1 ar_38.2 dX11_child_179 (fun hm => ?_)
                              exact g_iret hm dX11_child_180
    · refine g_iconst 0 dX11_child_36 rfl ?_
      exact g_iret hm dX11_child_37
  · intro k5 hk5 hm
    refine g_jn (J := fun (s : Sg) => GX g 78 RX11 cX11_child 3 (some .int) (some (.int r)) mm 25 [some (.ref (g.ad 27)), some (.int a1), some (.int a2)] [.ref (g.ad 27)] s) hm ?_ ?_
    · intro m11 hm
      refine g_iconst 1 dX11_child_25 rfl ?_
      exact hk5 _ hm
    · intro k12 hk12 hm
      refine g_if_eq 25 hm dX11_child_6 (by decide) (fun hm => ?_) (fun hm => ?_)
      · exact hk12 _ hm
      · refine g_iloadn_2 dX11_child_9 ?_
        refine g_i2l dX11_child_10 ?_
        refine g_lconst 0 dX11_child_11 rfl ?_
        refine g_ldc2_w dX11_child_12 ck_X11_299 ?_
        refine g_s3 hm (fun _ _ h => c_X11_isIn h) ce_X11_isIn lk_X11_201 rfl rfl dX11_child_15 (fun x14 m13 hm => ?_)
        refine g_if_eq 25 hm dX11_child_18 (by decide) (fun hm => ?_) (fun hm => ?_)
        · exact hk12 _ hm
        · refine g_iconst 0 dX11_child_21 rfl ?_
          refine g_goto 26 dX11_child_22 (by decide) ?_
          exact hk5 _ hm
def f_X11_elder  (m : Sg) (a1 : Int32) (a2 : Int32) : Option (Int32 × Sg) :=
  bnd (wr m 27 0 0) (fun m1 => cal (f_X11_isElder m1 a1) (fun x3 m2 => (if x3 = 0 then some ((-1), m2) else
  cal (f_X11_isIn m2 ((a2 : Int32).toInt64) 0 2) (fun x5 m4 => (if x5 = 0 then some ((-1), m4) else
  (if a2 = 2 then if inr (56 + a1) 244 = true then some (m4.1 38 (56 + a1).toNatClampNeg, m4) else none else
  if inr ((3 * a1) + a2) 12 = true then some (m4.1 34 ((3 * a1) + a2).toNatClampNeg, m4) else none))))))
set_option maxRecDepth 4000 in
theorem c_X11_elder {g : Cf} {m mm : Sg} {r : Int32} {a1 : Int32} {a2 : Int32} (hm : f_X11_elder  m a1 a2 = some (r, mm)) : Cl g 1 yX11_elder cX11_elder 3 (some .int) [.ref (g.ad 27), .int a1, .int a2] m (some (.int r)) mm := by
  refine cl_of (by decide) (Nat.le_of_ble_eq_true rfl) (vs := [some (.ref (g.ad 27)), some (.int a1), some (.int a2)]) rfl rfl ?_
  show GX g 1 RX11 cX11_elder 3 (some .int) (some (.int r)) mm 0 _ [] m
  unfold f_X11_elder at hm
  refine g_aloadn_0 dX11_elder_0 ?_
  refine g_iconst 0 dX11_elder_1 rfl ?_
  refine g_put hm fo_11_0 fp_11_0 pn_27 pc_27 rfl dX11_elder_2 (fun m1 hm => ?_)
  refine g_aloadn_0 dX11_elder_5 ?_
  refine g_iloadn_1 dX11_elder_6 ?_
  refine g_v1 hm (fun _ _ h => c_X11_isElder h) pn_27 (pc_27 _ _) rfl ce_X11_isElder lk_X11_304 rfl rfl dX11_elder_7 (fun x3 m2 hm => ?_)
  refine g_if_eq 25 hm dX11_elder_10 (by decide) (fun hm => ?_) (fun hm => ?_)
  · refine g_iconst (-1) dX11_elder_25 rfl ?_
    exact g_iret hm dX11_elder_26
  · refine g_iloadn_2 dX11_elder_13 ?_
    refine g_i2l dX11_elder_14 ?_
    refine g_lconst 0 dX11_elder_15 rfl ?_
    refine g_ldc2_w dX11_elder_16 ck_X11_307 ?_
    refine g_s3 hm (fun _ _ h => c_X11_isIn h) ce_X11_isIn lk_X11_201 rfl rfl dX11_elder_19 (fun x5 m4 hm => ?_)
    refine g_if_ne 27 hm dX11_elder_22 (by decide) (fun hm => ?_) (fun hm => ?_)
    · refine g_iloadn_2 dX11_elder_27 ?_
      refine g_iconst 2 dX11_elder_28 rfl ?_
      refine g_icmp_ne 44 hm dX11_elder_29 (by decide) (fun hm => ?_) (fun hm => ?_)
      · refine g_aloadn_0 dX11_elder_44 ?_
        refine g_getr (q := 34) fo_11_20 pn_27 pc_27 rfl rfl dX11_elder_45 ?_
        refine g_iconst 3 dX11_elder_48 rfl ?_
        refine g_iloadn_1 dX11_elder_49 ?_
        refine g_imul dX11_elder_50 ?_
        refine g_iloadn_2 dX11_elder_51 ?_
        refine g_iadd dX11_elder_52 ?_
        refine g_iaload hm ar_34.1 ar_34.2 dX11_elder_53 (fun hm => ?_)
        exact g_iret hm dX11_elder_54
      · refine g_aloadn_0 dX11_elder_32 ?_
        refine g_getr (q := 38) fo_11_29 pn_27 pc_27 rfl rfl dX11_elder_33 ?_
        refine g_bipush 56 dX11_elder_36 rfl ?_
        refine g_iloadn_1 dX11_elder_38 ?_
        refine g_iadd dX11_elder_39 ?_
        refine g_iaload hm ar_38.1 ar_38.2 dX11_elder_40 (fun hm => ?_)
        refine g_goto 54 dX11_elder_41 (by decide) ?_
        exact g_iret hm dX11_elder_54
    · refine g_iconst (-1) dX11_elder_25 rfl ?_
      exact g_iret hm dX11_elder_26
def f_X11_rule  (m : Sg) (a1 : Int32) : Option (Int32 × Sg) :=
  bnd (wr m 27 0 0) (fun m1 => (if (m1.1 27 24) ≤ 0 then some ((-1), m1) else
  cal (f_X11_isIn m1 ((a1 : Int32).toInt64) 0 2) (fun x3 m2 => (if x3 = 0 then some ((-1), m2) else
  if inr a1 3 = true then some (m2.1 36 a1.toNatClampNeg, m2) else none))))
set_option maxRecDepth 4000 in
theorem c_X11_rule {g : Cf} {m mm : Sg} {r : Int32} {a1 : Int32} (hm : f_X11_rule  m a1 = some (r, mm)) : Cl g 1 yX11_rule cX11_rule 2 (some .int) [.ref (g.ad 27), .int a1] m (some (.int r)) mm := by
  refine cl_of (by decide) (Nat.le_of_ble_eq_true rfl) (vs := [some (.ref (g.ad 27)), some (.int a1)]) rfl rfl ?_
  show GX g 1 RX11 cX11_rule 2 (some .int) (some (.int r)) mm 0 _ [] m
  unfold f_X11_rule at hm
  refine g_aloadn_0 dX11_rule_0 ?_
  refine g_iconst 0 dX11_rule_1 rfl ?_
  refine g_put hm fo_11_0 fp_11_0 pn_27 pc_27 rfl dX11_rule_2 (fun m1 hm => ?_)
  refine g_aloadn_0 dX11_rule_5 ?_
  refine g_geti fo_11_24 pn_27 pc_27 rfl dX11_rule_6 ?_
  refine g_if_le 33 hm dX11_rule_9 (by decide) (fun hm => ?_) (fun hm => ?_)
  · refine g_iconst (-1) dX11_rule_33 rfl ?_
    exact g_iret hm dX11_rule_34
  · refine g_iloadn_1 dX11_rule_12 ?_
    refine g_i2l dX11_rule_13 ?_
    refine g_lconst 0 dX11_rule_14 rfl ?_
    refine g_ldc2_w dX11_rule_15 ck_X11_307 ?_
    refine g_s3 hm (fun _ _ h => c_X11_isIn h) ce_X11_isIn lk_X11_201 rfl rfl dX11_rule_18 (fun x3 m2 hm => ?_)
    refine g_if_eq 33 hm dX11_rule_21 (by decide) (fun hm => ?_) (fun hm => ?_)
    · refine g_iconst (-1) dX11_rule_33 rfl ?_
      exact g_iret hm dX11_rule_34
    · refine g_aloadn_0 dX11_rule_24 ?_
      refine g_getr (q := 36) fo_11_22 pn_27 pc_27 rfl rfl dX11_rule_25 ?_
      refine g_iloadn_1 dX11_rule_28 ?_
      refine g_iaload hm ar_36.1 ar_36.2 dX11_rule_29 (fun hm => ?_)
      refine g_goto 34 dX11_rule_30 (by decide) ?_
      exact g_iret hm dX11_rule_34
def f_X11_law  (m : Sg) (a1 : Int32) : Option (Int32 × Sg) :=
  bnd (wr m 27 0 0) (fun m1 => bnd (fun (m2 : Sg) => bnd (wr m2 27 31 a1) (fun m4 => some (1, m4))) (fun (k3 : Sg → Option (Int32 × Sg)) =>
  (if a1 = (-1) then k3 m1 else
  cal (f_X11_isIn m1 ((a1 : Int32).toInt64) 0 (((m1.1 27 7) - 1 : Int32).toInt64)) (fun x6 m5 => (if x6 = 0 then some (0, m5) else
  k3 m5)))))
set_option maxRecDepth 4000 in
theorem c_X11_law {g : Cf} {m mm : Sg} {r : Int32} {a1 : Int32} (hm : f_X11_law  m a1 = some (r, mm)) : Cl g 1 yX11_law cX11_law 2 (some .boolean) [.ref (g.ad 27), .int a1] m (some (.int r)) mm := by
  refine cl_of (by decide) (Nat.le_of_ble_eq_true rfl) (vs := [some (.ref (g.ad 27)), some (.int a1)]) rfl rfl ?_
  show GX g 1 RX11 cX11_law 2 (some .boolean) (some (.int r)) mm 0 _ [] m
  unfold f_X11_law at hm
  refine g_aloadn_0 dX11_law_0 ?_
  refine g_iconst 0 dX11_law_1 rfl ?_
  refine g_put hm fo_11_0 fp_11_0 pn_27 pc_27 rfl dX11_law_2 (fun m1 hm => ?_)
  refine g_iloadn_1 dX11_law_5 ?_
  refine g_iconst (-1) dX11_law_6 rfl ?_
  refine g_jn (J := fun (s : Sg) => GX g 1 RX11 cX11_law 2 (some .boolean) (some (.int r)) mm 28 [some (.ref (g.ad 27)), some (.int a1)] [] s) hm ?_ ?_
  · intro m2 hm
    refine g_aloadn_0 dX11_law_28 ?_
    refine g_iloadn_1 dX11_law_29 ?_
    refine g_put hm fo_11_31 fp_11_31 pn_27 pc_27 rfl dX11_law_30 (fun m4 hm => ?_)
    refine g_iconst 1 dX11_law_33 rfl ?_
    exact g_zretc hm rfl dX11_law_34
  · intro k3 hk3 hm
    refine g_icmp_eq 28 hm dX11_law_7 (by decide) (fun hm => ?_) (fun hm => ?_)
    · exact hk3 _ hm
    · refine g_iloadn_1 dX11_law_10 ?_
      refine g_i2l dX11_law_11 ?_
      refine g_lconst 0 dX11_law_12 rfl ?_
      refine g_aloadn_0 dX11_law_13 ?_
      refine g_geti fo_11_7 pn_27 pc_27 rfl dX11_law_14 ?_
      refine g_iconst 1 dX11_law_17 rfl ?_
      refine g_isub dX11_law_18 ?_
      refine g_i2l dX11_law_19 ?_
      refine g_s3 hm (fun _ _ h => c_X11_isIn h) ce_X11_isIn lk_X11_201 rfl rfl dX11_law_20 (fun x6 m5 hm => ?_)
      refine g_if_ne 28 hm dX11_law_23 (by decide) (fun hm => ?_) (fun hm => ?_)
      · exact hk3 _ hm
      · refine g_iconst 0 dX11_law_26 rfl ?_
        exact g_zretc hm rfl dX11_law_27
def f_X11_fever  (m : Sg) (a1 : Int32) : Option (Int32 × Sg) :=
  bnd (wr m 27 0 0) (fun m1 => cal (f_X11_isIn m1 ((a1 : Int32).toInt64) 0 99) (fun x3 m2 => (if x3 = 0 then some (0, m2) else
  (if a1 = (m2.1 27 32) then some (0, m2) else
  bnd (wr m2 27 32 a1) (fun m4 => some (1, m4))))))
set_option maxRecDepth 4000 in
theorem c_X11_fever {g : Cf} {m mm : Sg} {r : Int32} {a1 : Int32} (hm : f_X11_fever  m a1 = some (r, mm)) : Cl g 1 yX11_fever cX11_fever 2 (some .boolean) [.ref (g.ad 27), .int a1] m (some (.int r)) mm := by
  refine cl_of (by decide) (Nat.le_of_ble_eq_true rfl) (vs := [some (.ref (g.ad 27)), some (.int a1)]) rfl rfl ?_
  show GX g 1 RX11 cX11_fever 2 (some .boolean) (some (.int r)) mm 0 _ [] m
  unfold f_X11_fever at hm
  refine g_aloadn_0 dX11_fever_0 ?_
  refine g_iconst 0 dX11_fever_1 rfl ?_
  refine g_put hm fo_11_0 fp_11_0 pn_27 pc_27 rfl dX11_fever_2 (fun m1 hm => ?_)
  refine g_iloadn_1 dX11_fever_5 ?_
  refine g_i2l dX11_fever_6 ?_
  refine g_lconst 0 dX11_fever_7 rfl ?_
  refine g_ldc2_w dX11_fever_8 ck_X11_309 ?_
  refine g_s3 hm (fun _ _ h => c_X11_isIn h) ce_X11_isIn lk_X11_201 rfl rfl dX11_fever_11 (fun x3 m2 hm => ?_)
  refine g_if_eq 25 hm dX11_fever_14 (by decide) (fun hm => ?_) (fun hm => ?_)
  · refine g_iconst 0 dX11_fever_25 rfl ?_
    exact g_zretc hm rfl dX11_fever_26
  · refine g_iloadn_1 dX11_fever_17 ?_
    refine g_aloadn_0 dX11_fever_18 ?_
    refine g_geti fo_11_32 pn_27 pc_27 rfl dX11_fever_19 ?_
    refine g_icmp_ne 27 hm dX11_fever_22 (by decide) (fun hm => ?_) (fun hm => ?_)
    · refine g_aloadn_0 dX11_fever_27 ?_
      refine g_iloadn_1 dX11_fever_28 ?_
      refine g_put hm fo_11_32 fp_11_32 pn_27 pc_27 rfl dX11_fever_29 (fun m4 hm => ?_)
      refine g_iconst 1 dX11_fever_32 rfl ?_
      exact g_zretc hm rfl dX11_fever_33
    · refine g_iconst 0 dX11_fever_25 rfl ?_
      exact g_zretc hm rfl dX11_fever_26
def f_X11_passes  (m : Sg) (a1 : Int32) (a2 : Int32) : Option (Int32 × Sg) :=
  bnd (wr m 27 0 0) (fun m1 => cal (f_X11_isChild m1 a1) (fun x3 m2 => (if x3 = 0 then some ((-1), m2) else
  cal (f_X11_isElder m2 a2) (fun x5 m4 => (if x5 = 0 then some ((-1), m4) else
  cal (f_X11_slipsOf 38 m4 a1 a2) (fun x7 m6 => (if x7 = 0 then some (1, m6) else
  some (0, m6))))))))
set_option maxRecDepth 4000 in
theorem c_X11_passes {g : Cf} {m mm : Sg} {r : Int32} {a1 : Int32} {a2 : Int32} (hm : f_X11_passes  m a1 a2 = some (r, mm)) : Cl g 3 yX11_passes cX11_passes 3 (some .int) [.ref (g.ad 27), .int a1, .int a2] m (some (.int r)) mm := by
  refine cl_of (by decide) (Nat.le_of_ble_eq_true rfl) (vs := [some (.ref (g.ad 27)), some (.int a1), some (.int a2)]) rfl rfl ?_
  show GX g 3 RX11 cX11_passes 3 (some .int) (some (.int r)) mm 0 _ [] m
  unfold f_X11_passes at hm
  refine g_aloadn_0 dX11_passes_0 ?_
  refine g_iconst 0 dX11_passes_1 rfl ?_
  refine g_put hm fo_11_0 fp_11_0 pn_27 pc_27 rfl dX11_passes_2 (fun m1 hm => ?_)
  refine g_aloadn_0 dX11_passes_5 ?_
  refine g_iloadn_1 dX11_passes_6 ?_
  refine g_v1 hm (fun _ _ h => c_X11_isChild h) pn_27 (pc_27 _ _) rfl ce_X11_isChild lk_X11_296 rfl rfl dX11_passes_7 (fun x3 m2 hm => ?_)
  refine g_if_eq 21 hm dX11_passes_10 (by decide) (fun hm => ?_) (fun hm => ?_)
  · refine g_iconst (-1) dX11_passes_21 rfl ?_
    exact g_iret hm dX11_passes_22
  · refine g_aloadn_0 dX11_passes_13 ?_
    refine g_iloadn_2 dX11_passes_14 ?_
    refine g_v1 hm (fun _ _ h => c_X11_isElder h) pn_27 (pc_27 _ _) rfl ce_X11_isElder lk_X11_304 rfl rfl dX11_passes_15 (fun x5 m4 hm => ?_)
    refine g_if_ne 23 hm dX11_passes_18 (by decide) (fun hm => ?_) (fun hm => ?_)
    · refine g_aloadn_0 dX11_passes_23 ?_
      refine g_aloadn_0 dX11_passes_24 ?_
      refine g_getr (q := 38) fo_11_29 pn_27 pc_27 rfl rfl dX11_passes_25 ?_
      refine g_iloadn_1 dX11_passes_28 ?_
      refine g_iloadn_2 dX11_passes_29 ?_
      refine g_v3 hm (fun _ _ h => c_X11_slipsOf ar_38 h) pn_27 (pc_27 _ _) rfl ce_X11_slipsOf lk_X11_314 rfl rfl dX11_passes_30 (fun x7 m6 hm => ?_)
      refine g_if_ne 40 hm dX11_passes_33 (by decide) (fun hm => ?_) (fun hm => ?_)
      · refine g_iconst 0 dX11_passes_40 rfl ?_
        exact g_iret hm dX11_passes_41
      · refine g_iconst 1 dX11_passes_36 rfl ?_
        refine g_goto 41 dX11_passes_37 (by decide) ?_
        exact g_iret hm dX11_passes_41
    · refine g_iconst (-1) dX11_passes_21 rfl ?_
      exact g_iret hm dX11_passes_22
def f_X11_slips  (m : Sg) (a1 : Int32) (a2 : Int32) : Option (Int32 × Sg) :=
  bnd (wr m 27 0 0) (fun m1 => cal (f_X11_isChild m1 a1) (fun x3 m2 => (if x3 = 0 then some ((-1), m2) else
  cal (f_X11_isElder m2 a2) (fun x5 m4 => (if x5 = 0 then some ((-1), m4) else
  cal (f_X11_slipsOf 38 m4 a1 a2) (fun x7 m6 => some (x7, m6)))))))
set_option maxRecDepth 4000 in
theorem c_X11_slips {g : Cf} {m mm : Sg} {r : Int32} {a1 : Int32} {a2 : Int32} (hm : f_X11_slips  m a1 a2 = some (r, mm)) : Cl g 3 yX11_slips cX11_slips 3 (some .int) [.ref (g.ad 27), .int a1, .int a2] m (some (.int r)) mm := by
  refine cl_of (by decide) (Nat.le_of_ble_eq_true rfl) (vs := [some (.ref (g.ad 27)), some (.int a1), some (.int a2)]) rfl rfl ?_
  show GX g 3 RX11 cX11_slips 3 (some .int) (some (.int r)) mm 0 _ [] m
  unfold f_X11_slips at hm
  refine g_aloadn_0 dX11_slips_0 ?_
  refine g_iconst 0 dX11_slips_1 rfl ?_
  refine g_put hm fo_11_0 fp_11_0 pn_27 pc_27 rfl dX11_slips_2 (fun m1 hm => ?_)
  refine g_aloadn_0 dX11_slips_5 ?_
  refine g_iloadn_1 dX11_slips_6 ?_
  refine g_v1 hm (fun _ _ h => c_X11_isChild h) pn_27 (pc_27 _ _) rfl ce_X11_isChild lk_X11_296 rfl rfl dX11_slips_7 (fun x3 m2 hm => ?_)
  refine g_if_eq 34 hm dX11_slips_10 (by decide) (fun hm => ?_) (fun hm => ?_)
  · refine g_iconst (-1) dX11_slips_34 rfl ?_
    exact g_iret hm dX11_slips_35
  · refine g_aloadn_0 dX11_slips_13 ?_
    refine g_iloadn_2 dX11_slips_14 ?_
    refine g_v1 hm (fun _ _ h => c_X11_isElder h) pn_27 (pc_27 _ _) rfl ce_X11_isElder lk_X11_304 rfl rfl dX11_slips_15 (fun x5 m4 hm => ?_)
    refine g_if_eq 34 hm dX11_slips_18 (by decide) (fun hm => ?_) (fun hm => ?_)
    · refine g_iconst (-1) dX11_slips_34 rfl ?_
      exact g_iret hm dX11_slips_35
    · refine g_aloadn_0 dX11_slips_21 ?_
      refine g_aloadn_0 dX11_slips_22 ?_
      refine g_getr (q := 38) fo_11_29 pn_27 pc_27 rfl rfl dX11_slips_23 ?_
      refine g_iloadn_1 dX11_slips_26 ?_
      refine g_iloadn_2 dX11_slips_27 ?_
      refine g_v3 hm (fun _ _ h => c_X11_slipsOf ar_38 h) pn_27 (pc_27 _ _) rfl ce_X11_slipsOf lk_X11_314 rfl rfl dX11_slips_28 (fun x7 m6 hm => ?_)
      refine g_goto 35 dX11_slips_31 (by decide) ?_
      exact g_iret hm dX11_slips_35
def f_X11_examiner  (m : Sg)  : Option (Int32 × Sg) :=
  bnd (wr m 27 0 0) (fun m1 => (if (m1.1 27 24) = 0 then some ((-1), m1) else
  cal (f_X11_examinerOf 38 m1 0) (fun x3 m2 => some (x3, m2))))
set_option maxRecDepth 4000 in
theorem c_X11_examiner {g : Cf} {m mm : Sg} {r : Int32} (hm : f_X11_examiner  m  = some (r, mm)) : Cl g 3 yX11_examiner cX11_examiner 1 (some .int) [.ref (g.ad 27)] m (some (.int r)) mm := by
  refine cl_of (by decide) (Nat.le_of_ble_eq_true rfl) (vs := [some (.ref (g.ad 27))]) rfl rfl ?_
  show GX g 3 RX11 cX11_examiner 1 (some .int) (some (.int r)) mm 0 _ [] m
  unfold f_X11_examiner at hm
  refine g_aloadn_0 dX11_examiner_0 ?_
  refine g_iconst 0 dX11_examiner_1 rfl ?_
  refine g_put hm fo_11_0 fp_11_0 pn_27 pc_27 rfl dX11_examiner_2 (fun m1 hm => ?_)
  refine g_aloadn_0 dX11_examiner_5 ?_
  refine g_geti fo_11_24 pn_27 pc_27 rfl dX11_examiner_6 ?_
  refine g_if_ne 16 hm dX11_examiner_9 (by decide) (fun hm => ?_) (fun hm => ?_)
  · refine g_aloadn_0 dX11_examiner_16 ?_
    refine g_aloadn_0 dX11_examiner_17 ?_
    refine g_getr (q := 38) fo_11_29 pn_27 pc_27 rfl rfl dX11_examiner_18 ?_
    refine g_iconst 0 dX11_examiner_21 rfl ?_
    refine g_v2 hm (fun _ _ h => c_X11_examinerOf ar_38 h) pn_27 (pc_27 _ _) rfl ce_X11_examinerOf lk_X11_317 rfl rfl dX11_examiner_22 (fun x3 m2 hm => ?_)
    exact g_iret hm dX11_examiner_25
  · refine g_iconst (-1) dX11_examiner_12 rfl ?_
    refine g_goto 25 dX11_examiner_13 (by decide) ?_
    exact g_iret hm dX11_examiner_25
def f_X11_draw  (m : Sg) (a1 : Int32) : Option (Int32 × Sg) :=
  bnd (wrl m 27 (((m.2 27) * 6364136223846793005) + 1442695040888963407)) (fun m1 => if (!(decide ((a1 : Int32).toInt64 = 0))) = true then some (((((m1.2 27 : Int64).toUInt64 >>> ((33 : Int32).toInt64.toUInt64 &&& Int64.toUInt64 63)).toInt64) - (((m1.2 27 : Int64).toUInt64 >>> ((33 : Int32).toInt64.toUInt64 &&& Int64.toUInt64 63)).toInt64) / ((a1 : Int32).toInt64) * ((a1 : Int32).toInt64) : Int64).toInt32, m1) else none)
set_option maxRecDepth 4000 in
theorem c_X11_draw {g : Cf} {m mm : Sg} {r : Int32} {a1 : Int32} (hm : f_X11_draw  m a1 = some (r, mm)) : Cl g 0 yX11_draw cX11_draw 2 (some .int) [.ref (g.ad 27), .int a1] m (some (.int r)) mm := by
  refine cl_of (by decide) (Nat.le_of_ble_eq_true rfl) (vs := [some (.ref (g.ad 27)), some (.int a1)]) rfl rfl ?_
  show GX g 0 RX11 cX11_draw 2 (some .int) (some (.int r)) mm 0 _ [] m
  unfold f_X11_draw at hm
  refine g_aloadn_0 dX11_draw_0 ?_
  refine g_aloadn_0 dX11_draw_1 ?_
  refine g_getl fo_11_33 pn_27 pc_27 rfl dX11_draw_2 ?_
  refine g_ldc2_w dX11_draw_5 ck_X11_324 ?_
  refine g_lmul dX11_draw_8 ?_
  refine g_ldc2_w dX11_draw_9 ck_X11_326 ?_
  refine g_ladd dX11_draw_12 ?_
  refine g_putl hm fo_11_33 fp_11_33 pn_27 pc_27 rfl lu_11 dX11_draw_13 (fun m1 hm => ?_)
  refine g_aloadn_0 dX11_draw_16 ?_
  refine g_getl fo_11_33 pn_27 pc_27 rfl dX11_draw_17 ?_
  refine g_bipush 33 dX11_draw_20 rfl ?_
  refine g_lushr dX11_draw_22 ?_
  refine g_iloadn_1 dX11_draw_23 ?_
  refine g_i2l dX11_draw_24 ?_
  refine g_lremN hm dX11_draw_25 (fun hm => ?_)
  refine g_l2i dX11_draw_26 ?_
  exact g_iret hm dX11_draw_27
def f_X11_begins (w : Nat) (m : Sg) (a1 : Int32) : Option (Sg) :=
  if inr (m.1 27 35) 3 = true then if inr ((7 * a1) + 3) 244 = true then bnd (wr m w ((7 * a1) + 3).toNatClampNeg (m.1 40 (m.1 27 35).toNatClampNeg)) (fun m1 => if inr ((6 * a1) + 4) 48 = true then if inr ((7 * a1) + 4) 244 = true then bnd (wr m1 w ((7 * a1) + 4).toNatClampNeg (m1.1 32 ((6 * a1) + 4).toNatClampNeg)) (fun m2 => bnd (wr m2 27 35 ((m2.1 27 35) + 1)) (fun m3 => some m3)) else none else none) else none else none
set_option maxRecDepth 4000 in
theorem c_X11_begins {g : Cf} {m mm : Sg} {w : Nat} {a1 : Int32} (Hw : ARR g w 244 0) (hm : f_X11_begins w m a1 = some mm) : Cl g 0 yX11_begins cX11_begins 3 none [.ref (g.ad 27), .ref (g.ad w), .int a1] m none mm := by
  refine cl_of (by decide) (Nat.le_of_ble_eq_true rfl) (vs := [some (.ref (g.ad 27)), some (.ref (g.ad w)), some (.int a1)]) rfl rfl ?_
  show GX g 0 RX11 cX11_begins 3 none none mm 0 _ [] m
  unfold f_X11_begins at hm
  refine g_aloadn_1 dX11_begins_0 ?_
  refine g_bipush 7 dX11_begins_1 rfl ?_
  refine g_iloadn_2 dX11_begins_3 ?_
  refine g_imul dX11_begins_4 ?_
  refine g_iconst 3 dX11_begins_5 rfl ?_
  refine g_iadd dX11_begins_6 ?_
  refine g_aloadn_0 dX11_begins_7 ?_
  refine g_getr (q := 40) fo_11_37 pn_27 pc_27 rfl rfl dX11_begins_8 ?_
  refine g_aloadn_0 dX11_begins_11 ?_
  refine g_geti fo_11_35 pn_27 pc_27 rfl dX11_begins_12 ?_
  refine g_iaload hm ar_40.1 ar_40.2 dX11_begins_15 (fun hm => ?_)
  refine g_iastore hm Hw.1 Hw.2 dX11_begins_16 (fun m1 hm => ?_)
  refine g_aloadn_1 dX11_begins_17 ?_
  refine g_bipush 7 dX11_begins_18 rfl ?_
  refine g_iloadn_2 dX11_begins_20 ?_
  refine g_imul dX11_begins_21 ?_
  refine g_iconst 4 dX11_begins_22 rfl ?_
  refine g_iadd dX11_begins_23 ?_
  refine g_aloadn_0 dX11_begins_24 ?_
  refine g_getr (q := 32) fo_11_18 pn_27 pc_27 rfl rfl dX11_begins_25 ?_
  refine g_bipush 6 dX11_begins_28 rfl ?_
  refine g_iloadn_2 dX11_begins_30 ?_
  refine g_imul dX11_begins_31 ?_
  refine g_iconst 4 dX11_begins_32 rfl ?_
  refine g_iadd dX11_begins_33 ?_
  refine g_iaload hm ar_32.1 ar_32.2 dX11_begins_34 (fun hm => ?_)
  refine g_iastore hm Hw.1 Hw.2 dX11_begins_35 (fun m2 hm => ?_)
  refine g_aloadn_0 dX11_begins_36 ?_
  refine g_dup dX11_begins_37 rfl ?_
  refine g_geti fo_11_35 pn_27 pc_27 rfl dX11_begins_38 ?_
  refine g_iconst 1 dX11_begins_41 rfl ?_
  refine g_iadd dX11_begins_42 ?_
  refine g_put hm fo_11_35 fp_11_35 pn_27 pc_27 rfl dX11_begins_43 (fun m3 hm => ?_)
  exact g_vret hm dX11_begins_46
def f_X11_isRival (w : Nat) (m : Sg) (a1 : Int32) (a2 : Int32) : Option (Int32 × Sg) :=
  bnd (m.1 w 61) (fun x1 => if inr ((7 * a1) + 0) 244 = true then (if (m.1 36 0) ≤ (m.1 w ((7 * a1) + 0).toNatClampNeg) then some (0, m) else
  cal (f_X11_slipsOf w m a1 a2) (fun x3 m2 => (if x3 = 0 then bnd (fun (m4 : Sg) => some (1, m4)) (fun (k5 : Sg → Option (Int32 × Sg)) =>
  (if x1 = (-1) then k5 m2 else
  if inr ((7 * a1) + 0) 244 = true then if inr ((7 * x1) + 0) 244 = true then (if (m2.1 w ((7 * x1) + 0).toNatClampNeg) ≤ (m2.1 w ((7 * a1) + 0).toNatClampNeg) then some (0, m2) else
  k5 m2) else none else none)) else
  some (0, m2)))) else none)
set_option maxRecDepth 4000 in
theorem c_X11_isRival {g : Cf} {m mm : Sg} {r : Int32} {w : Nat} {a1 : Int32} {a2 : Int32} (Hw : ARR g w 244 0) (hm : f_X11_isRival w m a1 a2 = some (r, mm)) : Cl g 3 yX11_isRival cX11_isRival 5 (some .boolean) [.ref (g.ad 27), .ref (g.ad w), .int a1, .int a2] m (some (.int r)) mm := by
  refine cl_of (by decide) (Nat.le_of_ble_eq_true rfl) (vs := [some (.ref (g.ad 27)), some (.ref (g.ad w)), some (.int a1), some (.int a2), none]) rfl rfl ?_
  show GX g 3 RX11 cX11_isRival 5 (some .boolean) (some (.int r)) mm 0 _ [] m
  unfold f_X11_isRival at hm
  refine g_aloadn_1 dX11_isRival_0 ?_
  refine g_bipush 61 dX11_isRival_1 rfl ?_
  refine g_ialoadc 61 rfl rfl Hw.1 Hw.2 dX11_isRival_3 ?_
  refine g_istoreB_4 hm dX11_isRival_4 rfl (fun x1 hm => ?_)
  refine g_aloadn_1 dX11_isRival_6 ?_
  refine g_bipush 7 dX11_isRival_7 rfl ?_
  refine g_iloadn_2 dX11_isRival_9 ?_
  refine g_imul dX11_isRival_10 ?_
  refine g_iconst 0 dX11_isRival_11 rfl ?_
  refine g_iadd dX11_isRival_12 ?_
  refine g_iaload hm Hw.1 Hw.2 dX11_isRival_13 (fun hm => ?_)
  refine g_aloadn_0 dX11_isRival_14 ?_
  refine g_getr (q := 36) fo_11_22 pn_27 pc_27 rfl rfl dX11_isRival_15 ?_
  refine g_iconst 0 dX11_isRival_18 rfl ?_
  refine g_ialoadc 0 rfl rfl ar_36.1 ar_36.2 dX11_isRival_19 ?_
  refine g_icmp_ge 63 hm dX11_isRival_20 (by decide) (fun hm => ?_) (fun hm => ?_)
  · refine g_iconst 0 dX11_isRival_63 rfl ?_
    exact g_zretc hm rfl dX11_isRival_64
  · refine g_aloadn_0 dX11_isRival_23 ?_
    refine g_aloadn_1 dX11_isRival_24 ?_
    refine g_iloadn_2 dX11_isRival_25 ?_
    refine g_iloadn_3 dX11_isRival_26 ?_
    refine g_v3 hm (fun _ _ h => c_X11_slipsOf Hw h) pn_27 (pc_27 _ _) rfl ce_X11_slipsOf lk_X11_314 rfl rfl dX11_isRival_27 (fun x3 m2 hm => ?_)
    refine g_if_ne 63 hm dX11_isRival_30 (by decide) (fun hm => ?_) (fun hm => ?_)
    · refine g_iconst 0 dX11_isRival_63 rfl ?_
      exact g_zretc hm rfl dX11_isRival_64
    · refine g_iload_4 dX11_isRival_33 ?_
      refine g_iconst (-1) dX11_isRival_35 rfl ?_
      refine g_jn (J := fun (s : Sg) => GX g 3 RX11 cX11_isRival 5 (some .boolean) (some (.int r)) mm 59 [none, none, none, none, none] [] s) hm ?_ ?_
      · intro m4 hm
        refine g_iconst 1 dX11_isRival_59 rfl ?_
        refine g_goto 64 dX11_isRival_60 (by decide) ?_
        exact g_zretc hm rfl dX11_isRival_64
      · intro k5 hk5 hm
        refine g_icmp_eq 59 hm dX11_isRival_36 (by decide) (fun hm => ?_) (fun hm => ?_)
        · refine g_weak (vs' := [none, none, none, none, none]) trivial ?_
          exact hk5 _ hm
        · refine g_aloadn_1 dX11_isRival_39 ?_
          refine g_bipush 7 dX11_isRival_40 rfl ?_
          refine g_iloadn_2 dX11_isRival_42 ?_
          refine g_imul dX11_isRival_43 ?_
          refine g_iconst 0 dX11_isRival_44 rfl ?_
          refine g_iadd dX11_isRival_45 ?_
          refine g_iaload hm Hw.1 Hw.2 dX11_isRival_46 (fun hm => ?_)
          refine g_aloadn_1 dX11_isRival_47 ?_
          refine g_bipush 7 dX11_isRival_48 rfl ?_
          refine g_iload_4 dX11_isRival_50 ?_
          refine g_imul dX11_isRival_52 ?_
          refine g_iconst 0 dX11_isRival_53 rfl ?_
          refine g_iadd dX11_isRival_54 ?_
          refine g_iaload hm Hw.1 Hw.2 dX11_isRival_55 (fun hm => ?_)
          refine g_icmp_ge 63 hm dX11_isRival_56 (by decide) (fun hm => ?_) (fun hm => ?_)
          · refine g_iconst 0 dX11_isRival_63 rfl ?_
            exact g_zretc hm rfl dX11_isRival_64
          · refine g_weak (vs' := [none, none, none, none, none]) trivial ?_
            exact hk5 _ hm
def f_X11_writes_L12 (w : Nat) : (Sg × Int32) → Option (((Sg)) ⊕ (Sg × Int32)) := fun s => match s with
  | (m8, x9) => 
  (if 177 < x9 then some (.inl m8) else
  if inr ((63 + x9) + 3) 244 = true then if inr (63 + x9) 244 = true then bnd (wr m8 w (63 + x9).toNatClampNeg (m8.1 w ((63 + x9) + 3).toNatClampNeg)) (fun m13 => bnd (x9 + 1) (fun x14 => some (.inr (m13, x14)))) else none else none)
def f_X11_writes (w : Nat) (m : Sg) (a1 : Int32) (a2 : Int32) : Option (Sg) :=
  bnd (fun (m1 : Sg) => bnd (64 + (3 * (m1.1 w 63))) (fun x3 => if inr x3 244 = true then bnd (wr m1 w x3.toNatClampNeg (m1.1 w 61)) (fun m4 => if inr (x3 + 1) 244 = true then bnd (wr m4 w (x3 + 1).toNatClampNeg a1) (fun m5 => if inr (x3 + 2) 244 = true then bnd (wr m5 w (x3 + 2).toNatClampNeg a2) (fun m6 => bnd (wr m6 w 63 ((m6.1 w 63) + 1)) (fun m7 => some m7)) else none) else none) else none)) (fun (k2 : Sg → Option (Sg)) =>
  (if (m.1 w 63) = 60 then lpk (f_X11_writes_L12 w) (m, 1) (fun m10 => bnd (wr m10 w 63 ((m10.1 w 63) - 1)) (fun m15 => k2 m15)) else
  k2 m))
set_option maxRecDepth 4000 in
theorem c_X11_writes {g : Cf} {m mm : Sg} {w : Nat} {a1 : Int32} {a2 : Int32} (Hw : ARR g w 244 0) (hm : f_X11_writes w m a1 a2 = some mm) : Cl g 0 yX11_writes cX11_writes 5 none [.ref (g.ad 27), .ref (g.ad w), .int a1, .int a2] m none mm := by
  refine cl_of (by decide) (Nat.le_of_ble_eq_true rfl) (vs := [some (.ref (g.ad 27)), some (.ref (g.ad w)), some (.int a1), some (.int a2), none]) rfl rfl ?_
  show GX g 0 RX11 cX11_writes 5 none none mm 0 _ [] m
  unfold f_X11_writes at hm
  refine g_aloadn_1 dX11_writes_0 ?_
  refine g_bipush 63 dX11_writes_1 rfl ?_
  refine g_ialoadc 63 rfl rfl Hw.1 Hw.2 dX11_writes_3 ?_
  refine g_bipush 60 dX11_writes_4 rfl ?_
  refine g_jn (J := fun (s : Sg) => GX g 0 RX11 cX11_writes 5 none none mm 50 [none, some (.ref (g.ad w)), some (.int a1), some (.int a2), none] [] s) hm ?_ ?_
  · intro m1 hm
    refine g_bipush 64 dX11_writes_50 rfl ?_
    refine g_iconst 3 dX11_writes_52 rfl ?_
    refine g_aloadn_1 dX11_writes_53 ?_
    refine g_bipush 63 dX11_writes_54 rfl ?_
    refine g_ialoadc 63 rfl rfl Hw.1 Hw.2 dX11_writes_56 ?_
    refine g_imul dX11_writes_57 ?_
    refine g_iadd dX11_writes_58 ?_
    refine g_istoreB_4 hm dX11_writes_59 rfl (fun x3 hm => ?_)
    refine g_aloadn_1 dX11_writes_61 ?_
    refine g_iload_4 dX11_writes_62 ?_
    refine g_aloadn_1 dX11_writes_64 ?_
    refine g_bipush 61 dX11_writes_65 rfl ?_
    refine g_ialoadc 61 rfl rfl Hw.1 Hw.2 dX11_writes_67 ?_
    refine g_iastore hm Hw.1 Hw.2 dX11_writes_68 (fun m4 hm => ?_)
    refine g_aloadn_1 dX11_writes_69 ?_
    refine g_iload_4 dX11_writes_70 ?_
    refine g_iconst 1 dX11_writes_72 rfl ?_
    refine g_iadd dX11_writes_73 ?_
    refine g_iloadn_2 dX11_writes_74 ?_
    refine g_iastore hm Hw.1 Hw.2 dX11_writes_75 (fun m5 hm => ?_)
    refine g_aloadn_1 dX11_writes_76 ?_
    refine g_iload_4 dX11_writes_77 ?_
    refine g_iconst 2 dX11_writes_79 rfl ?_
    refine g_iadd dX11_writes_80 ?_
    refine g_iloadn_3 dX11_writes_81 ?_
    refine g_iastore hm Hw.1 Hw.2 dX11_writes_82 (fun m6 hm => ?_)
    refine g_aloadn_1 dX11_writes_83 ?_
    refine g_bipush 63 dX11_writes_84 rfl ?_
    refine g_dup2 dX11_writes_86 rfl rfl ?_
    refine g_ialoadc 63 rfl rfl Hw.1 Hw.2 dX11_writes_87 ?_
    refine g_iconst 1 dX11_writes_88 rfl ?_
    refine g_iadd dX11_writes_89 ?_
    refine g_iastorec 63 hm rfl rfl Hw.1 Hw.2 dX11_writes_90 (fun m7 hm => ?_)
    exact g_vret hm dX11_writes_91
  · intro k2 hk2 hm
    refine g_icmp_ne 50 hm dX11_writes_6 (by decide) (fun hm => ?_) (fun hm => ?_)
    · refine g_weak (vs' := [none, some (.ref (g.ad w)), some (.int a1), some (.int a2), none]) ⟨rfl, ⟨rfl, ⟨rfl, trivial⟩⟩⟩ ?_
      exact hk2 _ hm
    · refine g_iconst 1 dX11_writes_9 rfl ?_
      refine g_istore_4 dX11_writes_10 rfl ?_
      refine g_weak (vs' := [none, some (.ref (g.ad w)), some (.int a1), some (.int a2), some (.int 1)]) ⟨rfl, ⟨rfl, ⟨rfl, ⟨rfl, trivial⟩⟩⟩⟩ ?_
      refine g_lp (I := fun (s : Sg × Int32) => GX g 0 RX11 cX11_writes 5 none none mm 12 [none, some (.ref (g.ad w)), some (.int a1), some (.int a2), some (.int (s.2))] [] s.1) (E := fun (s : Sg) => GX g 0 RX11 cX11_writes 5 none none mm 42 [none, some (.ref (g.ad w)), some (.int a1), some (.int a2), none] [] s) hm ?_ ?_
      · rintro m10 hm
        (try dsimp only at hm)
        (try dsimp only)
        refine g_aloadn_1 dX11_writes_42 ?_
        refine g_bipush 63 dX11_writes_43 rfl ?_
        refine g_dup2 dX11_writes_45 rfl rfl ?_
        refine g_ialoadc 63 rfl rfl Hw.1 Hw.2 dX11_writes_46 ?_
        refine g_iconst 1 dX11_writes_47 rfl ?_
        refine g_isub dX11_writes_48 ?_
        refine g_iastorec 63 hm rfl rfl Hw.1 Hw.2 dX11_writes_49 (fun m15 hm => ?_)
        exact hk2 _ hm
      · rintro ⟨m8, x9⟩ o hm hx12 hi11
        (try dsimp only [f_X11_writes_L12] at hm)
        (try dsimp only)
        refine g_iload_4 dX11_writes_12 ?_
        refine g_sipush 177 dX11_writes_14 rfl ?_
        refine g_icmp_gt 42 hm dX11_writes_17 (by decide) (fun hm => ?_) (fun hm => ?_)
        · refine g_weak (vs' := [none, some (.ref (g.ad w)), some (.int a1), some (.int a2), none]) ⟨rfl, ⟨rfl, ⟨rfl, trivial⟩⟩⟩ ?_
          cases hm
          exact hx12 _ rfl
        · refine g_aloadn_1 dX11_writes_20 ?_
          refine g_bipush 63 dX11_writes_21 rfl ?_
          refine g_iload_4 dX11_writes_23 ?_
          refine g_iadd dX11_writes_25 ?_
          refine g_aloadn_1 dX11_writes_26 ?_
          refine g_bipush 63 dX11_writes_27 rfl ?_
          refine g_iload_4 dX11_writes_29 ?_
          refine g_iadd dX11_writes_31 ?_
          refine g_iconst 3 dX11_writes_32 rfl ?_
          refine g_iadd dX11_writes_33 ?_
          refine g_iaload hm Hw.1 Hw.2 dX11_writes_34 (fun hm => ?_)
          refine g_iastore hm Hw.1 Hw.2 dX11_writes_35 (fun m13 hm => ?_)
          refine g_iinc_4 1 hm dX11_writes_36 rfl rfl (fun x14 hm => ?_)
          refine g_goto 12 dX11_writes_39 (by decide) ?_
          cases hm
          exact hi11 _ rfl
def f_X11_remember_L52  : (Sg × Int32) → Option (((Sg)) ⊕ (Sg × Int32)) := fun s => match s with
  | (m3, x4) => 
  (if 244 ≤ x4 then some (.inl m3) else
  if inr x4 244 = true then if inr ((244 * (m3.1 27 39)) + x4) 9760 = true then bnd (wr m3 41 ((244 * (m3.1 27 39)) + x4).toNatClampNeg (m3.1 38 x4.toNatClampNeg)) (fun m8 => bnd (x4 + 1) (fun x9 => some (.inr (m8, x9)))) else none else none)
def f_X11_remember_L11  : (Sg × Int32) → Option (((Sg)) ⊕ (Sg × Int32)) := fun s => match s with
  | (m11, x12) => 
  (if 9516 ≤ x12 then some (.inl m11) else
  if inr (x12 + 244) 9760 = true then if inr x12 9760 = true then bnd (wr m11 41 x12.toNatClampNeg (m11.1 41 (x12 + 244).toNatClampNeg)) (fun m16 => bnd (x12 + 1) (fun x17 => some (.inr (m16, x17)))) else none else none)
def f_X11_remember  (m : Sg)  : Option (Sg) :=
  bnd (fun (m1 : Sg) => lpk (f_X11_remember_L52) (m1, 0) (fun m5 => bnd (wr m5 27 39 ((m5.1 27 39) + 1)) (fun m10 => some m10))) (fun (k2 : Sg → Option (Sg)) =>
  (if (m.1 27 39) = 40 then lpk (f_X11_remember_L11) (m, 0) (fun m13 => bnd (wr m13 27 39 ((m13.1 27 39) - 1)) (fun m18 => k2 m18)) else
  k2 m))
set_option maxRecDepth 4000 in
theorem c_X11_remember {g : Cf} {m mm : Sg} (hm : f_X11_remember  m  = some mm) : Cl g 0 yX11_remember cX11_remember 2 none [.ref (g.ad 27)] m none mm := by
  refine cl_of (by decide) (Nat.le_of_ble_eq_true rfl) (vs := [some (.ref (g.ad 27)), none]) rfl rfl ?_
  show GX g 0 RX11 cX11_remember 2 none none mm 0 _ [] m
  unfold f_X11_remember at hm
  refine g_aloadn_0 dX11_remember_0 ?_
  refine g_geti fo_11_39 pn_27 pc_27 rfl dX11_remember_1 ?_
  refine g_bipush 40 dX11_remember_4 rfl ?_
  refine g_jn (J := fun (s : Sg) => GX g 0 RX11 cX11_remember 2 none none mm 50 [some (.ref (g.ad 27)), none] [] s) hm ?_ ?_
  · intro m1 hm
    refine g_iconst 0 dX11_remember_50 rfl ?_
    refine g_istoren_1 dX11_remember_51 rfl ?_
    refine g_lp (I := fun (s : Sg × Int32) => GX g 0 RX11 cX11_remember 2 none none mm 52 [some (.ref (g.ad 27)), some (.int (s.2))] [] s.1) (E := fun (s : Sg) => GX g 0 RX11 cX11_remember 2 none none mm 86 [some (.ref (g.ad 27)), none] [] s) hm ?_ ?_
    · rintro m5 hm
      (try dsimp only at hm)
      (try dsimp only)
      refine g_aloadn_0 dX11_remember_86 ?_
      refine g_dup dX11_remember_87 rfl ?_
      refine g_geti fo_11_39 pn_27 pc_27 rfl dX11_remember_88 ?_
      refine g_iconst 1 dX11_remember_91 rfl ?_
      refine g_iadd dX11_remember_92 ?_
      refine g_put hm fo_11_39 fp_11_39 pn_27 pc_27 rfl dX11_remember_93 (fun m10 hm => ?_)
      exact g_vret hm dX11_remember_96
    · rintro ⟨m3, x4⟩ o hm hx7 hi6
      (try dsimp only [f_X11_remember_L52] at hm)
      (try dsimp only)
      refine g_iloadn_1 dX11_remember_52 ?_
      refine g_sipush 244 dX11_remember_53 rfl ?_
      refine g_icmp_ge 86 hm dX11_remember_56 (by decide) (fun hm => ?_) (fun hm => ?_)
      · refine g_weak (vs' := [some (.ref (g.ad 27)), none]) ⟨rfl, trivial⟩ ?_
        cases hm
        exact hx7 _ rfl
      · refine g_aloadn_0 dX11_remember_59 ?_
        refine g_getr (q := 41) fo_11_38 pn_27 pc_27 rfl rfl dX11_remember_60 ?_
        refine g_sipush 244 dX11_remember_63 rfl ?_
        refine g_aloadn_0 dX11_remember_66 ?_
        refine g_geti fo_11_39 pn_27 pc_27 rfl dX11_remember_67 ?_
        refine g_imul dX11_remember_70 ?_
        refine g_iloadn_1 dX11_remember_71 ?_
        refine g_iadd dX11_remember_72 ?_
        refine g_aloadn_0 dX11_remember_73 ?_
        refine g_getr (q := 38) fo_11_29 pn_27 pc_27 rfl rfl dX11_remember_74 ?_
        refine g_iloadn_1 dX11_remember_77 ?_
        refine g_iaload hm ar_38.1 ar_38.2 dX11_remember_78 (fun hm => ?_)
        refine g_iastore hm ar_41.1 ar_41.2 dX11_remember_79 (fun m8 hm => ?_)
        refine g_iinc_1 1 hm dX11_remember_80 rfl rfl (fun x9 hm => ?_)
        refine g_goto 52 dX11_remember_83 (by decide) ?_
        cases hm
        exact hi6 _ rfl
  · intro k2 hk2 hm
    refine g_icmp_ne 50 hm dX11_remember_6 (by decide) (fun hm => ?_) (fun hm => ?_)
    · exact hk2 _ hm
    · refine g_iconst 0 dX11_remember_9 rfl ?_
      refine g_istoren_1 dX11_remember_10 rfl ?_
      refine g_lp (I := fun (s : Sg × Int32) => GX g 0 RX11 cX11_remember 2 none none mm 11 [some (.ref (g.ad 27)), some (.int (s.2))] [] s.1) (E := fun (s : Sg) => GX g 0 RX11 cX11_remember 2 none none mm 40 [some (.ref (g.ad 27)), none] [] s) hm ?_ ?_
      · rintro m13 hm
        (try dsimp only at hm)
        (try dsimp only)
        refine g_aloadn_0 dX11_remember_40 ?_
        refine g_dup dX11_remember_41 rfl ?_
        refine g_geti fo_11_39 pn_27 pc_27 rfl dX11_remember_42 ?_
        refine g_iconst 1 dX11_remember_45 rfl ?_
        refine g_isub dX11_remember_46 ?_
        refine g_put hm fo_11_39 fp_11_39 pn_27 pc_27 rfl dX11_remember_47 (fun m18 hm => ?_)
        exact hk2 _ hm
      · rintro ⟨m11, x12⟩ o hm hx15 hi14
        (try dsimp only [f_X11_remember_L11] at hm)
        (try dsimp only)
        refine g_iloadn_1 dX11_remember_11 ?_
        refine g_sipush 9516 dX11_remember_12 rfl ?_
        refine g_icmp_ge 40 hm dX11_remember_15 (by decide) (fun hm => ?_) (fun hm => ?_)
        · refine g_weak (vs' := [some (.ref (g.ad 27)), none]) ⟨rfl, trivial⟩ ?_
          cases hm
          exact hx15 _ rfl
        · refine g_aloadn_0 dX11_remember_18 ?_
          refine g_getr (q := 41) fo_11_38 pn_27 pc_27 rfl rfl dX11_remember_19 ?_
          refine g_iloadn_1 dX11_remember_22 ?_
          refine g_aloadn_0 dX11_remember_23 ?_
          refine g_getr (q := 41) fo_11_38 pn_27 pc_27 rfl rfl dX11_remember_24 ?_
          refine g_iloadn_1 dX11_remember_27 ?_
          refine g_sipush 244 dX11_remember_28 rfl ?_
          refine g_iadd dX11_remember_31 ?_
          refine g_iaload hm ar_41.1 ar_41.2 dX11_remember_32 (fun hm => ?_)
          refine g_iastore hm ar_41.1 ar_41.2 dX11_remember_33 (fun m16 hm => ?_)
          refine g_iinc_1 1 hm dX11_remember_34 rfl rfl (fun x17 hm => ?_)
          refine g_goto 11 dX11_remember_37 (by decide) ?_
          cases hm
          exact hi14 _ rfl
def f_X11_isTen  (m : Sg) (a1 : Int32) : Option (Int32 × Sg) :=
  cal (f_X11_isIn m ((a1 : Int32).toInt64) 0 8) (fun x2 m1 => if isB x2 = true then some (x2, m1) else none)
set_option maxRecDepth 4000 in
theorem c_X11_isTen {g : Cf} {m mm : Sg} {r : Int32} {a1 : Int32} (hm : f_X11_isTen  m a1 = some (r, mm)) : Cl g 1 yX11_isTen cX11_isTen 1 (some .boolean) [.int a1] m (some (.int r)) mm := by
  refine cl_of (by decide) (Nat.le_of_ble_eq_true rfl) (vs := [some (.int a1)]) rfl rfl ?_
  show GX g 1 RX11 cX11_isTen 1 (some .boolean) (some (.int r)) mm 0 _ [] m
  unfold f_X11_isTen at hm
  refine g_iloadn_0 dX11_isTen_0 ?_
  refine g_i2l dX11_isTen_1 ?_
  refine g_lconst 0 dX11_isTen_2 rfl ?_
  refine g_ldc2_w dX11_isTen_3 ck_X11_354 ?_
  refine g_s3 hm (fun _ _ h => c_X11_isIn h) ce_X11_isIn lk_X11_201 rfl rfl dX11_isTen_6 (fun x2 m1 hm => ?_)
  exact g_zret hm dX11_isTen_9
def f_X11_teach  (m : Sg) (a1 : Int32) (a2 : Int32) : Option (Int32 × Sg) :=
  bnd (wr m 27 0 0) (fun m1 => cal (f_X11_isChild m1 a1) (fun x3 m2 => (if x3 = 0 then some ((-1), m2) else
  cal (f_X11_isTen m2 a2) (fun x5 m4 => (if x5 = 0 then some ((-1), m4) else
  if inr ((7 * a1) + 3) 244 = true then (if (m4.1 38 ((7 * a1) + 3).toNatClampNeg) = (-1) then if inr ((7 * a1) + 5) 244 = true then cal (f_X11_has m4 (m4.1 38 ((7 * a1) + 5).toNatClampNeg) a2) (fun x7 m6 => (if x7 = 0 then cal (f_X11_rightOf 38 m6 a1) (fun x9 m8 => cal (f_X11_has m8 x9 a2) (fun x11 m10 => (if x11 = 0 then calv (f_X11_remember m10) (fun m12 => if inr ((7 * a1) + 3) 244 = true then bnd (wr m12 38 ((7 * a1) + 3).toNatClampNeg a2) (fun m13 => if inr ((6 * a1) + 4) 48 = true then if inr ((7 * a1) + 4) 244 = true then bnd (wr m13 38 ((7 * a1) + 4).toNatClampNeg (m13.1 32 ((6 * a1) + 4).toNatClampNeg)) (fun m14 => some (m14.1 27 39, m14)) else none else none) else none) else
  some ((-1), m10)))) else
  some ((-1), m6))) else none else
  some ((-1), m4)) else none)))))
set_option maxRecDepth 4000 in
theorem c_X11_teach {g : Cf} {m mm : Sg} {r : Int32} {a1 : Int32} {a2 : Int32} (hm : f_X11_teach  m a1 a2 = some (r, mm)) : Cl g 2 yX11_teach cX11_teach 3 (some .int) [.ref (g.ad 27), .int a1, .int a2] m (some (.int r)) mm := by
  refine cl_of (by decide) (Nat.le_of_ble_eq_true rfl) (vs := [some (.ref (g.ad 27)), some (.int a1), some (.int a2)]) rfl rfl ?_
  show GX g 2 RX11 cX11_teach 3 (some .int) (some (.int r)) mm 0 _ [] m
  unfold f_X11_teach at hm
  refine g_aloadn_0 dX11_teach_0 ?_
  refine g_iconst 0 dX11_teach_1 rfl ?_
  refine g_put hm fo_11_0 fp_11_0 pn_27 pc_27 rfl dX11_teach_2 (fun m1 hm => ?_)
  refine g_aloadn_0 dX11_teach_5 ?_
  refine g_iloadn_1 dX11_teach_6 ?_
  refine g_v1 hm (fun _ _ h => c_X11_isChild h) pn_27 (pc_27 _ _) rfl ce_X11_isChild lk_X11_296 rfl rfl dX11_teach_7 (fun x3 m2 hm => ?_)
  refine g_if_eq 68 hm dX11_teach_10 (by decide) (fun hm => ?_) (fun hm => ?_)
  · refine g_iconst (-1) dX11_teach_68 rfl ?_
    exact g_iret hm dX11_teach_69
  · refine g_iloadn_2 dX11_teach_13 ?_
    refine g_s1 hm (fun _ _ h => c_X11_isTen h) ce_X11_isTen lk_X11_356 rfl rfl dX11_teach_14 (fun x5 m4 hm => ?_)
    refine g_if_eq 68 hm dX11_teach_17 (by decide) (fun hm => ?_) (fun hm => ?_)
    · refine g_iconst (-1) dX11_teach_68 rfl ?_
      exact g_iret hm dX11_teach_69
    · refine g_aloadn_0 dX11_teach_20 ?_
      refine g_getr (q := 38) fo_11_29 pn_27 pc_27 rfl rfl dX11_teach_21 ?_
      refine g_bipush 7 dX11_teach_24 rfl ?_
      refine g_iloadn_1 dX11_teach_26 ?_
      refine g_imul dX11_teach_27 ?_
      refine g_iconst 3 dX11_teach_28 rfl ?_
      refine g_iadd dX11_teach_29 ?_
      refine g_iaload hm ar_38.1 ar_38.2 dX11_teach_30 (fun hm => ?_)
      refine g_iconst (-1) dX11_teach_31 rfl ?_
      refine g_icmp_ne 68 hm dX11_teach_32 (by decide) (fun hm => ?_) (fun hm => ?_)
      · refine g_iconst (-1) dX11_teach_68 rfl ?_
        exact g_iret hm dX11_teach_69
      · refine g_aloadn_0 dX11_teach_35 ?_
        refine g_getr (q := 38) fo_11_29 pn_27 pc_27 rfl rfl dX11_teach_36 ?_
        refine g_bipush 7 dX11_teach_39 rfl ?_
        refine g_iloadn_1 dX11_teach_41 ?_
        refine g_imul dX11_teach_42 ?_
        refine g_iconst 5 dX11_teach_43 rfl ?_
        refine g_iadd dX11_teach_44 ?_
        refine g_iaload hm ar_38.1 ar_38.2 dX11_teach_45 (fun hm => ?_)
        refine g_iloadn_2 dX11_teach_46 ?_
        refine g_s2 hm (fun _ _ h => c_X11_has h) ce_X11_has lk_X11_213 rfl rfl dX11_teach_47 (fun x7 m6 hm => ?_)
        refine g_if_ne 68 hm dX11_teach_50 (by decide) (fun hm => ?_) (fun hm => ?_)
        · refine g_iconst (-1) dX11_teach_68 rfl ?_
          exact g_iret hm dX11_teach_69
        · refine g_aloadn_0 dX11_teach_53 ?_
          refine g_getr (q := 38) fo_11_29 pn_27 pc_27 rfl rfl dX11_teach_54 ?_
          refine g_iloadn_1 dX11_teach_57 ?_
          refine g_s2 hm (fun _ _ h => c_X11_rightOf ar_38 h) ce_X11_rightOf lk_X11_272 rfl rfl dX11_teach_58 (fun x9 m8 hm => ?_)
          refine g_iloadn_2 dX11_teach_61 ?_
          refine g_s2 hm (fun _ _ h => c_X11_has h) ce_X11_has lk_X11_213 rfl rfl dX11_teach_62 (fun x11 m10 hm => ?_)
          refine g_if_eq 70 hm dX11_teach_65 (by decide) (fun hm => ?_) (fun hm => ?_)
          · refine g_aloadn_0 dX11_teach_70 ?_
            refine g_v0V hm (fun _ h => c_X11_remember h) pn_27 (pc_27 _ _) rfl ce_X11_remember lk_X11_359 rfl rfl dX11_teach_71 (fun m12 hm => ?_)
            refine g_aloadn_0 dX11_teach_74 ?_
            refine g_getr (q := 38) fo_11_29 pn_27 pc_27 rfl rfl dX11_teach_75 ?_
            refine g_bipush 7 dX11_teach_78 rfl ?_
            refine g_iloadn_1 dX11_teach_80 ?_
            refine g_imul dX11_teach_81 ?_
            refine g_iconst 3 dX11_teach_82 rfl ?_
            refine g_iadd dX11_teach_83 ?_
            refine g_iloadn_2 dX11_teach_84 ?_
            refine g_iastore hm ar_38.1 ar_38.2 dX11_teach_85 (fun m13 hm => ?_)
            refine g_aloadn_0 dX11_teach_86 ?_
            refine g_getr (q := 38) fo_11_29 pn_27 pc_27 rfl rfl dX11_teach_87 ?_
            refine g_bipush 7 dX11_teach_90 rfl ?_
            refine g_iloadn_1 dX11_teach_92 ?_
            refine g_imul dX11_teach_93 ?_
            refine g_iconst 4 dX11_teach_94 rfl ?_
            refine g_iadd dX11_teach_95 ?_
            refine g_aloadn_0 dX11_teach_96 ?_
            refine g_getr (q := 32) fo_11_18 pn_27 pc_27 rfl rfl dX11_teach_97 ?_
            refine g_bipush 6 dX11_teach_100 rfl ?_
            refine g_iloadn_1 dX11_teach_102 ?_
            refine g_imul dX11_teach_103 ?_
            refine g_iconst 4 dX11_teach_104 rfl ?_
            refine g_iadd dX11_teach_105 ?_
            refine g_iaload hm ar_32.1 ar_32.2 dX11_teach_106 (fun hm => ?_)
            refine g_iastore hm ar_38.1 ar_38.2 dX11_teach_107 (fun m14 hm => ?_)
            refine g_aloadn_0 dX11_teach_108 ?_
            refine g_geti fo_11_39 pn_27 pc_27 rfl dX11_teach_109 ?_
            exact g_iret hm dX11_teach_112
          · refine g_iconst (-1) dX11_teach_68 rfl ?_
            exact g_iret hm dX11_teach_69
def f_X11_wrong  (m : Sg) (a1 : Int32) (a2 : Int32) : Option (Int32 × Sg) :=
  bnd (wr m 27 0 0) (fun m1 => cal (f_X11_isChild m1 a1) (fun x3 m2 => (if x3 = 0 then some ((-1), m2) else
  cal (f_X11_isTen m2 a2) (fun x5 m4 => (if x5 = 0 then some ((-1), m4) else
  if inr ((7 * a1) + 2) 244 = true then cal (f_X11_has m4 (m4.1 38 ((7 * a1) + 2).toNatClampNeg) a2) (fun x7 m6 => (if x7 = 0 then calv (f_X11_remember m6) (fun m8 => if inr ((7 * a1) + 2) 244 = true then if inr ((7 * a1) + 2) 244 = true then bnd (wr m8 38 ((7 * a1) + 2).toNatClampNeg ((m8.1 38 ((7 * a1) + 2).toNatClampNeg) ||| (1 <<< (a2 &&& 31)))) (fun m9 => some (m9.1 27 39, m9)) else none else none) else
  some ((-1), m6))) else none)))))
set_option maxRecDepth 4000 in
theorem c_X11_wrong {g : Cf} {m mm : Sg} {r : Int32} {a1 : Int32} {a2 : Int32} (hm : f_X11_wrong  m a1 a2 = some (r, mm)) : Cl g 2 yX11_wrong cX11_wrong 3 (some .int) [.ref (g.ad 27), .int a1, .int a2] m (some (.int r)) mm := by
  refine cl_of (by decide) (Nat.le_of_ble_eq_true rfl) (vs := [some (.ref (g.ad 27)), some (.int a1), some (.int a2)]) rfl rfl ?_
  show GX g 2 RX11 cX11_wrong 3 (some .int) (some (.int r)) mm 0 _ [] m
  unfold f_X11_wrong at hm
  refine g_aloadn_0 dX11_wrong_0 ?_
  refine g_iconst 0 dX11_wrong_1 rfl ?_
  refine g_put hm fo_11_0 fp_11_0 pn_27 pc_27 rfl dX11_wrong_2 (fun m1 hm => ?_)
  refine g_aloadn_0 dX11_wrong_5 ?_
  refine g_iloadn_1 dX11_wrong_6 ?_
  refine g_v1 hm (fun _ _ h => c_X11_isChild h) pn_27 (pc_27 _ _) rfl ce_X11_isChild lk_X11_296 rfl rfl dX11_wrong_7 (fun x3 m2 hm => ?_)
  refine g_if_eq 38 hm dX11_wrong_10 (by decide) (fun hm => ?_) (fun hm => ?_)
  · refine g_iconst (-1) dX11_wrong_38 rfl ?_
    exact g_iret hm dX11_wrong_39
  · refine g_iloadn_2 dX11_wrong_13 ?_
    refine g_s1 hm (fun _ _ h => c_X11_isTen h) ce_X11_isTen lk_X11_356 rfl rfl dX11_wrong_14 (fun x5 m4 hm => ?_)
    refine g_if_eq 38 hm dX11_wrong_17 (by decide) (fun hm => ?_) (fun hm => ?_)
    · refine g_iconst (-1) dX11_wrong_38 rfl ?_
      exact g_iret hm dX11_wrong_39
    · refine g_aloadn_0 dX11_wrong_20 ?_
      refine g_getr (q := 38) fo_11_29 pn_27 pc_27 rfl rfl dX11_wrong_21 ?_
      refine g_bipush 7 dX11_wrong_24 rfl ?_
      refine g_iloadn_1 dX11_wrong_26 ?_
      refine g_imul dX11_wrong_27 ?_
      refine g_iconst 2 dX11_wrong_28 rfl ?_
      refine g_iadd dX11_wrong_29 ?_
      refine g_iaload hm ar_38.1 ar_38.2 dX11_wrong_30 (fun hm => ?_)
      refine g_iloadn_2 dX11_wrong_31 ?_
      refine g_s2 hm (fun _ _ h => c_X11_has h) ce_X11_has lk_X11_213 rfl rfl dX11_wrong_32 (fun x7 m6 hm => ?_)
      refine g_if_eq 40 hm dX11_wrong_35 (by decide) (fun hm => ?_) (fun hm => ?_)
      · refine g_aloadn_0 dX11_wrong_40 ?_
        refine g_v0V hm (fun _ h => c_X11_remember h) pn_27 (pc_27 _ _) rfl ce_X11_remember lk_X11_359 rfl rfl dX11_wrong_41 (fun m8 hm => ?_)
        refine g_aloadn_0 dX11_wrong_44 ?_
        refine g_getr (q := 38) fo_11_29 pn_27 pc_27 rfl rfl dX11_wrong_45 ?_
        refine g_bipush 7 dX11_wrong_48 rfl ?_
        refine g_iloadn_1 dX11_wrong_50 ?_
        refine g_imul dX11_wrong_51 ?_
        refine g_iconst 2 dX11_wrong_52 rfl ?_
        refine g_iadd dX11_wrong_53 ?_
        refine g_dup2 dX11_wrong_54 rfl rfl ?_
        refine g_iaload hm ar_38.1 ar_38.2 dX11_wrong_55 (fun hm => ?_)
        refine g_iconst 1 dX11_wrong_56 rfl ?_
        refine g_iloadn_2 dX11_wrong_57 ?_
        refine g_ishl dX11_wrong_58 ?_
        refine g_ior dX11_wrong_59 ?_
        refine g_iastore hm ar_38.1 ar_38.2 dX11_wrong_60 (fun m9 hm => ?_)
        refine g_aloadn_0 dX11_wrong_61 ?_
        refine g_geti fo_11_39 pn_27 pc_27 rfl dX11_wrong_62 ?_
        exact g_iret hm dX11_wrong_65
      · refine g_iconst (-1) dX11_wrong_38 rfl ?_
        exact g_iret hm dX11_wrong_39
def f_X11_keeps (w : Nat) (m : Sg) (a1 : Int32) (a2 : Int32) : Option (Sg) :=
  if inr ((7 * a1) + 5) 244 = true then if inr ((7 * a1) + 5) 244 = true then bnd (wr m w ((7 * a1) + 5).toNatClampNeg ((m.1 w ((7 * a1) + 5).toNatClampNeg) ||| (1 <<< (a2 &&& 31)))) (fun m1 => if inr ((7 * a1) + 3) 244 = true then (if (m1.1 w ((7 * a1) + 3).toNatClampNeg) = a2 then if inr ((7 * a1) + 3) 244 = true then bnd (wr m1 w ((7 * a1) + 3).toNatClampNeg (-1)) (fun m2 => if inr ((7 * a1) + 4) 244 = true then bnd (wr m2 w ((7 * a1) + 4).toNatClampNeg 0) (fun m3 => some m3) else none) else none else
  some m1) else none) else none else none
set_option maxRecDepth 4000 in
theorem c_X11_keeps {g : Cf} {m mm : Sg} {w : Nat} {a1 : Int32} {a2 : Int32} (Hw : ARR g w 244 0) (hm : f_X11_keeps w m a1 a2 = some mm) : Cl g 0 yX11_keeps cX11_keeps 3 none [.ref (g.ad w), .int a1, .int a2] m none mm := by
  refine cl_of (by decide) (Nat.le_of_ble_eq_true rfl) (vs := [some (.ref (g.ad w)), some (.int a1), some (.int a2)]) rfl rfl ?_
  show GX g 0 RX11 cX11_keeps 3 none none mm 0 _ [] m
  unfold f_X11_keeps at hm
  refine g_aloadn_0 dX11_keeps_0 ?_
  refine g_bipush 7 dX11_keeps_1 rfl ?_
  refine g_iloadn_1 dX11_keeps_3 ?_
  refine g_imul dX11_keeps_4 ?_
  refine g_iconst 5 dX11_keeps_5 rfl ?_
  refine g_iadd dX11_keeps_6 ?_
  refine g_dup2 dX11_keeps_7 rfl rfl ?_
  refine g_iaload hm Hw.1 Hw.2 dX11_keeps_8 (fun hm => ?_)
  refine g_iconst 1 dX11_keeps_9 rfl ?_
  refine g_iloadn_2 dX11_keeps_10 ?_
  refine g_ishl dX11_keeps_11 ?_
  refine g_ior dX11_keeps_12 ?_
  refine g_iastore hm Hw.1 Hw.2 dX11_keeps_13 (fun m1 hm => ?_)
  refine g_aloadn_0 dX11_keeps_14 ?_
  refine g_bipush 7 dX11_keeps_15 rfl ?_
  refine g_iloadn_1 dX11_keeps_17 ?_
  refine g_imul dX11_keeps_18 ?_
  refine g_iconst 3 dX11_keeps_19 rfl ?_
  refine g_iadd dX11_keeps_20 ?_
  refine g_iaload hm Hw.1 Hw.2 dX11_keeps_21 (fun hm => ?_)
  refine g_iloadn_2 dX11_keeps_22 ?_
  refine g_icmp_eq 27 hm dX11_keeps_23 (by decide) (fun hm => ?_) (fun hm => ?_)
  · refine g_aloadn_0 dX11_keeps_27 ?_
    refine g_bipush 7 dX11_keeps_28 rfl ?_
    refine g_iloadn_1 dX11_keeps_30 ?_
    refine g_imul dX11_keeps_31 ?_
    refine g_iconst 3 dX11_keeps_32 rfl ?_
    refine g_iadd dX11_keeps_33 ?_
    refine g_iconst (-1) dX11_keeps_34 rfl ?_
    refine g_iastore hm Hw.1 Hw.2 dX11_keeps_35 (fun m2 hm => ?_)
    refine g_aloadn_0 dX11_keeps_36 ?_
    refine g_bipush 7 dX11_keeps_37 rfl ?_
    refine g_iloadn_1 dX11_keeps_39 ?_
    refine g_imul dX11_keeps_40 ?_
    refine g_iconst 4 dX11_keeps_41 rfl ?_
    refine g_iadd dX11_keeps_42 ?_
    refine g_iconst 0 dX11_keeps_43 rfl ?_
    refine g_iastore hm Hw.1 Hw.2 dX11_keeps_44 (fun m3 hm => ?_)
    exact g_vret hm dX11_keeps_45
  · exact g_vret hm dX11_keeps_26
def f_X11_keep  (m : Sg) (a1 : Int32) (a2 : Int32) (a3 : Int32) : Option (Int32 × Sg) :=
  bnd (wr m 27 0 0) (fun m1 => cal (f_X11_isChild m1 a1) (fun x3 m2 => (if x3 = 0 then some ((-1), m2) else
  cal (f_X11_isTen m2 a2) (fun x5 m4 => (if x5 = 0 then some ((-1), m4) else
  if inr ((7 * a1) + 5) 244 = true then cal (f_X11_has m4 (m4.1 38 ((7 * a1) + 5).toNatClampNeg) a2) (fun x7 m6 => (if x7 = a3 then some ((-1), m6) else
  calv (f_X11_remember m6) (fun m8 => bnd (fun (m9 : Sg) => some (m9.1 27 39, m9)) (fun (k10 : Sg → Option (Int32 × Sg)) =>
  (if a3 = 0 then if inr ((7 * a1) + 5) 244 = true then if inr ((7 * a1) + 5) 244 = true then bnd (wr m8 38 ((7 * a1) + 5).toNatClampNeg ((m8.1 38 ((7 * a1) + 5).toNatClampNeg) &&& ((1 <<< (a2 &&& 31)) ^^^ (-1)))) (fun m11 => k10 m11) else none else none else
  calv (f_X11_keeps 38 m8 a1 a2) (fun m12 => k10 m12)))))) else none)))))
set_option maxRecDepth 4000 in
theorem c_X11_keep {g : Cf} {m mm : Sg} {r : Int32} {a1 : Int32} {a2 : Int32} {a3 : Int32} (hm : f_X11_keep  m a1 a2 a3 = some (r, mm)) : Cl g 2 yX11_keep cX11_keep 4 (some .int) [.ref (g.ad 27), .int a1, .int a2, .int a3] m (some (.int r)) mm := by
  refine cl_of (by decide) (Nat.le_of_ble_eq_true rfl) (vs := [some (.ref (g.ad 27)), some (.int a1), some (.int a2), some (.int a3)]) rfl rfl ?_
  show GX g 2 RX11 cX11_keep 4 (some .int) (some (.int r)) mm 0 _ [] m
  unfold f_X11_keep at hm
  refine g_aloadn_0 dX11_keep_0 ?_
  refine g_iconst 0 dX11_keep_1 rfl ?_
  refine g_put hm fo_11_0 fp_11_0 pn_27 pc_27 rfl dX11_keep_2 (fun m1 hm => ?_)
  refine g_aloadn_0 dX11_keep_5 ?_
  refine g_iloadn_1 dX11_keep_6 ?_
  refine g_v1 hm (fun _ _ h => c_X11_isChild h) pn_27 (pc_27 _ _) rfl ce_X11_isChild lk_X11_296 rfl rfl dX11_keep_7 (fun x3 m2 hm => ?_)
  refine g_if_eq 39 hm dX11_keep_10 (by decide) (fun hm => ?_) (fun hm => ?_)
  · refine g_iconst (-1) dX11_keep_39 rfl ?_
    exact g_iret hm dX11_keep_40
  · refine g_iloadn_2 dX11_keep_13 ?_
    refine g_s1 hm (fun _ _ h => c_X11_isTen h) ce_X11_isTen lk_X11_356 rfl rfl dX11_keep_14 (fun x5 m4 hm => ?_)
    refine g_if_eq 39 hm dX11_keep_17 (by decide) (fun hm => ?_) (fun hm => ?_)
    · refine g_iconst (-1) dX11_keep_39 rfl ?_
      exact g_iret hm dX11_keep_40
    · refine g_aloadn_0 dX11_keep_20 ?_
      refine g_getr (q := 38) fo_11_29 pn_27 pc_27 rfl rfl dX11_keep_21 ?_
      refine g_bipush 7 dX11_keep_24 rfl ?_
      refine g_iloadn_1 dX11_keep_26 ?_
      refine g_imul dX11_keep_27 ?_
      refine g_iconst 5 dX11_keep_28 rfl ?_
      refine g_iadd dX11_keep_29 ?_
      refine g_iaload hm ar_38.1 ar_38.2 dX11_keep_30 (fun hm => ?_)
      refine g_iloadn_2 dX11_keep_31 ?_
      refine g_s2 hm (fun _ _ h => c_X11_has h) ce_X11_has lk_X11_213 rfl rfl dX11_keep_32 (fun x7 m6 hm => ?_)
      refine g_iloadn_3 dX11_keep_35 ?_
      refine g_icmp_ne 41 hm dX11_keep_36 (by decide) (fun hm => ?_) (fun hm => ?_)
      · refine g_aloadn_0 dX11_keep_41 ?_
        refine g_v0V hm (fun _ h => c_X11_remember h) pn_27 (pc_27 _ _) rfl ce_X11_remember lk_X11_359 rfl rfl dX11_keep_42 (fun m8 hm => ?_)
        refine g_iloadn_3 dX11_keep_45 ?_
        refine g_jn (J := fun (s : Sg) => GX g 2 RX11 cX11_keep 4 (some .int) (some (.int r)) mm 80 [some (.ref (g.ad 27)), none, none, none] [] s) hm ?_ ?_
        · intro m9 hm
          refine g_aloadn_0 dX11_keep_80 ?_
          refine g_geti fo_11_39 pn_27 pc_27 rfl dX11_keep_81 ?_
          exact g_iret hm dX11_keep_84
        · intro k10 hk10 hm
          refine g_if_eq 61 hm dX11_keep_46 (by decide) (fun hm => ?_) (fun hm => ?_)
          · refine g_aloadn_0 dX11_keep_61 ?_
            refine g_getr (q := 38) fo_11_29 pn_27 pc_27 rfl rfl dX11_keep_62 ?_
            refine g_bipush 7 dX11_keep_65 rfl ?_
            refine g_iloadn_1 dX11_keep_67 ?_
            refine g_imul dX11_keep_68 ?_
            refine g_iconst 5 dX11_keep_69 rfl ?_
            refine g_iadd dX11_keep_70 ?_
            refine g_dup2 dX11_keep_71 rfl rfl ?_
            refine g_iaload hm ar_38.1 ar_38.2 dX11_keep_72 (fun hm => ?_)
            refine g_iconst 1 dX11_keep_73 rfl ?_
            refine g_iloadn_2 dX11_keep_74 ?_
            refine g_ishl dX11_keep_75 ?_
            refine g_iconst (-1) dX11_keep_76 rfl ?_
            refine g_ixor dX11_keep_77 ?_
            refine g_iand dX11_keep_78 ?_
            refine g_iastore hm ar_38.1 ar_38.2 dX11_keep_79 (fun m11 hm => ?_)
            refine g_weak (vs' := [some (.ref (g.ad 27)), none, none, none]) ⟨rfl, trivial⟩ ?_
            exact hk10 _ hm
          · refine g_aloadn_0 dX11_keep_49 ?_
            refine g_getr (q := 38) fo_11_29 pn_27 pc_27 rfl rfl dX11_keep_50 ?_
            refine g_iloadn_1 dX11_keep_53 ?_
            refine g_iloadn_2 dX11_keep_54 ?_
            refine g_s3V hm (fun _ h => c_X11_keeps ar_38 h) ce_X11_keeps lk_X11_362 rfl rfl dX11_keep_55 (fun m12 hm => ?_)
            refine g_goto 80 dX11_keep_58 (by decide) ?_
            refine g_weak (vs' := [some (.ref (g.ad 27)), none, none, none]) ⟨rfl, trivial⟩ ?_
            exact hk10 _ hm
      · refine g_iconst (-1) dX11_keep_39 rfl ?_
        exact g_iret hm dX11_keep_40
def f_X11_isRight (w : Nat) (m : Sg) (a1 : Int32) (a2 : Int32) : Option (Sg) :=
  if inr ((7 * a1) + 1) 244 = true then if inr ((7 * a1) + 1) 244 = true then bnd (wr m w ((7 * a1) + 1).toNatClampNeg ((m.1 w ((7 * a1) + 1).toNatClampNeg) ||| (1 <<< (a2 &&& 31)))) (fun m1 => if inr ((7 * a1) + 2) 244 = true then if inr ((7 * a1) + 2) 244 = true then bnd (wr m1 w ((7 * a1) + 2).toNatClampNeg ((m1.1 w ((7 * a1) + 2).toNatClampNeg) &&& ((1 <<< (a2 &&& 31)) ^^^ (-1)))) (fun m2 => some m2) else none else none) else none else none
set_option maxRecDepth 4000 in
theorem c_X11_isRight {g : Cf} {m mm : Sg} {w : Nat} {a1 : Int32} {a2 : Int32} (Hw : ARR g w 244 0) (hm : f_X11_isRight w m a1 a2 = some mm) : Cl g 0 yX11_isRight cX11_isRight 3 none [.ref (g.ad w), .int a1, .int a2] m none mm := by
  refine cl_of (by decide) (Nat.le_of_ble_eq_true rfl) (vs := [some (.ref (g.ad w)), some (.int a1), some (.int a2)]) rfl rfl ?_
  show GX g 0 RX11 cX11_isRight 3 none none mm 0 _ [] m
  unfold f_X11_isRight at hm
  refine g_aloadn_0 dX11_isRight_0 ?_
  refine g_bipush 7 dX11_isRight_1 rfl ?_
  refine g_iloadn_1 dX11_isRight_3 ?_
  refine g_imul dX11_isRight_4 ?_
  refine g_iconst 1 dX11_isRight_5 rfl ?_
  refine g_iadd dX11_isRight_6 ?_
  refine g_dup2 dX11_isRight_7 rfl rfl ?_
  refine g_iaload hm Hw.1 Hw.2 dX11_isRight_8 (fun hm => ?_)
  refine g_iconst 1 dX11_isRight_9 rfl ?_
  refine g_iloadn_2 dX11_isRight_10 ?_
  refine g_ishl dX11_isRight_11 ?_
  refine g_ior dX11_isRight_12 ?_
  refine g_iastore hm Hw.1 Hw.2 dX11_isRight_13 (fun m1 hm => ?_)
  refine g_aloadn_0 dX11_isRight_14 ?_
  refine g_bipush 7 dX11_isRight_15 rfl ?_
  refine g_iloadn_1 dX11_isRight_17 ?_
  refine g_imul dX11_isRight_18 ?_
  refine g_iconst 2 dX11_isRight_19 rfl ?_
  refine g_iadd dX11_isRight_20 ?_
  refine g_dup2 dX11_isRight_21 rfl rfl ?_
  refine g_iaload hm Hw.1 Hw.2 dX11_isRight_22 (fun hm => ?_)
  refine g_iconst 1 dX11_isRight_23 rfl ?_
  refine g_iloadn_2 dX11_isRight_24 ?_
  refine g_ishl dX11_isRight_25 ?_
  refine g_iconst (-1) dX11_isRight_26 rfl ?_
  refine g_ixor dX11_isRight_27 ?_
  refine g_iand dX11_isRight_28 ?_
  refine g_iastore hm Hw.1 Hw.2 dX11_isRight_29 (fun m2 hm => ?_)
  exact g_vret hm dX11_isRight_30
def f_X11_buy  (m : Sg) (a1 : Int32) (a2 : Int32) : Option (Int32 × Sg) :=
  bnd (wr m 27 0 0) (fun m1 => cal (f_X11_isChild m1 a1) (fun x3 m2 => (if x3 = 0 then some ((-1), m2) else
  cal (f_X11_isTen m2 a2) (fun x5 m4 => (if x5 = 0 then some ((-1), m4) else
  cal (f_X11_rightOf 38 m4 a1) (fun x7 m6 => cal (f_X11_has m6 x7 a2) (fun x9 m8 => (if x9 = 0 then (if (m8.1 36 2) ≤ (m8.1 38 62) then calv (f_X11_remember m8) (fun m10 => bnd (wr m10 38 62 ((m10.1 38 62) - (m10.1 36 2))) (fun m11 => calv (f_X11_isRight 38 m11 a1 a2) (fun m12 => some (m12.1 38 62, m12)))) else
  some ((-1), m8)) else
  some ((-1), m8)))))))))
set_option maxRecDepth 4000 in
theorem c_X11_buy {g : Cf} {m mm : Sg} {r : Int32} {a1 : Int32} {a2 : Int32} (hm : f_X11_buy  m a1 a2 = some (r, mm)) : Cl g 2 yX11_buy cX11_buy 3 (some .int) [.ref (g.ad 27), .int a1, .int a2] m (some (.int r)) mm := by
  refine cl_of (by decide) (Nat.le_of_ble_eq_true rfl) (vs := [some (.ref (g.ad 27)), some (.int a1), some (.int a2)]) rfl rfl ?_
  show GX g 2 RX11 cX11_buy 3 (some .int) (some (.int r)) mm 0 _ [] m
  unfold f_X11_buy at hm
  refine g_aloadn_0 dX11_buy_0 ?_
  refine g_iconst 0 dX11_buy_1 rfl ?_
  refine g_put hm fo_11_0 fp_11_0 pn_27 pc_27 rfl dX11_buy_2 (fun m1 hm => ?_)
  refine g_aloadn_0 dX11_buy_5 ?_
  refine g_iloadn_1 dX11_buy_6 ?_
  refine g_v1 hm (fun _ _ h => c_X11_isChild h) pn_27 (pc_27 _ _) rfl ce_X11_isChild lk_X11_296 rfl rfl dX11_buy_7 (fun x3 m2 hm => ?_)
  refine g_if_eq 51 hm dX11_buy_10 (by decide) (fun hm => ?_) (fun hm => ?_)
  · refine g_iconst (-1) dX11_buy_51 rfl ?_
    exact g_iret hm dX11_buy_52
  · refine g_iloadn_2 dX11_buy_13 ?_
    refine g_s1 hm (fun _ _ h => c_X11_isTen h) ce_X11_isTen lk_X11_356 rfl rfl dX11_buy_14 (fun x5 m4 hm => ?_)
    refine g_if_eq 51 hm dX11_buy_17 (by decide) (fun hm => ?_) (fun hm => ?_)
    · refine g_iconst (-1) dX11_buy_51 rfl ?_
      exact g_iret hm dX11_buy_52
    · refine g_aloadn_0 dX11_buy_20 ?_
      refine g_getr (q := 38) fo_11_29 pn_27 pc_27 rfl rfl dX11_buy_21 ?_
      refine g_iloadn_1 dX11_buy_24 ?_
      refine g_s2 hm (fun _ _ h => c_X11_rightOf ar_38 h) ce_X11_rightOf lk_X11_272 rfl rfl dX11_buy_25 (fun x7 m6 hm => ?_)
      refine g_iloadn_2 dX11_buy_28 ?_
      refine g_s2 hm (fun _ _ h => c_X11_has h) ce_X11_has lk_X11_213 rfl rfl dX11_buy_29 (fun x9 m8 hm => ?_)
      refine g_if_ne 51 hm dX11_buy_32 (by decide) (fun hm => ?_) (fun hm => ?_)
      · refine g_iconst (-1) dX11_buy_51 rfl ?_
        exact g_iret hm dX11_buy_52
      · refine g_aloadn_0 dX11_buy_35 ?_
        refine g_getr (q := 38) fo_11_29 pn_27 pc_27 rfl rfl dX11_buy_36 ?_
        refine g_bipush 62 dX11_buy_39 rfl ?_
        refine g_ialoadc 62 rfl rfl ar_38.1 ar_38.2 dX11_buy_41 ?_
        refine g_aloadn_0 dX11_buy_42 ?_
        refine g_getr (q := 36) fo_11_22 pn_27 pc_27 rfl rfl dX11_buy_43 ?_
        refine g_iconst 2 dX11_buy_46 rfl ?_
        refine g_ialoadc 2 rfl rfl ar_36.1 ar_36.2 dX11_buy_47 ?_
        refine g_icmp_ge 53 hm dX11_buy_48 (by decide) (fun hm => ?_) (fun hm => ?_)
        · refine g_aloadn_0 dX11_buy_53 ?_
          refine g_v0V hm (fun _ h => c_X11_remember h) pn_27 (pc_27 _ _) rfl ce_X11_remember lk_X11_359 rfl rfl dX11_buy_54 (fun m10 hm => ?_)
          refine g_aloadn_0 dX11_buy_57 ?_
          refine g_getr (q := 38) fo_11_29 pn_27 pc_27 rfl rfl dX11_buy_58 ?_
          refine g_bipush 62 dX11_buy_61 rfl ?_
          refine g_dup2 dX11_buy_63 rfl rfl ?_
          refine g_ialoadc 62 rfl rfl ar_38.1 ar_38.2 dX11_buy_64 ?_
          refine g_aloadn_0 dX11_buy_65 ?_
          refine g_getr (q := 36) fo_11_22 pn_27 pc_27 rfl rfl dX11_buy_66 ?_
          refine g_iconst 2 dX11_buy_69 rfl ?_
          refine g_ialoadc 2 rfl rfl ar_36.1 ar_36.2 dX11_buy_70 ?_
          refine g_isub dX11_buy_71 ?_
          refine g_iastorec 62 hm rfl rfl ar_38.1 ar_38.2 dX11_buy_72 (fun m11 hm => ?_)
          refine g_aloadn_0 dX11_buy_73 ?_
          refine g_getr (q := 38) fo_11_29 pn_27 pc_27 rfl rfl dX11_buy_74 ?_
          refine g_iloadn_1 dX11_buy_77 ?_
          refine g_iloadn_2 dX11_buy_78 ?_
          refine g_s3V hm (fun _ h => c_X11_isRight ar_38 h) ce_X11_isRight lk_X11_365 rfl rfl dX11_buy_79 (fun m12 hm => ?_)
          refine g_aloadn_0 dX11_buy_82 ?_
          refine g_getr (q := 38) fo_11_29 pn_27 pc_27 rfl rfl dX11_buy_83 ?_
          refine g_bipush 62 dX11_buy_86 rfl ?_
          refine g_ialoadc 62 rfl rfl ar_38.1 ar_38.2 dX11_buy_88 ?_
          exact g_iret hm dX11_buy_89
        · refine g_iconst (-1) dX11_buy_51 rfl ?_
          exact g_iret hm dX11_buy_52
def f_X11_undo_L26  : (Sg × Int32) → Option (((Sg)) ⊕ (Sg × Int32)) := fun s => match s with
  | (m3, x4) => 
  (if 244 ≤ x4 then some (.inl m3) else
  if inr ((244 * (m3.1 27 39)) + x4) 9760 = true then if inr x4 244 = true then bnd (wr m3 38 x4.toNatClampNeg (m3.1 41 ((244 * (m3.1 27 39)) + x4).toNatClampNeg)) (fun m8 => bnd (x4 + 1) (fun x9 => some (.inr (m8, x9)))) else none else none)
def f_X11_undo  (m : Sg)  : Option (Int32 × Sg) :=
  bnd (wr m 27 0 0) (fun m1 => (if (m1.1 27 39) = 0 then some ((-1), m1) else
  bnd (wr m1 27 39 ((m1.1 27 39) - 1)) (fun m2 => lpk (f_X11_undo_L26) (m2, 0) (fun m5 => some (m5.1 27 39, m5)))))
set_option maxRecDepth 4000 in
theorem c_X11_undo {g : Cf} {m mm : Sg} {r : Int32} (hm : f_X11_undo  m  = some (r, mm)) : Cl g 0 yX11_undo cX11_undo 2 (some .int) [.ref (g.ad 27)] m (some (.int r)) mm := by
  refine cl_of (by decide) (Nat.le_of_ble_eq_true rfl) (vs := [some (.ref (g.ad 27)), none]) rfl rfl ?_
  show GX g 0 RX11 cX11_undo 2 (some .int) (some (.int r)) mm 0 _ [] m
  unfold f_X11_undo at hm
  refine g_aloadn_0 dX11_undo_0 ?_
  refine g_iconst 0 dX11_undo_1 rfl ?_
  refine g_put hm fo_11_0 fp_11_0 pn_27 pc_27 rfl dX11_undo_2 (fun m1 hm => ?_)
  refine g_aloadn_0 dX11_undo_5 ?_
  refine g_geti fo_11_39 pn_27 pc_27 rfl dX11_undo_6 ?_
  refine g_if_ne 14 hm dX11_undo_9 (by decide) (fun hm => ?_) (fun hm => ?_)
  · refine g_aloadn_0 dX11_undo_14 ?_
    refine g_dup dX11_undo_15 rfl ?_
    refine g_geti fo_11_39 pn_27 pc_27 rfl dX11_undo_16 ?_
    refine g_iconst 1 dX11_undo_19 rfl ?_
    refine g_isub dX11_undo_20 ?_
    refine g_put hm fo_11_39 fp_11_39 pn_27 pc_27 rfl dX11_undo_21 (fun m2 hm => ?_)
    refine g_iconst 0 dX11_undo_24 rfl ?_
    refine g_istoren_1 dX11_undo_25 rfl ?_
    refine g_lp (I := fun (s : Sg × Int32) => GX g 0 RX11 cX11_undo 2 (some .int) (some (.int r)) mm 26 [some (.ref (g.ad 27)), some (.int (s.2))] [] s.1) (E := fun (s : Sg) => GX g 0 RX11 cX11_undo 2 (some .int) (some (.int r)) mm 60 [some (.ref (g.ad 27)), none] [] s) hm ?_ ?_
    · rintro m5 hm
      (try dsimp only at hm)
      (try dsimp only)
      refine g_aloadn_0 dX11_undo_60 ?_
      refine g_geti fo_11_39 pn_27 pc_27 rfl dX11_undo_61 ?_
      exact g_iret hm dX11_undo_64
    · rintro ⟨m3, x4⟩ o hm hx7 hi6
      (try dsimp only [f_X11_undo_L26] at hm)
      (try dsimp only)
      refine g_iloadn_1 dX11_undo_26 ?_
      refine g_sipush 244 dX11_undo_27 rfl ?_
      refine g_icmp_ge 60 hm dX11_undo_30 (by decide) (fun hm => ?_) (fun hm => ?_)
      · refine g_weak (vs' := [some (.ref (g.ad 27)), none]) ⟨rfl, trivial⟩ ?_
        cases hm
        exact hx7 _ rfl
      · refine g_aloadn_0 dX11_undo_33 ?_
        refine g_getr (q := 38) fo_11_29 pn_27 pc_27 rfl rfl dX11_undo_34 ?_
        refine g_iloadn_1 dX11_undo_37 ?_
        refine g_aloadn_0 dX11_undo_38 ?_
        refine g_getr (q := 41) fo_11_38 pn_27 pc_27 rfl rfl dX11_undo_39 ?_
        refine g_sipush 244 dX11_undo_42 rfl ?_
        refine g_aloadn_0 dX11_undo_45 ?_
        refine g_geti fo_11_39 pn_27 pc_27 rfl dX11_undo_46 ?_
        refine g_imul dX11_undo_49 ?_
        refine g_iloadn_1 dX11_undo_50 ?_
        refine g_iadd dX11_undo_51 ?_
        refine g_iaload hm ar_41.1 ar_41.2 dX11_undo_52 (fun hm => ?_)
        refine g_iastore hm ar_38.1 ar_38.2 dX11_undo_53 (fun m8 hm => ?_)
        refine g_iinc_1 1 hm dX11_undo_54 rfl rfl (fun x9 hm => ?_)
        refine g_goto 26 dX11_undo_57 (by decide) ?_
        cases hm
        exact hi6 _ rfl
  · refine g_iconst (-1) dX11_undo_12 rfl ?_
    exact g_iret hm dX11_undo_13
def f_X11_log  (m : Sg) (a1 : Int32) (a2 : Int32) : Option (Int32 × Sg) :=
  bnd (wr m 27 0 0) (fun m1 => cal (f_X11_isIn m1 ((a1 : Int32).toInt64) 0 (((m1.1 38 63) - 1 : Int32).toInt64)) (fun x3 m2 => bnd (fun (m4 : Sg) => some ((-1000000), m4)) (fun (k5 : Sg → Option (Int32 × Sg)) =>
  (if x3 = 0 then k5 m2 else
  cal (f_X11_isIn m2 ((a2 : Int32).toInt64) 0 2) (fun x7 m6 => (if x7 = 0 then k5 m6 else
  if inr ((64 + (3 * (((m6.1 38 63) - 1) - a1))) + a2) 244 = true then some (m6.1 38 ((64 + (3 * (((m6.1 38 63) - 1) - a1))) + a2).toNatClampNeg, m6) else none))))))
set_option maxRecDepth 4000 in
theorem c_X11_log {g : Cf} {m mm : Sg} {r : Int32} {a1 : Int32} {a2 : Int32} (hm : f_X11_log  m a1 a2 = some (r, mm)) : Cl g 1 yX11_log cX11_log 3 (some .int) [.ref (g.ad 27), .int a1, .int a2] m (some (.int r)) mm := by
  refine cl_of (by decide) (Nat.le_of_ble_eq_true rfl) (vs := [some (.ref (g.ad 27)), some (.int a1), some (.int a2)]) rfl rfl ?_
  show GX g 1 RX11 cX11_log 3 (some .int) (some (.int r)) mm 0 _ [] m
  unfold f_X11_log at hm
  refine g_aloadn_0 dX11_log_0 ?_
  refine g_iconst 0 dX11_log_1 rfl ?_
  refine g_put hm fo_11_0 fp_11_0 pn_27 pc_27 rfl dX11_log_2 (fun m1 hm => ?_)
  refine g_iloadn_1 dX11_log_5 ?_
  refine g_i2l dX11_log_6 ?_
  refine g_lconst 0 dX11_log_7 rfl ?_
  refine g_aloadn_0 dX11_log_8 ?_
  refine g_getr (q := 38) fo_11_29 pn_27 pc_27 rfl rfl dX11_log_9 ?_
  refine g_bipush 63 dX11_log_12 rfl ?_
  refine g_ialoadc 63 rfl rfl ar_38.1 ar_38.2 dX11_log_14 ?_
  refine g_iconst 1 dX11_log_15 rfl ?_
  refine g_isub dX11_log_16 ?_
  refine g_i2l dX11_log_17 ?_
  refine g_s3 hm (fun _ _ h => c_X11_isIn h) ce_X11_isIn lk_X11_201 rfl rfl dX11_log_18 (fun x3 m2 hm => ?_)
  refine g_jn (J := fun (s : Sg) => GX g 1 RX11 cX11_log 3 (some .int) (some (.int r)) mm 62 [none, none, none] [] s) hm ?_ ?_
  · intro m4 hm
    refine g_ldc_w dX11_log_62 ck_X11_378 ?_
    exact g_iret hm dX11_log_65
  · intro k5 hk5 hm
    refine g_if_eq 62 hm dX11_log_21 (by decide) (fun hm => ?_) (fun hm => ?_)
    · refine g_weak (vs' := [none, none, none]) trivial ?_
      exact hk5 _ hm
    · refine g_iloadn_2 dX11_log_24 ?_
      refine g_i2l dX11_log_25 ?_
      refine g_lconst 0 dX11_log_26 rfl ?_
      refine g_ldc2_w dX11_log_27 ck_X11_307 ?_
      refine g_s3 hm (fun _ _ h => c_X11_isIn h) ce_X11_isIn lk_X11_201 rfl rfl dX11_log_30 (fun x7 m6 hm => ?_)
      refine g_if_eq 62 hm dX11_log_33 (by decide) (fun hm => ?_) (fun hm => ?_)
      · refine g_weak (vs' := [none, none, none]) trivial ?_
        exact hk5 _ hm
      · refine g_aloadn_0 dX11_log_36 ?_
        refine g_getr (q := 38) fo_11_29 pn_27 pc_27 rfl rfl dX11_log_37 ?_
        refine g_bipush 64 dX11_log_40 rfl ?_
        refine g_iconst 3 dX11_log_42 rfl ?_
        refine g_aloadn_0 dX11_log_43 ?_
        refine g_getr (q := 38) fo_11_29 pn_27 pc_27 rfl rfl dX11_log_44 ?_
        refine g_bipush 63 dX11_log_47 rfl ?_
        refine g_ialoadc 63 rfl rfl ar_38.1 ar_38.2 dX11_log_49 ?_
        refine g_iconst 1 dX11_log_50 rfl ?_
        refine g_isub dX11_log_51 ?_
        refine g_iloadn_1 dX11_log_52 ?_
        refine g_isub dX11_log_53 ?_
        refine g_imul dX11_log_54 ?_
        refine g_iadd dX11_log_55 ?_
        refine g_iloadn_2 dX11_log_56 ?_
        refine g_iadd dX11_log_57 ?_
        refine g_iaload hm ar_38.1 ar_38.2 dX11_log_58 (fun hm => ?_)
        refine g_goto 65 dX11_log_59 (by decide) ?_
        exact g_iret hm dX11_log_65
def f_X11_isNursery  (m : Sg) (a1 : Int32) : Option (Int32 × Sg) :=
  (if (m.1 27 24) ≤ 0 then some (0, m) else
  cal (f_X11_isIn m ((a1 : Int32).toInt64) 0 4) (fun x2 m1 => (if x2 = 0 then some (0, m1) else
  some (1, m1))))
set_option maxRecDepth 4000 in
theorem c_X11_isNursery {g : Cf} {m mm : Sg} {r : Int32} {a1 : Int32} (hm : f_X11_isNursery  m a1 = some (r, mm)) : Cl g 1 yX11_isNursery cX11_isNursery 2 (some .boolean) [.ref (g.ad 27), .int a1] m (some (.int r)) mm := by
  refine cl_of (by decide) (Nat.le_of_ble_eq_true rfl) (vs := [some (.ref (g.ad 27)), some (.int a1)]) rfl rfl ?_
  show GX g 1 RX11 cX11_isNursery 2 (some .boolean) (some (.int r)) mm 0 _ [] m
  unfold f_X11_isNursery at hm
  refine g_aloadn_0 dX11_isNursery_0 ?_
  refine g_geti fo_11_24 pn_27 pc_27 rfl dX11_isNursery_1 ?_
  refine g_if_le 23 hm dX11_isNursery_4 (by decide) (fun hm => ?_) (fun hm => ?_)
  · refine g_iconst 0 dX11_isNursery_23 rfl ?_
    exact g_zretc hm rfl dX11_isNursery_24
  · refine g_iloadn_1 dX11_isNursery_7 ?_
    refine g_i2l dX11_isNursery_8 ?_
    refine g_lconst 0 dX11_isNursery_9 rfl ?_
    refine g_ldc2_w dX11_isNursery_10 ck_X11_383 ?_
    refine g_s3 hm (fun _ _ h => c_X11_isIn h) ce_X11_isIn lk_X11_201 rfl rfl dX11_isNursery_13 (fun x2 m1 hm => ?_)
    refine g_if_eq 23 hm dX11_isNursery_16 (by decide) (fun hm => ?_) (fun hm => ?_)
    · refine g_iconst 0 dX11_isNursery_23 rfl ?_
      exact g_zretc hm rfl dX11_isNursery_24
    · refine g_iconst 1 dX11_isNursery_19 rfl ?_
      refine g_goto 24 dX11_isNursery_20 (by decide) ?_
      exact g_zretc hm rfl dX11_isNursery_24
def f_X11_plumsOf  (m : Sg) (a1 : Int32) (a2 : Int32) : Option (Int32 × Sg) :=
  cal (f_X11_slipsOf 38 m a1 a2) (fun x2 m1 => cal (f_J6_bitCount_0f7a4 m1 x2) (fun x4 m3 => some ((m.1 36 2) * x4, m3)))
set_option maxRecDepth 4000 in
theorem c_X11_plumsOf {g : Cf} {m mm : Sg} {r : Int32} {a1 : Int32} {a2 : Int32} (hm : f_X11_plumsOf  m a1 a2 = some (r, mm)) : Cl g 3 yX11_plumsOf cX11_plumsOf 3 (some .int) [.ref (g.ad 27), .int a1, .int a2] m (some (.int r)) mm := by
  refine cl_of (by decide) (Nat.le_of_ble_eq_true rfl) (vs := [some (.ref (g.ad 27)), some (.int a1), some (.int a2)]) rfl rfl ?_
  show GX g 3 RX11 cX11_plumsOf 3 (some .int) (some (.int r)) mm 0 _ [] m
  unfold f_X11_plumsOf at hm
  refine g_aloadn_0 dX11_plumsOf_0 ?_
  refine g_getr (q := 36) fo_11_22 pn_27 pc_27 rfl rfl dX11_plumsOf_1 ?_
  refine g_iconst 2 dX11_plumsOf_4 rfl ?_
  refine g_ialoadc 2 rfl rfl ar_36.1 ar_36.2 dX11_plumsOf_5 ?_
  refine g_aloadn_0 dX11_plumsOf_6 ?_
  refine g_aloadn_0 dX11_plumsOf_7 ?_
  refine g_getr (q := 38) fo_11_29 pn_27 pc_27 rfl rfl dX11_plumsOf_8 ?_
  refine g_iloadn_1 dX11_plumsOf_11 ?_
  refine g_iloadn_2 dX11_plumsOf_12 ?_
  refine g_v3 hm (fun _ _ h => c_X11_slipsOf ar_38 h) pn_27 (pc_27 _ _) rfl ce_X11_slipsOf lk_X11_314 rfl rfl dX11_plumsOf_13 (fun x2 m1 hm => ?_)
  refine g_s1 hm (fun _ _ h => c_J6_bitCount_0f7a4 h) ce_J6_bitCount_0f7a4 lk_X11_287 rfl rfl dX11_plumsOf_16 (fun x4 m3 hm => ?_)
  refine g_imul dX11_plumsOf_19 ?_
  exact g_iret hm dX11_plumsOf_20
def f_X11_plums  (m : Sg) (a1 : Int32) : Option (Int32 × Sg) :=
  bnd (wr m 27 0 0) (fun m1 => bnd (fun ((m2, x3) : Sg × Int32) => bnd (fun (m5 : Sg) => some ((-1), m5)) (fun (k6 : Sg → Option (Int32 × Sg)) =>
  (if x3 = (-1) then k6 m2 else
  cal (f_X11_isChild m2 a1) (fun x8 m7 => (if x8 = 0 then k6 m7 else
  cal (f_X11_plumsOf m7 a1 x3) (fun x10 m9 => some (x10, m9))))))) (fun (k4 : Sg × Int32 → Option (Int32 × Sg)) =>
  (if (m1.1 27 24) = 0 then k4 (m1, (-1)) else
  cal (f_X11_examinerOf 38 m1 0) (fun x12 m11 => k4 (m11, x12)))))
set_option maxRecDepth 4000 in
theorem c_X11_plums {g : Cf} {m mm : Sg} {r : Int32} {a1 : Int32} (hm : f_X11_plums  m a1 = some (r, mm)) : Cl g 4 yX11_plums cX11_plums 3 (some .int) [.ref (g.ad 27), .int a1] m (some (.int r)) mm := by
  refine cl_of (by decide) (Nat.le_of_ble_eq_true rfl) (vs := [some (.ref (g.ad 27)), some (.int a1), none]) rfl rfl ?_
  show GX g 4 RX11 cX11_plums 3 (some .int) (some (.int r)) mm 0 _ [] m
  unfold f_X11_plums at hm
  refine g_aloadn_0 dX11_plums_0 ?_
  refine g_iconst 0 dX11_plums_1 rfl ?_
  refine g_put hm fo_11_0 fp_11_0 pn_27 pc_27 rfl dX11_plums_2 (fun m1 hm => ?_)
  refine g_aloadn_0 dX11_plums_5 ?_
  refine g_geti fo_11_24 pn_27 pc_27 rfl dX11_plums_6 ?_
  refine g_jn (J := fun (s : Sg × Int32) => GX g 4 RX11 cX11_plums 3 (some .int) (some (.int r)) mm 25 [some (.ref (g.ad 27)), some (.int a1), none] [.int (s.2)] s.1) hm ?_ ?_
  · rintro ⟨m2, x3⟩ hm
    (try dsimp only at hm)
    (try dsimp only)
    refine g_istoren_2 dX11_plums_25 rfl ?_
    refine g_iloadn_2 dX11_plums_26 ?_
    refine g_iconst (-1) dX11_plums_27 rfl ?_
    refine g_jn (J := fun (s : Sg) => GX g 4 RX11 cX11_plums 3 (some .int) (some (.int r)) mm 39 [none, none, none] [] s) hm ?_ ?_
    · intro m5 hm
      refine g_iconst (-1) dX11_plums_39 rfl ?_
      refine g_goto 49 dX11_plums_40 (by decide) ?_
      exact g_iret hm dX11_plums_49
    · intro k6 hk6 hm
      refine g_icmp_eq 39 hm dX11_plums_28 (by decide) (fun hm => ?_) (fun hm => ?_)
      · refine g_weak (vs' := [none, none, none]) trivial ?_
        exact hk6 _ hm
      · refine g_aloadn_0 dX11_plums_31 ?_
        refine g_iloadn_1 dX11_plums_32 ?_
        refine g_v1 hm (fun _ _ h => c_X11_isChild h) pn_27 (pc_27 _ _) rfl ce_X11_isChild lk_X11_296 rfl rfl dX11_plums_33 (fun x8 m7 hm => ?_)
        refine g_if_ne 43 hm dX11_plums_36 (by decide) (fun hm => ?_) (fun hm => ?_)
        · refine g_aloadn_0 dX11_plums_43 ?_
          refine g_iloadn_1 dX11_plums_44 ?_
          refine g_iloadn_2 dX11_plums_45 ?_
          refine g_v2 hm (fun _ _ h => c_X11_plumsOf h) pn_27 (pc_27 _ _) rfl ce_X11_plumsOf lk_X11_416 rfl rfl dX11_plums_46 (fun x10 m9 hm => ?_)
          exact g_iret hm dX11_plums_49
        · refine g_weak (vs' := [none, none, none]) trivial ?_
          exact hk6 _ hm
  · intro k4 hk4 hm
    refine g_if_ne 16 hm dX11_plums_9 (by decide) (fun hm => ?_) (fun hm => ?_)
    · refine g_aloadn_0 dX11_plums_16 ?_
      refine g_aloadn_0 dX11_plums_17 ?_
      refine g_getr (q := 38) fo_11_29 pn_27 pc_27 rfl rfl dX11_plums_18 ?_
      refine g_iconst 0 dX11_plums_21 rfl ?_
      refine g_v2 hm (fun _ _ h => c_X11_examinerOf ar_38 h) pn_27 (pc_27 _ _) rfl ce_X11_examinerOf lk_X11_317 rfl rfl dX11_plums_22 (fun x12 m11 hm => ?_)
      exact hk4 _ hm
    · refine g_iconst (-1) dX11_plums_12 rfl ?_
      refine g_goto 25 dX11_plums_13 (by decide) ?_
      exact hk4 _ hm
def f_X11_peace_L69 (a1 : Int32) (x3 : Int32) (x9 : Int32) : (Sg × Int32 × Int32 × Int32) → Option (((Sg × Int32 × Int32)) ⊕ (Sg × Int32 × Int32 × Int32)) := fun s => match s with
  | (m10, x11, x12, x13) => 
  (if (m10.1 27 24) ≤ x13 then some (.inl (m10, x11, x12)) else
  if inr ((6 * x13) + 3) 48 = true then bnd (fun ((m19, x20, x21) : Sg × Int32 × Int32) => bnd (x13 + 1) (fun x23 => some (.inr (m19, x20, x21, x23)))) (fun (k22 : Sg × Int32 × Int32 → Option (((Sg × Int32 × Int32)) ⊕ (Sg × Int32 × Int32 × Int32))) =>
  (if (m10.1 32 ((6 * x13) + 3).toNatClampNeg) = a1 then if inr ((7 * x13) + 0) 244 = true then (if (m10.1 38 ((7 * x13) + 0).toNatClampNeg) < (m10.1 36 0) then bnd (fun (m24 : Sg) => bnd (fun ((m26, x27) : Sg × Int32) => bnd (fun (m29 : Sg) => k22 (m29, x13, x27)) (fun (k30 : Sg → Option (((Sg × Int32 × Int32)) ⊕ (Sg × Int32 × Int32 × Int32))) =>
  (if x11 = (-1) then k30 m26 else
  (if x27 < x12 then k30 m26 else
  k22 (m26, x11, x12))))) (fun (k28 : Sg × Int32 → Option (((Sg × Int32 × Int32)) ⊕ (Sg × Int32 × Int32 × Int32))) =>
  (if x9 = x13 then k28 (m24, 0) else
  cal (f_X11_plumsOf m24 x13 x3) (fun x32 m31 => k28 (m31, x32))))) (fun (k25 : Sg → Option (((Sg × Int32 × Int32)) ⊕ (Sg × Int32 × Int32 × Int32))) =>
  (if x9 = (-1) then k25 m10 else
  (if x9 = x13 then k25 m10 else
  if inr ((7 * x13) + 0) 244 = true then if inr ((7 * x9) + 0) 244 = true then (if (m10.1 38 ((7 * x13) + 0).toNatClampNeg) < (m10.1 38 ((7 * x9) + 0).toNatClampNeg) then k25 m10 else
  k22 (m10, x11, x12)) else none else none))) else
  k22 (m10, x11, x12)) else none else
  k22 (m10, x11, x12))) else none)
def f_X11_peace  (m : Sg) (a1 : Int32) (a2 : Int32) : Option (Int32 × Sg) :=
  bnd (wr m 27 0 0) (fun m1 => bnd (fun ((m2, x3) : Sg × Int32) => (if x3 = (-1) then some ((-1), m2) else
  cal (f_X11_isNursery m2 a1) (fun x6 m5 => (if x6 = 0 then some ((-1), m5) else
  cal (f_X11_isIn m5 ((a2 : Int32).toInt64) 0 1) (fun x8 m7 => (if x8 = 0 then some ((-1), m7) else
  bnd (m7.1 38 61) (fun x9 => lpk (f_X11_peace_L69 a1 x3 x9) (m7, (-1), 0, 0) (fun ((m14, x15, x16) : Sg × Int32 × Int32) => (if x15 = (-1) then some ((-1), m14) else
  (if a2 = 0 then some (x16, m14) else
  some (x15, m14))))))))))) (fun (k4 : Sg × Int32 → Option (Int32 × Sg)) =>
  (if (m1.1 27 24) = 0 then k4 (m1, (-1)) else
  cal (f_X11_examinerOf 38 m1 0) (fun x34 m33 => k4 (m33, x34)))))
set_option maxRecDepth 4000 in
theorem c_X11_peace {g : Cf} {m mm : Sg} {r : Int32} {a1 : Int32} {a2 : Int32} (hm : f_X11_peace  m a1 a2 = some (r, mm)) : Cl g 4 yX11_peace cX11_peace 9 (some .int) [.ref (g.ad 27), .int a1, .int a2] m (some (.int r)) mm := by
  refine cl_of (by decide) (Nat.le_of_ble_eq_true rfl) (vs := [some (.ref (g.ad 27)), some (.int a1), some (.int a2), none, none, none, none, none, none]) rfl rfl ?_
  show GX g 4 RX11 cX11_peace 9 (some .int) (some (.int r)) mm 0 _ [] m
  unfold f_X11_peace at hm
  refine g_aloadn_0 dX11_peace_0 ?_
  refine g_iconst 0 dX11_peace_1 rfl ?_
  refine g_put hm fo_11_0 fp_11_0 pn_27 pc_27 rfl dX11_peace_2 (fun m1 hm => ?_)
  refine g_aloadn_0 dX11_peace_5 ?_
  refine g_geti fo_11_24 pn_27 pc_27 rfl dX11_peace_6 ?_
  refine g_jn (J := fun (s : Sg × Int32) => GX g 4 RX11 cX11_peace 9 (some .int) (some (.int r)) mm 25 [some (.ref (g.ad 27)), some (.int a1), some (.int a2), none, none, none, none, none, none] [.int (s.2)] s.1) hm ?_ ?_
  · rintro ⟨m2, x3⟩ hm
    (try dsimp only at hm)
    (try dsimp only)
    refine g_istoren_3 dX11_peace_25 rfl ?_
    refine g_iloadn_3 dX11_peace_26 ?_
    refine g_iconst (-1) dX11_peace_27 rfl ?_
    refine g_icmp_eq 49 hm dX11_peace_28 (by decide) (fun hm => ?_) (fun hm => ?_)
    · refine g_iconst (-1) dX11_peace_49 rfl ?_
      exact g_iret hm dX11_peace_50
    · refine g_aloadn_0 dX11_peace_31 ?_
      refine g_iloadn_1 dX11_peace_32 ?_
      refine g_v1 hm (fun _ _ h => c_X11_isNursery h) pn_27 (pc_27 _ _) rfl ce_X11_isNursery lk_X11_385 rfl rfl dX11_peace_33 (fun x6 m5 hm => ?_)
      refine g_if_eq 49 hm dX11_peace_36 (by decide) (fun hm => ?_) (fun hm => ?_)
      · refine g_iconst (-1) dX11_peace_49 rfl ?_
        exact g_iret hm dX11_peace_50
      · refine g_iloadn_2 dX11_peace_39 ?_
        refine g_i2l dX11_peace_40 ?_
        refine g_lconst 0 dX11_peace_41 rfl ?_
        refine g_lconst 1 dX11_peace_42 rfl ?_
        refine g_s3 hm (fun _ _ h => c_X11_isIn h) ce_X11_isIn lk_X11_201 rfl rfl dX11_peace_43 (fun x8 m7 hm => ?_)
        refine g_if_ne 51 hm dX11_peace_46 (by decide) (fun hm => ?_) (fun hm => ?_)
        · refine g_iconst (-1) dX11_peace_51 rfl ?_
          refine g_istore_4 dX11_peace_52 rfl ?_
          refine g_iconst 0 dX11_peace_54 rfl ?_
          refine g_istore_5 dX11_peace_55 rfl ?_
          refine g_aloadn_0 dX11_peace_57 ?_
          refine g_getr (q := 38) fo_11_29 pn_27 pc_27 rfl rfl dX11_peace_58 ?_
          refine g_bipush 61 dX11_peace_61 rfl ?_
          refine g_ialoadc 61 rfl rfl ar_38.1 ar_38.2 dX11_peace_63 ?_
          refine g_istoreB_6 hm dX11_peace_64 rfl (fun x9 hm => ?_)
          refine g_iconst 0 dX11_peace_66 rfl ?_
          refine g_istore_7 dX11_peace_67 rfl ?_
          refine g_lp (I := fun (s : Sg × Int32 × Int32 × Int32) => GX g 4 RX11 cX11_peace 9 (some .int) (some (.int r)) mm 69 [some (.ref (g.ad 27)), some (.int a1), some (.int a2), some (.int x3), some (.int (s.2.1)), some (.int (s.2.2.1)), some (.int x9), some (.int (s.2.2.2)), none] [] s.1) (E := fun (s : Sg × Int32 × Int32) => GX g 4 RX11 cX11_peace 9 (some .int) (some (.int r)) mm 211 [none, none, some (.int a2), none, some (.int (s.2.1)), some (.int (s.2.2)), none, none, none] [] s.1) hm ?_ ?_
          · rintro ⟨m14, x15, x16⟩ hm
            (try dsimp only at hm)
            (try dsimp only)
            refine g_iload_4 dX11_peace_211 ?_
            refine g_iconst (-1) dX11_peace_213 rfl ?_
            refine g_icmp_ne 221 hm dX11_peace_214 (by decide) (fun hm => ?_) (fun hm => ?_)
            · refine g_iloadn_2 dX11_peace_221 ?_
              refine g_if_ne 230 hm dX11_peace_222 (by decide) (fun hm => ?_) (fun hm => ?_)
              · refine g_iload_4 dX11_peace_230 ?_
                exact g_iret hm dX11_peace_232
              · refine g_iload_5 dX11_peace_225 ?_
                refine g_goto 232 dX11_peace_227 (by decide) ?_
                exact g_iret hm dX11_peace_232
            · refine g_iconst (-1) dX11_peace_217 rfl ?_
              refine g_goto 232 dX11_peace_218 (by decide) ?_
              exact g_iret hm dX11_peace_232
          · rintro ⟨m10, x11, x12, x13⟩ o hm hx18 hi17
            (try dsimp only [f_X11_peace_L69] at hm)
            (try dsimp only)
            refine g_iload_7 dX11_peace_69 ?_
            refine g_aloadn_0 dX11_peace_71 ?_
            refine g_geti fo_11_24 pn_27 pc_27 rfl dX11_peace_72 ?_
            refine g_icmp_ge 211 hm dX11_peace_75 (by decide) (fun hm => ?_) (fun hm => ?_)
            · refine g_weak (vs' := [none, none, some (.int a2), none, some (.int x11), some (.int x12), none, none, none]) ⟨rfl, ⟨rfl, ⟨rfl, trivial⟩⟩⟩ ?_
              cases hm
              exact hx18 _ rfl
            · refine g_aloadn_0 dX11_peace_78 ?_
              refine g_getr (q := 32) fo_11_18 pn_27 pc_27 rfl rfl dX11_peace_79 ?_
              refine g_bipush 6 dX11_peace_82 rfl ?_
              refine g_iload_7 dX11_peace_84 ?_
              refine g_imul dX11_peace_86 ?_
              refine g_iconst 3 dX11_peace_87 rfl ?_
              refine g_iadd dX11_peace_88 ?_
              refine g_iaload hm ar_32.1 ar_32.2 dX11_peace_89 (fun hm => ?_)
              refine g_iloadn_1 dX11_peace_90 ?_
              refine g_jn (J := fun (s : Sg × Int32 × Int32) => GX g 4 RX11 cX11_peace 9 (some .int) (some (.int r)) mm 205 [some (.ref (g.ad 27)), some (.int a1), some (.int a2), some (.int x3), some (.int (s.2.1)), some (.int (s.2.2)), some (.int x9), some (.int x13), none] [] s.1) hm ?_ ?_
              · rintro ⟨m19, x20, x21⟩ hm
                (try dsimp only at hm)
                (try dsimp only)
                refine g_iinc_7 1 hm dX11_peace_205 rfl rfl (fun x23 hm => ?_)
                refine g_goto 69 dX11_peace_208 (by decide) ?_
                cases hm
                exact hi17 _ rfl
              · intro k22 hk22 hm
                refine g_icmp_ne 205 hm dX11_peace_91 (by decide) (fun hm => ?_) (fun hm => ?_)
                · exact hk22 _ hm
                · refine g_aloadn_0 dX11_peace_94 ?_
                  refine g_getr (q := 38) fo_11_29 pn_27 pc_27 rfl rfl dX11_peace_95 ?_
                  refine g_bipush 7 dX11_peace_98 rfl ?_
                  refine g_iload_7 dX11_peace_100 ?_
                  refine g_imul dX11_peace_102 ?_
                  refine g_iconst 0 dX11_peace_103 rfl ?_
                  refine g_iadd dX11_peace_104 ?_
                  refine g_iaload hm ar_38.1 ar_38.2 dX11_peace_105 (fun hm => ?_)
                  refine g_aloadn_0 dX11_peace_106 ?_
                  refine g_getr (q := 36) fo_11_22 pn_27 pc_27 rfl rfl dX11_peace_107 ?_
                  refine g_iconst 0 dX11_peace_110 rfl ?_
                  refine g_ialoadc 0 rfl rfl ar_36.1 ar_36.2 dX11_peace_111 ?_
                  refine g_icmp_lt 118 hm dX11_peace_112 (by decide) (fun hm => ?_) (fun hm => ?_)
                  · refine g_iload_6 dX11_peace_118 ?_
                    refine g_iconst (-1) dX11_peace_120 rfl ?_
                    refine g_jn (J := fun (s : Sg) => GX g 4 RX11 cX11_peace 9 (some .int) (some (.int r)) mm 161 [some (.ref (g.ad 27)), some (.int a1), some (.int a2), some (.int x3), some (.int x11), some (.int x12), some (.int x9), some (.int x13), none] [] s) hm ?_ ?_
                    · intro m24 hm
                      refine g_iload_6 dX11_peace_161 ?_
                      refine g_iload_7 dX11_peace_163 ?_
                      refine g_jn (J := fun (s : Sg × Int32) => GX g 4 RX11 cX11_peace 9 (some .int) (some (.int r)) mm 179 [some (.ref (g.ad 27)), some (.int a1), some (.int a2), some (.int x3), some (.int x11), some (.int x12), some (.int x9), some (.int x13), none] [.int (s.2)] s.1) hm ?_ ?_
                      · rintro ⟨m26, x27⟩ hm
                        (try dsimp only at hm)
                        (try dsimp only)
                        refine g_istore_8 dX11_peace_179 rfl ?_
                        refine g_iload_4 dX11_peace_181 ?_
                        refine g_iconst (-1) dX11_peace_183 rfl ?_
                        refine g_jn (J := fun (s : Sg) => GX g 4 RX11 cX11_peace 9 (some .int) (some (.int r)) mm 197 [some (.ref (g.ad 27)), some (.int a1), some (.int a2), some (.int x3), none, none, some (.int x9), some (.int x13), some (.int x27)] [] s) hm ?_ ?_
                        · intro m29 hm
                          refine g_iload_7 dX11_peace_197 ?_
                          refine g_istore_4 dX11_peace_199 rfl ?_
                          refine g_iload_8 dX11_peace_201 ?_
                          refine g_istore_5 dX11_peace_203 rfl ?_
                          refine g_weak (vs' := [some (.ref (g.ad 27)), some (.int a1), some (.int a2), some (.int x3), some (.int x13), some (.int x27), some (.int x9), some (.int x13), none]) ⟨rfl, ⟨rfl, ⟨rfl, ⟨rfl, ⟨rfl, ⟨rfl, ⟨rfl, ⟨rfl, trivial⟩⟩⟩⟩⟩⟩⟩⟩ ?_
                          exact hk22 _ hm
                        · intro k30 hk30 hm
                          refine g_icmp_eq 197 hm dX11_peace_184 (by decide) (fun hm => ?_) (fun hm => ?_)
                          · refine g_weak (vs' := [some (.ref (g.ad 27)), some (.int a1), some (.int a2), some (.int x3), none, none, some (.int x9), some (.int x13), some (.int x27)]) ⟨rfl, ⟨rfl, ⟨rfl, ⟨rfl, ⟨rfl, ⟨rfl, ⟨rfl, trivial⟩⟩⟩⟩⟩⟩⟩ ?_
                            exact hk30 _ hm
                          · refine g_iload_8 dX11_peace_187 ?_
                            refine g_iload_5 dX11_peace_189 ?_
                            refine g_icmp_lt 197 hm dX11_peace_191 (by decide) (fun hm => ?_) (fun hm => ?_)
                            · refine g_weak (vs' := [some (.ref (g.ad 27)), some (.int a1), some (.int a2), some (.int x3), none, none, some (.int x9), some (.int x13), some (.int x27)]) ⟨rfl, ⟨rfl, ⟨rfl, ⟨rfl, ⟨rfl, ⟨rfl, ⟨rfl, trivial⟩⟩⟩⟩⟩⟩⟩ ?_
                              exact hk30 _ hm
                            · refine g_goto 205 dX11_peace_194 (by decide) ?_
                              refine g_weak (vs' := [some (.ref (g.ad 27)), some (.int a1), some (.int a2), some (.int x3), some (.int x11), some (.int x12), some (.int x9), some (.int x13), none]) ⟨rfl, ⟨rfl, ⟨rfl, ⟨rfl, ⟨rfl, ⟨rfl, ⟨rfl, ⟨rfl, trivial⟩⟩⟩⟩⟩⟩⟩⟩ ?_
                              exact hk22 _ hm
                      · intro k28 hk28 hm
                        refine g_icmp_ne 172 hm dX11_peace_165 (by decide) (fun hm => ?_) (fun hm => ?_)
                        · refine g_aloadn_0 dX11_peace_172 ?_
                          refine g_iload_7 dX11_peace_173 ?_
                          refine g_iloadn_3 dX11_peace_175 ?_
                          refine g_v2 hm (fun _ _ h => c_X11_plumsOf h) pn_27 (pc_27 _ _) rfl ce_X11_plumsOf lk_X11_416 rfl rfl dX11_peace_176 (fun x32 m31 hm => ?_)
                          exact hk28 _ hm
                        · refine g_iconst 0 dX11_peace_168 rfl ?_
                          refine g_goto 179 dX11_peace_169 (by decide) ?_
                          exact hk28 _ hm
                    · intro k25 hk25 hm
                      refine g_icmp_eq 161 hm dX11_peace_121 (by decide) (fun hm => ?_) (fun hm => ?_)
                      · exact hk25 _ hm
                      · refine g_iload_6 dX11_peace_124 ?_
                        refine g_iload_7 dX11_peace_126 ?_
                        refine g_icmp_eq 161 hm dX11_peace_128 (by decide) (fun hm => ?_) (fun hm => ?_)
                        · exact hk25 _ hm
                        · refine g_aloadn_0 dX11_peace_131 ?_
                          refine g_getr (q := 38) fo_11_29 pn_27 pc_27 rfl rfl dX11_peace_132 ?_
                          refine g_bipush 7 dX11_peace_135 rfl ?_
                          refine g_iload_7 dX11_peace_137 ?_
                          refine g_imul dX11_peace_139 ?_
                          refine g_iconst 0 dX11_peace_140 rfl ?_
                          refine g_iadd dX11_peace_141 ?_
                          refine g_iaload hm ar_38.1 ar_38.2 dX11_peace_142 (fun hm => ?_)
                          refine g_aloadn_0 dX11_peace_143 ?_
                          refine g_getr (q := 38) fo_11_29 pn_27 pc_27 rfl rfl dX11_peace_144 ?_
                          refine g_bipush 7 dX11_peace_147 rfl ?_
                          refine g_iload_6 dX11_peace_149 ?_
                          refine g_imul dX11_peace_151 ?_
                          refine g_iconst 0 dX11_peace_152 rfl ?_
                          refine g_iadd dX11_peace_153 ?_
                          refine g_iaload hm ar_38.1 ar_38.2 dX11_peace_154 (fun hm => ?_)
                          refine g_icmp_lt 161 hm dX11_peace_155 (by decide) (fun hm => ?_) (fun hm => ?_)
                          · exact hk25 _ hm
                          · refine g_goto 205 dX11_peace_158 (by decide) ?_
                            exact hk22 _ hm
                  · refine g_goto 205 dX11_peace_115 (by decide) ?_
                    exact hk22 _ hm
        · refine g_iconst (-1) dX11_peace_49 rfl ?_
          exact g_iret hm dX11_peace_50
  · intro k4 hk4 hm
    refine g_if_ne 16 hm dX11_peace_9 (by decide) (fun hm => ?_) (fun hm => ?_)
    · refine g_aloadn_0 dX11_peace_16 ?_
      refine g_aloadn_0 dX11_peace_17 ?_
      refine g_getr (q := 38) fo_11_29 pn_27 pc_27 rfl rfl dX11_peace_18 ?_
      refine g_iconst 0 dX11_peace_21 rfl ?_
      refine g_v2 hm (fun _ _ h => c_X11_examinerOf ar_38 h) pn_27 (pc_27 _ _) rfl ce_X11_examinerOf lk_X11_317 rfl rfl dX11_peace_22 (fun x34 m33 hm => ?_)
      exact hk4 _ hm
    · refine g_iconst (-1) dX11_peace_12 rfl ?_
      refine g_goto 25 dX11_peace_13 (by decide) ?_
      exact hk4 _ hm
