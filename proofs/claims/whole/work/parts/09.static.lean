/-! constants: the texts and tables that stood there before -/
def strLen : List Nat := [1, 6, 6, 3, 3]
def strByt : List (List Int32) := [[121], [99, 97, 107, 110, 109, 119], [97, 107, 119, 110, 115, 121], [97, 102, 107], [103, 117, 112]]
def tabs : List (List Int32) := [[0, 0, 0, 0, 1, 1], [99, 9, 9, 4, 9, 3], [40, 0, 9, 0, 2, 1], [0, 0, 0], [99, 9, 9], [70, 0, 9], [1, 1, 0], [99, 9, 9], [90, 9, 1]]
def tabNm : List String := ["CHILD_LEAST", "CHILD_MOST", "CHILD_USUAL", "ELDER_LEAST", "ELDER_MOST", "ELDER_USUAL", "RULE_LEAST", "RULE_MOST", "RULE_USUAL"]
def tab (t j : Nat) : Int32 := (tabs.getD t []).getD j 0
def tabN (t : Nat) : Nat := (tabs.getD t []).length
def strB (k j : Nat) : Int32 := (strByt.getD k []).getD j 0
def strN (k : Nat) : Nat := strLen.getD k 0
def strRefs : List (String × Nat × String × Nat) := [("CountRule$CountyReader", 73, "akwnsy", 2), ("CountRule$CountyReader", 94, "afk", 3), ("CountRule$CountyReader", 108, "gup", 4), ("CountRule$LawReader", 96, "caknmw", 1), ("CountRule$Law", 41, "caknmw", 1), ("CountRuleModel", 26, "y", 0), ("CountRuleModel", 32, "caknmw", 1), ("CountRuleModel", 236, "akwnsy", 2), ("CountRuleModel", 242, "afk", 3), ("CountRuleModel", 244, "gup", 4)]
def XS (sa : Nat → Nat) (A : Nat → Prop) (s : State) : Prop :=
  vk_S 5 strLen strByt sa (fun i => sa (100 + i)) A s s.heap ∧
  (∀ q ∈ strRefs, vk_R q.1 q.2.1 q.2.2.1 (sa q.2.2.2) s) ∧
  va_Z "java/lang/String" "COMPACT_STRINGS" "Z" (.int 1) A s s.heap ∧
  va_Zq "jdk/internal/util/Preconditions" "SIOOBE_FORMATTER" "Ljava/util/function/BiFunction;" A s s.heap ∧
  (∀ t, t < 9 → va_Z "CountRule$CountyReader" (tabNm.getD t "") "[I" (.ref (sa (200 + t))) A s s.heap ∧ va_T .int (sa (200 + t)) (tabN t) (fun j => .int (tab t j)) A s s.heap)
def XOK (g : Cf) : Prop := ∀ s, g.X s → XS g.sa g.A s
section GXU
variable {g : Cf} {d : Nat} {own : String} {cc : ByteArray} {nL : Nat} {rt : Option FieldType} {v : Option Value} {m' : Sg} {pc : Nat} {vs : List (Option Value)} {st : List Value} {m : Sg}
theorem g_ldcS {idx k : Nat} {tx : String} (HX : XOK g) (hq : (own, idx, tx, k) ∈ strRefs) (hd : decode cc pc = .ok (.ldc idx, 2)) (k9 : GX g d own cc nL rt v m' (pc + 2) vs (.ref (g.sa k) :: st) m) : GX g d own cc nL rt v m' pc vs st m := fun p e s mi args below meth c H locs ls C hP hD hS hL => va_ldcS C.1 C.2.1 C.2.2.2.2.2.1 ((HX _ C.2.2.2.2.2.2.2.2.2.1).2.1 _ hq) hd (k9 p e s mi args below meth c H locs ls C hP hD hS hL)
theorem g_getsA {idx t : Nat} (HX : XOK g) (ht : t < 9) (hl : Cond.fieldLink own idx "CountRule$CountyReader" (tabNm.getD t "") "[I" ∈ gw) (hd : decode cc pc = .ok (.getstatic idx, 3)) (k9 : GX g d own cc nL rt v m' (pc + 3) vs (.ref (g.sa (200 + t)) :: st) m) : GX g d own cc nL rt v m' pc vs st m := fun p e s mi args below meth c H locs ls C hP hD hS hL => va_gets C.1 C.2.1 ((HX _ C.2.2.2.2.2.2.2.2.2.1).2.2.2.2 t ht).1 hS C.2.2.2.2.2.1 (C.2.2.2.2.2.2.1 _ hl) (fun _ h => h) hd (k9 p e s mi args below meth c H locs ls C hP hD hS hL)
theorem g_getsC {idx : Nat} (HX : XOK g) (hl : Cond.fieldLink own idx "java/lang/String" "COMPACT_STRINGS" "Z" ∈ gw) (hd : decode cc pc = .ok (.getstatic idx, 3)) (k9 : GX g d own cc nL rt v m' (pc + 3) vs (.int 1 :: st) m) : GX g d own cc nL rt v m' pc vs st m := fun p e s mi args below meth c H locs ls C hP hD hS hL => va_gets C.1 C.2.1 (HX _ C.2.2.2.2.2.2.2.2.2.1).2.2.1 hS C.2.2.2.2.2.1 (C.2.2.2.2.2.2.1 _ hl) (fun _ h => h) hd (k9 p e s mi args below meth c H locs ls C hP hD hS hL)
theorem g_getsq {idx : Nat} (HX : XOK g) (hl : Cond.fieldLink own idx "jdk/internal/util/Preconditions" "SIOOBE_FORMATTER" "Ljava/util/function/BiFunction;" ∈ gw) (hd : decode cc pc = .ok (.getstatic idx, 3)) (k1 : GX g d own cc nL rt v m' (pc + 3) vs (.null :: st) m) (k9 : ∀ t : Nat, GX g d own cc nL rt v m' (pc + 3) vs (.ref t :: st) m) : GX g d own cc nL rt v m' pc vs st m := by
  intro p e s mi args below meth c H locs ls C hP hD hS hL
  rcases (HX _ C.2.2.2.2.2.2.2.2.2.1).2.2.2.1 with h | ⟨t, h⟩
  · exact va_gets C.1 C.2.1 h hS C.2.2.2.2.2.1 (C.2.2.2.2.2.2.1 _ hl) (fun _ h => h) hd (k1 p e s mi args below meth c H locs ls C hP hD hS hL)
  · exact va_gets C.1 C.2.1 h hS C.2.2.2.2.2.1 (C.2.2.2.2.2.2.1 _ hl) (fun _ h => h) hd (k9 t p e s mi args below meth c H locs ls C hP hD hS hL)
theorem g_ialoadT {ρ : Type} {t : Nat} {i : Int32} {F : Option ρ} {o : ρ} (hm : (if inr i (tabN t) = true then F else none) = some o) (HX : XOK g) (ht : t < 9) (hd : decode cc pc = .ok (.iaload, 1)) (k : F = some o → GX g d own cc nL rt v m' (pc + 1) vs (.int (tab t i.toNatClampNeg) :: st) m) : GX g d own cc nL rt v m' pc vs (.int i :: .ref (g.sa (200 + t)) :: st) m := fun p e s mi args below meth c H locs ls C hP hD hS hL => va_ti C.1 C.2.1 ((HX _ C.2.2.2.2.2.2.2.2.2.1).2.2.2.2 t ht).2 hS (inr_in (ifn hm).1) rfl hd (k (ifn hm).2 p e s mi args below meth c H locs ls C hP hD hS hL)
theorem g_alenT {t : Nat} (HX : XOK g) (ht : t < 9) (hd : decode cc pc = .ok (.arraylength, 1)) (k9 : GX g d own cc nL rt v m' (pc + 1) vs (.int (Int32.ofNat (tabN t)) :: st) m) : GX g d own cc nL rt v m' pc vs (.ref (g.sa (200 + t)) :: st) m := fun p e s mi args below meth c H locs ls C hP hD hS hL => va_tlen C.1 C.2.1 ((HX _ C.2.2.2.2.2.2.2.2.2.1).2.2.2.2 t ht).2 hS rfl hd (k9 p e s mi args below meth c H locs ls C hP hD hS hL)
theorem g_getsv {idx k : Nat} (HX : XOK g) (hk : k < 5) (hl : Cond.fieldLink own idx "java/lang/String" "value" "[B" ∈ gw) (hd : decode cc pc = .ok (.getfield idx, 3)) (k9 : GX g d own cc nL rt v m' (pc + 3) vs (.ref (g.sa (100 + k)) :: st) m) : GX g d own cc nL rt v m' pc vs (.ref (g.sa k) :: st) m := fun p e s mi args below meth c H locs ls C hP hD hS hL => vk_getf C.1 C.2.1 ((HX _ C.2.2.2.2.2.2.2.2.2.1).1.1 k hk).2.2.1 hS C.2.2.2.2.2.1 (C.2.2.2.2.2.2.1 _ hl) (fun _ h => h) hd (k9 p e s mi args below meth c H locs ls C hP hD hS hL)
theorem g_getsc {idx k : Nat} (HX : XOK g) (hk : k < 5) (hl : Cond.fieldLink own idx "java/lang/String" "coder" "B" ∈ gw) (hd : decode cc pc = .ok (.getfield idx, 3)) (k9 : GX g d own cc nL rt v m' (pc + 3) vs (.int 0 :: st) m) : GX g d own cc nL rt v m' pc vs (.ref (g.sa k) :: st) m := fun p e s mi args below meth c H locs ls C hP hD hS hL => vk_getf C.1 C.2.1 ((HX _ C.2.2.2.2.2.2.2.2.2.1).1.1 k hk).2.1 hS C.2.2.2.2.2.1 (C.2.2.2.2.2.2.1 _ hl) (fun _ h => h) hd (k9 p e s mi args below meth c H locs ls C hP hD hS hL)
theorem g_baloadS {ρ : Type} {k : Nat} {i : Int32} {F : Option ρ} {o : ρ} (hm : (if inr i (strN k) = true then F else none) = some o) (HX : XOK g) (hk : k < 5) (hd : decode cc pc = .ok (.baload, 1)) (k9 : F = some o → GX g d own cc nL rt v m' (pc + 1) vs (.int (strB k i.toNatClampNeg) :: st) m) : GX g d own cc nL rt v m' pc vs (.int i :: .ref (g.sa (100 + k)) :: st) m := fun p e s mi args below meth c H locs ls C hP hD hS hL => va_tb C.1 C.2.1 ((HX _ C.2.2.2.2.2.2.2.2.2.1).1.1 k hk).2.2.2 hS (inr_in (ifn hm).1) rfl hd (k9 (ifn hm).2 p e s mi args below meth c H locs ls C hP hD hS hL)
theorem g_alenS {k : Nat} (HX : XOK g) (hk : k < 5) (hd : decode cc pc = .ok (.arraylength, 1)) (k9 : GX g d own cc nL rt v m' (pc + 1) vs (.int (Int32.ofNat (strN k)) :: st) m) : GX g d own cc nL rt v m' pc vs (.ref (g.sa (100 + k)) :: st) m := fun p e s mi args below meth c H locs ls C hP hD hS hL => va_tlen C.1 C.2.1 ((HX _ C.2.2.2.2.2.2.2.2.2.1).1.1 k hk).2.2.2 hS rfl hd (k9 p e s mi args below meth c H locs ls C hP hD hS hL)
theorem g_callW {k9 : Nat} {y : MethodName} {cb : ByteArray} {nb : Nat} {rb : Option FieldType} {n idx d1 : Nat} {As : List Value} {v1 : Option Value} {m1 : Sg} {st0 : List Value} (hst : st0 = As.reverse ++ .ref (g.sa k9) :: st) (hc : Cl g d1 y cb nb rb (.ref (g.sa k9) :: As) m v1 m1) (HX : XOK g) (hk : k9 < 5) (cee : CeeV y "java/lang/String" cb nb rb n) (hl : Cond.methodLink own idx y ∈ gw) (hn : As.length = n) (hdd : Nat.ble (d1 + 1) d = true) (hw : Nat.ble (st.map fun v => v.category).sum 8 = true) (hd : decode cc pc = .ok (.invokevirtual idx, 3)) (k : GX g d own cc nL rt v m' (pc + 3) vs (v1.toList ++ st) m1) : GX g d own cc nL rt v m' pc vs st0 m := by
  intro p e s mi args below meth c H locs ls C hP hD hS hL
  have hdd' := Nat.le_of_ble_eq_true hdd
  subst hst
  refine run_go (va_runV (As := As) (rest := st) ⟨C.1, C.2.1, C.2.2.1, C.2.2.2.2.2.1, C.2.2.2.2.2.2.1⟩ hc (cwV n C.2.2.2.2.2.2.1 (goodV cee hl) rfl rfl rfl cee.2.1 ⟨by simp only [rmd]; omega, by have := cee.2.2; simp only [rmd]; omega⟩) ⟨Pd_blind, vk_recv (HX _ C.2.2.2.2.2.2.2.2.2.1).1 hk hS, Pd_at C hP hD hS⟩ rfl hn hL.1.1 rfl (lv_room (Nat.le_of_ble_eq_true hw)) hd ⟨Nat.zero_le _, Nat.zero_le _⟩) hS (fun H1 locs1 hP1 hS1 => ?_)
  exact k p e s mi args below meth c H1 locs1 ls C hP1 (D_same hD) hS1 hL
theorem g_w0 {ρ : Type} {k9 : Nat} {y : MethodName} {cb : ByteArray} {nb : Nat} {rb : Option FieldType} {idx d1 : Nat} {o : Option (Int32 × Sg)} {K : Int32 → Sg → Option ρ} {z : ρ} (hm : cal o K = some z) (hc : ∀ r m1, o = some (r, m1) → Cl g d1 y cb nb rb [.ref (g.sa k9)] m (some (.int r)) m1) (HX : XOK g) (hk : k9 < 5) (cee : CeeV y "java/lang/String" cb nb rb 0) (hl : Cond.methodLink own idx y ∈ gw) (hdd : Nat.ble (d1 + 1) d = true) (hw : Nat.ble (st.map fun v => v.category).sum 8 = true) (hd : decode cc pc = .ok (.invokevirtual idx, 3)) (k : ∀ r m1, K r m1 = some z → GX g d own cc nL rt v m' (pc + 3) vs (.int r :: st) m1) : GX g d own cc nL rt v m' pc vs (.ref (g.sa k9) :: st) m := by
  obtain ⟨r, m1, h1, h2⟩ := cal_some hm
  exact g_callW rfl (hc r m1 h1) HX hk cee hl rfl hdd hw hd (k r m1 h2)
theorem g_w1 {ρ : Type} {k9 : Nat} {y : MethodName} {cb : ByteArray} {nb : Nat} {rb : Option FieldType} {idx d1 : Nat} {b1 : Value} {o : Option (Int32 × Sg)} {K : Int32 → Sg → Option ρ} {z : ρ} (hm : cal o K = some z) (hc : ∀ r m1, o = some (r, m1) → Cl g d1 y cb nb rb [.ref (g.sa k9), b1] m (some (.int r)) m1) (HX : XOK g) (hk : k9 < 5) (cee : CeeV y "java/lang/String" cb nb rb 1) (hl : Cond.methodLink own idx y ∈ gw) (hdd : Nat.ble (d1 + 1) d = true) (hw : Nat.ble (st.map fun v => v.category).sum 8 = true) (hd : decode cc pc = .ok (.invokevirtual idx, 3)) (k : ∀ r m1, K r m1 = some z → GX g d own cc nL rt v m' (pc + 3) vs (.int r :: st) m1) : GX g d own cc nL rt v m' pc vs (b1 :: .ref (g.sa k9) :: st) m := by
  obtain ⟨r, m1, h1, h2⟩ := cal_some hm
  exact g_callW rfl (hc r m1 h1) HX hk cee hl rfl hdd hw hd (k r m1 h2)
theorem g_w2 {ρ : Type} {k9 : Nat} {y : MethodName} {cb : ByteArray} {nb : Nat} {rb : Option FieldType} {idx d1 : Nat} {b1 b2 : Value} {o : Option (Int32 × Sg)} {K : Int32 → Sg → Option ρ} {z : ρ} (hm : cal o K = some z) (hc : ∀ r m1, o = some (r, m1) → Cl g d1 y cb nb rb [.ref (g.sa k9), b1, b2] m (some (.int r)) m1) (HX : XOK g) (hk : k9 < 5) (cee : CeeV y "java/lang/String" cb nb rb 2) (hl : Cond.methodLink own idx y ∈ gw) (hdd : Nat.ble (d1 + 1) d = true) (hw : Nat.ble (st.map fun v => v.category).sum 8 = true) (hd : decode cc pc = .ok (.invokevirtual idx, 3)) (k : ∀ r m1, K r m1 = some z → GX g d own cc nL rt v m' (pc + 3) vs (.int r :: st) m1) : GX g d own cc nL rt v m' pc vs (b2 :: b1 :: .ref (g.sa k9) :: st) m := by
  obtain ⟨r, m1, h1, h2⟩ := cal_some hm
  exact g_callW rfl (hc r m1 h1) HX hk cee hl rfl hdd hw hd (k r m1 h2)
theorem g_bretc {r r0 : Int32} {m0 mm : Sg} (hm : some (r0, m0) = some (r, mm)) (hb : narrow .byte (.int r0) = .int r0) (hd : decode cc pc = .ok (.ireturn, 1)) : GX g d own cc nL (some .byte) (some (.int r)) mm pc vs [.int r0] m0 := by
  cases hm
  intro p e s mi args below meth c H locs ls C hP hD hS hL
  exact W.zret C.1 C.2.1 C.2.2.2.1 hb (fun t ht hW => ⟨rfl, by rw [ht]; exact hP, hS.F ht⟩) hS.2.2 hd C.2.2.2.2.1
/-- an int that is a char -/
def isC (r : Int32) : Bool := decide ((r.toUInt32 % 65536).toInt32 = r)
theorem isC_nar {r : Int32} (h : isC r = true) : narrow .char (.int r) = .int r := by
  have e : (r.toUInt32 % 65536).toInt32 = r := by simpa [isC] using h
  rw [← e]
  exact pk_nc r
theorem g_cret {r r0 : Int32} {m0 mm : Sg} (hm : (if isC r0 = true then some (r0, m0) else none) = some (r, mm)) (hd : decode cc pc = .ok (.ireturn, 1)) : GX g d own cc nL (some .char) (some (.int r)) mm pc vs [.int r0] m0 := by
  obtain ⟨hb, hm⟩ := ifn hm
  cases hm
  intro p e s mi args below meth c H locs ls C hP hD hS hL
  exact W.zret C.1 C.2.1 C.2.2.2.1 (isC_nar hb) (fun t ht hW => ⟨rfl, by rw [ht]; exact hP, hS.F ht⟩) hS.2.2 hd C.2.2.2.2.1
/-- the model's text: its own tape (0) or the laws' texts -/
theorem ar_txt {g : Cf} (z : Int32) : ARR g (if z = 0 then 28 else 29) (if z = 0 then 240 else 960) 1 := by
  by_cases h : z = 0
  · rw [if_pos h, if_pos h]; exact ar_28
  · rw [if_neg h, if_neg h]; exact ar_29
def TXT (q : Nat) (z : Int32) : Prop := q = (if z = 0 then 28 else 29)
theorem txt_28 : TXT 28 0 := rfl
theorem txt_29 : TXT 29 1 := rfl
theorem fp_11_5 : FPK 11 5 TX11 46 (.array .byte) := ⟨⟨tyX11, tyX11_ok, nmX11⟩, rfl, by decide +kernel⟩
theorem g_putt {ρ : Type} {q : Nat} {z : Int32} {K : Sg → Option ρ} {o : Option ρ} (hm : bnd (wr m 27 5 z) K = o) (hq : TXT q z) (ho : own = RX11) {idx : Nat} (F : FOK 11 5 idx RX11 TX11 46) (hd : decode cc pc = .ok (.putfield idx, 3)) (k9 : ∀ m : Sg, K m = o → GX g d own cc nL rt v m' (pc + 3) vs st m) : GX g d own cc nL rt v m' pc vs (.ref (g.ad q) :: .ref (g.ad 27) :: st) m := by
  intro p e s mi args below meth c H locs ls C hP hD hS hL
  obtain ⟨⟨t0, h1, h2⟩, h3, h4⟩ := fp_11_5
  unfold TXT at hq
  subst hq
  subst ho
  refine va_put C.1 C.2.1 C.2.2.2.2.2.2.1 F.2.1 t0 h1 h2 C.2.2.2.2.2.1 C.2.2.2.2.2.2.2.1 hP hD hS 27 (by rw [ws_get pn_27, pc_27]) F.1 5 F.2.2.1 (C.2.2.2.2.2.2.1 _ F.2.2.2) (fun _ h => h) h3 h4 rfl rfl (by rw [flds, List.length_mapIdx]; decide) hd (fun H1 locs1 hP1 hD1 hS1 => ?_)
  rw [flds_sett rfl, ws_wrr (p := 27) (f := upd (m.1 27) 5 z) (pc_27 _ _), ← wr_wrr] at hP1 hD1
  exact k9 _ hm p e s mi args below meth c H1 locs1 ls C hP1 hD1 hS1 hL
theorem lu_10 : ∀ j, ([11, 13, 15, 17, 20, 23, 26, 31, 33, 0, 1] : List Nat)[j]? = some 1 → j = 10 := by
  intro j h
  have hj : j < 11 := (List.getElem?_eq_some_iff.mp h).1
  have key : ∀ j, j < 11 → ([11, 13, 15, 17, 20, 23, 26, 31, 33, 0, 1] : List Nat)[j]? = some 1 → j = 10 := by decide
  exact key j hj h
theorem lu_11 : ∀ j, ([0, 38, 39, 40, 41, 2, 0, 0, 0, 0, 0, 0, 0, 0, 0, 1000, 1001, 0, 42, 43, 44, 45, 46, 47, 0, 0, 0, 0, 0, 48, 49, 0, 0, 1, 0, 0, 0, 50, 51, 0, 0, 0, 0, 52, 53, 0] : List Nat)[j]? = some 1 → j = 33 := by
  intro j h
  have hj : j < 46 := (List.getElem?_eq_some_iff.mp h).1
  have key : ∀ j, j < 46 → ([0, 38, 39, 40, 41, 2, 0, 0, 0, 0, 0, 0, 0, 0, 0, 1000, 1001, 0, 42, 43, 44, 45, 46, 47, 0, 0, 0, 0, 0, 48, 49, 0, 0, 1, 0, 0, 0, 50, 51, 0, 0, 0, 0, 52, 53, 0] : List Nat)[j]? = some 1 → j = 33 := by decide
  exact key j hj h
/-- a law's object at a place, its code of n places -/
def LAWO (g : Cf) (P n : Nat) : Prop := P < g.N ∧ (∀ r x, cellR g P r x = .inr (4, flds g r x [10 + (P + 1), 10 + (P + 2), 0])) ∧ ARR g (P + 1) n 0 ∧ ARR g (P + 2) 18 0 ∧ Nat.blt (P + 1) 900 = true ∧ Nat.blt (P + 2) 900 = true
theorem lawo_of {k : Nat} (hk : k < g.nl) (h4 : g.nl ≤ 4) : LAWO g (45 + 3 * k) (g.ln k) := by
  have hN : g.N = 45 + 3 * g.nl := rfl
  have hl : ∀ p, 45 ≤ p → shp[p]? = none := fun p hp => List.getElem?_eq_none (by rw [shp_len]; exact hp)
  refine ⟨by omega, fun r x => ?_, ⟨by omega, fun r x => ?_⟩, ⟨by omega, fun r x => ?_⟩, by apply Nat.ble_eq_true_of_le; omega, by apply Nat.ble_eq_true_of_le; omega⟩
  · rw [cellR, hl _ (by omega)]
    simp only []
    rw [if_pos (by omega)]
    have e1 : flds g r x [10 + (45 + 3 * k + 1), 10 + (45 + 3 * k + 2), 0] = [.ref (g.ad (45 + 3 * k + 1)), .ref (g.ad (45 + 3 * k + 2)), .int (r 2)] := by
      have a1 : slotV g r x 0 (10 + (45 + 3 * k + 1)) = .ref (g.ad (45 + 3 * k + 1)) := by
        unfold slotV; rw [if_neg (by omega), if_neg (by omega), if_neg (by omega), if_pos (by omega)]; congr 2; omega
      have a2 : slotV g r x 1 (10 + (45 + 3 * k + 2)) = .ref (g.ad (45 + 3 * k + 2)) := by
        unfold slotV; rw [if_neg (by omega), if_neg (by omega), if_neg (by omega), if_pos (by omega)]; congr 2; omega
      simp only [flds, List.mapIdx_cons, List.mapIdx_nil, a1]
      rw [show (0 + 1 : Nat) = 1 from rfl, a2]
      rfl
    rw [e1]
  · rw [cellR, hl _ (by omega)]
    simp only []
    rw [if_neg (by omega), if_pos (by omega), show (45 + 3 * k + 1 - 45) / 3 = k by omega]
  · rw [cellR, hl _ (by omega)]
    simp only []
    rw [if_neg (by omega), if_neg (by omega)]
/-- a switch by keys: one of its cases, or on -/
theorem g_lc {ρ : Type} {dflt : Int} {ps : Array (Int × Int)} {len : Nat} {x z : Int32} {off : Int} {hh : Decidable (x = z)} {A B o : Option ρ} (tgt : Nat) (hm : @ite (Option ρ) (x = z) hh A B = o) (hd : decode cc pc = .ok (.lookupswitch dflt ps, len)) (hp : (ps.toList.zip (ps.toList.drop 1)).all (fun (a, next) => a.1 < next.1) = true) (ho : Op.lookupswitch.offset ps.toList dflt z.toInt = off) (ht : (pc : Int) + off = (tgt : Int)) (kt : A = o → GX g d own cc nL rt v m' tgt vs st m) (kf : ¬ x = z → B = o → GX g d own cc nL rt v m' pc vs (.int x :: st) m) : GX g d own cc nL rt v m' pc vs (.int x :: st) m := by
  by_cases q : x = z
  · rw [if_pos q] at hm
    subst q
    exact g_lk tgt hd hp ho ht (kt hm)
  · rw [if_neg q] at hm
    exact kf q hm
end GXU
theorem fl_X1_20 : Cond.fieldLink RX1 20 "CountRule$CountyReader" "items" "[I" ∈ gw := (gw_tb 81 (by decide +kernel) (by decide +kernel))
theorem fl_X1_32 : Cond.fieldLink RX1 32 "CountRule$CountyReader" "ruleTold" "Z" ∈ gw := (gw_tb 82 (by decide +kernel) (by decide +kernel))
theorem fl_X1_36 : Cond.fieldLink RX1 36 "CountRule$CountyReader" "RULE_USUAL" "[I" ∈ gw := (gw_tb 283 (by decide +kernel) (by decide +kernel))
theorem fl_X1_75 : Cond.fieldLink RX1 75 "CountRule$CountyReader" "CHILD_LEAST" "[I" ∈ gw := (gw_tb 315 (by decide +kernel) (by decide +kernel))
theorem fl_X1_78 : Cond.fieldLink RX1 78 "CountRule$CountyReader" "CHILD_MOST" "[I" ∈ gw := (gw_tb 317 (by decide +kernel) (by decide +kernel))
theorem fl_X1_81 : Cond.fieldLink RX1 81 "CountRule$CountyReader" "CHILD_USUAL" "[I" ∈ gw := (gw_tb 319 (by decide +kernel) (by decide +kernel))
theorem fl_J0_38 : Cond.fieldLink RJ0 38 "java/lang/String" "COMPACT_STRINGS" "Z" ∈ gw := (gw_tb 337 (by decide +kernel) (by decide +kernel))
theorem fl_J0_1053 : Cond.fieldLink RJ0 1053 "jdk/internal/util/Preconditions" "SIOOBE_FORMATTER" "Ljava/util/function/BiFunction;" ∈ gw := (gw_tb 385 (by decide +kernel) (by decide +kernel))
theorem fl_X1_96 : Cond.fieldLink RX1 96 "CountRule$CountyReader" "ELDER_LEAST" "[I" ∈ gw := (gw_tb 453 (by decide +kernel) (by decide +kernel))
theorem fl_X1_99 : Cond.fieldLink RX1 99 "CountRule$CountyReader" "ELDER_MOST" "[I" ∈ gw := (gw_tb 455 (by decide +kernel) (by decide +kernel))
theorem fl_X1_102 : Cond.fieldLink RX1 102 "CountRule$CountyReader" "ELDER_USUAL" "[I" ∈ gw := (gw_tb 457 (by decide +kernel) (by decide +kernel))
theorem fl_X1_110 : Cond.fieldLink RX1 110 "CountRule$CountyReader" "RULE_LEAST" "[I" ∈ gw := (gw_tb 468 (by decide +kernel) (by decide +kernel))
theorem fl_X1_113 : Cond.fieldLink RX1 113 "CountRule$CountyReader" "RULE_MOST" "[I" ∈ gw := (gw_tb 470 (by decide +kernel) (by decide +kernel))
theorem fl_J0_9 : Cond.fieldLink RJ0 9 "java/lang/String" "value" "[B" ∈ gw := (gw_tb 2023 (by decide +kernel) (by decide +kernel))
theorem fl_J0_15 : Cond.fieldLink RJ0 15 "java/lang/String" "coder" "B" ∈ gw := (gw_tb 2024 (by decide +kernel) (by decide +kernel))
