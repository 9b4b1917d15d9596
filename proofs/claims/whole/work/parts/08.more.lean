/-- an array at a place; a county; a cursor -/
def ARR (g : Cf) (p n s : Nat) : Prop := p < g.N ∧ ∀ r x, cellR g p r x = .inl (g.cA s, n, .inl r)
def CTY (g : Cf) (i j : Nat) : Prop := (i < g.N ∧ (∀ r x, cellR g i r x = .inr (0, flds g r x [10 + j])) ∧ Nat.blt j 900 = true) ∧ ARR g j 100 0
def CUR (g : Cf) (i : Nat) : Prop := i < g.N ∧ ∀ r x, cellR g i r x = .inr (2, flds g r x [11, 0, 0])
theorem cty_3 {g : Cf} : CTY g 3 4 := ⟨⟨pn_3, pc_3, rfl⟩, pn_4, pa_4⟩
theorem cty_5 {g : Cf} : CTY g 5 6 := ⟨⟨pn_5, pc_5, rfl⟩, pn_6, pa_6⟩
theorem cur_8 {g : Cf} : CUR g 8 := ⟨pn_8, pc_8⟩
theorem cur_11 {g : Cf} : CUR g 11 := ⟨pn_11, pc_11⟩
theorem ar_2 {g : Cf} : ARR g 2 240 0 := ⟨pn_2, pa_2⟩
theorem ar_4 {g : Cf} : ARR g 4 100 0 := ⟨pn_4, pa_4⟩
theorem ar_6 {g : Cf} : ARR g 6 100 0 := ⟨pn_6, pa_6⟩
theorem ar_9 {g : Cf} : ARR g 9 6 0 := ⟨pn_9, pa_9⟩
theorem ar_12 {g : Cf} : ARR g 12 240 0 := ⟨pn_12, pa_12⟩
theorem ar_15 {g : Cf} : ARR g 15 6 0 := ⟨pn_15, pa_15⟩
theorem ar_17 {g : Cf} : ARR g 17 4000 0 := ⟨pn_17, pa_17⟩
theorem ar_18 {g : Cf} : ARR g 18 300 0 := ⟨pn_18, pa_18⟩
theorem ar_19 {g : Cf} : ARR g 19 100 0 := ⟨pn_19, pa_19⟩
theorem ar_20 {g : Cf} : ARR g 20 300 0 := ⟨pn_20, pa_20⟩
theorem ar_22 {g : Cf} : ARR g 22 8 0 := ⟨pn_22, pa_22⟩
theorem ar_24 {g : Cf} : ARR g 24 24 0 := ⟨pn_24, pa_24⟩
theorem ar_25 {g : Cf} : ARR g 25 24 0 := ⟨pn_25, pa_25⟩
theorem ar_26 {g : Cf} : ARR g 26 64 0 := ⟨pn_26, pa_26⟩
theorem ar_28 {g : Cf} : ARR g 28 240 1 := ⟨pn_28, pa_28⟩
theorem ar_29 {g : Cf} : ARR g 29 960 1 := ⟨pn_29, pa_29⟩
theorem ar_30 {g : Cf} : ARR g 30 4 0 := ⟨pn_30, pa_30⟩
theorem ar_31 {g : Cf} : ARR g 31 128 0 := ⟨pn_31, pa_31⟩
theorem ar_32 {g : Cf} : ARR g 32 48 0 := ⟨pn_32, pa_32⟩
theorem ar_33 {g : Cf} : ARR g 33 48 0 := ⟨pn_33, pa_33⟩
theorem ar_34 {g : Cf} : ARR g 34 12 0 := ⟨pn_34, pa_34⟩
theorem ar_35 {g : Cf} : ARR g 35 12 0 := ⟨pn_35, pa_35⟩
theorem ar_36 {g : Cf} : ARR g 36 3 0 := ⟨pn_36, pa_36⟩
theorem ar_37 {g : Cf} : ARR g 37 3 0 := ⟨pn_37, pa_37⟩
theorem ar_38 {g : Cf} : ARR g 38 244 0 := ⟨pn_38, pa_38⟩
theorem ar_39 {g : Cf} : ARR g 39 244 0 := ⟨pn_39, pa_39⟩
theorem ar_40 {g : Cf} : ARR g 40 3 0 := ⟨pn_40, pa_40⟩
theorem ar_41 {g : Cf} : ARR g 41 9760 0 := ⟨pn_41, pa_41⟩
theorem ar_42 {g : Cf} : ARR g 42 64 0 := ⟨pn_42, pa_42⟩
theorem ar_43 {g : Cf} : ARR g 43 244 0 := ⟨pn_43, pa_43⟩
section GXT
variable {g : Cf} {d : Nat} {own : String} {cc : ByteArray} {nL : Nat} {rt : Option FieldType} {v : Option Value} {m' : Sg} {pc : Nat} {vs : List (Option Value)} {st : List Value} {m : Sg}
theorem g_ialoadc {P n : Nat} {i : Int32} (k : Nat) (hk : i.toNatClampNeg = k) (hin : inr i n = true) (hP0 : P < g.N) (hcell : ∀ r x, cellR g P r x = .inl (g.cA 0, n, .inl r)) (hd : decode cc pc = .ok (.iaload, 1)) (k9 : GX g d own cc nL rt v m' (pc + 1) vs (.int (m.1 P k) :: st) m) : GX g d own cc nL rt v m' pc vs (.int i :: .ref (g.ad P) :: st) m := by
  subst hk
  exact g_iaload (ρ := Unit) (F := some ()) (o := ()) (by rw [if_pos hin]) hP0 hcell hd (fun _ => k9)
theorem g_iastorec {ρ : Type} {P n : Nat} {i y : Int32} (k : Nat) {K : Sg → Option ρ} {o : ρ} (hm : bnd (wr m P k y) K = some o) (hk : i.toNatClampNeg = k) (hin : inr i n = true) (hP0 : P < g.N) (hcell : ∀ r x, cellR g P r x = .inl (g.cA 0, n, .inl r)) (hd : decode cc pc = .ok (.iastore, 1)) (k9 : ∀ m : Sg, K m = some o → GX g d own cc nL rt v m' (pc + 1) vs st m) : GX g d own cc nL rt v m' pc vs (.int y :: .int i :: .ref (g.ad P) :: st) m := by
  subst hk
  exact g_iastore (K := K) (o := o) (by rw [if_pos hin]; exact hm) hP0 hcell hd k9
/-- System.arraycopy over two int arrays -/
def cpk (sp dp n : Int32) (n0 n1 : Nat) : Bool := !(decide (sp < 0)) && !(decide (dp < 0)) && !(decide (n < 0)) && decide (sp.toNatClampNeg + n.toNatClampNeg ≤ n0) && decide (dp.toNatClampNeg + n.toNatClampNeg ≤ n1)
theorem g_copy {ρ : Type} {P0 P1 n0 n1 idx d1 : Nat} {sp dp n : Int32} {K : Sg → Option ρ} {o : ρ} (hm : (if cpk sp dp n n0 n1 = true then bnd (wrr m P1 (va_cpy (m.1 P0) (m.1 P1) sp.toNatClampNeg dp.toNatClampNeg n.toNatClampNeg)) K else none) = some o) (h0 : ARR g P0 n0 0) (h1 : ARR g P1 n1 0) (hl : Cond.methodLink own idx arraycopyName ∈ gw) (hdd : d = d1 + 1) (hw : Nat.ble (st.map fun v => v.category).sum 8 = true) (hd : decode cc pc = .ok (.invokestatic idx, 3)) (k : ∀ m : Sg, K m = some o → GX g d own cc nL rt v m' (pc + 3) vs st m) : GX g d own cc nL rt v m' pc vs (.int n :: .int dp :: .ref (g.ad P1) :: .int sp :: .ref (g.ad P0) :: st) m := by
  intro p e s mi args below meth c H locs ls C hP hD hS hL
  obtain ⟨hb, hm⟩ := ifn hm
  simp only [cpk, Bool.and_eq_true, Bool.not_eq_true', decide_eq_false_iff_not, decide_eq_true_eq] at hb
  obtain ⟨⟨⟨⟨b1, b2⟩, b3⟩, b4⟩, b5⟩ := hb
  have hw' := Nat.le_of_ble_eq_true hw
  have hts := C.2.2.2.2.2.2.1
  subst hdd
  refine va_copyi C.1 C.2.1 (C.2.2.1.trans hL.1.1.symm) C.2.2.2.2.2.1 (hts _ hl) (hts _ (gw_tb 562 (by decide +kernel) (by decide +kernel))) (hts _ (gw_tb 561 (by decide +kernel) (by decide +kernel))) (hts _ (gw_tb 18 (by decide +kernel) (by decide +kernel))) C.2.2.2.2.2.2.2.1 hP hD hS P0 P1 0 0 (by rw [ws_get h0.1, h0.2]) (by rw [ws_get h1.1, h1.2]) rfl rfl rfl b1 b2 b3 b4 b5 (fun _ _ => rfl) (by simp only [rmd]; omega) ?_ hd (fun H1 locs1 hP1 hD1 hS1 => ?_)
  · have : nativeFrameWords "java/lang/System" "arraycopy" 5 ≤ 20 := by decide +kernel
    simp only [rmd]
    omega
  · rw [ws_wrr (p := P1) (h1.2 _ _)] at hP1 hD1
    exact k _ hm p e s mi args below meth c H1 locs1 ls C hP1 hD1 hS1 hL
/-- a switch: one of its cases, or on -/
theorem g_tc {ρ : Type} {dflt lo hi : Int} {offs : Array Int} {len : Nat} {x z : Int32} {off : Int} {hh : Decidable (x = z)} {A B o : Option ρ} (tgt : Nat) (hm : @ite (Option ρ) (x = z) hh A B = o) (hd : decode cc pc = .ok (.tableswitch dflt lo hi offs, len)) (h1 : ¬ z.toInt < lo) (h2 : ¬ hi < z.toInt) (ho : offs[(z.toInt - lo).toNat]? = some off) (ht : (pc : Int) + off = (tgt : Int)) (kt : A = o → GX g d own cc nL rt v m' tgt vs st m) (kf : ¬ x = z → B = o → GX g d own cc nL rt v m' pc vs (.int x :: st) m) : GX g d own cc nL rt v m' pc vs (.int x :: st) m := by
  by_cases q : x = z
  · rw [if_pos q] at hm
    subst q
    exact fun p e s mi args below meth c H locs ls C hP hD hS hL => lv_tableIn (tgt := tgt) C.1 C.2.1 hd h1 h2 ho ht (kt hm p e s mi args below meth c H locs ls C hP hD hS hL)
  · rw [if_neg q] at hm
    exact kf q hm
theorem g_td {dflt lo hi : Int} {offs : Array Int} {len : Nat} {x : Int32} (tgt : Nat) (hd : decode cc pc = .ok (.tableswitch dflt lo hi offs, len)) (h : x.toInt < lo ∨ hi < x.toInt) (ht : (pc : Int) + dflt = (tgt : Int)) (k : GX g d own cc nL rt v m' tgt vs st m) : GX g d own cc nL rt v m' pc vs (.int x :: st) m := fun p e s mi args below meth c H locs ls C hP hD hS hL => lv_tableOut (tgt := tgt) C.1 C.2.1 hd h ht (k p e s mi args below meth c H locs ls C hP hD hS hL)
theorem g_lk {dflt : Int} {ps : Array (Int × Int)} {len : Nat} {x : Int32} {off : Int} (tgt : Nat) (hd : decode cc pc = .ok (.lookupswitch dflt ps, len)) (hp : (ps.toList.zip (ps.toList.drop 1)).all (fun (a, next) => a.1 < next.1) = true) (ho : Op.lookupswitch.offset ps.toList dflt x.toInt = off) (ht : (pc : Int) + off = (tgt : Int)) (k : GX g d own cc nL rt v m' tgt vs st m) : GX g d own cc nL rt v m' pc vs (.int x :: st) m := fun p e s mi args below meth c H locs ls C hP hD hS hL => lv_lookup (tgt := tgt) C.1 C.2.1 hd hp ho ht (k p e s mi args below meth c H locs ls C hP hD hS hL)
end GXT
theorem i32_ne {x z : Int32} (h : ¬ x = z) : x.toInt ≠ z.toInt := fun e => h (Int32.toInt_inj.mp e)
theorem lk_X0_15 : Cond.methodLink RX0 15 arraycopyName ∈ gw := gw_tb 560 (by decide +kernel) (by decide +kernel)
theorem lk_X7_62 : Cond.methodLink RX7 62 arraycopyName ∈ gw := gw_tb 942 (by decide +kernel) (by decide +kernel)
