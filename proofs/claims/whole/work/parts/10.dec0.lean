theorem bl_self {d : Nat} : Nat.ble (d + 1) (d + 1) = true := Nat.ble_eq_true_of_le (Nat.le_refl _)
theorem bl_of {k d : Nat} (h : k ≤ d) : Nat.ble (k + 1) (d + 1) = true := Nat.ble_eq_true_of_le (Nat.succ_le_succ h)
def rv (o : Option (Int32 × Sg)) : Option Sg := match o with
  | some q => some q.2
  | none => none
def ri (o : Option Sg) : Option (Int32 × Sg) := match o with
  | some q => some (0, q)
  | none => none
theorem ri_rv {o : Option Sg} {m : Sg} (h : rv (ri o) = some m) : o = some m := by
  cases o with
  | none => cases h
  | some q => exact h
section GXV
variable {g : Cf} {d : Nat} {own : String} {cc : ByteArray} {nL : Nat} {rt : Option FieldType} {v : Option Value} {m' : Sg} {pc : Nat} {vs : List (Option Value)} {st : List Value} {m : Sg}
theorem pq_14 {g : Cf} (r : Nat → Int32) (x : Int64) : cellR g 14 r x = .inl (g.cA 3, 4, .inr (.inr (.inr (.inr (fun k => if k < g.nl then some (g.ad (45 + 3 * k)) else none))))) := rfl
theorem g_alenQ (hd : decode cc pc = .ok (.arraylength, 1)) (k : GX g d own cc nL rt v m' (pc + 1) vs (.int 4 :: st) m) : GX g d own cc nL rt v m' pc vs (.ref (g.ad 14) :: st) m := fun p e s mi args below meth c H locs ls C hP hD hS hL => va_alen C.1 C.2.1 C.2.2.2.2.2.2.2.1 hP 14 3 (by rw [ws_get pn_14, pq_14]) rfl rfl hd (k p e s mi args below meth c H locs ls C hP hD hS hL)
theorem g_aaloadQ {ρ : Type} {i : Int32} {A B : Option ρ} {o : ρ} (hm : (if inr i 4 = true then (if i.toNatClampNeg < g.nl then A else B) else none) = some o) (hd : decode cc pc = .ok (.aaload, 1)) (k1 : i.toNatClampNeg < g.nl → A = some o → GX g d own cc nL rt v m' (pc + 1) vs (.ref (g.ad (45 + 3 * i.toNatClampNeg)) :: st) m) (k2 : B = some o → GX g d own cc nL rt v m' (pc + 1) vs (.null :: st) m) : GX g d own cc nL rt v m' pc vs (.int i :: .ref (g.ad 14) :: st) m := by
  intro p e s mi args below meth c H locs ls C hP hD hS hL
  obtain ⟨hi, hm⟩ := ifn hm
  refine va_aldq C.1 C.2.1 C.2.2.2.2.2.2.2.1 hP 14 3 (by rw [ws_get pn_14, pq_14]) rfl (inr_in hi) hd ?_
  by_cases hl : i.toNatClampNeg < g.nl
  · rw [if_pos hl] at hm ⊢
    exact k1 hl hm p e s mi args below meth c H locs ls C hP hD hS hL
  · rw [if_neg hl] at hm ⊢
    exact k2 hm p e s mi args below meth c H locs ls C hP hD hS hL
theorem g_ifnnR {a : Nat} {off : Int} (tgt : Nat) (hd : decode cc pc = .ok (.ifnonnull off, 3)) (ht : (pc : Int) + off = (tgt : Int)) (k : GX g d own cc nL rt v m' tgt vs st m) : GX g d own cc nL rt v m' pc vs (.ref a :: st) m := fun p e s mi args below meth c H locs ls C hP hD hS hL => lv_ifnonnull (tgt := tgt) C.1 C.2.1 hd ht (k p e s mi args below meth c H locs ls C hP hD hS hL)
theorem g_ifnnN {off : Int} (hd : decode cc pc = .ok (.ifnonnull off, 3)) (k : GX g d own cc nL rt v m' (pc + 3) vs st m) : GX g d own cc nL rt v m' pc vs (.null :: st) m := fun p e s mi args below meth c H locs ls C hP hD hS hL => lv_ifnonnullN C.1 C.2.1 hd (k p e s mi args below meth c H locs ls C hP hD hS hL)
theorem mx_i : yJ9_max_7cf53 = Lib.Math.max.name := rfl
theorem mn_i : yJ9_min_7cf53 = Lib.Math.min.name := rfl
theorem mx_l : yJ9_max_f86c9 = Lib.MathLoose.max_long.x := rfl
theorem mn_l : yJ9_min_f86c9 = Lib.MathLoose.min_long.x := rfl
theorem mt_i : Cond.initialized "java/lang/Math" ∈ gw := gw_tb 14 (by decide +kernel) (by decide +kernel)
theorem mt_1 : Cond.static Lib.Math.max.name ∈ gw ∧ Cond.code Lib.Math.max.name Lib.Math.max.code 2 (some .int) ∈ gw := ⟨gw_tb 359 (by decide +kernel) (by decide +kernel), gw_tb 360 (by decide +kernel) (by decide +kernel)⟩
theorem mt_2 : Cond.static Lib.Math.min.name ∈ gw ∧ Cond.code Lib.Math.min.name Lib.Math.min.code 2 (some .int) ∈ gw := ⟨gw_tb 362 (by decide +kernel) (by decide +kernel), gw_tb 363 (by decide +kernel) (by decide +kernel)⟩
theorem mt_3 : Cond.static Lib.MathLoose.min_long.x ∈ gw ∧ Cond.code Lib.MathLoose.min_long.x Lib.MathLoose.min_long.code 4 (some .long) ∈ gw := ⟨gw_tb 902 (by decide +kernel) (by decide +kernel), gw_tb 903 (by decide +kernel) (by decide +kernel)⟩
theorem mt_4 : Cond.static Lib.MathLoose.max_long.x ∈ gw ∧ Cond.code Lib.MathLoose.max_long.x Lib.MathLoose.max_long.code 4 (some .long) ∈ gw := ⟨gw_tb 905 (by decide +kernel) (by decide +kernel), gw_tb 906 (by decide +kernel) (by decide +kernel)⟩
theorem g_mmax {x y : Int32} {idx : Nat} (hl : Cond.methodLink own idx yJ9_max_7cf53 ∈ gw) (hdd : Nat.ble 1 d = true) (hw : Nat.ble (st.map fun v => v.category).sum 8 = true) (hd : decode cc pc = .ok (.invokestatic idx, 3)) (k : GX g d own cc nL rt v m' (pc + 3) vs (.int (if x < y then y else x) :: st) m) : GX g d own cc nL rt v m' pc vs (.int y :: .int x :: st) m := by
  intro p e s mi args below meth c H locs ls C hP hD hS hL
  have h1 := Nat.le_of_ble_eq_true hdd
  have h2 := Nat.le_of_ble_eq_true hw
  have hts := C.2.2.2.2.2.2.1
  rw [mx_i] at hl
  exact va_mmax C.1 C.2.1 (C.2.2.1.trans hL.1.1.symm) C.2.2.2.2.2.1 (hts _ hl) (hts _ mt_1.1) (hts _ mt_i) (hts _ mt_1.2) h1 (by simp only [rmd]; omega) (Nat.zero_le _) (Nat.zero_le _) hd (k p e s mi args below meth c H locs ls C hP hD hS hL)
theorem g_mmin {x y : Int32} {idx : Nat} (hl : Cond.methodLink own idx yJ9_min_7cf53 ∈ gw) (hdd : Nat.ble 1 d = true) (hw : Nat.ble (st.map fun v => v.category).sum 8 = true) (hd : decode cc pc = .ok (.invokestatic idx, 3)) (k : GX g d own cc nL rt v m' (pc + 3) vs (.int (if y < x then y else x) :: st) m) : GX g d own cc nL rt v m' pc vs (.int y :: .int x :: st) m := by
  intro p e s mi args below meth c H locs ls C hP hD hS hL
  have h1 := Nat.le_of_ble_eq_true hdd
  have h2 := Nat.le_of_ble_eq_true hw
  have hts := C.2.2.2.2.2.2.1
  rw [mn_i] at hl
  exact va_mmin C.1 C.2.1 (C.2.2.1.trans hL.1.1.symm) C.2.2.2.2.2.1 (hts _ hl) (hts _ mt_2.1) (hts _ mt_i) (hts _ mt_2.2) h1 (by simp only [rmd]; omega) (Nat.zero_le _) (Nat.zero_le _) hd (k p e s mi args below meth c H locs ls C hP hD hS hL)
theorem g_mminL {x y : Int64} {idx : Nat} (hl : Cond.methodLink own idx yJ9_min_f86c9 ∈ gw) (hdd : Nat.ble 1 d = true) (hw : Nat.ble (st.map fun v => v.category).sum 8 = true) (hd : decode cc pc = .ok (.invokestatic idx, 3)) (k : GX g d own cc nL rt v m' (pc + 3) vs (.long (if y < x then y else x) :: st) m) : GX g d own cc nL rt v m' pc vs (.long y :: .long x :: st) m := by
  intro p e s mi args below meth c H locs ls C hP hD hS hL
  have h1 := Nat.le_of_ble_eq_true hdd
  have h2 := Nat.le_of_ble_eq_true hw
  have hts := C.2.2.2.2.2.2.1
  rw [mn_l] at hl
  exact va_mmin_long C.1 C.2.1 (C.2.2.1.trans hL.1.1.symm) C.2.2.2.2.2.1 (hts _ hl) (hts _ mt_3.1) (hts _ mt_i) (hts _ mt_3.2) h1 (by simp only [rmd]; omega) (Nat.zero_le _) (Nat.zero_le _) hd (k p e s mi args below meth c H locs ls C hP hD hS hL)
theorem g_mmaxL {x y : Int64} {idx : Nat} (hl : Cond.methodLink own idx yJ9_max_f86c9 ∈ gw) (hdd : Nat.ble 1 d = true) (hw : Nat.ble (st.map fun v => v.category).sum 8 = true) (hd : decode cc pc = .ok (.invokestatic idx, 3)) (k : GX g d own cc nL rt v m' (pc + 3) vs (.long (if y < x then x else y) :: st) m) : GX g d own cc nL rt v m' pc vs (.long y :: .long x :: st) m := by
  intro p e s mi args below meth c H locs ls C hP hD hS hL
  have h1 := Nat.le_of_ble_eq_true hdd
  have h2 := Nat.le_of_ble_eq_true hw
  have hts := C.2.2.2.2.2.2.1
  rw [mx_l] at hl
  exact va_mmax_long C.1 C.2.1 (C.2.2.1.trans hL.1.1.symm) C.2.2.2.2.2.1 (hts _ hl) (hts _ mt_4.1) (hts _ mt_i) (hts _ mt_4.2) h1 (by simp only [rmd]; omega) (Nat.zero_le _) (Nat.zero_le _) hd (k p e s mi args below meth c H locs ls C hP hD hS hL)
end GXV
theorem dX0_cell_0 : decode cX0_cell 0 = .ok (.iload_n 1, 1) := by decide +kernel
theorem dX0_cell_1 : decode cX0_cell 1 = .ok (.ifCond .lt 21, 3) := by decide +kernel
theorem dX0_cell_4 : decode cX0_cell 4 = .ok (.iload_n 1, 1) := by decide +kernel
theorem dX0_cell_5 : decode cX0_cell 5 = .ok (.aload_n 0, 1) := by decide +kernel
theorem dX0_cell_6 : decode cX0_cell 6 = .ok (.getfield 11, 3) := by decide +kernel
theorem dX0_cell_9 : decode cX0_cell 9 = .ok (.arraylength, 1) := by decide +kernel
theorem dX0_cell_10 : decode cX0_cell 10 = .ok (.if_icmp .ge 12, 3) := by decide +kernel
theorem dX0_cell_13 : decode cX0_cell 13 = .ok (.aload_n 0, 1) := by decide +kernel
theorem dX0_cell_14 : decode cX0_cell 14 = .ok (.getfield 11, 3) := by decide +kernel
theorem dX0_cell_17 : decode cX0_cell 17 = .ok (.iload_n 1, 1) := by decide +kernel
theorem dX0_cell_18 : decode cX0_cell 18 = .ok (.iaload, 1) := by decide +kernel
theorem dX0_cell_19 : decode cX0_cell 19 = .ok (.goto 4, 3) := by decide +kernel
theorem dX0_cell_22 : decode cX0_cell 22 = .ok (.iconst 0, 1) := by decide +kernel
theorem dX0_cell_23 : decode cX0_cell 23 = .ok (.ireturn, 1) := by decide +kernel
theorem dX0_put_0 : decode cX0_put 0 = .ok (.iload_n 1, 1) := by decide +kernel
theorem dX0_put_1 : decode cX0_put 1 = .ok (.ifCond .lt 19, 3) := by decide +kernel
theorem dX0_put_4 : decode cX0_put 4 = .ok (.iload_n 1, 1) := by decide +kernel
theorem dX0_put_5 : decode cX0_put 5 = .ok (.aload_n 0, 1) := by decide +kernel
theorem dX0_put_6 : decode cX0_put 6 = .ok (.getfield 11, 3) := by decide +kernel
theorem dX0_put_9 : decode cX0_put 9 = .ok (.arraylength, 1) := by decide +kernel
theorem dX0_put_10 : decode cX0_put 10 = .ok (.if_icmp .ge 10, 3) := by decide +kernel
theorem dX0_put_13 : decode cX0_put 13 = .ok (.aload_n 0, 1) := by decide +kernel
theorem dX0_put_14 : decode cX0_put 14 = .ok (.getfield 11, 3) := by decide +kernel
theorem dX0_put_17 : decode cX0_put 17 = .ok (.iload_n 1, 1) := by decide +kernel
theorem dX0_put_18 : decode cX0_put 18 = .ok (.iload_n 2, 1) := by decide +kernel
theorem dX0_put_19 : decode cX0_put 19 = .ok (.iastore, 1) := by decide +kernel
theorem dX0_put_20 : decode cX0_put 20 = .ok (.return_, 1) := by decide +kernel
theorem dX0_kid_0 : decode cX0_kid 0 = .ok (.iload_n 1, 1) := by decide +kernel
theorem dX0_kid_1 : decode cX0_kid 1 = .ok (.bipush 10, 2) := by decide +kernel
theorem dX0_kid_3 : decode cX0_kid 3 = .ok (.imul, 1) := by decide +kernel
theorem dX0_kid_4 : decode cX0_kid 4 = .ok (.iload_n 2, 1) := by decide +kernel
theorem dX0_kid_5 : decode cX0_kid 5 = .ok (.iadd, 1) := by decide +kernel
theorem dX0_kid_6 : decode cX0_kid 6 = .ok (.istore_n 3, 1) := by decide +kernel
theorem dX0_kid_7 : decode cX0_kid 7 = .ok (.iload_n 3, 1) := by decide +kernel
theorem dX0_kid_8 : decode cX0_kid 8 = .ok (.ifCond .lt 21, 3) := by decide +kernel
theorem dX0_kid_11 : decode cX0_kid 11 = .ok (.iload_n 3, 1) := by decide +kernel
theorem dX0_kid_12 : decode cX0_kid 12 = .ok (.aload_n 0, 1) := by decide +kernel
theorem dX0_kid_13 : decode cX0_kid 13 = .ok (.getfield 11, 3) := by decide +kernel
theorem dX0_kid_16 : decode cX0_kid 16 = .ok (.arraylength, 1) := by decide +kernel
theorem dX0_kid_17 : decode cX0_kid 17 = .ok (.if_icmp .ge 12, 3) := by decide +kernel
theorem dX0_kid_20 : decode cX0_kid 20 = .ok (.aload_n 0, 1) := by decide +kernel
theorem dX0_kid_21 : decode cX0_kid 21 = .ok (.getfield 11, 3) := by decide +kernel
theorem dX0_kid_24 : decode cX0_kid 24 = .ok (.iload_n 3, 1) := by decide +kernel
theorem dX0_kid_25 : decode cX0_kid 25 = .ok (.iaload, 1) := by decide +kernel
theorem dX0_kid_26 : decode cX0_kid 26 = .ok (.goto 4, 3) := by decide +kernel
theorem dX0_kid_29 : decode cX0_kid 29 = .ok (.iconst 0, 1) := by decide +kernel
theorem dX0_kid_30 : decode cX0_kid 30 = .ok (.ireturn, 1) := by decide +kernel
theorem dX0_putKid_0 : decode cX0_putKid 0 = .ok (.iload_n 1, 1) := by decide +kernel
theorem dX0_putKid_1 : decode cX0_putKid 1 = .ok (.bipush 10, 2) := by decide +kernel
theorem dX0_putKid_3 : decode cX0_putKid 3 = .ok (.imul, 1) := by decide +kernel
theorem dX0_putKid_4 : decode cX0_putKid 4 = .ok (.iload_n 2, 1) := by decide +kernel
theorem dX0_putKid_5 : decode cX0_putKid 5 = .ok (.iadd, 1) := by decide +kernel
theorem dX0_putKid_6 : decode cX0_putKid 6 = .ok (.istore 4, 2) := by decide +kernel
theorem dX0_putKid_8 : decode cX0_putKid 8 = .ok (.iload 4, 2) := by decide +kernel
theorem dX0_putKid_10 : decode cX0_putKid 10 = .ok (.ifCond .lt 21, 3) := by decide +kernel
theorem dX0_putKid_13 : decode cX0_putKid 13 = .ok (.iload 4, 2) := by decide +kernel
theorem dX0_putKid_15 : decode cX0_putKid 15 = .ok (.aload_n 0, 1) := by decide +kernel
theorem dX0_putKid_16 : decode cX0_putKid 16 = .ok (.getfield 11, 3) := by decide +kernel
theorem dX0_putKid_19 : decode cX0_putKid 19 = .ok (.arraylength, 1) := by decide +kernel
theorem dX0_putKid_20 : decode cX0_putKid 20 = .ok (.if_icmp .ge 11, 3) := by decide +kernel
theorem dX0_putKid_23 : decode cX0_putKid 23 = .ok (.aload_n 0, 1) := by decide +kernel
theorem dX0_putKid_24 : decode cX0_putKid 24 = .ok (.getfield 11, 3) := by decide +kernel
theorem dX0_putKid_27 : decode cX0_putKid 27 = .ok (.iload 4, 2) := by decide +kernel
theorem dX0_putKid_29 : decode cX0_putKid 29 = .ok (.iload_n 3, 1) := by decide +kernel
theorem dX0_putKid_30 : decode cX0_putKid 30 = .ok (.iastore, 1) := by decide +kernel
theorem dX0_putKid_31 : decode cX0_putKid 31 = .ok (.return_, 1) := by decide +kernel
theorem dX0_old_0 : decode cX0_old 0 = .ok (.bipush 80, 2) := by decide +kernel
theorem dX0_old_2 : decode cX0_old 2 = .ok (.iload_n 1, 1) := by decide +kernel
theorem dX0_old_3 : decode cX0_old 3 = .ok (.iconst 3, 1) := by decide +kernel
theorem dX0_old_4 : decode cX0_old 4 = .ok (.imul, 1) := by decide +kernel
theorem dX0_old_5 : decode cX0_old 5 = .ok (.iadd, 1) := by decide +kernel
theorem dX0_old_6 : decode cX0_old 6 = .ok (.iload_n 2, 1) := by decide +kernel
theorem dX0_old_7 : decode cX0_old 7 = .ok (.iadd, 1) := by decide +kernel
theorem dX0_old_8 : decode cX0_old 8 = .ok (.istore_n 3, 1) := by decide +kernel
theorem dX0_old_9 : decode cX0_old 9 = .ok (.iload_n 3, 1) := by decide +kernel
theorem dX0_old_10 : decode cX0_old 10 = .ok (.ifCond .lt 21, 3) := by decide +kernel
theorem dX0_old_13 : decode cX0_old 13 = .ok (.iload_n 3, 1) := by decide +kernel
theorem dX0_old_14 : decode cX0_old 14 = .ok (.aload_n 0, 1) := by decide +kernel
theorem dX0_old_15 : decode cX0_old 15 = .ok (.getfield 11, 3) := by decide +kernel
theorem dX0_old_18 : decode cX0_old 18 = .ok (.arraylength, 1) := by decide +kernel
theorem dX0_old_19 : decode cX0_old 19 = .ok (.if_icmp .ge 12, 3) := by decide +kernel
theorem dX0_old_22 : decode cX0_old 22 = .ok (.aload_n 0, 1) := by decide +kernel
theorem dX0_old_23 : decode cX0_old 23 = .ok (.getfield 11, 3) := by decide +kernel
theorem dX0_old_26 : decode cX0_old 26 = .ok (.iload_n 3, 1) := by decide +kernel
theorem dX0_old_27 : decode cX0_old 27 = .ok (.iaload, 1) := by decide +kernel
theorem dX0_old_28 : decode cX0_old 28 = .ok (.goto 4, 3) := by decide +kernel
theorem dX0_old_31 : decode cX0_old 31 = .ok (.iconst 0, 1) := by decide +kernel
theorem dX0_old_32 : decode cX0_old 32 = .ok (.ireturn, 1) := by decide +kernel
theorem dX0_putOld_0 : decode cX0_putOld 0 = .ok (.bipush 80, 2) := by decide +kernel
theorem dX0_putOld_2 : decode cX0_putOld 2 = .ok (.iload_n 1, 1) := by decide +kernel
theorem dX0_putOld_3 : decode cX0_putOld 3 = .ok (.iconst 3, 1) := by decide +kernel
theorem dX0_putOld_4 : decode cX0_putOld 4 = .ok (.imul, 1) := by decide +kernel
theorem dX0_putOld_5 : decode cX0_putOld 5 = .ok (.iadd, 1) := by decide +kernel
theorem dX0_putOld_6 : decode cX0_putOld 6 = .ok (.iload_n 2, 1) := by decide +kernel
theorem dX0_putOld_7 : decode cX0_putOld 7 = .ok (.iadd, 1) := by decide +kernel
theorem dX0_putOld_8 : decode cX0_putOld 8 = .ok (.istore 4, 2) := by decide +kernel
theorem dX0_putOld_10 : decode cX0_putOld 10 = .ok (.iload 4, 2) := by decide +kernel
theorem dX0_putOld_12 : decode cX0_putOld 12 = .ok (.ifCond .lt 21, 3) := by decide +kernel
theorem dX0_putOld_15 : decode cX0_putOld 15 = .ok (.iload 4, 2) := by decide +kernel
theorem dX0_putOld_17 : decode cX0_putOld 17 = .ok (.aload_n 0, 1) := by decide +kernel
theorem dX0_putOld_18 : decode cX0_putOld 18 = .ok (.getfield 11, 3) := by decide +kernel
theorem dX0_putOld_21 : decode cX0_putOld 21 = .ok (.arraylength, 1) := by decide +kernel
theorem dX0_putOld_22 : decode cX0_putOld 22 = .ok (.if_icmp .ge 11, 3) := by decide +kernel
theorem dX0_putOld_25 : decode cX0_putOld 25 = .ok (.aload_n 0, 1) := by decide +kernel
theorem dX0_putOld_26 : decode cX0_putOld 26 = .ok (.getfield 11, 3) := by decide +kernel
theorem dX0_putOld_29 : decode cX0_putOld 29 = .ok (.iload 4, 2) := by decide +kernel
theorem dX0_putOld_31 : decode cX0_putOld 31 = .ok (.iload_n 3, 1) := by decide +kernel
theorem dX0_putOld_32 : decode cX0_putOld 32 = .ok (.iastore, 1) := by decide +kernel
theorem dX0_putOld_33 : decode cX0_putOld 33 = .ok (.return_, 1) := by decide +kernel
theorem dX0_children_0 : decode cX0_children 0 = .ok (.aload_n 0, 1) := by decide +kernel
theorem dX0_children_1 : decode cX0_children 1 = .ok (.getfield 11, 3) := by decide +kernel
theorem dX0_children_4 : decode cX0_children 4 = .ok (.bipush 95, 2) := by decide +kernel
theorem dX0_children_6 : decode cX0_children 6 = .ok (.iaload, 1) := by decide +kernel
theorem dX0_children_7 : decode cX0_children 7 = .ok (.ireturn, 1) := by decide +kernel
theorem dX0_elders_0 : decode cX0_elders 0 = .ok (.aload_n 0, 1) := by decide +kernel
theorem dX0_elders_1 : decode cX0_elders 1 = .ok (.getfield 11, 3) := by decide +kernel
theorem dX0_elders_4 : decode cX0_elders 4 = .ok (.bipush 96, 2) := by decide +kernel
theorem dX0_elders_6 : decode cX0_elders 6 = .ok (.iaload, 1) := by decide +kernel
theorem dX0_elders_7 : decode cX0_elders 7 = .ok (.ireturn, 1) := by decide +kernel
theorem dX0_ruler_0 : decode cX0_ruler 0 = .ok (.aload_n 0, 1) := by decide +kernel
theorem dX0_ruler_1 : decode cX0_ruler 1 = .ok (.getfield 11, 3) := by decide +kernel
theorem dX0_ruler_4 : decode cX0_ruler 4 = .ok (.bipush 98, 2) := by decide +kernel
theorem dX0_ruler_6 : decode cX0_ruler 6 = .ok (.iaload, 1) := by decide +kernel
theorem dX0_ruler_7 : decode cX0_ruler 7 = .ok (.ireturn, 1) := by decide +kernel
theorem dX0_become_0 : decode cX0_become 0 = .ok (.aload_n 1, 1) := by decide +kernel
theorem dX0_become_1 : decode cX0_become 1 = .ok (.getfield 11, 3) := by decide +kernel
theorem dX0_become_4 : decode cX0_become 4 = .ok (.iconst 0, 1) := by decide +kernel
theorem dX0_become_5 : decode cX0_become 5 = .ok (.aload_n 0, 1) := by decide +kernel
theorem dX0_become_6 : decode cX0_become 6 = .ok (.getfield 11, 3) := by decide +kernel
theorem dX0_become_9 : decode cX0_become 9 = .ok (.iconst 0, 1) := by decide +kernel
theorem dX0_become_10 : decode cX0_become 10 = .ok (.bipush 100, 2) := by decide +kernel
theorem dX0_become_12 : decode cX0_become 12 = .ok (.invokestatic 15, 3) := by decide +kernel
theorem dX0_become_15 : decode cX0_become 15 = .ok (.return_, 1) := by decide +kernel
theorem dX0_copyTo_0 : decode cX0_copyTo 0 = .ok (.iload_n 2, 1) := by decide +kernel
theorem dX0_copyTo_1 : decode cX0_copyTo 1 = .ok (.ifCond .lt 24, 3) := by decide +kernel
theorem dX0_copyTo_4 : decode cX0_copyTo 4 = .ok (.iload_n 2, 1) := by decide +kernel
theorem dX0_copyTo_5 : decode cX0_copyTo 5 = .ok (.aload_n 1, 1) := by decide +kernel
theorem dX0_copyTo_6 : decode cX0_copyTo 6 = .ok (.arraylength, 1) := by decide +kernel
theorem dX0_copyTo_7 : decode cX0_copyTo 7 = .ok (.bipush 100, 2) := by decide +kernel
theorem dX0_copyTo_9 : decode cX0_copyTo 9 = .ok (.isub, 1) := by decide +kernel
theorem dX0_copyTo_10 : decode cX0_copyTo 10 = .ok (.if_icmp .gt 15, 3) := by decide +kernel
theorem dX0_copyTo_13 : decode cX0_copyTo 13 = .ok (.aload_n 0, 1) := by decide +kernel
theorem dX0_copyTo_14 : decode cX0_copyTo 14 = .ok (.getfield 11, 3) := by decide +kernel
theorem dX0_copyTo_17 : decode cX0_copyTo 17 = .ok (.iconst 0, 1) := by decide +kernel
theorem dX0_copyTo_18 : decode cX0_copyTo 18 = .ok (.aload_n 1, 1) := by decide +kernel
theorem dX0_copyTo_19 : decode cX0_copyTo 19 = .ok (.iload_n 2, 1) := by decide +kernel
theorem dX0_copyTo_20 : decode cX0_copyTo 20 = .ok (.bipush 100, 2) := by decide +kernel
theorem dX0_copyTo_22 : decode cX0_copyTo 22 = .ok (.invokestatic 15, 3) := by decide +kernel
theorem dX0_copyTo_25 : decode cX0_copyTo 25 = .ok (.return_, 1) := by decide +kernel
theorem dX0_copyFrom_0 : decode cX0_copyFrom 0 = .ok (.iload_n 2, 1) := by decide +kernel
theorem dX0_copyFrom_1 : decode cX0_copyFrom 1 = .ok (.ifCond .lt 24, 3) := by decide +kernel
theorem dX0_copyFrom_4 : decode cX0_copyFrom 4 = .ok (.iload_n 2, 1) := by decide +kernel
theorem dX0_copyFrom_5 : decode cX0_copyFrom 5 = .ok (.aload_n 1, 1) := by decide +kernel
theorem dX0_copyFrom_6 : decode cX0_copyFrom 6 = .ok (.arraylength, 1) := by decide +kernel
theorem dX0_copyFrom_7 : decode cX0_copyFrom 7 = .ok (.bipush 100, 2) := by decide +kernel
theorem dX0_copyFrom_9 : decode cX0_copyFrom 9 = .ok (.isub, 1) := by decide +kernel
theorem dX0_copyFrom_10 : decode cX0_copyFrom 10 = .ok (.if_icmp .gt 15, 3) := by decide +kernel
theorem dX0_copyFrom_13 : decode cX0_copyFrom 13 = .ok (.aload_n 1, 1) := by decide +kernel
theorem dX0_copyFrom_14 : decode cX0_copyFrom 14 = .ok (.iload_n 2, 1) := by decide +kernel
theorem dX0_copyFrom_15 : decode cX0_copyFrom 15 = .ok (.aload_n 0, 1) := by decide +kernel
theorem dX0_copyFrom_16 : decode cX0_copyFrom 16 = .ok (.getfield 11, 3) := by decide +kernel
theorem dX0_copyFrom_19 : decode cX0_copyFrom 19 = .ok (.iconst 0, 1) := by decide +kernel
theorem dX0_copyFrom_20 : decode cX0_copyFrom 20 = .ok (.bipush 100, 2) := by decide +kernel
theorem dX0_copyFrom_22 : decode cX0_copyFrom 22 = .ok (.invokestatic 15, 3) := by decide +kernel
theorem dX0_copyFrom_25 : decode cX0_copyFrom 25 = .ok (.return_, 1) := by decide +kernel
theorem dX0_clear_0 : decode cX0_clear 0 = .ok (.iconst 0, 1) := by decide +kernel
theorem dX0_clear_1 : decode cX0_clear 1 = .ok (.istore_n 1, 1) := by decide +kernel
theorem dX0_clear_2 : decode cX0_clear 2 = .ok (.iload_n 1, 1) := by decide +kernel
theorem dX0_clear_3 : decode cX0_clear 3 = .ok (.aload_n 0, 1) := by decide +kernel
theorem dX0_clear_4 : decode cX0_clear 4 = .ok (.getfield 11, 3) := by decide +kernel
theorem dX0_clear_7 : decode cX0_clear 7 = .ok (.arraylength, 1) := by decide +kernel
theorem dX0_clear_8 : decode cX0_clear 8 = .ok (.if_icmp .ge 16, 3) := by decide +kernel
theorem dX0_clear_11 : decode cX0_clear 11 = .ok (.aload_n 0, 1) := by decide +kernel
theorem dX0_clear_12 : decode cX0_clear 12 = .ok (.getfield 11, 3) := by decide +kernel
theorem dX0_clear_15 : decode cX0_clear 15 = .ok (.iload_n 1, 1) := by decide +kernel
theorem dX0_clear_16 : decode cX0_clear 16 = .ok (.iconst 0, 1) := by decide +kernel
theorem dX0_clear_17 : decode cX0_clear 17 = .ok (.iastore, 1) := by decide +kernel
theorem dX0_clear_18 : decode cX0_clear 18 = .ok (.iinc 1 1, 3) := by decide +kernel
theorem dX0_clear_21 : decode cX0_clear 21 = .ok (.goto (-19), 3) := by decide +kernel
theorem dX0_clear_24 : decode cX0_clear 24 = .ok (.aload_n 0, 1) := by decide +kernel
theorem dX0_clear_25 : decode cX0_clear 25 = .ok (.getfield 11, 3) := by decide +kernel
theorem dX0_clear_28 : decode cX0_clear 28 = .ok (.bipush 98, 2) := by decide +kernel
theorem dX0_clear_30 : decode cX0_clear 30 = .ok (.iconst (-1), 1) := by decide +kernel
theorem dX0_clear_31 : decode cX0_clear 31 = .ok (.iastore, 1) := by decide +kernel
theorem dX0_clear_32 : decode cX0_clear 32 = .ok (.return_, 1) := by decide +kernel
theorem dX0_setRule_0 : decode cX0_setRule 0 = .ok (.aload_n 0, 1) := by decide +kernel
theorem dX0_setRule_1 : decode cX0_setRule 1 = .ok (.getfield 11, 3) := by decide +kernel
theorem dX0_setRule_4 : decode cX0_setRule 4 = .ok (.bipush 92, 2) := by decide +kernel
theorem dX0_setRule_6 : decode cX0_setRule 6 = .ok (.iload_n 1, 1) := by decide +kernel
theorem dX0_setRule_7 : decode cX0_setRule 7 = .ok (.iastore, 1) := by decide +kernel
theorem dX0_setRule_8 : decode cX0_setRule 8 = .ok (.aload_n 0, 1) := by decide +kernel
theorem dX0_setRule_9 : decode cX0_setRule 9 = .ok (.getfield 11, 3) := by decide +kernel
theorem dX0_setRule_12 : decode cX0_setRule 12 = .ok (.bipush 93, 2) := by decide +kernel
theorem dX0_setRule_14 : decode cX0_setRule 14 = .ok (.iload_n 2, 1) := by decide +kernel
theorem dX0_setRule_15 : decode cX0_setRule 15 = .ok (.iastore, 1) := by decide +kernel
theorem dX0_setRule_16 : decode cX0_setRule 16 = .ok (.aload_n 0, 1) := by decide +kernel
theorem dX0_setRule_17 : decode cX0_setRule 17 = .ok (.getfield 11, 3) := by decide +kernel
theorem dX0_setRule_20 : decode cX0_setRule 20 = .ok (.bipush 94, 2) := by decide +kernel
theorem dX0_setRule_22 : decode cX0_setRule 22 = .ok (.iload_n 3, 1) := by decide +kernel
theorem dX0_setRule_23 : decode cX0_setRule 23 = .ok (.iastore, 1) := by decide +kernel
theorem dX0_setRule_24 : decode cX0_setRule 24 = .ok (.return_, 1) := by decide +kernel
theorem dX0_addChild_0 : decode cX0_addChild 0 = .ok (.aload_n 0, 1) := by decide +kernel
theorem dX0_addChild_1 : decode cX0_addChild 1 = .ok (.getfield 11, 3) := by decide +kernel
theorem dX0_addChild_4 : decode cX0_addChild 4 = .ok (.bipush 95, 2) := by decide +kernel
theorem dX0_addChild_6 : decode cX0_addChild 6 = .ok (.iaload, 1) := by decide +kernel
theorem dX0_addChild_7 : decode cX0_addChild 7 = .ok (.istore_n 2, 1) := by decide +kernel
theorem dX0_addChild_8 : decode cX0_addChild 8 = .ok (.iload_n 2, 1) := by decide +kernel
theorem dX0_addChild_9 : decode cX0_addChild 9 = .ok (.bipush 8, 2) := by decide +kernel
theorem dX0_addChild_11 : decode cX0_addChild 11 = .ok (.if_icmp .ge 10, 3) := by decide +kernel
theorem dX0_addChild_14 : decode cX0_addChild 14 = .ok (.aload_n 1, 1) := by decide +kernel
theorem dX0_addChild_15 : decode cX0_addChild 15 = .ok (.arraylength, 1) := by decide +kernel
theorem dX0_addChild_16 : decode cX0_addChild 16 = .ok (.bipush 6, 2) := by decide +kernel
theorem dX0_addChild_18 : decode cX0_addChild 18 = .ok (.if_icmp .ge 4, 3) := by decide +kernel
theorem dX0_addChild_21 : decode cX0_addChild 21 = .ok (.return_, 1) := by decide +kernel
theorem dX0_addChild_22 : decode cX0_addChild 22 = .ok (.aload_n 0, 1) := by decide +kernel
theorem dX0_addChild_23 : decode cX0_addChild 23 = .ok (.iload_n 2, 1) := by decide +kernel
theorem dX0_addChild_24 : decode cX0_addChild 24 = .ok (.iconst 0, 1) := by decide +kernel
theorem dX0_addChild_25 : decode cX0_addChild 25 = .ok (.aload_n 1, 1) := by decide +kernel
theorem dX0_addChild_26 : decode cX0_addChild 26 = .ok (.iconst 0, 1) := by decide +kernel
theorem dX0_addChild_27 : decode cX0_addChild 27 = .ok (.iaload, 1) := by decide +kernel
theorem dX0_addChild_28 : decode cX0_addChild 28 = .ok (.invokevirtual 21, 3) := by decide +kernel
theorem dX0_addChild_31 : decode cX0_addChild 31 = .ok (.aload_n 0, 1) := by decide +kernel
theorem dX0_addChild_32 : decode cX0_addChild 32 = .ok (.iload_n 2, 1) := by decide +kernel
theorem dX0_addChild_33 : decode cX0_addChild 33 = .ok (.iconst 1, 1) := by decide +kernel
theorem dX0_addChild_34 : decode cX0_addChild 34 = .ok (.aload_n 1, 1) := by decide +kernel
theorem dX0_addChild_35 : decode cX0_addChild 35 = .ok (.iconst 1, 1) := by decide +kernel
theorem dX0_addChild_36 : decode cX0_addChild 36 = .ok (.iaload, 1) := by decide +kernel
theorem dX0_addChild_37 : decode cX0_addChild 37 = .ok (.invokestatic 25, 3) := by decide +kernel
theorem dX0_addChild_40 : decode cX0_addChild 40 = .ok (.invokevirtual 21, 3) := by decide +kernel
theorem dX0_addChild_43 : decode cX0_addChild 43 = .ok (.aload_n 0, 1) := by decide +kernel
theorem dX0_addChild_44 : decode cX0_addChild 44 = .ok (.iload_n 2, 1) := by decide +kernel
theorem dX0_addChild_45 : decode cX0_addChild 45 = .ok (.iconst 2, 1) := by decide +kernel
theorem dX0_addChild_46 : decode cX0_addChild 46 = .ok (.aload_n 1, 1) := by decide +kernel
theorem dX0_addChild_47 : decode cX0_addChild 47 = .ok (.iconst 2, 1) := by decide +kernel
theorem dX0_addChild_48 : decode cX0_addChild 48 = .ok (.iaload, 1) := by decide +kernel
theorem dX0_addChild_49 : decode cX0_addChild 49 = .ok (.bipush 9, 2) := by decide +kernel
theorem dX0_addChild_51 : decode cX0_addChild 51 = .ok (.if_icmp .ge 11, 3) := by decide +kernel
theorem dX0_addChild_54 : decode cX0_addChild 54 = .ok (.iconst 1, 1) := by decide +kernel
theorem dX0_addChild_55 : decode cX0_addChild 55 = .ok (.aload_n 1, 1) := by decide +kernel
theorem dX0_addChild_56 : decode cX0_addChild 56 = .ok (.iconst 2, 1) := by decide +kernel
theorem dX0_addChild_57 : decode cX0_addChild 57 = .ok (.iaload, 1) := by decide +kernel
theorem dX0_addChild_58 : decode cX0_addChild 58 = .ok (.ishl, 1) := by decide +kernel
theorem dX0_addChild_59 : decode cX0_addChild 59 = .ok (.goto 4, 3) := by decide +kernel
theorem dX0_addChild_62 : decode cX0_addChild 62 = .ok (.iconst 0, 1) := by decide +kernel
theorem dX0_addChild_63 : decode cX0_addChild 63 = .ok (.invokevirtual 21, 3) := by decide +kernel
theorem dX0_addChild_66 : decode cX0_addChild 66 = .ok (.aload_n 0, 1) := by decide +kernel
theorem dX0_addChild_67 : decode cX0_addChild 67 = .ok (.iload_n 2, 1) := by decide +kernel
theorem dX0_addChild_68 : decode cX0_addChild 68 = .ok (.iconst 3, 1) := by decide +kernel
theorem dX0_addChild_69 : decode cX0_addChild 69 = .ok (.aload_n 1, 1) := by decide +kernel
theorem dX0_addChild_70 : decode cX0_addChild 70 = .ok (.iconst 3, 1) := by decide +kernel
theorem dX0_addChild_71 : decode cX0_addChild 71 = .ok (.iaload, 1) := by decide +kernel
theorem dX0_addChild_72 : decode cX0_addChild 72 = .ok (.invokevirtual 21, 3) := by decide +kernel
theorem dX0_addChild_75 : decode cX0_addChild 75 = .ok (.aload_n 0, 1) := by decide +kernel
theorem dX0_addChild_76 : decode cX0_addChild 76 = .ok (.iload_n 2, 1) := by decide +kernel
theorem dX0_addChild_77 : decode cX0_addChild 77 = .ok (.iconst 4, 1) := by decide +kernel
theorem dX0_addChild_78 : decode cX0_addChild 78 = .ok (.aload_n 1, 1) := by decide +kernel
theorem dX0_addChild_79 : decode cX0_addChild 79 = .ok (.iconst 4, 1) := by decide +kernel
theorem dX0_addChild_80 : decode cX0_addChild 80 = .ok (.iaload, 1) := by decide +kernel
theorem dX0_addChild_81 : decode cX0_addChild 81 = .ok (.invokevirtual 21, 3) := by decide +kernel
theorem dX0_addChild_84 : decode cX0_addChild 84 = .ok (.aload_n 0, 1) := by decide +kernel
theorem dX0_addChild_85 : decode cX0_addChild 85 = .ok (.iload_n 2, 1) := by decide +kernel
theorem dX0_addChild_86 : decode cX0_addChild 86 = .ok (.iconst 5, 1) := by decide +kernel
theorem dX0_addChild_87 : decode cX0_addChild 87 = .ok (.aload_n 1, 1) := by decide +kernel
theorem dX0_addChild_88 : decode cX0_addChild 88 = .ok (.iconst 5, 1) := by decide +kernel
theorem dX0_addChild_89 : decode cX0_addChild 89 = .ok (.iaload, 1) := by decide +kernel
theorem dX0_addChild_90 : decode cX0_addChild 90 = .ok (.invokevirtual 21, 3) := by decide +kernel
theorem dX0_addChild_93 : decode cX0_addChild 93 = .ok (.aload_n 0, 1) := by decide +kernel
theorem dX0_addChild_94 : decode cX0_addChild 94 = .ok (.iload_n 2, 1) := by decide +kernel
theorem dX0_addChild_95 : decode cX0_addChild 95 = .ok (.bipush 6, 2) := by decide +kernel
theorem dX0_addChild_97 : decode cX0_addChild 97 = .ok (.iconst (-1), 1) := by decide +kernel
theorem dX0_addChild_98 : decode cX0_addChild 98 = .ok (.invokevirtual 21, 3) := by decide +kernel
theorem dX0_addChild_101 : decode cX0_addChild 101 = .ok (.aload_n 0, 1) := by decide +kernel
theorem dX0_addChild_102 : decode cX0_addChild 102 = .ok (.getfield 11, 3) := by decide +kernel
theorem dX0_addChild_105 : decode cX0_addChild 105 = .ok (.bipush 95, 2) := by decide +kernel
theorem dX0_addChild_107 : decode cX0_addChild 107 = .ok (.iload_n 2, 1) := by decide +kernel
theorem dX0_addChild_108 : decode cX0_addChild 108 = .ok (.iconst 1, 1) := by decide +kernel
theorem dX0_addChild_109 : decode cX0_addChild 109 = .ok (.iadd, 1) := by decide +kernel
theorem dX0_addChild_110 : decode cX0_addChild 110 = .ok (.iastore, 1) := by decide +kernel
theorem dX0_addChild_111 : decode cX0_addChild 111 = .ok (.return_, 1) := by decide +kernel
theorem dX0_addElder_0 : decode cX0_addElder 0 = .ok (.aload_n 0, 1) := by decide +kernel
theorem dX0_addElder_1 : decode cX0_addElder 1 = .ok (.getfield 11, 3) := by decide +kernel
theorem dX0_addElder_4 : decode cX0_addElder 4 = .ok (.bipush 96, 2) := by decide +kernel
theorem dX0_addElder_6 : decode cX0_addElder 6 = .ok (.iaload, 1) := by decide +kernel
theorem dX0_addElder_7 : decode cX0_addElder 7 = .ok (.istore 4, 2) := by decide +kernel
theorem dX0_addElder_9 : decode cX0_addElder 9 = .ok (.iload 4, 2) := by decide +kernel
theorem dX0_addElder_11 : decode cX0_addElder 11 = .ok (.iconst 4, 1) := by decide +kernel
theorem dX0_addElder_12 : decode cX0_addElder 12 = .ok (.if_icmp .lt 4, 3) := by decide +kernel
theorem dX0_addElder_15 : decode cX0_addElder 15 = .ok (.return_, 1) := by decide +kernel
theorem dX0_addElder_16 : decode cX0_addElder 16 = .ok (.aload_n 0, 1) := by decide +kernel
theorem dX0_addElder_17 : decode cX0_addElder 17 = .ok (.iload 4, 2) := by decide +kernel
theorem dX0_addElder_19 : decode cX0_addElder 19 = .ok (.iconst 0, 1) := by decide +kernel
theorem dX0_addElder_20 : decode cX0_addElder 20 = .ok (.iload_n 1, 1) := by decide +kernel
theorem dX0_addElder_21 : decode cX0_addElder 21 = .ok (.invokevirtual 29, 3) := by decide +kernel
theorem dX0_addElder_24 : decode cX0_addElder 24 = .ok (.aload_n 0, 1) := by decide +kernel
theorem dX0_addElder_25 : decode cX0_addElder 25 = .ok (.iload 4, 2) := by decide +kernel
theorem dX0_addElder_27 : decode cX0_addElder 27 = .ok (.iconst 1, 1) := by decide +kernel
theorem dX0_addElder_28 : decode cX0_addElder 28 = .ok (.iload_n 2, 1) := by decide +kernel
theorem dX0_addElder_29 : decode cX0_addElder 29 = .ok (.invokevirtual 29, 3) := by decide +kernel
theorem dX0_addElder_32 : decode cX0_addElder 32 = .ok (.aload_n 0, 1) := by decide +kernel
theorem dX0_addElder_33 : decode cX0_addElder 33 = .ok (.iload 4, 2) := by decide +kernel
theorem dX0_addElder_35 : decode cX0_addElder 35 = .ok (.iconst 2, 1) := by decide +kernel
theorem dX0_addElder_36 : decode cX0_addElder 36 = .ok (.iload_n 3, 1) := by decide +kernel
theorem dX0_addElder_37 : decode cX0_addElder 37 = .ok (.invokestatic 25, 3) := by decide +kernel
theorem dX0_addElder_40 : decode cX0_addElder 40 = .ok (.invokevirtual 29, 3) := by decide +kernel
theorem dX0_addElder_43 : decode cX0_addElder 43 = .ok (.aload_n 0, 1) := by decide +kernel
theorem dX0_addElder_44 : decode cX0_addElder 44 = .ok (.getfield 11, 3) := by decide +kernel
theorem dX0_addElder_47 : decode cX0_addElder 47 = .ok (.bipush 96, 2) := by decide +kernel
theorem dX0_addElder_49 : decode cX0_addElder 49 = .ok (.iload 4, 2) := by decide +kernel
theorem dX0_addElder_51 : decode cX0_addElder 51 = .ok (.iconst 1, 1) := by decide +kernel
theorem dX0_addElder_52 : decode cX0_addElder 52 = .ok (.iadd, 1) := by decide +kernel
theorem dX0_addElder_53 : decode cX0_addElder 53 = .ok (.iastore, 1) := by decide +kernel
theorem dX0_addElder_54 : decode cX0_addElder 54 = .ok (.return_, 1) := by decide +kernel
theorem dX0_fromBelow_0 : decode cX0_fromBelow 0 = .ok (.iconst 1, 1) := by decide +kernel
theorem dX0_fromBelow_1 : decode cX0_fromBelow 1 = .ok (.iload_n 0, 1) := by decide +kernel
theorem dX0_fromBelow_2 : decode cX0_fromBelow 2 = .ok (.ishl, 1) := by decide +kernel
theorem dX0_fromBelow_3 : decode cX0_fromBelow 3 = .ok (.iconst 1, 1) := by decide +kernel
theorem dX0_fromBelow_4 : decode cX0_fromBelow 4 = .ok (.isub, 1) := by decide +kernel
theorem dX0_fromBelow_5 : decode cX0_fromBelow 5 = .ok (.ireturn, 1) := by decide +kernel
theorem dX0_isTold_0 : decode cX0_isTold 0 = .ok (.aload_n 0, 1) := by decide +kernel
theorem dX0_isTold_1 : decode cX0_isTold 1 = .ok (.getfield 11, 3) := by decide +kernel
theorem dX0_isTold_4 : decode cX0_isTold 4 = .ok (.bipush 95, 2) := by decide +kernel
theorem dX0_isTold_6 : decode cX0_isTold 6 = .ok (.iaload, 1) := by decide +kernel
theorem dX0_isTold_7 : decode cX0_isTold 7 = .ok (.ifCond .le 7, 3) := by decide +kernel
theorem dX0_isTold_10 : decode cX0_isTold 10 = .ok (.iconst 1, 1) := by decide +kernel
theorem dX0_isTold_11 : decode cX0_isTold 11 = .ok (.goto 4, 3) := by decide +kernel
theorem dX0_isTold_14 : decode cX0_isTold 14 = .ok (.iconst 0, 1) := by decide +kernel
theorem dX0_isTold_15 : decode cX0_isTold 15 = .ok (.ireturn, 1) := by decide +kernel
theorem dX0_hasChild_0 : decode cX0_hasChild 0 = .ok (.iload_n 1, 1) := by decide +kernel
theorem dX0_hasChild_1 : decode cX0_hasChild 1 = .ok (.ifCond .lt 18, 3) := by decide +kernel
theorem dX0_hasChild_4 : decode cX0_hasChild 4 = .ok (.iload_n 1, 1) := by decide +kernel
theorem dX0_hasChild_5 : decode cX0_hasChild 5 = .ok (.aload_n 0, 1) := by decide +kernel
theorem dX0_hasChild_6 : decode cX0_hasChild 6 = .ok (.getfield 11, 3) := by decide +kernel
theorem dX0_hasChild_9 : decode cX0_hasChild 9 = .ok (.bipush 95, 2) := by decide +kernel
theorem dX0_hasChild_11 : decode cX0_hasChild 11 = .ok (.iaload, 1) := by decide +kernel
theorem dX0_hasChild_12 : decode cX0_hasChild 12 = .ok (.if_icmp .ge 7, 3) := by decide +kernel
theorem dX0_hasChild_15 : decode cX0_hasChild 15 = .ok (.iconst 1, 1) := by decide +kernel
theorem dX0_hasChild_16 : decode cX0_hasChild 16 = .ok (.goto 4, 3) := by decide +kernel
theorem dX0_hasChild_19 : decode cX0_hasChild 19 = .ok (.iconst 0, 1) := by decide +kernel
theorem dX0_hasChild_20 : decode cX0_hasChild 20 = .ok (.ireturn, 1) := by decide +kernel
theorem dX0_hasElder_0 : decode cX0_hasElder 0 = .ok (.iload_n 1, 1) := by decide +kernel
theorem dX0_hasElder_1 : decode cX0_hasElder 1 = .ok (.ifCond .lt 18, 3) := by decide +kernel
theorem dX0_hasElder_4 : decode cX0_hasElder 4 = .ok (.iload_n 1, 1) := by decide +kernel
theorem dX0_hasElder_5 : decode cX0_hasElder 5 = .ok (.aload_n 0, 1) := by decide +kernel
theorem dX0_hasElder_6 : decode cX0_hasElder 6 = .ok (.getfield 11, 3) := by decide +kernel
theorem dX0_hasElder_9 : decode cX0_hasElder 9 = .ok (.bipush 96, 2) := by decide +kernel
theorem dX0_hasElder_11 : decode cX0_hasElder 11 = .ok (.iaload, 1) := by decide +kernel
theorem dX0_hasElder_12 : decode cX0_hasElder 12 = .ok (.if_icmp .ge 7, 3) := by decide +kernel
theorem dX0_hasElder_15 : decode cX0_hasElder 15 = .ok (.iconst 1, 1) := by decide +kernel
theorem dX0_hasElder_16 : decode cX0_hasElder 16 = .ok (.goto 4, 3) := by decide +kernel
theorem dX0_hasElder_19 : decode cX0_hasElder 19 = .ok (.iconst 0, 1) := by decide +kernel
theorem dX0_hasElder_20 : decode cX0_hasElder 20 = .ok (.ireturn, 1) := by decide +kernel
theorem dX0_isNursery_0 : decode cX0_isNursery 0 = .ok (.iload_n 0, 1) := by decide +kernel
theorem dX0_isNursery_1 : decode cX0_isNursery 1 = .ok (.ifCond .lt 12, 3) := by decide +kernel
theorem dX0_isNursery_4 : decode cX0_isNursery 4 = .ok (.iload_n 0, 1) := by decide +kernel
theorem dX0_isNursery_5 : decode cX0_isNursery 5 = .ok (.iconst 4, 1) := by decide +kernel
theorem dX0_isNursery_6 : decode cX0_isNursery 6 = .ok (.if_icmp .gt 7, 3) := by decide +kernel
theorem dX0_isNursery_9 : decode cX0_isNursery 9 = .ok (.iconst 1, 1) := by decide +kernel
theorem dX0_isNursery_10 : decode cX0_isNursery 10 = .ok (.goto 4, 3) := by decide +kernel
theorem dX0_isNursery_13 : decode cX0_isNursery 13 = .ok (.iconst 0, 1) := by decide +kernel
theorem dX0_isNursery_14 : decode cX0_isNursery 14 = .ok (.ireturn, 1) := by decide +kernel
theorem dX0_isOfNursery_0 : decode cX0_isOfNursery 0 = .ok (.aload_n 0, 1) := by decide +kernel
theorem dX0_isOfNursery_1 : decode cX0_isOfNursery 1 = .ok (.iload_n 1, 1) := by decide +kernel
theorem dX0_isOfNursery_2 : decode cX0_isOfNursery 2 = .ok (.invokevirtual 32, 3) := by decide +kernel
theorem dX0_isOfNursery_5 : decode cX0_isOfNursery 5 = .ok (.ifCond .eq 17, 3) := by decide +kernel
theorem dX0_isOfNursery_8 : decode cX0_isOfNursery 8 = .ok (.aload_n 0, 1) := by decide +kernel
theorem dX0_isOfNursery_9 : decode cX0_isOfNursery 9 = .ok (.iload_n 1, 1) := by decide +kernel
theorem dX0_isOfNursery_10 : decode cX0_isOfNursery 10 = .ok (.iconst 3, 1) := by decide +kernel
theorem dX0_isOfNursery_11 : decode cX0_isOfNursery 11 = .ok (.invokevirtual 36, 3) := by decide +kernel
theorem dX0_isOfNursery_14 : decode cX0_isOfNursery 14 = .ok (.iload_n 2, 1) := by decide +kernel
theorem dX0_isOfNursery_15 : decode cX0_isOfNursery 15 = .ok (.if_icmp .ne 7, 3) := by decide +kernel
theorem dX0_isOfNursery_18 : decode cX0_isOfNursery 18 = .ok (.iconst 1, 1) := by decide +kernel
theorem dX0_isOfNursery_19 : decode cX0_isOfNursery 19 = .ok (.goto 4, 3) := by decide +kernel
theorem dX0_isOfNursery_22 : decode cX0_isOfNursery 22 = .ok (.iconst 0, 1) := by decide +kernel
theorem dX0_isOfNursery_23 : decode cX0_isOfNursery 23 = .ok (.ireturn, 1) := by decide +kernel
theorem dX0_isBelowGrowing_0 : decode cX0_isBelowGrowing 0 = .ok (.aload_n 0, 1) := by decide +kernel
theorem dX0_isBelowGrowing_1 : decode cX0_isBelowGrowing 1 = .ok (.iload_n 1, 1) := by decide +kernel
theorem dX0_isBelowGrowing_2 : decode cX0_isBelowGrowing 2 = .ok (.iconst 0, 1) := by decide +kernel
theorem dX0_isBelowGrowing_3 : decode cX0_isBelowGrowing 3 = .ok (.invokevirtual 36, 3) := by decide +kernel
theorem dX0_isBelowGrowing_6 : decode cX0_isBelowGrowing 6 = .ok (.aload_n 0, 1) := by decide +kernel
theorem dX0_isBelowGrowing_7 : decode cX0_isBelowGrowing 7 = .ok (.getfield 11, 3) := by decide +kernel
theorem dX0_isBelowGrowing_10 : decode cX0_isBelowGrowing 10 = .ok (.bipush 92, 2) := by decide +kernel
theorem dX0_isBelowGrowing_12 : decode cX0_isBelowGrowing 12 = .ok (.iaload, 1) := by decide +kernel
theorem dX0_isBelowGrowing_13 : decode cX0_isBelowGrowing 13 = .ok (.if_icmp .ge 7, 3) := by decide +kernel
theorem dX0_isBelowGrowing_16 : decode cX0_isBelowGrowing 16 = .ok (.iconst 1, 1) := by decide +kernel
theorem dX0_isBelowGrowing_17 : decode cX0_isBelowGrowing 17 = .ok (.goto 4, 3) := by decide +kernel
theorem dX0_isBelowGrowing_20 : decode cX0_isBelowGrowing 20 = .ok (.iconst 0, 1) := by decide +kernel
theorem dX0_isBelowGrowing_21 : decode cX0_isBelowGrowing 21 = .ok (.ireturn, 1) := by decide +kernel
theorem dX0_isYounger_0 : decode cX0_isYounger 0 = .ok (.aload_n 0, 1) := by decide +kernel
theorem dX0_isYounger_1 : decode cX0_isYounger 1 = .ok (.iload_n 1, 1) := by decide +kernel
theorem dX0_isYounger_2 : decode cX0_isYounger 2 = .ok (.iconst 0, 1) := by decide +kernel
theorem dX0_isYounger_3 : decode cX0_isYounger 3 = .ok (.invokevirtual 36, 3) := by decide +kernel
theorem dX0_isYounger_6 : decode cX0_isYounger 6 = .ok (.aload_n 0, 1) := by decide +kernel
theorem dX0_isYounger_7 : decode cX0_isYounger 7 = .ok (.iload_n 2, 1) := by decide +kernel
theorem dX0_isYounger_8 : decode cX0_isYounger 8 = .ok (.iconst 0, 1) := by decide +kernel
theorem dX0_isYounger_9 : decode cX0_isYounger 9 = .ok (.invokevirtual 36, 3) := by decide +kernel
theorem dX0_isYounger_12 : decode cX0_isYounger 12 = .ok (.if_icmp .ge 7, 3) := by decide +kernel
theorem dX0_isYounger_15 : decode cX0_isYounger 15 = .ok (.iconst 1, 1) := by decide +kernel
theorem dX0_isYounger_16 : decode cX0_isYounger 16 = .ok (.goto 4, 3) := by decide +kernel
theorem dX0_isYounger_19 : decode cX0_isYounger 19 = .ok (.iconst 0, 1) := by decide +kernel
theorem dX0_isYounger_20 : decode cX0_isYounger 20 = .ok (.ireturn, 1) := by decide +kernel
theorem dX0_goesFirst_0 : decode cX0_goesFirst 0 = .ok (.aload_n 0, 1) := by decide +kernel
theorem dX0_goesFirst_1 : decode cX0_goesFirst 1 = .ok (.iload_n 1, 1) := by decide +kernel
theorem dX0_goesFirst_2 : decode cX0_goesFirst 2 = .ok (.iload_n 2, 1) := by decide +kernel
theorem dX0_goesFirst_3 : decode cX0_goesFirst 3 = .ok (.invokevirtual 40, 3) := by decide +kernel
theorem dX0_goesFirst_6 : decode cX0_goesFirst 6 = .ok (.ifCond .ne 23, 3) := by decide +kernel
theorem dX0_goesFirst_9 : decode cX0_goesFirst 9 = .ok (.aload_n 0, 1) := by decide +kernel
theorem dX0_goesFirst_10 : decode cX0_goesFirst 10 = .ok (.iload_n 1, 1) := by decide +kernel
theorem dX0_goesFirst_11 : decode cX0_goesFirst 11 = .ok (.iconst 0, 1) := by decide +kernel
theorem dX0_goesFirst_12 : decode cX0_goesFirst 12 = .ok (.invokevirtual 36, 3) := by decide +kernel
theorem dX0_goesFirst_15 : decode cX0_goesFirst 15 = .ok (.aload_n 0, 1) := by decide +kernel
theorem dX0_goesFirst_16 : decode cX0_goesFirst 16 = .ok (.iload_n 2, 1) := by decide +kernel
theorem dX0_goesFirst_17 : decode cX0_goesFirst 17 = .ok (.iconst 0, 1) := by decide +kernel
theorem dX0_goesFirst_18 : decode cX0_goesFirst 18 = .ok (.invokevirtual 36, 3) := by decide +kernel
theorem dX0_goesFirst_21 : decode cX0_goesFirst 21 = .ok (.if_icmp .ne 12, 3) := by decide +kernel
theorem dX0_goesFirst_24 : decode cX0_goesFirst 24 = .ok (.iload_n 1, 1) := by decide +kernel
theorem dX0_goesFirst_25 : decode cX0_goesFirst 25 = .ok (.iload_n 2, 1) := by decide +kernel
theorem dX0_goesFirst_26 : decode cX0_goesFirst 26 = .ok (.if_icmp .ge 7, 3) := by decide +kernel
theorem dX0_goesFirst_29 : decode cX0_goesFirst 29 = .ok (.iconst 1, 1) := by decide +kernel
theorem dX0_goesFirst_30 : decode cX0_goesFirst 30 = .ok (.goto 4, 3) := by decide +kernel
theorem dX0_goesFirst_33 : decode cX0_goesFirst 33 = .ok (.iconst 0, 1) := by decide +kernel
theorem dX0_goesFirst_34 : decode cX0_goesFirst 34 = .ok (.ireturn, 1) := by decide +kernel
theorem dX0_bit_0 : decode cX0_bit 0 = .ok (.aload_n 0, 1) := by decide +kernel
theorem dX0_bit_1 : decode cX0_bit 1 = .ok (.iload_n 1, 1) := by decide +kernel
theorem dX0_bit_2 : decode cX0_bit 2 = .ok (.iload_n 2, 1) := by decide +kernel
theorem dX0_bit_3 : decode cX0_bit 3 = .ok (.invokevirtual 36, 3) := by decide +kernel
theorem dX0_bit_6 : decode cX0_bit 6 = .ok (.iload_n 3, 1) := by decide +kernel
theorem dX0_bit_7 : decode cX0_bit 7 = .ok (.ishr, 1) := by decide +kernel
theorem dX0_bit_8 : decode cX0_bit 8 = .ok (.iconst 1, 1) := by decide +kernel
theorem dX0_bit_9 : decode cX0_bit 9 = .ok (.iand, 1) := by decide +kernel
theorem dX0_bit_10 : decode cX0_bit 10 = .ok (.ifCond .eq 7, 3) := by decide +kernel
theorem dX0_bit_13 : decode cX0_bit 13 = .ok (.iconst 1, 1) := by decide +kernel
theorem dX0_bit_14 : decode cX0_bit 14 = .ok (.goto 4, 3) := by decide +kernel
theorem dX0_bit_17 : decode cX0_bit 17 = .ok (.iconst 0, 1) := by decide +kernel
theorem dX0_bit_18 : decode cX0_bit 18 = .ok (.ireturn, 1) := by decide +kernel
theorem dX0_setBit_0 : decode cX0_setBit 0 = .ok (.aload_n 0, 1) := by decide +kernel
theorem dX0_setBit_1 : decode cX0_setBit 1 = .ok (.iload_n 1, 1) := by decide +kernel
theorem dX0_setBit_2 : decode cX0_setBit 2 = .ok (.iload_n 2, 1) := by decide +kernel
theorem dX0_setBit_3 : decode cX0_setBit 3 = .ok (.invokevirtual 36, 3) := by decide +kernel
theorem dX0_setBit_6 : decode cX0_setBit 6 = .ok (.iconst 1, 1) := by decide +kernel
theorem dX0_setBit_7 : decode cX0_setBit 7 = .ok (.iload_n 3, 1) := by decide +kernel
theorem dX0_setBit_8 : decode cX0_setBit 8 = .ok (.ishl, 1) := by decide +kernel
theorem dX0_setBit_9 : decode cX0_setBit 9 = .ok (.iconst (-1), 1) := by decide +kernel
theorem dX0_setBit_10 : decode cX0_setBit 10 = .ok (.ixor, 1) := by decide +kernel
theorem dX0_setBit_11 : decode cX0_setBit 11 = .ok (.iand, 1) := by decide +kernel
theorem dX0_setBit_12 : decode cX0_setBit 12 = .ok (.istore 5, 2) := by decide +kernel
theorem dX0_setBit_14 : decode cX0_setBit 14 = .ok (.aload_n 0, 1) := by decide +kernel
theorem dX0_setBit_15 : decode cX0_setBit 15 = .ok (.iload_n 1, 1) := by decide +kernel
theorem dX0_setBit_16 : decode cX0_setBit 16 = .ok (.iload_n 2, 1) := by decide +kernel
theorem dX0_setBit_17 : decode cX0_setBit 17 = .ok (.iload 4, 2) := by decide +kernel
theorem dX0_setBit_19 : decode cX0_setBit 19 = .ok (.ifCond .eq 12, 3) := by decide +kernel
theorem dX0_setBit_22 : decode cX0_setBit 22 = .ok (.iload 5, 2) := by decide +kernel
theorem dX0_setBit_24 : decode cX0_setBit 24 = .ok (.iconst 1, 1) := by decide +kernel
theorem dX0_setBit_25 : decode cX0_setBit 25 = .ok (.iload_n 3, 1) := by decide +kernel
theorem dX0_setBit_26 : decode cX0_setBit 26 = .ok (.ishl, 1) := by decide +kernel
theorem dX0_setBit_27 : decode cX0_setBit 27 = .ok (.ior, 1) := by decide +kernel
theorem dX0_setBit_28 : decode cX0_setBit 28 = .ok (.goto 5, 3) := by decide +kernel
theorem dX0_setBit_31 : decode cX0_setBit 31 = .ok (.iload 5, 2) := by decide +kernel
theorem dX0_setBit_33 : decode cX0_setBit 33 = .ok (.invokevirtual 21, 3) := by decide +kernel
theorem dX0_setBit_36 : decode cX0_setBit 36 = .ok (.return_, 1) := by decide +kernel
theorem dX0_rightOf_0 : decode cX0_rightOf 0 = .ok (.aload_n 0, 1) := by decide +kernel
theorem dX0_rightOf_1 : decode cX0_rightOf 1 = .ok (.iload_n 1, 1) := by decide +kernel
theorem dX0_rightOf_2 : decode cX0_rightOf 2 = .ok (.iconst 1, 1) := by decide +kernel
theorem dX0_rightOf_3 : decode cX0_rightOf 3 = .ok (.invokevirtual 36, 3) := by decide +kernel
theorem dX0_rightOf_6 : decode cX0_rightOf 6 = .ok (.aload_n 0, 1) := by decide +kernel
theorem dX0_rightOf_7 : decode cX0_rightOf 7 = .ok (.iload_n 1, 1) := by decide +kernel
theorem dX0_rightOf_8 : decode cX0_rightOf 8 = .ok (.iconst 2, 1) := by decide +kernel
theorem dX0_rightOf_9 : decode cX0_rightOf 9 = .ok (.invokevirtual 36, 3) := by decide +kernel
theorem dX0_rightOf_12 : decode cX0_rightOf 12 = .ok (.iconst (-1), 1) := by decide +kernel
theorem dX0_rightOf_13 : decode cX0_rightOf 13 = .ok (.ixor, 1) := by decide +kernel
theorem dX0_rightOf_14 : decode cX0_rightOf 14 = .ok (.iand, 1) := by decide +kernel
theorem dX0_rightOf_15 : decode cX0_rightOf 15 = .ok (.ireturn, 1) := by decide +kernel
theorem dX0_isRight_0 : decode cX0_isRight 0 = .ok (.aload_n 0, 1) := by decide +kernel
theorem dX0_isRight_1 : decode cX0_isRight 1 = .ok (.iload_n 1, 1) := by decide +kernel
theorem dX0_isRight_2 : decode cX0_isRight 2 = .ok (.invokevirtual 44, 3) := by decide +kernel
theorem dX0_isRight_5 : decode cX0_isRight 5 = .ok (.iload_n 2, 1) := by decide +kernel
theorem dX0_isRight_6 : decode cX0_isRight 6 = .ok (.ishr, 1) := by decide +kernel
theorem dX0_isRight_7 : decode cX0_isRight 7 = .ok (.iconst 1, 1) := by decide +kernel
theorem dX0_isRight_8 : decode cX0_isRight 8 = .ok (.iand, 1) := by decide +kernel
theorem dX0_isRight_9 : decode cX0_isRight 9 = .ok (.ifCond .eq 7, 3) := by decide +kernel
theorem dX0_isRight_12 : decode cX0_isRight 12 = .ok (.iconst 1, 1) := by decide +kernel
theorem dX0_isRight_13 : decode cX0_isRight 13 = .ok (.goto 4, 3) := by decide +kernel
theorem dX0_isRight_16 : decode cX0_isRight 16 = .ok (.iconst 0, 1) := by decide +kernel
theorem dX0_isRight_17 : decode cX0_isRight 17 = .ok (.ireturn, 1) := by decide +kernel
theorem dX0_makeRight_0 : decode cX0_makeRight 0 = .ok (.aload_n 0, 1) := by decide +kernel
theorem dX0_makeRight_1 : decode cX0_makeRight 1 = .ok (.iload_n 1, 1) := by decide +kernel
theorem dX0_makeRight_2 : decode cX0_makeRight 2 = .ok (.iconst 1, 1) := by decide +kernel
theorem dX0_makeRight_3 : decode cX0_makeRight 3 = .ok (.aload_n 0, 1) := by decide +kernel
theorem dX0_makeRight_4 : decode cX0_makeRight 4 = .ok (.iload_n 1, 1) := by decide +kernel
theorem dX0_makeRight_5 : decode cX0_makeRight 5 = .ok (.iconst 1, 1) := by decide +kernel
theorem dX0_makeRight_6 : decode cX0_makeRight 6 = .ok (.invokevirtual 36, 3) := by decide +kernel
theorem dX0_makeRight_9 : decode cX0_makeRight 9 = .ok (.iconst 1, 1) := by decide +kernel
theorem dX0_makeRight_10 : decode cX0_makeRight 10 = .ok (.iload_n 2, 1) := by decide +kernel
theorem dX0_makeRight_11 : decode cX0_makeRight 11 = .ok (.ishl, 1) := by decide +kernel
theorem dX0_makeRight_12 : decode cX0_makeRight 12 = .ok (.ior, 1) := by decide +kernel
theorem dX0_makeRight_13 : decode cX0_makeRight 13 = .ok (.invokevirtual 21, 3) := by decide +kernel
theorem dX0_makeRight_16 : decode cX0_makeRight 16 = .ok (.aload_n 0, 1) := by decide +kernel
theorem dX0_makeRight_17 : decode cX0_makeRight 17 = .ok (.iload_n 1, 1) := by decide +kernel
theorem dX0_makeRight_18 : decode cX0_makeRight 18 = .ok (.iconst 2, 1) := by decide +kernel
theorem dX0_makeRight_19 : decode cX0_makeRight 19 = .ok (.aload_n 0, 1) := by decide +kernel
theorem dX0_makeRight_20 : decode cX0_makeRight 20 = .ok (.iload_n 1, 1) := by decide +kernel
theorem dX0_makeRight_21 : decode cX0_makeRight 21 = .ok (.iconst 2, 1) := by decide +kernel
theorem dX0_makeRight_22 : decode cX0_makeRight 22 = .ok (.invokevirtual 36, 3) := by decide +kernel
theorem dX0_makeRight_25 : decode cX0_makeRight 25 = .ok (.iconst 1, 1) := by decide +kernel
theorem dX0_makeRight_26 : decode cX0_makeRight 26 = .ok (.iload_n 2, 1) := by decide +kernel
theorem dX0_makeRight_27 : decode cX0_makeRight 27 = .ok (.ishl, 1) := by decide +kernel
theorem dX0_makeRight_28 : decode cX0_makeRight 28 = .ok (.iconst (-1), 1) := by decide +kernel
theorem dX0_makeRight_29 : decode cX0_makeRight 29 = .ok (.ixor, 1) := by decide +kernel
theorem dX0_makeRight_30 : decode cX0_makeRight 30 = .ok (.iand, 1) := by decide +kernel
theorem dX0_makeRight_31 : decode cX0_makeRight 31 = .ok (.invokevirtual 21, 3) := by decide +kernel
theorem dX0_makeRight_34 : decode cX0_makeRight 34 = .ok (.return_, 1) := by decide +kernel
theorem dX0_lowestTen_0 : decode cX0_lowestTen 0 = .ok (.iconst 0, 1) := by decide +kernel
theorem dX0_lowestTen_1 : decode cX0_lowestTen 1 = .ok (.istore_n 1, 1) := by decide +kernel
theorem dX0_lowestTen_2 : decode cX0_lowestTen 2 = .ok (.iload_n 1, 1) := by decide +kernel
theorem dX0_lowestTen_3 : decode cX0_lowestTen 3 = .ok (.bipush 9, 2) := by decide +kernel
theorem dX0_lowestTen_5 : decode cX0_lowestTen 5 = .ok (.if_icmp .ge 19, 3) := by decide +kernel
theorem dX0_lowestTen_8 : decode cX0_lowestTen 8 = .ok (.iload_n 0, 1) := by decide +kernel
theorem dX0_lowestTen_9 : decode cX0_lowestTen 9 = .ok (.iload_n 1, 1) := by decide +kernel
theorem dX0_lowestTen_10 : decode cX0_lowestTen 10 = .ok (.ishr, 1) := by decide +kernel
theorem dX0_lowestTen_11 : decode cX0_lowestTen 11 = .ok (.iconst 1, 1) := by decide +kernel
theorem dX0_lowestTen_12 : decode cX0_lowestTen 12 = .ok (.iand, 1) := by decide +kernel
theorem dX0_lowestTen_13 : decode cX0_lowestTen 13 = .ok (.ifCond .eq 5, 3) := by decide +kernel
theorem dX0_lowestTen_16 : decode cX0_lowestTen 16 = .ok (.iload_n 1, 1) := by decide +kernel
theorem dX0_lowestTen_17 : decode cX0_lowestTen 17 = .ok (.ireturn, 1) := by decide +kernel
theorem dX0_lowestTen_18 : decode cX0_lowestTen 18 = .ok (.iinc 1 1, 3) := by decide +kernel
theorem dX0_lowestTen_21 : decode cX0_lowestTen 21 = .ok (.goto (-19), 3) := by decide +kernel
theorem dX0_lowestTen_24 : decode cX0_lowestTen 24 = .ok (.iconst (-1), 1) := by decide +kernel
theorem dX0_lowestTen_25 : decode cX0_lowestTen 25 = .ok (.ireturn, 1) := by decide +kernel
theorem dX0_lowestNotRight_0 : decode cX0_lowestNotRight 0 = .ok (.aload_n 0, 1) := by decide +kernel
theorem dX0_lowestNotRight_1 : decode cX0_lowestNotRight 1 = .ok (.iload_n 1, 1) := by decide +kernel
theorem dX0_lowestNotRight_2 : decode cX0_lowestNotRight 2 = .ok (.invokevirtual 44, 3) := by decide +kernel
theorem dX0_lowestNotRight_5 : decode cX0_lowestNotRight 5 = .ok (.iconst (-1), 1) := by decide +kernel
theorem dX0_lowestNotRight_6 : decode cX0_lowestNotRight 6 = .ok (.ixor, 1) := by decide +kernel
theorem dX0_lowestNotRight_7 : decode cX0_lowestNotRight 7 = .ok (.invokestatic 47, 3) := by decide +kernel
theorem dX0_lowestNotRight_10 : decode cX0_lowestNotRight 10 = .ok (.ireturn, 1) := by decide +kernel
theorem dX0_countOf_0 : decode cX0_countOf 0 = .ok (.aload_n 0, 1) := by decide +kernel
theorem dX0_countOf_1 : decode cX0_countOf 1 = .ok (.iload_n 1, 1) := by decide +kernel
theorem dX0_countOf_2 : decode cX0_countOf 2 = .ok (.invokevirtual 50, 3) := by decide +kernel
theorem dX0_countOf_5 : decode cX0_countOf 5 = .ok (.istore_n 2, 1) := by decide +kernel
theorem dX0_countOf_6 : decode cX0_countOf 6 = .ok (.bipush 10, 2) := by decide +kernel
theorem dX0_countOf_8 : decode cX0_countOf 8 = .ok (.iload_n 2, 1) := by decide +kernel
theorem dX0_countOf_9 : decode cX0_countOf 9 = .ok (.iconst (-1), 1) := by decide +kernel
theorem dX0_countOf_10 : decode cX0_countOf 10 = .ok (.if_icmp .ne 8, 3) := by decide +kernel
theorem dX0_countOf_13 : decode cX0_countOf 13 = .ok (.bipush 9, 2) := by decide +kernel
theorem dX0_countOf_15 : decode cX0_countOf 15 = .ok (.goto 4, 3) := by decide +kernel
theorem dX0_countOf_18 : decode cX0_countOf 18 = .ok (.iload_n 2, 1) := by decide +kernel
theorem dX0_countOf_19 : decode cX0_countOf 19 = .ok (.imul, 1) := by decide +kernel
theorem dX0_countOf_20 : decode cX0_countOf 20 = .ok (.ireturn, 1) := by decide +kernel
theorem dX0_beginLesson_0 : decode cX0_beginLesson 0 = .ok (.aload_n 0, 1) := by decide +kernel
theorem dX0_beginLesson_1 : decode cX0_beginLesson 1 = .ok (.iload_n 1, 1) := by decide +kernel
theorem dX0_beginLesson_2 : decode cX0_beginLesson 2 = .ok (.bipush 6, 2) := by decide +kernel
theorem dX0_beginLesson_4 : decode cX0_beginLesson 4 = .ok (.iload_n 2, 1) := by decide +kernel
theorem dX0_beginLesson_5 : decode cX0_beginLesson 5 = .ok (.invokevirtual 21, 3) := by decide +kernel
theorem dX0_beginLesson_8 : decode cX0_beginLesson 8 = .ok (.aload_n 0, 1) := by decide +kernel
theorem dX0_beginLesson_9 : decode cX0_beginLesson 9 = .ok (.iload_n 1, 1) := by decide +kernel
theorem dX0_beginLesson_10 : decode cX0_beginLesson 10 = .ok (.bipush 7, 2) := by decide +kernel
theorem dX0_beginLesson_12 : decode cX0_beginLesson 12 = .ok (.aload_n 0, 1) := by decide +kernel
theorem dX0_beginLesson_13 : decode cX0_beginLesson 13 = .ok (.iload_n 1, 1) := by decide +kernel
theorem dX0_beginLesson_14 : decode cX0_beginLesson 14 = .ok (.iconst 4, 1) := by decide +kernel
theorem dX0_beginLesson_15 : decode cX0_beginLesson 15 = .ok (.invokevirtual 36, 3) := by decide +kernel
theorem dX0_beginLesson_18 : decode cX0_beginLesson 18 = .ok (.invokevirtual 21, 3) := by decide +kernel
theorem dX0_beginLesson_21 : decode cX0_beginLesson 21 = .ok (.return_, 1) := by decide +kernel
theorem dX0_endLesson_0 : decode cX0_endLesson 0 = .ok (.aload_n 0, 1) := by decide +kernel
theorem dX0_endLesson_1 : decode cX0_endLesson 1 = .ok (.iload_n 1, 1) := by decide +kernel
theorem dX0_endLesson_2 : decode cX0_endLesson 2 = .ok (.bipush 6, 2) := by decide +kernel
theorem dX0_endLesson_4 : decode cX0_endLesson 4 = .ok (.iconst (-1), 1) := by decide +kernel
theorem dX0_endLesson_5 : decode cX0_endLesson 5 = .ok (.invokevirtual 21, 3) := by decide +kernel
theorem dX0_endLesson_8 : decode cX0_endLesson 8 = .ok (.aload_n 0, 1) := by decide +kernel
theorem dX0_endLesson_9 : decode cX0_endLesson 9 = .ok (.iload_n 1, 1) := by decide +kernel
theorem dX0_endLesson_10 : decode cX0_endLesson 10 = .ok (.bipush 7, 2) := by decide +kernel
theorem dX0_endLesson_12 : decode cX0_endLesson 12 = .ok (.iconst 0, 1) := by decide +kernel
theorem dX0_endLesson_13 : decode cX0_endLesson 13 = .ok (.invokevirtual 21, 3) := by decide +kernel
theorem dX0_endLesson_16 : decode cX0_endLesson 16 = .ok (.return_, 1) := by decide +kernel
theorem dX0_setKept_0 : decode cX0_setKept 0 = .ok (.aload_n 0, 1) := by decide +kernel
theorem dX0_setKept_1 : decode cX0_setKept 1 = .ok (.iload_n 1, 1) := by decide +kernel
theorem dX0_setKept_2 : decode cX0_setKept 2 = .ok (.bipush 8, 2) := by decide +kernel
theorem dX0_setKept_4 : decode cX0_setKept 4 = .ok (.iload_n 2, 1) := by decide +kernel
theorem dX0_setKept_5 : decode cX0_setKept 5 = .ok (.iload_n 3, 1) := by decide +kernel
theorem dX0_setKept_6 : decode cX0_setKept 6 = .ok (.invokevirtual 53, 3) := by decide +kernel
theorem dX0_setKept_9 : decode cX0_setKept 9 = .ok (.iload_n 3, 1) := by decide +kernel
theorem dX0_setKept_10 : decode cX0_setKept 10 = .ok (.ifCond .eq 19, 3) := by decide +kernel
theorem dX0_setKept_13 : decode cX0_setKept 13 = .ok (.aload_n 0, 1) := by decide +kernel
theorem dX0_setKept_14 : decode cX0_setKept 14 = .ok (.iload_n 1, 1) := by decide +kernel
theorem dX0_setKept_15 : decode cX0_setKept 15 = .ok (.bipush 6, 2) := by decide +kernel
theorem dX0_setKept_17 : decode cX0_setKept 17 = .ok (.invokevirtual 36, 3) := by decide +kernel
theorem dX0_setKept_20 : decode cX0_setKept 20 = .ok (.iload_n 2, 1) := by decide +kernel
theorem dX0_setKept_21 : decode cX0_setKept 21 = .ok (.if_icmp .ne 8, 3) := by decide +kernel
theorem dX0_setKept_24 : decode cX0_setKept 24 = .ok (.aload_n 0, 1) := by decide +kernel
theorem dX0_setKept_25 : decode cX0_setKept 25 = .ok (.iload_n 1, 1) := by decide +kernel
theorem dX0_setKept_26 : decode cX0_setKept 26 = .ok (.invokevirtual 57, 3) := by decide +kernel
theorem dX0_setKept_29 : decode cX0_setKept 29 = .ok (.return_, 1) := by decide +kernel
theorem dX0_triedTens_0 : decode cX0_triedTens 0 = .ok (.iconst 1, 1) := by decide +kernel
theorem dX0_triedTens_1 : decode cX0_triedTens 1 = .ok (.aload_n 0, 1) := by decide +kernel
theorem dX0_triedTens_2 : decode cX0_triedTens 2 = .ok (.getfield 11, 3) := by decide +kernel
theorem dX0_triedTens_5 : decode cX0_triedTens 5 = .ok (.bipush 93, 2) := by decide +kernel
theorem dX0_triedTens_7 : decode cX0_triedTens 7 = .ok (.iaload, 1) := by decide +kernel
theorem dX0_triedTens_8 : decode cX0_triedTens 8 = .ok (.ishl, 1) := by decide +kernel
theorem dX0_triedTens_9 : decode cX0_triedTens 9 = .ok (.iconst 1, 1) := by decide +kernel
theorem dX0_triedTens_10 : decode cX0_triedTens 10 = .ok (.isub, 1) := by decide +kernel
theorem dX0_triedTens_11 : decode cX0_triedTens 11 = .ok (.ireturn, 1) := by decide +kernel
theorem dX0_askedBy_0 : decode cX0_askedBy 0 = .ok (.aload_n 0, 1) := by decide +kernel
theorem dX0_askedBy_1 : decode cX0_askedBy 1 = .ok (.iload_n 1, 1) := by decide +kernel
theorem dX0_askedBy_2 : decode cX0_askedBy 2 = .ok (.iconst 2, 1) := by decide +kernel
theorem dX0_askedBy_3 : decode cX0_askedBy 3 = .ok (.invokevirtual 61, 3) := by decide +kernel
theorem dX0_askedBy_6 : decode cX0_askedBy 6 = .ok (.aload_n 0, 1) := by decide +kernel
theorem dX0_askedBy_7 : decode cX0_askedBy 7 = .ok (.invokevirtual 64, 3) := by decide +kernel
theorem dX0_askedBy_10 : decode cX0_askedBy 10 = .ok (.iand, 1) := by decide +kernel
theorem dX0_askedBy_11 : decode cX0_askedBy 11 = .ok (.ireturn, 1) := by decide +kernel
theorem dX0_byStep_0 : decode cX0_byStep 0 = .ok (.iload_n 1, 1) := by decide +kernel
theorem dX0_byStep_1 : decode cX0_byStep 1 = .ok (.iconst 2, 1) := by decide +kernel
theorem dX0_byStep_2 : decode cX0_byStep 2 = .ok (.if_icmp .ne 9, 3) := by decide +kernel
theorem dX0_byStep_5 : decode cX0_byStep 5 = .ok (.iload_n 0, 1) := by decide +kernel
theorem dX0_byStep_6 : decode cX0_byStep 6 = .ok (.sipush 341, 3) := by decide +kernel
theorem dX0_byStep_9 : decode cX0_byStep 9 = .ok (.iand, 1) := by decide +kernel
theorem dX0_byStep_10 : decode cX0_byStep 10 = .ok (.ireturn, 1) := by decide +kernel
theorem dX0_byStep_11 : decode cX0_byStep 11 = .ok (.iload_n 1, 1) := by decide +kernel
theorem dX0_byStep_12 : decode cX0_byStep 12 = .ok (.iconst 3, 1) := by decide +kernel
theorem dX0_byStep_13 : decode cX0_byStep 13 = .ok (.if_icmp .ne 10, 3) := by decide +kernel
theorem dX0_byStep_16 : decode cX0_byStep 16 = .ok (.iload_n 0, 1) := by decide +kernel
theorem dX0_byStep_17 : decode cX0_byStep 17 = .ok (.bipush 73, 2) := by decide +kernel
theorem dX0_byStep_19 : decode cX0_byStep 19 = .ok (.iand, 1) := by decide +kernel
theorem dX0_byStep_20 : decode cX0_byStep 20 = .ok (.goto 4, 3) := by decide +kernel
theorem dX0_byStep_23 : decode cX0_byStep 23 = .ok (.iload_n 0, 1) := by decide +kernel
theorem dX0_byStep_24 : decode cX0_byStep 24 = .ok (.ireturn, 1) := by decide +kernel
theorem dX0_askedOf_0 : decode cX0_askedOf 0 = .ok (.iload_n 2, 1) := by decide +kernel
theorem dX0_askedOf_1 : decode cX0_askedOf 1 = .ok (.aload_n 0, 1) := by decide +kernel
theorem dX0_askedOf_2 : decode cX0_askedOf 2 = .ok (.iload_n 1, 1) := by decide +kernel
theorem dX0_askedOf_3 : decode cX0_askedOf 3 = .ok (.iconst 5, 1) := by decide +kernel
theorem dX0_askedOf_4 : decode cX0_askedOf 4 = .ok (.invokevirtual 36, 3) := by decide +kernel
theorem dX0_askedOf_7 : decode cX0_askedOf 7 = .ok (.invokestatic 68, 3) := by decide +kernel
theorem dX0_askedOf_10 : decode cX0_askedOf 10 = .ok (.ireturn, 1) := by decide +kernel
theorem dX0_lacks_0 : decode cX0_lacks 0 = .ok (.iload_n 2, 1) := by decide +kernel
theorem dX0_lacks_1 : decode cX0_lacks 1 = .ok (.aload_n 0, 1) := by decide +kernel
theorem dX0_lacks_2 : decode cX0_lacks 2 = .ok (.iload_n 1, 1) := by decide +kernel
theorem dX0_lacks_3 : decode cX0_lacks 3 = .ok (.iconst 5, 1) := by decide +kernel
theorem dX0_lacks_4 : decode cX0_lacks 4 = .ok (.invokevirtual 36, 3) := by decide +kernel
theorem dX0_lacks_7 : decode cX0_lacks 7 = .ok (.invokestatic 68, 3) := by decide +kernel
theorem dX0_lacks_10 : decode cX0_lacks 10 = .ok (.aload_n 0, 1) := by decide +kernel
theorem dX0_lacks_11 : decode cX0_lacks 11 = .ok (.iload_n 1, 1) := by decide +kernel
theorem dX0_lacks_12 : decode cX0_lacks 12 = .ok (.iconst 1, 1) := by decide +kernel
theorem dX0_lacks_13 : decode cX0_lacks 13 = .ok (.invokevirtual 36, 3) := by decide +kernel
theorem dX0_lacks_16 : decode cX0_lacks 16 = .ok (.iconst (-1), 1) := by decide +kernel
theorem dX0_lacks_17 : decode cX0_lacks 17 = .ok (.ixor, 1) := by decide +kernel
theorem dX0_lacks_18 : decode cX0_lacks 18 = .ok (.aload_n 0, 1) := by decide +kernel
theorem dX0_lacks_19 : decode cX0_lacks 19 = .ok (.iload_n 1, 1) := by decide +kernel
theorem dX0_lacks_20 : decode cX0_lacks 20 = .ok (.iconst 2, 1) := by decide +kernel
theorem dX0_lacks_21 : decode cX0_lacks 21 = .ok (.invokevirtual 36, 3) := by decide +kernel
theorem dX0_lacks_24 : decode cX0_lacks 24 = .ok (.ior, 1) := by decide +kernel
theorem dX0_lacks_25 : decode cX0_lacks 25 = .ok (.iand, 1) := by decide +kernel
theorem dX0_lacks_26 : decode cX0_lacks 26 = .ok (.ireturn, 1) := by decide +kernel
theorem dX0_wants_0 : decode cX0_wants 0 = .ok (.aload_n 0, 1) := by decide +kernel
theorem dX0_wants_1 : decode cX0_wants 1 = .ok (.iload_n 1, 1) := by decide +kernel
theorem dX0_wants_2 : decode cX0_wants 2 = .ok (.aload_n 0, 1) := by decide +kernel
theorem dX0_wants_3 : decode cX0_wants 3 = .ok (.iload_n 2, 1) := by decide +kernel
theorem dX0_wants_4 : decode cX0_wants 4 = .ok (.invokevirtual 71, 3) := by decide +kernel
theorem dX0_wants_7 : decode cX0_wants 7 = .ok (.invokevirtual 74, 3) := by decide +kernel
theorem dX0_wants_10 : decode cX0_wants 10 = .ok (.ireturn, 1) := by decide +kernel
theorem dX0_stands_0 : decode cX0_stands 0 = .ok (.aload_n 0, 1) := by decide +kernel
theorem dX0_stands_1 : decode cX0_stands 1 = .ok (.iload_n 1, 1) := by decide +kernel
theorem dX0_stands_2 : decode cX0_stands 2 = .ok (.iload_n 2, 1) := by decide +kernel
theorem dX0_stands_3 : decode cX0_stands 3 = .ok (.invokevirtual 77, 3) := by decide +kernel
theorem dX0_stands_6 : decode cX0_stands 6 = .ok (.ifCond .ne 7, 3) := by decide +kernel
theorem dX0_stands_9 : decode cX0_stands 9 = .ok (.iconst 1, 1) := by decide +kernel
theorem dX0_stands_10 : decode cX0_stands 10 = .ok (.goto 4, 3) := by decide +kernel
theorem dX0_stands_13 : decode cX0_stands 13 = .ok (.iconst 0, 1) := by decide +kernel
theorem dX0_stands_14 : decode cX0_stands 14 = .ok (.ireturn, 1) := by decide +kernel
theorem dX0_trier_0 : decode cX0_trier 0 = .ok (.aload_n 0, 1) := by decide +kernel
theorem dX0_trier_1 : decode cX0_trier 1 = .ok (.iconst 0, 1) := by decide +kernel
theorem dX0_trier_2 : decode cX0_trier 2 = .ok (.invokevirtual 80, 3) := by decide +kernel
theorem dX0_trier_5 : decode cX0_trier 5 = .ok (.ireturn, 1) := by decide +kernel
theorem dX0_trierWithout_0 : decode cX0_trierWithout 0 = .ok (.iconst (-1), 1) := by decide +kernel
theorem dX0_trierWithout_1 : decode cX0_trierWithout 1 = .ok (.istore_n 2, 1) := by decide +kernel
theorem dX0_trierWithout_2 : decode cX0_trierWithout 2 = .ok (.iconst 0, 1) := by decide +kernel
theorem dX0_trierWithout_3 : decode cX0_trierWithout 3 = .ok (.istore_n 3, 1) := by decide +kernel
theorem dX0_trierWithout_4 : decode cX0_trierWithout 4 = .ok (.iload_n 3, 1) := by decide +kernel
theorem dX0_trierWithout_5 : decode cX0_trierWithout 5 = .ok (.aload_n 0, 1) := by decide +kernel
theorem dX0_trierWithout_6 : decode cX0_trierWithout 6 = .ok (.getfield 11, 3) := by decide +kernel
theorem dX0_trierWithout_9 : decode cX0_trierWithout 9 = .ok (.bipush 96, 2) := by decide +kernel
theorem dX0_trierWithout_11 : decode cX0_trierWithout 11 = .ok (.iaload, 1) := by decide +kernel
theorem dX0_trierWithout_12 : decode cX0_trierWithout 12 = .ok (.if_icmp .ge 59, 3) := by decide +kernel
theorem dX0_trierWithout_15 : decode cX0_trierWithout 15 = .ok (.iload_n 1, 1) := by decide +kernel
theorem dX0_trierWithout_16 : decode cX0_trierWithout 16 = .ok (.iload_n 3, 1) := by decide +kernel
theorem dX0_trierWithout_17 : decode cX0_trierWithout 17 = .ok (.ishr, 1) := by decide +kernel
theorem dX0_trierWithout_18 : decode cX0_trierWithout 18 = .ok (.iconst 1, 1) := by decide +kernel
theorem dX0_trierWithout_19 : decode cX0_trierWithout 19 = .ok (.iand, 1) := by decide +kernel
theorem dX0_trierWithout_20 : decode cX0_trierWithout 20 = .ok (.ifCond .ne 15, 3) := by decide +kernel
theorem dX0_trierWithout_23 : decode cX0_trierWithout 23 = .ok (.aload_n 0, 1) := by decide +kernel
theorem dX0_trierWithout_24 : decode cX0_trierWithout 24 = .ok (.iload_n 3, 1) := by decide +kernel
theorem dX0_trierWithout_25 : decode cX0_trierWithout 25 = .ok (.invokevirtual 71, 3) := by decide +kernel
theorem dX0_trierWithout_28 : decode cX0_trierWithout 28 = .ok (.ifCond .eq 7, 3) := by decide +kernel
theorem dX0_trierWithout_31 : decode cX0_trierWithout 31 = .ok (.iconst 1, 1) := by decide +kernel
theorem dX0_trierWithout_32 : decode cX0_trierWithout 32 = .ok (.goto 4, 3) := by decide +kernel
theorem dX0_trierWithout_35 : decode cX0_trierWithout 35 = .ok (.iconst 0, 1) := by decide +kernel
theorem dX0_trierWithout_36 : decode cX0_trierWithout 36 = .ok (.istore 4, 2) := by decide +kernel
theorem dX0_trierWithout_38 : decode cX0_trierWithout 38 = .ok (.iload 4, 2) := by decide +kernel
theorem dX0_trierWithout_40 : decode cX0_trierWithout 40 = .ok (.ifCond .eq 25, 3) := by decide +kernel
theorem dX0_trierWithout_43 : decode cX0_trierWithout 43 = .ok (.iload_n 2, 1) := by decide +kernel
theorem dX0_trierWithout_44 : decode cX0_trierWithout 44 = .ok (.iconst (-1), 1) := by decide +kernel
theorem dX0_trierWithout_45 : decode cX0_trierWithout 45 = .ok (.if_icmp .eq 18, 3) := by decide +kernel
theorem dX0_trierWithout_48 : decode cX0_trierWithout 48 = .ok (.aload_n 0, 1) := by decide +kernel
theorem dX0_trierWithout_49 : decode cX0_trierWithout 49 = .ok (.iload_n 3, 1) := by decide +kernel
theorem dX0_trierWithout_50 : decode cX0_trierWithout 50 = .ok (.iconst 0, 1) := by decide +kernel
theorem dX0_trierWithout_51 : decode cX0_trierWithout 51 = .ok (.invokevirtual 61, 3) := by decide +kernel
theorem dX0_trierWithout_54 : decode cX0_trierWithout 54 = .ok (.aload_n 0, 1) := by decide +kernel
theorem dX0_trierWithout_55 : decode cX0_trierWithout 55 = .ok (.iload_n 2, 1) := by decide +kernel
theorem dX0_trierWithout_56 : decode cX0_trierWithout 56 = .ok (.iconst 0, 1) := by decide +kernel
theorem dX0_trierWithout_57 : decode cX0_trierWithout 57 = .ok (.invokevirtual 61, 3) := by decide +kernel
theorem dX0_trierWithout_60 : decode cX0_trierWithout 60 = .ok (.if_icmp .le 5, 3) := by decide +kernel
theorem dX0_trierWithout_63 : decode cX0_trierWithout 63 = .ok (.iload_n 3, 1) := by decide +kernel
theorem dX0_trierWithout_64 : decode cX0_trierWithout 64 = .ok (.istore_n 2, 1) := by decide +kernel
theorem dX0_trierWithout_65 : decode cX0_trierWithout 65 = .ok (.iinc 3 1, 3) := by decide +kernel
theorem dX0_trierWithout_68 : decode cX0_trierWithout 68 = .ok (.goto (-64), 3) := by decide +kernel
theorem dX0_trierWithout_71 : decode cX0_trierWithout 71 = .ok (.iload_n 2, 1) := by decide +kernel
theorem dX0_trierWithout_72 : decode cX0_trierWithout 72 = .ok (.ireturn, 1) := by decide +kernel
theorem dX0_plumsToStand_0 : decode cX0_plumsToStand 0 = .ok (.aload_n 0, 1) := by decide +kernel
theorem dX0_plumsToStand_1 : decode cX0_plumsToStand 1 = .ok (.getfield 11, 3) := by decide +kernel
theorem dX0_plumsToStand_4 : decode cX0_plumsToStand 4 = .ok (.bipush 94, 2) := by decide +kernel
theorem dX0_plumsToStand_6 : decode cX0_plumsToStand 6 = .ok (.iaload, 1) := by decide +kernel
theorem dX0_plumsToStand_7 : decode cX0_plumsToStand 7 = .ok (.aload_n 0, 1) := by decide +kernel
theorem dX0_plumsToStand_8 : decode cX0_plumsToStand 8 = .ok (.iload_n 1, 1) := by decide +kernel
theorem dX0_plumsToStand_9 : decode cX0_plumsToStand 9 = .ok (.iload_n 2, 1) := by decide +kernel
theorem dX0_plumsToStand_10 : decode cX0_plumsToStand 10 = .ok (.invokevirtual 77, 3) := by decide +kernel
theorem dX0_plumsToStand_13 : decode cX0_plumsToStand 13 = .ok (.invokestatic 83, 3) := by decide +kernel
theorem dX0_plumsToStand_16 : decode cX0_plumsToStand 16 = .ok (.imul, 1) := by decide +kernel
theorem dX0_plumsToStand_17 : decode cX0_plumsToStand 17 = .ok (.ireturn, 1) := by decide +kernel
theorem dX0_plumsToRule_0 : decode cX0_plumsToRule 0 = .ok (.iload_n 1, 1) := by decide +kernel
theorem dX0_plumsToRule_1 : decode cX0_plumsToRule 1 = .ok (.aload_n 0, 1) := by decide +kernel
theorem dX0_plumsToRule_2 : decode cX0_plumsToRule 2 = .ok (.getfield 11, 3) := by decide +kernel
theorem dX0_plumsToRule_5 : decode cX0_plumsToRule 5 = .ok (.bipush 98, 2) := by decide +kernel
theorem dX0_plumsToRule_7 : decode cX0_plumsToRule 7 = .ok (.iaload, 1) := by decide +kernel
theorem dX0_plumsToRule_8 : decode cX0_plumsToRule 8 = .ok (.if_icmp .ne 7, 3) := by decide +kernel
theorem dX0_plumsToRule_11 : decode cX0_plumsToRule 11 = .ok (.iconst 0, 1) := by decide +kernel
theorem dX0_plumsToRule_12 : decode cX0_plumsToRule 12 = .ok (.goto 9, 3) := by decide +kernel
theorem dX0_plumsToRule_15 : decode cX0_plumsToRule 15 = .ok (.aload_n 0, 1) := by decide +kernel
theorem dX0_plumsToRule_16 : decode cX0_plumsToRule 16 = .ok (.iload_n 1, 1) := by decide +kernel
theorem dX0_plumsToRule_17 : decode cX0_plumsToRule 17 = .ok (.iload_n 2, 1) := by decide +kernel
theorem dX0_plumsToRule_18 : decode cX0_plumsToRule 18 = .ok (.invokevirtual 88, 3) := by decide +kernel
theorem dX0_plumsToRule_21 : decode cX0_plumsToRule 21 = .ok (.ireturn, 1) := by decide +kernel
theorem dX0_monthsToStand_0 : decode cX0_monthsToStand 0 = .ok (.aload_n 0, 1) := by decide +kernel
theorem dX0_monthsToStand_1 : decode cX0_monthsToStand 1 = .ok (.iload_n 1, 1) := by decide +kernel
theorem dX0_monthsToStand_2 : decode cX0_monthsToStand 2 = .ok (.iload_n 2, 1) := by decide +kernel
theorem dX0_monthsToStand_3 : decode cX0_monthsToStand 3 = .ok (.invokevirtual 77, 3) := by decide +kernel
theorem dX0_monthsToStand_6 : decode cX0_monthsToStand 6 = .ok (.istore_n 3, 1) := by decide +kernel
theorem dX0_monthsToStand_7 : decode cX0_monthsToStand 7 = .ok (.iload_n 3, 1) := by decide +kernel
theorem dX0_monthsToStand_8 : decode cX0_monthsToStand 8 = .ok (.ifCond .ne 5, 3) := by decide +kernel
theorem dX0_monthsToStand_11 : decode cX0_monthsToStand 11 = .ok (.iconst 0, 1) := by decide +kernel
theorem dX0_monthsToStand_12 : decode cX0_monthsToStand 12 = .ok (.ireturn, 1) := by decide +kernel
theorem dX0_monthsToStand_13 : decode cX0_monthsToStand 13 = .ok (.aload_n 0, 1) := by decide +kernel
theorem dX0_monthsToStand_14 : decode cX0_monthsToStand 14 = .ok (.iload_n 1, 1) := by decide +kernel
theorem dX0_monthsToStand_15 : decode cX0_monthsToStand 15 = .ok (.bipush 6, 2) := by decide +kernel
theorem dX0_monthsToStand_17 : decode cX0_monthsToStand 17 = .ok (.invokevirtual 36, 3) := by decide +kernel
theorem dX0_monthsToStand_20 : decode cX0_monthsToStand 20 = .ok (.istore 4, 2) := by decide +kernel
theorem dX0_monthsToStand_22 : decode cX0_monthsToStand 22 = .ok (.iload 4, 2) := by decide +kernel
theorem dX0_monthsToStand_24 : decode cX0_monthsToStand 24 = .ok (.iconst (-1), 1) := by decide +kernel
theorem dX0_monthsToStand_25 : decode cX0_monthsToStand 25 = .ok (.if_icmp .ne 7, 3) := by decide +kernel
theorem dX0_monthsToStand_28 : decode cX0_monthsToStand 28 = .ok (.iload_n 3, 1) := by decide +kernel
theorem dX0_monthsToStand_29 : decode cX0_monthsToStand 29 = .ok (.goto 11, 3) := by decide +kernel
theorem dX0_monthsToStand_32 : decode cX0_monthsToStand 32 = .ok (.iload_n 3, 1) := by decide +kernel
theorem dX0_monthsToStand_33 : decode cX0_monthsToStand 33 = .ok (.iconst 1, 1) := by decide +kernel
theorem dX0_monthsToStand_34 : decode cX0_monthsToStand 34 = .ok (.iload 4, 2) := by decide +kernel
theorem dX0_monthsToStand_36 : decode cX0_monthsToStand 36 = .ok (.ishl, 1) := by decide +kernel
theorem dX0_monthsToStand_37 : decode cX0_monthsToStand 37 = .ok (.iconst (-1), 1) := by decide +kernel
theorem dX0_monthsToStand_38 : decode cX0_monthsToStand 38 = .ok (.ixor, 1) := by decide +kernel
theorem dX0_monthsToStand_39 : decode cX0_monthsToStand 39 = .ok (.iand, 1) := by decide +kernel
theorem dX0_monthsToStand_40 : decode cX0_monthsToStand 40 = .ok (.istore 5, 2) := by decide +kernel
theorem dX0_monthsToStand_42 : decode cX0_monthsToStand 42 = .ok (.aload_n 0, 1) := by decide +kernel
theorem dX0_monthsToStand_43 : decode cX0_monthsToStand 43 = .ok (.iload_n 1, 1) := by decide +kernel
theorem dX0_monthsToStand_44 : decode cX0_monthsToStand 44 = .ok (.bipush 7, 2) := by decide +kernel
theorem dX0_monthsToStand_46 : decode cX0_monthsToStand 46 = .ok (.invokevirtual 36, 3) := by decide +kernel
theorem dX0_monthsToStand_49 : decode cX0_monthsToStand 49 = .ok (.aload_n 0, 1) := by decide +kernel
theorem dX0_monthsToStand_50 : decode cX0_monthsToStand 50 = .ok (.iload_n 1, 1) := by decide +kernel
theorem dX0_monthsToStand_51 : decode cX0_monthsToStand 51 = .ok (.iconst 4, 1) := by decide +kernel
theorem dX0_monthsToStand_52 : decode cX0_monthsToStand 52 = .ok (.invokevirtual 36, 3) := by decide +kernel
theorem dX0_monthsToStand_55 : decode cX0_monthsToStand 55 = .ok (.iload 5, 2) := by decide +kernel
theorem dX0_monthsToStand_57 : decode cX0_monthsToStand 57 = .ok (.invokestatic 83, 3) := by decide +kernel
theorem dX0_monthsToStand_60 : decode cX0_monthsToStand 60 = .ok (.imul, 1) := by decide +kernel
theorem dX0_monthsToStand_61 : decode cX0_monthsToStand 61 = .ok (.iadd, 1) := by decide +kernel
theorem dX0_monthsToStand_62 : decode cX0_monthsToStand 62 = .ok (.ireturn, 1) := by decide +kernel
theorem dX0_beginMonth_0 : decode cX0_beginMonth 0 = .ok (.aload_n 0, 1) := by decide +kernel
theorem dX0_beginMonth_1 : decode cX0_beginMonth 1 = .ok (.getfield 11, 3) := by decide +kernel
theorem dX0_beginMonth_4 : decode cX0_beginMonth 4 = .ok (.bipush 97, 2) := by decide +kernel
theorem dX0_beginMonth_6 : decode cX0_beginMonth 6 = .ok (.iaload, 1) := by decide +kernel
theorem dX0_beginMonth_7 : decode cX0_beginMonth 7 = .ok (.iconst 1, 1) := by decide +kernel
theorem dX0_beginMonth_8 : decode cX0_beginMonth 8 = .ok (.iadd, 1) := by decide +kernel
theorem dX0_beginMonth_9 : decode cX0_beginMonth 9 = .ok (.istore_n 1, 1) := by decide +kernel
theorem dX0_beginMonth_10 : decode cX0_beginMonth 10 = .ok (.aload_n 0, 1) := by decide +kernel
theorem dX0_beginMonth_11 : decode cX0_beginMonth 11 = .ok (.getfield 11, 3) := by decide +kernel
theorem dX0_beginMonth_14 : decode cX0_beginMonth 14 = .ok (.bipush 97, 2) := by decide +kernel
theorem dX0_beginMonth_16 : decode cX0_beginMonth 16 = .ok (.iload_n 1, 1) := by decide +kernel
theorem dX0_beginMonth_17 : decode cX0_beginMonth 17 = .ok (.iastore, 1) := by decide +kernel
theorem dX0_beginMonth_18 : decode cX0_beginMonth 18 = .ok (.iconst 0, 1) := by decide +kernel
theorem dX0_beginMonth_19 : decode cX0_beginMonth 19 = .ok (.istore_n 2, 1) := by decide +kernel
theorem dX0_beginMonth_20 : decode cX0_beginMonth 20 = .ok (.iload_n 2, 1) := by decide +kernel
theorem dX0_beginMonth_21 : decode cX0_beginMonth 21 = .ok (.aload_n 0, 1) := by decide +kernel
theorem dX0_beginMonth_22 : decode cX0_beginMonth 22 = .ok (.getfield 11, 3) := by decide +kernel
theorem dX0_beginMonth_25 : decode cX0_beginMonth 25 = .ok (.bipush 96, 2) := by decide +kernel
theorem dX0_beginMonth_27 : decode cX0_beginMonth 27 = .ok (.iaload, 1) := by decide +kernel
theorem dX0_beginMonth_28 : decode cX0_beginMonth 28 = .ok (.if_icmp .ge 40, 3) := by decide +kernel
theorem dX0_beginMonth_31 : decode cX0_beginMonth 31 = .ok (.aload_n 0, 1) := by decide +kernel
theorem dX0_beginMonth_32 : decode cX0_beginMonth 32 = .ok (.iload_n 2, 1) := by decide +kernel
theorem dX0_beginMonth_33 : decode cX0_beginMonth 33 = .ok (.iconst 1, 1) := by decide +kernel
theorem dX0_beginMonth_34 : decode cX0_beginMonth 34 = .ok (.invokevirtual 61, 3) := by decide +kernel
theorem dX0_beginMonth_37 : decode cX0_beginMonth 37 = .ok (.istore_n 3, 1) := by decide +kernel
theorem dX0_beginMonth_38 : decode cX0_beginMonth 38 = .ok (.iload_n 3, 1) := by decide +kernel
theorem dX0_beginMonth_39 : decode cX0_beginMonth 39 = .ok (.ifCond .le 23, 3) := by decide +kernel
theorem dX0_beginMonth_42 : decode cX0_beginMonth 42 = .ok (.iload_n 1, 1) := by decide +kernel
theorem dX0_beginMonth_43 : decode cX0_beginMonth 43 = .ok (.iload_n 3, 1) := by decide +kernel
theorem dX0_beginMonth_44 : decode cX0_beginMonth 44 = .ok (.irem, 1) := by decide +kernel
theorem dX0_beginMonth_45 : decode cX0_beginMonth 45 = .ok (.ifCond .ne 17, 3) := by decide +kernel
theorem dX0_beginMonth_48 : decode cX0_beginMonth 48 = .ok (.aload_n 0, 1) := by decide +kernel
theorem dX0_beginMonth_49 : decode cX0_beginMonth 49 = .ok (.iload_n 2, 1) := by decide +kernel
theorem dX0_beginMonth_50 : decode cX0_beginMonth 50 = .ok (.iconst 2, 1) := by decide +kernel
theorem dX0_beginMonth_51 : decode cX0_beginMonth 51 = .ok (.aload_n 0, 1) := by decide +kernel
theorem dX0_beginMonth_52 : decode cX0_beginMonth 52 = .ok (.iload_n 2, 1) := by decide +kernel
theorem dX0_beginMonth_53 : decode cX0_beginMonth 53 = .ok (.iconst 2, 1) := by decide +kernel
theorem dX0_beginMonth_54 : decode cX0_beginMonth 54 = .ok (.invokevirtual 61, 3) := by decide +kernel
theorem dX0_beginMonth_57 : decode cX0_beginMonth 57 = .ok (.iconst 1, 1) := by decide +kernel
theorem dX0_beginMonth_58 : decode cX0_beginMonth 58 = .ok (.ishr, 1) := by decide +kernel
theorem dX0_beginMonth_59 : decode cX0_beginMonth 59 = .ok (.invokevirtual 29, 3) := by decide +kernel
theorem dX0_beginMonth_62 : decode cX0_beginMonth 62 = .ok (.iinc 2 1, 3) := by decide +kernel
theorem dX0_beginMonth_65 : decode cX0_beginMonth 65 = .ok (.goto (-45), 3) := by decide +kernel
theorem dX0_beginMonth_68 : decode cX0_beginMonth 68 = .ok (.iconst 0, 1) := by decide +kernel
theorem dX0_beginMonth_69 : decode cX0_beginMonth 69 = .ok (.istore_n 2, 1) := by decide +kernel
theorem dX0_beginMonth_70 : decode cX0_beginMonth 70 = .ok (.iload_n 2, 1) := by decide +kernel
theorem dX0_beginMonth_71 : decode cX0_beginMonth 71 = .ok (.aload_n 0, 1) := by decide +kernel
theorem dX0_beginMonth_72 : decode cX0_beginMonth 72 = .ok (.getfield 11, 3) := by decide +kernel
theorem dX0_beginMonth_75 : decode cX0_beginMonth 75 = .ok (.bipush 95, 2) := by decide +kernel
theorem dX0_beginMonth_77 : decode cX0_beginMonth 77 = .ok (.iaload, 1) := by decide +kernel
theorem dX0_beginMonth_78 : decode cX0_beginMonth 78 = .ok (.if_icmp .ge 39, 3) := by decide +kernel
theorem dX0_beginMonth_81 : decode cX0_beginMonth 81 = .ok (.aload_n 0, 1) := by decide +kernel
theorem dX0_beginMonth_82 : decode cX0_beginMonth 82 = .ok (.iload_n 2, 1) := by decide +kernel
theorem dX0_beginMonth_83 : decode cX0_beginMonth 83 = .ok (.iconst 0, 1) := by decide +kernel
theorem dX0_beginMonth_84 : decode cX0_beginMonth 84 = .ok (.aload_n 0, 1) := by decide +kernel
theorem dX0_beginMonth_85 : decode cX0_beginMonth 85 = .ok (.iload_n 2, 1) := by decide +kernel
theorem dX0_beginMonth_86 : decode cX0_beginMonth 86 = .ok (.iconst 0, 1) := by decide +kernel
theorem dX0_beginMonth_87 : decode cX0_beginMonth 87 = .ok (.invokevirtual 36, 3) := by decide +kernel
theorem dX0_beginMonth_90 : decode cX0_beginMonth 90 = .ok (.iconst 1, 1) := by decide +kernel
theorem dX0_beginMonth_91 : decode cX0_beginMonth 91 = .ok (.iadd, 1) := by decide +kernel
theorem dX0_beginMonth_92 : decode cX0_beginMonth 92 = .ok (.invokevirtual 21, 3) := by decide +kernel
theorem dX0_beginMonth_95 : decode cX0_beginMonth 95 = .ok (.aload_n 0, 1) := by decide +kernel
theorem dX0_beginMonth_96 : decode cX0_beginMonth 96 = .ok (.iload_n 2, 1) := by decide +kernel
theorem dX0_beginMonth_97 : decode cX0_beginMonth 97 = .ok (.bipush 6, 2) := by decide +kernel
theorem dX0_beginMonth_99 : decode cX0_beginMonth 99 = .ok (.invokevirtual 36, 3) := by decide +kernel
theorem dX0_beginMonth_102 : decode cX0_beginMonth 102 = .ok (.iconst (-1), 1) := by decide +kernel
theorem dX0_beginMonth_103 : decode cX0_beginMonth 103 = .ok (.if_icmp .eq 8, 3) := by decide +kernel
theorem dX0_beginMonth_106 : decode cX0_beginMonth 106 = .ok (.aload_n 0, 1) := by decide +kernel
theorem dX0_beginMonth_107 : decode cX0_beginMonth 107 = .ok (.iload_n 2, 1) := by decide +kernel
theorem dX0_beginMonth_108 : decode cX0_beginMonth 108 = .ok (.invokevirtual 91, 3) := by decide +kernel
theorem dX0_beginMonth_111 : decode cX0_beginMonth 111 = .ok (.iinc 2 1, 3) := by decide +kernel
theorem dX0_beginMonth_114 : decode cX0_beginMonth 114 = .ok (.goto (-44), 3) := by decide +kernel
theorem dX0_beginMonth_117 : decode cX0_beginMonth 117 = .ok (.return_, 1) := by decide +kernel
theorem dX0_goOnWithLesson_0 : decode cX0_goOnWithLesson 0 = .ok (.aload_n 0, 1) := by decide +kernel
theorem dX0_goOnWithLesson_1 : decode cX0_goOnWithLesson 1 = .ok (.iload_n 1, 1) := by decide +kernel
theorem dX0_goOnWithLesson_2 : decode cX0_goOnWithLesson 2 = .ok (.bipush 7, 2) := by decide +kernel
theorem dX0_goOnWithLesson_4 : decode cX0_goOnWithLesson 4 = .ok (.invokevirtual 36, 3) := by decide +kernel
theorem dX0_goOnWithLesson_7 : decode cX0_goOnWithLesson 7 = .ok (.iconst 1, 1) := by decide +kernel
theorem dX0_goOnWithLesson_8 : decode cX0_goOnWithLesson 8 = .ok (.isub, 1) := by decide +kernel
theorem dX0_goOnWithLesson_9 : decode cX0_goOnWithLesson 9 = .ok (.istore_n 2, 1) := by decide +kernel
theorem dX0_goOnWithLesson_10 : decode cX0_goOnWithLesson 10 = .ok (.iload_n 2, 1) := by decide +kernel
theorem dX0_goOnWithLesson_11 : decode cX0_goOnWithLesson 11 = .ok (.ifCond .le 14, 3) := by decide +kernel
theorem dX0_goOnWithLesson_14 : decode cX0_goOnWithLesson 14 = .ok (.aload_n 0, 1) := by decide +kernel
theorem dX0_goOnWithLesson_15 : decode cX0_goOnWithLesson 15 = .ok (.iload_n 1, 1) := by decide +kernel
theorem dX0_goOnWithLesson_16 : decode cX0_goOnWithLesson 16 = .ok (.bipush 7, 2) := by decide +kernel
theorem dX0_goOnWithLesson_18 : decode cX0_goOnWithLesson 18 = .ok (.iload_n 2, 1) := by decide +kernel
theorem dX0_goOnWithLesson_19 : decode cX0_goOnWithLesson 19 = .ok (.invokevirtual 21, 3) := by decide +kernel
theorem dX0_goOnWithLesson_22 : decode cX0_goOnWithLesson 22 = .ok (.goto 20, 3) := by decide +kernel
theorem dX0_goOnWithLesson_25 : decode cX0_goOnWithLesson 25 = .ok (.aload_n 0, 1) := by decide +kernel
theorem dX0_goOnWithLesson_26 : decode cX0_goOnWithLesson 26 = .ok (.iload_n 1, 1) := by decide +kernel
theorem dX0_goOnWithLesson_27 : decode cX0_goOnWithLesson 27 = .ok (.aload_n 0, 1) := by decide +kernel
theorem dX0_goOnWithLesson_28 : decode cX0_goOnWithLesson 28 = .ok (.iload_n 1, 1) := by decide +kernel
theorem dX0_goOnWithLesson_29 : decode cX0_goOnWithLesson 29 = .ok (.bipush 6, 2) := by decide +kernel
theorem dX0_goOnWithLesson_31 : decode cX0_goOnWithLesson 31 = .ok (.invokevirtual 36, 3) := by decide +kernel
theorem dX0_goOnWithLesson_34 : decode cX0_goOnWithLesson 34 = .ok (.invokevirtual 94, 3) := by decide +kernel
theorem dX0_goOnWithLesson_37 : decode cX0_goOnWithLesson 37 = .ok (.aload_n 0, 1) := by decide +kernel
theorem dX0_goOnWithLesson_38 : decode cX0_goOnWithLesson 38 = .ok (.iload_n 1, 1) := by decide +kernel
theorem dX0_goOnWithLesson_39 : decode cX0_goOnWithLesson 39 = .ok (.invokevirtual 57, 3) := by decide +kernel
theorem dX0_goOnWithLesson_42 : decode cX0_goOnWithLesson 42 = .ok (.return_, 1) := by decide +kernel
theorem dX0_claimant_0 : decode cX0_claimant 0 = .ok (.iconst (-1), 1) := by decide +kernel
theorem dX0_claimant_1 : decode cX0_claimant 1 = .ok (.istore_n 3, 1) := by decide +kernel
theorem dX0_claimant_2 : decode cX0_claimant 2 = .ok (.iconst 0, 1) := by decide +kernel
theorem dX0_claimant_3 : decode cX0_claimant 3 = .ok (.istore 4, 2) := by decide +kernel
theorem dX0_claimant_5 : decode cX0_claimant 5 = .ok (.iload 4, 2) := by decide +kernel
theorem dX0_claimant_7 : decode cX0_claimant 7 = .ok (.aload_n 0, 1) := by decide +kernel
theorem dX0_claimant_8 : decode cX0_claimant 8 = .ok (.getfield 11, 3) := by decide +kernel
theorem dX0_claimant_11 : decode cX0_claimant 11 = .ok (.bipush 95, 2) := by decide +kernel
theorem dX0_claimant_13 : decode cX0_claimant 13 = .ok (.iaload, 1) := by decide +kernel
theorem dX0_claimant_14 : decode cX0_claimant 14 = .ok (.if_icmp .ge 64, 3) := by decide +kernel
theorem dX0_claimant_17 : decode cX0_claimant 17 = .ok (.iload 4, 2) := by decide +kernel
theorem dX0_claimant_19 : decode cX0_claimant 19 = .ok (.iload_n 2, 1) := by decide +kernel
theorem dX0_claimant_20 : decode cX0_claimant 20 = .ok (.if_icmp .eq 26, 3) := by decide +kernel
theorem dX0_claimant_23 : decode cX0_claimant 23 = .ok (.aload_n 0, 1) := by decide +kernel
theorem dX0_claimant_24 : decode cX0_claimant 24 = .ok (.iload 4, 2) := by decide +kernel
theorem dX0_claimant_26 : decode cX0_claimant 26 = .ok (.invokevirtual 98, 3) := by decide +kernel
theorem dX0_claimant_29 : decode cX0_claimant 29 = .ok (.ifCond .eq 17, 3) := by decide +kernel
theorem dX0_claimant_32 : decode cX0_claimant 32 = .ok (.aload_n 0, 1) := by decide +kernel
theorem dX0_claimant_33 : decode cX0_claimant 33 = .ok (.iload 4, 2) := by decide +kernel
theorem dX0_claimant_35 : decode cX0_claimant 35 = .ok (.iload_n 1, 1) := by decide +kernel
theorem dX0_claimant_36 : decode cX0_claimant 36 = .ok (.invokevirtual 74, 3) := by decide +kernel
theorem dX0_claimant_39 : decode cX0_claimant 39 = .ok (.ifCond .ne 7, 3) := by decide +kernel
theorem dX0_claimant_42 : decode cX0_claimant 42 = .ok (.iconst 1, 1) := by decide +kernel
theorem dX0_claimant_43 : decode cX0_claimant 43 = .ok (.goto 4, 3) := by decide +kernel
theorem dX0_claimant_46 : decode cX0_claimant 46 = .ok (.iconst 0, 1) := by decide +kernel
theorem dX0_claimant_47 : decode cX0_claimant 47 = .ok (.istore 5, 2) := by decide +kernel
theorem dX0_claimant_49 : decode cX0_claimant 49 = .ok (.iload 5, 2) := by decide +kernel
theorem dX0_claimant_51 : decode cX0_claimant 51 = .ok (.ifCond .eq 21, 3) := by decide +kernel
theorem dX0_claimant_54 : decode cX0_claimant 54 = .ok (.iload_n 3, 1) := by decide +kernel
theorem dX0_claimant_55 : decode cX0_claimant 55 = .ok (.iconst (-1), 1) := by decide +kernel
theorem dX0_claimant_56 : decode cX0_claimant 56 = .ok (.if_icmp .eq 13, 3) := by decide +kernel
theorem dX0_claimant_59 : decode cX0_claimant 59 = .ok (.aload_n 0, 1) := by decide +kernel
theorem dX0_claimant_60 : decode cX0_claimant 60 = .ok (.iload 4, 2) := by decide +kernel
theorem dX0_claimant_62 : decode cX0_claimant 62 = .ok (.iload_n 3, 1) := by decide +kernel
theorem dX0_claimant_63 : decode cX0_claimant 63 = .ok (.invokevirtual 40, 3) := by decide +kernel
theorem dX0_claimant_66 : decode cX0_claimant 66 = .ok (.ifCond .eq 6, 3) := by decide +kernel
theorem dX0_claimant_69 : decode cX0_claimant 69 = .ok (.iload 4, 2) := by decide +kernel
theorem dX0_claimant_71 : decode cX0_claimant 71 = .ok (.istore_n 3, 1) := by decide +kernel
theorem dX0_claimant_72 : decode cX0_claimant 72 = .ok (.iinc 4 1, 3) := by decide +kernel
theorem dX0_claimant_75 : decode cX0_claimant 75 = .ok (.goto (-70), 3) := by decide +kernel
theorem dX0_claimant_78 : decode cX0_claimant 78 = .ok (.iload_n 3, 1) := by decide +kernel
theorem dX0_claimant_79 : decode cX0_claimant 79 = .ok (.ireturn, 1) := by decide +kernel
theorem dX0_rulerBehind_0 : decode cX0_rulerBehind 0 = .ok (.iload_n 1, 1) := by decide +kernel
theorem dX0_rulerBehind_1 : decode cX0_rulerBehind 1 = .ok (.iconst (-1), 1) := by decide +kernel
theorem dX0_rulerBehind_2 : decode cX0_rulerBehind 2 = .ok (.if_icmp .eq 25, 3) := by decide +kernel
theorem dX0_rulerBehind_5 : decode cX0_rulerBehind 5 = .ok (.aload_n 0, 1) := by decide +kernel
theorem dX0_rulerBehind_6 : decode cX0_rulerBehind 6 = .ok (.iload_n 1, 1) := by decide +kernel
theorem dX0_rulerBehind_7 : decode cX0_rulerBehind 7 = .ok (.iconst 0, 1) := by decide +kernel
theorem dX0_rulerBehind_8 : decode cX0_rulerBehind 8 = .ok (.invokevirtual 36, 3) := by decide +kernel
theorem dX0_rulerBehind_11 : decode cX0_rulerBehind 11 = .ok (.iload_n 3, 1) := by decide +kernel
theorem dX0_rulerBehind_12 : decode cX0_rulerBehind 12 = .ok (.iadd, 1) := by decide +kernel
theorem dX0_rulerBehind_13 : decode cX0_rulerBehind 13 = .ok (.aload_n 0, 1) := by decide +kernel
theorem dX0_rulerBehind_14 : decode cX0_rulerBehind 14 = .ok (.getfield 11, 3) := by decide +kernel
theorem dX0_rulerBehind_17 : decode cX0_rulerBehind 17 = .ok (.bipush 92, 2) := by decide +kernel
theorem dX0_rulerBehind_19 : decode cX0_rulerBehind 19 = .ok (.iaload, 1) := by decide +kernel
theorem dX0_rulerBehind_20 : decode cX0_rulerBehind 20 = .ok (.if_icmp .ge 7, 3) := by decide +kernel
theorem dX0_rulerBehind_23 : decode cX0_rulerBehind 23 = .ok (.iconst 1, 1) := by decide +kernel
theorem dX0_rulerBehind_24 : decode cX0_rulerBehind 24 = .ok (.goto 4, 3) := by decide +kernel
theorem dX0_rulerBehind_27 : decode cX0_rulerBehind 27 = .ok (.iconst 0, 1) := by decide +kernel
theorem dX0_rulerBehind_28 : decode cX0_rulerBehind 28 = .ok (.istore 4, 2) := by decide +kernel
theorem dX0_rulerBehind_30 : decode cX0_rulerBehind 30 = .ok (.iload 4, 2) := by decide +kernel
theorem dX0_rulerBehind_32 : decode cX0_rulerBehind 32 = .ok (.ifCond .eq 19, 3) := by decide +kernel
theorem dX0_rulerBehind_35 : decode cX0_rulerBehind 35 = .ok (.iload_n 2, 1) := by decide +kernel
theorem dX0_rulerBehind_36 : decode cX0_rulerBehind 36 = .ok (.iconst (-1), 1) := by decide +kernel
theorem dX0_rulerBehind_37 : decode cX0_rulerBehind 37 = .ok (.if_icmp .eq 12, 3) := by decide +kernel
theorem dX0_rulerBehind_40 : decode cX0_rulerBehind 40 = .ok (.aload_n 0, 1) := by decide +kernel
theorem dX0_rulerBehind_41 : decode cX0_rulerBehind 41 = .ok (.iload_n 2, 1) := by decide +kernel
theorem dX0_rulerBehind_42 : decode cX0_rulerBehind 42 = .ok (.iload_n 1, 1) := by decide +kernel
theorem dX0_rulerBehind_43 : decode cX0_rulerBehind 43 = .ok (.invokevirtual 40, 3) := by decide +kernel
theorem dX0_rulerBehind_46 : decode cX0_rulerBehind 46 = .ok (.ifCond .ne 5, 3) := by decide +kernel
theorem dX0_rulerBehind_49 : decode cX0_rulerBehind 49 = .ok (.iload_n 1, 1) := by decide +kernel
theorem dX0_rulerBehind_50 : decode cX0_rulerBehind 50 = .ok (.ireturn, 1) := by decide +kernel
theorem dX0_rulerBehind_51 : decode cX0_rulerBehind 51 = .ok (.iload_n 2, 1) := by decide +kernel
theorem dX0_rulerBehind_52 : decode cX0_rulerBehind 52 = .ok (.ireturn, 1) := by decide +kernel
theorem dX0_crown_0 : decode cX0_crown 0 = .ok (.iload_n 1, 1) := by decide +kernel
theorem dX0_crown_1 : decode cX0_crown 1 = .ok (.iconst (-1), 1) := by decide +kernel
theorem dX0_crown_2 : decode cX0_crown 2 = .ok (.if_icmp .ne 7, 3) := by decide +kernel
theorem dX0_crown_5 : decode cX0_crown 5 = .ok (.iconst (-1), 1) := by decide +kernel
theorem dX0_crown_6 : decode cX0_crown 6 = .ok (.goto 13, 3) := by decide +kernel
theorem dX0_crown_9 : decode cX0_crown 9 = .ok (.aload_n 0, 1) := by decide +kernel
theorem dX0_crown_10 : decode cX0_crown 10 = .ok (.aload_n 0, 1) := by decide +kernel
theorem dX0_crown_11 : decode cX0_crown 11 = .ok (.iload_n 1, 1) := by decide +kernel
theorem dX0_crown_12 : decode cX0_crown 12 = .ok (.invokevirtual 71, 3) := by decide +kernel
theorem dX0_crown_15 : decode cX0_crown 15 = .ok (.iconst (-1), 1) := by decide +kernel
theorem dX0_crown_16 : decode cX0_crown 16 = .ok (.invokevirtual 101, 3) := by decide +kernel
theorem dX0_crown_19 : decode cX0_crown 19 = .ok (.istore_n 2, 1) := by decide +kernel
theorem dX0_crown_20 : decode cX0_crown 20 = .ok (.aload_n 0, 1) := by decide +kernel
theorem dX0_crown_21 : decode cX0_crown 21 = .ok (.getfield 11, 3) := by decide +kernel
theorem dX0_crown_24 : decode cX0_crown 24 = .ok (.bipush 98, 2) := by decide +kernel
theorem dX0_crown_26 : decode cX0_crown 26 = .ok (.aload_n 0, 1) := by decide +kernel
theorem dX0_crown_27 : decode cX0_crown 27 = .ok (.aload_n 0, 1) := by decide +kernel
theorem dX0_crown_28 : decode cX0_crown 28 = .ok (.getfield 11, 3) := by decide +kernel
theorem dX0_crown_31 : decode cX0_crown 31 = .ok (.bipush 98, 2) := by decide +kernel
theorem dX0_crown_33 : decode cX0_crown 33 = .ok (.iaload, 1) := by decide +kernel
theorem dX0_crown_34 : decode cX0_crown 34 = .ok (.iload_n 2, 1) := by decide +kernel
theorem dX0_crown_35 : decode cX0_crown 35 = .ok (.iconst 0, 1) := by decide +kernel
theorem dX0_crown_36 : decode cX0_crown 36 = .ok (.invokevirtual 104, 3) := by decide +kernel
theorem dX0_crown_39 : decode cX0_crown 39 = .ok (.iastore, 1) := by decide +kernel
theorem dX0_crown_40 : decode cX0_crown 40 = .ok (.return_, 1) := by decide +kernel
theorem dX0_reignAndTake_0 : decode cX0_reignAndTake 0 = .ok (.aload_n 0, 1) := by decide +kernel
theorem dX0_reignAndTake_1 : decode cX0_reignAndTake 1 = .ok (.getfield 11, 3) := by decide +kernel
theorem dX0_reignAndTake_4 : decode cX0_reignAndTake 4 = .ok (.bipush 98, 2) := by decide +kernel
theorem dX0_reignAndTake_6 : decode cX0_reignAndTake 6 = .ok (.iaload, 1) := by decide +kernel
theorem dX0_reignAndTake_7 : decode cX0_reignAndTake 7 = .ok (.istore_n 2, 1) := by decide +kernel
theorem dX0_reignAndTake_8 : decode cX0_reignAndTake 8 = .ok (.iload_n 2, 1) := by decide +kernel
theorem dX0_reignAndTake_9 : decode cX0_reignAndTake 9 = .ok (.iconst (-1), 1) := by decide +kernel
theorem dX0_reignAndTake_10 : decode cX0_reignAndTake 10 = .ok (.if_icmp .eq 19, 3) := by decide +kernel
theorem dX0_reignAndTake_13 : decode cX0_reignAndTake 13 = .ok (.aload_n 0, 1) := by decide +kernel
theorem dX0_reignAndTake_14 : decode cX0_reignAndTake 14 = .ok (.iload_n 2, 1) := by decide +kernel
theorem dX0_reignAndTake_15 : decode cX0_reignAndTake 15 = .ok (.bipush 9, 2) := by decide +kernel
theorem dX0_reignAndTake_17 : decode cX0_reignAndTake 17 = .ok (.aload_n 0, 1) := by decide +kernel
theorem dX0_reignAndTake_18 : decode cX0_reignAndTake 18 = .ok (.iload_n 2, 1) := by decide +kernel
theorem dX0_reignAndTake_19 : decode cX0_reignAndTake 19 = .ok (.bipush 9, 2) := by decide +kernel
theorem dX0_reignAndTake_21 : decode cX0_reignAndTake 21 = .ok (.invokevirtual 36, 3) := by decide +kernel
theorem dX0_reignAndTake_24 : decode cX0_reignAndTake 24 = .ok (.iconst 1, 1) := by decide +kernel
theorem dX0_reignAndTake_25 : decode cX0_reignAndTake 25 = .ok (.iadd, 1) := by decide +kernel
theorem dX0_reignAndTake_26 : decode cX0_reignAndTake 26 = .ok (.invokevirtual 21, 3) := by decide +kernel
theorem dX0_reignAndTake_29 : decode cX0_reignAndTake 29 = .ok (.aload_n 0, 1) := by decide +kernel
theorem dX0_reignAndTake_30 : decode cX0_reignAndTake 30 = .ok (.getfield 11, 3) := by decide +kernel
theorem dX0_reignAndTake_33 : decode cX0_reignAndTake 33 = .ok (.bipush 99, 2) := by decide +kernel
theorem dX0_reignAndTake_35 : decode cX0_reignAndTake 35 = .ok (.dup2, 1) := by decide +kernel
theorem dX0_reignAndTake_36 : decode cX0_reignAndTake 36 = .ok (.iaload, 1) := by decide +kernel
theorem dX0_reignAndTake_37 : decode cX0_reignAndTake 37 = .ok (.iload_n 1, 1) := by decide +kernel
theorem dX0_reignAndTake_38 : decode cX0_reignAndTake 38 = .ok (.iadd, 1) := by decide +kernel
theorem dX0_reignAndTake_39 : decode cX0_reignAndTake 39 = .ok (.iastore, 1) := by decide +kernel
theorem dX0_reignAndTake_40 : decode cX0_reignAndTake 40 = .ok (.return_, 1) := by decide +kernel
theorem dJ6_highestOneBit_0f7a4_0 : decode cJ6_highestOneBit_0f7a4 0 = .ok (.iload_n 0, 1) := by decide +kernel
theorem dJ6_highestOneBit_0f7a4_1 : decode cJ6_highestOneBit_0f7a4 1 = .ok (.ldc 127, 2) := by decide +kernel
theorem dJ6_highestOneBit_0f7a4_3 : decode cJ6_highestOneBit_0f7a4 3 = .ok (.iload_n 0, 1) := by decide +kernel
theorem dJ6_highestOneBit_0f7a4_4 : decode cJ6_highestOneBit_0f7a4 4 = .ok (.invokestatic 51, 3) := by decide +kernel
theorem dJ6_highestOneBit_0f7a4_7 : decode cJ6_highestOneBit_0f7a4 7 = .ok (.iushr, 1) := by decide +kernel
theorem dJ6_highestOneBit_0f7a4_8 : decode cJ6_highestOneBit_0f7a4 8 = .ok (.iand, 1) := by decide +kernel
theorem dJ6_highestOneBit_0f7a4_9 : decode cJ6_highestOneBit_0f7a4 9 = .ok (.ireturn, 1) := by decide +kernel
theorem dJ6_numberOfLeadingZeros_0f7a4_0 : decode cJ6_numberOfLeadingZeros_0f7a4 0 = .ok (.iload_n 0, 1) := by decide +kernel
theorem dJ6_numberOfLeadingZeros_0f7a4_1 : decode cJ6_numberOfLeadingZeros_0f7a4 1 = .ok (.ifCond .gt 14, 3) := by decide +kernel
theorem dJ6_numberOfLeadingZeros_0f7a4_4 : decode cJ6_numberOfLeadingZeros_0f7a4 4 = .ok (.iload_n 0, 1) := by decide +kernel
theorem dJ6_numberOfLeadingZeros_0f7a4_5 : decode cJ6_numberOfLeadingZeros_0f7a4 5 = .ok (.ifCond .ne 8, 3) := by decide +kernel
theorem dJ6_numberOfLeadingZeros_0f7a4_8 : decode cJ6_numberOfLeadingZeros_0f7a4 8 = .ok (.bipush 32, 2) := by decide +kernel
theorem dJ6_numberOfLeadingZeros_0f7a4_10 : decode cJ6_numberOfLeadingZeros_0f7a4 10 = .ok (.goto 4, 3) := by decide +kernel
theorem dJ6_numberOfLeadingZeros_0f7a4_13 : decode cJ6_numberOfLeadingZeros_0f7a4 13 = .ok (.iconst 0, 1) := by decide +kernel
theorem dJ6_numberOfLeadingZeros_0f7a4_14 : decode cJ6_numberOfLeadingZeros_0f7a4 14 = .ok (.ireturn, 1) := by decide +kernel
theorem dJ6_numberOfLeadingZeros_0f7a4_15 : decode cJ6_numberOfLeadingZeros_0f7a4 15 = .ok (.bipush 31, 2) := by decide +kernel
theorem dJ6_numberOfLeadingZeros_0f7a4_17 : decode cJ6_numberOfLeadingZeros_0f7a4 17 = .ok (.istore_n 1, 1) := by decide +kernel
theorem dJ6_numberOfLeadingZeros_0f7a4_18 : decode cJ6_numberOfLeadingZeros_0f7a4 18 = .ok (.iload_n 0, 1) := by decide +kernel
theorem dJ6_numberOfLeadingZeros_0f7a4_19 : decode cJ6_numberOfLeadingZeros_0f7a4 19 = .ok (.ldc_w 264, 3) := by decide +kernel
theorem dJ6_numberOfLeadingZeros_0f7a4_22 : decode cJ6_numberOfLeadingZeros_0f7a4 22 = .ok (.if_icmp .lt 11, 3) := by decide +kernel
theorem dJ6_numberOfLeadingZeros_0f7a4_25 : decode cJ6_numberOfLeadingZeros_0f7a4 25 = .ok (.iinc 1 (-16), 3) := by decide +kernel
theorem dJ6_numberOfLeadingZeros_0f7a4_28 : decode cJ6_numberOfLeadingZeros_0f7a4 28 = .ok (.iload_n 0, 1) := by decide +kernel
theorem dJ6_numberOfLeadingZeros_0f7a4_29 : decode cJ6_numberOfLeadingZeros_0f7a4 29 = .ok (.bipush 16, 2) := by decide +kernel
theorem dJ6_numberOfLeadingZeros_0f7a4_31 : decode cJ6_numberOfLeadingZeros_0f7a4 31 = .ok (.iushr, 1) := by decide +kernel
theorem dJ6_numberOfLeadingZeros_0f7a4_32 : decode cJ6_numberOfLeadingZeros_0f7a4 32 = .ok (.istore_n 0, 1) := by decide +kernel
theorem dJ6_numberOfLeadingZeros_0f7a4_33 : decode cJ6_numberOfLeadingZeros_0f7a4 33 = .ok (.iload_n 0, 1) := by decide +kernel
theorem dJ6_numberOfLeadingZeros_0f7a4_34 : decode cJ6_numberOfLeadingZeros_0f7a4 34 = .ok (.sipush 256, 3) := by decide +kernel
theorem dJ6_numberOfLeadingZeros_0f7a4_37 : decode cJ6_numberOfLeadingZeros_0f7a4 37 = .ok (.if_icmp .lt 11, 3) := by decide +kernel
theorem dJ6_numberOfLeadingZeros_0f7a4_40 : decode cJ6_numberOfLeadingZeros_0f7a4 40 = .ok (.iinc 1 (-8), 3) := by decide +kernel
theorem dJ6_numberOfLeadingZeros_0f7a4_43 : decode cJ6_numberOfLeadingZeros_0f7a4 43 = .ok (.iload_n 0, 1) := by decide +kernel
theorem dJ6_numberOfLeadingZeros_0f7a4_44 : decode cJ6_numberOfLeadingZeros_0f7a4 44 = .ok (.bipush 8, 2) := by decide +kernel
theorem dJ6_numberOfLeadingZeros_0f7a4_46 : decode cJ6_numberOfLeadingZeros_0f7a4 46 = .ok (.iushr, 1) := by decide +kernel
theorem dJ6_numberOfLeadingZeros_0f7a4_47 : decode cJ6_numberOfLeadingZeros_0f7a4 47 = .ok (.istore_n 0, 1) := by decide +kernel
theorem dJ6_numberOfLeadingZeros_0f7a4_48 : decode cJ6_numberOfLeadingZeros_0f7a4 48 = .ok (.iload_n 0, 1) := by decide +kernel
theorem dJ6_numberOfLeadingZeros_0f7a4_49 : decode cJ6_numberOfLeadingZeros_0f7a4 49 = .ok (.bipush 16, 2) := by decide +kernel
theorem dJ6_numberOfLeadingZeros_0f7a4_51 : decode cJ6_numberOfLeadingZeros_0f7a4 51 = .ok (.if_icmp .lt 10, 3) := by decide +kernel
theorem dJ6_numberOfLeadingZeros_0f7a4_54 : decode cJ6_numberOfLeadingZeros_0f7a4 54 = .ok (.iinc 1 (-4), 3) := by decide +kernel
theorem dJ6_numberOfLeadingZeros_0f7a4_57 : decode cJ6_numberOfLeadingZeros_0f7a4 57 = .ok (.iload_n 0, 1) := by decide +kernel
theorem dJ6_numberOfLeadingZeros_0f7a4_58 : decode cJ6_numberOfLeadingZeros_0f7a4 58 = .ok (.iconst 4, 1) := by decide +kernel
theorem dJ6_numberOfLeadingZeros_0f7a4_59 : decode cJ6_numberOfLeadingZeros_0f7a4 59 = .ok (.iushr, 1) := by decide +kernel
theorem dJ6_numberOfLeadingZeros_0f7a4_60 : decode cJ6_numberOfLeadingZeros_0f7a4 60 = .ok (.istore_n 0, 1) := by decide +kernel
theorem dJ6_numberOfLeadingZeros_0f7a4_61 : decode cJ6_numberOfLeadingZeros_0f7a4 61 = .ok (.iload_n 0, 1) := by decide +kernel
theorem dJ6_numberOfLeadingZeros_0f7a4_62 : decode cJ6_numberOfLeadingZeros_0f7a4 62 = .ok (.iconst 4, 1) := by decide +kernel
theorem dJ6_numberOfLeadingZeros_0f7a4_63 : decode cJ6_numberOfLeadingZeros_0f7a4 63 = .ok (.if_icmp .lt 10, 3) := by decide +kernel
theorem dJ6_numberOfLeadingZeros_0f7a4_66 : decode cJ6_numberOfLeadingZeros_0f7a4 66 = .ok (.iinc 1 (-2), 3) := by decide +kernel
theorem dJ6_numberOfLeadingZeros_0f7a4_69 : decode cJ6_numberOfLeadingZeros_0f7a4 69 = .ok (.iload_n 0, 1) := by decide +kernel
theorem dJ6_numberOfLeadingZeros_0f7a4_70 : decode cJ6_numberOfLeadingZeros_0f7a4 70 = .ok (.iconst 2, 1) := by decide +kernel
theorem dJ6_numberOfLeadingZeros_0f7a4_71 : decode cJ6_numberOfLeadingZeros_0f7a4 71 = .ok (.iushr, 1) := by decide +kernel
theorem dJ6_numberOfLeadingZeros_0f7a4_72 : decode cJ6_numberOfLeadingZeros_0f7a4 72 = .ok (.istore_n 0, 1) := by decide +kernel
theorem dJ6_numberOfLeadingZeros_0f7a4_73 : decode cJ6_numberOfLeadingZeros_0f7a4 73 = .ok (.iload_n 1, 1) := by decide +kernel
theorem dJ6_numberOfLeadingZeros_0f7a4_74 : decode cJ6_numberOfLeadingZeros_0f7a4 74 = .ok (.iload_n 0, 1) := by decide +kernel
theorem dJ6_numberOfLeadingZeros_0f7a4_75 : decode cJ6_numberOfLeadingZeros_0f7a4 75 = .ok (.iconst 1, 1) := by decide +kernel
theorem dJ6_numberOfLeadingZeros_0f7a4_76 : decode cJ6_numberOfLeadingZeros_0f7a4 76 = .ok (.iushr, 1) := by decide +kernel
theorem dJ6_numberOfLeadingZeros_0f7a4_77 : decode cJ6_numberOfLeadingZeros_0f7a4 77 = .ok (.isub, 1) := by decide +kernel
theorem dJ6_numberOfLeadingZeros_0f7a4_78 : decode cJ6_numberOfLeadingZeros_0f7a4 78 = .ok (.ireturn, 1) := by decide +kernel
theorem dJ6_bitCount_0f7a4_0 : decode cJ6_bitCount_0f7a4 0 = .ok (.iload_n 0, 1) := by decide +kernel
theorem dJ6_bitCount_0f7a4_1 : decode cJ6_bitCount_0f7a4 1 = .ok (.iload_n 0, 1) := by decide +kernel
theorem dJ6_bitCount_0f7a4_2 : decode cJ6_bitCount_0f7a4 2 = .ok (.iconst 1, 1) := by decide +kernel
theorem dJ6_bitCount_0f7a4_3 : decode cJ6_bitCount_0f7a4 3 = .ok (.iushr, 1) := by decide +kernel
theorem dJ6_bitCount_0f7a4_4 : decode cJ6_bitCount_0f7a4 4 = .ok (.ldc_w 265, 3) := by decide +kernel
theorem dJ6_bitCount_0f7a4_7 : decode cJ6_bitCount_0f7a4 7 = .ok (.iand, 1) := by decide +kernel
theorem dJ6_bitCount_0f7a4_8 : decode cJ6_bitCount_0f7a4 8 = .ok (.isub, 1) := by decide +kernel
theorem dJ6_bitCount_0f7a4_9 : decode cJ6_bitCount_0f7a4 9 = .ok (.istore_n 0, 1) := by decide +kernel
theorem dJ6_bitCount_0f7a4_10 : decode cJ6_bitCount_0f7a4 10 = .ok (.iload_n 0, 1) := by decide +kernel
theorem dJ6_bitCount_0f7a4_11 : decode cJ6_bitCount_0f7a4 11 = .ok (.ldc_w 266, 3) := by decide +kernel
theorem dJ6_bitCount_0f7a4_14 : decode cJ6_bitCount_0f7a4 14 = .ok (.iand, 1) := by decide +kernel
theorem dJ6_bitCount_0f7a4_15 : decode cJ6_bitCount_0f7a4 15 = .ok (.iload_n 0, 1) := by decide +kernel
theorem dJ6_bitCount_0f7a4_16 : decode cJ6_bitCount_0f7a4 16 = .ok (.iconst 2, 1) := by decide +kernel
theorem dJ6_bitCount_0f7a4_17 : decode cJ6_bitCount_0f7a4 17 = .ok (.iushr, 1) := by decide +kernel
theorem dJ6_bitCount_0f7a4_18 : decode cJ6_bitCount_0f7a4 18 = .ok (.ldc_w 266, 3) := by decide +kernel
theorem dJ6_bitCount_0f7a4_21 : decode cJ6_bitCount_0f7a4 21 = .ok (.iand, 1) := by decide +kernel
theorem dJ6_bitCount_0f7a4_22 : decode cJ6_bitCount_0f7a4 22 = .ok (.iadd, 1) := by decide +kernel
theorem dJ6_bitCount_0f7a4_23 : decode cJ6_bitCount_0f7a4 23 = .ok (.istore_n 0, 1) := by decide +kernel
theorem dJ6_bitCount_0f7a4_24 : decode cJ6_bitCount_0f7a4 24 = .ok (.iload_n 0, 1) := by decide +kernel
theorem dJ6_bitCount_0f7a4_25 : decode cJ6_bitCount_0f7a4 25 = .ok (.iload_n 0, 1) := by decide +kernel
theorem dJ6_bitCount_0f7a4_26 : decode cJ6_bitCount_0f7a4 26 = .ok (.iconst 4, 1) := by decide +kernel
theorem dJ6_bitCount_0f7a4_27 : decode cJ6_bitCount_0f7a4 27 = .ok (.iushr, 1) := by decide +kernel
theorem dJ6_bitCount_0f7a4_28 : decode cJ6_bitCount_0f7a4 28 = .ok (.iadd, 1) := by decide +kernel
theorem dJ6_bitCount_0f7a4_29 : decode cJ6_bitCount_0f7a4 29 = .ok (.ldc_w 267, 3) := by decide +kernel
theorem dJ6_bitCount_0f7a4_32 : decode cJ6_bitCount_0f7a4 32 = .ok (.iand, 1) := by decide +kernel
theorem dJ6_bitCount_0f7a4_33 : decode cJ6_bitCount_0f7a4 33 = .ok (.istore_n 0, 1) := by decide +kernel
theorem dJ6_bitCount_0f7a4_34 : decode cJ6_bitCount_0f7a4 34 = .ok (.iload_n 0, 1) := by decide +kernel
theorem dJ6_bitCount_0f7a4_35 : decode cJ6_bitCount_0f7a4 35 = .ok (.iload_n 0, 1) := by decide +kernel
theorem dJ6_bitCount_0f7a4_36 : decode cJ6_bitCount_0f7a4 36 = .ok (.bipush 8, 2) := by decide +kernel
theorem dJ6_bitCount_0f7a4_38 : decode cJ6_bitCount_0f7a4 38 = .ok (.iushr, 1) := by decide +kernel
theorem dJ6_bitCount_0f7a4_39 : decode cJ6_bitCount_0f7a4 39 = .ok (.iadd, 1) := by decide +kernel
theorem dJ6_bitCount_0f7a4_40 : decode cJ6_bitCount_0f7a4 40 = .ok (.istore_n 0, 1) := by decide +kernel
theorem dJ6_bitCount_0f7a4_41 : decode cJ6_bitCount_0f7a4 41 = .ok (.iload_n 0, 1) := by decide +kernel
theorem dJ6_bitCount_0f7a4_42 : decode cJ6_bitCount_0f7a4 42 = .ok (.iload_n 0, 1) := by decide +kernel
theorem dJ6_bitCount_0f7a4_43 : decode cJ6_bitCount_0f7a4 43 = .ok (.bipush 16, 2) := by decide +kernel
theorem dJ6_bitCount_0f7a4_45 : decode cJ6_bitCount_0f7a4 45 = .ok (.iushr, 1) := by decide +kernel
theorem dJ6_bitCount_0f7a4_46 : decode cJ6_bitCount_0f7a4 46 = .ok (.iadd, 1) := by decide +kernel
theorem dJ6_bitCount_0f7a4_47 : decode cJ6_bitCount_0f7a4 47 = .ok (.istore_n 0, 1) := by decide +kernel
theorem dJ6_bitCount_0f7a4_48 : decode cJ6_bitCount_0f7a4 48 = .ok (.iload_n 0, 1) := by decide +kernel
theorem dJ6_bitCount_0f7a4_49 : decode cJ6_bitCount_0f7a4 49 = .ok (.bipush 63, 2) := by decide +kernel
theorem dJ6_bitCount_0f7a4_51 : decode cJ6_bitCount_0f7a4 51 = .ok (.iand, 1) := by decide +kernel
theorem dJ6_bitCount_0f7a4_52 : decode cJ6_bitCount_0f7a4 52 = .ok (.ireturn, 1) := by decide +kernel
