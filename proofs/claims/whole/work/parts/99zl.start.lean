/-! what holds at the law's entry -/
def sTm (i : Nat) : Term := if i = 0 then .string "CountRuleModel" 26 else if i = 1 then .string "CountRule$LawReader" 96 else if i = 2 then .string "CountRule$CountyReader" 73 else if i = 3 then .string "CountRule$CountyReader" 94 else .string "CountRule$CountyReader" 108
abbrev nw1 : Cond := Jvm.Cond.and given_1 narrow_1
theorem nx_ex : ∀ i, i < 5 → Cond.exactly (sTm i) "java/lang/String" ∈ flatC nw1 := by decide +kernel
theorem nx_co : ∀ i, i < 5 → Cond.eq (.field (sTm i) "java/lang/String" "coder" "B") (.int 0) ∈ flatC nw1 := by decide +kernel
theorem nx_ar : ∀ i, i < 5 → Cond.arrayOf (.field (sTm i) "java/lang/String" "value" "[B") .byte ∈ flatC nw1 := by decide +kernel
theorem nx_le : ∀ i, i < 5 → Cond.eq (.length (.field (sTm i) "java/lang/String" "value" "[B")) (.int (Int32.ofNat (strLen.getD i 0))) ∈ flatC nw1 := by decide +kernel
theorem nx_el : ∀ i, i < 5 → ∀ j, j < strLen.getD i 0 → Cond.eq (.elem (.field (sTm i) "java/lang/String" "value" "[B") (.int (Int32.ofNat j))) (.int ((strByt.getD i []).getD j 0)) ∈ flatC nw1 := by decide +kernel
theorem nx_ne : ∀ i, i < 5 → ∀ j, j < 5 → i ≠ j → Cond.not (Cond.eq (sTm i) (sTm j)) ∈ flatC nw1 ∨ Cond.not (Cond.eq (sTm j) (sTm i)) ∈ flatC nw1 := by decide +kernel
theorem nx_sr : ∀ q ∈ strRefs, Cond.stringRef q.1 q.2.1 q.2.2.1 ∈ lw_tbl := by decide +kernel
theorem nx_se : ∀ q ∈ strRefs, q.2.2.2 < 5 ∧ (Term.string q.1 q.2.1 = sTm q.2.2.2 ∨ Cond.eq (sTm q.2.2.2) (.string q.1 q.2.1) ∈ flatC nw1) := by decide +kernel
theorem nx_ta : ∀ t, t < 9 → Cond.arrayOf (.static "CountRule$CountyReader" (tabNm.getD t "") "[I") .int ∈ flatC nw1 := by decide +kernel
theorem nx_tl : ∀ t, t < 9 → Cond.eq (.length (.static "CountRule$CountyReader" (tabNm.getD t "") "[I")) (.int (Int32.ofNat (tabN t))) ∈ flatC nw1 := by decide +kernel
theorem nx_te : ∀ t, t < 9 → ∀ j, j < tabN t → Cond.eq (.elem (.static "CountRule$CountyReader" (tabNm.getD t "") "[I") (.int (Int32.ofNat j))) (.int (tab t j)) ∈ flatC nw1 := by decide +kernel
theorem nx_ts : ∀ t, t < 9 → Cond.laysStatic "CountRule$CountyReader" (tabNm.getD t "") "[I" ∈ lw_tbl := by decide +kernel
theorem nx_i : ∀ c ∈ ["CountRule$CountyReader", "java/lang/String", "jdk/internal/util/Preconditions", "java/lang/Throwable"], Cond.initialized c ∈ lw_tbl := by decide +kernel
theorem nx_c1 : Cond.eq (.static "java/lang/String" "COMPACT_STRINGS" "Z") (.int 1) ∈ flatC nw1 := by decide +kernel
theorem nx_c2 : Cond.isRef (.static "jdk/internal/util/Preconditions" "SIOOBE_FORMATTER" "Ljava/util/function/BiFunction;") ∈ flatC nw1 := by decide +kernel
theorem nx_c3 : Cond.laysStatic "java/lang/String" "COMPACT_STRINGS" "Z" ∈ lw_tbl := by decide +kernel
theorem nx_c4 : Cond.laysStatic "jdk/internal/util/Preconditions" "SIOOBE_FORMATTER" "Ljava/util/function/BiFunction;" ∈ lw_tbl := by decide +kernel
theorem nx_z1 : Cond.isRef (.static Bundle.tN "UNASSIGNED_STACK" Bundle.steD) ∈ flatC nw1 ∧ Cond.isRef (.static Bundle.tN "SUPPRESSED_SENTINEL" Bundle.listD) ∈ flatC nw1 := by decide +kernel
theorem nx_z2 : Cond.laysStatic Bundle.tN "UNASSIGNED_STACK" Bundle.steD ∈ lw_tbl ∧ Cond.laysStatic Bundle.tN "SUPPRESSED_SENTINEL" Bundle.listD ∈ lw_tbl := by decide +kernel
theorem nx_z3 : ∀ w ∈ [Cond.declares (Bundle.init0 "java/lang/RuntimeException"), Cond.declares (Bundle.init0 "java/lang/Exception"), Cond.declares (Bundle.init0 Bundle.tN), Cond.castable NSE NSE], w ∈ lw_tbl := by decide +kernel
theorem nx_ao : Cond.arrayOver (.object "CountRule$Law") ∈ lw_tbl := by decide +kernel
theorem nx_ac : Cond.arrayClass .int ∈ lw_tbl ∧ Cond.arrayClass .byte ∈ lw_tbl ∧ Cond.arrayClass .long ∈ lw_tbl := by decide +kernel
section
variable {s : State} {args : Array Value} {A : Nat → Prop}
theorem in_st_10 : Cond.instantiable RX10 11 ∈ gw ∧ Cond.initialized RX10 ∈ gw := ⟨gw_tb 27 (by decide +kernel) (by decide +kernel), gw_tb 1 (by decide +kernel) (by decide +kernel)⟩
theorem in_st_11 : Cond.instantiable RX11 46 ∈ gw ∧ Cond.initialized RX11 ∈ gw := ⟨gw_tb 1375 (by decide +kernel) (by decide +kernel), gw_tb 11 (by decide +kernel) (by decide +kernel)⟩
theorem st_R {own tx : String} {k a : Nat} (h1 : (Cond.stringRef own k tx).before args s = true) (h2 : (Term.string own k).eval args s none [] s = some (.ref a)) : vk_R own k tx a s := vk_R.of h1 h2
theorem st_XS (hg : nw1.before args s = true) (hts : ∀ w ∈ lw_tbl, w.before args s = true) (hA : ∀ a : Nat, a < s.heap.size → ¬ A a) : ∃ sa, XS sa A s := by
  have hs := flat_of_before _ hg
  have hi : ∀ c ∈ ["CountRule$CountyReader", "java/lang/String", "jdk/internal/util/Preconditions", "java/lang/Throwable"], (Cond.initialized c).before args s = true := fun c hc => hts _ (nx_i c hc)
  obtain ⟨adK, adV, hS, hE⟩ := vk_Sof (args := args) (s := s) (N := 5) (tm := sTm) (len := strLen) (byt := strByt) (A := A) (by decide) (fun i h => hs _ (nx_ex i h)) (fun i h => hs _ (nx_co i h)) (fun i h => hs _ (nx_ar i h)) (fun i h => hs _ (nx_le i h)) (fun i h j hj => hs _ (nx_el i h j hj)) (fun i j h1 h2 h3 => (nx_ne i h1 j h2 h3).elim (fun h => .inl (hs _ h)) (fun h => .inr (hs _ h))) hA
  have ht : ∀ t : Nat, ∃ q : Nat, t < 9 → (Term.static "CountRule$CountyReader" (tabNm.getD t "") "[I").eval args s none [] s = some (.ref q) ∧ va_T .int q (tabN t) (fun j => .int (tab t j)) A s s.heap := by
    intro t
    by_cases h : t < 9
    · have hN : tabN t < 2 ^ 31 := by
        have : ∀ t, t < 9 → tabN t < 2 ^ 31 := by decide
        exact this t h
      obtain ⟨q, q1, q2⟩ := va_Tof (f := fun j => .int (tab t j)) (A := A) hN (hs _ (nx_ta t h)) (va_eqt (hs _ (nx_tl t h))) (fun j hj => va_eqt (hs _ (nx_te t h j hj))) hA
      exact ⟨q, fun _ => ⟨q1, q2⟩⟩
    · exact ⟨0, fun h' => absurd h' h⟩
  obtain ⟨ad, had⟩ := Classical.axiomOfChoice ht
  refine ⟨fun i => if i < 5 then adK i else if i < 105 then adV (i - 100) else ad (i - 200), ?_, fun q hq => ?_, ?_, ?_, fun t h => ?_⟩
  · refine ⟨fun i h => ?_, fun i j h1 h2 h3 => ?_⟩
    · have e1 : (if i < 5 then adK i else if i < 105 then adV (i - 100) else ad (i - 200)) = adK i := if_pos h
      have e2 : (if 100 + i < 5 then adK (100 + i) else if 100 + i < 105 then adV (100 + i - 100) else ad (100 + i - 200)) = adV i := by
        rw [if_neg (by omega), if_pos (by omega), Nat.add_sub_cancel_left]
      dsimp only
      rw [e1, e2]
      exact hS.1 i h
    · dsimp only at h3
      rw [if_pos h1, if_pos h2] at h3
      exact hS.2 i j h1 h2 h3
  · obtain ⟨q5, qe⟩ := nx_se q hq
    dsimp only
    rw [if_pos q5]
    have h1 := hts _ (nx_sr q hq)
    rcases qe with qe | qe
    · have h2 := hE _ q5
      rw [← qe] at h2
      exact st_R h1 h2
    · exact st_R h1 (va_eqR (hs _ qe) (hE _ q5))
  · exact va_Zof (hts _ nx_c3) (hi _ (by simp)) (va_eqt (hs _ nx_c1)) hA
  · exact va_Zqof (hts _ nx_c4) (hi _ (by simp)) (hs _ nx_c2) hA
  · have e : (if 200 + t < 5 then adK (200 + t) else if 200 + t < 105 then adV (200 + t - 100) else ad (200 + t - 200)) = ad t := by
      rw [if_neg (by omega), if_neg (by omega), Nat.add_sub_cancel_left]
    dsimp only
    rw [e]
    exact ⟨va_Zof (hts _ (nx_ts t h)) (hi _ (by simp)) (had t h).1 hA, (had t h).2⟩
theorem st_ZT (hg : nw1.before args s = true) (hts : ∀ w ∈ lw_tbl, w.before args s = true) (hA : ∀ a : Nat, a < s.heap.size → ¬ A a) : ZT A s := by
  have hs := flat_of_before _ hg
  have hi : (Cond.initialized Bundle.tN).before args s = true := hts _ (nx_i _ (by decide))
  have nw : ∀ w : Cond, w.onTables = true → w.before args s = true → va_Nw w s := fun w h1 h2 => va_tabs h1 rfl h2
  exact ⟨vx_Zqof (hts _ nx_z2.1) hi (hs _ nx_z1.1) hA, vx_Zqof (hts _ nx_z2.2) hi (hs _ nx_z1.2) hA, nw _ rfl (hts _ (nx_z3 _ (by simp))), nw _ rfl (hts _ (nx_z3 _ (by simp))), nw _ rfl (hts _ (nx_z3 _ (by simp))), nw _ rfl (hts _ (nx_z3 _ (by simp)))⟩
theorem st_AO (hts : ∀ w ∈ lw_tbl, w.before args s = true) : va_AO "CountRule$Law" s := va_AO.of (hts _ nx_ao)
theorem st_arr {ty : FieldType} (h : (Cond.arrayClass ty).before args s = true) : ∃ c, ArrOfT s c ty ∧ s.vm.findClass ("[" ++ ty.toString) = some c := by
  obtain ⟨c, k, comp, h1, h2, h3⟩ := Cond.arrayClass_spec (args := args) (first := s) (o := none) (idx := []) (s := s) h
  exact ⟨c, fun n z => ⟨fun k h => (by cases h), k, h2, comp, h3⟩, h1⟩
theorem st_K (hts : ∀ w ∈ lw_tbl, w.before args s = true) : ∃ (D : va_G) (cA : Nat → ClassId), va_K D vwCl (tysC cA) s := by
  have hg : ∀ w ∈ gw, w.before args s = true := fun w hw => hts w (List.mem_filter.mp hw).1
  obtain ⟨c0, a0, b0⟩ := st_arr (hts _ nx_ac.1)
  obtain ⟨c1, a1, b1⟩ := st_arr (hts _ nx_ac.2.1)
  obtain ⟨c2, a2, b2⟩ := st_arr (hts _ nx_ac.2.2)
  obtain ⟨comp, c3, k3, f1, f2, f3, f4, f5⟩ := Cond.arrayOver_spec (args := args) (first := s) (o := none) (idx := []) (s := s) (hts _ nx_ao)
  obtain ⟨x0, y0, z0⟩ := u_known hg in_0 (hg _ in_st_0.1)
  obtain ⟨x1, y1, z1⟩ := u_known hg in_1 (hg _ in_st_1.1)
  obtain ⟨x2, y2, z2⟩ := u_known hg in_2 (hg _ in_st_2.1)
  obtain ⟨x3, y3, z3⟩ := u_known hg in_3 (hg _ in_st_3.1)
  obtain ⟨x4, y4, z4⟩ := u_known hg in_4 (hg _ in_st_4.1)
  obtain ⟨x5, y5, z5⟩ := u_known hg in_5 (hg _ in_st_5.1)
  obtain ⟨x6, y6, z6⟩ := u_known hg in_6 (hg _ in_st_6.1)
  obtain ⟨x7, y7, z7⟩ := u_known hg in_7 (hg _ in_st_7.1)
  obtain ⟨x8, y8, z8⟩ := u_known hg in_8 (hg _ in_st_8.1)
  obtain ⟨x9, y9, z9⟩ := u_known hg in_9 (hg _ in_st_9.1)
  obtain ⟨x10, y10, z10⟩ := u_known hg in_10 (hg _ in_st_10.1)
  obtain ⟨x11, y11, z11⟩ := u_known hg in_11 (hg _ in_st_11.1)
  refine ⟨(fun i => [x0, x1, x2, x3, x4, x5, x6, x7, x8, x9, x10, x11].getD i 0, fun i => [y0, y1, y2, y3, y4, y5, y6, y7, y8, y9, y10, y11].getD i (fun _ => 0)), fun i => [c0, c1, c2, c3].getD i 0, fun c q hq => ?_, fun k q hq => ?_⟩
  · match c, hq with
    | 0, hq => cases hq; exact z0
    | 1, hq => cases hq; exact z1
    | 2, hq => cases hq; exact z2
    | 3, hq => cases hq; exact z3
    | 4, hq => cases hq; exact z4
    | 5, hq => cases hq; exact z5
    | 6, hq => cases hq; exact z6
    | 7, hq => cases hq; exact z7
    | 8, hq => cases hq; exact z8
    | 9, hq => cases hq; exact z9
    | 10, hq => cases hq; exact z10
    | 11, hq => cases hq; exact z11
    | c + 12, hq => cases hq
  · match k, hq with
    | 0, hq => cases hq; exact ⟨a0, b0⟩
    | 1, hq => cases hq; exact ⟨a1, b1⟩
    | 2, hq => cases hq; exact ⟨a2, b2⟩
    | 3, hq => cases hq; exact ⟨fun N z => ⟨fun k h => (by cases h), k3, f3, comp, f4⟩, k3, comp, f3, f4, f1, f5⟩
    | k + 4, hq => cases hq
end
