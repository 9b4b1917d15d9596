/-! child: what is thrown -/
abbrev NSE : String := "java/util/NoSuchElementException"
abbrev nseL : List String := ["java/lang/RuntimeException", "java/lang/Exception"]
/-- what a throw needs of the launch -/
def ZT (A : Nat → Prop) (s : State) : Prop := vx_Zq Bundle.tN "UNASSIGNED_STACK" Bundle.steD A s s.heap ∧ vx_Zq Bundle.tN "SUPPRESSED_SENTINEL" Bundle.listD A s s.heap ∧ va_Nw (.declares (Bundle.init0 "java/lang/RuntimeException")) s ∧ va_Nw (.declares (Bundle.init0 "java/lang/Exception")) s ∧ va_Nw (.declares (Bundle.init0 Bundle.tN)) s ∧ va_Nw (.castable NSE NSE) s
theorem nw_dec {x : MethodName} {s U : State} (hW : s.WarmedH U.vm) (h : va_Nw (.declares x) s) : va_Nw (.declares x) U := va_tabs rfl (rfl : (s.setVm U.vm).vm = U.vm) (by rw [Cond.declares_setVm hW.alike]; exact h)
theorem ZT_stb {A : Nat → Prop} {s U : State} {H : Heap} {locs : List Loc} (h : ZT A s) (hS : va_S A s.heap H locs) (hU : U.heap = H) (hW : s.WarmedH U.vm) : ZT A U := by
  obtain ⟨h1, h2, h3, h4, h5, h6⟩ := h
  have hk : ∀ a : Nat, a < s.heap.size → ¬ A a → U.heap[a]? = s.heap[a]? := fun a ha hn => by rw [hU]; exact hS.2.1 a ha hn
  exact ⟨(h1.kept hk).moved hW.alike, (h2.kept hk).moved hW.alike, nw_dec hW h3, nw_dec hW h4, nw_dec hW h5, va_Nw.warmC hW h6⟩
theorem nse_in : ∀ w ∈ vx_at0 RX10 118 NSE nseL, w ∈ lw_tbl := by decide +kernel
theorem nse_b : ∀ w ∈ (vx_at0 RX10 118 NSE nseL).filter (fun w => !goodWord w), w ∈ [Cond.declares (Bundle.init0 "java/lang/RuntimeException"), Cond.declares (Bundle.init0 "java/lang/Exception"), Cond.declares (Bundle.init0 Bundle.tN), Cond.castable NSE NSE] := by decide +kernel
theorem nse_g : ∀ w ∈ Cond.classLink RX10 116 NSE :: Cond.initialized NSE :: vx_at0 RX10 118 NSE nseL, vx_ot w = true := by decide +kernel
theorem nse_k : Cond.classLink RX10 116 NSE ∈ gw := gw_tb 1313 (by decide +kernel) (by decide +kernel)
theorem nse_i : Cond.initialized NSE ∈ gw := gw_tb 23 (by decide +kernel) (by decide +kernel)
theorem nse_hat {args : Array Value} {s : State} {A : Nat → Prop} (hts : ∀ w ∈ gw, w.before args s = true) (hZ : ZT A s) : ∀ w ∈ vx_at0 RX10 118 NSE nseL, w.before args s = true := by
  obtain ⟨_, _, h3, h4, h5, h6⟩ := hZ
  refine vx_hat (fun w hw => ?_) nse_b (vx_c (va_Nw.use rfl h3) (vx_c (va_Nw.use rfl h4) (vx_c (va_Nw.use rfl h5) (vx_c (va_Nw.use rfl h6) vx_n))))
  have hw := List.mem_filter.mp hw
  exact hts w (List.mem_filter.mpr ⟨nse_in w hw.1, hw.2⟩)
def Pz (n : Nf) (av : List Value) (ws : va_W) : Array Value → State → Prop := fun a U => Pn n av ws a U ∧ ZT n.A U
def XCn (n : Nf) (ws : va_W) : String → State → State → Prop := fun E st t => E = NSE ∧ va_P n.2.1 vwCl ws t.heap ∧ va_F n.A st t
theorem W_mono {p : Program} {l : Launch} {e : Env} {R : Room} {s : State} {m : MethodId} {args : Array Value} {below : List Frame} {meth : Method} {c : Code} {H : Heap} {locs : List Loc} {cells slots : Nat} {Q Q' : State → Prop} {g : JFrame} (h : W p l e R s m args below meth c H locs cells slots Q g) (k : ∀ t, Q t → Q' t) : W p l e R s m args below meth c H locs cells slots Q' g := by
  intro T hT X
  obtain ⟨t, a, b⟩ := h T hT X
  exact ⟨t, a, k t b⟩
/-- the method has no table of handlers -/
def noT (s : State) : Prop := ∀ (m : MethodId) (a : Array Value) (below : List Frame) (meth : Method) (c : Code), s.frames = .invoking m a :: below → s.vm.method? m = some meth → meth.code = some c → ∀ x ∈ c.exceptionTable.toList, False
theorem P_sub {D : va_G} {ws : va_W} {H H1 : Heap} (hP : va_P D vwCl ws H) (h : ∀ q : Nat, q < H.size → H1[q]? = H[q]?) : va_P D vwCl ws H1 := hP.kept (fun k q hk => h q.1 (hP k q hk).lt)
theorem x_throw {n : Nf} {ws : va_W} {vs : List (Option Value)} (hl : n.1.stackTraces = false) : NX n (rmn 8 1 6) RX10 cX10_child 3 (some .int) False (fun below args s t => noT s ∧ ZT n.A s → vx_MQ below (fun _ _ _ _ => False) (XCn n ws) args s 1 6 n.A t) 21 vs [] ws 0 0 := by
  intro p e s mi args below meth c H locs ls C hi hP hD hS hL T hT X
  by_cases F : noT s ∧ ZT n.A s
  · have hex : ∀ x ∈ c.exceptionTable.toList, False := F.1 _ _ _ _ _ X.frames X.method X.code
    have hts := C.2.2.2.2.2.2.1
    obtain ⟨t, a, b⟩ := vx_throw0 (cc := cX10_child) (pc := 21) (own := RX10) (cls := NSE) (names := nseL) (ik := 116) (ic := 118) (mc := 1) (ms := 6) (A := n.A) (free := n.A) (Qc := fun _ _ _ _ => False) (XC := XCn n ws) (rest := []) C.1 C.2.1 hl C.2.2.2.2.2.1 (by decide) (by decide) (hts _ nse_k) (hts _ nse_i) (nse_hat hts F.2) nse_g F.2.1 F.2.2.1 hS (hL.1.1.trans C.2.2.1.symm) dX10_child_21 dX10_child_24 dX10_child_25 dX10_child_28 (fun x hx => (hex x hx).elim) (by decide) (by decide) (by decide) (by decide) C.2.2.2.2.1 (fun t hA hz hk => ⟨rfl, P_sub hP hk, Nat.le_trans hS.1 hz, fun q h1 h2 => by rw [hk q (Nat.lt_of_lt_of_le h1 hS.1)]; exact hS.2.1 q h1 h2⟩) hS.2.2 (by decide) (by decide) T hT X
    exact ⟨t, a, fun _ => b⟩
  · exact ⟨_, Steps.refl _, fun h => absurd h F⟩
theorem has_n {m : Sg} {a1 : Int32} : f_X0_hasChild 4 m a1 = some (if a1 < 0 then 0 else if m.1 4 95 ≤ a1 then 0 else 1, m) := by
  unfold f_X0_hasChild
  by_cases h : a1 < 0
  · rw [if_pos h, if_pos h]
  · rw [if_neg h, if_neg h]
    by_cases h2 : m.1 4 95 ≤ a1
    · rw [if_pos h2]
      simp [h2]
    · rw [if_neg h2]
      simp [h2]
theorem x_child {n : Nf} {ad : Nat → Nat} {nl : Nat} {ln : Nat → Nat} {m : Sg} {a1 a2 : Int32} (hl : n.1.stackTraces = false) (hoff : ¬ chOn m a1 a2) : vx_Met n.1 yX10_child (Cond.code yX10_child cX10_child 3 (some .int) :: gw) (rmn 8 1 6) (Pz n [.ref (ad 0), .int a1, .int a2] (wsOf (gOf n ad nl ln) m)) (fun _ _ _ _ => False) (XCn n (wsOf (gOf n ad nl ln) m)) 1 6 n.A := by
  have key : NX n (rmn 8 1 6) RX10 cX10_child 3 (some .int) False (fun below args s t => noT s ∧ ZT n.A s → vx_MQ below (fun _ _ _ _ => False) (XCn n (wsOf (gOf n ad nl ln) m)) args s 1 6 n.A t) 0 [some (.ref (ad 0)), some (.int a1), some (.int a2)] [] (wsOf (gOf n ad nl ln) m) 0 0 := by
    refine n_aloadn_0 dX10_child_0 ?_
    refine n_get (wsO (g := gOf n ad nl ln) pn_0 pc_0) fo_10_1 (flds_get rfl) dX10_child_1 ?_
    refine n_iloadn_1 dX10_child_4 ?_
    refine n_callV (As := [.int a1]) rfl (cl_ncl (c_X0_hasChild cty_3 has_n)) (wsO (g := gOf n ad nl ln) pn_3 pc_3) (q := (RX0, TX0, 1)) rfl ce_X0_hasChild lk_X10_112 rfl ⟨Nat.le_of_ble_eq_true rfl, Nat.le_of_ble_eq_true rfl⟩ ⟨Nat.le_of_ble_eq_true rfl, Nat.le_of_ble_eq_true rfl⟩ rfl dX10_child_5 ?_
    rintro _ rfl
    refine n_if_eq 21 dX10_child_8 (by decide) (fun _ => x_throw hl) (fun h1 => ?_)
    refine n_iloadn_2 dX10_child_11 ?_
    refine n_if_lt 21 dX10_child_12 (by decide) (fun _ => x_throw hl) (fun h2 => ?_)
    refine n_iloadn_2 dX10_child_15 ?_
    refine n_bipush 11 dX10_child_16 rfl ?_
    refine n_icmp_le 29 dX10_child_18 (by decide) (fun h3 => ?_) (fun _ => x_throw hl)
    refine absurd ⟨fun h => h1 (if_pos h), fun h => h1 ?_, h2, fun h => absurd h3 (Int32.not_le.mpr h)⟩ hoff
    by_cases y : a1 < 0
    · rw [if_pos y]
    · rw [if_neg y, if_pos h]
  refine vx_ofW (by decide) rfl ?_
  intro p e s mi args below meth c s₁ B hml hex hp
  obtain ⟨⟨rfl, hq0, hP, hK, hD, hX⟩, hZ⟩ := hp
  have hts := atoms_spec (ws := Cond.code yX10_child cX10_child 3 (some .int) :: gw) B.pre
  have hown : s.vm.findClass RX10 = some mi.cls := findClass_of_methodNamed B.named
  have X₀ := Stand.of_body B
  have hno : noT s := by
    intro m' a' b' me' c' h1 h2 h3
    have e1 := X₀.frames.symm.trans h1
    cases e1
    have e2 := X₀.method.symm.trans h2
    cases e2
    have e3 := X₀.code.symm.trans h3
    cases e3
    exact hex
  rw [lg_entry_eq]
  have hlv := lv_entry [Value.ref (ad 0), .int a1, .int a2] (n := 3) (Nat.le_of_ble_eq_true rfl)
  refine W_mono (key p e s mi _ below meth c s.heap [] _ ⟨B.exec, B.bytes, hml, B.returns, B.notSynchronized, hown, fun w hw => hts w (List.mem_cons_of_mem _ hw), hK, hq0, hX⟩ (fun h => h.elim) hP hD va_S.rf ⟨⟨hlv.1, hlv.2.1, fun q hq => hlv.2.2 q hq⟩, rfl⟩) (fun t h => h ⟨hno, hZ⟩)
