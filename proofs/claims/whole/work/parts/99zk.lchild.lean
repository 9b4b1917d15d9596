/-! the law's own child -/
theorem dL_child_0 : decode cL_child 0 = .ok (.aload_n 3, 1) := by decide +kernel
theorem dL_child_1 : decode cL_child 1 = .ok (.iconst 0, 1) := by decide +kernel
theorem dL_child_2 : decode cL_child 2 = .ok (.aload_n 0, 1) := by decide +kernel
theorem dL_child_3 : decode cL_child 3 = .ok (.iload_n 1, 1) := by decide +kernel
theorem dL_child_4 : decode cL_child 4 = .ok (.iload_n 2, 1) := by decide +kernel
theorem dL_child_5 : decode cL_child 5 = .ok (.invokevirtual 7, 3) := by decide +kernel
theorem dL_child_8 : decode cL_child 8 = .ok (.i2l, 1) := by decide +kernel
theorem dL_child_9 : decode cL_child 9 = .ok (.lastore, 1) := by decide +kernel
theorem dL_child_10 : decode cL_child 10 = .ok (.goto 7, 3) := by decide +kernel
theorem dL_child_13 : decode cL_child 13 = .ok (.astore 4, 2) := by decide +kernel
theorem dL_child_15 : decode cL_child 15 = .ok (.iconst 1, 1) := by decide +kernel
theorem dL_child_16 : decode cL_child 16 = .ok (.ireturn, 1) := by decide +kernel
theorem dL_child_17 : decode cL_child 17 = .ok (.iconst 0, 1) := by decide +kernel
theorem dL_child_18 : decode cL_child 18 = .ok (.ireturn, 1) := by decide +kernel
theorem cw_child : Cond.codeWith yL_child cL_child 5 (some .int) [(0, 10, 13, 13)] ∈ gw := gw_tb 1307 (by decide +kernel) (by decide +kernel)
theorem cl_L_13 : Cond.classLink RL 13 NSE ∈ gw := gw_tb 1308 (by decide +kernel) (by decide +kernel)
theorem st_child : Cond.static yL_child ∈ gw := gw_tb 1306 (by decide +kernel) (by decide +kernel)
theorem in_L : Cond.initialized RL ∈ gw := gw_tb 0 (by decide +kernel) (by decide +kernel)
theorem n_monoQ {n : Nf} {R : Room} {own : String} {cc : ByteArray} {nL : Nat} {rt : Option FieldType} {ini : Prop} {QQ QQ' : List Frame → Array Value → State → State → Prop} {pc : Nat} {vs : List (Option Value)} {st : List Value} {ws : va_W} {cells slots : Nat} (h : NX n R own cc nL rt ini QQ pc vs st ws cells slots) (k : ∀ b a s t, QQ b a s t → QQ' b a s t) : NX n R own cc nL rt ini QQ' pc vs st ws cells slots := fun p e s mi args below meth c H locs ls C hi hP hD hS hL => W_mono (h p e s mi args below meth c H locs ls C hi hP hD hS hL) (k _ _ _)
theorem one_l {cA : ClassId} {f : Nat → Int64} {y : Int64} : vp_cell cA (1, .inr (.inl (vp_updL f 0 y))) = vp_cell cA (1, .inr (.inl (fun _ => y))) := by
  rw [vp_cell_l, vp_cell_l]
  unfold arrV
  congr 1
/-- the only place of a row of longs is written -/
theorem n_last1 {n : Nf} {R : Room} {own : String} {cc : ByteArray} {nL : Nat} {rt : Option FieldType} {ini : Prop} {QQ : List Frame → Array Value → State → State → Prop} {pc : Nat} {vs : List (Option Value)} {st : List Value} {ws : va_W} {cells slots i a : Nat} {f : Nat → Int64} {y : Int64} (he : ws[i]? = some (a, .inl (n.2.2.1 2, 1, .inr (.inl f)))) (hd : decode cc pc = .ok (.lastore, 1)) (k : NX n R own cc nL rt ini QQ (pc + 1) vs st (ws.set i (a, .inl (n.2.2.1 2, 1, .inr (.inl (fun _ => y))))) cells slots) : NX n R own cc nL rt ini QQ pc vs (.long y :: .int 0 :: .ref a :: st) ws cells slots := by
  intro p e s mi args below meth c H locs ls C hi hP hD hS hL
  refine va_last C.1 C.2.1 C.2.2.2.2.2.2.2.1 hP hD hS i 2 he rfl (inr_in (by decide)) hd (fun H1 locs1 hP1 hD1 hS1 => ?_)
  have hi' := lst_lt he
  refine k p e s mi args below meth c H1 locs1 ls C hi (fun z q hk => ?_) ⟨fun i1 j1 p1 q1 h1 h2 h3 => ?_, fun z q hk => ?_⟩ hS1 hL
  · by_cases e : z = i
    · subst e
      rw [List.getElem?_set_self hi'] at hk
      cases hk
      have h1 := hP1 z _ (List.getElem?_set_self hi')
      show H1[a]? = some (vp_cell _ _)
      rw [← one_l (f := f)]
      exact h1
    · rw [List.getElem?_set_ne (Ne.symm e)] at hk
      exact hP1 z q (by rw [List.getElem?_set_ne (Ne.symm e)]; exact hk)
  · have key : ∀ (k : Nat) (q : Nat × va_E), (ws.set i (a, .inl (n.2.2.1 2, 1, .inr (.inl (fun _ => y)))))[k]? = some q → ∃ q2, ws[k]? = some q2 ∧ q2.1 = q.1 := by
      intro k q hk
      by_cases e : k = i
      · subst e
        rw [List.getElem?_set_self hi'] at hk
        cases hk
        exact ⟨_, he, rfl⟩
      · rw [List.getElem?_set_ne (Ne.symm e)] at hk
        exact ⟨q, hk, rfl⟩
    obtain ⟨a2, x1, x2⟩ := key _ _ h1
    obtain ⟨b2, x3, x4⟩ := key _ _ h2
    exact hD.1 _ _ _ _ x1 x3 (by rw [x2, x4, h3])
  · by_cases e : z = i
    · subst e
      rw [List.getElem?_set_self hi'] at hk
      cases hk
      have h1 := hD.2 _ _ he
      exact h1
    · rw [List.getElem?_set_ne (Ne.symm e)] at hk
      exact hD.2 _ _ hk
theorem met_ofWH {l : Launch} {y : MethodName} {ws ws' : List Cond} {rm : Room} {Pc : Array Value → State → Prop} {Qc : Array Value → State → Outcome → State → Prop} {mc ms : Nat} {free : Addr → Prop} {cc : ByteArray} {maxL : Nat} {ret : Option FieldType} {hh : List (Nat × Nat × Nat × Nat)}
    (hy : plainName y.cls = true) (hw : ws = Cond.codeWith y cc maxL ret hh :: ws')
    (body : ∀ p e s m args below meth c s₁, BodyLoose p l y (headSpec ws rm) cc maxL ret e s m args below meth c s₁ → c.maxLocals = maxL → Pc args s →
      W p l e (headSpec ws rm).room s m args below meth c s.heap [] 0 0 (MQ below Qc args s mc ms free) (entryFrame m args maxL)) : Met l y ws rm Pc Qc mc ms free := by
  refine MetFree.of_bodyS (code := cc) (maxLocals := maxL) (ret := ret) hy ?_ ?_
  · intro args s m h hn
    obtain ⟨m9, meth, c, hn9, h1, h2, h3, h4, -, h5, h6, -⟩ := Cond.codeWith_spec (atoms_spec (ws := ws) h _ (by rw [hw]; exact List.mem_cons_self))
    cases hn.symm.trans hn9
    exact ⟨meth, c, h1, h2, h3, h4, h5, h6⟩
  · intro p e s m args below meth c s₁ B hml hP _
    have hh0 : s₁.heap = s.heap := by rw [B.state]; rfl
    obtain ⟨t, a1, o, b1, b2, b3⟩ := body p e s m args below meth c s₁ B hml hP s₁ hh0 (Stand.of_body B)
    exact ⟨t, o, a1, b1, b2, b3⟩
/-- the law's own child: its table of handlers -/
def hasT (s : State) : Prop := ∀ (m : MethodId) (a : Array Value) (below : List Frame) (meth : Method) (c : Code), s.frames = .invoking m a :: below → s.vm.method? m = some meth → meth.code = some c → c.exceptionTable.toList = tableOf [(0, 10, 13, 13)]
theorem l_of {n : Nf} {av : List Value} {ws : va_W} {Qp : va_W → Prop} {v : Option Value} {vs : List (Option Value)} (hlen : (lg_sl av).length ≤ 5) (hvs : ent av ++ List.replicate (5 - (ent av).length) none = vs) (hvl : vs.length = 5) (k : NX n (rmn 9 1 6) RL cL_child 5 (some .int) False (fun below args s t => hasT s ∧ ZT n.A s → MQ below (Qn n Qp v) args s 1 6 n.A t) 0 vs [] ws 0 0) : Met n.1 yL_child (Cond.codeWith yL_child cL_child 5 (some .int) [(0, 10, 13, 13)] :: gw) (rmn 9 1 6) (Pz n av ws) (Qn n Qp v) 1 6 n.A := by
  refine met_ofWH (by decide) rfl ?_
  intro p e s mi args below meth c s₁ B hml hp
  obtain ⟨⟨rfl, hq0, hP, hK, hD, hX⟩, hZ⟩ := hp
  have hts := atoms_spec (ws := Cond.codeWith yL_child cL_child 5 (some .int) [(0, 10, 13, 13)] :: gw) B.pre
  have hown : s.vm.findClass RL = some mi.cls := findClass_of_methodNamed B.named
  have X₀ := Stand.of_body B
  have htab := vx_table (x := yL_child) B (hts _ List.mem_cons_self)
  have hno : hasT s := by
    intro m' a' b' me' c' h1 h2 h3
    have e1 := X₀.frames.symm.trans h1
    cases e1
    have e2 := X₀.method.symm.trans h2
    cases e2
    have e3 := X₀.code.symm.trans h3
    cases e3
    exact htab
  rw [lg_entry_eq]
  have hl := lv_entry av (n := 5) hlen
  refine W_mono (k p e s mi _ below meth c s.heap [] _ ⟨B.exec, B.bytes, hml, B.returns, B.notSynchronized, hown, fun w hw => hts w (List.mem_cons_of_mem _ hw), hK, hq0, hX⟩ (fun h => h.elim) hP hD va_S.rf ⟨⟨hl.1, hl.2.1, fun q hq => hl.2.2 q ?_⟩, hvl⟩) (fun t h => h ⟨hno, hZ⟩)
  obtain ⟨j, h1, h2⟩ := mem_prs.mp hq
  refine ent_args av 0 q ⟨j, ?_, h2⟩
  rw [← hvs] at h1
  rcases Nat.lt_or_ge j (ent av).length with z | z
  · rwa [List.getElem?_append_left z] at h1
  · rw [List.getElem?_append_right z] at h1
    rw [List.getElem?_replicate] at h1
    split at h1 <;> simp at h1
theorem ws_44 {n : Nf} {ad : Nat → Nat} {nl : Nat} {ln : Nat → Nat} {m : Sg} {y : Int64} : (wsOf (gOf n ad nl ln) m).set 44 (ad 44, .inl (n.2.2.1 2, 1, .inr (.inl (fun _ => y)))) = wsOf (gOf n ad nl ln) (wrl m 44 y) := ws_wrl (g := gOf n ad nl ln) (p := 44) rfl
/-- child, where there is one -/
theorem l_child1 {n : Nf} {ad : Nat → Nat} {nl : Nat} {ln : Nat → Nat} {m m1 : Sg} {a1 a2 r : Int32} (h4 : nl ≤ 4) (hm : f_X10_child nl ln m a1 a2 = some (r, m1)) : Met n.1 yL_child (Cond.codeWith yL_child cL_child 5 (some .int) [(0, 10, 13, 13)] :: gw) (rmn 9 1 6) (Pz n [.ref (ad 0), .int a1, .int a2, .ref (ad 44)] (wsOf (gOf n ad nl ln) m)) (Qn n (fun w => w = wsOf (gOf n ad nl ln) (wrl m1 44 r.toInt64)) (some (.int 0))) 1 6 n.A := by
  refine l_of (Nat.le_of_ble_eq_true rfl) (vs := [some (.ref (ad 0)), some (.int a1), some (.int a2), some (.ref (ad 44)), none]) rfl rfl ?_
  refine n_aloadn_3 dL_child_0 ?_
  refine n_iconst 0 dL_child_1 rfl ?_
  refine n_aloadn_0 dL_child_2 ?_
  refine n_iloadn_1 dL_child_3 ?_
  refine n_iloadn_2 dL_child_4 ?_
  refine n_callV (As := [.int a1, .int a2]) rfl (cl_ncl (c_X10_child h4 gOf_X hm)) (wsO (g := gOf n ad nl ln) pn_0 pc_0) (q := (RX10, TX10, 11)) rfl ce_X10_child lk_L_7 rfl ⟨Nat.le_of_ble_eq_true rfl, Nat.le_of_ble_eq_true rfl⟩ ⟨Nat.le_of_ble_eq_true rfl, Nat.le_of_ble_eq_true rfl⟩ rfl dL_child_5 ?_
  rintro _ rfl
  refine n_i2l dL_child_8 ?_
  refine n_last1 (i := 44) (f := fun _ => m1.2 44) (by rw [ws_get pn_44]; rfl) dL_child_9 ?_
  rw [ws_44]
  refine n_goto 17 dL_child_10 (by decide) ?_
  refine n_iconst 0 dL_child_17 rfl ?_
  refine n_monoQ (n_iret (Qp := fun w => w = wsOf (gOf n ad nl ln) (wrl m1 44 r.toInt64)) (mc := 1) (ms := 6) rfl (Nat.le_of_ble_eq_true rfl) (Nat.le_of_ble_eq_true rfl) dL_child_18) (fun b a s t h _ => h)
/-- child, where there is none -/
theorem l_child2 {n : Nf} {ad : Nat → Nat} {nl : Nat} {ln : Nat → Nat} {m : Sg} {a1 a2 : Int32} (hl : n.1.stackTraces = false) (hoff : ¬ chOn m a1 a2) : Met n.1 yL_child (Cond.codeWith yL_child cL_child 5 (some .int) [(0, 10, 13, 13)] :: gw) (rmn 9 1 6) (Pz n [.ref (ad 0), .int a1, .int a2, .ref (ad 44)] (wsOf (gOf n ad nl ln) m)) (Qn n (fun w => w = wsOf (gOf n ad nl ln) m) (some (.int 1))) 1 6 n.A := by
  refine l_of (Nat.le_of_ble_eq_true rfl) (vs := [some (.ref (ad 0)), some (.int a1), some (.int a2), some (.ref (ad 44)), none]) rfl rfl ?_
  refine n_aloadn_3 dL_child_0 ?_
  refine n_iconst 0 dL_child_1 rfl ?_
  refine n_aloadn_0 dL_child_2 ?_
  refine n_iloadn_1 dL_child_3 ?_
  refine n_iloadn_2 dL_child_4 ?_
  have kH : ∀ q : Nat, NX n (rmn 9 1 6) RL cL_child 5 (some .int) False (fun below args s t => hasT s ∧ ZT n.A s → MQ below (Qn n (fun w => w = wsOf (gOf n ad nl ln) m) (some (.int 1))) args s 1 6 n.A t) 13 [some (.ref (ad 0)), some (.int a1), some (.int a2), some (.ref (ad 44)), none] [.ref q] (wsOf (gOf n ad nl ln) m) 1 6 := by
    intro q
    refine n_astore_4 dL_child_13 rfl ?_
    refine n_iconst 1 dL_child_15 rfl ?_
    exact n_monoQ (n_iret (Qp := fun w => w = wsOf (gOf n ad nl ln) m) (mc := 1) (ms := 6) rfl (Nat.le_refl _) (Nat.le_refl _) dL_child_16) (fun b a s t h _ => h)
  intro p e s mi args below meth c H locs ls C hi hP hD hS hL T hT X
  by_cases F : hasT s ∧ ZT n.A s
  · have hts := C.2.2.2.2.2.2.1
    have hb : FrameBlind (Pz n [.ref (ad 0), .int a1, .int a2] (wsOf (gOf n ad nl ln) m)) := by
      intro a' U gg mk q
      obtain ⟨⟨q0, q1, qP, qK, qD, qX⟩, qZ⟩ := q
      exact ⟨⟨q0, q1, qP, va_K.moved (u := U) (U := U.calling gg mk a') (Vm.Alike.refl U.vm) qK, qD, XN_stb (U := U.calling gg mk a') qX (va_S.rf (A := n.A)) rfl (State.WarmedH.refl U)⟩, ZT_stb (U := U.calling gg mk a') qZ (va_S.rf (A := n.A)) rfl (State.WarmedH.refl U)⟩
    have hr := vx_runV (l := n.1) (e := e) (below := below) (meth := meth) (cells := 0) (slots := 0) (locs := locs) (As := [.int a1, .int a2]) (rest := [.int 0, .ref (ad 44)]) (R := rmn 9 1 6) (H := H) (g := F0 mi 5 ls (.int a2 :: .int a1 :: .ref (ad 0) :: .int 0 :: .ref (ad 44) :: [])) ⟨C.1, C.2.1, C.2.2.1, C.2.2.2.2.2.1, hts⟩ (x_child hl hoff) (cwV 2 hts (goodV ce_X10_child lk_L_7) rfl rfl rfl ce_X10_child.2.1 ⟨by decide, by decide⟩) ⟨hb, va_recv C.2.2.2.2.2.2.2.1 hP (ci := 10) rfl (wsO (g := gOf n ad nl ln) pn_0 pc_0), fun U hU hW => ⟨⟨rfl, by rw [hU]; exact Nat.le_trans C.2.2.2.2.2.2.2.2.1 hS.1, by rw [hU]; exact hP, va_K.moved hW.alike C.2.2.2.2.2.2.2.1, hD, XN_stb C.2.2.2.2.2.2.2.2.2 hS hU hW⟩, ZT_stb F.2 hS hU hW⟩⟩ rfl rfl hL.1.1 rfl (lv_room (Nat.le_of_ble_eq_true rfl)) dL_child_5 ⟨by decide, by decide⟩
    rcases hr T hT X with ⟨v, st₀, t, T', L, h0, X', hL', e1, e2, hq, stp⟩ | ⟨q, st₀, t, T', L, E, ce, h0, X', hL', e1, e2, ⟨rfl, hP1, hz, hk⟩, hce, hcv, hcl, stp⟩
    · exact hq.elim
    · rw [h0] at hz hk
      have hS1 : va_S n.A s.heap T'.heap (locs ++ L) := ⟨Nat.le_trans hS.1 (by rw [e1]; exact hz), fun q g1 g2 => by rw [e1, hk q (Nat.lt_of_lt_of_le g1 hS.1) g2]; exact hS.2.1 q g1 g2, fun q hq => by
        rcases List.mem_append.mp hq with h | h
        · exact hS.2.2 q h
        · exact hL' q h⟩
      have kk := kH q p e s mi args below meth c T'.heap (locs ++ L) ls C hi (by rw [e1]; exact hP1) hD hS1 hL
      have hct := vx_catch (own := RL) (name := NSE) (E := NSE) (ce := ce) (q := q) (pc := 5) (rest := [.int 0, .ref (ad 44)]) (ls := ls) C.2.2.2.2.2.1 [] ⟨0, 10, 13, 13⟩ [] (F.1 _ _ _ _ _ X.frames X.method X.code) (fun z hz => nomatch hz) (by decide) (by decide) (hts _ cl_L_13) (va_Nw.use rfl F.2.2.2.2.2.2) (by rw [e1]; exact hce) hcv hcl kk
      obtain ⟨t2, s2, q2⟩ := hct T' rfl X'
      exact ⟨t2, stp.trans s2, q2⟩
  · exact ⟨_, Steps.refl _, fun h => absurd h F⟩
