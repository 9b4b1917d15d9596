/-- room by depth of calls -/
def rmd (d : Nat) : Room := { frames := d, cells := 0, slots := 0, locals := 40 * d }
/-- what is known of constants stays known -/
def Stb (g : Cf) : Prop := ∀ (s U : State) (H : Heap) (locs : List Loc), g.X s → g.q0 ≤ s.heap.size → va_S g.A s.heap H locs → U.heap = H → s.WarmedH U.vm → g.X U
def Qd (g : Cf) (v : Option Value) (m' : Sg) : Array Value → State → Outcome → State → Prop := fun _ st oc t => oc = .returned v ∧ va_P g.D vwCl (wsOf g m') t.heap ∧ va_F g.A st t
def Pd (g : Cf) (av : List Value) (m : Sg) : Array Value → State → Prop := va_Pc av (fun U => g.q0 ≤ U.heap.size ∧ va_P g.D vwCl (wsOf g m) U.heap ∧ va_K g.D vwCl g.tys U ∧ va_D g.A (wsOf g m) ∧ g.X U ∧ Stb g)
/-- a method's contract: with these values, over these cells, it returns v and leaves those -/
def Cl (g : Cf) (d : Nat) (y : MethodName) (cc : ByteArray) (nL : Nat) (rt : Option FieldType) (av : List Value) (m : Sg) (v : Option Value) (m' : Sg) : Prop :=
  Met g.l y (Cond.code y cc nL rt :: gw) (rmd d) (Pd g av m) (Qd g v m') 0 0 g.A
def Cx (g : Cf) (own : String) (cc : ByteArray) (nL : Nat) (rt : Option FieldType) (p : Program) (s : State) (mi : MethodId) (args : Array Value) (meth : Method) (c : Code) : Prop :=
  p.tables.exec = Jvm.exec ∧ c.code = cc ∧ c.maxLocals = nL ∧ meth.sig.returnType = rt ∧ meth.locks = false ∧ s.vm.findClass own = some mi.cls ∧ (∀ w ∈ gw, w.before args s = true) ∧ va_K g.D vwCl g.tys s ∧ g.q0 ≤ s.heap.size ∧ g.X s ∧ Stb g
def GX (g : Cf) (d : Nat) (own : String) (cc : ByteArray) (nL : Nat) (rt : Option FieldType) (v : Option Value) (m' : Sg) (pc : Nat) (vs : List (Option Value)) (st : List Value) (m : Sg) : Prop :=
  ∀ (p : Program) (e : Env) (s : State) (mi : MethodId) (args : Array Value) (below : List Frame) (meth : Method) (c : Code) (H : Heap) (locs : List Loc) (ls : Array Slot),
    Cx g own cc nL rt p s mi args meth c → va_P g.D vwCl (wsOf g m) H → va_D g.A (wsOf g m) → va_S g.A s.heap H locs → LV ls nL vs →
    W p g.l e (rmd d) s mi args below meth c H locs 0 0 (MQ below (Qd g v m') args s 0 0 g.A) (F0 mi pc ls st)
theorem plainX (own : String) (h : plainName own = true) : plainName own = true := h
theorem cl_of {g : Cf} {d : Nat} {y : MethodName} {cc : ByteArray} {nL : Nat} {rt : Option FieldType} {av : List Value} {m m' : Sg} {v : Option Value} (hy : plainName y.cls = true) (hlen : (lg_sl av).length ≤ nL) {vs : List (Option Value)} (hvs : ent av ++ List.replicate (nL - (ent av).length) none = vs) (hvl : vs.length = nL) (k : GX g d y.cls cc nL rt v m' 0 vs [] m) : Cl g d y cc nL rt av m v m' := by
  refine Met.ofW (cc := cc) (maxL := nL) (ret := rt) hy rfl ?_
  intro p e s mi args below meth c s₁ B hml hv
  obtain ⟨rfl, hq0, hP, hK, hD, hX, hSt⟩ := hv
  have hts := atoms_spec (ws := Cond.code y cc nL rt :: gw) B.pre
  have hown : s.vm.findClass y.cls = some mi.cls := findClass_of_methodNamed B.named
  rw [lg_entry_eq]
  have hl := lv_entry av (n := nL) hlen
  refine k p e s mi _ below meth c s.heap [] _ ⟨B.exec, B.bytes, hml, B.returns, B.notSynchronized, hown, fun w hw => hts w (List.mem_cons_of_mem _ hw), hK, hq0, hX, hSt⟩ hP hD va_S.rf ⟨⟨hl.1, hl.2.1, fun q hq => hl.2.2 q ?_⟩, hvl⟩
  obtain ⟨j, h1, h2⟩ := mem_prs.mp hq
  refine ent_args av 0 q ⟨j, ?_, h2⟩
  rw [← hvs] at h1
  rcases Nat.lt_or_ge j (ent av).length with z | z
  · rwa [List.getElem?_append_left z] at h1
  · rw [List.getElem?_append_right z] at h1
    rw [List.getElem?_replicate] at h1
    split at h1 <;> simp at h1
/-- names for what is computed -/
def bnd {α β : Type} (x : α) (k : α → β) : β := k x
def inr (i : Int32) (n : Nat) : Bool := !(decide (i < 0)) && !(decide (n ≤ i.toNatClampNeg))
theorem inr_in {i : Int32} {n : Nat} (h : inr i n = true) : vp_in i n := by
  simp [inr] at h
  intro z
  rcases z with z | z
  · exact absurd z (by simpa using h.1)
  · omega
/-- an int that is a boolean -/
def isB (r : Int32) : Bool := decide (r = 0) || decide (r = 1)
theorem isB_nar {r : Int32} (h : isB r = true) : narrow .boolean (.int r) = .int r := by
  simp [isB] at h
  rcases h with rfl | rfl <;> rfl
theorem isB_fit {r : Int32} (h : isB r = true) : fits .boolean (.int r) = true := by
  simp [isB] at h
  rcases h with rfl | rfl <;> rfl
theorem ifn {α : Type} {b : Bool} {A : Option α} {o : α} (h : (if b = true then A else none) = some o) : b = true ∧ A = some o := by
  cases b <;> simp_all
section GXR
variable {g : Cf} {d : Nat} {own : String} {cc : ByteArray} {nL : Nat} {rt : Option FieldType} {v : Option Value} {m' : Sg} {pc : Nat} {vs : List (Option Value)} {st : List Value} {m : Sg}
/-- a call whose contract is met -/
theorem run_go {p : Program} {e : Env} {R : Room} {s : State} {mi : MethodId} {args : Array Value} {below : List Frame} {meth : Method} {c : Code} {H : Heap} {locs : List Loc} {Q : State → Prop} {ls : Array Slot} {rest st0 : List Value} {a : Array Value} {v1 : Option Value} {m1 : Sg}
    (hr : va_Run p g.l e R s mi args below meth c H locs 0 0 0 0 (F0 mi pc ls st0) rest (Qd g v1 m1 a) g.A) (hS : va_S g.A s.heap H locs)
    (kk : ∀ (H1 : Heap) (locs1 : List Loc), va_P g.D vwCl (wsOf g m1) H1 → va_S g.A s.heap H1 locs1 → W p g.l e R s mi args below meth c H1 locs1 0 0 Q (F0 mi (pc + 3) ls (v1.toList ++ rest))) : W p g.l e R s mi args below meth c H locs 0 0 Q (F0 mi pc ls st0) := by
  intro T hT X
  obtain ⟨v, st₀, t, T', L, h0, X', hL, e1, e2, ⟨hv, hP1, hz, hk⟩, st⟩ := hr T hT X
  cases hv
  rw [h0] at hz hk
  obtain ⟨t2, a1, b1⟩ := kk T'.heap (locs ++ L) (by rw [e1]; exact hP1)
    ⟨Nat.le_trans hS.1 (by rw [e1]; exact hz), fun q h1 h2 => by rw [e1, hk q (Nat.lt_of_lt_of_le h1 hS.1) h2]; exact hS.2.1 q h1 h2, fun q hq => by
      rcases List.mem_append.mp hq with h | h
      · exact hS.2.2 q h
      · exact hL q h⟩ T' rfl X'
  exact ⟨t2, st t2 a1, b1⟩
theorem Pd_blind {av : List Value} : FrameBlind (Pd g av m) := by
  intro a U gg mk q
  obtain ⟨q0, q1, qP, qK, qD, qX, qS⟩ := q
  exact ⟨q0, q1, qP, va_K.moved (u := U) (U := U.calling gg mk a) (Vm.Alike.refl U.vm) qK, qD, qS U (U.calling gg mk a) U.heap [] qX q1 va_S.rf rfl (State.WarmedH.refl U), qS⟩
theorem Pd_at {av : List Value} {p : Program} {s : State} {mi : MethodId} {args : Array Value} {meth : Method} {c : Code} {H : Heap} {locs : List Loc} (C : Cx g own cc nL rt p s mi args meth c) (hP : va_P g.D vwCl (wsOf g m) H) (hD : va_D g.A (wsOf g m)) (hS : va_S g.A s.heap H locs) : ∀ U : State, U.heap = H → s.WarmedH U.vm → Pd g av m av.toArray U := by
  intro U hU hW
  obtain ⟨-, -, -, -, -, -, -, hK, hq0, hX, hSt⟩ := C
  exact ⟨rfl, by rw [hU]; exact Nat.le_trans hq0 hS.1, by rw [hU]; exact hP, va_K.moved hW.alike hK, hD, hSt s U H locs hX hq0 hS hU hW, hSt⟩
theorem D_same {m1 : Sg} (h : va_D g.A (wsOf g m)) : va_D g.A (wsOf g m1) := by
  have key : ∀ (k : Nat) (q : Nat × va_E), (wsOf g m1)[k]? = some q → ∃ q2, (wsOf g m)[k]? = some q2 ∧ q2.1 = q.1 := by
    intro k q hq
    have hk : k < g.N := by
      rcases Nat.lt_or_ge k g.N with z | z
      · exact z
      · rw [List.getElem?_eq_none (by simp [wsOf]; omega)] at hq; cases hq
    rw [ws_get hk] at hq
    cases hq
    exact ⟨_, ws_get hk, rfl⟩
  refine ⟨fun i j a b hi hj hab => ?_, fun k q hq => ?_⟩
  · obtain ⟨a2, h1, h2⟩ := key i a hi
    obtain ⟨b2, h3, h4⟩ := key j b hj
    exact h.1 i j a2 b2 h1 h3 (by rw [h2, h4, hab])
  · obtain ⟨q2, h1, h2⟩ := key k q hq
    rw [← h2]
    exact h.2 k q2 h1
/-- what is known of a method that is called -/
def CeeV (y : MethodName) (C : String) (cb : ByteArray) (nb : Nat) (rb : Option FieldType) (n : Nat) : Prop := (Cond.instanceMethod y ∈ gw ∧ Cond.selects C y y ∈ gw ∧ Cond.initialized C ∈ gw ∧ Cond.code y cb nb rb ∈ gw) ∧ (y.cls = C ∧ y.cls ≠ "java/lang/invoke/MethodHandle" ∧ y.cls ≠ "java/lang/invoke/VarHandle" ∧ (parseMethodDescriptor y.desc).map (fun d => d.parameters.length) = some n) ∧ nb ≤ 21
def CeeS (y : MethodName) (cb : ByteArray) (nb : Nat) (rb : Option FieldType) (n : Nat) : Prop := (Cond.static y ∈ gw ∧ Cond.initialized y.cls ∈ gw ∧ Cond.code y cb nb rb ∈ gw) ∧ (y.cls ≠ "java/lang/invoke/MethodHandle" ∧ y.cls ≠ "java/lang/invoke/VarHandle" ∧ (parseMethodDescriptor y.desc).map (fun d => d.parameters.length) = some n) ∧ nb ≤ 21
theorem goodV {y : MethodName} {C : String} {cb : ByteArray} {nb : Nat} {rb : Option FieldType} {n idx : Nat} (h : CeeV y C cb nb rb n) (hl : Cond.methodLink own idx y ∈ gw) : GoodIn gw (wsV own idx C y (Cond.code y cb nb rb :: gw)) := by
  obtain ⟨⟨h1, h2, h3, h4⟩, -⟩ := h
  intro w hw
  refine gw_good w ?_
  simp only [wsV, List.cons_append, List.nil_append, List.mem_cons] at hw
  rcases hw with rfl | rfl | rfl | rfl | rfl | hw
  · exact hl
  · exact h1
  · exact h2
  · exact h3
  · exact h4
  · exact hw
theorem goodS {y : MethodName} {cb : ByteArray} {nb : Nat} {rb : Option FieldType} {n : Nat} (h : CeeS y cb nb rb n) : GoodIn gw (Cond.code y cb nb rb :: gw) := by
  intro w hw
  refine gw_good w ?_
  rcases List.mem_cons.mp hw with rfl | hw
  · exact h.1.2.2
  · exact hw
theorem g_callV {P ci : Nat} {q : vw_C} {fs : List Value} {y : MethodName} {cb : ByteArray} {nb : Nat} {rb : Option FieldType} {n idx d1 : Nat} {As : List Value} {v1 : Option Value} {m1 : Sg} {st0 : List Value} (hst : st0 = As.reverse ++ .ref (g.ad P) :: st) (hc : Cl g d1 y cb nb rb (.ref (g.ad P) :: As) m v1 m1) (hP0 : P < g.N) (hcell : cellR g P (m.1 P) (m.2 P) = .inr (ci, fs)) (hcl : vwCl[ci]? = some q) (cee : CeeV y q.1 cb nb rb n) (hl : Cond.methodLink own idx y ∈ gw) (hn : As.length = n) (hdd : Nat.ble (d1 + 1) d = true) (hw : Nat.ble (st.map fun v => v.category).sum 8 = true) (hd : decode cc pc = .ok (.invokevirtual idx, 3)) (k : GX g d own cc nL rt v m' (pc + 3) vs (v1.toList ++ st) m1) : GX g d own cc nL rt v m' pc vs st0 m := by
  intro p e s mi args below meth c H locs ls C hP hD hS hL
  have hdd' := Nat.le_of_ble_eq_true hdd
  subst hst
  refine run_go (va_runV (As := As) (rest := st) ⟨C.1, C.2.1, C.2.2.1, C.2.2.2.2.2.1, C.2.2.2.2.2.2.1⟩ hc (cwV n C.2.2.2.2.2.2.1 (goodV cee hl) rfl rfl rfl cee.2.1 ⟨by simp only [rmd]; omega, by have := cee.2.2; simp only [rmd]; omega⟩) ⟨Pd_blind, va_recv C.2.2.2.2.2.2.2.1 hP hcl (by rw [ws_get hP0, hcell]), Pd_at C hP hD hS⟩ rfl hn hL.1.1 rfl (lv_room (Nat.le_of_ble_eq_true hw)) hd ⟨Nat.zero_le _, Nat.zero_le _⟩) hS (fun H1 locs1 hP1 hS1 => ?_)
  exact k p e s mi args below meth c H1 locs1 ls C hP1 (D_same hD) hS1 hL
theorem g_callS {y : MethodName} {cb : ByteArray} {nb : Nat} {rb : Option FieldType} {n idx d1 : Nat} {As : List Value} {v1 : Option Value} {m1 : Sg} {st0 : List Value} (hst : st0 = As.reverse ++ st) (hc : Cl g d1 y cb nb rb As m v1 m1) (cee : CeeS y cb nb rb n) (hl : Cond.methodLink own idx y ∈ gw) (hn : As.length = n) (hdd : Nat.ble (d1 + 1) d = true) (hw : Nat.ble (st.map fun v => v.category).sum 8 = true) (hd : decode cc pc = .ok (.invokestatic idx, 3)) (k : GX g d own cc nL rt v m' (pc + 3) vs (v1.toList ++ st) m1) : GX g d own cc nL rt v m' pc vs st0 m := by
  intro p e s mi args below meth c H locs ls C hP hD hS hL
  have hdd' := Nat.le_of_ble_eq_true hdd
  have hts := C.2.2.2.2.2.2.1
  subst hst
  refine run_go (va_runS (As := As) (rest := st) ⟨C.1, C.2.1, C.2.2.1, C.2.2.2.2.2.1, hts⟩ hc ⟨callB_of n hts (goodS cee) rfl rfl rfl (hts _ cee.1.2.1) (hts _ hl) cee.2.1 ⟨by simp only [rmd]; omega, by have := cee.2.2; simp only [rmd]; omega⟩, hts _ cee.1.1⟩ ⟨Pd_blind, Pd_at C hP hD hS⟩ rfl hn hL.1.1 rfl (lv_room (Nat.le_of_ble_eq_true hw)) hd ⟨Nat.zero_le _, Nat.zero_le _⟩) hS (fun H1 locs1 hP1 hS1 => ?_)
  exact k p e s mi args below meth c H1 locs1 ls C hP1 (D_same hD) hS1 hL
end GXR
