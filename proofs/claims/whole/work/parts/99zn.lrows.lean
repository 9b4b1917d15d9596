/-! the law: its end, its rows -/
def R_law : String := "CountRuleLaw"
def lw_P (b : Addr) (xs : List Int32) (args : Array Value) (s : State) : Prop := args = #[.ref b] ∧ s.IntsAt b xs ∧ xs.length ≤ 3072 ∧ (Jvm.Cond.and given_1 narrow_1).before args s = true
def lw_Q (_ : Array Value) (s : State) (o : Outcome) (t : State) : Prop := o = .returned (some (.int 1)) ∧ Framed s o t [] 601024 7293034
def lw_Z (below : List Frame) (a : Array Value) (s : State) : State → Prop := fun t => ∃ o, t.status = .running ∧ Ended t below o ∧ lw_Q a s o t
/-- the law's own end, with 1 on the stack, nothing written that was there before, its room as the claim has it -/
theorem lw_ret {p : Program} {l : Launch} {e : Env} {s : State} {m : MethodId} {below : List Frame} {meth : Method} {c : Code} {b : Nat} (hx : p.tables.exec = Jvm.exec) (hb : c.code = code) (hr : meth.sig.returnType = ret) (hlocks : meth.locks = false) {pc : Nat} {H : Heap} {ls : Array Slot} (hdg : decode code pc = .ok (.ireturn, 1)) : W p l e room_1 s m #[Value.ref b] below meth c H [] 601024 7293034 (lw_Z below #[Value.ref b] s) (F0 m pc ls [.int 1]) := by
  intro T hT X
  obtain ⟨fs, hret, hrun, hended, hW, hframe⟩ := X.leave (v := some (.int 1)) (hlocks := hlocks) (fun h => by rw [hr] at h; cases h)
  have hmeth' : T.vm.method? m = some meth := X.method'
  refine ⟨T.setFrames fs, ?_, .returned (some (.int 1)), hrun, hended, rfl, ⟨_, rfl⟩, hW, hframe⟩
  jvm_step X.here [X.here.top, hx, hb, hdg, hmeth', hr, ret, narrow_b1]
  (try refine ⟨rfl, ?_⟩); (try refine ⟨rfl, ?_⟩)
  first | (intro acts; rw [hret _ acts rfl rfl rfl]) | rw [hret _ _ rfl rfl rfl]
  exact Steps.refl _
/-- what holds at the law's entry: the machine, the code, the tables' words (any of lw_tbl by 'hts w (by decide +kernel)'), the script of L ints xs at the cell b, what the Statement gives of the start (any of its parts by flat_of_before) -/
def lw_At (p : Program) (s : State) (m : MethodId) (meth : Method) (c : Code) (b L : Nat) (xs : Nat → Int32) : Prop :=
  p.tables.exec = Jvm.exec ∧ c.code = code ∧ meth.sig.returnType = ret ∧ c.maxLocals = 7 ∧ s.vm.findClass R_law = some m.cls ∧ (∀ w ∈ lw_tbl, w.before #[Value.ref b] s = true) ∧ va_X b L xs s s.heap ∧ b < s.heap.size ∧ meth.locks = false ∧ (Jvm.Cond.and given_1 narrow_1).before #[Value.ref b] s = true
/-- what the law's walk may rely on -/
def LF (n : Nf) (b L : Nat) (xs : Nat → Int32) (args : Array Value) (s : State) : Prop := args = #[.ref b] ∧ va_X b L xs s s.heap ∧ b < s.heap.size ∧ n.2.2.2.1 = s.heap.size ∧ ZT n.A s
def QLw (n : Nf) (b L : Nat) (xs : Nat → Int32) : List Frame → Array Value → State → State → Prop := fun below args s t => LF n b L xs args s → lw_Z below args s t
abbrev LX (n : Nf) (b L : Nat) (xs : Nat → Int32) (pc : Nat) (vs : List (Option Value)) (st : List Value) (ws : va_W) (cells slots : Nat) : Prop := NX n room_1 RL cL_law 7 (some .boolean) False (QLw n b L xs) pc vs st ws cells slots
section LXS
variable {n : Nf} {b L i : Nat} {xs : Nat → Int32} {pc : Nat} {vs : List (Option Value)} {st : List Value} {ws : va_W} {cells slots : Nat}
theorem l_sld {j : Int32} (hj : inr j L = true) (hd : decode cL_law pc = .ok (.iaload, 1)) (k : LX n b L xs (pc + 1) vs (.int (xs j.toNatClampNeg) :: st) ws cells slots) : LX n b L xs pc vs (.int j :: .ref b :: st) ws cells slots := by
  intro p e s mi args below meth c H locs ls C hi hP hD hS hL T hT X
  by_cases F : LF n b L xs args s
  · exact va_sld (A := n.A) C.1 C.2.1 F.2.1 F.2.2.1 (fun h => by
      have h : n.2.2.2.1 ≤ b := h
      have := F.2.2.1
      have := F.2.2.2.1
      omega) hS (inr_in hj) hd (k p e s mi args below meth c H locs ls C hi hP hD hS hL) T hT X
  · exact ⟨_, Steps.refl _, fun h => absurd h F⟩
theorem l_slen (hd : decode cL_law pc = .ok (.arraylength, 1)) (k : LX n b L xs (pc + 1) vs (.int (nI L) :: st) ws cells slots) : LX n b L xs pc vs (.ref b :: st) ws cells slots := by
  intro p e s mi args below meth c H locs ls C hi hP hD hS hL T hT X
  by_cases F : LF n b L xs args s
  · exact va_slen (A := n.A) C.1 C.2.1 F.2.1 F.2.2.1 (fun h => by
      have h : n.2.2.2.1 ≤ b := h
      have := F.2.2.1
      have := F.2.2.2.1
      omega) hS hd (k p e s mi args below meth c H locs ls C hi hP hD hS hL) T hT X
  · exact ⟨_, Steps.refl _, fun h => absurd h F⟩
/-- the law's end -/
theorem l_end (h1 : cells ≤ 601024) (h2 : slots ≤ 7293034) (hd : decode cL_law pc = .ok (.ireturn, 1)) : LX n b L xs pc vs [.int 1] ws cells slots := by
  intro p e s mi args below meth c H locs ls C hi hP hD hS hL T hT X
  by_cases F : LF n b L xs args s
  · have ea := F.1
    subst ea
    refine W_mono (Q := lw_Z below #[.ref b] s) (va_forget (fun q hq => ?_) (W.widen h1 h2 (lw_ret C.1 C.2.1 C.2.2.2.1 C.2.2.2.2.1 hd))) (fun t h _ => h) T hT X
    have h : n.2.2.2.1 ≤ q.base := hS.2.2 q hq
    have := F.2.2.2.1
    omega
  · exact ⟨_, Steps.refl _, fun h => absurd h F⟩
theorem gd_child : GoodIn gw (va_wsS RL 38 yL_child (Cond.codeWith yL_child cL_child 5 (some .int) [(0, 10, 13, 13)] :: gw)) := by
  intro w hw
  refine gw_good w ?_
  simp only [va_wsS, List.cons_append, List.nil_append, List.mem_cons] at hw
  rcases hw with rfl | rfl | rfl | rfl | hw
  · exact lk_L_38
  · exact st_child
  · exact in_L
  · exact cw_child
  · exact hw
/-- the law's own child is called -/
theorem l_callC {As : List Value} {Qp : va_W → Prop} {v1 : Option Value} {st0 : List Value} (hst : st0 = As.reverse ++ st) (hc : Met n.1 yL_child (Cond.codeWith yL_child cL_child 5 (some .int) [(0, 10, 13, 13)] :: gw) (rmn 9 1 6) (Pz n As ws) (Qn n Qp v1) 1 6 n.A) (hn : As.length = 4) (hcs : cells + 1 ≤ 601024 ∧ slots + 6 ≤ 7293034) (hw : Nat.ble (st.map fun v => v.category).sum 8 = true) (hd : decode cL_law pc = .ok (.invokestatic 38, 3)) (k : ∀ ws1, Qp ws1 → LX n b L xs (pc + 3) vs (v1.toList ++ st) ws1 (cells + 1) (slots + 6)) : LX n b L xs pc vs st0 ws cells slots := by
  intro p e s mi args below meth c H locs ls C hi hP hD hS hL T hT X
  by_cases F : LF n b L xs args s
  · have hts := C.2.2.2.2.2.2.1
    subst hst
    have hb : FrameBlind (Pz n As ws) := by
      intro a' U gg mk q
      obtain ⟨⟨q0, q1, qP, qK, qD, qX⟩, qZ⟩ := q
      exact ⟨⟨q0, q1, qP, va_K.moved (u := U) (U := U.calling gg mk a') (Vm.Alike.refl U.vm) qK, qD, XN_stb (U := U.calling gg mk a') qX (va_S.rf (A := n.A)) rfl (State.WarmedH.refl U)⟩, ZT_stb (U := U.calling gg mk a') qZ (va_S.rf (A := n.A)) rfl (State.WarmedH.refl U)⟩
    have hr := vx_runSW (l := n.1) (e := e) (below := below) (meth := meth) (cells := cells) (slots := slots) (locs := locs) (As := As) (rest := st) (R := room_1) (H := H) (g := F0 mi pc ls (As.reverse ++ st)) ⟨C.1, C.2.1, C.2.2.1, C.2.2.2.2.2.1, hts⟩ hc (vx_cwSW 4 hts gd_child rfl rfl rfl (by decide +kernel) ⟨Nat.le_of_ble_eq_true rfl, Nat.le_of_ble_eq_true rfl⟩) ⟨hb, fun U hU hW => ⟨⟨rfl, by rw [hU]; exact Nat.le_trans C.2.2.2.2.2.2.2.2.1 hS.1, by rw [hU]; exact hP, va_K.moved hW.alike C.2.2.2.2.2.2.2.1, hD, XN_stb C.2.2.2.2.2.2.2.2.2 hS hU hW⟩, ZT_stb F.2.2.2.2 hS hU hW⟩⟩ rfl hn hL.1.1 rfl (lv_room (Nat.le_of_ble_eq_true hw)) hd hcs
    obtain ⟨v, st₀, t, T', L', h0, X', hL', e1, e2, ⟨hv, ⟨ws1, hq, hP1, hD1⟩, hz, hk⟩, stp⟩ := hr T hT X
    cases hv
    rw [h0] at hz hk
    obtain ⟨t2, a1, b1⟩ := k ws1 hq p e s mi args below meth c T'.heap (locs ++ L') ls C hi (by rw [e1]; exact hP1) hD1 ⟨Nat.le_trans hS.1 (by rw [e1]; exact hz), fun q g1 g2 => by rw [e1, hk q (Nat.lt_of_lt_of_le g1 hS.1) g2]; exact hS.2.1 q g1 g2, fun q hq => by
        rcases List.mem_append.mp hq with h | h
        · exact hS.2.2 q h
        · exact hL' q h⟩ hL T' rfl X'
    exact ⟨t2, stp t2 a1, b1⟩
  · exact ⟨_, Steps.refl _, fun h => absurd h F⟩
theorem sx0 (h : i + 6 ≤ L) (hL : L ≤ 3072) : inr (nI i) L = true := in_nI (by omega) (by omega)
theorem sx1 (h : i + 6 ≤ L) (hL : L ≤ 3072) : inr (nI i + 1) L = true := by
  rw [show (1 : Int32) = nI 1 from rfl, nI_add]; exact in_nI (by omega) (by omega)
theorem sx2 (h : i + 6 ≤ L) (hL : L ≤ 3072) : inr (nI i + 2) L = true := by
  rw [show (2 : Int32) = nI 2 from rfl, nI_add]; exact in_nI (by omega) (by omega)
theorem sx3 (h : i + 6 ≤ L) (hL : L ≤ 3072) : inr (nI i + 3) L = true := by
  rw [show (3 : Int32) = nI 3 from rfl, nI_add]; exact in_nI (by omega) (by omega)
theorem sx4 (h : i + 6 ≤ L) (hL : L ≤ 3072) : inr (nI i + 4) L = true := by
  rw [show (4 : Int32) = nI 4 from rfl, nI_add]; exact in_nI (by omega) (by omega)
theorem sx5 (h : i + 6 ≤ L) (hL : L ≤ 3072) : inr (nI i + 5) L = true := by
  rw [show (5 : Int32) = nI 5 from rfl, nI_add]; exact in_nI (by omega) (by omega)
end LXS
/-- the law's locals -/
abbrev vL (b : Nat) (ad : Nat → Nat) (i : Nat) (o5 o6 : Option Value) : List (Option Value) := [some (.ref b), some (.ref (ad 0)), some (.ref (ad 27)), some (.ref (ad 44)), some (.int (nI i)), o5, o6]
/-- how the law goes on behind a call -/
def KL (n : Nf) (b L : Nat) (xs : Nat → Int32) (ad : Nat → Nat) (i B cells slots : Nat) : Prop := ∀ (ad' : Nat → Nat) (nl : Nat) (ln : Nat → Nat) (m : Sg) (cells' slots' : Nat) (o5 o6 : Option Value), ad' 0 = ad 0 → ad' 27 = ad 27 → ad' 44 = ad 44 → Rel nl ln (B + 60) m → nl ≤ 4 → cells' ≤ cells + 3 → slots' ≤ slots + 261 → LX n b L xs 1762 (vL b ad i o5 o6) [] (wsOf (gOf n ad' nl ln) m) cells' slots'
/-- a call of both, answered alike -/
def CLw (n : Nf) (b L : Nat) (xs : Nat → Int32) (pc : Nat) : Prop := ∀ (ad : Nat → Nat) (nl : Nat) (ln : Nat → Nat) (m : Sg) (i B cells slots : Nat) (o5 o6 : Option Value), i + 6 ≤ L → L ≤ 3072 → Rel nl ln B m → B + 60 ≤ 40000 → nl ≤ 4 → cells ≤ 600000 → slots ≤ 7000000 → KL n b L xs ad i B cells slots → LX n b L xs pc (vL b ad i o5 o6) [] (wsOf (gOf n ad nl ln) m) cells slots
