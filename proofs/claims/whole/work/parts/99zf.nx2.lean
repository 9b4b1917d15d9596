/-! code that makes objects: more rows -/
theorem met_mono {l : Launch} {y : MethodName} {ws : List Cond} {rm : Room} {P P' : Array Value → State → Prop} {Q Q' : Array Value → State → Outcome → State → Prop} {mc ms : Nat} {fr : Addr → Prop} (h : Met l y ws rm P Q mc ms fr) (hp : ∀ a s, P' a s → P a s) (hq : ∀ a s o t, P' a s → Q a s o t → Q' a s o t) : Met l y ws rm P' Q' mc ms fr := by
  intro p e h1 h2 h3 s m args below h4 h5 h6 h7
  obtain ⟨k, o, a1, a2, a3, a4, a5⟩ := h p e h1 h2 h3 s m args below h4 h5 (hp _ _ h6) h7
  exact ⟨k, o, a1, a2, a3, hq _ _ _ _ h6 a4, a5⟩
/-- the world of a launch, with so many laws of such lengths -/
def gOf (n : Nf) (ad : Nat → Nat) (nl : Nat) (ln : Nat → Nat) : Cf := (n.1, n.2.1, ad, nl, ln, n.2.2.1, n.2.2.2.1, n.2.2.2.2, XN n.2.2.2.2 n.A)
theorem gOf_X {n : Nf} {ad : Nat → Nat} {nl : Nat} {ln : Nat → Nat} : XOK (gOf n ad nl ln) := fun s h => h.1
theorem gOf_stb {n : Nf} {ad : Nat → Nat} {nl : Nat} {ln : Nat → Nat} : Stb (gOf n ad nl ln) := fun s U H locs h _ hS hU hW => XN_stb h hS hU hW
theorem cl_ncl {n : Nf} {ad : Nat → Nat} {nl : Nat} {ln : Nat → Nat} {d : Nat} {y : MethodName} {cc : ByteArray} {nL : Nat} {rt : Option FieldType} {av : List Value} {m m' : Sg} {v : Option Value} (h : Cl (gOf n ad nl ln) d y cc nL rt av m v m') : NCl n d y cc nL rt av (wsOf (gOf n ad nl ln) m) 0 0 (fun ws => ws = wsOf (gOf n ad nl ln) m') v := by
  refine met_mono h (fun a s hp => ?_) (fun a s o t hp hq => ?_)
  · obtain ⟨q0, q1, qP, qK, qD, qX⟩ := hp
    exact ⟨q0, q1, qP, qK, qD, qX, gOf_stb⟩
  · obtain ⟨q0, q1, qP, qK, qD, qX⟩ := hp
    exact ⟨hq.1, ⟨_, rfl, hq.2.1, D_same (g := gOf n ad nl ln) qD⟩, hq.2.2⟩
section NXT
variable {n : Nf} {R : Room} {own : String} {cc : ByteArray} {nL : Nat} {rt : Option FieldType} {ini : Prop} {QQ : List Frame → Array Value → State → State → Prop} {pc : Nat} {vs : List (Option Value)} {st : List Value} {ws : va_W} {cells slots : Nat}
theorem n_iald {i a N9 : Nat} {f : Nat → Int32} {j : Int32} (he : ws[i]? = some (a, .inl (n.2.2.1 0, N9, .inl f))) (hin : inr j N9 = true) (hd : decode cc pc = .ok (.iaload, 1)) (k : NX n R own cc nL rt ini QQ (pc + 1) vs (.int (f j.toNatClampNeg) :: st) ws cells slots) : NX n R own cc nL rt ini QQ pc vs (.int j :: .ref a :: st) ws cells slots := fun p e s mi args below meth c H locs ls C hi hP hD hS hL => va_iald C.1 C.2.1 C.2.2.2.2.2.2.2.1 hP i 0 he rfl (inr_in hin) hd (k p e s mi args below meth c H locs ls C hi hP hD hS hL)
theorem n_lald {i a N9 : Nat} {f : Nat → Int64} {j : Int32} (he : ws[i]? = some (a, .inl (n.2.2.1 2, N9, .inr (.inl f)))) (hin : inr j N9 = true) (hd : decode cc pc = .ok (.laload, 1)) (k : NX n R own cc nL rt ini QQ (pc + 1) vs (.long (f j.toNatClampNeg) :: st) ws cells slots) : NX n R own cc nL rt ini QQ pc vs (.int j :: .ref a :: st) ws cells slots := fun p e s mi args below meth c H locs ls C hi hP hD hS hL => va_lald C.1 C.2.1 C.2.2.2.2.2.2.2.1 hP i 2 he rfl (inr_in hin) hd (k p e s mi args below meth c H locs ls C hi hP hD hS hL)
theorem n_alen {i a t0 : Nat} {cA : ClassId} {x : vp_A} {ty : FieldType} (z : Int32) (he : ws[i]? = some (a, .inl (cA, x))) (ht : (tysC n.2.2.1)[t0]? = some (cA, ty)) (hz : Int32.ofNat x.1 = z) (hd : decode cc pc = .ok (.arraylength, 1)) (k : NX n R own cc nL rt ini QQ (pc + 1) vs (.int z :: st) ws cells slots) : NX n R own cc nL rt ini QQ pc vs (.ref a :: st) ws cells slots := fun p e s mi args below meth c H locs ls C hi hP hD hS hL => va_alen C.1 C.2.1 C.2.2.2.2.2.2.2.1 hP i t0 he ht hz hd (k p e s mi args below meth c H locs ls C hi hP hD hS hL)
theorem n_astq {i iv a v N9 : Nat} {f : Nat → Option Nat} {fs : List Value} {j : Int32} (he : ws[i]? = some (a, .inl (n.2.2.1 3, N9, .inr (.inr (.inr (.inr f)))))) (hv : ws[iv]? = some (v, .inr (4, fs))) (hin : inr j N9 = true) (hd : decode cc pc = .ok (.aastore, 1)) (f' : Nat → Option Nat) (hf : ∀ k, f' k = if k = j.toNatClampNeg then some v else f k) (k : NX n R own cc nL rt ini QQ (pc + 1) vs st (ws.set i (a, .inl (n.2.2.1 3, N9, .inr (.inr (.inr (.inr f')))))) cells slots) : NX n R own cc nL rt ini QQ pc vs (.ref v :: .int j :: .ref a :: st) ws cells slots := by
  intro p e s mi args below meth c H locs ls C hi hP hD hS hL
  refine va_astq (r := (RX4, TX4, 3)) C.1 C.2.1 C.2.2.2.2.2.2.2.1 hP hD hS i 3 iv 4 he rfl hv rfl (inr_in hin) hd (fun H1 locs1 hP1 hD1 hS1 => ?_)
  have ef : f' = fun k => if k = j.toNatClampNeg then some v else f k := funext hf
  subst ef
  exact k p e s mi args below meth c H1 locs1 ls C hi hP1 hD1 hS1 hL
theorem n_mmax {x y : Int32} {idx : Nat} (hl : Cond.methodLink own idx yJ9_max_7cf53 ∈ gw) (h1 : 1 ≤ R.frames) (h2 : 21 ≤ R.locals) (hw : Nat.ble (st.map fun v => v.category).sum 8 = true) (hc : cells ≤ R.cells) (hs : slots ≤ R.slots) (hd : decode cc pc = .ok (.invokestatic idx, 3)) (k : NX n R own cc nL rt ini QQ (pc + 3) vs (.int (if x < y then y else x) :: st) ws cells slots) : NX n R own cc nL rt ini QQ pc vs (.int y :: .int x :: st) ws cells slots := by
  intro p e s mi args below meth c H locs ls C hi hP hD hS hL
  have h3 := Nat.le_of_ble_eq_true hw
  have hts := C.2.2.2.2.2.2.1
  rw [mx_i] at hl
  exact va_mmax C.1 C.2.1 (C.2.2.1.trans hL.1.1.symm) C.2.2.2.2.2.1 (hts _ hl) (hts _ mt_1.1) (hts _ mt_i) (hts _ mt_1.2) h1 (by omega) hc hs hd (k p e s mi args below meth c H locs ls C hi hP hD hS hL)
/-- a method is called -/
theorem n_callV {y : MethodName} {cb : ByteArray} {nb d1 mc ms na idx a i ci : Nat} {rb : Option FieldType} {fs : List Value} {q : vw_C} {As : List Value} {Qp : va_W → Prop} {v1 : Option Value} {st0 : List Value} (hst : st0 = As.reverse ++ .ref a :: st) (hc : NCl n d1 y cb nb rb (.ref a :: As) ws mc ms Qp v1) (he : ws[i]? = some (a, .inr (ci, fs))) (hcl : vwCl[ci]? = some q) (cee : CeeV y q.1 cb nb rb na) (h4 : Cond.methodLink own idx y ∈ gw) (hn : As.length = na) (hR : d1 + 1 ≤ R.frames ∧ 40 + 40 * d1 ≤ R.locals) (hcs : cells + mc ≤ R.cells ∧ slots + ms ≤ R.slots) (hw : Nat.ble (st.map fun v => v.category).sum 8 = true) (hd : decode cc pc = .ok (.invokevirtual idx, 3)) (k : ∀ ws1, Qp ws1 → NX n R own cc nL rt ini QQ (pc + 3) vs (v1.toList ++ st) ws1 (cells + mc) (slots + ms)) : NX n R own cc nL rt ini QQ pc vs st0 ws cells slots := by
  intro p e s mi args below meth c H locs ls C hi hP hD hS hL T hT X
  have hts := C.2.2.2.2.2.2.1
  subst hst
  have hb : FrameBlind (Pn n (.ref a :: As) ws) := by
    intro a' U gg mk q
    obtain ⟨q0, q1, qP, qK, qD, qX⟩ := q
    exact ⟨q0, q1, qP, va_K.moved (u := U) (U := U.calling gg mk a') (Vm.Alike.refl U.vm) qK, qD, XN_stb (U := U.calling gg mk a') qX (va_S.rf (A := n.A)) rfl (State.WarmedH.refl U)⟩
  have hr := va_runV (l := n.1) (e := e) (below := below) (meth := meth) (cells := cells) (slots := slots) (locs := locs) (As := As) (rest := st) (R := R) (H := H) (g := F0 mi pc ls (As.reverse ++ .ref a :: st)) ⟨C.1, C.2.1, C.2.2.1, C.2.2.2.2.2.1, hts⟩ hc (cwV na hts (goodV cee h4) rfl rfl rfl cee.2.1 ⟨hR.1, by have := cee.2.2; have := hR.2; simp only [rmn]; omega⟩) ⟨hb, va_recv C.2.2.2.2.2.2.2.1 hP hcl he, fun U hU hW => ⟨rfl, by rw [hU]; exact Nat.le_trans C.2.2.2.2.2.2.2.2.1 hS.1, by rw [hU]; exact hP, va_K.moved hW.alike C.2.2.2.2.2.2.2.1, hD, XN_stb C.2.2.2.2.2.2.2.2.2 hS hU hW⟩⟩ rfl hn hL.1.1 rfl (lv_room (Nat.le_of_ble_eq_true hw)) hd hcs
  obtain ⟨v, st₀, t, T', L, h0, X', hL', e1, e2, ⟨hv, ⟨ws1, hq, hP1, hD1⟩, hz, hk⟩, stp⟩ := hr T hT X
  cases hv
  rw [h0] at hz hk
  obtain ⟨t2, a1, b1⟩ := k ws1 hq p e s mi args below meth c T'.heap (locs ++ L) ls C hi (by rw [e1]; exact hP1) hD1 ⟨Nat.le_trans hS.1 (by rw [e1]; exact hz), fun q g1 g2 => by rw [e1, hk q (Nat.lt_of_lt_of_le g1 hS.1) g2]; exact hS.2.1 q g1 g2, fun q hq => by
      rcases List.mem_append.mp hq with h | h
      · exact hS.2.2 q h
      · exact hL' q h⟩ hL T' rfl X'
  exact ⟨t2, stp t2 a1, b1⟩
end NXT
theorem n_iret {n : Nf} {R : Room} {own : String} {cc : ByteArray} {nL : Nat} {ini : Prop} {pc : Nat} {vs : List (Option Value)} {ws : va_W} {cells slots mc ms : Nat} {Qp : va_W → Prop} {x : Int32} (hq : Qp ws) (h1 : cells ≤ mc) (h2 : slots ≤ ms) (hd : decode cc pc = .ok (.ireturn, 1)) : NX n R own cc nL (some .int) ini (fun below args s => MQ below (Qn n Qp (some (.int x))) args s mc ms n.A) pc vs [.int x] ws cells slots := by
  intro p e s mi args below meth c H locs ls C hi hP hD hS hL
  refine W.widen h1 h2 ?_
  exact W.iret C.1 C.2.1 C.2.2.2.1 (fun t ht hW => ⟨rfl, ⟨ws, hq, by rw [ht]; exact hP, hD⟩, hS.F ht⟩) hS.2.2 hd C.2.2.2.2.1
