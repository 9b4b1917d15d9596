/-! laws' texts: a clause -/
section
variable {nl B B' : Nat} {ln : Nat → Nat} {m m1 m2 m' mc mm mc0 mm0 mc1 mm1 mc2 mm2 : Sg} {j w u : Nat} {a a1 a2 a3 a4 r x x2 c v v1 v2 op : Int32} {L p q k k1 k2 i n off b N t P d f g p' n' p1 : Nat} {tx lt F G : Nat → Int32} {z : Bool} {s s1 s2 : List Int32} {R : Nat → Sg → Int32 → Int32 → Option (Int32 × Sg)} {o : Option Int32}
def sM (a b : Nat) : Bool := a == 27 && (b == 10 || b == 11 || b == 12 || b == 14 || b == 17)
theorem sLM (f : Fr sL m m') : Fr sM m m' := Fr_mono (fun p k h => by
  cases e : sL p k with
  | false => rfl
  | true =>
    have : sM p k = true := by
      unfold sL at e
      unfold sM
      simp only [Bool.and_eq_true, Bool.or_eq_true, beq_iff_eq] at e ⊢
      omega
    rw [this] at h; cases h) f
theorem sM_Mx (M : Mx tx L z off m) (f : Fr sM m m') : Mx tx L z off m' := by
  refine ⟨M.1, by rw [f.1 27 5 rfl]; exact M.2.1, by rw [f.1 27 8 rfl]; exact M.2.2.1, by rw [f.1 27 9 rfl]; exact M.2.2.2.1, fun k hk => ?_⟩
  rw [f.1 (rwZ z) _ (by cases z <;> rfl)]
  exact M.2.2.2.2 k hk
/-- what the model has found so far -/
def FS (mm : Sg) (o : Option Int32) : Prop := mm.1 27 17 = (match o with
  | some _ => 1
  | none => 0) ∧ mm.1 27 14 = o.getD 0
theorem FS_eq (h : FS m o) (e1 : m'.1 27 17 = m.1 27 17) (e2 : m'.1 27 14 = m.1 27 14) : FS m' o := ⟨e1.trans h.1, e2.trans h.2⟩
theorem FS_L (h : FS m o) (f : Fr sL m m') : FS m' o := FS_eq h (f.1 27 17 rfl) (f.1 27 14 rfl)
def CRl (L : Nat) (lt : Nat → Int32) (p n : Nat) (o : Option Int32) (mc mm mc' mm' : Sg) : Prop := Fr sK mc mc' ∧ Fr sM mm mm' ∧ ((∃ p' cl, (cCode cl).length + p ≤ p' ∧ LSt L 0 p' (n + (cCode cl).length) mc' mm' ∧ At (mc'.1 12) n (cCode cl) ∧ (∀ i, i < n → mc'.1 12 i = mc.1 12 i) ∧ okC lt cl ∧ FS mm' (o.or (fnd lt [cl]))) ∨ LWb mc' mm')
theorem mK_v (hf : m.1 27 11 = -1) (h13 : m.1 27 13 = 121) (hF : FS m o) : ∃ m', mK 121 m x v = some m' ∧ Fr sM m m' ∧ m'.1 27 10 = m.1 27 10 ∧ m'.1 27 11 = m.1 27 11 ∧ m'.1 27 12 = m.1 27 12 ∧ FS m' (o.or (if x = 0 then none else some v)) := by
  unfold mK
  rw [if_pos hf, h13]
  cases o with
  | some y =>
    have e : m.1 27 17 = 1 := hF.1
    rw [e, if_neg n10]
    exact ⟨m, rfl, Fr.rf, rfl, rfl, rfl, hF⟩
  | none =>
    have e : m.1 27 17 = 0 := hF.1
    rw [e, if_pos rfl, if_pos rfl]
    by_cases y : x = 0
    · rw [if_pos y, if_pos y]
      exact ⟨m, rfl, Fr.rf, rfl, rfl, rfl, hF⟩
    · rw [if_neg y, if_neg y, bnd_eq, bnd_eq]
      exact ⟨_, rfl, Fr.tr (m1 := wr m 27 17 1) (Fr.w1 rfl) (Fr.w1 rfl), by rw [wr_at, pk_un (by decide), wr_at, pk_un (by decide)], by rw [wr_at, pk_un (by decide), wr_at, pk_un (by decide)], by rw [wr_at, pk_un (by decide), wr_at, pk_un (by decide)], by rw [wr_at, pk_un (by decide), wr_at, pk_us]; rfl, by rw [wr_at, pk_us]; rfl⟩
theorem ws_app (S : LSt L d p (n + s.length) mc mm) (hp : n + s.length + 1 ≤ p) (hL : L ≤ 240) (hA : At (mc.1 12) n s) : ∃ mc', f_X6_writeSign mc a = some mc' ∧ Fr sK mc mc' ∧ LSt L d p (n + (s ++ [10000 + a]).length) mc' mm ∧ At (mc'.1 12) n (s ++ [10000 + a]) ∧ ∀ i, i < n + s.length → mc'.1 12 i = mc.1 12 i := by
  have h3 := S.2.2.1
  have h7 := S.2.2.2.2.2.2.1
  have el : (s ++ [10000 + a]).length = s.length + 1 := by rw [List.length_append]; rfl
  refine ⟨_, cws_v h7 (by omega), fr_w12, ?_, ?_, ?_⟩
  · rw [el, ← Nat.add_assoc]
    exact LSt_w S hp
  · rw [w12]
    exact At_app (At_eq hA fun i hi => by rw [pk_un (by omega)]) At_w
  · intro i hi
    rw [w12, pk_un (by omega)]
/-- the end of the component's clause -/
def cE (x4 : Int32) (m3 : Sg) : Option Sg := (if x4 = 0 then calv (f_X6_writeSign m3 59) (fun m7 => some m7) else
  calv (f_X2_needs 11 m3 63) (fun m8 => calv (f_X6_writeSign m8 63) (fun m9 => calv (rv (rec6 64 4 m9 0 0)) (fun m10 => calv (f_X6_writeSign m10 59) (fun m7 => some m7)))))
theorem clause_c : f_X6_readClause m = calv (f_X2_needs 11 m 121) (fun m1 => calv (f_X2_needs 11 m1 58) (fun m2 => cal (rec6 64 0 m2 0 1) (fun x4 m3 => cE x4 m3))) := rfl
theorem cE_b (h : FL m) : ∃ m', cE x m = some m' ∧ FO m m' := by
  unfold cE
  by_cases y : x = 0
  · rw [if_pos y]
    obtain ⟨m', w1, w2⟩ := fws_b (a := 59) h
    exact ⟨m', by rw [w1, calv_eq], w2⟩
  · rw [if_neg y, fneeds_b h (by decide), calv_eq]
    obtain ⟨m1, w1, w2⟩ := fws_b (a := 63) h
    obtain ⟨m2, w3, w4⟩ := fsum_b (f := 61) (a1 := 0) (a2 := 0) (FO_FL h w2)
    obtain ⟨m3, w5, w6⟩ := fws_b (a := 59) (FO_FL (FO_FL h w2) w4)
    have w3 : rec6 64 4 m1 0 0 = some (0, m2) := w3
    refine ⟨m3, ?_, FO_tr (FO_tr w2 w4) w6⟩
    rw [w1, calv_eq, w3]
    show calv (some m2) _ = _
    rw [calv_eq, w5, calv_eq]
theorem tail_b (h : FL m) : ∃ m', cal (rec6 64 0 m 0 1) (fun x4 m3 => cE x4 m3) = some m' ∧ FO m m' := by
  obtain ⟨m1, w1, w2⟩ := fcond_b (f := 58) (a1 := 0) (a2 := 1) h
  have w1 : rec6 64 0 m 0 1 = some (0, m1) := w1
  obtain ⟨m2, w3, w4⟩ := cE_b (x := 0) (FO_FL h w2)
  exact ⟨m2, by rw [w1, cal_eq, w3], FO_tr w2 w4⟩
theorem spt_0 : spt 0 c = -1 ↔ ¬ c = 121 := by
  constructor
  · intro h e
    subst e
    exact absurd h (by decide)
  · intro h
    rcases spt_cases 0 c with y | ⟨i, i1, i2, i3⟩
    · exact y
    · have i1 : i < 1 := i1
      have : i = 0 := by omega
      subst this
      exact absurd (i3.symm.trans (by decide)) h
theorem EV_ok (h : EV lt s v k) (hk : k ≤ 18) (hc : ∀ c, c ∈ s → CO c) : okS lt s ∧ vl lt s = v := by
  have e := h [] (by simp; omega)
  exact ⟨⟨hc, v, e⟩, vl_run e⟩
theorem clause_s (hb : Bt tx L) (T : Tx tx L mc) (M : Mx tx L z off mm) (S : LSt L 0 p n mc mm) (h13 : mm.1 27 13 = 121) (hF : FS mm o) : ∃ mc' mm', f_X6_readClause mc = some mc' ∧ f_X11_clause mm = some mm' ∧ CRl L (l6m (mm.1 31)) p n o mc mm mc' mm' := by
  obtain ⟨S1, S2, S3, S4, S5, S6, S7, S8⟩ := S
  have l240 := T.1
  have qge := sk_ge (tx := tx) (L := L) (p := p)
  have qle := sk_le (tx := tx) S3
  have eN := needs_v (a := 121) T S1 S3 S2
  have eL := look_v hb M S4 S3
  generalize sk tx L p = q at *
  have Tq : ∀ v, Tx tx L (wr mc 11 1 v) := fun v => Tx_wr T (by decide) (by decide)
  have Mq : ∀ v, Mx tx L z off (wr mm 27 10 v) := fun v => Mx_wr M (by decide) (by decide) (by decide)
  have c2 : ∀ v, (wr mc 11 1 v).1 11 2 = -1 := fun v => by rw [wr_at, pk_un (by decide)]; exact S2
  have c3 : ∀ v, (wr mc 11 1 v).1 10 2 = nI n := fun v => by rw [wr_ne (by decide)]; exact S7
  have d1 : (wr mm 27 10 (nI q)).1 27 10 = nI q := by rw [wr_at, pk_us]
  have d2 : ∀ v, (wr mm 27 10 v).1 27 11 = -1 := fun v => by rw [wr_at, pk_un (by decide)]; exact S5
  have d3 : ∀ v, (wr mm 27 10 v).1 27 12 = nI 0 := fun v => by rw [wr_at, pk_un (by decide)]; exact S6
  have fcq : ∀ v, Fr sK mc (wr mc 11 1 v) := fun v => Fr.w1 rfl
  have fmq : ∀ v, Fr sM mm (wr mm 27 10 v) := fun v => Fr.w1 rfl
  have am : f_X11_isAmong 0 (wr mm 27 10 (nI q)) (chr tx L q) = _ := amg_v (by decide)
  rw [clause_c, mclause_e, eN, eL, cal_eq, am, cal_eq]
  by_cases y : chr tx L q = 121
  · have qL : q < L := chr_m1 (by rw [y]; decide)
    rw [if_pos y, calv_eq, if_neg (fun h => spt_0.mp h y), if_neg n10, d1, nI_1, wr_wr2, bnd_eq, y]
    have rge := sk_ge (tx := tx) (L := L) (p := q + 1)
    have rle := sk_le (tx := tx) (show q + 1 ≤ L by omega)
    have eN2 := needs_v (a := 58) (Tq (nI (q + 1))) (p := q + 1) (by rw [wr_at, pk_us]) (by omega) (c2 _)
    have eT2 := mtakes_v (a := 58) hb (Mq (nI (q + 1))) (p := q + 1) (by rw [wr_at, pk_us]) (by omega) (d2 _)
    rw [wr_wr2, wr_wr2] at eN2 eT2
    generalize sk tx L (q + 1) = h at *
    by_cases y2 : chr tx L h = 58
    · have hL : h < L := chr_m1 (by rw [y2]; decide)
      rw [if_pos y2] at eN2 eT2
      rw [eN2, eT2, calv_eq, cal_eq, if_neg n10]
      obtain ⟨r, mc1, mm1, e1, f1, f2, st⟩ := start_s (x2 := 121) hb (Tq (nI (h + 1))) (Mq (nI (h + 1))) (p := h + 1) (n := n) ⟨by rw [wr_at, pk_us], c2 _, by omega, by rw [wr_at, pk_us], d2 _, d3 _, c3 _, by omega⟩
      have e1 : rec6 64 0 (wr mc 11 1 (nI (h + 1))) 0 1 = some (r, mc1) := e1
      have e31 : (wr mm 27 10 (nI (h + 1))).1 31 = mm.1 31 := wr_ne (by decide)
      have e12 : ∀ i, (wr mc 11 1 (nI (h + 1))).1 12 i = mc.1 12 i := fun i => by rw [wr_ne (by decide)]
      rw [e31] at st
      rw [e1, cal_eq]
      have fc1 := (fcq (nI (h + 1))).tr f1
      have fm1 := (fmq (nI (h + 1))).tr (sLM f2)
      have hF1 : FS mm1 o := FS_L (FS_eq hF (by rw [wr_at, pk_un (by decide)]) (by rw [wr_at, pk_un (by decide)])) f2
      have h131 : mm1.1 27 13 = 121 := by rw [fm1.1 27 13 rfl]; exact h13
      have T1 := sK_Tx T fc1
      have M1 := sM_Mx M fm1
      rcases st with ⟨r0, v, p', s1', s, g1, g2, g3, g4, g5, g6⟩ | ⟨r1, v, p', bv, s1', s, g1, g2, g3, g4, g5, g6⟩ | ⟨hw, s1'⟩
      · subst r0
        rw [s1']
        obtain ⟨mm2, k1, k2, k3, k4, k5, k6⟩ := mK_v (x := 1) (v := v) g2.2.2.2.2.1 h131 hF1
        rw [if_neg n10] at k6
        obtain ⟨mc2, w1, w2, w3, w4, w5⟩ := ws_app (a := 59) g2 (by omega) l240 g3
        obtain ⟨ok1, ok2⟩ := EV_ok g6 (by decide) g5
        refine ⟨mc2, mm2, ?_, k1, fc1.tr w2, fm1.tr k2, .inl ⟨p', (none, s), ?_, ?_, w4, ?_, ⟨ok1, fun q hq => by cases hq⟩, ?_⟩⟩
        · unfold cE
          rw [if_pos rfl, w1, calv_eq]
        · have : (cCode (none, s)).length = s.length + 1 := by
            show (s ++ [(10059 : Int32)]).length = _
            rw [List.length_append]; rfl
          omega
        · obtain ⟨u1, u2, u3, u4, u5, u6, u7, u8⟩ := w3
          exact ⟨u1, u2, u3, k3.trans u4, k4.trans u5, k5.trans u6, u7, u8⟩
        · intro i hi
          rw [w5 i (by omega), g4 i hi, e12]
        · have : fnd (l6m (mm.1 31)) [(none, s)] = some v := by
            show some (vl _ s) = _
            rw [ok2]
          rw [this]; exact k6
      · subst r1
        rw [s1']
        have ege := sk_ge (tx := tx) (L := L) (p := p')
        obtain ⟨u1, u2, u3, u4, u5, u6, u7, u8⟩ := g2
        have ele := sk_le (tx := tx) u3
        have eN3 := needs_v (a := 63) T1 u1 u3 u2
        have eT3 := mtakes_v (a := 63) hb M1 u4 u3 u5
        generalize sk tx L p' = e at *
        unfold cE mQ
        rw [if_neg n10, eN3, eT3]
        by_cases y3 : chr tx L e = 63
        · have eL : e < L := chr_m1 (by rw [y3]; decide)
          rw [if_pos y3, if_pos y3, calv_eq, cal_eq, if_neg n10]
          have S2 : LSt L 0 (e + 1) (n + s.length) (wr mc1 11 1 (nI (e + 1))) (wr mm1 27 10 (nI (e + 1))) := ⟨by rw [wr_at, pk_us], by rw [wr_at, pk_un (by decide)]; exact u2, by omega, by rw [wr_at, pk_us], by rw [wr_at, pk_un (by decide)]; exact u5, by rw [wr_at, pk_un (by decide)]; exact u6, by rw [wr_ne (by decide)]; exact u7, by omega⟩
          obtain ⟨mc2, w1, w2, w3, w4, w5⟩ := ws_app (a := 63) S2 (by omega) l240 (by rw [wr_ne (by decide)]; exact g3)
          have fc2 : Fr sK mc mc2 := (fc1.tr (m2 := wr mc1 11 1 (nI (e + 1))) (Fr.w1 rfl)).tr w2
          have fm2 : Fr sM mm (wr mm1 27 10 (nI (e + 1))) := fm1.tr (Fr.w1 rfl)
          rw [w1, calv_eq]
          obtain ⟨v2, mc3, mm3, r1, r2, f3, f4, g7⟩ := sum_all hb 6 0 64 64 (by decide) (by decide) (by decide) mc2 (wr mm1 27 10 (nI (e + 1))) (e + 1) _ (sK_Tx T fc2) (sM_Mx M fm2) w3
          have r1 : rec6 64 4 mc2 0 0 = some (0, mc3) := r1
          have e31' : (wr mm1 27 10 (nI (e + 1))).1 31 = mm.1 31 := funext fun i => fm2.1 31 i rfl
          rw [e31'] at g7
          have fc3 := fc2.tr f3
          have fm3 := fm2.tr (sLM f4)
          rw [r1, r2, cal_eq]
          show ∃ mc' mm', calv (some mc3) _ = _ ∧ _
          rw [calv_eq]
          rcases g7 with ⟨p3, s2, j1, j2, j3, j4, j5, j6⟩ | hw
          · have hF3 : FS mm3 o := FS_L (FS_eq hF1 (by rw [wr_at, pk_un (by decide)]) (by rw [wr_at, pk_un (by decide)])) f4
            obtain ⟨mm4, k1, k2, k3, k4, k5, k6⟩ := mK_v (x := v) (v := v2) j2.2.2.2.2.1 (by rw [fm3.1 27 13 rfl]; exact h13) hF3
            have el1 : (s ++ [(10000 + 63 : Int32)]).length = s.length + 1 := by rw [List.length_append]; rfl
            have hA : At (mc3.1 12) n (s ++ [10000 + 63] ++ s2) := At_app (At_eq w4 fun i hi => j4 i hi) j3
            have el2 : (s ++ [(10000 + 63 : Int32)] ++ s2).length = s.length + 1 + s2.length := by rw [List.length_append, el1]
            have S3 : LSt L 0 p3 (n + (s ++ [(10000 + 63 : Int32)] ++ s2).length) mc3 mm3 := by
              rw [el2, show n + (s.length + 1 + s2.length) = n + (s.length + 1) + s2.length by omega, ← el1]
              exact j2
            obtain ⟨mc4, x1, x2, x3, x4, x5⟩ := ws_app (a := 59) S3 (by rw [el2]; omega) l240 hA
            obtain ⟨ok1, ok2⟩ := EV_ok g6 (by decide) g5
            obtain ⟨ok3, ok4⟩ := EV_ok j6 (by decide) j5
            refine ⟨mc4, mm4, by rw [x1, calv_eq], k1, fc3.tr x2, fm3.tr k2, .inl ⟨p3, (some s, s2), ?_, ?_, x4, ?_, ⟨ok3, fun q hq => by cases hq; exact ok1⟩, ?_⟩⟩
            · have : (cCode (some s, s2)).length = s.length + 1 + s2.length + 1 := by
                show (s ++ [(10063 : Int32)] ++ s2 ++ [(10059 : Int32)]).length = _
                rw [List.length_append, List.length_append, List.length_append]; rfl
              omega
            · obtain ⟨a1, a2, a3, a4, a5, a6, a7, a8⟩ := x3
              exact ⟨a1, a2, a3, k3.trans a4, k4.trans a5, k5.trans a6, a7, a8⟩
            · intro i hi
              rw [x5 i (by omega), j4 i (by rw [el1]; omega), w5 i (by omega), wr_ne (by decide), g4 i hi, e12]
            · have : fnd (l6m (mm.1 31)) [(some s, s2)] = (if v = 0 then none else some v2) := by
                show (if vl (l6m (mm.1 31)) s = 0 then none else some (vl (l6m (mm.1 31)) s2)) = _
                rw [ok2, ok4]
              rw [this]; exact k6
          · obtain ⟨mc4, x1, x2⟩ := fws_b (a := 59) (LWb_FL hw)
            exact ⟨mc4, mm3, by rw [x1, calv_eq], mK_b (LWb_m hw), fc3.tr x2.1, fm3, .inr (LWb_FO hw x2)⟩
        · rw [if_neg y3, if_neg y3, calv_eq, cal_eq, if_pos rfl]
          have hw : LWb (wr (wr mc1 11 1 (nI e)) 11 2 (nI e)) (wr (wr mm1 27 10 (nI e)) 27 11 (nI e)) := bad_at (n := n + s.length) (by omega) (by omega) (by rw [wr_ne (by decide)]; exact u7)
          have hfl := LWb_FL hw
          obtain ⟨m1, w1, w2⟩ := fws_b (a := 63) hfl
          obtain ⟨m2, w3, w4⟩ := fsum_b (f := 61) (a1 := 0) (a2 := 0) (FO_FL hfl w2)
          obtain ⟨m3, w5, w6⟩ := fws_b (a := 59) (FO_FL (FO_FL hfl w2) w4)
          have w3 : rec6 64 4 m1 0 0 = some (0, m2) := w3
          have wt := FO_tr (FO_tr w2 w4) w6
          refine ⟨m3, _, ?_, rfl, ((fc1.tr (m2 := wr mc1 11 1 (nI e)) (Fr.w1 rfl)).tr (m2 := wr (wr mc1 11 1 (nI e)) 11 2 (nI e)) (Fr.w1 rfl)).tr wt.1, (fm1.tr (m2 := wr mm1 27 10 (nI e)) (Fr.w1 rfl)).tr (Fr.w1 rfl), .inr (LWb_FO hw wt)⟩
          rw [w1, calv_eq, w3]
          show calv (some m2) _ = _
          rw [calv_eq, w5, calv_eq]
      · rw [s1']
        obtain ⟨m', w1, w2⟩ := cE_b (x := r) (LWb_FL hw)
        exact ⟨m', mm1, w1, rfl, fc1.tr w2.1, fm1, .inr (LWb_FO hw w2)⟩
    · rw [if_neg y2] at eN2 eT2
      rw [eN2, eT2, calv_eq, cal_eq, if_pos rfl]
      have hw : LWb (wr (wr mc 11 1 (nI h)) 11 2 (nI h)) (wr (wr mm 27 10 (nI h)) 27 11 (nI h)) := bad_at (n := n) (by omega) (by omega) (c3 _)
      obtain ⟨m', w1, w2⟩ := tail_b (LWb_FL hw)
      exact ⟨m', _, w1, rfl, ((fcq (nI h)).tr (m2 := wr (wr mc 11 1 (nI h)) 11 2 (nI h)) (Fr.w1 rfl)).tr w2.1, (fmq (nI h)).tr (Fr.w1 rfl), .inr (LWb_FO hw w2)⟩
  · rw [if_neg y, calv_eq, if_pos (spt_0.mpr y), if_pos rfl, mfail_v (d2 _), cal_eq, d1]
    have hw : LWb (wr (wr mc 11 1 (nI q)) 11 2 (nI q)) (wr (wr mm 27 10 (nI q)) 27 11 (nI q)) := bad_at (n := n) (by omega) (by omega) (c3 _)
    rw [fneeds_b (LWb_FL hw) (by decide), calv_eq]
    obtain ⟨m', w1, w2⟩ := tail_b (LWb_FL hw)
    exact ⟨m', _, w1, rfl, ((fcq (nI q)).tr (m2 := wr (wr mc 11 1 (nI q)) 11 2 (nI q)) (Fr.w1 rfl)).tr w2.1, (fmq (nI q)).tr (Fr.w1 rfl), .inr (LWb_FO hw w2)⟩
end
