/-! laws' texts: a whole law -/
section
variable {nl B B' : Nat} {ln : Nat → Nat} {m m1 m2 m' mc mm mc0 mm0 mc1 mm1 mc2 mm2 : Sg} {j w u : Nat} {a a1 a2 a3 a4 r x x2 c v v1 v2 op : Int32} {L p q k k1 k2 i n off b N t P d f g p' n' p1 : Nat} {tx lt F G : Nat → Int32} {z : Bool} {s s1 s2 : List Int32} {R : Nat → Sg → Int32 → Int32 → Option (Int32 × Sg)} {o : Option Int32} {cls : List Cls} {cl : Cls}
theorem fnd_app : ∀ (cls : List Cls), fnd lt (cls ++ [cl]) = (fnd lt cls).or (fnd lt [cl])
  | [] => rfl
  | (none, s) :: r => rfl
  | (some q, s) :: r => by
    show (if vl lt q = 0 then fnd lt (r ++ [cl]) else some (vl lt s)) = (if vl lt q = 0 then fnd lt r else some (vl lt s)).or (fnd lt [cl])
    by_cases y : vl lt q = 0
    · rw [if_pos y, if_pos y, fnd_app r]
    · rw [if_neg y, if_neg y]; rfl
theorem lCode_app : ∀ (cls : List Cls), lCode (cls ++ [cl]) = lCode cls ++ cCode cl
  | [] => by
    show cCode cl ++ [] = [] ++ cCode cl
    rw [List.append_nil, List.nil_append]
  | o :: r => by
    show cCode o ++ lCode (r ++ [cl]) = cCode o ++ lCode r ++ cCode cl
    rw [lCode_app r, List.append_assoc]
/-- clauses read so far -/
def LJ (L : Nat) (lt : Nat → Int32) (p : Nat) (cls : List Cls) (mc mm : Sg) : Prop := LSt L 0 p (lCode cls).length mc mm ∧ At (mc.1 12) 0 (lCode cls) ∧ (∀ o, o ∈ cls → okC lt o) ∧ FS mm (fnd lt cls)
theorem LJ_app (h : LJ L lt p cls mc mm) (hp : p ≤ q) (cr : CRl L lt q (lCode cls).length (fnd lt cls) mc1 mm1 mc2 mm2) (e12 : mc1.1 12 = mc.1 12) : (∃ p' cl, q ≤ p' ∧ LJ L lt p' (cls ++ [cl]) mc2 mm2) ∨ LWb mc2 mm2 := by
  obtain ⟨h1, h2, h3, h4⟩ := h
  rcases cr.2.2 with ⟨p', cl, g1, g2, g3, g4, g5, g6⟩ | hw
  · refine .inl ⟨p', cl, by omega, ?_, ?_, ?_, ?_⟩
    · rw [lCode_app, List.length_append]; exact g2
    · rw [lCode_app]
      refine At_app (At_eq h2 fun i hi => ?_) (by rw [Nat.zero_add]; exact g3)
      rw [g4 i (by omega), e12]
    · intro o ho
      rw [List.mem_append] at ho
      rcases ho with ho | ho
      · exact h3 o ho
      · have : o = cl := by simpa using ho
        subst this; exact g5
    · rw [fnd_app]; exact g6
  · exact .inr hw
theorem law_l (hb : Bt tx L) (T : Tx tx L mc) (M : Mx tx L z off mm) (h13 : mm.1 27 13 = 121) : ∀ F (mc1 mm1 : Sg) i, 242 ≤ F + i → i ≤ 240 → Fr sK mc mc1 → Fr sM mm mm1 → ((∃ p1 cls, i ≤ p1 ∧ LJ L (l6m (mm.1 31)) p1 cls mc1 mm1) ∨ LWb mc1 mm1) → ∃ mc' mm', lpO f_X6_read_L18 F (mc1, nI i) = some mc' ∧ lpO f_X11_goThrough_L32 F mm1 = some mm' ∧ Fr sK mc mc' ∧ Fr sM mm mm' ∧ ((∃ p1 cls, LJ L (l6m (mm.1 31)) p1 cls mc' mm') ∨ LWb mc' mm')
  | 0, mc1, mm1, i, hF, hi, fc, fm, h => absurd hF (by omega)
  | F + 1, mc1, mm1, i, hF, hi, fc, fm, h => by
    have l240 := T.1
    have T1 := sK_Tx T fc
    have M1 := sM_Mx M fm
    rcases h with ⟨p1, cls, ip, hw⟩ | hw
    · have hw0 := hw
      obtain ⟨⟨t1, t2, t3, t4, t5, t6, t7, t8⟩, h2, h3, h4⟩ := hw0
      have qge := sk_ge (tx := tx) (L := L) (p := p1)
      have qle := sk_le (tx := tx) t3
      have eL := look_v hb M1 t4 t3
      by_cases y : i = 240
      · have e2 : sk tx L p1 = p1 := by omega
        have ec : chr tx L (sk tx L p1) = -1 := by unfold chr; rw [if_neg (by omega)]
        have em : f_X11_goThrough_L32 mm1 = some (.inl mm1) := by
          unfold f_X11_goThrough_L32
          rw [if_pos t5, eL, cal_eq, ec, if_neg (by decide), e2, ← t4, wr_same]
        have ecl : f_X6_read_L18 (mc1, nI i) = some (.inl mc1) := by
          rw [y]
          simp only [f_X6_read_L18, if_pos (show (240 : Int32) ≤ nI 240 by decide)]
        exact ⟨mc1, mm1, by rw [lpO, ecl], by rw [lpO, em], fc, fm, .inl ⟨p1, cls, hw⟩⟩
      · have eT := takes_v (a := 59) T1 (show 11 ≠ 1 by decide) (show 11 ≠ 2 by decide) t1 t3 t2
        by_cases op : chr tx L (sk tx L p1) = 59
        · have qL : sk tx L p1 < L := chr_m1 (by rw [op]; decide)
          have d1 : (wr mm1 27 10 (nI (sk tx L p1))).1 27 10 = nI (sk tx L p1) := by rw [wr_at, pk_us]
          obtain ⟨mc2, mm2, e1, e2, cr⟩ := clause_s (p := sk tx L p1 + 1) (n := (lCode cls).length) (o := fnd (l6m (mm.1 31)) cls) hb (Tx_wr (k := 1) (v := nI (sk tx L p1 + 1)) (i := 11) T1 (by decide) (by decide)) (Mx_wr (k := 10) (v := nI (sk tx L p1 + 1)) M1 (by decide) (by decide) (by decide)) ⟨by rw [wr_at, pk_us], by rw [wr_at, pk_un (by decide)]; exact t2, by omega, by rw [wr_at, pk_us], by rw [wr_at, pk_un (by decide)]; exact t5, by rw [wr_at, pk_un (by decide)]; exact t6, by rw [wr_ne (by decide)]; exact t7, by omega⟩ (by rw [wr_at, pk_un (by decide), fm.1 27 13 rfl]; exact h13) (FS_eq h4 (by rw [wr_at, pk_un (by decide)]) (by rw [wr_at, pk_un (by decide)]))
          have e31 : (wr mm1 27 10 (nI (sk tx L p1 + 1))).1 31 = mm.1 31 := by
            rw [wr_ne (by decide)]
            exact funext fun i => fm.1 31 i rfl
          rw [e31] at cr
          have fc2 : Fr sK mc mc2 := (fc.tr (Fr.w1 rfl)).tr cr.1
          have fm2 : Fr sM mm mm2 := (fm.tr (Fr.w1 rfl)).tr cr.2.1
          have ec : f_X6_read_L18 (mc1, nI i) = some (.inr (mc2, nI (i + 1))) := by
            simp only [f_X6_read_L18, if_neg (n240 (show i < 240 by omega)), eT, if_pos op, cal_eq, if_neg n10, e1, calv_eq, bnd_eq, nI_1]
          have em : f_X11_goThrough_L32 mm1 = some (.inr mm2) := by
            unfold f_X11_goThrough_L32
            rw [if_pos t5, eL, cal_eq, if_pos op, d1, nI_1, wr_wr2, bnd_eq, e2, calv_eq]
          have nx := LJ_app hw (q := sk tx L p1 + 1) (by omega) cr (wr_ne (by decide))
          obtain ⟨mc', mm', z1, z2, z3⟩ := law_l hb T M h13 F mc2 mm2 (i + 1) (by omega) (by omega) fc2 fm2 (by
            rcases nx with ⟨p', cl, n1, n2⟩ | n
            · exact .inl ⟨p', cls ++ [cl], by omega, n2⟩
            · exact .inr n)
          exact ⟨mc', mm', by rw [lpO, ec]; exact z1, by rw [lpO, em]; exact z2, z3⟩
        · have ec : f_X6_read_L18 (mc1, nI i) = some (.inl (wr mc1 11 1 (nI (sk tx L p1)))) := by
            simp only [f_X6_read_L18, if_neg (n240 (show i < 240 by omega)), eT, if_neg op, cal_eq, ↓reduceIte]
          have em : f_X11_goThrough_L32 mm1 = some (.inl (wr mm1 27 10 (nI (sk tx L p1)))) := by
            unfold f_X11_goThrough_L32
            rw [if_pos t5, eL, cal_eq, if_neg op]
          refine ⟨_, _, by rw [lpO, ec], by rw [lpO, em], fc.tr (Fr.w1 rfl), fm.tr (Fr.w1 rfl), .inl ⟨sk tx L p1, cls, ⟨by rw [wr_at, pk_us], by rw [wr_at, pk_un (by decide)]; exact t2, qle, by rw [wr_at, pk_us], by rw [wr_at, pk_un (by decide)]; exact t5, by rw [wr_at, pk_un (by decide)]; exact t6, by rw [wr_ne (by decide)]; exact t7, by omega⟩, by rw [wr_ne (by decide)]; exact h2, h3, FS_eq h4 (by rw [wr_at, pk_un (by decide)]) (by rw [wr_at, pk_un (by decide)])⟩⟩
    · have ec : f_X6_read_L18 (mc1, nI i) = some (.inl mc1) := by
        by_cases y : i = 240
        · rw [y]
          simp only [f_X6_read_L18, if_pos (show (240 : Int32) ≤ nI 240 by decide)]
        · simp only [f_X6_read_L18, if_neg (n240 (show i < 240 by omega)), ftakes_b (LWb_FL hw) (show ¬ (-1 : Int32) = 59 by decide), cal_eq, ↓reduceIte]
      have em : f_X11_goThrough_L32 mm1 = some (.inl mm1) := by
        unfold f_X11_goThrough_L32
        rw [if_neg (LWb_m hw)]
      exact ⟨mc1, mm1, by rw [lpO, ec], by rw [lpO, em], fc, fm, .inr hw⟩
def sG (a b : Nat) : Bool := a == 27 && (b == 5 || b == 8 || b == 9 || b == 10 || b == 11 || b == 12 || b == 13 || b == 14 || b == 17)
theorem sMG (f : Fr sM m m') : Fr sG m m' := Fr_mono (fun p k h => by
  cases e : sM p k with
  | false => rfl
  | true =>
    have : sG p k = true := by
      unfold sM at e
      unfold sG
      simp only [Bool.and_eq_true, Bool.or_eq_true, beq_iff_eq] at e ⊢
      omega
    rw [this] at h; cases h) f
/-- a law's text, both -/
theorem law_v (hb : Bt tx L) (T : Tx tx L mc) (hoff : off + L ≤ cpZ z) (hx : ∀ k, k < L → mm.1 (rwZ z) (off + k) = sb (tx k)) : ∃ mc' mm', f_X6_read mc = some (mc'.1 11 2, mc') ∧ f_X11_goThrough (if z = true then 1 else 0) mm (nI off) (nI L) = some mm' ∧ Fr sK mc mc' ∧ Fr sG mm mm' ∧ mm'.1 27 11 = mc'.1 11 2 ∧ (mc'.1 11 2 = -1 → ∃ cls n, n ≤ 240 ∧ (lCode cls).length = n ∧ mc'.1 10 2 = nI n ∧ At (mc'.1 12) 0 (lCode cls) ∧ (∀ o, o ∈ cls → okC (l6m (mm.1 31)) o) ∧ mm'.1 27 14 = (fnd (l6m (mm.1 31)) cls).getD 0) := by
  have l240 := T.1
  let mc0 := wr (wr (wr mc 11 1 0) 11 2 (-1)) 10 2 0
  let mm0 := wr (wr (wr (wr (wr (wr (wr (wr (wr mm 27 5 (if z = true then 1 else 0)) 27 8 (nI off)) 27 9 (nI L)) 27 10 0) 27 11 (-1)) 27 13 121) 27 12 0) 27 17 0) 27 14 0
  have fc0 : Fr sK mc mc0 := (Fr.tr (m1 := wr mc 11 1 0) (Fr.w1 rfl) (m2 := wr (wr mc 11 1 0) 11 2 (-1)) (Fr.w1 rfl)).tr (Fr.w1 rfl)
  have hmm : ∀ a, (a = 27 → False) → mm0.1 a = mm.1 a := fun a h => by
    show (wr _ 27 14 0).1 a = _
    rw [wr_ne h, wr_ne h, wr_ne h, wr_ne h, wr_ne h, wr_ne h, wr_ne h, wr_ne h, wr_ne h]
  have m27 : mm0.1 27 = upd (upd (upd (upd (upd (upd (upd (upd (upd (mm.1 27) 5 (if z = true then 1 else 0)) 8 (nI off)) 9 (nI L)) 10 0) 11 (-1)) 13 121) 12 0) 17 0) 14 0 := by
    show (wr _ 27 14 0).1 27 = _
    rw [wr_at, wr_at, wr_at, wr_at, wr_at, wr_at, wr_at, wr_at, wr_at]
  have g5 : mm0.1 27 5 = (if z = true then 1 else 0) := by rw [m27]; rfl
  have g8 : mm0.1 27 8 = nI off := by rw [m27]; rfl
  have g9 : mm0.1 27 9 = nI L := by rw [m27]; rfl
  have g10 : mm0.1 27 10 = nI 0 := by rw [m27]; rfl
  have g11 : mm0.1 27 11 = -1 := by rw [m27]; rfl
  have g12 : mm0.1 27 12 = nI 0 := by rw [m27]; rfl
  have g13 : mm0.1 27 13 = 121 := by rw [m27]; rfl
  have g17 : mm0.1 27 17 = 0 := by rw [m27]; rfl
  have g14 : mm0.1 27 14 = 0 := by rw [m27]; rfl
  have fm0 : Fr sG mm mm0 := ((((((((Fr.w1 (S := sG) (m := mm) (p := 27) (k := 5) (v := if z = true then 1 else 0) rfl).tr (Fr.w1 (p := 27) (k := 8) (v := nI off) rfl)).tr (Fr.w1 (p := 27) (k := 9) (v := nI L) rfl)).tr (Fr.w1 (p := 27) (k := 10) (v := 0) rfl)).tr (Fr.w1 (p := 27) (k := 11) (v := -1) rfl)).tr (Fr.w1 (p := 27) (k := 13) (v := 121) rfl)).tr (Fr.w1 (p := 27) (k := 12) (v := 0) rfl)).tr (Fr.w1 (p := 27) (k := 17) (v := 0) rfl)).tr (Fr.w1 (p := 27) (k := 14) (v := 0) rfl)
  have T0 : Tx tx L mc0 := sK_Tx T fc0
  have M0 : Mx tx L z off mm0 := ⟨hoff, g5, g8, g9, fun k hk => by rw [hmm _ (by cases z <;> decide)]; exact hx k hk⟩
  have e31 : mm0.1 31 = mm.1 31 := hmm 31 (by decide)
  have S0 : LSt L 0 0 0 mc0 mm0 := ⟨by
    show (wr (wr (wr mc 11 1 0) 11 2 (-1)) 10 2 0).1 11 1 = _
    rw [wr_ne (by decide), wr_at, pk_un (by decide), wr_at, pk_us]; rfl, by
    show (wr (wr (wr mc 11 1 0) 11 2 (-1)) 10 2 0).1 11 2 = _
    rw [wr_ne (by decide), wr_at, pk_us], by omega, g10, g11, g12, by
    show (wr (wr (wr mc 11 1 0) 11 2 (-1)) 10 2 0).1 10 2 = _
    rw [wr_at, pk_us]; rfl, by omega⟩
  obtain ⟨mc1, mm1, e1, e2, cr⟩ := clause_s (o := none) hb T0 M0 S0 g13 ⟨g17, g14⟩
  have J0 : LJ L (l6m (mm0.1 31)) 0 [] mc0 mm0 := ⟨S0, fun i hi => absurd hi (Nat.not_lt_zero _), fun o ho => absurd ho (List.not_mem_nil), g17, g14⟩
  have nx := LJ_app J0 (q := 0) (Nat.le_refl _) cr rfl
  obtain ⟨mc2, mm2, z1, z2, fc2, fm2, z3⟩ := law_l hb T0 M0 g13 fu mc1 mm1 0 (by decide) (by decide) cr.1 cr.2.1 (by
    rcases nx with ⟨p', cl, n1, n2⟩ | n
    · exact .inl ⟨p', _, by omega, n2⟩
    · exact .inr n)
  have z1 : lpO f_X6_read_L18 fu (mc1, 0) = some mc2 := z1
  have hc : f_X6_read mc = calv (f_X2_needsEnd 11 mc2) (fun m13 => cal (f_X2_wrongAt 11 m13) (fun x15 m14 => some (x15, m14))) := by
    unfold f_X6_read f_X2_begin
    rw [bnd_eq, bnd_eq, calv_eq, bnd_eq]
    show calv (f_X6_readClause mc0) _ = _
    rw [e1, calv_eq, lpk_of z1]
  have hm : f_X11_goThrough (if z = true then 1 else 0) mm (nI off) (nI L) = (if (mm2.1 27 11) = (-1) then cal (f_X11_look mm2) (fun x16 m15 => (if x16 = (-1) then some m15 else
  cal (f_X11_fails m15) (fun x18 m17 => some m17))) else
  some mm2) := by
    unfold f_X11_goThrough f_X11_starts
    rw [bnd_eq, bnd_eq, bnd_eq, bnd_eq, bnd_eq, calv_eq, bnd_eq, bnd_eq, bnd_eq, bnd_eq]
    show calv (f_X11_clause mm0) _ = _
    rw [e2, calv_eq, lpk_of z2]
  have fcA := fc0.tr fc2
  have fmA := fm0.tr (sMG fm2)
  rw [e31] at z3
  rcases z3 with ⟨p1, cls, ⟨t1, t2, t3, t4, t5, t6, t7, t8⟩, h2, h3, h4⟩ | hw
  · have qle := sk_le (tx := tx) t3
    have qge := sk_ge (tx := tx) (L := L) (p := p1)
    have eP := peek_v (sK_Tx T fcA) (i := 11) (by decide) (by decide) t1 t3 t2
    rw [if_pos t5, look_v hb (sM_Mx M0 fm2) t4 t3, cal_eq] at hm
    unfold f_X2_needsEnd f_X2_wrongAt at hc
    rw [eP, cal_eq] at hc
    have eF := fail_v (i := 11) (m := wr mc2 11 1 (nI (sk tx L p1))) (by rw [wr_at, pk_un (by decide)]; exact t2)
    have eG := mfail_v (m := wr mm2 27 10 (nI (sk tx L p1))) (by rw [wr_at, pk_un (by decide)]; exact t5)
    have c1 : (wr mc2 11 1 (nI (sk tx L p1))).1 11 1 = nI (sk tx L p1) := by rw [wr_at, pk_us]
    have d1 : (wr mm2 27 10 (nI (sk tx L p1))).1 27 10 = nI (sk tx L p1) := by rw [wr_at, pk_us]
    rw [c1] at eF
    rw [d1] at eG
    by_cases y : chr tx L (sk tx L p1) = -1
    · rw [if_pos y] at hc hm
      rw [calv_eq, cal_eq] at hc
      refine ⟨_, _, hc, hm, fcA.tr (Fr.w1 rfl), fmA.tr (Fr.w1 rfl), ?_, fun _ => ⟨cls, _, by omega, rfl, by rw [wr_ne (by decide)]; exact t7, by rw [wr_ne (by decide)]; exact h2, h3, ?_⟩⟩
      · rw [wr_at, pk_un (by decide), t5, wr_at, pk_un (by decide), t2]
      · rw [wr_at, pk_un (by decide)]; exact h4.2
    · rw [if_neg y] at hc hm
      rw [eF, calv_eq, calv_eq, cal_eq] at hc
      rw [eG, cal_eq] at hm
      refine ⟨_, _, hc, hm, (fcA.tr (m2 := wr mc2 11 1 (nI (sk tx L p1))) (Fr.w1 rfl)).tr (Fr.w1 rfl), (fmA.tr (m2 := wr mm2 27 10 (nI (sk tx L p1))) (Fr.w1 rfl)).tr (Fr.w1 rfl), ?_, fun e => ?_⟩
      · rw [wr_at, pk_us, wr_at, pk_us]
      · rw [wr_at, pk_us] at e
        exact absurd e (nI_m1 (by omega))
  · have hfl := LWb_FL hw
    rw [if_neg (LWb_m hw)] at hm
    have hn : f_X2_needsEnd 11 mc2 = some mc2 := by
      unfold f_X2_needsEnd
      rw [peek_f hfl.1, cal_eq, if_pos rfl]
    unfold f_X2_wrongAt at hc
    rw [hn, calv_eq, cal_eq] at hc
    obtain ⟨e, e1, e2, e3, _⟩ := hw
    exact ⟨mc2, mm2, hc, hm, fcA, fmA, e3.trans e2.symm, fun h => absurd h hfl.1⟩
end
