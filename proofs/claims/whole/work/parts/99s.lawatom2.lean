/-! laws' texts: an atom, both -/
section
variable {nl B B' : Nat} {ln : Nat → Nat} {m m1 m2 m' mc mm mc0 mm0 mc1 mm1 mc2 mm2 : Sg} {j w u : Nat} {a a1 a2 a3 a4 r x c v v1 v2 op : Int32} {L p q k k1 k2 i n off b N t P d f g p' n' : Nat} {tx lt F G : Nat → Int32} {z : Bool} {s s1 s2 : List Int32}
def SumIH (tx : Nat → Int32) (L : Nat) (z : Bool) (off f g d : Nat) : Prop := ∀ (mc mm : Sg) p n, Tx tx L mc → Mx tx L z off mm → LSt L d p n mc mm → ∃ v mc' mm', rec6 f 4 mc (nI d) 0 = some (0, mc') ∧ rec11 g 2 mm 0 0 = some (v, mm') ∧ PO L (l6m (mm.1 31)) (15 - 2 * d) d p n mc mm v mc' mm'
/-- wrong at q, both -/
theorem bad_at (hq : q < 2 ^ 31) (hn : n ≤ 240) (h : mc.1 10 2 = nI n) : LWb (wr mc 11 2 (nI q)) (wr mm 27 11 (nI q)) := ⟨q, hq, by rw [wr_at, pk_us], by rw [wr_at, pk_us], n, hn, by rw [wr_ne (by decide)]; exact h⟩
theorem atom_s (hb : Bt tx L) (hd : d ≤ 6) (ih : d < 6 → SumIH tx L z off f g (d + 1)) (T : Tx tx L mc) (M : Mx tx L z off mm) (S : LSt L d p n mc mm) : ∃ v mc' mm', rec6 (f + 1) 6 mc (nI d) 0 = some (0, mc') ∧ rec11 (g + 1) 0 mm 0 0 = some (v, mm') ∧ PO L (l6m (mm.1 31)) (13 - 2 * d) d p n mc mm v mc' mm' := by
  suffices key : ∃ v mc' mm', f_X6_readAtom (rec6 f) mc (nI d) = some mc' ∧ f_X11_atom (rec11 g) mm = some (v, mm') ∧ PO L (l6m (mm.1 31)) (13 - 2 * d) d p n mc mm v mc' mm' by
    obtain ⟨v, mc', mm', e1, e2, e3⟩ := key
    exact ⟨v, mc', mm', by show ri (f_X6_readAtom (rec6 f) mc (nI d)) = _; rw [e1]; rfl, e2, e3⟩
  obtain ⟨S1, S2, S3, S4, S5, S6, S7, S8⟩ := S
  have l240 := T.1
  have qge := sk_ge (tx := tx) (L := L) (p := p)
  have qle := sk_le (tx := tx) S3
  have eP := peek_v T (i := 11) (by decide) (by decide) S1 S3 S2
  have eL := look_v hb M S4 S3
  have qq := sk_sk (tx := tx) (L := L) (p := p)
  generalize sk tx L p = q at *
  have fc : Fr sK mc (wr mc 11 1 (nI q)) := Fr.w1 rfl
  have fm : Fr sL mm (wr mm 27 10 (nI q)) := Fr.w1 rfl
  have Tq : ∀ v, Tx tx L (wr mc 11 1 v) := fun v => Tx_wr T (by decide) (by decide)
  have Mq : ∀ v, Mx tx L z off (wr mm 27 10 v) := fun v => Mx_wr M (by decide) (by decide) (by decide)
  have c1 : (wr mc 11 1 (nI q)).1 11 1 = nI q := by rw [wr_at, pk_us]
  have c2 : ∀ v, (wr mc 11 1 v).1 11 2 = -1 := fun v => by rw [wr_at, pk_un (by decide)]; exact S2
  have c3 : ∀ v, (wr mc 11 1 v).1 10 2 = nI n := fun v => by rw [wr_ne (by decide)]; exact S7
  have d1 : (wr mm 27 10 (nI q)).1 27 10 = nI q := by rw [wr_at, pk_us]
  have d2 : ∀ v, (wr mm 27 10 v).1 27 11 = -1 := fun v => by rw [wr_at, pk_un (by decide)]; exact S5
  have d3 : ∀ v, (wr mm 27 10 v).1 27 12 = nI d := fun v => by rw [wr_at, pk_un (by decide)]; exact S6
  by_cases y91 : chr tx L q = 91
  · have qL : q < L := by
      rcases Nat.lt_or_ge q L with y | y
      · exact y
      · unfold chr at y91; rw [if_neg (by omega)] at y91; exact absurd y91 (by decide)
    have s91 : spt 1 (91 : Int32) = -1 := by decide
    rcases Nat.lt_or_ge d 6 with d6 | d6
    · have M1 : Mx tx L z off (wr (wr (wr mm 27 10 (nI q)) 27 12 (nI (d + 1))) 27 10 (nI (q + 1))) := Mx_wr (Mx_wr (Mq _) (by decide) (by decide) (by decide)) (by decide) (by decide) (by decide)
      have fm1 : Fr sL mm (wr (wr (wr mm 27 10 (nI q)) 27 12 (nI (d + 1))) 27 10 (nI (q + 1))) := (fm.tr (m2 := wr (wr mm 27 10 (nI q)) 27 12 (nI (d + 1))) (Fr.w1 rfl)).tr (Fr.w1 rfl)
      have fc1 : Fr sK mc (wr mc 11 1 (nI (q + 1))) := Fr.w1 rfl
      have e31 : (wr (wr (wr mm 27 10 (nI q)) 27 12 (nI (d + 1))) 27 10 (nI (q + 1))).1 31 = mm.1 31 := by rw [wr_ne (by decide), wr_ne (by decide), wr_ne (by decide)]
      obtain ⟨v, mc2, mm2, r1, r2, g1, g2, g3⟩ := ih d6 (wr mc 11 1 (nI (q + 1))) (wr (wr (wr mm 27 10 (nI q)) 27 12 (nI (d + 1))) 27 10 (nI (q + 1))) (q + 1) n (Tq _) M1 ⟨by rw [wr_at, pk_us], c2 _, by omega, by rw [wr_at, pk_us], by rw [wr_at, pk_un (by decide), wr_at, pk_un (by decide)]; exact d2 _, by rw [wr_at, pk_un (by decide), wr_at, pk_us], c3 _, by omega⟩
      rw [e31] at g3
      have hc : f_X6_readAtom (rec6 f) mc (nI d) = f_X2_needs 11 mc2 93 := by
        unfold f_X6_readAtom
        rw [eP, cal_eq, if_pos y91, gd_v d6 c1, cal_eq, if_neg n10, nI_1, wr_wr2, r1]
        show calv (some mc2) _ = _
        rw [calv_eq]
        cases f_X2_needs 11 mc2 93 <;> rfl
      have hm : f_X11_atom (rec11 g) mm = cal (f_X11_takes mm2 93) (fun x31 m30 => (if x31 = 0 then some (0, m30) else
  bnd (wr m30 27 12 ((m30.1 27 12) - 1)) (fun m32 => some (v, m32)))) := by
        unfold f_X11_atom
        rw [eL, cal_eq, amg_v (by decide), cal_eq, y91, s91, if_pos rfl, if_pos rfl, if_pos rfl, gi_v d6 (d3 _) d1, cal_eq, if_neg n10, r2, cal_eq]
      have T2 := sK_Tx (Tq (nI (q + 1))) g1
      have M2 := sL_Mx M1 g2
      rcases g3 with ⟨p2, s, h1, ⟨t1, t2, t3, t4, t5, t6, t7, t8⟩, h3, h4, h5, h6⟩ | hw
      · have rge := sk_ge (tx := tx) (L := L) (p := p2)
        have rle := sk_le (tx := tx) t3
        rw [needs_v T2 t1 t3 t2] at hc
        rw [mtakes_v hb M2 t4 t3 t5] at hm
        generalize sk tx L p2 = o at *
        by_cases y : chr tx L o = 93
        · have oL : o < L := by
            rcases Nat.lt_or_ge o L with y' | y'
            · exact y'
            · unfold chr at y; rw [if_neg (by omega)] at y; exact absurd y (by decide)
          rw [if_pos y] at hc hm
          rw [cal_eq, if_neg n10, bnd_eq, wr_at, pk_un (by decide), t6, nI_s1 (by omega), Nat.add_sub_cancel] at hm
          refine ⟨_, _, _, hc, hm, (fc1.tr g1).tr (Fr.w1 rfl), ((fm1.tr g2).tr (m2 := wr mm2 27 10 (nI (o + 1))) (Fr.w1 rfl)).tr (Fr.w1 rfl), .inl ⟨o + 1, s, by omega, ⟨by rw [wr_at, pk_us], by rw [wr_at, pk_un (by decide)]; exact t2, by omega, by rw [wr_at, pk_un (by decide), wr_at, pk_us], by rw [wr_at, pk_un (by decide), wr_at, pk_un (by decide)]; exact t5, by rw [wr_at, pk_us], by rw [wr_ne (by decide)]; exact t7, by omega⟩, by rw [wr_ne (by decide)]; exact h3, fun i hi => by rw [wr_ne (by decide), h4 i hi, wr_ne (by decide)], h5, EV_mono h6 (by omega)⟩⟩
        · rw [if_neg y] at hc hm
          rw [cal_eq, if_pos rfl] at hm
          refine ⟨_, _, _, hc, hm, ((fc1.tr g1).tr (m2 := wr mc2 11 1 (nI o)) (Fr.w1 rfl)).tr (Fr.w1 rfl), ((fm1.tr g2).tr (m2 := wr mm2 27 10 (nI o)) (Fr.w1 rfl)).tr (Fr.w1 rfl), .inr (bad_at (n := n + s.length) (by omega) (by omega) (by rw [wr_ne (by decide)]; exact t7))⟩
      · rw [fneeds_b (LWb_FL hw) (by decide)] at hc
        rw [mtakes_f (LWb_m hw), cal_eq, if_pos rfl] at hm
        exact ⟨_, _, _, hc, hm, fc1.tr g1, fm1.tr g2, .inr hw⟩
    · have d6' : d = 6 := by omega
      subst d6'
      have hc : f_X6_readAtom (rec6 f) mc (nI 6) = some (wr (wr mc 11 1 (nI q)) 11 2 (nI q)) := by
        unfold f_X6_readAtom
        rw [eP, cal_eq, if_pos y91, gd_f (c2 _) c1, cal_eq, if_pos rfl]
      have hm : f_X11_atom (rec11 g) mm = some (0, wr (wr mm 27 10 (nI q)) 27 11 (nI q)) := by
        unfold f_X11_atom
        rw [eL, cal_eq, amg_v (by decide), cal_eq, y91, s91, if_pos rfl, if_pos rfl, if_pos rfl, gi_f (d3 _) (d2 _) d1, cal_eq, if_pos rfl]
      exact ⟨_, _, _, hc, hm, fc.tr (Fr.w1 rfl), fm.tr (Fr.w1 rfl), .inr (bad_at (n := n) (by omega) (by omega) (c3 _))⟩
  · by_cases yl : spt 1 (chr tx L q) = -1
    · have hc0 : f_X6_readAtom (rec6 f) mc (nI d) = cal (f_X2_number 11 (wr mc 11 1 (nI q)) 4) (fun x6 m5 => calv (f_X6_write m5 x6) (fun m7 => some m7)) := by
        unfold f_X6_readAtom
        rw [eP, cal_eq, if_neg y91, bnd_eq]
        rcases Nat.lt_or_ge q L with qL | qL
        · obtain ⟨b, b1, b2, b3⟩ := hb q qL
          have ec : chr tx L q = nI b := by unfold chr; rw [if_pos qL, b3]
          rw [ec] at yl ⊢
          rw [if_neg (nI_pos (by omega)), cspot_v (k := 1) (by decide) b2 (by decide), cal_eq, yl, if_pos (by decide)]
        · have ec : chr tx L q = -1 := by unfold chr; rw [if_neg (by omega)]
          rw [ec, if_pos (by decide)]
      have hn : f_X2_number 11 (wr mc 11 1 (nI q)) 4 = _ := num_v (N := 4) (Tq (nI q)) (show 11 ≠ 1 by decide) (show 11 ≠ 2 by decide) (by decide) c1 qle (c2 _)
      rw [qq] at hn
      simp only [wr_wr2] at hn
      rw [hn] at hc0
      have hm0 : f_X11_atom (rec11 g) mm = cal (f_X11_isDigit (wr mm 27 10 (nI q))) (fun x6 m5 => bnd (fun (m7 : Sg) => lpk (f_X11_atom_L90) (m7, 0, 0) (fun x => match x with
  | .inl m12 => cal (f_X11_fails m12) (fun x23 m22 => some ((0 : Int32), m22))
  | .inr (m13, x14) => some (x14, m13))) (fun (k8 : Sg → Option (Int32 × Sg)) =>
  (if x6 = 0 then cal (f_X11_fails m5) (fun x25 m24 => k8 m24) else
  k8 m5))) := by
        unfold f_X11_atom
        rw [eL, cal_eq, amg_v (by decide), cal_eq, if_pos yl, if_pos rfl, if_neg y91]
        rfl
      rw [mdig_v hb (Mq _) d1 qle, cal_eq] at hm0
      by_cases y : dig (chr tx L q) = true
      · obtain ⟨E1, E2⟩ := nmF_adv (x := 0) (n := 4) y (by decide)
        obtain ⟨k', k1, k2⟩ := nmF_val hb 4 q 0
        have k1 : (nmF tx L 4 q 0).1 = nI k' := k1
        have mn := mnum_l (z := z) (off := off) hb 4 0 (wr mm 27 10 (nI q)) 0 q fu (Mq _) d1 (d2 _) qle (by decide) (by decide)
        have mn : lpO f_X11_atom_L90 fu (wr mm 27 10 (nI q), 0, 0) = _ := mn
        rw [nmR_wr] at mn
        rw [if_pos y, bnd_eq, if_neg n10] at hm0
        dsimp only at hm0
        rw [lpk_of mn] at hm0
        rw [if_pos y] at hc0
        generalize nmF tx L 4 q 0 = E at *
        obtain ⟨E0, e⟩ := E
        have k1 : E0 = nI k' := k1
        subst k1
        have E1 : q + 1 ≤ e := E1
        have E2 : e ≤ L := E2
        unfold nmR at hm0
        dsimp only at hm0 hc0
        by_cases y2 : dig (chr tx L e) = true
        · rw [if_pos y2] at hc0 hm0
          rw [cal_eq] at hc0
          dsimp only at hm0
          rw [mfail_v (d2 _), cal_eq, wr_at, pk_us] at hm0
          have FLm : FL (wr (wr mc 11 1 (nI e)) 11 2 (nI e)) := ⟨by rw [wr_at, pk_us]; exact nI_m1 (by omega), n, by omega, by rw [wr_ne (by decide)]; exact c3 _⟩
          obtain ⟨m', w1, w2⟩ := fw_b (a := nI k') FLm
          rw [w1, calv_eq] at hc0
          exact ⟨_, _, _, hc0, hm0, (Fr.tr (m1 := wr mc 11 1 (nI e)) (Fr.w1 rfl) (m2 := wr (wr mc 11 1 (nI e)) 11 2 (nI e)) (Fr.w1 rfl)).tr w2.1, Fr.tr (m1 := wr mm 27 10 (nI e)) (Fr.w1 rfl) (Fr.w1 rfl), .inr (LWb_FO (bad_at (n := n) (by omega) (by omega) (c3 _)) w2)⟩
        · rw [if_neg y2] at hc0 hm0
          rw [cal_eq, cw_v (c3 _) (by omega), calv_eq] at hc0
          dsimp only at hm0
          refine ⟨_, _, _, hc0, hm0, Fr.tr (m1 := wr mc 11 1 (nI e)) (Fr.w1 rfl) fr_w12, Fr.w1 rfl, .inl ⟨e, [nI k'], by simp only [List.length_cons, List.length_nil]; omega, ?_, ?_, ?_, ?_, ?_⟩⟩
          · exact LSt_w ⟨by rw [wr_at, pk_us], c2 _, E2, by rw [wr_at, pk_us], d2 _, d3 _, c3 _, by omega⟩ (by omega)
          · rw [w12]; exact At_w
          · intro i hi
            rw [w12, pk_un (by omega), wr_ne (by decide)]
          · intro c hc
            have : c = nI k' := by simpa using hc
            subst this
            exact .inl ⟨k', by omega, rfl⟩
          · exact EV_num (num_neg (by omega)) (by omega)
      · rw [if_neg y] at hc0 hm0
        rw [cal_eq] at hc0
        rw [bnd_eq, if_pos rfl, mfail_v (d2 _), cal_eq, d1] at hm0
        have dg := mdig_v (m := wr (wr mm 27 10 (nI q)) 27 11 (nI q)) hb (Mx_wr (Mq _) (by decide) (by decide) (by decide)) (by rw [wr_at, pk_un (by decide)]; exact d1) qle
        rw [if_neg y] at dg
        have st : lpO f_X11_atom_L90 fu (wr (wr mm 27 10 (nI q)) 27 11 (nI q), 0, 0) = some (.inr (wr (wr mm 27 10 (nI q)) 27 11 (nI q), 0)) := by
          show lpO _ (999999 + 1) _ = _
          rw [lpO]
          simp only [f_X11_atom_L90, dg, cal_eq, ↓reduceIte]
        dsimp only at hm0
        rw [lpk_of st] at hm0
        dsimp only at hm0
        have FLm : FL (wr (wr mc 11 1 (nI q)) 11 2 (nI q)) := ⟨by rw [wr_at, pk_us]; exact nI_m1 (by omega), n, by omega, by rw [wr_ne (by decide)]; exact c3 _⟩
        obtain ⟨m', w1, w2⟩ := fw_b (a := 0) FLm
        rw [w1, calv_eq] at hc0
        exact ⟨_, _, _, hc0, hm0, (fc.tr (m2 := wr (wr mc 11 1 (nI q)) 11 2 (nI q)) (Fr.w1 rfl)).tr w2.1, fm.tr (Fr.w1 rfl), .inr (LWb_FO (bad_at (n := n) (by omega) (by omega) (c3 _)) w2)⟩
    · have qL : q < L := by
        rcases Nat.lt_or_ge q L with y | y
        · exact y
        · exact absurd (by unfold chr; rw [if_neg (by omega)]; exact spt_m1 (by decide)) yl
      obtain ⟨b, b1, b2, b3⟩ := hb q qL
      have ec : chr tx L q = nI b := by unfold chr; rw [if_pos qL, b3]
      rcases spt_cases 1 (nI b) with y | ⟨i, i1, i2, i3⟩
      · rw [ec] at yl; exact absurd y yl
      · have i6 : i < 6 := i1
        obtain ⟨b128, l6e⟩ := l6m_let (F := mm.1 31) i6 i2 b2
        have hc : f_X6_readAtom (rec6 f) mc (nI d) = some (wr (wr (wr mc 11 1 (nI (q + 1))) 12 n (nI (10000 + b))) 10 2 (nI (n + 1))) := by
          unfold f_X6_readAtom f_X2_step
          rw [eP, cal_eq, if_neg y91, bnd_eq, ec, if_neg (nI_pos (by omega)), cspot_v (k := 1) (by decide) b2 (by decide), cal_eq, i2, if_neg (nI_pos (by omega)), c1, nI_1, wr_wr2, bnd_eq, calv_eq, cws_v (c3 _) (by omega), calv_eq, show (10000 : Int32) = nI 10000 from rfl, nI_add]
        have hm : f_X11_atom (rec11 g) mm = some (mm.1 31 b, wr mm 27 10 (nI (q + 1))) := by
          unfold f_X11_atom
          rw [eL, cal_eq, amg_v (by decide), cal_eq, if_neg yl, if_neg n10, d1, nI_1, wr_wr2, bnd_eq, ec, in_nI b128 (by decide), if_pos rfl, nI_clamp (by omega), wr_ne (by decide)]
        have n59 : b ≠ 59 := fun e => by subst e; exact absurd i2 (by rw [show spt 1 (nI 59) = -1 by decide]; exact fun h => nI_m1 (by omega) h.symm)
        have n63 : b ≠ 63 := fun e => by subst e; exact absurd i2 (by rw [show spt 1 (nI 63) = -1 by decide]; exact fun h => nI_m1 (by omega) h.symm)
        refine ⟨_, _, _, hc, hm, Fr.tr (m1 := wr mc 11 1 (nI (q + 1))) (Fr.w1 rfl) fr_w12, Fr.w1 rfl, .inl ⟨q + 1, [nI (10000 + b)], by simp only [List.length_cons, List.length_nil]; omega, ?_, ?_, ?_, ?_, ?_⟩⟩
        · exact LSt_w ⟨by rw [wr_at, pk_us], c2 _, by omega, by rw [wr_at, pk_us], d2 _, d3 _, c3 _, by omega⟩ (by omega)
        · rw [w12]; exact At_w
        · intro i hi
          rw [w12, pk_un (by omega), wr_ne (by decide)]
        · intro c hc
          have : c = nI (10000 + b) := by simpa using hc
          subst this
          exact .inr ⟨b, b2, n59, n63, rfl⟩
        · rw [← l6e]
          exact EV_let (by rw [co_sub]; exact nI_pos (by omega)) (by rw [co_sub]; exact i2) i6 (by omega)
end
