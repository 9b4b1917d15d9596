/-! laws' texts: a unit -/
section
variable {nl B B' : Nat} {ln : Nat → Nat} {m m1 m2 m' mc mm mc0 mm0 mc1 mm1 mc2 mm2 : Sg} {j w u : Nat} {a a1 a2 a3 a4 r x c v v1 v2 op : Int32} {L p q k k1 k2 i n off b N t P d f g p' n' p1 : Nat} {tx lt F G : Nat → Int32} {z : Bool} {s s1 s2 : List Int32} {R : Nat → Sg → Int32 → Int32 → Option (Int32 × Sg)}
theorem LWb_12 (h : LWb mc mm) : LWb mc (wr mm 27 12 v) := by
  obtain ⟨e, e1, e2, e3, n⟩ := h
  exact ⟨e, e1, e2, by rw [wr_at, pk_un (by decide)]; exact e3, n⟩
theorem unit_c : f_X6_readUnit R m a1 a2 = cal (f_X2_peek 11 m) (fun x2 m1 => bnd (fun (m3 : Sg) => cal (f_X6_goesDeeper m3 a1) (fun x6 m5 => (if x6 = 0 then some (1, m5) else
  calv (rv (R 3 m5 (a1 + 1) x2)) (fun m7 => some (1, m7))))) (fun (k4 : Sg → Option (Int32 × Sg)) =>
  (if x2 = 33 then k4 m1 else
  (if x2 = 40 then k4 m1 else
  calv (rv (R 4 m1 a1 0)) (fun m8 => cTl R a1 a2 m8))))) := rfl
theorem unit_s (hb : Bt tx L) (hd : d ≤ 6) (ihs : SumIH tx L z off (f + 1) g d) (ihu : d < 6 → TrS tx L z off f (g + 1) 2 4 (d + 1) (16 - 2 * (d + 1))) (ihc : d < 6 → TrS tx L z off f (g + 1) 0 6 (d + 1) (18 - 2 * (d + 1))) : TrS tx L z off (f + 2) (g + 2) 2 4 d (16 - 2 * d) := by
  intro mc mm p n T M S
  suffices key : ∃ r v mc' mm', f_X6_readUnit (rec6 (f + 1)) mc (nI d) 0 = some (r, mc') ∧ f_X11_unit (rec11 (g + 1)) mm = some (v, mm') ∧ bo v ∧ (mm'.1 27 11 = -1 → r = 1) ∧ PO L (l6m (mm.1 31)) (16 - 2 * d) d p n mc mm v mc' mm' from key
  obtain ⟨S1, S2, S3, S4, S5, S6, S7, S8⟩ := S
  have l240 := T.1
  have qge := sk_ge (tx := tx) (L := L) (p := p)
  have qle := sk_le (tx := tx) S3
  have eP := peek_v T (i := 11) (by decide) (by decide) S1 S3 S2
  have eL := look_v hb M S4 S3
  have qq := sk_sk (tx := tx) (L := L) (p := p)
  generalize sk tx L p = q at *
  have fc : Fr sK mc (wr mc 11 1 (nI q)) := Fr.w1 rfl
  have fm : Fr sL mm (wr mm 27 10 (nI q)) := Fr.w1 rfl
  have Tq : ∀ v, Tx tx L (wr mc 11 1 v) := fun v => Tx_wr T (by decide) (by decide)
  have Mq : ∀ v, Mx tx L z off (wr mm 27 10 v) := fun v => Mx_wr M (by decide) (by decide) (by decide)
  have c1 : (wr mc 11 1 (nI q)).1 11 1 = nI q := by rw [wr_at, pk_us]
  have c2 : ∀ v, (wr mc 11 1 v).1 11 2 = -1 := fun v => by rw [wr_at, pk_un (by decide)]; exact S2
  have c3 : ∀ v, (wr mc 11 1 v).1 10 2 = nI n := fun v => by rw [wr_ne (by decide)]; exact S7
  have d1 : (wr mm 27 10 (nI q)).1 27 10 = nI q := by rw [wr_at, pk_us]
  have d2 : ∀ v, (wr mm 27 10 v).1 27 11 = -1 := fun v => by rw [wr_at, pk_un (by decide)]; exact S5
  have d3 : ∀ v, (wr mm 27 10 v).1 27 12 = nI d := fun v => by rw [wr_at, pk_un (by decide)]; exact S6
  have fc1 : Fr sK mc (wr mc 11 1 (nI (q + 1))) := Fr.w1 rfl
  have fm1 : Fr sL mm (wr (wr (wr mm 27 10 (nI q)) 27 12 (nI (d + 1))) 27 10 (nI (q + 1))) := (fm.tr (m2 := wr (wr mm 27 10 (nI q)) 27 12 (nI (d + 1))) (Fr.w1 rfl)).tr (Fr.w1 rfl)
  have M1 : Mx tx L z off (wr (wr (wr mm 27 10 (nI q)) 27 12 (nI (d + 1))) 27 10 (nI (q + 1))) := Mx_wr (Mx_wr (Mq _) (by decide) (by decide) (by decide)) (by decide) (by decide) (by decide)
  have e31 : (wr (wr (wr mm 27 10 (nI q)) 27 12 (nI (d + 1))) 27 10 (nI (q + 1))).1 31 = mm.1 31 := by rw [wr_ne (by decide), wr_ne (by decide), wr_ne (by decide)]
  have St : q < L → LSt L (d + 1) (q + 1) n (wr mc 11 1 (nI (q + 1))) (wr (wr (wr mm 27 10 (nI q)) 27 12 (nI (d + 1))) 27 10 (nI (q + 1))) := fun qL => ⟨by rw [wr_at, pk_us], c2 _, by omega, by rw [wr_at, pk_us], by rw [wr_at, pk_un (by decide), wr_at, pk_un (by decide)]; exact d2 _, by rw [wr_at, pk_un (by decide), wr_at, pk_us], c3 _, by omega⟩
  by_cases y33 : chr tx L q = 33
  · have qL : q < L := chr_m1 (by rw [y33]; decide)
    rcases Nat.lt_or_ge d 6 with d6 | d6
    · obtain ⟨r, v, mc2, mm2, r1, r2, r3, r4, g1, g2, g3⟩ := ihu d6 _ _ (q + 1) n (Tq (nI (q + 1))) M1 (St qL)
      rw [e31] at g3
      have hc : ∀ m4, f_X6_writeSign mc2 33 = some m4 → f_X6_readUnit (rec6 (f + 1)) mc (nI d) 0 = some (1, m4) := by
        intro m4 hw
        have e3 : rec6 (f + 1) 3 (wr mc 11 1 (nI (q + 1))) (nI (d + 1)) 33 = some (0, m4) := by
          show ri (f_X6_readInnerUnit (rec6 f) _ _ _) = _
          unfold f_X6_readInnerUnit
          rw [if_pos rfl, r1, cal_eq, hw, calv_eq]
          rfl
        rw [unit_c, eP, cal_eq, bnd_eq, if_pos y33]
        dsimp only
        rw [gd_v d6 c1, cal_eq, if_neg n10, nI_1, wr_wr2, y33, e3]
        rfl
      have hm : f_X11_unit (rec11 (g + 1)) mm = some (1 - v, wr mm2 27 12 ((mm2.1 27 12) - 1)) := by
        unfold f_X11_unit
        rw [eL, cal_eq, if_pos y33, gi_v d6 (d3 _) d1, cal_eq, if_neg n10, r2, cal_eq, bnd_eq]
        rcases r3 with rfl | rfl <;> rfl
      have hbo : bo (1 - v) := by
        rcases r3 with rfl | rfl
        · exact .inr rfl
        · exact .inl rfl
      rcases g3 with ⟨p2, s, h1, ⟨t1, t2, t3, t4, t5, t6, t7, t8⟩, h3, h4, h5, h6⟩ | hw
      · have ew : f_X6_writeSign mc2 33 = some (wr (wr mc2 12 (n + s.length) 10033) 10 2 (nI (n + s.length + 1))) := by
          rw [cws_v t7 (by omega)]; rfl
        rw [t6, nI_s1 (by omega), Nat.add_sub_cancel] at hm
        have el : (s ++ [(10033 : Int32)]).length = s.length + 1 := by rw [List.length_append]; rfl
        refine ⟨1, _, _, _, hc _ ew, hm, hbo, fun _ => rfl, (fc1.tr g1).tr fr_w12, (fm1.tr g2).tr (Fr.w1 rfl), .inl ⟨p2, s ++ [10033], by rw [el]; omega, ?_, ?_, ?_, ?_, ?_⟩⟩
        · rw [el, ← Nat.add_assoc]
          exact LSt_w ⟨t1, t2, t3, by rw [wr_at, pk_un (by decide)]; exact t4, by rw [wr_at, pk_un (by decide)]; exact t5, by rw [wr_at, pk_us], t7, by omega⟩ (by omega)
        · rw [w12]
          exact At_app (At_eq h3 fun i hi => by rw [pk_un (by omega)]) At_w
        · intro i hi
          rw [w12, pk_un (by omega), h4 i hi, wr_ne (by decide)]
        · intro c hc
          rw [List.mem_append] at hc
          rcases hc with hc | hc
          · exact h5 c hc
          · have : c = 10033 := by simpa using hc
            subst this
            exact .inr ⟨33, by decide, by decide, by decide, rfl⟩
        · exact EV_not (EV_mono h6 (by omega)) (by omega)
      · obtain ⟨m4, w1, w2⟩ := fws_b (a := 33) (LWb_FL hw)
        exact ⟨1, _, _, _, hc _ w1, hm, hbo, fun _ => rfl, (fc1.tr g1).tr w2.1, (fm1.tr g2).tr (Fr.w1 rfl), .inr (LWb_12 (LWb_FO hw w2))⟩
    · have d6' : d = 6 := by omega
      subst d6'
      have hc : f_X6_readUnit (rec6 (f + 1)) mc (nI 6) 0 = some (1, wr (wr mc 11 1 (nI q)) 11 2 (nI q)) := by
        rw [unit_c, eP, cal_eq, bnd_eq, if_pos y33]
        dsimp only
        rw [gd_f (c2 _) c1, cal_eq, if_pos rfl]
      have hm : f_X11_unit (rec11 (g + 1)) mm = some (0, wr (wr mm 27 10 (nI q)) 27 11 (nI q)) := by
        unfold f_X11_unit
        rw [eL, cal_eq, if_pos y33, gi_f (d3 _) (d2 _) d1, cal_eq, if_pos rfl]
      exact ⟨1, _, _, _, hc, hm, .inl rfl, fun _ => rfl, fc.tr (Fr.w1 rfl), fm.tr (Fr.w1 rfl), .inr (bad_at (n := n) (by omega) (by omega) (c3 _))⟩
  · by_cases y40 : chr tx L q = 40
    · have qL : q < L := chr_m1 (by rw [y40]; decide)
      rcases Nat.lt_or_ge d 6 with d6 | d6
      · obtain ⟨r, v, mc2, mm2, r1, r2, r3, r4, g1, g2, g3⟩ := ihc d6 _ _ (q + 1) n (Tq (nI (q + 1))) M1 (St qL)
        rw [e31] at g3
        have hc : ∀ m4, f_X2_needs 11 mc2 41 = some m4 → f_X6_readUnit (rec6 (f + 1)) mc (nI d) 0 = some (1, m4) := by
          intro m4 hw
          have e3 : rec6 (f + 1) 3 (wr mc 11 1 (nI (q + 1))) (nI (d + 1)) 40 = some (0, m4) := by
            show ri (f_X6_readInnerUnit (rec6 f) _ _ _) = _
            unfold f_X6_readInnerUnit
            rw [if_neg (by decide), r1, cal_eq, hw, calv_eq]
            rfl
          rw [unit_c, eP, cal_eq, bnd_eq, if_neg y33, if_pos y40]
          dsimp only
          rw [gd_v d6 c1, cal_eq, if_neg n10, nI_1, wr_wr2, y40, e3]
          rfl
        have hm : f_X11_unit (rec11 (g + 1)) mm = cal (f_X11_takes mm2 41) (fun x10 m9 => (if x10 = 0 then some (0, m9) else
  bnd (wr m9 27 12 ((m9.1 27 12) - 1)) (fun m11 => some (v, m11)))) := by
          unfold f_X11_unit
          rw [eL, cal_eq, if_neg y33, if_pos y40, gi_v d6 (d3 _) d1, cal_eq, if_neg n10, r2, cal_eq]
          simp only [bo_isB r3, ↓reduceIte]
        have T2 := sK_Tx (Tq (nI (q + 1))) g1
        have M2 := sL_Mx M1 g2
        rcases g3 with ⟨p2, s, h1, ⟨t1, t2, t3, t4, t5, t6, t7, t8⟩, h3, h4, h5, h6⟩ | hw
        · have rge := sk_ge (tx := tx) (L := L) (p := p2)
          have rle := sk_le (tx := tx) t3
          have ew := needs_v (a := 41) T2 t1 t3 t2
          rw [mtakes_v hb M2 t4 t3 t5] at hm
          generalize sk tx L p2 = o at *
          by_cases y : chr tx L o = 41
          · have oL : o < L := chr_m1 (by rw [y]; decide)
            rw [if_pos y] at ew hm
            rw [cal_eq, if_neg n10, bnd_eq, wr_at, pk_un (by decide), t6, nI_s1 (by omega), Nat.add_sub_cancel] at hm
            exact ⟨1, _, _, _, hc _ ew, hm, r3, fun _ => rfl, (fc1.tr g1).tr (Fr.w1 rfl), ((fm1.tr g2).tr (m2 := wr mm2 27 10 (nI (o + 1))) (Fr.w1 rfl)).tr (Fr.w1 rfl), .inl ⟨o + 1, s, by omega, ⟨by rw [wr_at, pk_us], by rw [wr_at, pk_un (by decide)]; exact t2, by omega, by rw [wr_at, pk_un (by decide), wr_at, pk_us], by rw [wr_at, pk_un (by decide), wr_at, pk_un (by decide)]; exact t5, by rw [wr_at, pk_us], by rw [wr_ne (by decide)]; exact t7, by omega⟩, by rw [wr_ne (by decide)]; exact h3, fun i hi => by rw [wr_ne (by decide), h4 i hi, wr_ne (by decide)], h5, EV_mono h6 (by omega)⟩⟩
          · rw [if_neg y] at ew hm
            rw [cal_eq, if_pos rfl] at hm
            exact ⟨1, _, _, _, hc _ ew, hm, .inl rfl, fun _ => rfl, ((fc1.tr g1).tr (m2 := wr mc2 11 1 (nI o)) (Fr.w1 rfl)).tr (Fr.w1 rfl), ((fm1.tr g2).tr (m2 := wr mm2 27 10 (nI o)) (Fr.w1 rfl)).tr (Fr.w1 rfl), .inr (bad_at (n := n + s.length) (by omega) (by omega) (by rw [wr_ne (by decide)]; exact t7))⟩
        · rw [mtakes_f (LWb_m hw), cal_eq, if_pos rfl] at hm
          exact ⟨1, _, _, _, hc _ (fneeds_b (LWb_FL hw) (by decide)), hm, .inl rfl, fun _ => rfl, fc1.tr g1, fm1.tr g2, .inr hw⟩
      · have d6' : d = 6 := by omega
        subst d6'
        have hc : f_X6_readUnit (rec6 (f + 1)) mc (nI 6) 0 = some (1, wr (wr mc 11 1 (nI q)) 11 2 (nI q)) := by
          rw [unit_c, eP, cal_eq, bnd_eq, if_neg y33, if_pos y40]
          dsimp only
          rw [gd_f (c2 _) c1, cal_eq, if_pos rfl]
        have hm : f_X11_unit (rec11 (g + 1)) mm = some (0, wr (wr mm 27 10 (nI q)) 27 11 (nI q)) := by
          unfold f_X11_unit
          rw [eL, cal_eq, if_neg y33, if_pos y40, gi_f (d3 _) (d2 _) d1, cal_eq, if_pos rfl]
        exact ⟨1, _, _, _, hc, hm, .inl rfl, fun _ => rfl, fc.tr (Fr.w1 rfl), fm.tr (Fr.w1 rfl), .inr (bad_at (n := n) (by omega) (by omega) (c3 _))⟩
    · obtain ⟨v, mc2, mm2, r1, r2, g1, g2, g3⟩ := ihs (wr mc 11 1 (nI q)) (wr mm 27 10 (nI q)) q n (Tq _) (Mq _) ⟨c1, c2 _, qle, d1, d2 _, d3 _, c3 _, by omega⟩
      have e31' : (wr mm 27 10 (nI q)).1 31 = mm.1 31 := wr_ne (by decide)
      rw [e31'] at g3
      have fc2 := fc.tr g1
      have fm2 := fm.tr g2
      have hc : f_X6_readUnit (rec6 (f + 1)) mc (nI d) 0 = cTl (rec6 (f + 1)) (nI d) 0 mc2 := by
        rw [unit_c, eP, cal_eq, bnd_eq, if_neg y33, if_neg y40, r1]
        rfl
      have hm : ∀ v' mm', mTl (rec11 g) mm2 v = some (v', mm') → bo v' → f_X11_unit (rec11 (g + 1)) mm = some (v', mm') := by
        intro v' mm' h h'
        have e3 : rec11 (g + 1) 3 (wr mm 27 10 (nI q)) 0 0 = some (v', mm') := by
          show f_X11_compares (rec11 g) _ 0 0 = _
          rw [cmp_0, r2, cal_eq, h]
        unfold f_X11_unit
        rw [eL, cal_eq, if_neg y33, if_neg y40, e3, cal_eq, if_pos (bo_isB h')]
      rcases g3 with ⟨p2, hw⟩ | hw
      · have hw' : PW L (l6m (mm.1 31)) (15 - 2 * d) d p n mc p2 v mc2 mm2 := PW_base hw qge (fun i => by rw [wr_ne (by decide)]) (Nat.le_refl _)
        by_cases sg : sg3 (chr tx L (sk tx L p2))
        · obtain ⟨v', mc', mm', z1, z2, z3, z4⟩ := cmp_y (a2 := 0) hb ihs hd T M S8 fc2 fm2 hw' sg
          exact ⟨1, v', mc', mm', hc.trans z1, hm _ _ z2 z3, z3, fun _ => rfl, z4⟩
        · obtain ⟨s, h1, ⟨t1, t2, t3, t4, t5, t6, t7, t8⟩, _⟩ := hw'
          have o1 := sk_le (tx := tx) t3
          have z1 := cTl_n (R := rec6 (f + 1)) (a1 := nI d) (a2 := 0) (sK_Tx T fc2) t1 t3 t2 sg
          have z2 := mTl_n (R := rec11 g) (x := v) hb (sL_Mx M fm2) t4 t3 t5 sg
          rw [if_pos rfl] at z1
          exact ⟨0, 0, _, _, hc.trans z1, hm _ _ z2 (.inl rfl), .inl rfl, fun e => absurd e (by rw [wr_at, pk_us]; exact nI_m1 (by omega)), (fc2.tr (m2 := wr mc2 11 1 (nI (sk tx L p2))) (Fr.w1 rfl)).tr (Fr.w1 rfl), (fm2.tr (m2 := wr mm2 27 10 (nI (sk tx L p2))) (Fr.w1 rfl)).tr (Fr.w1 rfl), .inr (bad_at (n := n + s.length) (by omega) (by omega) (by rw [wr_ne (by decide)]; exact t7))⟩
      · exact ⟨0, 0, mc2, mm2, hc.trans (cTl_b (LWb_FL hw)), hm _ _ (mTl_b (LWb_m hw)) (.inl rfl), .inl rfl, fun e => absurd e (LWb_m hw), fc2, fm2, .inr hw⟩
theorem unit_all (hb : Bt tx L) : ∀ e d f g, d + e = 6 → 4 * e + 4 ≤ f → 3 * e + 5 ≤ g → TrS tx L z off f g 2 4 d (16 - 2 * d)
  | 0, d, f, g, hd, hf, hg => by
    obtain ⟨f, rfl⟩ : ∃ f', f = f' + 2 := ⟨f - 2, by omega⟩
    obtain ⟨g, rfl⟩ : ∃ g', g = g' + 2 := ⟨g - 2, by omega⟩
    exact unit_s hb (by omega) (sum_all hb 0 d _ _ hd (by omega) (by omega)) (fun h => absurd h (by omega)) (fun h => absurd h (by omega))
  | e + 1, d, f, g, hd, hf, hg => by
    obtain ⟨f, rfl⟩ : ∃ f', f = f' + 4 := ⟨f - 4, by omega⟩
    obtain ⟨g, rfl⟩ : ∃ g', g = g' + 3 := ⟨g - 3, by omega⟩
    exact unit_s hb (by omega) (sum_all hb (e + 1) d _ _ hd (by omega) (by omega)) (fun h => unit_all hb e (d + 1) (f + 2) (g + 2) (by omega) (by omega) (by omega)) (fun h => cond_s hb (unit_all hb e (d + 1) f g (by omega) (by omega) (by omega)) (by omega))
end
