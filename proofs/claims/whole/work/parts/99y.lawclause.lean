/-! laws' texts: a clause's beginning -/
section
variable {nl B B' : Nat} {ln : Nat → Nat} {m m1 m2 m' mc mm mc0 mm0 mc1 mm1 mc2 mm2 : Sg} {j w u : Nat} {a a1 a2 a3 a4 r x x2 c v v1 v2 op : Int32} {L p q k k1 k2 i n off b N t P d f g p' n' p1 : Nat} {tx lt F G : Nat → Int32} {z : Bool} {s s1 s2 : List Int32} {R : Nat → Sg → Int32 → Int32 → Option (Int32 × Sg)}
/-- the model's clause: its end, its middle -/
def mK (x2 : Int32) (m10 : Sg) (x11 x12 : Int32) : Option Sg := (if (m10.1 27 11) = (-1) then (if (m10.1 27 17) = 0 then (if x2 = (m10.1 27 13) then (if x11 = 0 then some m10 else
  bnd (wr m10 27 17 1) (fun m14 => bnd (wr m14 27 14 x12) (fun m15 => some m15))) else
  some m10) else
  some m10) else
  some m10)
def mQ (x2 : Int32) (m18 : Sg) (x19 : Int32) : Option Sg := cal (f_X11_takes m18 63) (fun x21 m20 => (if x21 = 0 then some m20 else
  cal (rec11 64 2 m20 0 0) (fun x23 m22 => mK x2 m22 x19 x23)))
def mCl (x2 : Int32) (m6 : Sg) : Option Sg := cal (f_X11_look m6) (fun x9 m8 => bnd (fun (m16 : Sg) => cal (rec11 64 6 m16 0 0) (fun x19 m18 => mQ x2 m18 x19)) (fun (k17 : Sg → Option (Sg)) =>
  (if x9 = 33 then k17 m8 else
  (if x9 = 40 then k17 m8 else
  cal (rec11 64 2 m8 0 0) (fun x25 m24 => (if (m24.1 27 11) = (-1) then cal (f_X11_look m24) (fun x27 m26 => cal (f_X11_isSign m26 x27) (fun x29 m28 => (if x29 = 0 then mK x2 m28 1 x25 else
  cal (rec11 64 6 m28 1 x25) (fun x31 m30 => mQ x2 m30 x31)))) else
  mK x2 m24 1 x25))))))
theorem mclause_e : f_X11_clause m = cal (f_X11_look m) (fun x2 m1 => cal (f_X11_isAmong 0 m1 x2) (fun x4 m3 => (if x4 = 0 then cal (f_X11_fails m3) (fun x37 m36 => some m36) else
  bnd (wr m3 27 10 ((m3.1 27 10) + 1)) (fun m5 => cal (f_X11_takes m5 58) (fun x7 m6 => (if x7 = 0 then some m6 else mCl x2 m6)))))) := rfl
theorem mK_b (hf : ¬ m.1 27 11 = -1) : mK x2 m a x = some m := by
  unfold mK
  rw [if_neg hf]
theorem mQ_b (hf : ¬ m.1 27 11 = -1) : mQ x2 m a = some m := by
  unfold mQ
  rw [mtakes_f hf, cal_eq, if_pos rfl]
theorem peek_q (T : Tx tx L m) (hp : m.1 11 1 = nI p) (hL : p ≤ L) (hf : m.1 11 2 = -1) : f_X2_peek 11 (wr m 11 1 (nI (sk tx L p))) = f_X2_peek 11 m := by
  have e := peek_v (i := 11) (m := wr m 11 1 (nI (sk tx L p))) (Tx_wr T (by decide) (by decide)) (by decide) (by decide) (by rw [wr_at, pk_us]) (sk_le (tx := tx) hL) (by rw [wr_at, pk_un (by decide)]; exact hf)
  rw [sk_sk, wr_wr2] at e
  rw [e, peek_v T (by decide) (by decide) hp hL hf]
theorem look_q (hb : Bt tx L) (M : Mx tx L z off m) (hp : m.1 27 10 = nI p) (hL : p ≤ L) : f_X11_look (wr m 27 10 (nI (sk tx L p))) = f_X11_look m := by
  have e := look_v (m := wr m 27 10 (nI (sk tx L p))) hb (Mx_wr M (by decide) (by decide) (by decide)) (by rw [wr_at, pk_us]) (sk_le (tx := tx) hL)
  rw [sk_sk, wr_wr2] at e
  rw [e, look_v hb M hp hL]
theorem unit_q (T : Tx tx L m) (hp : m.1 11 1 = nI p) (hL : p ≤ L) (hf : m.1 11 2 = -1) (h : chr tx L (sk tx L p) = 33 ∨ chr tx L (sk tx L p) = 40) : f_X6_readUnit R m a1 a2 = f_X6_readUnit R (wr m 11 1 (nI (sk tx L p))) a1 0 := by
  rw [unit_c, unit_c, peek_q T hp hL hf, peek_v T (by decide) (by decide) hp hL hf, cal_eq, cal_eq, bnd_eq, bnd_eq]
  rcases h with e | e
  · rw [if_pos e, if_pos e]
  · by_cases y : chr tx L (sk tx L p) = 33
    · rw [if_pos y, if_pos y]
    · rw [if_neg y, if_neg y, if_pos e, if_pos e]
theorem cTl_q (T : Tx tx L m) (hp : m.1 11 1 = nI p) (hL : p ≤ L) (hf : m.1 11 2 = -1) : cTl R a1 a2 (wr m 11 1 (nI (sk tx L p))) = cTl R a1 a2 m := by
  unfold cTl
  rw [peek_q T hp hL hf]
theorem PW_k (h : PW L lt k d p n mc p' v mc1 mm1) (hk : k ≤ k2) : PW L lt k2 d p n mc p' v mc1 mm1 := PW_base h (Nat.le_refl _) (fun _ => rfl) hk
/-- after the colon -/
def Start (tx : Nat → Int32) (L p n : Nat) (x2 : Int32) (mc mm : Sg) (r : Int32) (mc' mm' : Sg) : Prop := Fr sK mc mc' ∧ Fr sL mm mm' ∧ ((r = 0 ∧ ∃ v p', mCl x2 mm = mK x2 mm' 1 v ∧ PW L (l6m (mm.1 31)) 18 0 p n mc p' v mc' mm') ∨ (r = 1 ∧ ∃ v p', bo v ∧ mCl x2 mm = mQ x2 mm' v ∧ PW L (l6m (mm.1 31)) 18 0 p n mc p' v mc' mm') ∨ (LWb mc' mm' ∧ mCl x2 mm = some mm'))
theorem start_s (hb : Bt tx L) (T : Tx tx L mc) (M : Mx tx L z off mm) (S : LSt L 0 p n mc mm) : ∃ r mc' mm', rec6 64 0 mc (nI 0) 1 = some (r, mc') ∧ Start tx L p n x2 mc mm r mc' mm' := by
  obtain ⟨S1, S2, S3, S4, S5, S6, S7, S8⟩ := S
  have l240 := T.1
  have qge := sk_ge (tx := tx) (L := L) (p := p)
  have qle := sk_le (tx := tx) S3
  have eP := peek_v T (i := 11) (by decide) (by decide) S1 S3 S2
  have eL := look_v hb M S4 S3
  have uq := fun h R => unit_q (a1 := nI 0) (a2 := 1) (R := R) T S1 S3 S2 h
  generalize sk tx L p = q at *
  have fc : Fr sK mc (wr mc 11 1 (nI q)) := Fr.w1 rfl
  have fm : Fr sL mm (wr mm 27 10 (nI q)) := Fr.w1 rfl
  have Tq : Tx tx L (wr mc 11 1 (nI q)) := Tx_wr T (by decide) (by decide)
  have Mq : Mx tx L z off (wr mm 27 10 (nI q)) := Mx_wr M (by decide) (by decide) (by decide)
  have Sq : LSt L 0 q n (wr mc 11 1 (nI q)) (wr mm 27 10 (nI q)) := ⟨by rw [wr_at, pk_us], by rw [wr_at, pk_un (by decide)]; exact S2, qle, by rw [wr_at, pk_us], by rw [wr_at, pk_un (by decide)]; exact S5, by rw [wr_at, pk_un (by decide)]; exact S6, by rw [wr_ne (by decide)]; exact S7, by omega⟩
  have e31 : (wr mm 27 10 (nI q)).1 31 = mm.1 31 := wr_ne (by decide)
  have e12 : ∀ i, (wr mc 11 1 (nI q)).1 12 i = mc.1 12 i := fun i => by rw [wr_ne (by decide)]
  have hU : TrS tx L z off 62 62 2 4 0 (16 - 2 * 0) := unit_all hb 6 0 62 62 (by decide) (by decide) (by decide)
  by_cases y : chr tx L q = 33 ∨ chr tx L q = 40
  · obtain ⟨r, v, mc', mm', e1, e2, e3, e4, g1, g2, g3⟩ := cond_s hb hU (by decide) _ _ q n Tq Mq Sq
    rw [e31] at g3
    have hc : rec6 64 0 mc (nI 0) 1 = some (r, mc') := by
      rw [← e1]
      show f_X6_readCondition (rec6 63) mc (nI 0) 1 = f_X6_readCondition (rec6 63) _ (nI 0) 0
      have h1 : rec6 63 1 mc (nI 0) 1 = rec6 63 1 (wr mc 11 1 (nI q)) (nI 0) 0 := by
        show f_X6_readTruth (rec6 62) mc (nI 0) 1 = f_X6_readTruth (rec6 62) _ (nI 0) 0
        have h2 : rec6 62 2 mc (nI 0) 1 = rec6 62 2 (wr mc 11 1 (nI q)) (nI 0) 0 := uq y (rec6 61)
        unfold f_X6_readTruth
        rw [h2]
      unfold f_X6_readCondition
      rw [h1]
    have hm : mCl x2 mm = mQ x2 mm' v := by
      have key : cal (rec11 64 6 (wr mm 27 10 (nI q)) 0 0) (fun x19 m18 => mQ x2 m18 x19) = mQ x2 mm' v := by rw [e2, cal_eq]
      unfold mCl
      rw [eL, cal_eq, bnd_eq]
      dsimp only
      rw [key]
      rcases y with e | e
      · rw [if_pos e]
      · rw [if_pos e]
        split <;> rfl
    refine ⟨r, mc', mm', hc, fc.tr g1, fm.tr g2, ?_⟩
    rcases g3 with ⟨p', hw⟩ | hw
    · have r1 : r = 1 := by
        obtain ⟨s, h1, h2, _⟩ := hw
        exact e4 h2.2.2.2.2.1
      exact .inr (.inl ⟨r1, v, p', e3, hm, PW_base hw qge e12 (by decide)⟩)
    · exact .inr (.inr ⟨hw, by rw [hm]; exact mQ_b (LWb_m hw)⟩)
  · have y33 : ¬ chr tx L q = 33 := fun e => y (.inl e)
    have y40 : ¬ chr tx L q = 40 := fun e => y (.inr e)
    obtain ⟨v, mc2, mm2, r1, r2, g1, g2, g3⟩ := sum_all hb 6 0 61 64 (by decide) (by decide) (by decide) _ _ q n Tq Mq Sq
    rw [e31] at g3
    have fc2 := fc.tr g1
    have fm2 := fm.tr g2
    have hcu : rec6 62 2 mc (nI 0) 1 = cTl (rec6 61) (nI 0) 1 mc2 := by
      show f_X6_readUnit (rec6 61) mc (nI 0) 1 = _
      rw [unit_c, eP, cal_eq, bnd_eq, if_neg y33, if_neg y40, r1]
      rfl
    have hc0 : ∀ m3, rec6 62 2 mc (nI 0) 1 = some (0, m3) → rec6 64 0 mc (nI 0) 1 = some (0, m3) := by
      intro m3 h
      have h1 : rec6 63 1 mc (nI 0) 1 = some (0, m3) := by
        show f_X6_readTruth (rec6 62) mc (nI 0) 1 = _
        unfold f_X6_readTruth
        rw [h, cal_eq, if_pos rfl]
      show f_X6_readCondition (rec6 63) mc (nI 0) 1 = _
      unfold f_X6_readCondition
      rw [h1, cal_eq, if_pos rfl]
    have hm0 : mCl x2 mm = (if (mm2.1 27 11) = (-1) then cal (f_X11_look mm2) (fun x27 m26 => cal (f_X11_isSign m26 x27) (fun x29 m28 => (if x29 = 0 then mK x2 m28 1 v else
  cal (rec11 64 6 m28 1 v) (fun x31 m30 => mQ x2 m30 x31)))) else
  mK x2 mm2 1 v) := by
      unfold mCl
      rw [eL, cal_eq, bnd_eq, if_neg y33, if_neg y40, r2, cal_eq]
    rcases g3 with ⟨p2, hw⟩ | hw
    · have hw1 : PW L (l6m (mm.1 31)) (15 - 2 * 0) 0 p n mc p2 v mc2 mm2 := PW_base hw qge e12 (Nat.le_refl _)
      have hw0 := hw1
      obtain ⟨s, h1, ⟨t1, t2, t3, t4, t5, t6, t7, t8⟩, _⟩ := hw0
      have T2 := sK_Tx T fc2
      have M2 := sL_Mx M fm2
      have oge := sk_ge (tx := tx) (L := L) (p := p2)
      have ole := sk_le (tx := tx) t3
      have hw2 := PW_to hw1 oge ole
      have fc3 : Fr sK mc (wr mc2 11 1 (nI (sk tx L p2))) := fc2.tr (Fr.w1 rfl)
      have fm3 : Fr sL mm (wr mm2 27 10 (nI (sk tx L p2))) := fm2.tr (Fr.w1 rfl)
      rw [if_pos t5, look_v hb M2 t4 t3, cal_eq] at hm0
      by_cases sg : sg3 (chr tx L (sk tx L p2))
      · rw [isSign_y sg, cal_eq, if_neg n10] at hm0
        have sg' : sg3 (chr tx L (sk tx L (sk tx L p2))) := by rw [sk_sk]; exact sg
        obtain ⟨v', mc3, mm3, z1, z2, z3, z4, z5, z6⟩ := cmp_y (a2 := 1) hb (sum_all hb 6 0 61 61 (by decide) (by decide) (by decide)) (by decide) T M S8 fc3 fm3 hw2 sg'
        rw [cTl_q T2 t1 t3 t2] at z1
        obtain ⟨ra, va, mca, mma, a1, a2, a3, a4, a5, a6, a7⟩ := part_l (r := 1) hb hU (by decide) T M S8 z4 z5 z3 (fun _ => rfl) z6
        obtain ⟨rb, vb, mcb, mmb, b1, b2, b3, b4, b5, b6, b7⟩ := cond_l hb (part_s hb hU (by decide)) (by decide) T M S8 a5 a6 a3 a4 a7
        have hc : rec6 64 0 mc (nI 0) 1 = some (rb, mcb) := by
          have h1 : rec6 63 1 mc (nI 0) 1 = some (ra, mca) := by
            show f_X6_readTruth (rec6 62) mc (nI 0) 1 = _
            unfold f_X6_readTruth
            rw [hcu, z1, cal_eq]
            exact a1
          show f_X6_readCondition (rec6 63) mc (nI 0) 1 = _
          unfold f_X6_readCondition
          rw [h1, cal_eq]
          exact b1
        have hm1 : rec11 64 6 (wr mm2 27 10 (nI (sk tx L p2))) 1 v = some (vb, mmb) := by
          have h3 : rec11 62 3 (wr mm2 27 10 (nI (sk tx L p2))) 1 v = some (v', mm3) := by
            show f_X11_compares (rec11 61) _ 1 v = _
            rw [cmp_1]; exact z2
          have h2 : rec11 63 5 (wr mm2 27 10 (nI (sk tx L p2))) 1 v = some (va, mma) := by
            show f_X11_part (rec11 62) _ 1 v = _
            unfold f_X11_part
            rw [bnd_eq, if_neg n10, h3, cal_eq]
            exact a2
          show f_X11_condition (rec11 63) _ 1 v = _
          unfold f_X11_condition
          rw [h2, cal_eq]
          exact b2
        rw [hm1, cal_eq] at hm0
        refine ⟨rb, mcb, mmb, hc, b5, b6, ?_⟩
        rcases b7 with ⟨p', hw⟩ | hw
        · have r1 : rb = 1 := by
            obtain ⟨s, h1, h2, _⟩ := hw
            exact b4 h2.2.2.2.2.1
          exact .inr (.inl ⟨r1, vb, p', b3, hm0, hw⟩)
        · exact .inr (.inr ⟨hw, by rw [hm0]; exact mQ_b (LWb_m hw)⟩)
      · rw [isSign_n sg, cal_eq, if_pos rfl] at hm0
        have z1 := cTl_n (R := rec6 61) (a1 := nI 0) (a2 := 1) T2 t1 t3 t2 sg
        rw [if_neg n10] at z1
        exact ⟨0, _, _, hc0 _ (hcu.trans z1), fc3, fm3, .inl ⟨rfl, v, _, hm0, PW_k hw2 (by decide)⟩⟩
    · rw [if_neg (LWb_m hw)] at hm0
      exact ⟨0, mc2, mm2, hc0 _ (hcu.trans (cTl_b (LWb_FL hw))), fc2, fm2, .inr (.inr ⟨hw, by rw [hm0]; exact mK_b (LWb_m hw)⟩)⟩
end
