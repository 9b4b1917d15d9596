/-! keep, buy -/
section
variable {nl B B' : Nat} {ln : Nat → Nat} {m m1 m2 m4 : Sg} {j w : Nat} {a a1 a2 a3 r s law x : Int32} {f f' g g' lg lg' : Nat → Int32} {nc ne c e t M M' A nx : Nat}
theorem clr_b0 {x y : Int32} : (x &&& (y ^^^ (-1))) ||| y = x ||| y := clr_or x y
/-- the model's row behind keeping -/
def mkp (g : Nat → Int32) (c : Nat) (k6 t v : Int32) (K : Int32) : Nat → Int32 := if v = 0 then upd g (7 * c + 5) (K &&& (tn t ^^^ (-1))) else if k6 = t then upd (upd (upd g (7 * c + 5) (K ||| tn t)) (7 * c + 3) (-1)) (7 * c + 4) 0 else upd g (7 * c + 5) (K ||| tn t)
theorem mKeeps_v (hv : CV (m.1 w) f) (hc : c < 8) {x : Int32} : f_X11_keeps w m (nI c) x = some (wrr m w (mkp (m.1 w) c (kd f c 6) x 1 (kd f c 8))) := by
  have e3 : ∀ y, (wr m w (7 * c + 5) y).1 w (7 * c + 3) = kd f c 6 := by
    intro y; rw [wr_at, pk_un (by omega)]; exact (hv.1 c hc).2.2.2.1
  simp only [f_X11_keeps, i7_5 hc, t7_5 hc, i7_3 hc, t7_3 hc, i7_4 hc, t7_4 hc, ↓reduceIte, bnd_eq, (hv.1 c hc).2.2.2.2.2, e3, mkp, n10]
  by_cases q : kd f c 6 = x
  · rw [if_pos q, if_pos q, show ∀ y, wr m w (7 * c + 5) y = wrr m w (upd (m.1 w) (7 * c + 5) y) from fun _ => rfl, wr_wr, wr_wr]; rfl
  · rw [if_neg q, if_neg q, show ∀ y, wr m w (7 * c + 5) y = wrr m w (upd (m.1 w) (7 * c + 5) y) from fun _ => rfl]; rfl
theorem q_keep (h3 : a3 = 0 ∨ a3 = 1) (R : Rel nl ln B m) : QQ nl ln B (f_X10_keep m a1 a2 a3) (fun m1 => f_X11_keep m1 a1 a2 a3) := by
  refine q_act (a1 := a1) (a2 := a2) R (fun nc ne H h => ?_) (fun nc ne c H hc h h' => ?_) (fun nc ne c t M A nx T H hM L P hc ht h h' => ?_)
  · have H' := HM_fr H (fr_thr m 0)
    exact ⟨by simp only [f_X10_keep, hct_no H.2.2.1 h, cal_eq, ↓reduceIte], by simp only [f_X11_keep, bnd_eq, iC_no H'.1 h, cal_eq, ↓reduceIte]⟩
  · subst h
    have H' := HM_fr H (fr_thr m 0)
    have hn8 := H.2.2.2.2.2.1
    exact ⟨by simp only [f_X10_keep, hct_no2 H.2.2.1 hc hn8 h', cal_eq, ↓reduceIte], by simp only [f_X11_keep, bnd_eq, iC_yes H'.1 hc hn8, ten_no h', cal_eq, n10, ↓reduceIte]⟩
  · subst h; subst h'
    have H' := HM_fr H (fr_thr m 0)
    have hn8 := H.2.2.2.2.2.1
    have hc8 : c < 8 := by omega
    obtain ⟨v1, v2, v3⟩ := H'.2.2.2.2.2.2.2 (by omega)
    obtain ⟨x1, x2, x3⟩ := H.2.2.2.2.2.2.2 (by omega)
    have F := T.2.1
    obtain ⟨c1, c2, c3, c4, c5, c6⟩ := F.2.1.1 c hc8
    obtain ⟨d0, d1, d2, d3, d4, d5, d6, d8⟩ := F.1.2.2.2.2.1 c hc
    by_cases q : (if b0 (kd (m.1 4) c 8) t then (0 : Int32) else 1) = a3
    · refine QQ_q R (r := -1) (m1 := m) (m2 := wr m 27 0 0) ?_ Fr.rf ?_ (fr_thr m 0)
      · simp only [f_X10_keep, hct_yes H.2.2.1 hc hn8 ht, cal_eq, n10, ↓reduceIte, bit_v (x := 8) (w := 8) rfl hc8 (show 8 < 10 by decide), if_pos q]
      · simp only [f_X11_keep, bnd_eq, iC_yes H'.1 hc hn8, ten_yes ht, cal_eq, n10, ↓reduceIte, i7_5 hc8, t7_5 hc8, (v1.1 c hc8).2.2.2.2.2, has_v, if_pos q]
    · have HT := acT_HM (nx := nx) (A := A) (f' := kpR (m.1 4) c (nI t) a3) H
      obtain ⟨u1, u2, u3⟩ := HT.2.2.2.2.2.2.2 (by omega)
      refine ⟨nI (mn (A + 1) 40), acC m nx A (kpR (m.1 4) c (nI t) a3), acM m nx A (kpR (m.1 4) c (nI t) a3) (mkp (m.1 38) c (kd (m.1 4) c 6) (nI t) a3 (kd (m.1 4) c 8)), ?_, ?_, ?_⟩
      · simp only [f_X10_keep, hct_yes H.2.2.1 hc hn8 ht, cal_eq, calv_eq, n10, ↓reduceIte, bit_v (x := 8) (w := 8) rfl hc8 (show 8 < 10 by decide), if_neg q, remC_P P, setKept_v hc8, f_X7_acts, rmC_p (show 4 ≠ 16 by decide) (show 4 ≠ 17 by decide)]
        rw [wrr_ne (show 16 ≠ 4 by decide), rmC_16, if_pos rfl]; rfl
      · simp only [f_X11_keep, bnd_eq]
        rw [show ∀ f', wr (acC m nx A f') 27 0 0 = acT m nx A f' from fun _ => rfl]
        have cv : CV ((rmM (acT m nx A (kpR (m.1 4) c (nI t) a3)) A).1 38) (m.1 4) := by rw [rmT_38]; exact x1
        simp only [iC_yes HT.1 hc hn8, ten_yes ht, cal_eq, calv_eq, n10, ↓reduceIte, i7_5 hc8, t7_5 hc8, (u1.1 c hc8).2.2.2.2.2, has_v, if_neg q, remT_P P, mKeeps_v cv hc8, rmT_w1, rmT_38, c6]
        rcases h3 with z | z
        · subst z
          rw [if_pos rfl, acM_39]; rfl
        · subst z
          rw [if_neg n10]
          show some ((acM m nx A (kpR (m.1 4) c (nI t) 1) (mkp (m.1 38) c (kd (m.1 4) c 6) (nI t) 1 (kd (m.1 4) c 8))).1 27 39, _) = _
          rw [acM_39]; rfl
      · have ko : ∀ k, k ≠ 10 * c + 6 → k ≠ 10 * c + 7 → k ≠ 10 * c + 8 → kpR (m.1 4) c (nI t) a3 k = m.1 4 k := by
          intro k h6 h7 h8
          unfold kpR enL
          split
          · rw [pk_un h8]
          · split
            · rw [pk_un h7, pk_un h6, pk_un h8]
            · rw [pk_un h8]
        have kw : ∀ w, w < 6 ∨ 8 < w → kd (kpR (m.1 4) c (nI t) a3) c w = kd (m.1 4) c w := fun w hw => ko _ (by omega) (by omega) (by omega)
        have go : ∀ k, k ≠ 7 * c + 3 → k ≠ 7 * c + 4 → k ≠ 7 * c + 5 → mkp (m.1 38) c (kd (m.1 4) c 6) (nI t) a3 (kd (m.1 4) c 8) k = m.1 38 k := by
          intro k h3 h4 h5
          unfold mkp
          split
          · rw [pk_un h5]
          · split
            · rw [pk_un h4, pk_un h3, pk_un h5]
            · rw [pk_un h5]
        have d8o : ∃ a, a < 512 ∧ kd (m.1 4) c 8 ||| tn (nI t) = nI a := by
          obtain ⟨a, z1, z2⟩ := d8
          rw [z2]; exact or_tn z1 ht
        have d8a : ∃ a, a < 512 ∧ kd (m.1 4) c 8 &&& (tn (nI t) ^^^ (-1)) = nI a := by
          obtain ⟨a, z1, z2⟩ := d8
          rw [z2]; exact and_lt _ z1
        refine acM_child R T P L hM hc (fun k hk _ => ko k (by omega) (by omega) (by omega)) (fun k hk _ => go k (by omega) (by omega) (by omega)) (fun w hw => kw w (by omega)) (go _ (by omega) (by omega) (by omega)) (go _ (by omega) (by omega) (by omega)) ?_ ?_ ?_ ?_ ?_ ?_ ?_ ?_ ?_ ?_ ?_
        · rw [kw 1 (by omega), go _ (by omega) (by omega) (by omega), c2]
        · rw [kw 2 (by omega), go _ (by omega) (by omega) (by omega), c3]
        · unfold mkp kpR enL kd
          split
          · rw [pk_un (by omega), pk_un (by omega)]; exact c4
          · split
            · rw [pk_un (by omega), pk_us, pk_un (by omega), pk_us]
            · rw [pk_un (by omega), pk_un (by omega)]; exact c4
        · unfold mkp kpR enL kd
          split
          · rw [pk_un (by omega), pk_un (by omega)]; exact c5
          · split
            · rw [pk_us, pk_us]
            · rw [pk_un (by omega), pk_un (by omega)]; exact c5
        · unfold mkp kpR enL
          split
          · rw [pk_us]; exact pk_us.symm
          · rw [clr_or]
            split
            · rw [pk_un (by omega), pk_un (by omega), pk_us]
              unfold kd
              rw [pk_un (by omega), pk_un (by omega), pk_us]
            · rw [pk_us]; exact pk_us.symm
        · rw [kw 1 (by omega)]; exact d1
        · rw [kw 2 (by omega)]; exact d2
        · have : kd (kpR (m.1 4) c (nI t) a3) c 8 = if a3 = 0 then kd (m.1 4) c 8 &&& (tn (nI t) ^^^ (-1)) else kd (m.1 4) c 8 ||| tn (nI t) := by
            unfold kpR enL
            split
            · exact pk_us
            · rw [clr_or]
              split
              · unfold kd
                rw [pk_un (by omega), pk_un (by omega), pk_us]
              · exact pk_us
          rw [this]
          split
          · exact d8a
          · exact d8o
        · unfold kpR enL
          split
          · have e6 : ∀ y, kd (upd (m.1 4) (10 * c + 8) y) c 6 = kd (m.1 4) c 6 := fun y => pk_un (by omega)
            have e7 : ∀ y, kd (upd (m.1 4) (10 * c + 8) y) c 7 = kd (m.1 4) c 7 := fun y => pk_un (by omega)
            rw [e6, e7]; exact d6
          · split
            · left
              unfold kd
              exact ⟨by rw [pk_un (by omega), pk_us], pk_us⟩
            · have e6 : ∀ y, kd (upd (m.1 4) (10 * c + 8) y) c 6 = kd (m.1 4) c 6 := fun y => pk_un (by omega)
              have e7 : ∀ y, kd (upd (m.1 4) (10 * c + 8) y) c 7 = kd (m.1 4) c 7 := fun y => pk_un (by omega)
              rw [e6, e7]; exact d6
        · rw [go 62 (by omega) (by omega) (by omega), ko 99 (by omega) (by omega) (by omega)]; exact F.2.2.2.1
        · rw [ko 99 (by omega) (by omega) (by omega)]; exact F.2.2.2.2
/-- the model's row with a ten right -/
def mri (g : Nat → Int32) (c : Nat) (K W t : Int32) : Nat → Int32 := upd (upd g (7 * c + 1) (K ||| tn t)) (7 * c + 2) (W &&& (tn t ^^^ (-1)))
theorem mIsRight_v (h1 : m.1 w (7 * c + 1) = kd f c 1) (h2 : m.1 w (7 * c + 2) = kd f c 2) (hc : c < 8) {x : Int32} : f_X11_isRight w m (nI c) x = some (wrr m w (mri (m.1 w) c (kd f c 1) (kd f c 2) x)) := by
  have e3 : ∀ y, (wr m w (7 * c + 1) y).1 w (7 * c + 2) = kd f c 2 := by
    intro y; rw [wr_at, pk_un (by omega)]; exact h2
  simp only [f_X11_isRight, i7_1 hc, t7_1 hc, i7_2 hc, t7_2 hc, ↓reduceIte, bnd_eq, h1, e3]
  rw [show ∀ y, wr m w (7 * c + 1) y = wrr m w (upd (m.1 w) (7 * c + 1) y) from fun _ => rfl, wr_wr]; rfl
theorem q_buy (hB : B ≤ 40000) (R : Rel nl ln B m) : QQ nl ln B (f_X10_buy m a1 a2) (fun m1 => f_X11_buy m1 a1 a2) := by
  refine q_act (a1 := a1) (a2 := a2) R (fun nc ne H h => ?_) (fun nc ne c H hc h h' => ?_) (fun nc ne c t M A nx T H hM L P hc ht h h' => ?_)
  · have H' := HM_fr H (fr_thr m 0)
    exact ⟨by simp only [f_X10_buy, hct_no H.2.2.1 h, cal_eq, ↓reduceIte], by simp only [f_X11_buy, bnd_eq, iC_no H'.1 h, cal_eq, ↓reduceIte]⟩
  · subst h
    have H' := HM_fr H (fr_thr m 0)
    have hn8 := H.2.2.2.2.2.1
    exact ⟨by simp only [f_X10_buy, hct_no2 H.2.2.1 hc hn8 h', cal_eq, ↓reduceIte], by simp only [f_X11_buy, bnd_eq, iC_yes H'.1 hc hn8, ten_no h', cal_eq, n10, ↓reduceIte]⟩
  · subst h; subst h'
    have H' := HM_fr H (fr_thr m 0)
    have hn8 := H.2.2.2.2.2.1
    have hc8 : c < 8 := by omega
    obtain ⟨v1, v2, v3⟩ := H'.2.2.2.2.2.2.2 (by omega)
    obtain ⟨x1, x2, x3⟩ := H.2.2.2.2.2.2.2 (by omega)
    have F := T.2.1
    obtain ⟨c1, c2, c3, c4, c5, c6⟩ := F.2.1.1 c hc8
    obtain ⟨d0, d1, d2, d3, d4, d5, d6, d8⟩ := F.1.2.2.2.2.1 c hc
    obtain ⟨tr, tr1, tr2⟩ := F.2.2.2.2
    obtain ⟨pr, pr1, pr2⟩ := F.1.2.2.2.2.2.2.2.2.1
    have e62 : m.1 38 62 = m.1 4 99 := F.2.2.2.1
    have e36 : m.1 36 2 = m.1 4 94 := x2.2.2.2.2.1
    by_cases q : b0 (rt (m.1 4) c) t
    · by_cases q2 : pr ≤ tr
      · have l0 : (0 : Int32) ≤ m.1 4 99 - m.1 4 94 := by rw [tr2, pr2]; exact (dif0 (by omega) (by omega)).2.mpr q2
        have l1 : m.1 4 94 ≤ m.1 4 99 := by rw [tr2, pr2]; exact nI_le q2 (by omega)
        have HT := acT_HM (nx := nx) (A := A) (f' := mkR (upd (m.1 4) 99 (m.1 4 99 - m.1 4 94)) c (nI t)) H
        obtain ⟨u1, u2, u3⟩ := HT.2.2.2.2.2.2.2 (by omega)
        refine ⟨m.1 4 99 - m.1 4 94, acC m nx A (mkR (upd (m.1 4) 99 (m.1 4 99 - m.1 4 94)) c (nI t)), acM m nx A (mkR (upd (m.1 4) 99 (m.1 4 99 - m.1 4 94)) c (nI t)) (mri (upd (m.1 38) 62 (m.1 4 99 - m.1 4 94)) c (kd (m.1 4) c 1) (kd (m.1 4) c 2) (nI t)), ?_, ?_, ?_⟩
        · simp only [f_X10_buy, hct_yes H.2.2.1 hc hn8 ht, cal_eq, calv_eq, bnd_eq, n10, ↓reduceIte, isRight_v hc8, if_pos q, cell99, cell94, if_pos l0, remC_P P, put99, makeRight_v hc8]
          rw [show ∀ y, wr (rmC m nx A) 4 99 y = wrr (rmC m nx A) 4 (upd ((rmC m nx A).1 4) 99 y) from fun _ => rfl, rmC_p (show 4 ≠ 16 by decide) (show 4 ≠ 17 by decide), wrr_at, wrr_wrr]; rfl
        · simp only [f_X11_buy, bnd_eq]
          rw [show ∀ f', wr (acC m nx A f') 27 0 0 = acT m nx A f' from fun _ => rfl]
          have w1 : ∀ y, (acM m nx A (mkR (upd (m.1 4) 99 (m.1 4 99 - m.1 4 94)) c (nI t)) (upd (m.1 38) 62 y)).1 38 (7 * c + 1) = kd (m.1 4) c 1 := by
            intro y; rw [acM_38, pk_un (by omega), c2]
          have w2 : ∀ y, (acM m nx A (mkR (upd (m.1 4) 99 (m.1 4 99 - m.1 4 94)) c (nI t)) (upd (m.1 38) 62 y)).1 38 (7 * c + 2) = kd (m.1 4) c 2 := by
            intro y; rw [acM_38, pk_un (by omega), c3]
          simp only [iC_yes HT.1 hc hn8, ten_yes ht, cal_eq, calv_eq, n10, ↓reduceIte, has_v, mRight_v u1 hc8, if_pos q, acT_36, acT_38, e62, e36, if_pos l1, remT_P P, rmT_36, rmT_38, rmT_w1, mIsRight_v (w1 _) (w2 _) hc8]
          rw [show ∀ g1 g2, wrr (acM m nx A (mkR (upd (m.1 4) 99 (m.1 4 99 - m.1 4 94)) c (nI t)) g1) 38 g2 = acM m nx A (mkR (upd (m.1 4) 99 (m.1 4 99 - m.1 4 94)) c (nI t)) g2 from fun _ _ => wrr_wrr, acM_38]
          rw [acM_38]
          have : mri (upd (m.1 38) 62 (m.1 4 99 - m.1 4 94)) c (kd (m.1 4) c 1) (kd (m.1 4) c 2) (nI t) 62 = m.1 4 99 - m.1 4 94 := by
            unfold mri
            rw [pk_un (by omega), pk_un (by omega), pk_us]
          rw [this]
        · have ko : ∀ k, k ≠ 10 * c + 1 → k ≠ 10 * c + 2 → k ≠ 99 → mkR (upd (m.1 4) 99 (m.1 4 99 - m.1 4 94)) c (nI t) k = m.1 4 k := by
            intro k h1 h2 h9
            unfold mkR
            rw [pk_un h2, pk_un h1, pk_un h9]
          have kw : ∀ w, w < 1 ∨ 2 < w → w < 10 → kd (mkR (upd (m.1 4) 99 (m.1 4 99 - m.1 4 94)) c (nI t)) c w = kd (m.1 4) c w := fun w hw hw' => ko _ (by omega) (by omega) (by omega)
          have k1 : kd (mkR (upd (m.1 4) 99 (m.1 4 99 - m.1 4 94)) c (nI t)) c 1 = kd (m.1 4) c 1 ||| tn (nI t) := by
            unfold mkR kd
            rw [pk_un (by omega), pk_us, pk_un (by omega)]
          have k2 : kd (mkR (upd (m.1 4) 99 (m.1 4 99 - m.1 4 94)) c (nI t)) c 2 = kd (m.1 4) c 2 &&& (tn (nI t) ^^^ (-1)) := by
            unfold mkR kd
            rw [pk_us, pk_un (by omega)]
          have k9 : mkR (upd (m.1 4) 99 (m.1 4 99 - m.1 4 94)) c (nI t) 99 = m.1 4 99 - m.1 4 94 := by
            unfold mkR
            rw [pk_un (by omega), pk_un (by omega), pk_us]
          have go : ∀ k, k ≠ 7 * c + 1 → k ≠ 7 * c + 2 → k ≠ 62 → mri (upd (m.1 38) 62 (m.1 4 99 - m.1 4 94)) c (kd (m.1 4) c 1) (kd (m.1 4) c 2) (nI t) k = m.1 38 k := by
            intro k h1 h2 h9
            unfold mri
            rw [pk_un h2, pk_un h1, pk_un h9]
          refine acM_child R T P L hM hc (fun k hk h9 => ko k (by omega) (by omega) h9) (fun k hk h9 => go k (by omega) (by omega) h9) (fun w hw => kw w (by omega) (by omega)) (go _ (by omega) (by omega) (by omega)) (go _ (by omega) (by omega) (by omega)) ?_ ?_ ?_ ?_ ?_ ?_ ?_ ?_ ?_ ?_ ?_
          · rw [k1]; unfold mri; rw [pk_un (by omega), pk_us]
          · rw [k2]; unfold mri; rw [pk_us]
          · rw [kw 6 (by omega) (by omega), go _ (by omega) (by omega) (by omega), c4]
          · rw [kw 7 (by omega) (by omega), go _ (by omega) (by omega) (by omega), c5]
          · rw [kw 8 (by omega) (by omega), go _ (by omega) (by omega) (by omega), c6]
          · rw [k1]
            obtain ⟨a, z1, z2⟩ := d1
            rw [z2]; exact or_tn z1 ht
          · rw [k2]
            obtain ⟨a, z1, z2⟩ := d2
            rw [z2]; exact and_lt _ z1
          · rw [kw 8 (by omega) (by omega)]; exact d8
          · rw [kw 6 (by omega) (by omega), kw 7 (by omega) (by omega)]; exact d6
          · rw [k9]; unfold mri; rw [pk_un (by omega), pk_un (by omega), pk_us]
          · rw [k9]; exact ⟨tr - pr, by omega, by rw [tr2, pr2, pk_sub q2]⟩
      · have l0 : ¬ (0 : Int32) ≤ m.1 4 99 - m.1 4 94 := by rw [tr2, pr2]; exact fun z => q2 ((dif0 (by omega) (by omega)).2.mp z)
        have l1 : ¬ m.1 4 94 ≤ m.1 4 99 := by rw [tr2, pr2]; exact nI_ge (by omega) (by omega)
        refine QQ_q R (r := -1) (m1 := m) (m2 := wr m 27 0 0) ?_ Fr.rf ?_ (fr_thr m 0)
        · simp only [f_X10_buy, hct_yes H.2.2.1 hc hn8 ht, cal_eq, bnd_eq, n10, ↓reduceIte, isRight_v hc8, if_pos q, cell99, cell94, if_neg l0]
        · simp only [f_X11_buy, bnd_eq, iC_yes H'.1 hc hn8, ten_yes ht, cal_eq, n10, ↓reduceIte, has_v, mRight_v v1 hc8, if_pos q]
          rw [if_neg (show ¬ (wr m 27 0 0).1 36 2 ≤ (wr m 27 0 0).1 38 62 by rw [wr_ne (by decide), wr_ne (by decide), e62, e36]; exact l1)]
    · refine QQ_q R (r := -1) (m1 := m) (m2 := wr m 27 0 0) ?_ Fr.rf ?_ (fr_thr m 0)
      · simp only [f_X10_buy, hct_yes H.2.2.1 hc hn8 ht, cal_eq, n10, ↓reduceIte, isRight_v hc8, if_neg q]
      · simp only [f_X11_buy, bnd_eq, iC_yes H'.1 hc hn8, ten_yes ht, cal_eq, n10, ↓reduceIte, has_v, mRight_v v1 hc8, if_neg q]
end
