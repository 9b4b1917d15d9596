/-! teach, wrong, keep, buy: both do alike -/
section
variable {nl B B' : Nat} {ln : Nat → Nat} {m m1 m2 m4 : Sg} {j w : Nat} {a a1 a2 a3 r s law x : Int32} {f f' g g' lg lg' : Nat → Int32} {nc ne c e t M M' A nx : Nat}
theorem acT_HM (H : HM m f nc ne B) : HM (acT m nx A f') f nc ne B := by
  unfold HM SV at H ⊢
  rw [acT_27 (by decide), acT_27 (by decide), acT_38, acT_32, acT_36, acT_p (show 34 ≠ 27 by decide), acC_p (by decide) (by decide) (by decide)]
  exact H
theorem remC_P (P : PastP m nc ne B M A nx) : f_X7_remember m = some (rmC m nx A) := remC_v P.2.2.2.2.1 P.2.2.1 P.2.1 P.1
theorem remT_P (P : PastP m nc ne B M A nx) : f_X11_remember (acT m nx A f') = some (rmM (acT m nx A f') A) := remM_v P.1 (by rw [acT_27 (by decide)]; exact P.2.2.2.1)
theorem rmT_38 : (rmM (acT m nx A f') A).1 38 = m.1 38 := by rw [rmM_p (by decide) (by decide), acT_38]
theorem rmT_36 : (rmM (acT m nx A f') A).1 36 = m.1 36 := by rw [rmM_p (by decide) (by decide), acT_36]
theorem rmT_w1 {k : Nat} {x : Int32} : wr (rmM (acT m nx A f') A) 38 k x = acM m nx A f' (upd (m.1 38) k x) := by
  rw [wr_wrr, rmT_38]; rfl
theorem acM_w {k : Nat} {x : Int32} : wr (acM m nx A f' g') 38 k x = acM m nx A f' (upd g' k x) := wr_wr
theorem acM_x : (acM m nx A f' g').1 32 = m.1 32 := acM_q (by decide) (by decide) (by decide) (by decide) (by decide) (by decide)
theorem acM_child (R : Rel nl ln B m) (T : Told m nc ne B) (P : PastP m nc ne B M A nx) (L : LG (m.1 4) (m.1 38) (m.1 18) M) (hMB : M ≤ B) (hc : c < nc)
    (hf : ∀ k, k < 10 * c ∨ 10 * c + 10 ≤ k → k ≠ 99 → f' k = m.1 4 k) (hg : ∀ k, k < 7 * c ∨ 7 * c + 7 ≤ k → k ≠ 62 → g' k = m.1 38 k) (kk : ∀ w, w = 0 ∨ w = 3 ∨ w = 4 ∨ w = 5 ∨ w = 9 → kd f' c w = kd (m.1 4) c w)
    (g0 : g' (7 * c + 0) = m.1 38 (7 * c + 0)) (g6 : g' (7 * c + 6) = m.1 38 (7 * c + 6)) (h1 : g' (7 * c + 1) = kd f' c 1) (h2 : g' (7 * c + 2) = kd f' c 2) (h3 : g' (7 * c + 3) = kd f' c 6) (h4 : g' (7 * c + 4) = kd f' c 7) (h5 : g' (7 * c + 5) = kd f' c 8)
    (b1 : ∃ a, a < 512 ∧ kd f' c 1 = nI a) (b2 : ∃ a, a < 512 ∧ kd f' c 2 = nI a) (b8 : ∃ a, a < 512 ∧ kd f' c 8 = nI a) (b6 : kd f' c 6 = -1 ∧ kd f' c 7 = 0 ∨ (∃ a, a < 9 ∧ kd f' c 6 = nI a) ∧ ∃ a, 1 ≤ a ∧ a < 10 ∧ kd f' c 7 = nI a)
    (h99 : g' 62 = f' 99) (h99' : ∃ t, t ≤ 90 * B ∧ f' 99 = nI t) : Rel nl ln B (acM m nx A f' g') := by
  have F := T.2.1
  have hc8 : c < 8 := by have := F.1.1.2; omega
  obtain ⟨c1, c2, c3, c4, c5, c6⟩ := F.2.1.1 c hc8
  obtain ⟨d0, d1, d2, d3, d4, d5, d6, d8⟩ := F.1.2.2.2.2.1 c hc
  refine acM_Rel R T P L hMB (FR_child F hc hf hg ?_ h1 h2 h3 h4 h5 ?_ ?_ h99 h99') (StE_child hf hc8 (kk 3 (by simp)) (kk 4 (by simp)) (kk 5 (by simp))) (LG_child L (hf 97 (by omega) (by decide)) (fun k hk => hg k (by omega) (by omega)))
  · rw [kk 0 (by simp), g0, c1]
  · rw [kk 9 (by simp), g6, F.2.2.1 c hc8]
  · unfold wfC
    rw [kk 0 (by simp), kk 3 (by simp), kk 4 (by simp), kk 5 (by simp)]
    exact ⟨d0, b1, b2, d3, d4, d5, b6, b8⟩
theorem q_teach (R : Rel nl ln B m) : QQ nl ln B (f_X10_teach m a1 a2) (fun m1 => f_X11_teach m1 a1 a2) := by
  refine q_act (a1 := a1) (a2 := a2) R (fun nc ne H h => ?_) (fun nc ne c H hc h h' => ?_) (fun nc ne c t M A nx T H hM L P hc ht h h' => ?_)
  · have H' := HM_fr H (fr_thr m 0)
    exact ⟨by simp only [f_X10_teach, hct_no H.2.2.1 h, cal_eq, ↓reduceIte], by simp only [f_X11_teach, bnd_eq, iC_no H'.1 h, cal_eq, ↓reduceIte]⟩
  · subst h
    have H' := HM_fr H (fr_thr m 0)
    have hn8 := H.2.2.2.2.2.1
    exact ⟨by simp only [f_X10_teach, hct_no2 H.2.2.1 hc hn8 h', cal_eq, ↓reduceIte], by simp only [f_X11_teach, bnd_eq, iC_yes H'.1 hc hn8, ten_no h', cal_eq, n10, ↓reduceIte]⟩
  · subst h; subst h'
    have H' := HM_fr H (fr_thr m 0)
    have hn8 := H.2.2.2.2.2.1
    have hc8 : c < 8 := by omega
    obtain ⟨v1, v2, v3⟩ := H'.2.2.2.2.2.2.2 (by omega)
    obtain ⟨x1, x2, x3⟩ := H.2.2.2.2.2.2.2 (by omega)
    have F := T.2.1
    obtain ⟨c1, c2, c3, c4, c5, c6⟩ := F.2.1.1 c hc8
    obtain ⟨d0, d1, d2, d3, d4, d5, d6, d8⟩ := F.1.2.2.2.2.1 c hc
    have no : (¬ kd (m.1 4) c 6 = -1 ∨ ¬ b0 (kd (m.1 4) c 8) t ∨ ¬ b0 (rt (m.1 4) c) t) → QQ nl ln B (f_X10_teach m (nI c) (nI t)) (fun m1 => f_X11_teach m1 (nI c) (nI t)) := by
      intro z
      refine QQ_q R (r := -1) (m1 := m) (m2 := wr m 27 0 0) ?_ Fr.rf ?_ (fr_thr m 0)
      · simp only [f_X10_teach, hct_yes H.2.2.1 hc hn8 ht, cal_eq, n10, ↓reduceIte, kid6 hc8, bit_v (x := 8) (w := 8) rfl hc8 (show 8 < 10 by decide), isRight_v hc8]
        by_cases q6 : kd (m.1 4) c 6 = -1
        · rw [if_pos q6]
          by_cases q8 : b0 (kd (m.1 4) c 8) t
          · rw [if_pos q8, if_pos rfl, if_neg (show ¬ b0 (rt (m.1 4) c) t by rcases z with z | z | z; exact absurd q6 z; exact absurd q8 z; exact z), if_neg n10]
          · rw [if_neg q8, if_neg n10]
        · rw [if_neg q6]
      · simp only [f_X11_teach, bnd_eq, iC_yes H'.1 hc hn8, ten_yes ht, cal_eq, n10, ↓reduceIte, i7_3 hc8, t7_3 hc8, i7_5 hc8, t7_5 hc8, (v1.1 c hc8).2.2.2.1, (v1.1 c hc8).2.2.2.2.2, has_v, mRight_v v1 hc8]
        by_cases q6 : kd (m.1 4) c 6 = -1
        · rw [if_pos q6]
          by_cases q8 : b0 (kd (m.1 4) c 8) t
          · rw [if_pos q8, if_pos rfl, if_neg (show ¬ b0 (rt (m.1 4) c) t by rcases z with z | z | z; exact absurd q6 z; exact absurd q8 z; exact z), if_neg n10]
          · rw [if_neg q8, if_neg n10]
        · rw [if_neg q6]
    by_cases q6 : kd (m.1 4) c 6 = -1
    · by_cases q8 : b0 (kd (m.1 4) c 8) t
      · by_cases q9 : b0 (rt (m.1 4) c) t
        · have HT := acT_HM (nx := nx) (A := A) (f' := bgL (m.1 4) c (nI t)) H
          obtain ⟨u1, u2, u3⟩ := HT.2.2.2.2.2.2.2 (by omega)
          refine ⟨nI (mn (A + 1) 40), acC m nx A (bgL (m.1 4) c (nI t)), acM m nx A (bgL (m.1 4) c (nI t)) (upd (upd (m.1 38) (7 * c + 3) (nI t)) (7 * c + 4) (kd (m.1 4) c 4)), ?_, ?_, ?_⟩
          · simp only [f_X10_teach, hct_yes H.2.2.1 hc hn8 ht, cal_eq, calv_eq, n10, ↓reduceIte, kid6 hc8, bit_v (x := 8) (w := 8) rfl hc8 (show 8 < 10 by decide), isRight_v hc8, if_pos q6, if_pos q8, if_pos q9, remC_P P, beginLesson_v hc8, f_X7_acts, rmC_p (show 4 ≠ 16 by decide) (show 4 ≠ 17 by decide)]
            rw [wrr_ne (show 16 ≠ 4 by decide), rmC_16, if_pos rfl]; rfl
          · simp only [f_X11_teach, bnd_eq]
            rw [show wr (acC m nx A (bgL (m.1 4) c (nI t))) 27 0 0 = acT m nx A (bgL (m.1 4) c (nI t)) from rfl]
            simp only [iC_yes HT.1 hc hn8, ten_yes ht, cal_eq, calv_eq, n10, ↓reduceIte, i7_3 hc8, t7_3 hc8, i7_5 hc8, t7_5 hc8, (u1.1 c hc8).2.2.2.1, (u1.1 c hc8).2.2.2.2.2, has_v, mRight_v u1 hc8, if_pos q6, if_pos q8, if_pos q9, remT_P P, rmT_w1, i6_4 hc8, t6_4 hc8, i7_4 hc8, t7_4 hc8, acM_w, acM_x, (x2.1 c hc).2.1, acM_39]
          · have k6 : kd (bgL (m.1 4) c (nI t)) c 6 = nI t := by unfold kd bgL; rw [pk_un (by omega), pk_us]
            have k7 : kd (bgL (m.1 4) c (nI t)) c 7 = kd (m.1 4) c 4 := by unfold bgL; exact pk_us
            have ko : ∀ k, k ≠ 10 * c + 6 → k ≠ 10 * c + 7 → bgL (m.1 4) c (nI t) k = m.1 4 k := by
              intro k h6 h7
              unfold bgL
              rw [pk_un h7, pk_un h6]
            have kw : ∀ w, w < 6 ∨ 7 < w → kd (bgL (m.1 4) c (nI t)) c w = kd (m.1 4) c w := fun w hw => ko _ (by omega) (by omega)
            refine acM_child R T P L hM hc (fun k hk _ => ko k (by omega) (by omega)) (fun k hk _ => by rw [pk_un (by omega), pk_un (by omega)]) (fun w hw => kw w (by omega)) (by rw [pk_un (by omega), pk_un (by omega)]) (by rw [pk_un (by omega), pk_un (by omega)]) ?_ ?_ ?_ ?_ ?_ ?_ ?_ ?_ ?_ ?_ ?_
            · rw [kw 1 (by omega), pk_un (by omega), pk_un (by omega), c2]
            · rw [kw 2 (by omega), pk_un (by omega), pk_un (by omega), c3]
            · rw [k6, pk_un (by omega), pk_us]
            · rw [k7, pk_us]
            · rw [kw 8 (by omega), pk_un (by omega), pk_un (by omega), c6]
            · rw [kw 1 (by omega)]; exact d1
            · rw [kw 2 (by omega)]; exact d2
            · rw [kw 8 (by omega)]; exact d8
            · rw [k6, k7]; exact Or.inr ⟨⟨t, ht, rfl⟩, d4⟩
            · rw [pk_un (by omega), pk_un (by omega), ko 99 (by omega) (by omega)]; exact F.2.2.2.1
            · rw [ko 99 (by omega) (by omega)]; exact F.2.2.2.2
        · exact no (Or.inr (Or.inr q9))
      · exact no (Or.inr (Or.inl q8))
    · exact no (Or.inl q6)
theorem q_wrong (R : Rel nl ln B m) : QQ nl ln B (f_X10_wrong m a1 a2) (fun m1 => f_X11_wrong m1 a1 a2) := by
  refine q_act (a1 := a1) (a2 := a2) R (fun nc ne H h => ?_) (fun nc ne c H hc h h' => ?_) (fun nc ne c t M A nx T H hM L P hc ht h h' => ?_)
  · have H' := HM_fr H (fr_thr m 0)
    exact ⟨by simp only [f_X10_wrong, hct_no H.2.2.1 h, cal_eq, ↓reduceIte], by simp only [f_X11_wrong, bnd_eq, iC_no H'.1 h, cal_eq, ↓reduceIte]⟩
  · subst h
    have H' := HM_fr H (fr_thr m 0)
    have hn8 := H.2.2.2.2.2.1
    exact ⟨by simp only [f_X10_wrong, hct_no2 H.2.2.1 hc hn8 h', cal_eq, ↓reduceIte], by simp only [f_X11_wrong, bnd_eq, iC_yes H'.1 hc hn8, ten_no h', cal_eq, n10, ↓reduceIte]⟩
  · subst h; subst h'
    have H' := HM_fr H (fr_thr m 0)
    have hn8 := H.2.2.2.2.2.1
    have hc8 : c < 8 := by omega
    obtain ⟨v1, v2, v3⟩ := H'.2.2.2.2.2.2.2 (by omega)
    obtain ⟨x1, x2, x3⟩ := H.2.2.2.2.2.2.2 (by omega)
    have F := T.2.1
    obtain ⟨c1, c2, c3, c4, c5, c6⟩ := F.2.1.1 c hc8
    obtain ⟨d0, d1, d2, d3, d4, d5, d6, d8⟩ := F.1.2.2.2.2.1 c hc
    by_cases q : b0 (kd (m.1 4) c 2) t
    · have HT := acT_HM (nx := nx) (A := A) (f' := upd (m.1 4) (10 * c + 2) (kd (m.1 4) c 2 ||| tn (nI t))) H
      obtain ⟨u1, u2, u3⟩ := HT.2.2.2.2.2.2.2 (by omega)
      refine ⟨nI (mn (A + 1) 40), acC m nx A (upd (m.1 4) (10 * c + 2) (kd (m.1 4) c 2 ||| tn (nI t))), acM m nx A (upd (m.1 4) (10 * c + 2) (kd (m.1 4) c 2 ||| tn (nI t))) (upd (m.1 38) (7 * c + 2) (kd (m.1 4) c 2 ||| tn (nI t))), ?_, ?_, ?_⟩
      · simp only [f_X10_wrong, hct_yes H.2.2.1 hc hn8 ht, cal_eq, calv_eq, n10, ↓reduceIte, bit_v (x := 2) (w := 2) rfl hc8 (show 2 < 10 by decide), if_pos q, remC_P P, setBit_v (x := 2) (w := 2) rfl hc8 (show 2 < 10 by decide), f_X7_acts, rmC_p (show 4 ≠ 16 by decide) (show 4 ≠ 17 by decide), clr_or]
        rw [show ∀ x, wk (rmC m nx A) 4 c 2 x = wrr (rmC m nx A) 4 (upd ((rmC m nx A).1 4) (10 * c + 2) x) from fun _ => rfl, rmC_p (show 4 ≠ 16 by decide) (show 4 ≠ 17 by decide), wrr_ne (show 16 ≠ 4 by decide), rmC_16, if_pos rfl]; rfl
      · simp only [f_X11_wrong, bnd_eq]
        rw [show ∀ f', wr (acC m nx A f') 27 0 0 = acT m nx A f' from fun _ => rfl]
        simp only [iC_yes HT.1 hc hn8, ten_yes ht, cal_eq, calv_eq, n10, ↓reduceIte, i7_2 hc8, t7_2 hc8, (u1.1 c hc8).2.2.1, has_v, if_pos q, remT_P P, rmT_w1, rmT_38, c3, acM_39]
        rfl
      · have ko : ∀ k, k ≠ 10 * c + 2 → upd (m.1 4) (10 * c + 2) (kd (m.1 4) c 2 ||| tn (nI t)) k = m.1 4 k := fun k h => pk_un h
        have kw : ∀ w, w ≠ 2 → kd (upd (m.1 4) (10 * c + 2) (kd (m.1 4) c 2 ||| tn (nI t))) c w = kd (m.1 4) c w := fun w hw => ko _ (by omega)
        have k2 : kd (upd (m.1 4) (10 * c + 2) (kd (m.1 4) c 2 ||| tn (nI t))) c 2 = kd (m.1 4) c 2 ||| tn (nI t) := pk_us
        refine acM_child R T P L hM hc (fun k hk _ => ko k (by omega)) (fun k hk _ => by rw [pk_un (by omega)]) (fun w hw => kw w (by omega)) (by rw [pk_un (by omega)]) (by rw [pk_un (by omega)]) ?_ ?_ ?_ ?_ ?_ ?_ ?_ ?_ ?_ ?_ ?_
        · rw [kw 1 (by omega), pk_un (by omega), c2]
        · rw [k2, pk_us]
        · rw [kw 6 (by omega), pk_un (by omega), c4]
        · rw [kw 7 (by omega), pk_un (by omega), c5]
        · rw [kw 8 (by omega), pk_un (by omega), c6]
        · rw [kw 1 (by omega)]; exact d1
        · rw [k2]
          obtain ⟨a, z1, z2⟩ := d2
          rw [z2]; exact or_tn z1 ht
        · rw [kw 8 (by omega)]; exact d8
        · rw [kw 6 (by omega), kw 7 (by omega)]; exact d6
        · rw [pk_un (by omega), ko 99 (by omega)]; exact F.2.2.2.1
        · rw [ko 99 (by omega)]; exact F.2.2.2.2
    · refine QQ_q R (r := -1) (m1 := m) (m2 := wr m 27 0 0) ?_ Fr.rf ?_ (fr_thr m 0)
      · simp only [f_X10_wrong, hct_yes H.2.2.1 hc hn8 ht, cal_eq, n10, ↓reduceIte, bit_v (x := 2) (w := 2) rfl hc8 (show 2 < 10 by decide), if_neg q]
      · simp only [f_X11_wrong, bnd_eq, iC_yes H'.1 hc hn8, ten_yes ht, cal_eq, n10, ↓reduceIte, i7_2 hc8, t7_2 hc8, (v1.1 c hc8).2.2.1, has_v, if_neg q]
end
