/-! image, back; fever, law, end -/
section
variable {nl B B' : Nat} {ln : Nat → Nat} {m m1 m2 m' : Sg} {j w u : Nat} {a a1 a2 a3 r s law x : Int32} {f f' g g' lg lg' : Nat → Int32} {nc ne c e t M M' A nx : Nat}
theorem q_image (R : Rel nl ln B m) : QQ nl ln B (f_X10_image m) (fun m1 => f_X11_image m1) := by
  rcases Rel_cases R with ⟨u, H⟩ | ⟨nc, ne, M, A, nx, T, H, hM, L, P⟩
  · have e2 : m.1 27 24 = 0 := u.2.2.2.2.2.1
    refine QQ_q R (r := -1) (m1 := m) (m2 := wr m 27 0 0) ?_ Fr.rf ?_ (fr_thr m 0)
    · simp only [f_X10_image, told_v H.2.2.1 (by decide), cal_eq, ↓reduceIte]
    · simp only [f_X11_image, bnd_eq]
      rw [if_pos (show (wr m 27 0 0).1 27 24 = 0 from e2)]
  · obtain ⟨p1, p2, p3, p4, p5, p6, p7, p8⟩ := P
    have h0 : ¬ nc = 0 := by have := T.2.1.1.1.1; omega
    have hn8 := H.2.2.2.2.2.1
    let f2 : Nat → Int32 := va_cpy (m.1 4) (m.1 19) 0 0 100
    let l2 : Nat → Int32 := va_cpy (m.1 18) (m.1 20) 0 0 300
    let g2 : Nat → Int32 := fun k => if k < 244 then m.1 38 k else m.1 43 k
    let mC : Sg := wr (wrr (wrr m 19 f2) 20 l2) 16 6 1
    let mE : Sg := wr (wrr (wr mC 27 0 0) 43 g2) 27 45 1
    have o1 : f_X10_image m = some (m.1 4 97, mC) := by
      have e2 : f_X0_copyTo 4 19 100 m 0 = some (wrr m 19 f2) := by
        have c1 : ¬ ((Int32.ofNat 100) - 100) < 0 := by decide
        have c2 : cpk 0 0 100 100 100 = true := by decide
        simp only [f_X0_copyTo, if_neg (show ¬ (0 : Int32) < 0 by decide), if_neg c1, c2, ↓reduceIte, bnd_eq]
        rfl
      have c3 : cpk 0 0 300 300 300 = true := by decide
      simp only [f_X10_image, told_v H.2.2.1 hn8, cal_eq, calv_eq, if_neg h0, n10, ↓reduceIte, f_X7_paint, e2, c3, bnd_eq, cell97, wrr_ne (show 18 ≠ 19 by decide), wrr_ne (show 20 ≠ 19 by decide), wrr_ne (show 4 ≠ 19 by decide), wrr_ne (show 4 ≠ 20 by decide), wr_ne (show 4 ≠ 16 by decide)]
      rfl
    have q : ∀ p, p ≠ 19 → p ≠ 20 → p ≠ 16 → p ≠ 27 → p ≠ 43 → mE.1 p = m.1 p := by
      intro p h19 h20 h16 h27 h43
      show (wr (wrr (wr (wr (wrr (wrr m 19 f2) 20 l2) 16 6 1) 27 0 0) 43 g2) 27 45 1).1 p = _
      rw [wr_ne h27, wrr_ne h43, wr_ne h27, wr_ne h16, wrr_ne h20, wrr_ne h19]
    have q27 : ∀ k, k ≠ 0 → k ≠ 45 → mE.1 27 k = m.1 27 k := by
      intro k h0 h45
      show (wr (wrr (wr (wr (wrr (wrr m 19 f2) 20 l2) 16 6 1) 27 0 0) 43 g2) 27 45 1).1 27 k = _
      rw [wr_at, pk_un h45, wrr_ne (by decide), wr_at, pk_un h0, wr_ne (by decide), wrr_ne (by decide), wrr_ne (by decide)]
    have q45 : mE.1 27 45 = 1 := by
      show (wr _ 27 45 1).1 27 45 = _
      rw [wr_at, pk_us]
    have q16 : ∀ k, k ≠ 6 → mE.1 16 k = m.1 16 k := by
      intro k h
      show (wr (wrr (wr (wr (wrr (wrr m 19 f2) 20 l2) 16 6 1) 27 0 0) 43 g2) 27 45 1).1 16 k = _
      rw [wr_ne (by decide), wrr_ne (by decide), wr_ne (by decide), wr_at, pk_un h, wrr_ne (by decide), wrr_ne (by decide)]
    have q166 : mE.1 16 6 = 1 := by
      show (wr (wrr (wr (wr (wrr (wrr m 19 f2) 20 l2) 16 6 1) 27 0 0) 43 g2) 27 45 1).1 16 6 = _
      rw [wr_ne (by decide), wrr_ne (by decide), wr_ne (by decide), wr_at, pk_us]
    have q19 : ∀ k, k < 100 → mE.1 19 k = m.1 4 k := by
      intro k hk
      show (wr (wrr (wr (wr (wrr (wrr m 19 f2) 20 l2) 16 6 1) 27 0 0) 43 g2) 27 45 1).1 19 k = _
      rw [wr_ne (by decide), wrr_ne (by decide), wr_ne (by decide), wr_ne (by decide), wrr_ne (by decide), wrr_at]
      show va_cpy (m.1 4) (m.1 19) 0 0 100 k = _
      rw [pk_cpy_in (by omega) (by omega)]
      exact congrArg (m.1 4) (by omega)
    have q20 : ∀ k, k < 300 → mE.1 20 k = m.1 18 k := by
      intro k hk
      show (wr (wrr (wr (wr (wrr (wrr m 19 f2) 20 l2) 16 6 1) 27 0 0) 43 g2) 27 45 1).1 20 k = _
      rw [wr_ne (by decide), wrr_ne (by decide), wr_ne (by decide), wr_ne (by decide), wrr_at]
      show va_cpy (m.1 18) (m.1 20) 0 0 300 k = _
      rw [pk_cpy_in (by omega) (by omega)]
      exact congrArg (m.1 18) (by omega)
    have q43 : ∀ k, k < 244 → mE.1 43 k = m.1 38 k := by
      intro k hk
      show (wr (wrr (wr (wr (wrr (wrr m 19 f2) 20 l2) 16 6 1) 27 0 0) 43 g2) 27 45 1).1 43 k = _
      rw [wr_ne (by decide), wrr_at]
      show (if k < 244 then m.1 38 k else m.1 43 k) = _
      rw [if_pos hk]
    have o2 : f_X11_image mC = some (m.1 4 97, mE) := by
      have e24 : ¬ (wr mC 27 0 0).1 27 24 = 0 := by
        show ¬ (wr (wr (wrr (wrr m 19 f2) 20 l2) 16 6 1) 27 0 0).1 27 24 = 0
        rw [wr_at, pk_un (by decide), wr_ne (by decide), wrr_ne (by decide), wrr_ne (by decide), H.1]
        exact nI_ne0 (by omega) (by omega)
      have eq1 : (fun k => if k < 244 then (wr mC 27 0 0).1 38 k else (wr mC 27 0 0).1 43 k) = g2 := by
        funext k
        show (if k < 244 then (wr (wr (wrr (wrr m 19 f2) 20 l2) 16 6 1) 27 0 0).1 38 k else (wr (wr (wrr (wrr m 19 f2) 20 l2) 16 6 1) 27 0 0).1 43 k) = (if k < 244 then m.1 38 k else m.1 43 k)
        rw [wr_ne (by decide), wr_ne (by decide), wr_ne (by decide), wr_ne (by decide), wrr_ne (by decide), wrr_ne (by decide), wrr_ne (by decide), wrr_ne (by decide)]
      simp only [f_X11_image, bnd_eq, if_neg e24, mCopy_v (show 38 ≠ 43 by decide), calv_eq, eq1]
      show some (mE.1 38 60, mE) = _
      rw [q 38 (by decide) (by decide) (by decide) (by decide) (by decide), T.2.1.2.1.2.2.1]
    refine ⟨m.1 4 97, mC, mE, o1, o2, ?_⟩
    have e4 : mE.1 4 = m.1 4 := q 4 (by decide) (by decide) (by decide) (by decide) (by decide)
    have e38 : mE.1 38 = m.1 38 := q 38 (by decide) (by decide) (by decide) (by decide) (by decide)
    have e18 : mE.1 18 = m.1 18 := q 18 (by decide) (by decide) (by decide) (by decide) (by decide)
    have tl : TL m mE := by
      refine ⟨?_, ?_, ?_, ?_, ?_, ?_, ?_, ?_, ?_, ?_, ?_, ?_, ?_, ?_⟩
      · rw [q 0 (by decide) (by decide) (by decide) (by decide) (by decide)]
      · rw [q 1 (by decide) (by decide) (by decide) (by decide) (by decide)]
      · rw [q 2 (by decide) (by decide) (by decide) (by decide) (by decide)]
      · rw [q 13 (by decide) (by decide) (by decide) (by decide) (by decide)]
      · rw [q 13 (by decide) (by decide) (by decide) (by decide) (by decide)]
      · exact q27 _ (by decide) (by decide)
      · exact q27 _ (by decide) (by decide)
      · exact q27 _ (by decide) (by decide)
      · exact q27 _ (by decide) (by decide)
      · exact q27 _ (by decide) (by decide)
      · rw [q 28 (by decide) (by decide) (by decide) (by decide) (by decide)]
      · rw [q 29 (by decide) (by decide) (by decide) (by decide) (by decide)]
      · rw [q 30 (by decide) (by decide) (by decide) (by decide) (by decide)]
      · intro k
        rw [q (46 + 3 * k) (by omega) (by omega) (by omega) (by omega) (by omega)]
    have st : StE (m.1 4) (mE.1 4) := fun k _ => by rw [e4]
    refine Rel_TL R tl (Or.inr ⟨nc, ne, SV_st T.1 st T.2.1.1.1.2 T.2.1.1.2.1 (q 32 (by decide) (by decide) (by decide) (by decide) (by decide)) (q 34 (by decide) (by decide) (by decide) (by decide) (by decide)) (q 36 (by decide) (by decide) (by decide) (by decide) (by decide)) (q27 24 (by decide) (by decide)) (q27 25 (by decide) (by decide)), by rw [e4, e38]; exact T.2.1, M, hM, by rw [e4, e38, e18]; exact L, A, nx, p1, p2, by rw [q16 5 (by decide)]; exact p3, by rw [q27 39 (by decide) (by decide)]; exact p4, by rw [q16 4 (by decide)]; exact p5, ?_, by rw [q166, q45], Or.inr ⟨q166, FR_congr q19 q43 T.2.1, fun k hk => by rw [e4, q19 k (stc_lt hk)], M, hM, ?_⟩⟩)
    · obtain ⟨Ms, hm, p6⟩ := p6
      refine ⟨Ms, hm, fun i i1 i2 => ?_⟩
      have r1 : rowC mE nx i = rowC m nx i := by
        funext k
        unfold rowC
        rw [q 17 (by decide) (by decide) (by decide) (by decide) (by decide)]
      have r2 : rowM mE A i = rowM m A i := by
        funext k
        unfold rowM
        rw [q 41 (by decide) (by decide) (by decide) (by decide) (by decide)]
      rw [r1, r2, e18, e4]
      exact p6 i i1 i2
    · exact LG_congr q19 q43 (fun i _ w hw => q20 _ (by have := Nat.mod_lt (M - i) (show 0 < 100 by decide); omega)) L
theorem q_back (R : Rel nl ln B m) : QQ nl ln B (f_X10_back m) (fun m1 => f_X11_back m1) := by
  have no : m.1 16 6 = 0 → m.1 27 45 = 0 → QQ nl ln B (f_X10_back m) (fun m1 => f_X11_back m1) := by
    intro e1 e2
    refine QQ_q R (r := -1) (m1 := m) (m2 := wr m 27 0 0) ?_ Fr.rf ?_ (fr_thr m 0)
    · simp only [f_X10_back, f_X7_hasImage, e1]; rfl
    · simp only [f_X11_back, bnd_eq]
      rw [if_pos (show (wr m 27 0 0).1 27 45 = 0 from e2)]
  rcases Rel_cases R with ⟨u, H⟩ | ⟨nc, ne, M, A, nx, T, H, hM, L, P⟩
  · exact no u.2.2.2.2.2.2.2.2.2.2.2.2.1 u.2.2.2.2.2.2.2.2.2.2.2.2.2.1
  · obtain ⟨p1, p2, p3, p4, p5, p6, p7, p8⟩ := P
    rcases p8 with h | ⟨h1, h2, h3, Mi, h4, h5⟩
    · exact no h (by rw [← p7]; exact h)
    · have h45 : m.1 27 45 = 1 := by rw [← p7]; exact h1
      let f2 : Nat → Int32 := va_cpy (m.1 19) (m.1 4) 0 0 100
      let l2 : Nat → Int32 := va_cpy (m.1 20) (m.1 18) 0 0 300
      let g2 : Nat → Int32 := fun k => if k < 244 then m.1 43 k else m.1 38 k
      let mC : Sg := wr (wrr (wrr m 4 f2) 18 l2) 16 5 0
      let mE : Sg := wr (wrr (wr mC 27 0 0) 38 g2) 27 39 0
      have f97 : f2 97 = m.1 19 97 := by
        show va_cpy (m.1 19) (m.1 4) 0 0 100 97 = _
        rw [pk_cpy_in (by omega) (by omega)]
      have o1 : f_X10_back m = some (m.1 19 97, mC) := by
        have e2 : f_X0_copyFrom 4 19 100 m 0 = some (wrr m 4 f2) := by
          have c1 : ¬ ((Int32.ofNat 100) - 100) < 0 := by decide
          have c2 : cpk 0 0 100 100 100 = true := by decide
          simp only [f_X0_copyFrom, if_neg (show ¬ (0 : Int32) < 0 by decide), if_neg c1, c2, ↓reduceIte, bnd_eq]
          rfl
        have c3 : cpk 0 0 300 300 300 = true := by decide
        simp only [f_X10_back, f_X7_hasImage, h1, show isB 1 = true from rfl, cal_eq, calv_eq, n10, ↓reduceIte, f_X7_restore, e2, c3, bnd_eq, cell97, wrr_ne (show 18 ≠ 4 by decide), wrr_ne (show 20 ≠ 4 by decide), wrr_ne (show 4 ≠ 18 by decide), wr_ne (show 4 ≠ 16 by decide), wrr_at, f97]
        rfl
      have q : ∀ p, p ≠ 4 → p ≠ 18 → p ≠ 16 → p ≠ 27 → p ≠ 38 → mE.1 p = m.1 p := by
        intro p h19 h20 h16 h27 h43
        show (wr (wrr (wr (wr (wrr (wrr m 4 f2) 18 l2) 16 5 0) 27 0 0) 38 g2) 27 39 0).1 p = _
        rw [wr_ne h27, wrr_ne h43, wr_ne h27, wr_ne h16, wrr_ne h20, wrr_ne h19]
      have q27 : ∀ k, k ≠ 0 → k ≠ 39 → mE.1 27 k = m.1 27 k := by
        intro k h0 h45
        show (wr (wrr (wr (wr (wrr (wrr m 4 f2) 18 l2) 16 5 0) 27 0 0) 38 g2) 27 39 0).1 27 k = _
        rw [wr_at, pk_un h45, wrr_ne (by decide), wr_at, pk_un h0, wr_ne (by decide), wrr_ne (by decide), wrr_ne (by decide)]
      have q39 : mE.1 27 39 = 0 := by
        show (wr _ 27 39 0).1 27 39 = _
        rw [wr_at, pk_us]
      have q16 : ∀ k, k ≠ 5 → mE.1 16 k = m.1 16 k := by
        intro k h
        show (wr (wrr (wr (wr (wrr (wrr m 4 f2) 18 l2) 16 5 0) 27 0 0) 38 g2) 27 39 0).1 16 k = _
        rw [wr_ne (by decide), wrr_ne (by decide), wr_ne (by decide), wr_at, pk_un h, wrr_ne (by decide), wrr_ne (by decide)]
      have q165 : mE.1 16 5 = 0 := by
        show (wr (wrr (wr (wr (wrr (wrr m 4 f2) 18 l2) 16 5 0) 27 0 0) 38 g2) 27 39 0).1 16 5 = _
        rw [wr_ne (by decide), wrr_ne (by decide), wr_ne (by decide), wr_at, pk_us]
      have q4 : ∀ k, k < 100 → mE.1 4 k = m.1 19 k := by
        intro k hk
        show (wr (wrr (wr (wr (wrr (wrr m 4 f2) 18 l2) 16 5 0) 27 0 0) 38 g2) 27 39 0).1 4 k = _
        rw [wr_ne (by decide), wrr_ne (by decide), wr_ne (by decide), wr_ne (by decide), wrr_ne (by decide), wrr_at]
        show va_cpy (m.1 19) (m.1 4) 0 0 100 k = _
        rw [pk_cpy_in (by omega) (by omega)]
        exact congrArg (m.1 19) (by omega)
      have q18 : ∀ k, k < 300 → mE.1 18 k = m.1 20 k := by
        intro k hk
        show (wr (wrr (wr (wr (wrr (wrr m 4 f2) 18 l2) 16 5 0) 27 0 0) 38 g2) 27 39 0).1 18 k = _
        rw [wr_ne (by decide), wrr_ne (by decide), wr_ne (by decide), wr_ne (by decide), wrr_at]
        show va_cpy (m.1 20) (m.1 18) 0 0 300 k = _
        rw [pk_cpy_in (by omega) (by omega)]
        exact congrArg (m.1 20) (by omega)
      have q38 : ∀ k, k < 244 → mE.1 38 k = m.1 43 k := by
        intro k hk
        show (wr (wrr (wr (wr (wrr (wrr m 4 f2) 18 l2) 16 5 0) 27 0 0) 38 g2) 27 39 0).1 38 k = _
        rw [wr_ne (by decide), wrr_at]
        show (if k < 244 then m.1 43 k else m.1 38 k) = _
        rw [if_pos hk]
      have o2 : f_X11_back mC = some (m.1 19 97, mE) := by
        have e45 : ¬ (wr mC 27 0 0).1 27 45 = 0 := by
          show ¬ (wr (wr (wrr (wrr m 4 f2) 18 l2) 16 5 0) 27 0 0).1 27 45 = 0
          rw [wr_at, pk_un (by decide), wr_ne (by decide), wrr_ne (by decide), wrr_ne (by decide), h45]
          exact n10
        have eq1 : (fun k => if k < 244 then (wr mC 27 0 0).1 43 k else (wr mC 27 0 0).1 38 k) = g2 := by
          funext k
          show (if k < 244 then (wr (wr (wrr (wrr m 4 f2) 18 l2) 16 5 0) 27 0 0).1 43 k else (wr (wr (wrr (wrr m 4 f2) 18 l2) 16 5 0) 27 0 0).1 38 k) = (if k < 244 then m.1 43 k else m.1 38 k)
          rw [wr_ne (by decide), wr_ne (by decide), wr_ne (by decide), wr_ne (by decide), wrr_ne (by decide), wrr_ne (by decide), wrr_ne (by decide), wrr_ne (by decide)]
        simp only [f_X11_back, bnd_eq, if_neg e45, mCopy_v (show 43 ≠ 38 by decide), calv_eq, eq1]
        show some (mE.1 38 60, mE) = _
        rw [q38 60 (by decide), h2.2.1.2.2.1]
      refine ⟨m.1 19 97, mC, mE, o1, o2, ?_⟩
      have tl : TL m mE := by
        refine ⟨?_, ?_, ?_, ?_, ?_, ?_, ?_, ?_, ?_, ?_, ?_, ?_, ?_, ?_⟩
        · rw [q 0 (by decide) (by decide) (by decide) (by decide) (by decide)]
        · rw [q 1 (by decide) (by decide) (by decide) (by decide) (by decide)]
        · rw [q 2 (by decide) (by decide) (by decide) (by decide) (by decide)]
        · rw [q 13 (by decide) (by decide) (by decide) (by decide) (by decide)]
        · rw [q 13 (by decide) (by decide) (by decide) (by decide) (by decide)]
        · exact q27 _ (by decide) (by decide)
        · exact q27 _ (by decide) (by decide)
        · exact q27 _ (by decide) (by decide)
        · exact q27 _ (by decide) (by decide)
        · exact q27 _ (by decide) (by decide)
        · rw [q 28 (by decide) (by decide) (by decide) (by decide) (by decide)]
        · rw [q 29 (by decide) (by decide) (by decide) (by decide) (by decide)]
        · rw [q 30 (by decide) (by decide) (by decide) (by decide) (by decide)]
        · intro k
          rw [q (46 + 3 * k) (by omega) (by omega) (by omega) (by omega) (by omega)]
      have st : StE (m.1 4) (mE.1 4) := fun k hk => by rw [q4 k (stc_lt hk), h3 k hk]
      have lgE : ∀ i, i < mn Mi 60 → ∀ w, w < 3 → mE.1 18 ((Mi - i) % 100 * 3 + w) = m.1 20 ((Mi - i) % 100 * 3 + w) := fun i _ w hw => q18 _ (by have := Nat.mod_lt (Mi - i) (show 0 < 100 by decide); omega)
      refine Rel_TL R tl (Or.inr ⟨nc, ne, SV_st T.1 st T.2.1.1.1.2 T.2.1.1.2.1 (q 32 (by decide) (by decide) (by decide) (by decide) (by decide)) (q 34 (by decide) (by decide) (by decide) (by decide) (by decide)) (q 36 (by decide) (by decide) (by decide) (by decide) (by decide)) (q27 24 (by decide) (by decide)) (q27 25 (by decide) (by decide)), FR_congr q4 q38 h2, Mi, h4, LG_congr q4 q38 lgE h5, 0, nx, by decide, p2, q165, q39, by rw [q16 4 (by decide)]; exact p5, ⟨fun _ => Mi, ⟨rfl, fun i => ⟨Nat.le_refl _, Nat.le_succ _⟩⟩, fun i i1 i2 => absurd i1 (by omega)⟩, by rw [q16 6 (by decide), q27 45 (by decide) (by decide)]; exact p7, Or.inr ⟨by rw [q16 6 (by decide)]; exact h1, ?_, ?_, Mi, h4, ?_⟩⟩)
      · rw [q 19 (by decide) (by decide) (by decide) (by decide) (by decide), q 43 (by decide) (by decide) (by decide) (by decide) (by decide)]; exact h2
      · rw [q 19 (by decide) (by decide) (by decide) (by decide) (by decide)]; exact StE_tr st h3
      · rw [q 19 (by decide) (by decide) (by decide) (by decide) (by decide), q 43 (by decide) (by decide) (by decide) (by decide) (by decide), q 20 (by decide) (by decide) (by decide) (by decide) (by decide)]; exact h5
theorem q_fever (R : Rel nl ln B m) : QQ nl ln B (f_X10_fever m a1) (fun m1 => f_X11_fever m1 a1) := by
  have h9 : m.1 27 32 = m.1 0 9 := R.2.2.1
  rcases hund_cases a1 (n := 100) (by decide) with h | ⟨v, hv, h⟩
  · refine QQ_q R (r := 0) (m1 := m) (m2 := wr m 27 0 0) ?_ Fr.rf ?_ (fr_thr m 0)
    · unfold f_X10_fever
      rcases h with h | ⟨h, h'⟩
      · rw [if_pos h]
      · rw [if_neg h, if_pos (Int32.lt_of_lt_of_le (show (99 : Int32) < nI 100 by decide) h')]
    · simp only [f_X11_fever, bnd_eq, in99_no h, cal_eq, ↓reduceIte]
  · subst h
    by_cases q : nI v = m.1 0 9
    · refine QQ_q R (r := 0) (m1 := m) (m2 := wr m 27 0 0) ?_ Fr.rf ?_ (fr_thr m 0)
      · unfold f_X10_fever
        rw [if_neg (nI_pos (by omega)), if_neg (show ¬ (99 : Int32) < nI v from nI_nlt (b := v) (a := 99) (by omega) (by decide)), if_pos q]
      · simp only [f_X11_fever, bnd_eq, in99_yes hv, cal_eq, n10, ↓reduceIte]
        rw [if_pos (show nI v = (wr m 27 0 0).1 27 32 from q.trans h9.symm)]
    · let mC : Sg := wr m 0 9 (nI v)
      let mE : Sg := wr (wr mC 27 0 0) 27 32 (nI v)
      have qp : ∀ p, p ≠ 0 → p ≠ 27 → mE.1 p = m.1 p := by
        intro p h0 h27
        show (wr (wr (wr m 0 9 (nI v)) 27 0 0) 27 32 (nI v)).1 p = _
        rw [wr_ne h27, wr_ne h27, wr_ne h0]
      have q27 : ∀ k, k ≠ 0 → k ≠ 32 → mE.1 27 k = m.1 27 k := by
        intro k h0 h32
        show (wr (wr (wr m 0 9 (nI v)) 27 0 0) 27 32 (nI v)).1 27 k = _
        rw [wr_at, pk_un h32, wr_at, pk_un h0, wr_ne (by decide)]
      refine ⟨1, mC, mE, ?_, ?_, ?_, ?_, ?_, ?_, CL_told ?_ R.2.2.2.2⟩
      · unfold f_X10_fever
        rw [if_neg (nI_pos (by omega)), if_neg (show ¬ (99 : Int32) < nI v from nI_nlt (b := v) (a := 99) (by omega) (by decide)), if_neg q]; rfl
      · simp only [f_X11_fever, bnd_eq, in99_yes hv, cal_eq, n10, ↓reduceIte]
        rw [if_neg (show ¬ nI v = (wr mC 27 0 0).1 27 32 from fun z => q (z.trans h9))]
      · obtain ⟨L, l1, l2, l3, l4⟩ := R.1
        refine ⟨L, l1, ?_, ?_, ?_⟩
        · rw [qp 1 (by decide) (by decide)]; exact l2
        · rw [q27 6 (by decide) (by decide)]; exact l3
        · rw [qp 2 (by decide) (by decide), qp 28 (by decide) (by decide)]; exact l4
      · obtain ⟨V, v⟩ := R.2.1
        refine ⟨V, ?_⟩
        unfold LawR at v ⊢
        rw [qp 13 (by decide) (by decide), q27 7 (by decide) (by decide), q27 31 (by decide) (by decide), qp 29 (by decide) (by decide), qp 30 (by decide) (by decide)]
        refine ⟨v.1, v.2.1, v.2.2.1, v.2.2.2.1, v.2.2.2.2.1, fun k hk => ?_⟩
        rw [qp (46 + 3 * k) (by omega) (by omega)]
        exact v.2.2.2.2.2 k hk
      · rfl
      · rw [q27 34 (by decide) (by decide)]; exact R.2.2.2.1
      · exact ⟨qp 4 (by decide) (by decide), qp 17 (by decide) (by decide), qp 18 (by decide) (by decide), qp 19 (by decide) (by decide), qp 20 (by decide) (by decide), qp 32 (by decide) (by decide), qp 34 (by decide) (by decide), qp 36 (by decide) (by decide), qp 38 (by decide) (by decide), qp 41 (by decide) (by decide), qp 43 (by decide) (by decide), by rw [qp 16 (by decide) (by decide)], by rw [qp 16 (by decide) (by decide)], by rw [qp 16 (by decide) (by decide)], q27 24 (by decide) (by decide), q27 25 (by decide) (by decide), q27 39 (by decide) (by decide), q27 45 (by decide) (by decide)⟩
theorem lt_m1 {a : Int32} (h : a < 0) (h1 : ¬ a = -1) : a < -1 := by
  rw [Int32.lt_iff_toInt_lt] at h ⊢
  have z : a.toInt ≠ (-1 : Int32).toInt := fun q => h1 (Int32.toInt_inj.mp q)
  rw [show (-1 : Int32).toInt = -1 from rfl] at z ⊢
  rw [show (0 : Int32).toInt = 0 from rfl] at h
  omega
theorem q_law (R : Rel nl ln B m) : QQ nl ln B (f_X10_law m a1) (fun m1 => f_X11_law m1 a1) := by
  obtain ⟨V, v⟩ := R.2.1
  have hv := v
  obtain ⟨v1, v2, v3, v4, v5, v6⟩ := v
  have yes : isI a1 nl → f_X10_law m a1 = some (1, wr m 13 3 a1) → f_X11_law (wr m 13 3 a1) a1 = some (1, wr (wr (wr m 13 3 a1) 27 0 0) 27 31 a1) → QQ nl ln B (f_X10_law m a1) (fun m1 => f_X11_law m1 a1) := by
    intro hi o1 o2
    let mE : Sg := wr (wr (wr m 13 3 a1) 27 0 0) 27 31 a1
    have qp : ∀ p, p ≠ 13 → p ≠ 27 → mE.1 p = m.1 p := by
      intro p h0 h27
      show (wr (wr (wr m 13 3 a1) 27 0 0) 27 31 a1).1 p = _
      rw [wr_ne h27, wr_ne h27, wr_ne h0]
    have q27 : ∀ k, k ≠ 0 → k ≠ 31 → mE.1 27 k = m.1 27 k := by
      intro k h0 h32
      show (wr (wr (wr m 13 3 a1) 27 0 0) 27 31 a1).1 27 k = _
      rw [wr_at, pk_un h32, wr_at, pk_un h0, wr_ne (by decide)]
    refine ⟨1, _, mE, o1, o2, ?_, ?_, ?_, ?_, CL_told ?_ R.2.2.2.2⟩
    · obtain ⟨L, l1, l2, l3, l4⟩ := R.1
      refine ⟨L, l1, ?_, ?_, ?_⟩
      · rw [qp 1 (by decide) (by decide)]; exact l2
      · rw [q27 6 (by decide) (by decide)]; exact l3
      · rw [qp 2 (by decide) (by decide), qp 28 (by decide) (by decide)]; exact l4
    · refine ⟨V, ?_⟩
      have e133 : mE.1 13 3 = a1 := by
        show (wr (wr (wr m 13 3 a1) 27 0 0) 27 31 a1).1 13 3 = _
        rw [wr_ne (by decide), wr_ne (by decide), wr_at, pk_us]
      have e132 : mE.1 13 2 = m.1 13 2 := by
        show (wr (wr (wr m 13 3 a1) 27 0 0) 27 31 a1).1 13 2 = _
        rw [wr_ne (by decide), wr_ne (by decide), wr_at, pk_un (by decide)]
      have e31 : mE.1 27 31 = a1 := by
        show (wr (wr (wr m 13 3 a1) 27 0 0) 27 31 a1).1 27 31 = _
        rw [wr_at, pk_us]
      unfold LawR
      rw [e132, e133, e31, q27 7 (by decide) (by decide), qp 29 (by decide) (by decide), qp 30 (by decide) (by decide)]
      refine ⟨v1, v2, v3, hi, rfl, fun k hk => ?_⟩
      rw [qp (46 + 3 * k) (by omega) (by omega)]
      exact v6 k hk
    · rw [q27 32 (by decide) (by decide), qp 0 (by decide) (by decide)]; exact R.2.2.1
    · rw [q27 34 (by decide) (by decide)]; exact R.2.2.2.1
    · exact ⟨qp 4 (by decide) (by decide), qp 17 (by decide) (by decide), qp 18 (by decide) (by decide), qp 19 (by decide) (by decide), qp 20 (by decide) (by decide), qp 32 (by decide) (by decide), qp 34 (by decide) (by decide), qp 36 (by decide) (by decide), qp 38 (by decide) (by decide), qp 41 (by decide) (by decide), qp 43 (by decide) (by decide), by rw [qp 16 (by decide) (by decide)], by rw [qp 16 (by decide) (by decide)], by rw [qp 16 (by decide) (by decide)], q27 24 (by decide) (by decide), q27 25 (by decide) (by decide), q27 39 (by decide) (by decide), q27 45 (by decide) (by decide)⟩
  by_cases h1 : a1 = -1
  · subst h1
    refine yes (Or.inl rfl) ?_ ?_
    · simp only [f_X10_law, f_X5_letHold, if_neg (show ¬ (-1 : Int32) < -1 by decide), v1]
      rw [if_pos (Int32.lt_of_lt_of_le (show (-1 : Int32) < nI 0 by decide) (nI_le (Nat.zero_le nl) (by omega)))]; rfl
    · simp only [f_X11_law, bnd_eq, ↓reduceIte]
  · have e7 : ∀ y, (wr (wr m 13 3 y) 27 0 0).1 27 7 = nI nl := by
      intro y; rw [wr_at, pk_un (by decide), wr_ne (by decide), v2]
    have e7' : (wr m 27 0 0).1 27 7 = nI nl := by rw [wr_at, pk_un (by decide), v2]
    rcases hund_cases a1 (n := nl) (by omega) with h | ⟨k, hk, h⟩
    · refine QQ_q R (r := 0) (m1 := m) (m2 := wr m 27 0 0) ?_ Fr.rf ?_ (fr_thr m 0)
      · unfold f_X10_law f_X5_letHold
        rcases h with h | ⟨h, h'⟩
        · rw [if_pos (lt_m1 h h1)]; rfl
        · rw [if_neg (fun z => h (Int32.lt_of_lt_of_le z (show (-1 : Int32) ≤ 0 by decide))), v1, if_neg (Int32.not_lt.mpr h')]; rfl
      · simp only [f_X11_law, bnd_eq, if_neg h1, e7']
        rw [isIn_v (lo' := 0) (lo := 0) (hi := nI nl - 1) rfl rfl]
        rcases h with h | ⟨h, h'⟩
        · rw [if_pos h]; rfl
        · rw [if_neg h, if_pos]
          · rfl
          · rcases Nat.eq_zero_or_pos nl with z | z
            · rw [z]; exact Int32.lt_of_lt_of_le (show nI 0 - 1 < 0 by decide) (Int32.not_lt.mp h)
            · rw [show (1 : Int32) = nI 1 from rfl, pk_sub z]
              exact Int32.lt_of_lt_of_le (nI_lt (by omega) (by omega)) h'
    · refine yes (Or.inr ⟨k, hk, h⟩) ?_ ?_
      · subst h
        simp only [f_X10_law, f_X5_letHold, v1]
        rw [if_neg (fun z => nI_pos (show k < 2 ^ 31 by omega) (Int32.lt_of_lt_of_le z (show (-1 : Int32) ≤ 0 by decide))), if_pos (nI_lt hk (by omega))]; rfl
      · subst h
        simp only [f_X11_law, bnd_eq, if_neg h1, e7]
        rw [isIn_v (lo' := 0) (lo := 0) (hi := nI nl - 1) rfl rfl, if_neg (nI_pos (by omega)), show (1 : Int32) = nI 1 from rfl, pk_sub (by omega), if_neg (nI_nlt (by omega) (by omega))]
        rfl
theorem q_end (R : Rel nl ln B m) : QQ nl ln B (f_X10_end m a1) (fun m1 => f_X11_end m1 a1) := by
  obtain ⟨L, l1, l2, l3, l4⟩ := R.1
  rcases hund_cases a1 (n := L + 1) (by omega) with h | ⟨k, hk, h⟩
  · have big : ¬ a1 < 0 → ¬ a1 ≤ nI L := by
      intro q z
      rcases h with h | ⟨h, h'⟩
      · exact q h
      · exact absurd (Int32.le_trans h' z) (nI_ge (Nat.lt_succ_self L) (by omega))
    refine QQ_q R (r := 0) (m1 := m) (m2 := wr m 27 0 0) ?_ Fr.rf ?_ (fr_thr m 0)
    · unfold f_X10_end f_X9_size
      by_cases q : a1 < 0
      · rw [if_pos q]
      · rw [if_neg q, cal_eq, l2, if_neg (big q)]
    · simp only [f_X11_end, bnd_eq]
      by_cases q : a1 < 0
      · rw [if_pos q]
      · rw [if_neg q, show (wr m 27 0 0).1 27 6 = nI L from l3, if_neg (big q)]
  · subst h
    let mE : Sg := wr (wr (wr m 1 1 (nI k)) 27 0 0) 27 6 (nI k)
    have qp : ∀ p, p ≠ 1 → p ≠ 27 → mE.1 p = m.1 p := by
      intro p h0 h27
      show (wr (wr (wr m 1 1 (nI k)) 27 0 0) 27 6 (nI k)).1 p = _
      rw [wr_ne h27, wr_ne h27, wr_ne h0]
    have q27 : ∀ q, q ≠ 0 → q ≠ 6 → mE.1 27 q = m.1 27 q := by
      intro q h0 h32
      show (wr (wr (wr m 1 1 (nI k)) 27 0 0) 27 6 (nI k)).1 27 q = _
      rw [wr_at, pk_un h32, wr_at, pk_un h0, wr_ne (by decide)]
    refine ⟨1, wr m 1 1 (nI k), mE, ?_, ?_, ⟨k, by omega, ?_, ?_, ?_⟩, ?_, ?_, ?_, CL_told ?_ R.2.2.2.2⟩
    · unfold f_X10_end f_X9_size f_X9_cut
      rw [if_neg (nI_pos (by omega)), cal_eq, l2, if_pos (nI_le (by omega) (by omega))]; rfl
    · simp only [f_X11_end, bnd_eq]
      rw [if_neg (nI_pos (by omega)), show (wr (wr m 1 1 (nI k)) 27 0 0).1 27 6 = nI L from l3, if_pos (nI_le (by omega) (by omega))]
    · show (wr (wr (wr m 1 1 (nI k)) 27 0 0) 27 6 (nI k)).1 1 1 = _
      rw [wr_ne (by decide), wr_ne (by decide), wr_at, pk_us]
    · show (wr (wr (wr m 1 1 (nI k)) 27 0 0) 27 6 (nI k)).1 27 6 = _
      rw [wr_at, pk_us]
    · intro q hq
      rw [qp 2 (by decide) (by decide), qp 28 (by decide) (by decide)]; exact l4 q (by omega)
    · obtain ⟨V, v⟩ := R.2.1
      refine ⟨V, ?_⟩
      unfold LawR at v ⊢
      rw [qp 13 (by decide) (by decide), q27 7 (by decide) (by decide), q27 31 (by decide) (by decide), qp 29 (by decide) (by decide), qp 30 (by decide) (by decide)]
      refine ⟨v.1, v.2.1, v.2.2.1, v.2.2.2.1, v.2.2.2.2.1, fun k hk => ?_⟩
      rw [qp (46 + 3 * k) (by omega) (by omega)]
      exact v.2.2.2.2.2 k hk
    · rw [q27 32 (by decide) (by decide), qp 0 (by decide) (by decide)]; exact R.2.2.1
    · rw [q27 34 (by decide) (by decide)]; exact R.2.2.2.1
    · exact ⟨qp 4 (by decide) (by decide), qp 17 (by decide) (by decide), qp 18 (by decide) (by decide), qp 19 (by decide) (by decide), qp 20 (by decide) (by decide), qp 32 (by decide) (by decide), qp 34 (by decide) (by decide), qp 36 (by decide) (by decide), qp 38 (by decide) (by decide), qp 41 (by decide) (by decide), qp 43 (by decide) (by decide), by rw [qp 16 (by decide) (by decide)], by rw [qp 16 (by decide) (by decide)], by rw [qp 16 (by decide) (by decide)], q27 24 (by decide) (by decide), q27 25 (by decide) (by decide), q27 39 (by decide) (by decide), q27 45 (by decide) (by decide)⟩
end
