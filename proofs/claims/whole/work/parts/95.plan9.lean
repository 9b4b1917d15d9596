/-! plan: both answer alike -/
section
variable {nl B B' : Nat} {ln : Nat → Nat} {V : Nat → (Nat → Int32) → Int32} {m m1 m2 m' : Sg} {j w u : Nat} {a a1 a2 a3 a4 r law x mo o : Int32} {f f' f0 F G K g g' : Nat → Int32} {nc ne c d e t M n i s l y h L row k W : Nat} {ts pre : List Nat} {p pc pm : Int32 × Int32 × Int32} {v : List Nat → Int32}
theorem pS_scr (h : Fr pS m m') : Fr scr m m' := by
  refine Fr_mono (fun p k hp => ?_) h
  have hg : gS p k = false := by
    unfold scr at hp
    simp at hp
    unfold gS
    by_cases h1 : p = 6
    · subst h1; exact absurd hp (by simp [ess])
    · by_cases h2 : p = 15
      · subst h2; exact absurd hp (by simp [ess])
      · simp [h1, h2]
        intro h3
        unfold ess at hp
        rw [if_neg (by omega), if_neg (by omega)] at hp
        simpa using hp
  unfold scr at hp
  simp at hp
  unfold pS oS
  rw [hg]
  by_cases h1 : p = 23
  · subst h1; exact absurd hp (by simp [ess])
  · by_cases h2 : p = 24
    · subst h2; exact absurd hp (by simp [ess])
    · by_cases h3 : p = 25
      · subst h3; exact absurd hp (by simp [ess])
      · simp [h1, h2, h3]
theorem mpl_v (hX : PX nl ln V nc ne B c s n m) {q : Sg} (hq : QP m q p []) : ∃ q', lpO (f_X11_plan_L64 (nI c) (nI n)) fu (q, 0) = some q' ∧ QP m q' (pmS (opN (m.1 4) c) (fun ts => vR (va_cpy (m.1 4) (m.1 6) 0 0 100) nc ne c s ts n) p 4) [] := by
  refine lpO_inv (step := f_X11_plan_L64 (nI c) (nI n)) (fun i st => ∃ q, st = (q, nI i) ∧ QP m q (pmS (opN (m.1 4) c) (fun ts => vR (va_cpy (m.1 4) (m.1 6) 0 0 100) nc ne c s ts n) p i) []) _ 4 (q, 0) ⟨q, rfl, hq⟩ ?_ ?_ (by decide)
  · rintro i st hi ⟨q, rfl, hq⟩
    have e : pmS (opN (m.1 4) c) (fun ts => vR (va_cpy (m.1 4) (m.1 6) 0 0 100) nc ne c s ts n) p (i + 1) = gpF (opN (m.1 4) c) (fun ts => vR (va_cpy (m.1 4) (m.1 6) 0 0 100) nc ne c s ts n) i [] (pmS (opN (m.1 4) c) (fun ts => vR (va_cpy (m.1 4) (m.1 6) 0 0 100) nc ne c s ts n) p i) := by rw [gp_nil op_hi, pmS]
    rw [e]
    generalize pmS (opN (m.1 4) c) (fun ts => vR (va_cpy (m.1 4) (m.1 6) 0 0 100) nc ne c s ts n) p i = P at *
    obtain ⟨q', x1, x2⟩ := gp_k hX i 5 [] P q (by omega) (by simp; omega) (fun h hh => absurd hh (by simp)) (fun h hh => absurd hh (by simp)) hq
    have x1' : recP 5 q (nI c) (nI n) 0 (nI i) 0 = some q' := by
      rw [show (([] : List Nat).length + i) = i by simp] at x1
      exact x1
    refine ⟨(q', nI (i + 1)), ?_, q', rfl, x2⟩
    simp only [f_X11_plan_L64, if_neg (show ¬ (4 : Int32) ≤ nI i from ix_lt (n := 4) hi (by decide)), x1', calv_eq, bnd_eq, nI_1]
  · rintro st ⟨q, rfl, hq⟩
    exact ⟨q, by simp only [f_X11_plan_L64, if_pos (show (4 : Int32) ≤ nI 4 by decide)], hq⟩
theorem three_cases (a : Int32) : (a < 0 ∨ ¬ a < 0 ∧ nI 3 ≤ a) ∨ a = 0 ∨ a = 1 ∨ a = 2 := by
  rcases hund_cases a (n := 3) (by decide) with h | ⟨t, ht, h⟩
  · exact Or.inl h
  · right
    rcases (show t = 0 ∨ t = 1 ∨ t = 2 by omega) with e | e | e <;> subst e
    · exact Or.inl h
    · exact Or.inr (Or.inl h)
    · exact Or.inr (Or.inr h)
theorem q_plan (hB : B ≤ 40000) (R : Rel nl ln B m) : QQ nl ln B (f_X10_plan m a1 a2 a3) (fun m1 => f_X11_plan m1 a1 a2 a3) := by
  have bad : f_X10_plan m a1 a2 a3 = some (-1000000, m) → f_X11_plan m a1 a2 a3 = some (-1000000, wr m 27 0 0) → QQ nl ln B (f_X10_plan m a1 a2 a3) (fun m1 => f_X11_plan m1 a1 a2 a3) := fun x1 x2 => QQ_q R x1 Fr.rf x2 (fr_thr m 0)
  rcases Rel_cases R with ⟨u, H⟩ | ⟨nc, ne, M, A, nx, T, H, hM, L, P⟩
  · rcases ch_cases a1 (show 0 ≤ 8 by decide) with h | ⟨c, hc, h⟩
    · have H' := HM_fr H (fr_thr m 0)
      exact bad (by simp only [f_X10_plan, hC_no H.2.2.1 h, cal_eq, ↓reduceIte]) (by simp only [f_X11_plan, bnd_eq, iC_no H'.1 h, cal_eq, ↓reduceIte])
    · exact absurd hc (by omega)
  · have hn8 := H.2.2.2.2.2.1
    have H' := HM_fr H (fr_thr m 0)
    rcases ch_cases a1 hn8 with h | ⟨c, hc, h⟩
    · exact bad (by simp only [f_X10_plan, hC_no H.2.2.1 h, cal_eq, ↓reduceIte]) (by simp only [f_X11_plan, bnd_eq, iC_no H'.1 h, cal_eq, ↓reduceIte])
    · subst h
      have hc8 : c < 8 := by omega
      have wf := T_WF T
      have cv0 : CV (m.1 38) (m.1 4) := T.2.1.2.1
      have k3 : ∀ q : Sg, q.1 38 = m.1 38 → q.1 38 (7 * c + 3) = kd (m.1 4) c 6 := fun q hq => by rw [hq]; exact (cv0.1 c hc8).2.2.2.1
      have c3 : (wr m 27 0 0).1 38 (7 * c + 3) = kd (m.1 4) c 6 := k3 _ rfl
      by_cases hk : kd (m.1 4) c 6 = -1
      · have wc := wf.2.2.2.2.1 c hc
        have e6 : kd (va_cpy (m.1 4) (m.1 6) 0 0 100) c 6 = -1 := by rw [← hk]; exact cpy6 (by omega)
        have e7 : kd (va_cpy (m.1 4) (m.1 6) 0 0 100) c 7 = 0 := by
          rcases wc.2.2.2.2.2.2.1 with z | ⟨⟨a, a1, a2⟩, _⟩
          · exact z.2
          · rw [a2] at e6
            exact absurd e6 (n1e (by omega))
        obtain ⟨s, s1, s2, s3⟩ := wc.2.2.2.2.1
        by_cases h2 : a2 < 1
        · refine bad ?_ ?_
          · simp only [f_X10_plan, hC_yes H.2.2.1 hc hn8, cal_eq, n10, ↓reduceIte, if_pos h2]
          · simp only [f_X11_plan, bnd_eq, iC_yes H'.1 hc hn8, cal_eq, n10, ↓reduceIte, i7_3 hc8, t7_3 hc8, c3, hk, show f_X11_isIn (wr m 27 0 0) a2.toInt64 1 24 = some (0, wr m 27 0 0) from in60_no (b := 24) (by decide) (Or.inl h2)]
        · by_cases h24 : (24 : Int32) < a2
          · refine bad ?_ ?_
            · simp only [f_X10_plan, hC_yes H.2.2.1 hc hn8, cal_eq, n10, ↓reduceIte, if_neg h2, if_pos h24]
            · simp only [f_X11_plan, bnd_eq, iC_yes H'.1 hc hn8, cal_eq, n10, ↓reduceIte, i7_3 hc8, t7_3 hc8, c3, hk, show f_X11_isIn (wr m 27 0 0) a2.toInt64 1 24 = some (0, wr m 27 0 0) from in60_no (b := 24) (by decide) (Or.inr ⟨h2, Int32.not_le.mpr h24⟩)]
          · have : ∃ n, 1 ≤ n ∧ n ≤ 24 ∧ a2 = nI n := by
              rcases sixty_cases a2 with q | q | ⟨n, n1, n2, q⟩
              · exact absurd q h2
              · exact absurd (Int32.le_trans (Int32.not_lt.mp h24) (show (24 : Int32) ≤ 60 by decide)) q.2
              · refine ⟨n, n1, ?_, q⟩
                rw [q] at h24
                exact (nI_leI (b := 24) (by omega) (by decide)).mp (Int32.not_lt.mp h24)
            obtain ⟨n, n1, n2, e2⟩ := this
            subst e2
            have i24 : ∀ q : Sg, f_X11_isIn q (nI n).toInt64 1 24 = some (1, q) := fun q => in60_yes (k := 24) (by decide) n1 n2
            rcases three_cases a3 with h3 | h3
            · refine bad ?_ ?_
              · simp only [f_X10_plan, hC_yes H.2.2.1 hc hn8, cal_eq, n10, ↓reduceIte, if_neg h2, if_neg h24]
                rcases h3 with z | ⟨z, z'⟩
                · rw [if_pos z]
                · rw [if_neg z, if_neg (show ¬ a3 ≤ 2 from Int32.not_le.mpr (Int32.lt_of_lt_of_le (show (2 : Int32) < nI 3 by decide) z'))]
              · simp only [f_X11_plan, bnd_eq, iC_yes H'.1 hc hn8, cal_eq, n10, ↓reduceIte, i7_3 hc8, t7_3 hc8, c3, hk, i24, in2_no h3]
            · obtain ⟨V, hl, h4, hi, eh⟩ := Rel_LR R
              have hX : PX nl ln V nc ne B c s n m := ⟨R, T, hl, h4, hi, eh, hc, n2, fun ts t1 t2 => ⟨wf, hB, hc, e6, e7, s3, s1, s2, t1, t2⟩⟩
              obtain ⟨mC, x1, x2, x3, x4, x5⟩ := seek_v hX
              have frC := pS_scr x2
              have hq : QP m (wr (wr mC 27 0 0) 27 40 (-1)) (-1, (wr (wr mC 27 0 0) 27 40 (-1)).1 27 41, (wr (wr mC 27 0 0) 27 40 (-1)).1 27 42) [] := ⟨fun a b hab => fr_ess (frC.tr ((fr_thr mC 0).tr (Fr.w1 rfl))) hab, fun j hj => absurd hj (by simp), by rw [wr_at, pk_us], rfl, rfl⟩
              obtain ⟨mX, y1, y2, y3, y4, y5, y6⟩ := mpl_v hX hq
              obtain ⟨rc, _⟩ := pc_pm (o := opN (m.1 4) c) (v := fun ts => vR (va_cpy (m.1 4) (m.1 6) 0 0 100) nc ne c s ts n) (n := n) (s := s) (p := (-1, (wr (wr mC 27 0 0) 27 40 (-1)).1 27 41, (wr (wr mC 27 0 0) 27 40 (-1)).1 27 42)) (by
                obtain ⟨k, k1, k2⟩ := vR_le (f0 := va_cpy (m.1 4) (m.1 6) 0 0 100) (nc := nc) (ne := ne) (c := c) (s := s) (ts := []) n
                show (-1 : Int32) < vR _ nc ne c s [] n
                rw [k2]
                exact Int32.lt_of_lt_of_le (show (-1 : Int32) < nI 0 by decide) (nI_le (by omega) (by omega))) (by
                intro i r hi' hz hr
                obtain ⟨d1, d2⟩ := dg_snoc hi' hr
                show vR _ nc ne c s (dgL (i + 1) r) n = vR _ nc ne c s (dgL i (r / 10)) n
                rw [d1]
                exact vR_sn s1 n (by rw [dgL_len]; exact hz)) 3 (Nat.le_refl _)
              generalize pcS (opN (m.1 4) c) (fun ts => vR (va_cpy (m.1 4) (m.1 6) 0 0 100) nc ne c s ts n) n s 3 = pc at *
              generalize pmS (opN (m.1 4) c) (fun ts => vR (va_cpy (m.1 4) (m.1 6) 0 0 100) nc ne c s ts n) (-1, (wr (wr mC 27 0 0) 27 40 (-1)).1 27 41, (wr (wr mC 27 0 0) 27 40 (-1)).1 27 42) 4 = pm at *
              obtain ⟨r1, r2, r3, r4⟩ := rc
              have RX : Rel nl ln B mX := Rel_eq R y2
              have H2 := HM_fr H (frC.tr (fr_thr mC 0))
              have c3' : (wr mC 27 0 0).1 38 (7 * c + 3) = -1 := by rw [← hk]; exact k3 _ (fr_row (frC.tr (fr_thr mC 0)) (e_all (by simp)))
              have mo : ∀ w, w < 3 → f_X11_plan mC (nI c) (nI n) (nI w) = (if nI w = 0 then (if (mX.1 27 42) = 0 then some ((-1), mX) else some (mX.1 27 41, mX)) else (if nI w = 1 then some (mX.1 27 40, mX) else some (mX.1 27 42, mX))) := by
                intro w hw
                simp only [f_X11_plan, bnd_eq, iC_yes H2.1 hc hn8, cal_eq, n10, ↓reduceIte, i7_3 hc8, t7_3 hc8, c3', i24, in2_yes hw, lpk_of y1]
              have cl : ∀ w : Int32, w = 0 ∨ w = 1 ∨ w = 2 → f_X10_plan m (nI c) (nI n) w = (if w = 0 then some (pc.2.1, mC) else if w = 1 then some (pc.1, mC) else some (pc.2.2, mC)) := by
                intro w hw
                have w1 : ¬ w < 0 := by rcases hw with h | h | h <;> subst h <;> decide
                have w2 : w ≤ 2 := by rcases hw with h | h | h <;> subst h <;> decide
                simp only [f_X10_plan, hC_yes H.2.2.1 hc hn8, cal_eq, n10, ↓reduceIte, if_neg h2, if_neg h24, if_neg w1, if_pos w2, kid6 hc8, hk, x1, calv_eq, f_X3_bestRow, f_X3_bestMonths, f_X3_bestLength, x3, x4, x5]
              rcases h3 with h3 | h3 | h3 <;> subst h3
              · have m0 := mo 0 (by decide)
                rw [if_pos (show nI 0 = 0 from rfl), y6, y5] at m0
                refine ⟨pc.2.1, mC, mX, (cl 0 (Or.inl rfl)).trans (if_pos rfl), ?_, RX⟩
                show f_X11_plan mC (nI c) (nI n) (nI 0) = _
                rw [m0]
                by_cases z : pm.2.2 = 0
                · rw [if_pos z, r3 z]
                · rw [if_neg z, r4 z]
              · have m0 := mo 1 (by decide)
                rw [if_neg (show ¬ nI 1 = 0 by decide), if_pos (show nI 1 = 1 from rfl), y4] at m0
                refine ⟨pc.1, mC, mX, ?_, ?_, RX⟩
                · rw [cl 1 (Or.inr (Or.inl rfl)), if_neg (by decide), if_pos rfl]
                · show f_X11_plan mC (nI c) (nI n) (nI 1) = _
                  rw [m0, r1]
              · have m0 := mo 2 (by decide)
                rw [if_neg (show ¬ nI 2 = 0 by decide), if_neg (show ¬ nI 2 = 1 by decide), y6] at m0
                refine ⟨pc.2.2, mC, mX, ?_, ?_, RX⟩
                · rw [cl 2 (Or.inr (Or.inr rfl)), if_neg (by decide), if_neg (by decide)]
                · show f_X11_plan mC (nI c) (nI n) (nI 2) = _
                  rw [m0, r2]
      · refine bad ?_ ?_
        · simp only [f_X10_plan, hC_yes H.2.2.1 hc hn8, kid6 hc8, cal_eq, n10, ↓reduceIte, if_neg hk, ite_self]
        · simp only [f_X11_plan, bnd_eq, iC_yes H'.1 hc hn8, cal_eq, n10, ↓reduceIte, i7_3 hc8, t7_3 hc8, c3, if_neg hk]
end
