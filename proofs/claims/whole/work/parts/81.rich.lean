/-! richest -/
section
variable {nl B B' : Nat} {ln : Nat → Nat} {V : Nat → (Nat → Int32) → Int32} {m m1 m2 m' C C' S : Sg} {j w u : Nat} {a a1 a2 a3 r s law x mo y tr fv : Int32} {f f' g g' lg lg' : Nat → Int32} {nc ne c e t M M' A nx n : Nat}
theorem T_start2 (R : Rel nl ln B m) (T : Told m nc ne B) (hl : LR nl ln V m) (h4 : nl ≤ 4) (hi : isI law nl) (h : ∀ p k, ess p k = true → ¬ (p = 27 ∧ k = 31) → m1.1 p k = m.1 p k) (h31 : m1.1 27 31 = law) : ∃ m3, f_X11_copy 38 39 m1 = some m3 ∧ TS nl ln V nc ne B m3 (va_cpy (m.1 4) (m.1 6) 0 0 100) ∧ m3.1 39 62 = m.1 4 99 ∧ m3.1 27 31 = law ∧ Fr tS m1 m3 := by
  have F := T.2.1
  have wf := T_WF T
  have row : ∀ p, p ≠ 27 → (∀ k, ess p k = true) → m1.1 p = m.1 p := fun p h7 hp => funext fun k => h p k (hp k) (fun z => h7 z.1)
  have r38 := row 38 (by decide) (e_all (by simp))
  refine ⟨_, mCopy_v (by decide), ⟨?_, ?_, wf, ?_, h4, ?_, ?_, ?_⟩, ?_, ?_, Fr.w2 (fun _ => rfl)⟩
  · rw [wrr_at, r38]
    exact CV_congr (fun k hk => cpy6 hk) (fun k hk => if_pos hk) F.2.1
  · refine SV_st T.1 (fun k hk => cpy6 (stc_lt hk)) F.1.1.2 F.1.2.1 ?_ ?_ ?_ ?_ ?_
    · rw [wrr_ne (by decide), row 32 (by decide) (e_all (by simp))]
    · rw [wrr_ne (by decide), row 34 (by decide) (e_all (by simp))]
    · rw [wrr_ne (by decide), row 36 (by decide) (e_all (by simp))]
    · rw [wrr_ne (by decide), h 27 24 rfl (by decide)]
    · rw [wrr_ne (by decide), h 27 25 rfl (by decide)]
  · intro k hk
    rw [wrr_ne (by omega), wrr_ne (by decide), wrr_ne (by decide), row (46 + 3 * k) (by omega) (e_code k), row 29 (by decide) (e_all (by simp)), row 30 (by decide) (e_all (by simp))]
    exact hl k hk
  · rw [wrr_ne (by decide), h31]; exact hi
  · obtain ⟨M, _, L, _⟩ := T.2.2
    refine ⟨mn M 60, by unfold mn; split <;> omega, ?_⟩
    rw [wrr_at, r38]
    show (if 63 < 244 then m.1 38 63 else _) = _
    rw [if_pos (by decide)]; exact L.2.1
  · rw [wrr_ne (by decide), h 27 34 rfl (by decide)]; exact R.2.2.2.1
  · rw [wrr_at, r38]
    show (if 62 < 244 then m.1 38 62 else _) = _
    rw [if_pos (by decide)]; exact F.2.2.2.1
  · rw [wrr_ne (by decide), h31]
theorem nmo_hi (hn : nc ≤ 8) (he : ne ≤ 4) {k : Nat} (hk : 99 ≤ k) : nmo f nc ne k = f k := by
  unfold nmo crn
  rw [pk_un (by omega), bmo_hi hn he (by omega) (fun q _ => by omega) (by omega)]
theorem hm_hi (hf : WF f nc ne B) {k : Nat} (hk : 100 ≤ k) : ∀ i, hm V law f nc ne i k = f k
  | 0 => rfl
  | i + 1 => by
    show rgT (nmo (hm V law f nc ne i) nc ne) _ k = _
    rw [rgT_o (nI8 (WF_nmo (WF_hm hf i))) (by omega) (fun c _ => by omega), nmo_hi hf.1.2 hf.2.1 (by omega), hm_hi hf hk i]
theorem hm_99 (hf : WF f nc ne B) (h : ∃ t, t ≤ 90 * B ∧ f 99 = nI t) : ∀ i, ∃ t, t ≤ 90 * (B + i) ∧ hm V law f nc ne i 99 = nI t
  | 0 => h
  | i + 1 => by
    obtain ⟨t, t1, t2⟩ := hm_99 hf h i
    obtain ⟨p, p1, p2⟩ := pdV_v (V := V) (law := law) (f := nmo (hm V law f nc ne i) nc ne)
    show ∃ t, t ≤ 90 * (B + (i + 1)) ∧ rgT (nmo (hm V law f nc ne i) nc ne) (pdV V law (nmo (hm V law f nc ne i) nc ne)) 99 = nI t
    rw [rgT_99 (nI8 (WF_nmo (WF_hm hf i))), nmo_hi hf.1.2 hf.2.1 (by omega), t2, p2, nI_add]
    exact ⟨t + p, by omega, rfl⟩
def rcS (Tv : Int32 → Int32) (l : Nat) (p : Int32 × Int32) : Int32 × Int32 := if Tv (nI l) ≤ p.2 then p else (nI l, Tv (nI l))
def rS (p k : Nat) : Bool := gS p k || p == 23
theorem rS_scr (h : Fr rS m m') : Fr scr m m' := by
  refine Fr_mono (fun p k hp => ?_) h
  have h23 : p ≠ 23 := by
    intro z; subst z
    unfold scr ess at hp
    simp at hp
  have hg : gS p k = false := by
    unfold scr at hp
    simp at hp
    unfold gS
    by_cases h1 : p = 6
    · subst h1; exact absurd hp (by simp [ess])
    · by_cases h2 : p = 15
      · subst h2; exact absurd hp (by simp [ess])
      · simp [h1, h2]
        intro h3
        unfold ess at hp
        rw [if_neg (by omega), if_neg (by omega)] at hp
        simpa using hp
  unfold rS
  rw [hg]
  simp [h23]
theorem gS_rS (h : Fr gS m m') : Fr rS m m' := Fr_mono (fun p k hp => by unfold rS at hp; simp at hp; exact hp.1) h
theorem cpy_eq {f4 f6 f6' : Nat → Int32} (h : ∀ k, 100 ≤ k → f6' k = f6 k) : va_cpy f4 f6' 0 0 100 = va_cpy f4 f6 0 0 100 := by
  funext k
  by_cases z : k < 100
  · rw [pk_cpy_in (by omega) (by omega), pk_cpy_in (by omega) (by omega)]
  · rw [pk_cpy_out (by omega), pk_cpy_out (by omega), h k (by omega)]
theorem goOn_v3 {q : Sg} (hl : LR nl ln V m) (h4 : nl ≤ 4) (hi : isI law nl) (hf : WF (va_cpy (m.1 4) (m.1 6) 0 0 100) nc ne B) (hn : n < 1000000) (fr : Fr rS m q) (h6 : ∀ k, 100 ≤ k → q.1 6 k = m.1 6 k) : ∃ m', f_X3_goOn nl ln q (nI n) law = some m' ∧ m'.1 6 99 = hm V law (va_cpy (m.1 4) (m.1 6) 0 0 100) nc ne n 99 ∧ (∀ k, 100 ≤ k → m'.1 6 k = m.1 6 k) ∧ (∀ k, m'.1 23 k = q.1 23 k) ∧ Fr rS m m' := by
  have e4 : q.1 4 = m.1 4 := fr_row (rS_scr fr) (e_all (by simp))
  have ec : va_cpy (q.1 4) (q.1 6) 0 0 100 = va_cpy (m.1 4) (m.1 6) 0 0 100 := by rw [e4]; exact cpy_eq h6
  obtain ⟨m', c1, c2, c3⟩ := goOn_v2 (n := n) (law := law) (LR_fr hl (rS_scr fr)) h4 hi (by rw [ec]; exact hf) hn
  rw [ec] at c2
  refine ⟨m', c1, by rw [c2], fun k hk => ?_, fun k => c3.1 23 k rfl, fr.tr (gS_rS c3)⟩
  rw [c2, hm_hi hf hk, pk_cpy_out (by omega)]
theorem seekLaw_v (hl : LR nl ln V m) (h4 : nl ≤ 4) (hz : m.1 13 2 = nI nl) (hf : WF (va_cpy (m.1 4) (m.1 6) 0 0 100) nc ne B) (hn : n < 1000000) : ∃ m', f_X3_seekLaw nl ln m (nI n) = some m' ∧ m'.1 23 9 = (itr (rcS (fun l => hm V l (va_cpy (m.1 4) (m.1 6) 0 0 100) nc ne n 99)) (-1, hm V (-1) (va_cpy (m.1 4) (m.1 6) 0 0 100) nc ne n 99) nl).1 ∧ m'.1 23 10 = (itr (rcS (fun l => hm V l (va_cpy (m.1 4) (m.1 6) 0 0 100) nc ne n 99)) (-1, hm V (-1) (va_cpy (m.1 4) (m.1 6) 0 0 100) nc ne n 99) nl).2 ∧ Fr rS m m' := by
  unfold f_X3_seekLaw
  have fr0 : Fr rS m (wr m 23 9 (-1)) := Fr.w1 rfl
  obtain ⟨m1, c1, c2, c3, c4, c5⟩ := goOn_v3 (q := wr m 23 9 (-1)) (law := -1) hl h4 (Or.inl rfl) hf hn fr0 (fun k _ => by rw [wr_ne (by decide)])
  rw [bnd_eq, c1, calv_eq, cell99, cal_eq, bnd_eq, c2]
  have hf0 := hf
  generalize hfe : va_cpy (m.1 4) (m.1 6) 0 0 100 = f at c2 hf ⊢
  suffices key : ∃ m', lpO (f_X3_seekLaw_L26 (nI n) nl ln) fu (wr m1 23 10 (hm V (-1) f nc ne n 99), 0) = some m' ∧ (m'.1 23 9 = (itr (rcS (fun l => hm V l f nc ne n 99)) (-1, hm V (-1) f nc ne n 99) nl).1 ∧ m'.1 23 10 = (itr (rcS (fun l => hm V l f nc ne n 99)) (-1, hm V (-1) f nc ne n 99) nl).2 ∧ Fr rS m m') by
    obtain ⟨m', e1, e2⟩ := key
    rw [lpk_of e1]; exact ⟨m', rfl, e2⟩
  refine lpO_inv (step := f_X3_seekLaw_L26 (nI n) nl ln) (fun i s => ∃ q, s = (q, nI i) ∧ q.1 23 9 = (itr (rcS (fun l => hm V l f nc ne n 99)) (-1, hm V (-1) f nc ne n 99) i).1 ∧ q.1 23 10 = (itr (rcS (fun l => hm V l f nc ne n 99)) (-1, hm V (-1) f nc ne n 99) i).2 ∧ (∀ k, 100 ≤ k → q.1 6 k = m.1 6 k) ∧ Fr rS m q) _ nl _ ?_ ?_ ?_ (by omega)
  · refine ⟨_, rfl, ?_, ?_, fun k hk => ?_, c5.tr (Fr.w1 rfl)⟩
    · rw [wr_at, pk_un (by decide), c4, wr_at, pk_us]; rfl
    · rw [wr_at, pk_us]; rfl
    · rw [wr_ne (by decide), c3 k hk]
  · rintro i s hi' ⟨q, rfl, q1, q2, q3, q4⟩
    have e13 : q.1 13 2 = nI nl := by rw [fr_ess (rS_scr q4) rfl, hz]
    obtain ⟨m2, d1, d2, d3, d4, d5⟩ := goOn_v3 (q := q) (law := nI i) hl h4 (Or.inr ⟨i, hi', rfl⟩) hf0 hn q4 q3
    rw [hfe] at d2
    rw [itr_s]
    generalize itr (rcS (fun l => hm V l f nc ne n 99)) (-1, hm V (-1) f nc ne n 99) i = P at *
    have e10 : m2.1 23 10 = P.2 := by rw [d4, q2]
    have e9 : m2.1 23 9 = P.1 := by rw [d4, q1]
    by_cases z : hm V (nI i) f nc ne n 99 ≤ P.2
    · have rc : rcS (fun l => hm V l f nc ne n 99) i P = P := if_pos z
      rw [rc]
      refine ⟨(m2, nI (i + 1)), ?_, m2, rfl, e9, e10, d3, d5⟩
      simp only [f_X3_seekLaw_L26, f_X5_size, cal_eq, e13, if_neg (ix_lt hi' (show nl < 2 ^ 31 by omega)), d1, calv_eq, cell99, d2, e10, if_pos z, bnd_eq, nI_1]
    · have rc : rcS (fun l => hm V l f nc ne n 99) i P = (nI i, hm V (nI i) f nc ne n 99) := if_neg z
      rw [rc]
      refine ⟨(wr (wr m2 23 9 (nI i)) 23 10 (hm V (nI i) f nc ne n 99), nI (i + 1)), ?_, _, rfl, ?_, ?_, fun k hk => ?_, (d5.tr (Fr.w1 rfl)).tr (Fr.w1 rfl)⟩
      · simp only [f_X3_seekLaw_L26, f_X5_size, cal_eq, e13, if_neg (ix_lt hi' (show nl < 2 ^ 31 by omega)), d1, calv_eq, cell99, d2, e10, if_neg z, bnd_eq, nI_1, wr_ne (show 6 ≠ 23 by decide)]
      · rw [wr_at, pk_un (by decide), wr_at, pk_us]
      · rw [wr_at, pk_us]
      · rw [wr_ne (by decide), wr_ne (by decide), d3 k hk]
  · rintro s ⟨q, rfl, q1, q2, q3, q4⟩
    have e13 : q.1 13 2 = nI nl := by rw [fr_ess (rS_scr q4) rfl, hz]
    refine ⟨q, ?_, q1, q2, q4⟩
    simp only [f_X3_seekLaw_L26, f_X5_size, cal_eq, e13, if_pos (nI_le (Nat.le_refl nl) (show nl < 2 ^ 31 by omega))]
theorem L81_eq : f_X11_richest_L81 a = f_X11_ahead_L51 a := rfl
/-- the law tried i-th -/
def xl (i : Nat) : Int32 := if i = 0 then -1 else nI (i - 1)
def pvR (Tv : Int32 → Int32) (i : Nat) : Int32 × Int32 := if i = 0 then (-1, -1) else itr (rcS Tv) (-1, Tv (-1)) (i - 1)
theorem mRich_v (R : Rel nl ln B m) (T : Told m nc ne B) (hl : LR nl ln V m) (h4 : nl ≤ 4) (hB : B ≤ 40000) (hn : n ≤ 24) (h : ∀ p k, ess p k = true → m1.1 p k = m.1 p k) : ∃ x : Sg × Int32 × Int32, lpO (f_X11_richest_L52 (nI n)) fu (m1, -1, -1, -1) = some x ∧ (x.2 = itr (rcS (fun l => hm V l (va_cpy (m.1 4) (m.1 6) 0 0 100) nc ne n 99)) (-1, hm V (-1) (va_cpy (m.1 4) (m.1 6) 0 0 100) nc ne n 99) nl ∧ ∀ p k, ess p k = true → ¬ (p = 27 ∧ k = 31) → x.1.1 p k = m.1 p k) := by
  have hf := T_WF T
  have F := T.2.1
  have h7 : m.1 27 7 = nI nl := by obtain ⟨V, v⟩ := R.2.1; exact v.2.1
  obtain ⟨t0, t1, t2⟩ := hm_99 (V := V) (law := -1) hf (by rw [cpy6 (by decide)]; exact F.2.2.2.2) n
  have hf0 := hf
  generalize hfe : va_cpy (m.1 4) (m.1 6) 0 0 100 = f at hf t2 ⊢
  refine lpO_inv (step := f_X11_richest_L52 (nI n)) (fun i s => ∃ q, s = (q, (pvR (fun l => hm V l f nc ne n 99) i).1, (pvR (fun l => hm V l f nc ne n 99) i).2, xl i) ∧ ∀ p k, ess p k = true → ¬ (p = 27 ∧ k = 31) → q.1 p k = m.1 p k) _ (nl + 1) _ ⟨m1, rfl, fun p k hp _ => h p k hp⟩ ?_ ?_ (by omega)
  · rintro i s hi' ⟨q, rfl, q1⟩
    have e7 : q.1 27 7 = nI nl := by rw [q1 27 7 rfl (by decide), h7]
    have xI : isI (xl i) nl := by
      unfold xl
      split
      · exact Or.inl rfl
      · exact Or.inr ⟨i - 1, by omega, rfl⟩
    have xn : ¬ nI nl ≤ xl i := by
      unfold xl
      split
      · intro z
        have := Int32.le_trans (nI_pos' (n := nl) (by omega)) z
        exact absurd this (by decide)
      · exact nI_ge (by omega) (by omega)
    have x1 : xl i + 1 = xl (i + 1) := by
      unfold xl
      rw [if_neg (show ¬ i + 1 = 0 by omega)]
      by_cases z : i = 0
      · subst z; rfl
      · rw [if_neg z, nI_1]; congr 1; omega
    obtain ⟨m3, d1, d2, d3, d4, d5⟩ := T_start2 (law := xl i) R T hl h4 xI (m1 := wr q 27 31 (xl i)) (fun p k hp hx => by
      by_cases z : p = 27
      · subst z
        rw [wr_at, pk_un (fun y => hx ⟨rfl, y⟩), q1 27 k hp hx]
      · rw [wr_ne z, q1 p k hp hx]) (by rw [wr_at, pk_us])
    rw [hfe] at d2
    obtain ⟨m4, y1, y2, y3, y4⟩ := mGo_v (n := n) d2 (by rw [d3, ← hfe, cpy6 (by decide)]) (by omega)
    rw [d4] at y3
    have keep : ∀ p k, ess p k = true → ¬ (p = 27 ∧ k = 31) → m4.1 p k = m.1 p k := by
      intro p k hp hx
      rw [fr_ess ((tS_scr d5).tr (tS_scr y4)) hp]
      by_cases z : p = 27
      · subst z
        rw [wr_at, pk_un (fun y => hx ⟨rfl, y⟩), q1 27 k hp hx]
      · rw [wr_ne z, q1 p k hp hx]
    refine ⟨(m4, (pvR (fun l => hm V l f nc ne n 99) (i + 1)).1, (pvR (fun l => hm V l f nc ne n 99) (i + 1)).2, xl (i + 1)), ?_, m4, rfl, keep⟩
    simp only [f_X11_richest_L52, e7, if_neg xn, bnd_eq, d1, calv_eq, L81_eq, lpk_of y1, y3, x1]
    by_cases z : i = 0
    · subst z
      have e1 : (pvR (fun l => hm V l f nc ne n 99) (0 + 1)) = (-1, hm V (-1) f nc ne n 99) := rfl
      rw [e1]
      have lt : (pvR (fun l => hm V l f nc ne n 99) 0).2 < hm V (xl 0) f nc ne n 99 := by
        show (-1 : Int32) < hm V (-1) f nc ne n 99
        rw [t2]
        exact Int32.lt_of_lt_of_le (show (-1 : Int32) < nI 0 by decide) (nI_le (Nat.zero_le _) (by omega))
      rw [if_pos lt]; rfl
    · obtain ⟨k, hk⟩ : ∃ k, i = k + 1 := ⟨i - 1, by omega⟩
      subst hk
      have e1 : pvR (fun l => hm V l f nc ne n 99) (k + 1) = itr (rcS (fun l => hm V l f nc ne n 99)) (-1, hm V (-1) f nc ne n 99) k := rfl
      have e2 : pvR (fun l => hm V l f nc ne n 99) (k + 1 + 1) = rcS (fun l => hm V l f nc ne n 99) k (itr (rcS (fun l => hm V l f nc ne n 99)) (-1, hm V (-1) f nc ne n 99) k) := rfl
      have e3 : xl (k + 1) = nI k := rfl
      rw [e1, e2, e3]
      generalize itr (rcS (fun l => hm V l f nc ne n 99)) (-1, hm V (-1) f nc ne n 99) k = P
      unfold rcS
      by_cases y : hm V (nI k) f nc ne n 99 ≤ P.2
      · rw [if_neg (Int32.not_lt.mpr y), if_pos y]
      · rw [if_pos (Int32.not_le.mp y), if_neg y]
  · rintro s ⟨q, rfl, q1⟩
    have e7 : q.1 27 7 = nI nl := by rw [q1 27 7 rfl (by decide), h7]
    refine ⟨(q, pvR (fun l => hm V l f nc ne n 99) (nl + 1)), ?_, rfl, q1⟩
    have e3 : xl (nl + 1) = nI nl := rfl
    simp only [f_X11_richest_L52, e7, e3, if_pos (nI_le (Nat.le_refl nl) (show nl < 2 ^ 31 by omega))]
theorem q_richest (hB : B ≤ 40000) (R : Rel nl ln B m) : QQ nl ln B (f_X10_richest nl ln m a1 a2) (fun m1 => f_X11_richest m1 a1 a2) := by
  have sg : a1 < 1 ∨ (¬ a1 < 1 ∧ ¬ a1 ≤ 24) ∨ ∃ n, 1 ≤ n ∧ n ≤ 24 ∧ a1 = nI n := by
    by_cases h : a1 < 1
    · exact Or.inl h
    · by_cases h2 : a1 ≤ 24
      · rcases sixty_cases a1 with q | q | ⟨n, n1, n2, q⟩
        · exact absurd q h
        · exact absurd (Int32.le_trans h2 (show (24 : Int32) ≤ 60 by decide)) q.2
        · rw [q] at h2
          exact Or.inr (Or.inr ⟨n, n1, (nI_leI (b := 24) (by omega) (by decide)).mp h2, q⟩)
      · exact Or.inr (Or.inl ⟨h, h2⟩)
  rcases Rel_cases R with ⟨u, H⟩ | ⟨nc, ne, M, A, nx, T, H, hM, L, P⟩
  · refine QQ_q R (r := -1000000) (m1 := m) (m2 := wr m 27 0 0) ?_ Fr.rf ?_ (fr_thr m 0)
    · simp only [f_X10_richest, told_v H.2.2.1 (by decide), cal_eq, ↓reduceIte]
    · simp only [f_X11_richest, bnd_eq, show (wr m 27 0 0).1 27 24 = 0 from u.2.2.2.2.2.1, ↓reduceIte]
  · have h0 : ¬ nc = 0 := by have := T.2.1.1.1.1; omega
    have hn8 := H.2.2.2.2.2.1
    have n24 : ∀ q : Sg, q.1 27 24 = nI nc → ¬ q.1 27 24 = 0 := fun q hq => by rw [hq]; exact nI_ne0 (by omega) (by omega)
    have tl : f_X0_isTold 4 m = some (1, m) := by rw [told_v H.2.2.1 hn8, if_neg h0]
    have bad : ∀ (z : a1 < 1 ∨ (¬ a1 < 1 ∧ ¬ a1 ≤ 24)), QQ nl ln B (f_X10_richest nl ln m a1 a2) (fun m1 => f_X11_richest m1 a1 a2) := by
      intro z
      refine QQ_q R (r := -1000000) (m1 := m) (m2 := wr m 27 0 0) ?_ Fr.rf ?_ (fr_thr m 0)
      · simp only [f_X10_richest, tl, cal_eq, n10, ↓reduceIte]
        rcases z with z | ⟨z, z'⟩
        · rw [if_pos z]
        · rw [if_neg z, if_pos (Int32.not_le.mp z')]
      · simp only [f_X11_richest, bnd_eq, if_neg (n24 (wr m 27 0 0) H.1), show f_X11_isIn (wr m 27 0 0) a1.toInt64 1 24 = some (0, wr m 27 0 0) from in60_no (b := 24) (by decide) z, cal_eq, ↓reduceIte]
    rcases sg with h | h | ⟨n, n1, n2, h⟩
    · exact bad (Or.inl h)
    · exact bad (Or.inr h)
    · subst h
      have g1 : ¬ nI n < 1 := nI_nlt (b := 1) n1 (by omega)
      have g2 : ¬ (24 : Int32) < nI n := nI_nlt (a := 24) (b := n) n2 (by decide)
      have i24 : ∀ q : Sg, f_X11_isIn q (nI n).toInt64 1 24 = some (1, q) := fun q => in60_yes (k := 24) (by decide) n1 n2
      rcases two_cases a2 with h3 | h3
      · refine QQ_q R (r := -1000000) (m1 := m) (m2 := wr m 27 0 0) ?_ Fr.rf ?_ (fr_thr m 0)
        · simp only [f_X10_richest, tl, cal_eq, n10, ↓reduceIte, if_neg g1, if_neg g2, two_no h3]
        · simp only [f_X11_richest, bnd_eq, if_neg (n24 (wr m 27 0 0) H.1), i24, in1_no h3, cal_eq, n10, ↓reduceIte]
      · obtain ⟨V, v⟩ := R.2.1
        obtain ⟨v1, h7, h4, hi, eh, hl⟩ := v
        have i3 : ∀ q : Sg, f_X11_isIn q a2.toInt64 0 1 = some (1, q) := by intro q; rcases h3 with h | h <;> subst h; exact in1_0; exact in1_1
        have t3 : f_X10_isOneOfTwo m a2 = some (1, m) := by rcases h3 with h | h <;> subst h <;> rfl
        obtain ⟨mC, c1, c2, c3, c4⟩ := seekLaw_v (n := n) hl h4 v1 (T_WF T) (by omega)
        have frC := rS_scr c4
        have frT := frC.tr (fr_thr mC 0)
        have H2 := HM_fr H frT
        obtain ⟨x, x1, x2, x3⟩ := mRich_v (m1 := wr mC 27 0 0) R T hl h4 hB n2 (fun p k hp => fr_ess frT hp)
        rw [← x2] at c2 c3
        have e31 : (wr mC 27 0 0).1 27 31 = m.1 27 31 := fr_ess frT rfl
        refine ⟨if a2 = 0 then x.2.1 else x.2.2, mC, wr x.1 27 31 (m.1 27 31), ?_, ?_, Rel_eq R (fun p k hp => ?_)⟩
        · simp only [f_X10_richest, tl, cal_eq, calv_eq, n10, ↓reduceIte, if_neg g1, if_neg g2, t3, c1, f_X3_bestLaw, f_X3_bestTreasury, c2, c3]
          split <;> rfl
        · simp only [f_X11_richest, bnd_eq, if_neg (n24 (wr mC 27 0 0) H2.1), i24, i3, cal_eq, n10, ↓reduceIte, e31, lpk_of x1]
          split <;> rfl
        · by_cases z : p = 27
          · subst z
            by_cases y : k = 31
            · subst y; rw [wr_at, pk_us]
            · rw [wr_at, pk_un y, x3 27 k hp (fun t => y t.2)]
          · rw [wr_ne z, x3 p k hp (fun t => z t.1)]
end
