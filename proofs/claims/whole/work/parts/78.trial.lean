/-! months tried: both trials side by side; ahead, reign, late -/
section
variable {nl B B' : Nat} {ln : Nat → Nat} {V : Nat → (Nat → Int32) → Int32} {m m1 m2 m' C C' S : Sg} {j w u : Nat} {a a1 a2 a3 r s law x mo y tr fv : Int32} {f f' g g' lg lg' : Nat → Int32} {nc ne c e t M M' A nx n : Nat}
/-- the model's trial row is f's -/
def TS (nl : Nat) (ln : Nat → Nat) (V : Nat → (Nat → Int32) → Int32) (nc ne B : Nat) (m : Sg) (f : Nat → Int32) : Prop := CV (m.1 39) f ∧ SV m f nc ne ∧ WF f nc ne B ∧ LR nl ln V m ∧ nl ≤ 4 ∧ isI (m.1 27 31) nl ∧ (∃ n, n ≤ 60 ∧ m.1 39 63 = nI n) ∧ m.1 27 34 = -1
/-- what a month of the model's trial may change; of the component's -/
def tS (p k : Nat) : Bool := p == 27 && (k == 5 || k == 8 || k == 9 || k == 10 || k == 11 || k == 12 || k == 13 || k == 14 || k == 17 || k == 35 || k == 1000000) || p == 31 || p == 39
def gS (p _k : Nat) : Bool := p == 6 || p == 15 || (decide (45 ≤ p) && !(p % 3 == 1))
theorem tS_scr (h : Fr tS m m') : Fr scr m m' := by
  refine Fr_mono (fun p k hp => ?_) h
  unfold scr at hp
  simp at hp
  unfold tS
  by_cases h1 : p = 27
  · subst h1
    unfold ess at hp
    simp at hp
    simp
    omega
  · by_cases h2 : p = 31
    · subst h2; exact absurd hp (by simp [ess])
    · by_cases h3 : p = 39
      · subst h3; exact absurd hp (by simp [ess])
      · simp [h1, h2, h3]
theorem gS_scr (h : Fr gS m m') : Fr scr m m' := by
  refine Fr_mono (fun p k hp => ?_) h
  unfold scr at hp
  simp at hp
  unfold gS
  by_cases h1 : p = 6
  · subst h1; exact absurd hp (by simp [ess])
  · by_cases h2 : p = 15
    · subst h2; exact absurd hp (by simp [ess])
    · simp [h1, h2]
      intro h3
      unfold ess at hp
      rw [if_neg (by omega), if_neg (by omega)] at hp
      simpa using hp
theorem nmo_mth {f : Nat → Int32} : mth (bmo f nc ne) nc ne = nmo f nc ne := rfl
theorem TS_go (h : TS nl ln V nc ne B m f) : ∃ m', f_X11_goMonth 39 m 0 = some m' ∧ TS nl ln V nc ne (B + 1) m' (nmo f nc ne) ∧ m'.1 39 62 = m.1 39 62 + pdV V (m.1 27 31) (nmo f nc ne) ∧ Fr tS m m' := by
  obtain ⟨hv, hs, hf, hl, h4, hi, ⟨n, n1, n2⟩, hp⟩ := h
  have hn8 := hf.1.2
  have hn4 := hf.2.1
  obtain ⟨N, D, hDm, _⟩ := dr_both
  obtain ⟨m', g', d1, d2, d3, d4, d5, d6, d7⟩ := mdlMonth (a := 0) (w := 39) (V := V) hDm (Or.inl rfl) (Or.inr rfl) hv hs hf hl h4 hi n2 n1 hp
  have e0 : ∀ fv x, fvR N D 0 fv (bmo f nc ne) x nc = (bmo f nc ne, x) := fun _ _ => if_pos rfl
  rw [e0] at d2 d3 d5
  have fr : Fr tS m m' := fr_X11_goMonth (S := tS) (fun _ => rfl) rfl rfl rfl rfl rfl rfl rfl rfl rfl rfl rfl (fun _ => rfl) d1
  have st : StE f (nmo f nc ne) := StE_nmo hn8 hn4
  refine ⟨m', d1, ⟨?_, ?_, WF_nmo hf, ?_, h4, ?_, ?_, ?_⟩, ?_, fr⟩
  · rw [d2]
    exact CV_6 d3 (fun k hk _ => wrG_lo (by omega))
  · refine SV_st hs st hn8 hn4 ?_ ?_ ?_ ?_ ?_
    · exact funext fun k => fr.1 32 k rfl
    · exact funext fun k => fr.1 34 k rfl
    · exact funext fun k => fr.1 36 k rfl
    · exact fr.1 27 24 rfl
    · exact fr.1 27 25 rfl
  · intro k hk
    have r29 : m'.1 29 = m.1 29 := funext fun k => fr.1 29 k rfl
    have r30 : m'.1 30 = m.1 30 := funext fun k => fr.1 30 k rfl
    have rc : m'.1 (46 + 3 * k) = m.1 (46 + 3 * k) := funext fun q => fr.1 _ q (by unfold tS; simp; omega)
    rw [r29, r30, rc]
    exact hl k hk
  · rw [fr.1 27 31 rfl]; exact hi
  · obtain ⟨q, q1, q2⟩ := wrG_63 (g := g') (e := trW (bmo f nc ne) 0 ne) (p := pdV V (m.1 27 31) (mth (bmo f nc ne) nc ne)) n1
    exact ⟨q, q1, by rw [d2]; exact q2⟩
  · rw [fr.1 27 34 rfl]; exact hp
  · rw [d2, wrG_lo (by decide), d5]; rfl
theorem TS_f (h : TS nl ln V nc ne B m f) (hv : CV (m.1 39) f') (hst : StE f f') (hf : WF f' nc ne B') : TS nl ln V nc ne B' m f' := by
  obtain ⟨_, hs, hf0, hl, h4, hi, hn, hp⟩ := h
  exact ⟨hv, SV_st2 hs hst hf0.1.2 hf0.2.1, hf, hl, h4, hi, hn, hp⟩
theorem nI8 (h : WF f nc ne B) : isI (f 98) 8 := isI_mono h.2.2.2.2.2.2.2.2.2.2 h.1.2
/-- the rows of months tried, with what is paid -/
def hm (V : Nat → (Nat → Int32) → Int32) (law : Int32) (f : Nat → Int32) (nc ne : Nat) : Nat → Nat → Int32
  | 0 => f
  | i + 1 => rgT (nmo (hm V law f nc ne i) nc ne) (pdV V law (nmo (hm V law f nc ne i) nc ne))
theorem WF_hm (hf : WF f nc ne B) : ∀ i, WF (hm V law f nc ne i) nc ne (B + i)
  | 0 => hf
  | i + 1 => WF_rgT (WF_nmo (WF_hm hf i))
theorem cpy6 {k : Nat} (hk : k < 100) : va_cpy (m.1 4) (m.1 6) 0 0 100 k = m.1 4 k := by
  rw [pk_cpy_in (by omega) (by omega)]
  exact congrArg (m.1 4) (by omega)
theorem become_v : f_X0_become 6 4 m = some (wrr m 6 (va_cpy (m.1 4) (m.1 6) 0 0 100)) := by
  have c2 : cpk 0 0 100 100 100 = true := by decide
  simp only [f_X0_become, c2, ↓reduceIte, bnd_eq]
  rfl
theorem rnm_v (hf : WF (m.1 6) nc ne B) : f_X3_rulerOfNextMonth m = some (nmo (m.1 6) nc ne 98, wrr m 6 (nmo (m.1 6) nc ne)) := by
  have hn8 := hf.1.2
  have hn4 := hf.2.1
  have wb := WF_bmo hf
  unfold f_X3_rulerOfNextMonth
  rw [beginMonth_v hf.2.2.1 hn8 hf.2.2.2.1 hn4, calv_eq]
  have e6 : (wrr m 6 (bmo (m.1 6) nc ne)).1 6 = bmo (m.1 6) nc ne := wrr_at
  rw [trier_v (n := ne) (by rw [e6]; exact wb.2.2.2.1) hn4, cal_eq, crown_v (n := nc) (by rw [e6]; exact wb.2.2.1) hn8 (isI_mono trW_I hn4) (by rw [e6]; exact nI8 wb), calv_eq, e6, wrr_wrr]
  simp only [f_X0_ruler, cal_eq, wrr_at]
  rfl
theorem T_WF (T : Told m nc ne B) : WF (va_cpy (m.1 4) (m.1 6) 0 0 100) nc ne B := WF_congr (fun k hk => cpy6 hk) T.2.1.1
/-- where the model's trial begins -/
theorem T_start (R : Rel nl ln B m) (T : Told m nc ne B) (hl : LR nl ln V m) (h4 : nl ≤ 4) (hi : isI (m.1 13 3) nl) (eh : m.1 27 31 = m.1 13 3) (h : ∀ p k, ess p k = true → m1.1 p k = m.1 p k) : ∃ m3, f_X11_copy 38 39 m1 = some m3 ∧ TS nl ln V nc ne B m3 (va_cpy (m.1 4) (m.1 6) 0 0 100) ∧ m3.1 39 62 = m.1 4 99 ∧ m3.1 27 31 = m.1 13 3 ∧ Fr tS m1 m3 := by
  have F := T.2.1
  have wf := T_WF T
  have row : ∀ p, (∀ k, ess p k = true) → m1.1 p = m.1 p := fun p hp => funext fun k => h p k (hp k)
  have r38 := row 38 (e_all (by simp))
  refine ⟨_, mCopy_v (by decide), ⟨?_, ?_, wf, ?_, h4, ?_, ?_, ?_⟩, ?_, ?_, Fr.w2 (fun _ => rfl)⟩
  · rw [wrr_at, r38]
    exact CV_congr (fun k hk => cpy6 hk) (fun k hk => if_pos hk) F.2.1
  · refine SV_st T.1 (fun k hk => cpy6 (stc_lt hk)) F.1.1.2 F.1.2.1 ?_ ?_ ?_ ?_ ?_
    · rw [wrr_ne (by decide), row 32 (e_all (by simp))]
    · rw [wrr_ne (by decide), row 34 (e_all (by simp))]
    · rw [wrr_ne (by decide), row 36 (e_all (by simp))]
    · rw [wrr_ne (by decide), h 27 24 rfl]
    · rw [wrr_ne (by decide), h 27 25 rfl]
  · intro k hk
    rw [wrr_ne (by omega), wrr_ne (by decide), wrr_ne (by decide), row (46 + 3 * k) (e_code k), row 29 (e_all (by simp)), row 30 (e_all (by simp))]
    exact hl k hk
  · rw [wrr_ne (by decide), h 27 31 rfl, eh]; exact hi
  · obtain ⟨M, _, L, _⟩ := T.2.2
    refine ⟨mn M 60, by unfold mn; split <;> omega, ?_⟩
    rw [wrr_at, r38]
    show (if 63 < 244 then m.1 38 63 else _) = _
    rw [if_pos (by decide)]; exact L.2.1
  · rw [wrr_ne (by decide), h 27 34 rfl]; exact R.2.2.2.1
  · rw [wrr_at, r38]
    show (if 62 < 244 then m.1 38 62 else _) = _
    rw [if_pos (by decide)]; exact F.2.2.2.1
  · rw [wrr_ne (by decide), h 27 31 rfl, eh]
theorem mGo_v (h : TS nl ln V nc ne B m f) (h62 : m.1 39 62 = f 99) (hn : n < 1000000) : ∃ m', lpO (f_X11_ahead_L51 (nI n)) fu (m, 0) = some m' ∧ TS nl ln V nc ne (B + n) m' (hm V (m.1 27 31) f nc ne n) ∧ m'.1 39 62 = hm V (m.1 27 31) f nc ne n 99 ∧ Fr tS m m' := by
  refine lpO_inv (fun i s => ∃ q, s = (q, nI i) ∧ TS nl ln V nc ne (B + i) q (hm V (m.1 27 31) f nc ne i) ∧ q.1 39 62 = hm V (m.1 27 31) f nc ne i 99 ∧ Fr tS m q) _ n (m, 0) ⟨m, rfl, h, h62, Fr.rf⟩ ?_ ?_ hn
  · rintro i s hi ⟨q, rfl, q1, q2, q3⟩
    obtain ⟨q', d1, d2, d3, d4⟩ := TS_go q1
    have e31 : q.1 27 31 = m.1 27 31 := q3.1 27 31 rfl
    have r8 := nI8 d2.2.2.1
    refine ⟨(q', nI (i + 1)), ?_, q', rfl, ?_, ?_, q3.tr d4⟩
    · simp only [f_X11_ahead_L51, if_neg (ix_lt hi (show n < 2 ^ 31 by omega)), d1, calv_eq, bnd_eq, nI_1]
    · exact TS_f d2 (CV_rgT r8 d2.1 (fun _ _ => rfl)) (StE_rgT r8 (fun _ _ => rfl)) (WF_rgT d2.2.2.1)
    · rw [d3, q2, e31]
      show _ = rgT (nmo (hm V (m.1 27 31) f nc ne i) nc ne) (pdV V (m.1 27 31) (nmo (hm V (m.1 27 31) f nc ne i) nc ne)) 99
      rw [rgT_99 r8]
      have : nmo (hm V (m.1 27 31) f nc ne i) nc ne 99 = hm V (m.1 27 31) f nc ne i 99 := by
        unfold nmo crn
        rw [pk_un (by decide), bmo_hi h.2.2.1.1.2 h.2.2.1.2.1 (by decide) (fun q _ => by omega) (by decide)]
      rw [this]
  · rintro s ⟨q, rfl, q1, q2, q3⟩
    refine ⟨q, ?_, q1, q2, q3⟩
    simp only [f_X11_ahead_L51, if_pos (nI_le (Nat.le_refl n) (show n < 2 ^ 31 by omega))]
theorem goOn_v2 (hl : LR nl ln V m) (h4 : nl ≤ 4) (hi : isI law nl) (hf : WF (va_cpy (m.1 4) (m.1 6) 0 0 100) nc ne B) (hn : n < 1000000) : ∃ m', f_X3_goOn nl ln m (nI n) law = some m' ∧ m'.1 6 = hm V law (va_cpy (m.1 4) (m.1 6) 0 0 100) nc ne n ∧ Fr gS m m' := by
  unfold f_X3_goOn
  rw [become_v, calv_eq]
  generalize va_cpy (m.1 4) (m.1 6) 0 0 100 = f at *
  suffices key : ∃ m', lpO (f_X3_goOn_L13 (nI n) law nl ln) fu (wrr m 6 f, 0) = some m' ∧ m'.1 6 = hm V law f nc ne n ∧ Fr gS m m' by
    obtain ⟨m', e1, e2, e3⟩ := key
    rw [lpk_of e1]; exact ⟨m', rfl, e2, e3⟩
  refine lpO_inv (step := f_X3_goOn_L13 (nI n) law nl ln) (fun i s => ∃ q, s = (q, nI i) ∧ q.1 6 = hm V law f nc ne i ∧ Fr gS m q) (fun q => q.1 6 = hm V law f nc ne n ∧ Fr gS m q) n (wrr m 6 f, 0) ⟨wrr m 6 f, rfl, wrr_at, Fr.w2 (fun _ => rfl)⟩ ?_ ?_ hn
  · rintro i s hi' ⟨q, rfl, q1, q2⟩
    have wfi := WF_hm (V := V) (law := law) hf i
    have wn := WF_nmo wfi
    have r8 := nI8 wn
    have hr := rnm_v (m := q) (nc := nc) (ne := ne) (B := B + i) (by rw [q1]; exact wfi)
    rw [q1] at hr
    have hn8 := hf.1.2
    have fin : ∀ (q2 : Sg) (pd : Int32), q2.1 6 = nmo (hm V law f nc ne i) nc ne → Fr gS m q2 → pd = pdV V law (nmo (hm V law f nc ne i) nc ne) → ∃ s', calv (f_X0_reignAndTake 6 q2 pd) (fun m14 => bnd (nI i + 1) (fun x15 => some (.inr (m14, x15)))) = some (.inr s' : Sg ⊕ (Sg × Int32)) ∧ ∃ q, s' = (q, nI (i + 1)) ∧ q.1 6 = hm V law f nc ne (i + 1) ∧ Fr gS m q := by
      intro q2 pd z1 z2 z3
      rw [reignAndTake_v (by rw [z1]; exact r8), calv_eq, bnd_eq, nI_1, z1, z3]
      exact ⟨_, rfl, _, rfl, wrr_at, z2.tr (Fr.w2 (fun _ => rfl))⟩
    have fr1 : Fr gS m (wrr q 6 (nmo (hm V law f nc ne i) nc ne)) := q2.tr (Fr.w2 (fun _ => rfl))
    simp only [f_X3_goOn_L13, if_neg (ix_lt hi' (show n < 2 ^ 31 by omega)), hr, cal_eq, f_X0_ruler, wrr_at, bnd_eq]
    rcases wn.2.2.2.2.2.2.2.2.2.2 with h | ⟨c, hc, h⟩
    · rw [if_pos h]
      exact fin _ 0 wrr_at fr1 (by unfold pdV; rw [if_pos h])
    · have c1 : ¬ nI c = -1 := n1e (by omega)
      rw [h, if_neg c1]
      have lr : LR nl ln V (wrr q 6 (nmo (hm V law f nc ne i) nc ne)) := LR_fr hl (gS_scr fr1)
      obtain ⟨m3, e3⟩ := taxOf_v (j := 6) (law := law) lr h4 hi (by decide) (show c < 8 by omega)
      have f3 : Fr (fun p _ => p == 15 || (decide (45 ≤ p) && !(p % 3 == 1))) _ m3 := fr_X5_taxOf (S := fun p _ => p == 15 || (decide (45 ≤ p) && !(p % 3 == 1))) (fun _ => rfl) (fun p k h1 h2 => by simp [h1, h2]) e3
      rw [wrr_at] at e3
      rw [e3]
      simp only [cal_eq]
      refine fin m3 _ ?_ (fr1.tr (Fr_mono (fun p k hp => by unfold gS at hp; simp at hp ⊢; exact ⟨hp.1.2, hp.2⟩) f3)) (by unfold pdV; rw [h, if_neg c1, nI_clamp (by omega)])
      rw [← wrr_at (m := q) (j := 6) (f := nmo (hm V law f nc ne i) nc ne)]
      exact funext fun k => f3.1 6 k rfl
  · rintro s ⟨q, rfl, q1, q2⟩
    refine ⟨q, ?_, q1, q2⟩
    simp only [f_X3_goOn_L13, if_pos (nI_le (Nat.le_refl n) (show n < 2 ^ 31 by omega))]
theorem q_ahead (R : Rel nl ln B m) : QQ nl ln B (f_X10_ahead nl ln m a1 a2) (fun m1 => f_X11_ahead m1 a1 a2) := by
  rcases Rel_cases R with ⟨u, H⟩ | ⟨nc, ne, M, A, nx, T, H, hM, L, P⟩
  · refine QQ_q R (r := -1000000) (m1 := m) (m2 := wr m 27 0 0) ?_ Fr.rf ?_ (fr_thr m 0)
    · simp only [f_X10_ahead, told_v H.2.2.1 (by decide), cal_eq, ↓reduceIte]
    · simp only [f_X11_ahead, bnd_eq, show (wr m 27 0 0).1 27 24 = 0 from u.2.2.2.2.2.1, ↓reduceIte]
  · have h0 : ¬ nc = 0 := by have := T.2.1.1.1.1; omega
    have hn8 := H.2.2.2.2.2.1
    have n24 : ∀ q : Sg, q.1 27 24 = nI nc → ¬ q.1 27 24 = 0 := fun q hq => by rw [hq]; exact nI_ne0 (by omega) (by omega)
    rcases hund_cases a1 (n := 61) (by decide) with h | ⟨n, hn, h⟩
    · refine QQ_q R (r := -1000000) (m1 := m) (m2 := wr m 27 0 0) ?_ Fr.rf ?_ (fr_thr m 0)
      · simp only [f_X10_ahead, told_v H.2.2.1 hn8, cal_eq, if_neg h0, n10, ↓reduceIte]
        rcases h with h | ⟨h, h'⟩
        · rw [if_pos h]
        · rw [if_neg h, if_pos (Int32.lt_of_lt_of_le (show (60 : Int32) < nI 61 by decide) h')]
      · simp only [f_X11_ahead, bnd_eq, if_neg (n24 (wr m 27 0 0) H.1), show f_X11_isIn (wr m 27 0 0) a1.toInt64 0 60 = some (0, wr m 27 0 0) from isIn_no (k := 60) (by decide) h, cal_eq, ↓reduceIte]
    · subst h
      have i60 : ∀ q : Sg, f_X11_isIn q (nI n).toInt64 0 60 = some (1, q) := fun q => isIn_yes (k := 60) (by decide) hn
      have g1 : ¬ nI n < 0 := nI_pos (by omega)
      have g2 : ¬ (60 : Int32) < nI n := nI_nlt (a := 60) (b := n) (by omega) (by decide)
      rcases two_cases a2 with h2 | h2
      · refine QQ_q R (r := -1000000) (m1 := m) (m2 := wr m 27 0 0) ?_ Fr.rf ?_ (fr_thr m 0)
        · simp only [f_X10_ahead, told_v H.2.2.1 hn8, cal_eq, if_neg h0, n10, ↓reduceIte, if_neg g1, if_neg g2, two_no h2]
        · simp only [f_X11_ahead, bnd_eq, if_neg (n24 (wr m 27 0 0) H.1), i60, in1_no h2, cal_eq, n10, ↓reduceIte]
      · obtain ⟨V, hl, h4, hi, eh⟩ := Rel_LR R
        obtain ⟨mC, c1, c2, c3⟩ := goOn_v2 (n := n) hl h4 hi (T_WF T) (by omega)
        have frC := gS_scr c3
        have frT := frC.tr (fr_thr mC 0)
        obtain ⟨m3, d1, d2, d3, d4, d5⟩ := T_start R T hl h4 hi eh (m1 := wr mC 27 0 0) (fun p k hp => fr_ess frT hp)
        have H2 := HM_fr H frT
        obtain ⟨m4, x1, x2, x3, x4⟩ := mGo_v (n := n) d2 (by rw [d3, cpy6 (by decide)]) (by omega)
        rw [d4] at x2 x3
        have fr2 : Fr scr (wr mC 27 0 0) m4 := (tS_scr d5).tr (tS_scr x4)
        have t2 : f_X10_isOneOfTwo m a2 = some (1, m) := by rcases h2 with h | h <;> subst h <;> rfl
        have i2 : ∀ q : Sg, f_X11_isIn q a2.toInt64 0 1 = some (1, q) := by intro q; rcases h2 with h | h <;> subst h; exact in1_0; exact in1_1
        refine QQ_q R (r := if a2 = 0 then mC.1 6 98 else mC.1 6 99) (m1 := mC) (m2 := m4) ?_ frC ?_ ((fr_thr mC 0).tr fr2)
        · simp only [f_X10_ahead, told_v H.2.2.1 hn8, cal_eq, calv_eq, if_neg h0, n10, ↓reduceIte, if_neg g1, if_neg g2, t2, f_X5_holding, c1, f_X0_ruler, cell99]
          split <;> rfl
        · simp only [f_X11_ahead, bnd_eq, if_neg (n24 (wr mC 27 0 0) H2.1), i60, i2, cal_eq, calv_eq, n10, ↓reduceIte, d1, lpk_of x1]
          rw [x3, x2.1.2.2.2, c2]
          split <;> rfl
end
