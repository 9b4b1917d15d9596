/-! reign, late -/
section
variable {nl B B' : Nat} {ln : Nat → Nat} {V : Nat → (Nat → Int32) → Int32} {m m1 m2 m' C C' S : Sg} {j w u : Nat} {a a1 a2 a3 r s law x mo y tr fv : Int32} {f f' g g' lg lg' : Nat → Int32} {nc ne c e t M M' A nx n : Nat} {P : Int32 → Bool}
/-- the rows of months tried -/
def fm (f : Nat → Int32) (nc ne : Nat) : Nat → Nat → Int32
  | 0 => f
  | i + 1 => nmo (fm f nc ne i) nc ne
theorem WF_fm (hf : WF f nc ne B) : ∀ i, WF (fm f nc ne i) nc ne (B + i)
  | 0 => hf
  | i + 1 => WF_nmo (WF_fm hf i)
theorem StE_fm (hn : nc ≤ 8) (he : ne ≤ 4) : ∀ i, StE f (fm f nc ne i)
  | 0 => fun _ _ => rfl
  | i + 1 => fun k hk => by
    show nmo (fm f nc ne i) nc ne k = f k
    rw [StE_nmo hn he k hk, StE_fm hn he i k hk]
theorem stc3 (hc : c < 8) : stc (10 * c + 3) = true := by
  unfold stc
  rw [show (10 * c + 3) % 10 = 3 by omega, decide_eq_true (show 10 * c + 3 < 80 by omega)]
  rfl
theorem kd3_fm (hn : nc ≤ 8) (he : ne ≤ 4) (hc : c < 8) (i : Nat) : kd (fm f nc ne i) c 3 = kd f c 3 := StE_fm hn he i _ (stc3 hc)
def rgF (P : Int32 → Bool) (f : Nat → Int32) (nc ne : Nat) (i : Nat) (x : Int32) : Int32 := x + (if P (fm f nc ne (i + 1) 98) = true then 1 else 0)
def pNu (f : Nat → Int32) (a : Int32) (r : Int32) : Bool := !decide (r = -1) && decide (kd f r.toNatClampNeg 3 = a)
theorem ofN_m1 : f_X0_isOfNursery j m (-1) a = some (0, m) := by
  unfold f_X0_isOfNursery f_X0_hasChild
  rw [if_pos (show (-1 : Int32) < 0 by decide)]; rfl
theorem rch_v (hf : WF (va_cpy (m.1 4) (m.1 6) 0 0 100) nc ne B) (hn : n < 1000000) : f_X3_reignOfChild m a (nI n) = some (itr (rgF (fun r => decide (r = a)) (va_cpy (m.1 4) (m.1 6) 0 0 100) nc ne) 0 n, wrr m 6 (fm (va_cpy (m.1 4) (m.1 6) 0 0 100) nc ne n)) := by
  unfold f_X3_reignOfChild
  rw [become_v, calv_eq]
  generalize va_cpy (m.1 4) (m.1 6) 0 0 100 = f at *
  rw [show (wrr m 6 f, (0 : Int32), (0 : Int32)) = (fun i => (wrr m 6 (fm f nc ne i), itr (rgF (fun r => decide (r = a)) f nc ne) 0 i, nI i)) 0 from rfl, lpk_seq (S := fun i => (wrr m 6 (fm f nc ne i), itr (rgF (fun r => decide (r = a)) f nc ne) 0 i, nI i)) (x := (wrr m 6 (fm f nc ne n), itr (rgF (fun r => decide (r = a)) f nc ne) 0 n)) n ?_ ?_ hn]
  · intro i hi
    have hr := rnm_v (m := wrr m 6 (fm f nc ne i)) (nc := nc) (ne := ne) (B := B + i) (by rw [wrr_at]; exact WF_fm hf i)
    rw [wrr_at, wrr_wrr] at hr
    simp only [f_X3_reignOfChild_L16, if_neg (ix_lt hi (show n < 2 ^ 31 by omega)), hr, cal_eq, bnd_eq, nI_1, itr, rgF, decide_eq_true_eq]
    show (if nmo (fm f nc ne i) nc ne 98 = a then _ else _) = some (Sum.inr (wrr m 6 (nmo (fm f nc ne i) nc ne), itr (rgF (fun r => decide (r = a)) f nc ne) 0 i + (if nmo (fm f nc ne i) nc ne 98 = a then 1 else 0), nI (i + 1)))
    split <;> rfl
  · simp only [f_X3_reignOfChild_L16, if_pos (nI_le (Nat.le_refl n) (show n < 2 ^ 31 by omega))]
theorem rnu_v (hf : WF (va_cpy (m.1 4) (m.1 6) 0 0 100) nc ne B) (hn : n < 1000000) : f_X3_reignOfNursery m a (nI n) = some (itr (rgF (pNu (va_cpy (m.1 4) (m.1 6) 0 0 100) a) (va_cpy (m.1 4) (m.1 6) 0 0 100) nc ne) 0 n, wrr m 6 (fm (va_cpy (m.1 4) (m.1 6) 0 0 100) nc ne n)) := by
  unfold f_X3_reignOfNursery
  rw [become_v, calv_eq]
  generalize va_cpy (m.1 4) (m.1 6) 0 0 100 = f at *
  rw [show (wrr m 6 f, (0 : Int32), (0 : Int32)) = (fun i => (wrr m 6 (fm f nc ne i), itr (rgF (pNu f a) f nc ne) 0 i, nI i)) 0 from rfl, lpk_seq (S := fun i => (wrr m 6 (fm f nc ne i), itr (rgF (pNu f a) f nc ne) 0 i, nI i)) (x := (wrr m 6 (fm f nc ne n), itr (rgF (pNu f a) f nc ne) 0 n)) n ?_ ?_ hn]
  · intro i hi
    have hr := rnm_v (m := wrr m 6 (fm f nc ne i)) (nc := nc) (ne := ne) (B := B + i) (by rw [wrr_at]; exact WF_fm hf i)
    rw [wrr_at, wrr_wrr] at hr
    have wf1 := WF_fm hf (i + 1)
    have h3 : ∀ c, c < 8 → kd (fm f nc ne (i + 1)) c 3 = kd f c 3 := fun c hc => kd3_fm hf.1.2 hf.2.1 hc (i + 1)
    have e1 : nmo (fm f nc ne i) nc ne = fm f nc ne (i + 1) := rfl
    rw [e1] at hr
    simp only [f_X3_reignOfNursery_L16, if_neg (ix_lt hi (show n < 2 ^ 31 by omega)), hr, cal_eq, bnd_eq, nI_1, itr, rgF]
    rcases wf1.2.2.2.2.2.2.2.2.2.2 with h | ⟨c, hc, h⟩
    · rw [h, ofN_m1, cal_eq]; rfl
    · have hc8 : c < 8 := by have := hf.1.2; omega
      rw [h, ofN_v (j := 6) (nc := nc) (by rw [wrr_at]; exact wf1.2.2.1) hc hf.1.2, cal_eq, wrr_at, h3 c hc8]
      unfold pNu
      rw [nI_clamp (by omega)]
      by_cases q : kd f c 3 = a
      · simp [q, n1e (show c < 9 by omega)]
      · simp [q]
  · simp only [f_X3_reignOfNursery_L16, if_pos (nI_le (Nat.le_refl n) (show n < 2 ^ 31 by omega))]
theorem mrg_v (h : TS nl ln V nc ne B m f) (hn : n < 1000000) (hP0 : a3 = 0 → ∀ r, isI r nc → (P r = true ↔ ¬ r = -1 ∧ r = a1)) (hP1 : ¬ a3 = 0 → ∀ r, isI r nc → (P r = true ↔ ¬ r = -1 ∧ kd f r.toNatClampNeg 3 = a1)) : ∃ m', f_X11_reigns m a1 (nI n) a3 = some (itr (rgF P f nc ne) 0 n, m') ∧ Fr tS m m' := by
  suffices key : ∃ x : Sg × Int32, lpO (f_X11_reigns_L6 a1 (nI n) a3) fu (m, 0, 0) = some x ∧ (x.2 = itr (rgF P f nc ne) 0 n ∧ Fr tS m x.1) by
    obtain ⟨x, e1, e2, e3⟩ := key
    unfold f_X11_reigns
    rw [lpk_of e1]
    exact ⟨x.1, by rw [← e2], e3⟩
  refine lpO_inv (step := f_X11_reigns_L6 a1 (nI n) a3) (fun i s => ∃ q, s = (q, itr (rgF P f nc ne) 0 i, nI i) ∧ TS nl ln V nc ne (B + i) q (fm f nc ne i) ∧ Fr tS m q) (fun x => x.2 = itr (rgF P f nc ne) 0 n ∧ Fr tS m x.1) n (m, 0, 0) ⟨m, rfl, h, Fr.rf⟩ ?_ ?_ hn
  · rintro i s hi ⟨q, rfl, q1, q2⟩
    obtain ⟨q', d1, d2, d3, d4⟩ := TS_go q1
    have hn8 := h.2.2.1.1.2
    have e61 : q'.1 39 61 = fm f nc ne (i + 1) 98 := d2.1.2.2.2
    have hI := d2.2.2.1.2.2.2.2.2.2.2.2.2.2
    refine ⟨(q', itr (rgF P f nc ne) 0 (i + 1), nI (i + 1)), ?_, q', rfl, d2, q2.tr d4⟩
    simp only [f_X11_reigns_L6, if_neg (ix_lt hi (show n < 2 ^ 31 by omega)), d1, calv_eq, bnd_eq, nI_1, e61, itr, rgF]
    change isI (fm f nc ne (i + 1) 98) nc at hI
    have sv := d2.2.1
    have h3 : ∀ c, c < 8 → kd (nmo (fm f nc ne i) nc ne) c 3 = kd f c 3 := fun c hc => kd3_fm hn8 h.2.2.1.2.1 hc (i + 1)
    generalize fm f nc ne (i + 1) 98 = r at *
    by_cases z : a3 = 0
    · have hp := hP0 z r hI
      by_cases q1 : r = -1
      · rw [if_pos q1, if_neg (fun t => (hp.mp t).1 q1)]
      · rw [if_neg q1, if_pos z]
        by_cases q2 : r = a1
        · rw [if_pos q2, if_pos (hp.mpr ⟨q1, q2⟩)]
        · rw [if_neg q2, if_neg (fun t => q2 (hp.mp t).2)]
    · have hp := hP1 z r hI
      rcases hI with h | ⟨c, hc, h⟩
      · rw [if_pos h, if_neg (fun t => (hp.mp t).1 h)]
      · have hc8 : c < 8 := by omega
        have c1 : ¬ nI c = -1 := n1e (by omega)
        subst h
        rw [nI_clamp (by omega)] at hp
        rw [if_neg c1, if_neg z, i6_3 hc8, if_pos rfl, t6_3 hc8, (sv.1 c hc).1, h3 c hc8]
        by_cases q2 : kd f c 3 = a1
        · rw [if_pos q2, if_pos (hp.mpr ⟨c1, q2⟩)]
        · rw [if_neg q2, if_neg (fun t => q2 (hp.mp t).2)]
  · rintro s ⟨q, rfl, q1, q2⟩
    refine ⟨(q, itr (rgF P f nc ne) 0 n), ?_, rfl, q2⟩
    simp only [f_X11_reigns_L6, if_pos (nI_le (Nat.le_refl n) (show n < 2 ^ 31 by omega))]
theorem fr6 {g : Nat → Int32} : Fr gS m (wrr m 6 g) := Fr.w2 (fun _ => rfl)
theorem q_reign (R : Rel nl ln B m) : QQ nl ln B (f_X10_reign m a1 a2 a3) (fun m1 => f_X11_reign m1 a1 a2 a3) := by
  have sg : a2 < 1 ∨ (¬ a2 < 1 ∧ ¬ a2 ≤ 60) ∨ ∃ n, 1 ≤ n ∧ n ≤ 60 ∧ a2 = nI n := sixty_cases a2
  have in60 : ∀ q : Sg, (a2 < 1 ∨ (¬ a2 < 1 ∧ ¬ a2 ≤ 60)) → f_X11_isIn q a2.toInt64 1 60 = some (0, q) := fun q h => in60_no (b := 60) (by decide) h
  rcases Rel_cases R with ⟨u, H⟩ | ⟨nc, ne, M, A, nx, T, H, hM, L, P⟩
  · refine QQ_q R (r := -1) (m1 := m) (m2 := wr m 27 0 0) ?_ Fr.rf ?_ (fr_thr m 0)
    · simp only [f_X10_reign, told_v H.2.2.1 (by decide), cal_eq, ↓reduceIte]
    · have H' := HM_fr H (fr_thr m 0)
      rcases two_cases a3 with h3 | h3
      · simp only [f_X11_reign, bnd_eq, in1_no h3, cal_eq, ↓reduceIte]
      · have i3 : ∀ q : Sg, f_X11_isIn q a3.toInt64 0 1 = some (1, q) := by intro q; rcases h3 with h | h <;> subst h; exact in1_0; exact in1_1
        rcases sg with h | h | ⟨n, n1, n2, h⟩
        · simp only [f_X11_reign, bnd_eq, i3, in60 _ (Or.inl h), cal_eq, n10, ↓reduceIte]
        · simp only [f_X11_reign, bnd_eq, i3, in60 _ (Or.inr h), cal_eq, n10, ↓reduceIte]
        · subst h
          have hno : f_X11_isChild (wr m 27 0 0) a1 = some (0, wr m 27 0 0) := by
            rcases ch_cases a1 (show 0 ≤ 8 by decide) with h | ⟨c, hc, _⟩
            · exact iC_no H'.1 h
            · exact absurd hc (by omega)
          simp only [f_X11_reign, bnd_eq, i3, show f_X11_isIn (wr m 27 0 0) (nI n).toInt64 1 60 = some (1, wr m 27 0 0) from in60_yes (k := 60) (by decide) n1 n2, cal_eq, n10, ↓reduceIte, hno, mN_un H'.1]
          split <;> rfl
  · have h0 : ¬ nc = 0 := by have := T.2.1.1.1.1; omega
    have hn8 := H.2.2.2.2.2.1
    have H' := HM_fr H (fr_thr m 0)
    have tl : f_X0_isTold 4 m = some (1, m) := by rw [told_v H.2.2.1 hn8, if_neg h0]
    have bad : ∀ (z : a2 < 1 ∨ (¬ a2 < 1 ∧ ¬ a2 ≤ 60)), QQ nl ln B (f_X10_reign m a1 a2 a3) (fun m1 => f_X11_reign m1 a1 a2 a3) := by
      intro z
      refine QQ_q R (r := -1) (m1 := m) (m2 := wr m 27 0 0) ?_ Fr.rf ?_ (fr_thr m 0)
      · simp only [f_X10_reign, tl, cal_eq, n10, ↓reduceIte]
        rcases z with z | ⟨z, z'⟩
        · rw [if_pos z]
        · rw [if_neg z, if_pos (Int32.not_le.mp z')]
      · rcases two_cases a3 with h3 | h3
        · simp only [f_X11_reign, bnd_eq, in1_no h3, cal_eq, ↓reduceIte]
        · have i3 : ∀ q : Sg, f_X11_isIn q a3.toInt64 0 1 = some (1, q) := by intro q; rcases h3 with h | h <;> subst h; exact in1_0; exact in1_1
          simp only [f_X11_reign, bnd_eq, i3, in60 _ z, cal_eq, n10, ↓reduceIte]
    rcases sg with h | h | ⟨n, n1, n2, h⟩
    · exact bad (Or.inl h)
    · exact bad (Or.inr h)
    · subst h
      have g1 : ¬ nI n < 1 := nI_nlt (b := 1) n1 (by omega)
      have g2 : ¬ (60 : Int32) < nI n := nI_nlt (a := 60) (b := n) n2 (by decide)
      have i60 : ∀ q : Sg, f_X11_isIn q (nI n).toInt64 1 60 = some (1, q) := fun q => in60_yes (k := 60) (by decide) n1 n2
      rcases two_cases a3 with h3 | h3
      · refine QQ_q R (r := -1) (m1 := m) (m2 := wr m 27 0 0) ?_ Fr.rf ?_ (fr_thr m 0)
        · simp only [f_X10_reign, tl, cal_eq, n10, ↓reduceIte, if_neg g1, if_neg g2, two_no h3]
        · simp only [f_X11_reign, bnd_eq, in1_no h3, cal_eq, ↓reduceIte]
      · obtain ⟨V, hl, h4, hi, eh⟩ := Rel_LR R
        have i3 : ∀ q : Sg, f_X11_isIn q a3.toInt64 0 1 = some (1, q) := by intro q; rcases h3 with h | h <;> subst h; exact in1_0; exact in1_1
        have t3 : f_X10_isOneOfTwo m a3 = some (1, m) := by rcases h3 with h | h <;> subst h <;> rfl
        have wf := T_WF T
        have frT : ∀ g, Fr scr m (wr (wrr m 6 g) 27 0 0) := fun g => (gS_scr fr6).tr (fr_thr _ 0)
        rcases h3 with z | z
        · subst z
          rcases ch_cases a1 hn8 with h | ⟨c, hc, h⟩
          · refine QQ_q R (r := -1) (m1 := m) (m2 := wr m 27 0 0) ?_ Fr.rf ?_ (fr_thr m 0)
            · simp only [f_X10_reign, tl, cal_eq, n10, ↓reduceIte, if_neg g1, if_neg g2, t3, hC_no H.2.2.1 h]
            · simp only [f_X11_reign, bnd_eq, i3, i60, iC_no H'.1 h, cal_eq, n10, ↓reduceIte]
          · subst h
            let mC := wrr m 6 (fm (va_cpy (m.1 4) (m.1 6) 0 0 100) nc ne n)
            obtain ⟨m3, d1, d2, d3, d4, d5⟩ := T_start R T hl h4 hi eh (m1 := wr mC 27 0 0) (fun p k hp => fr_ess (frT _) hp)
            have H2 := HM_fr H (frT (fm (va_cpy (m.1 4) (m.1 6) 0 0 100) nc ne n))
            obtain ⟨m4, x1, x2⟩ := mrg_v (n := n) (a1 := nI c) (a3 := 0) (P := fun r => decide (r = nI c)) d2 (by omega) (fun _ r _ => by
              constructor
              · intro q
                have q := of_decide_eq_true q
                exact ⟨by rw [q]; exact n1e (by omega), q⟩
              · intro q; exact decide_eq_true q.2) (fun q => absurd rfl q)
            refine QQ_q R (r := itr (rgF (fun r => decide (r = nI c)) (va_cpy (m.1 4) (m.1 6) 0 0 100) nc ne) 0 n) (m1 := mC) (m2 := m4) ?_ (gS_scr fr6) ?_ ((fr_thr mC 0).tr ((tS_scr d5).tr (tS_scr x2)))
            · simp only [f_X10_reign, tl, cal_eq, n10, ↓reduceIte, if_neg g1, if_neg g2, t3, hC_yes H.2.2.1 hc hn8, rch_v wf (show n < 1000000 by omega)]
              rfl
            · simp only [f_X11_reign, bnd_eq, i3, i60, iC_yes (show (wr mC 27 0 0).1 27 24 = nI nc from H2.1) hc hn8, cal_eq, calv_eq, n10, ↓reduceIte, d1, x1]
        · subst z
          rcases hund_cases a1 (n := 5) (by decide) with h | ⟨c, hc, h⟩
          · refine QQ_q R (r := -1) (m1 := m) (m2 := wr m 27 0 0) ?_ Fr.rf ?_ (fr_thr m 0)
            · simp only [f_X10_reign, tl, cal_eq, n10, ↓reduceIte, if_neg g1, if_neg g2, t3, iN_no h]
            · simp only [f_X11_reign, bnd_eq, i3, i60, mN_no h, cal_eq, n10, ↓reduceIte]
          · subst h
            let mC := wrr m 6 (fm (va_cpy (m.1 4) (m.1 6) 0 0 100) nc ne n)
            obtain ⟨m3, d1, d2, d3, d4, d5⟩ := T_start R T hl h4 hi eh (m1 := wr mC 27 0 0) (fun p k hp => fr_ess (frT _) hp)
            have H2 := HM_fr H (frT (fm (va_cpy (m.1 4) (m.1 6) 0 0 100) nc ne n))
            obtain ⟨m4, x1, x2⟩ := mrg_v (n := n) (a1 := nI c) (a3 := 1) (P := pNu (va_cpy (m.1 4) (m.1 6) 0 0 100) (nI c)) d2 (by omega) (fun q => absurd q n10) (fun _ r _ => by
              unfold pNu
              simp)
            refine QQ_q R (r := itr (rgF (pNu (va_cpy (m.1 4) (m.1 6) 0 0 100) (nI c)) (va_cpy (m.1 4) (m.1 6) 0 0 100) nc ne) 0 n) (m1 := mC) (m2 := m4) ?_ (gS_scr fr6) ?_ ((fr_thr mC 0).tr ((tS_scr d5).tr (tS_scr x2)))
            · simp only [f_X10_reign, tl, cal_eq, n10, ↓reduceIte, if_neg g1, if_neg g2, t3, iN_yes hc, rnu_v wf (show n < 1000000 by omega)]
              rfl
            · simp only [f_X11_reign, bnd_eq, i3, i60, mN_yes (show (wr mC 27 0 0).1 27 24 = nI nc from H2.1) (by omega) hn8 hc, cal_eq, calv_eq, n10, ↓reduceIte, d1, x1]
end
