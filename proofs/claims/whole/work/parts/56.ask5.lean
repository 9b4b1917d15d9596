/-! calls that ask: peace, chain, count -/
section
variable {nl B : Nat} {ln : Nat → Nat} {m m1 m2 : Sg} {j : Nat} {a a1 a2 r : Int32} {f : Nat → Int32} {nc ne c e : Nat}
/-- plums that child c costs before elder e -/
def plm (f : Nat → Int32) (e c : Nat) : Int32 := if nI c = f 98 then 0 else f 94 * bcV (wnt f c e)
def mayR (f : Nat → Int32) (c : Nat) : Bool := (decide (f 98 = -1) || decide (f 98 = nI c) || !decide (kd f (f 98).toNatClampNeg 0 ≤ kd f c 0)) && !decide (f 92 ≤ kd f c 0)
theorem mayRule_v (hr : isI (m.1 4 98) 8) (hc : c < 8) : f_X8_mayRule m (nI c) = some (if mayR (m.1 4) c then 1 else 0, m) := by
  unfold f_X8_mayRule
  simp only [f_X0_ruler, cal_eq, bnd_eq, isBelow_v hc]
  rcases hr with h | ⟨d, hd, h⟩
  · by_cases q : m.1 4 92 ≤ kd (m.1 4) c 0
    · have may : mayR (m.1 4) c = false := by simp [mayR, q]
      simp only [h, ↓reduceIte, n10, if_pos q, may, Bool.false_eq_true]
    · have may : mayR (m.1 4) c = true := by simp [mayR, q, h]
      simp only [h, ↓reduceIte, n10, if_neg q, may]
  · have ny := isYounger_v (j := 4) (m := m) hc hd
    by_cases q1 : nI d = nI c
    · by_cases q : m.1 4 92 ≤ kd (m.1 4) c 0
      · have may : mayR (m.1 4) c = false := by simp [mayR, q]
        simp only [h, n1e (show d < 9 by omega), q1, ↓reduceIte, n10, if_pos q, may, Bool.false_eq_true]
        simp
      · have may : mayR (m.1 4) c = true := by simp [mayR, q, h, q1]
        simp only [h, n1e (show d < 9 by omega), q1, ↓reduceIte, n10, if_neg q, may]
        simp
    · by_cases q2 : kd (m.1 4) d 0 ≤ kd (m.1 4) c 0
      · have may : mayR (m.1 4) c = false := by simp [mayR, h, q1, q2, n1e (show d < 9 by omega), nI_clamp (show d < 2 ^ 31 by omega)]
        simp only [h, n1e (show d < 9 by omega), q1, ↓reduceIte, ny, cal_eq, if_pos q2, may, Bool.false_eq_true]
      · by_cases q : m.1 4 92 ≤ kd (m.1 4) c 0
        · have may : mayR (m.1 4) c = false := by simp [mayR, q]
          simp only [h, n1e (show d < 9 by omega), q1, ↓reduceIte, ny, cal_eq, if_neg q2, n10, if_pos q, may, Bool.false_eq_true]
        · have may : mayR (m.1 4) c = true := by simp [mayR, q, h, q2, nI_clamp (show d < 2 ^ 31 by omega)]
          simp only [h, n1e (show d < 9 by omega), q1, ↓reduceIte, ny, cal_eq, if_neg q2, n10, if_neg q, may]
theorem plumsRule_v (hc : c < 8) (he : e < 4) : f_X0_plumsToRule 4 m (nI c) (nI e) = some (plm (m.1 4) e c, m) := by
  unfold f_X0_plumsToRule plm
  split
  · rfl
  · simp only [f_X0_plumsToStand, wants_v hc he, bc_v, cal_eq]
def pcF (f : Nat → Int32) (w : Int32) (e c : Nat) (x : Int32) : Int32 := if kd f c 3 = w then (if mayR f c then (if x = -1 then nI c else if plm f e x.toNatClampNeg ≤ plm f e c then x else nI c) else x) else x
theorem pcF_or {w : Int32} (i : Nat) (x : Int32) : pcF f w e i x = x ∨ pcF f w e i x = nI i := by
  unfold pcF
  split
  · split
    · split
      · exact Or.inr rfl
      · split
        · exact Or.inl rfl
        · exact Or.inr rfl
    · exact Or.inl rfl
  · exact Or.inl rfl
theorem cheapest_v {w : Int32} (hC : m.1 4 95 = nI nc) (hn : nc ≤ 8) (he : e < 4) (hr : isI (m.1 4 98) 8) : f_X8_cheapest m w (nI e) = some (itr (pcF (m.1 4) w e) (-1) nc, m) := by
  unfold f_X8_cheapest
  rw [show (m, (-1 : Int32), (0 : Int32)) = (fun i => (m, itr (pcF (m.1 4) w e) (-1) i, nI i)) 0 from rfl, lpk_seq (S := fun i => (m, itr (pcF (m.1 4) w e) (-1) i, nI i)) (x := (m, itr (pcF (m.1 4) w e) (-1) nc)) nc ?_ ?_ (by omega)]
  · intro i hi
    have hi8 : i < 8 := by omega
    simp only [f_X8_cheapest_L5, f_X0_children, hC, cal_eq, if_neg (ix_lt hi (show nc < 2 ^ 31 by omega)), ofN_v hC hi hn, mayRule_v hr hi8, plumsRule_v hi8 he, bnd_eq, nI_1, itr]
    generalize hx : itr (pcF (m.1 4) w e) (-1) i = x
    have hI : isI x i := hx ▸ itr_isI pcF_or i
    unfold pcF
    by_cases q1 : kd (m.1 4) i 3 = w
    · simp only [if_pos q1, n10, ↓reduceIte]
      by_cases q2 : mayR (m.1 4) i
      · simp only [if_pos q2, n10, ↓reduceIte]
        rcases hI with h | ⟨d, hd, h⟩
        · simp only [if_pos h]
        · subst h
          have hd8 : d < 8 := by omega
          simp only [n1e (show d < 9 by omega), ↓reduceIte, plumsRule_v hd8 he, cal_eq, nI_clamp (show d < 2 ^ 31 by omega)]
          split <;> rfl
      · simp only [if_neg q2, ↓reduceIte]
    · simp only [if_neg q1, ↓reduceIte]
  · simp only [f_X8_cheapest_L5, f_X0_children, hC, cal_eq, if_pos (nI_le (Nat.le_refl nc) (show nc < 2 ^ 31 by omega))]
def lst (f : Nat → Int32) (e : Nat) (x : Int32) : Int32 := if x = -1 then 0 else plm f e x.toNatClampNeg
theorem mPlums_v (h1 : CV (m.1 38) f) (h2 : SV m f nc ne) (h3 : WF f nc ne B) (hc : c < nc) (he : e < ne) : f_X11_plumsOf m (nI c) (nI e) = some (f 94 * bcV (wnt f c e), m) := by
  simp only [f_X11_plumsOf, mSlips_v h1 h2 h3 hc he, bc_v, cal_eq, h2.2.2.2.2.1]
theorem mPeace_v {w : Int32} (h1 : CV (m.1 38) f) (h2 : SV m f nc ne) (h3 : WF f nc ne B) (he : e < ne) {K : (Sg × Int32 × Int32) → Option (Int32 × Sg)} : lpk (f_X11_peace_L69 w (nI e) (f 98)) (m, (-1), 0, 0) K = K (m, itr (pcF f w e) (-1) nc, lst f e (itr (pcF f w e) (-1) nc)) := by
  have hC := h2.2.2.2.2.2.1
  have hn := h3.1.2
  rw [show (m, (-1 : Int32), (0 : Int32), (0 : Int32)) = (fun i => (m, itr (pcF f w e) (-1) i, lst f e (itr (pcF f w e) (-1) i), nI i)) 0 from rfl, lpk_seq (S := fun i => (m, itr (pcF f w e) (-1) i, lst f e (itr (pcF f w e) (-1) i), nI i)) (x := (m, itr (pcF f w e) (-1) nc, lst f e (itr (pcF f w e) (-1) nc))) nc ?_ ?_ (by omega)]
  · intro i hi
    have hi8 : i < 8 := by omega
    simp only [f_X11_peace_L69, hC, if_neg (ix_lt hi (show nc < 2 ^ 31 by omega)), i6_3 hi8, t6_3 hi8, i7_0 hi8, t7_0 hi8, ↓reduceIte, (h2.1 i hi).1, (h1.1 i hi8).1, h2.2.2.1, mPlums_v h1 h2 h3 hi he, cal_eq, bnd_eq, nI_1, itr]
    generalize hx : itr (pcF f w e) (-1) i = x
    have hI : isI x i := hx ▸ itr_isI pcF_or i
    have hr := h3.2.2.2.2.2.2.2.2.2.2
    unfold pcF
    by_cases q1 : kd f i 3 = w
    · simp only [if_pos q1]
      by_cases q2 : f 92 ≤ kd f i 0
      · have : mayR f i = false := by simp [mayR, q2]
        simp only [if_neg (Int32.not_lt.mpr q2), this, Bool.false_eq_true, ↓reduceIte]
      · have q2' : kd f i 0 < f 92 := Int32.not_le.mp q2
        simp only [if_pos q2']
        have fin : ∀ v : Int32, v = plm f e i → (if x = -1 then (some (Sum.inr (m, nI i, v, nI (i + 1))) : Option ((Sg × Int32 × Int32) ⊕ (Sg × Int32 × Int32 × Int32))) else if v < lst f e x then some (Sum.inr (m, nI i, v, nI (i + 1))) else some (Sum.inr (m, x, lst f e x, nI (i + 1)))) = some (Sum.inr (m, (if x = -1 then nI i else if plm f e x.toNatClampNeg ≤ plm f e i then x else nI i), lst f e (if x = -1 then nI i else if plm f e x.toNatClampNeg ≤ plm f e i then x else nI i), nI (i + 1))) := by
          intro v hv
          have li : lst f e (nI i) = plm f e i := by unfold lst; rw [if_neg (n1e (by omega)), nI_clamp (by omega)]
          rcases hI with h | ⟨d, hd, h⟩
          · simp only [if_pos h, li, hv]
          · subst h
            have ld : lst f e (nI d) = plm f e d := by unfold lst; rw [if_neg (n1e (by omega)), nI_clamp (by omega)]
            simp only [n1e (show d < 9 by omega), ↓reduceIte, nI_clamp (show d < 2 ^ 31 by omega), ld, hv]
            by_cases z : plm f e d ≤ plm f e i
            · rw [if_neg (Int32.not_lt.mpr z), if_pos z, ld]
            · rw [if_pos (Int32.not_le.mp z), if_neg z, li]
        rcases hr with h | ⟨d, hd, h⟩
        · have may : mayR f i = true := by simp [mayR, q2, h]
          have pl : plm f e i = f 94 * bcV (wnt f i e) := by unfold plm; rw [h, if_neg (n1e (by omega))]
          simp only [may, ↓reduceIte, h, if_neg (fun q => n1e (show i < 9 by omega) (Eq.symm q))]
          exact fin _ pl.symm
        · have hd8 : d < 8 := by omega
          rw [h]
          simp only [n1e (show d < 9 by omega), ↓reduceIte, i7_0 hd8, t7_0 hd8, (h1.1 d hd8).1]
          by_cases q3 : nI d = nI i
          · have may : mayR f i = true := by simp [mayR, q2, h, q3]
            have pl : plm f e i = 0 := by unfold plm; rw [h, if_pos q3.symm]
            simp only [if_pos q3, may, ↓reduceIte]
            exact fin _ pl.symm
          · have pl : plm f e i = f 94 * bcV (wnt f i e) := by unfold plm; rw [h, if_neg (fun q => q3 q.symm)]
            simp only [if_neg q3]
            by_cases q4 : kd f i 0 < kd f d 0
            · have may : mayR f i = true := by simp [mayR, q2, h, nI_clamp (show d < 2 ^ 31 by omega), Int32.not_le.mpr q4]
              simp only [if_pos q4, may, ↓reduceIte]
              exact fin _ pl.symm
            · have may : mayR f i = false := by simp [mayR, h, nI_clamp (show d < 2 ^ 31 by omega), Int32.not_lt.mp q4, q3, n1e (show d < 9 by omega)]
              simp only [if_neg q4, may, Bool.false_eq_true, ↓reduceIte]
    · simp only [if_neg q1]
  · simp only [f_X11_peace_L69, hC, if_pos (nI_le (Nat.le_refl nc) (show nc < 2 ^ 31 by omega))]
theorem two_cases (a : Int32) : (a < 0 ∨ ¬ a < 0 ∧ nI 2 ≤ a) ∨ a = 0 ∨ a = 1 := by
  rcases ch_cases a (n := 2) (by decide) with h | ⟨w, hw, h⟩
  · exact Or.inl h
  · rcases (show w = 0 ∨ w = 1 by omega) with z | z
    · subst z; exact Or.inr (Or.inl h)
    · subst z; exact Or.inr (Or.inr h)
theorem two_no (h : a < 0 ∨ ¬ a < 0 ∧ nI 2 ≤ a) : f_X10_isOneOfTwo m a = some (0, m) := by
  unfold f_X10_isOneOfTwo
  simp only [bnd_eq]
  rw [if_neg, if_neg]
  · intro q; subst q
    rcases h with h | ⟨_, h⟩
    · exact absurd h (by decide)
    · exact absurd h (by decide)
  · intro q; subst q
    rcases h with h | ⟨_, h⟩
    · exact absurd h (by decide)
    · exact absurd h (by decide)
theorem two_0 : f_X10_isOneOfTwo m 0 = some (1, m) := rfl
theorem two_1 : f_X10_isOneOfTwo m 1 = some (1, m) := rfl
theorem in1_0 : f_X11_isIn m (Int32.toInt64 0) 0 1 = some (1, m) := in1_yes (w := 0) (by decide)
theorem in1_1 : f_X11_isIn m (Int32.toInt64 1) 0 1 = some (1, m) := in1_yes (w := 1) (by decide)
theorem q_peace (R : Rel nl ln B m) : QQ nl ln B (f_X10_peace m a1 a2) (fun m1 => f_X11_peace m1 a1 a2) := by
  refine q_tr (F1 := fun _ _ => none) R (fun nc ne H h => ⟨wr m 27 0 0, ?_, ?_, fr_thr m 0⟩) (fun nc ne e H he hc h he4 => ?_)
  · simp only [f_X10_peace, trier_v H.2.2.2.1 H.2.2.2.2.1, cal_eq, bnd_eq, h, ↓reduceIte]
  · have H' := HM_fr H (fr_thr m 0)
    by_cases hz : nc = 0
    · simp only [f_X11_peace, bnd_eq, (n24 H'.1 H'.2.2.2.2.2.1).mpr hz, ↓reduceIte]
    · obtain ⟨h1, h2, h3⟩ := H'.2.2.2.2.2.2.2 (by omega)
      simp only [f_X11_peace, bnd_eq, if_neg (fun q => hz ((n24 H'.1 H'.2.2.2.2.2.1).mp q)), mExam_v h1 h2 h3, cal_eq, h, ↓reduceIte]
  · have H' := HM_fr H (fr_thr m 0)
    have hn8 := H.2.2.2.2.2.1
    obtain ⟨h1, h2, h3⟩ := H'.2.2.2.2.2.2.2 hc
    have hr : isI (m.1 4 98) 8 := isI_mono h3.2.2.2.2.2.2.2.2.2.2 hn8
    have hz : ¬ (wr m 27 0 0).1 27 24 = 0 := fun q => by have := (n24 H'.1 H'.2.2.2.2.2.1).mp q; omega
    rcases ch_cases a1 (show 5 ≤ 8 by decide) with q | ⟨w, hw, q⟩
    · refine QQ_q R (r := -1) (m1 := m) (m2 := wr m 27 0 0) ?_ Fr.rf ?_ (fr_thr m 0)
      · simp only [f_X10_peace, trier_v H.2.2.2.1 H.2.2.2.2.1, cal_eq, bnd_eq, h, n1e (show e < 9 by omega), ↓reduceIte, iN_no q]
      · simp only [f_X11_peace, bnd_eq, if_neg hz, mExam_v h1 h2 h3, cal_eq, h, n1e (show e < 9 by omega), ↓reduceIte, mN_no q]
    · subst q
      rcases two_cases a2 with q | q
      · refine QQ_q R (r := -1) (m1 := m) (m2 := wr m 27 0 0) ?_ Fr.rf ?_ (fr_thr m 0)
        · simp only [f_X10_peace, trier_v H.2.2.2.1 H.2.2.2.2.1, cal_eq, bnd_eq, h, n1e (show e < 9 by omega), ↓reduceIte, iN_yes hw, n10, two_no q]
        · simp only [f_X11_peace, bnd_eq, if_neg hz, mExam_v h1 h2 h3, cal_eq, h, n1e (show e < 9 by omega), ↓reduceIte, mN_yes H'.1 hc hn8 hw, n10, in1_no q]
      · have e98 : (wr m 27 0 0).1 38 61 = m.1 4 98 := h1.2.2.2
        generalize hx : itr (pcF (m.1 4) (nI w) e) (-1) nc = x
        have hI : isI x nc := hx ▸ itr_isI pcF_or nc
        refine QQ_q R (r := if x = -1 then -1 else if a2 = 0 then lst (m.1 4) e x else x) (m1 := m) (m2 := wr m 27 0 0) ?_ Fr.rf ?_ (fr_thr m 0)
        · have t : f_X10_isOneOfTwo m a2 = some (1, m) := by rcases q with q | q <;> subst q <;> rfl
          simp only [f_X10_peace, trier_v H.2.2.2.1 H.2.2.2.2.1, cal_eq, bnd_eq, h, n1e (show e < 9 by omega), ↓reduceIte, iN_yes hw, n10, t, cheapest_v H.2.2.1 hn8 he4 hr, hx]
          rcases hI with z | ⟨d, hd, z⟩
          · subst z; simp only [↓reduceIte]
          · subst z
            have ld : lst (m.1 4) e (nI d) = plm (m.1 4) e d := by unfold lst; rw [if_neg (n1e (by omega)), nI_clamp (by omega)]
            simp only [n1e (show d < 9 by omega), ↓reduceIte, plumsRule_v (show d < 8 by omega) he4, cal_eq, ld]
            rcases q with q | q
            · subst q; rfl
            · subst q; rfl
        · have t : ∀ m', f_X11_isIn m' a2.toInt64 0 1 = some (1, m') := by intro m'; rcases q with q | q <;> subst q; exact in1_0; exact in1_1
          simp only [f_X11_peace, bnd_eq, if_neg hz, mExam_v h1 h2 h3, cal_eq, h, n1e (show e < 9 by omega), ↓reduceIte, mN_yes H'.1 hc hn8 hw, n10, t, e98, mPeace_v h1 h2 h3 he, hx]
          split
          · rfl
          · split <;> rfl
theorem mn60 {M : Nat} (h : M ≤ 40000) : nI (mn M 60) = if 60 < nI M then 60 else nI M := by
  unfold mn
  by_cases q : M ≤ 60
  · rw [if_pos q, if_neg (show ¬ (60 : Int32) < nI M from nI_nlt (b := M) (a := 60) q (by decide))]
  · rw [if_neg q, if_pos (show (60 : Int32) < nI M from nI_lt (a := 60) (b := M) (by omega) (by omega))]; rfl
theorem logLen_v : f_X7_logLength m = some (if 60 < m.1 4 97 then 60 else m.1 4 97, m) := by
  simp only [f_X7_logLength, cell97, cal_eq]
theorem q_count (hB : B ≤ 40000) (R : Rel nl ln B m) : QQ nl ln B (f_X10_count m a1) (fun m1 => f_X11_count m1 a1) := by
  have hR := R.2.2.2.2
  obtain ⟨nc, ne, H⟩ := Rel_HM R
  have hn8 := H.2.2.2.2.2.1
  have H' := HM_fr H (fr_thr m 0)
  have e97 : (wr m 27 0 0).1 38 60 = m.1 4 97 := by
    rcases hR with u | ⟨c, e, t⟩
    · rw [u.2.2.1]; exact u.2.2.2.2.2.2.2.1
    · exact t.2.1.2.1.2.2.1
  have e99 : (wr m 27 0 0).1 38 62 = m.1 4 99 := by
    rcases hR with u | ⟨c, e, t⟩
    · rw [u.2.2.2.2.1]; exact u.2.2.2.2.2.2.2.2.1
    · exact t.2.1.2.2.2.1
  have el : (wr m 27 0 0).1 38 63 = if 60 < m.1 4 97 then 60 else m.1 4 97 := by
    rcases hR with u | ⟨c, e, t⟩
    · rw [u.2.2.1]; exact u.2.2.2.2.2.2.2.2.2.1
    · obtain ⟨M, M1, M2, _⟩ := t.2.2
      rw [M2.1, ← mn60 (by omega)]; exact M2.2.1
  have ea : (wr m 27 0 0).1 27 39 = m.1 16 5 := by
    rcases hR with u | ⟨c, e, t⟩
    · rw [u.2.2.2.2.2.2.2.2.2.2.1]; exact u.2.2.2.2.2.2.2.2.2.2.2.1
    · obtain ⟨M, M1, M2, A, nx, p⟩ := t.2.2
      rw [p.2.2.1]; exact p.2.2.2.1
  have eL : (wr m 27 0 0).1 27 6 = m.1 1 1 := by
    obtain ⟨L, l⟩ := R.1
    rw [l.2.1]; exact l.2.2.1
  have eN : (wr m 27 0 0).1 27 7 = m.1 13 2 := by
    obtain ⟨V, v⟩ := R.2.1
    rw [v.1]; exact v.2.1
  have eh : (wr m 27 0 0).1 27 31 = m.1 13 3 := by
    obtain ⟨V, v⟩ := R.2.1
    exact v.2.2.2.2.1
  have ef : (wr m 27 0 0).1 27 32 = m.1 0 9 := R.2.2.1
  have er : (if (wr m 27 0 0).1 27 24 = 0 then (-1 : Int32) else (wr m 27 0 0).1 38 61) = m.1 4 98 := by
    rcases hR with u | ⟨c, e, t⟩
    · rw [if_pos (show (wr m 27 0 0).1 27 24 = 0 from u.2.2.2.2.2.1), u.2.2.2.1]
    · have hc := t.2.1.1.1
      rw [if_neg (fun q => by have := (n24 (m := wr m 27 0 0) (nc := c) t.1.2.2.2.2.2.1 hc.2).mp q; omega)]
      exact t.2.1.2.1.2.2.2
  suffices ∃ r, f_X10_count m a1 = some (r, m) ∧ f_X11_count m a1 = some (r, wr m 27 0 0) by
    obtain ⟨r, x1, x2⟩ := this
    exact QQ_q R x1 Fr.rf x2 (fr_thr m 0)
  unfold f_X10_count f_X11_count
  simp only [bnd_eq, e97, e99, el, ea, eL, eN, eh, ef, H'.1, H'.2.1, f_X0_children, f_X0_elders, f_X5_size, f_X9_size, f_X5_holding, cell97, cell99, f_X0_ruler, f_X7_acts, logLen_v, cal_eq, H.2.2.1, H.2.2.2.1]
  by_cases h0 : a1 = 0
  · simp only [if_pos h0]; exact ⟨_, rfl, rfl⟩
  simp only [if_neg h0]
  by_cases h1 : a1 = 1
  · simp only [if_pos h1]; exact ⟨_, rfl, rfl⟩
  simp only [if_neg h1]
  by_cases h2 : a1 = 2
  · simp only [if_pos h2]; exact ⟨_, rfl, rfl⟩
  simp only [if_neg h2]
  by_cases h3 : a1 = 3
  · simp only [if_pos h3]; exact ⟨_, rfl, rfl⟩
  simp only [if_neg h3]
  by_cases h4 : a1 = 4
  · simp only [if_pos h4]; exact ⟨_, rfl, rfl⟩
  simp only [if_neg h4]
  by_cases h5 : a1 = 5
  · simp only [if_pos h5]; exact ⟨_, rfl, rfl⟩
  simp only [if_neg h5]
  by_cases h6 : a1 = 6
  · simp only [if_pos h6]
    refine ⟨_, rfl, ?_⟩
    rw [H'.1] at er
    show (if nI nc = 0 then some (-1, wr m 27 0 0) else some ((wr m 27 0 0).1 38 61, wr m 27 0 0)) = _
    split at er
    · next q => rw [if_pos q, er]
    · next q => rw [if_neg q, er]
  simp only [if_neg h6]
  by_cases h7 : a1 = 7
  · simp only [if_pos h7]; exact ⟨_, rfl, rfl⟩
  simp only [if_neg h7]
  by_cases h8 : a1 = 8
  · simp only [if_pos h8]; exact ⟨_, rfl, rfl⟩
  simp only [if_neg h8]
  by_cases h9 : a1 = 9
  · simp only [if_pos h9]
    rw [H'.1] at er
    by_cases hz : nI nc = 0
    · rw [if_pos hz] at er
      simp only [← er, ↓reduceIte]
      refine ⟨0, rfl, ?_⟩
      show (if nI nc = 0 then _ else _) = _
      rw [if_pos hz]
    · rw [if_neg hz] at er
      have hc : 0 < nc := by
        rcases Nat.eq_zero_or_pos nc with z | z
        · rw [z] at hz; exact absurd rfl hz
        · exact z
      obtain ⟨z1, z2, z3⟩ := H'.2.2.2.2.2.2.2 hc
      have hr := z3.2.2.2.2.2.2.2.2.2.2
      rcases hr with z | ⟨d, hd, z⟩
      · simp only [z, ↓reduceIte]
        refine ⟨0, rfl, ?_⟩
        show (if nI nc = 0 then _ else if (wr m 27 0 0).1 38 61 = -1 then _ else _) = _
        rw [if_neg hz, er, if_pos z]
      · have hd8 : d < 8 := by omega
        simp only [z, n1e (show d < 9 by omega), ↓reduceIte, countOf_v hd8, cal_eq]
        refine ⟨cnt (m.1 4) d, rfl, ?_⟩
        show (if nI nc = 0 then _ else if (wr m 27 0 0).1 38 61 = -1 then _ else cal (f_X11_countOf 38 (wr m 27 0 0) ((wr m 27 0 0).1 38 61)) _) = _
        rw [if_neg hz, er, z, if_neg (n1e (by omega)), mCount_v z1 hd8]; rfl
  simp only [if_neg h9]
  by_cases h10 : a1 = 10
  · simp only [if_pos h10]; exact ⟨_, rfl, rfl⟩
  simp only [if_neg h10]
  by_cases h11 : a1 = 11
  · simp only [if_pos h11]; exact ⟨_, rfl, rfl⟩
  simp only [if_neg h11]
  exact ⟨_, rfl, rfl⟩
end
