/-! calls that ask: both answer alike -/
def QQ (nl : Nat) (ln : Nat → Nat) (B : Nat) (o : Option (Int32 × Sg)) (F : Sg → Option (Int32 × Sg)) : Prop := ∃ r m1 m2, o = some (r, m1) ∧ F m1 = some (r, m2) ∧ Rel nl ln B m2
section
variable {nl B : Nat} {ln : Nat → Nat} {m m1 m2 : Sg} {j : Nat} {a a1 a2 r : Int32} {f : Nat → Int32} {nc ne c e : Nat}
theorem QQ_q {o : Option (Int32 × Sg)} {F : Sg → Option (Int32 × Sg)} (R : Rel nl ln B m) (h1 : o = some (r, m1)) (g1 : Fr scr m m1) (h2 : F m1 = some (r, m2)) (g2 : Fr scr m1 m2) : QQ nl ln B o F := ⟨r, m1, m2, h1, h2, Rel_fr R (g1.tr g2)⟩
theorem ch_cases (a : Int32) {n : Nat} (hn : n ≤ 8) : (a < 0 ∨ ¬ a < 0 ∧ nI n ≤ a) ∨ ∃ c, c < n ∧ a = nI c := by
  rcases pk_ix a (n := n) (by omega) with h | h | h
  · exact Or.inl (Or.inl h)
  · by_cases q : a < 0
    · exact Or.inl (Or.inl q)
    · exact Or.inl (Or.inr ⟨q, h⟩)
  · exact Or.inr h
theorem hC_no (hC : m.1 j 95 = nI nc) (h : a < 0 ∨ ¬ a < 0 ∧ nI nc ≤ a) : f_X0_hasChild j m a = some (0, m) := by
  unfold f_X0_hasChild
  rcases h with h | ⟨h, h'⟩
  · rw [if_pos h]
  · rw [if_neg h, hC, if_pos h']
theorem hC_yes (hC : m.1 j 95 = nI nc) (hc : c < nc) (hn : nc ≤ 8) : f_X0_hasChild j m (nI c) = some (1, m) := by
  unfold f_X0_hasChild
  rw [if_neg (nI_pos (by omega)), hC, if_neg (ix_lt hc (by omega))]
theorem hE_no (hC : m.1 j 96 = nI ne) (h : a < 0 ∨ ¬ a < 0 ∧ nI ne ≤ a) : f_X0_hasElder j m a = some (0, m) := by
  unfold f_X0_hasElder
  rcases h with h | ⟨h, h'⟩
  · rw [if_pos h]
  · rw [if_neg h, hC, if_pos h']
theorem hE_yes (hC : m.1 j 96 = nI ne) (hc : c < ne) (hn : ne ≤ 8) : f_X0_hasElder j m (nI c) = some (1, m) := by
  unfold f_X0_hasElder
  rw [if_neg (nI_pos (by omega)), hC, if_neg (ix_lt hc (by omega))]
theorem iC_no (hC : m.1 27 24 = nI nc) (h : a < 0 ∨ ¬ a < 0 ∧ nI nc ≤ a) : f_X11_isChild m a = some (0, m) := by
  unfold f_X11_isChild
  rcases h with h | ⟨h, h'⟩
  · rw [if_pos h]
  · rw [if_neg h, hC, if_pos h']
theorem iC_yes (hC : m.1 27 24 = nI nc) (hc : c < nc) (hn : nc ≤ 8) : f_X11_isChild m (nI c) = some (1, m) := by
  unfold f_X11_isChild
  rw [if_neg (nI_pos (by omega)), hC, if_neg (ix_lt hc (by omega))]
theorem iE_no (hC : m.1 27 25 = nI ne) (h : a < 0 ∨ ¬ a < 0 ∧ nI ne ≤ a) : f_X11_isElder m a = some (0, m) := by
  unfold f_X11_isElder
  rcases h with h | ⟨h, h'⟩
  · rw [if_pos h]
  · rw [if_neg h, hC, if_pos h']
theorem iE_yes (hC : m.1 27 25 = nI ne) (hc : c < ne) (hn : ne ≤ 8) : f_X11_isElder m (nI c) = some (1, m) := by
  unfold f_X11_isElder
  rw [if_neg (nI_pos (by omega)), hC, if_neg (ix_lt hc (by omega))]
theorem isIn_no {k : Nat} (hk : k + 1 < 2 ^ 31) (h : a < 0 ∨ ¬ a < 0 ∧ nI (k + 1) ≤ a) : f_X11_isIn m a.toInt64 0 (nI k).toInt64 = some (0, m) := by
  rw [isIn_v (lo' := 0) (lo := 0) (hi := nI k) rfl rfl]
  rcases h with h | ⟨h, h'⟩
  · rw [if_pos h]
  · rw [if_neg h, if_pos (Int32.lt_of_lt_of_le (nI_lt (Nat.lt_succ_self k) hk) h')]
theorem isIn_yes {k w : Nat} (hk : k + 1 < 2 ^ 31) (hw : w < k + 1) : f_X11_isIn m (nI w).toInt64 0 (nI k).toInt64 = some (1, m) := by
  rw [isIn_v (lo' := 0) (lo := 0) (hi := nI k) rfl rfl, if_neg (nI_pos (by omega)), if_neg (nI_nlt (by omega) (by omega))]
theorem in1_no (h : a < 0 ∨ ¬ a < 0 ∧ nI 2 ≤ a) : f_X11_isIn m a.toInt64 0 1 = some (0, m) := isIn_no (k := 1) (by decide) h
theorem in1_yes {w : Nat} (hw : w < 2) : f_X11_isIn m (nI w).toInt64 0 1 = some (1, m) := isIn_yes (k := 1) (by decide) hw
theorem in2_no (h : a < 0 ∨ ¬ a < 0 ∧ nI 3 ≤ a) : f_X11_isIn m a.toInt64 0 2 = some (0, m) := isIn_no (k := 2) (by decide) h
theorem in2_yes {w : Nat} (hw : w < 3) : f_X11_isIn m (nI w).toInt64 0 2 = some (1, m) := isIn_yes (k := 2) (by decide) hw
theorem in4_no (h : a < 0 ∨ ¬ a < 0 ∧ nI 5 ≤ a) : f_X11_isIn m a.toInt64 0 4 = some (0, m) := isIn_no (k := 4) (by decide) h
theorem in4_yes {w : Nat} (hw : w < 5) : f_X11_isIn m (nI w).toInt64 0 4 = some (1, m) := isIn_yes (k := 4) (by decide) hw
theorem in8_no (h : a < 0 ∨ ¬ a < 0 ∧ nI 9 ≤ a) : f_X11_isIn m a.toInt64 0 8 = some (0, m) := isIn_no (k := 8) (by decide) h
theorem in8_yes {w : Nat} (hw : w < 9) : f_X11_isIn m (nI w).toInt64 0 8 = some (1, m) := isIn_yes (k := 8) (by decide) hw
theorem in11_no (h : a < 0 ∨ ¬ a < 0 ∧ nI 12 ≤ a) : f_X11_isIn m a.toInt64 0 11 = some (0, m) := isIn_no (k := 11) (by decide) h
theorem in11_yes {w : Nat} (hw : w < 12) : f_X11_isIn m (nI w).toInt64 0 11 = some (1, m) := isIn_yes (k := 11) (by decide) hw
theorem in99_no (h : a < 0 ∨ ¬ a < 0 ∧ nI 100 ≤ a) : f_X11_isIn m a.toInt64 0 99 = some (0, m) := isIn_no (k := 99) (by decide) h
theorem in99_yes {w : Nat} (hw : w < 100) : f_X11_isIn m (nI w).toInt64 0 99 = some (1, m) := isIn_yes (k := 99) (by decide) hw
theorem told_v (hC : m.1 j 95 = nI nc) (hn : nc ≤ 8) : f_X0_isTold j m = some (if nc = 0 then 0 else 1, m) := by
  unfold f_X0_isTold
  rw [hC]
  by_cases h : nc = 0
  · rw [if_pos h, if_pos (by rw [h]; decide)]
  · rw [if_neg h, if_neg (nI_nle (by omega) (by omega))]
theorem n24 (hC : m.1 27 24 = nI nc) (hn : nc ≤ 8) : m.1 27 24 = 0 ↔ nc = 0 := by
  rw [hC]
  constructor
  · intro h
    by_cases q : nc = 0
    · exact q
    · exact absurd h (nI_ne0 (by omega) (by omega))
  · intro h; rw [h]; rfl
theorem mExaminer_v (H : HM m f nc ne B) : f_X11_examiner m = some (trW f 0 ne, wr m 27 0 0) := by
  have H' := HM_fr H (fr_thr m 0)
  unfold f_X11_examiner
  simp only [bnd_eq]
  by_cases h : nc = 0
  · rw [if_pos ((n24 H'.1 H'.2.2.2.2.2.1).mpr h), H.2.2.2.2.2.2.1 h]; rfl
  · obtain ⟨h1, h2, h3⟩ := H'.2.2.2.2.2.2.2 (by omega)
    rw [if_neg (fun q => h ((n24 H'.1 H'.2.2.2.2.2.1).mp q)), mExam_v h1 h2 h3]; rfl
theorem tr_cases (f : Nat → Int32) (a : Int32) (ne : Nat) : trW f a ne = -1 ∨ ∃ e, e < ne ∧ trW f a ne = nI e := trW_I
theorem HM_pos (H : HM m f nc ne B) (he : e < ne) : 0 < nc := by
  have := H.2.2.2.2.2.2.1
  omega
def bcV (x : Int32) : Int32 := match f_J6_bitCount_0f7a4 ((fun _ _ => 0), fun _ => 0) x with
  | some q => q.1
  | none => 0
theorem bc_v {x : Int32} : f_J6_bitCount_0f7a4 m x = some (bcV x, m) := rfl
theorem q_elder (R : Rel nl ln B m) : QQ nl ln B (f_X10_elder m a1 a2) (fun m1 => f_X11_elder m1 a1 a2) := by
  obtain ⟨nc, ne, H⟩ := Rel_HM R
  have hn4 := H.2.2.2.2.1
  have hn8 := H.2.2.2.2.2.1
  have H' := HM_fr H (fr_thr m 0)
  have n10 : ¬ (1 : Int32) = 0 := by decide
  rcases ch_cases a1 (show ne ≤ 8 by omega) with h | ⟨e, he, h⟩
  · refine QQ_q R (r := -1) (m1 := m) (m2 := wr m 27 0 0) ?_ Fr.rf ?_ (fr_thr m 0)
    · simp only [f_X10_elder, hE_no H.2.2.2.1 h, cal_eq, if_true]
    · simp only [f_X11_elder, bnd_eq, iE_no H'.2.1 h, cal_eq, if_true]
  · subst h
    obtain ⟨h1, h2, h3⟩ := H'.2.2.2.2.2.2.2 (HM_pos H he)
    have he4 : e < 4 := by omega
    rcases ch_cases a2 (show 3 ≤ 8 by decide) with h | ⟨w, hw, h⟩
    · refine QQ_q R (r := -1) (m1 := m) (m2 := wr m 27 0 0) ?_ Fr.rf ?_ (fr_thr m 0)
      · simp only [f_X10_elder, hE_yes H.2.2.2.1 he (by omega), cal_eq, if_neg n10]
        rcases h with h | ⟨h, h'⟩
        · rw [if_pos h]
        · rw [if_neg h, if_pos (show (3 : Int32) ≤ a2 from h')]
      · simp only [f_X11_elder, bnd_eq, iE_yes H'.2.1 he (by omega), cal_eq, if_neg n10, in2_no h, if_true]
    · subst h
      refine QQ_q R (r := od (m.1 4) e w) (m1 := m) (m2 := wr m 27 0 0) ?_ Fr.rf ?_ (fr_thr m 0)
      · simp only [f_X10_elder, hE_yes H.2.2.2.1 he (by omega), cal_eq, if_neg n10, if_neg (nI_pos (show w < 2 ^ 31 by omega)), if_neg (ix_lt (n := 3) hw (by decide)), if_neg (show ¬ (3 : Int32) ≤ nI w from ix_lt (n := 3) hw (by decide)), old_v he4 hw]; rfl
      · simp only [f_X11_elder, bnd_eq, iE_yes H'.2.1 he (by omega), cal_eq, if_neg n10, in2_yes hw]
        rcases (show w = 0 ∨ w = 1 ∨ w = 2 by omega) with h | h | h
        · subst h
          rw [if_neg (show ¬ nI 0 = 2 by decide), show (3 : Int32) * nI e + nI 0 = 3 * nI e from Int32.add_zero _, i3_0 he4, if_pos rfl, t3_0 he4, (h2.2.1 e he).1]
        · subst h
          rw [if_neg (show ¬ nI 1 = 2 by decide), show (3 : Int32) * nI e + nI 1 = 3 * nI e + 1 from rfl, i3_1 he4, if_pos rfl, t3_1 he4, (h2.2.1 e he).2]
        · subst h
          rw [if_pos (show nI 2 = 2 by decide), i56 he4, if_pos rfl, t56 he4, h1.2.1 e he4]
theorem q_rule (R : Rel nl ln B m) : QQ nl ln B (f_X10_rule m a1) (fun m1 => f_X11_rule m1 a1) := by
  obtain ⟨nc, ne, H⟩ := Rel_HM R
  have hn4 := H.2.2.2.2.1
  have hn8 := H.2.2.2.2.2.1
  have H' := HM_fr H (fr_thr m 0)
  have n10 : ¬ (1 : Int32) = 0 := by decide
  by_cases h0 : nc = 0
  · refine QQ_q R (r := -1) (m1 := m) (m2 := wr m 27 0 0) ?_ Fr.rf ?_ (fr_thr m 0)
    · simp only [f_X10_rule, told_v H.2.2.1 H.2.2.2.2.2.1, cal_eq, if_pos h0, if_true]
    · simp only [f_X11_rule, bnd_eq, H'.1, h0, if_pos (show nI 0 ≤ 0 by decide)]
  · obtain ⟨h1, h2, h3⟩ := H'.2.2.2.2.2.2.2 (by omega)
    have t1 : ¬ (wr m 27 0 0).1 27 24 ≤ 0 := by rw [H'.1]; exact nI_nle (by omega) (by omega)
    rcases ch_cases a1 (show 3 ≤ 8 by decide) with h | ⟨w, hw, h⟩
    · refine QQ_q R (r := -1) (m1 := m) (m2 := wr m 27 0 0) ?_ Fr.rf ?_ (fr_thr m 0)
      · simp only [f_X10_rule, told_v H.2.2.1 H.2.2.2.2.2.1, cal_eq, if_neg h0, if_neg n10]
        rcases h with h | ⟨h, h'⟩
        · rw [if_pos h]
        · rw [if_neg h, if_pos (show (3 : Int32) ≤ a1 from h')]
      · simp only [f_X11_rule, bnd_eq, if_neg t1, in2_no h, cal_eq, if_true]
    · subst h
      refine QQ_q R (r := m.1 4 (92 + w)) (m1 := m) (m2 := wr m 27 0 0) ?_ Fr.rf ?_ (fr_thr m 0)
      · simp only [f_X10_rule, told_v H.2.2.1 H.2.2.2.2.2.1, cal_eq, if_neg h0, if_neg n10, if_neg (nI_pos (show w < 2 ^ 31 by omega)), if_neg (show ¬ (3 : Int32) ≤ nI w from ix_lt (n := 3) hw (by decide)), show (92 : Int32) + nI w = nI (92 + w) from nI_add 92 w, cell_v (show 92 + w < 100 by omega)]
      · simp only [f_X11_rule, bnd_eq, if_neg t1, in2_yes hw, cal_eq, if_neg n10, in_nI hw (show 3 < 2 ^ 31 by decide), if_true, nI_clamp (show w < 2 ^ 31 by omega)]
        rcases (show w = 0 ∨ w = 1 ∨ w = 2 by omega) with h | h | h
        · subst h; rw [h2.2.2.1]
        · subst h; rw [h2.2.2.2.1]
        · subst h; rw [h2.2.2.2.2.1]
theorem q_passes (R : Rel nl ln B m) : QQ nl ln B (f_X10_passes m a1 a2) (fun m1 => f_X11_passes m1 a1 a2) := by
  obtain ⟨nc, ne, H⟩ := Rel_HM R
  have hn4 := H.2.2.2.2.1
  have hn8 := H.2.2.2.2.2.1
  have H' := HM_fr H (fr_thr m 0)
  rcases ch_cases a1 H.2.2.2.2.2.1 with h | ⟨c, hc, h⟩
  · refine QQ_q R (r := -1) (m1 := m) (m2 := wr m 27 0 0) ?_ Fr.rf ?_ (fr_thr m 0)
    · simp only [f_X10_passes, hC_no H.2.2.1 h, cal_eq, bnd_eq, if_true]
    · simp only [f_X11_passes, bnd_eq, iC_no H'.1 h, cal_eq, if_true]
  · subst h
    obtain ⟨h1, h2, h3⟩ := H'.2.2.2.2.2.2.2 (by omega)
    have hc8 : c < 8 := by have := H.2.2.2.2.2.1; omega
    rcases ch_cases a2 (show ne ≤ 8 by have := H.2.2.2.2.1; omega) with h | ⟨e, he, h⟩
    · refine QQ_q R (r := -1) (m1 := m) (m2 := wr m 27 0 0) ?_ Fr.rf ?_ (fr_thr m 0)
      · simp only [f_X10_passes, hC_yes H.2.2.1 hc H.2.2.2.2.2.1, hE_no H.2.2.2.1 h, cal_eq, bnd_eq, if_neg (show ¬ (1 : Int32) = 0 by decide), if_true]
      · simp only [f_X11_passes, bnd_eq, iC_yes H'.1 hc H.2.2.2.2.2.1, iE_no H'.2.1 h, cal_eq, if_neg (show ¬ (1 : Int32) = 0 by decide), if_true]
    · subst h
      have he4 : e < 4 := by have := H.2.2.2.2.1; omega
      refine QQ_q R (r := if wnt (m.1 4) c e = 0 then 1 else 0) (m1 := m) (m2 := wr m 27 0 0) ?_ Fr.rf ?_ (fr_thr m 0)
      · simp only [f_X10_passes, hC_yes H.2.2.1 hc H.2.2.2.2.2.1, hE_yes H.2.2.2.1 he (by omega), stands_v hc8 he4, cal_eq, bnd_eq, if_neg (show ¬ (1 : Int32) = 0 by decide)]
        split <;> rfl
      · simp only [f_X11_passes, bnd_eq, iC_yes H'.1 hc H.2.2.2.2.2.1, iE_yes H'.2.1 he (by omega), mSlips_v h1 h2 h3 hc he, cal_eq, if_neg (show ¬ (1 : Int32) = 0 by decide)]
        split <;> rfl
theorem q_slips (R : Rel nl ln B m) : QQ nl ln B (f_X10_slips m a1 a2) (fun m1 => f_X11_slips m1 a1 a2) := by
  obtain ⟨nc, ne, H⟩ := Rel_HM R
  have hn4 := H.2.2.2.2.1
  have hn8 := H.2.2.2.2.2.1
  have H' := HM_fr H (fr_thr m 0)
  rcases ch_cases a1 H.2.2.2.2.2.1 with h | ⟨c, hc, h⟩
  · refine QQ_q R (r := -1) (m1 := m) (m2 := wr m 27 0 0) ?_ Fr.rf ?_ (fr_thr m 0)
    · simp only [f_X10_slips, hC_no H.2.2.1 h, cal_eq, bnd_eq, if_true]
    · simp only [f_X11_slips, bnd_eq, iC_no H'.1 h, cal_eq, if_true]
  · subst h
    obtain ⟨h1, h2, h3⟩ := H'.2.2.2.2.2.2.2 (by omega)
    have hc8 : c < 8 := by have := H.2.2.2.2.2.1; omega
    rcases ch_cases a2 (show ne ≤ 8 by have := H.2.2.2.2.1; omega) with h | ⟨e, he, h⟩
    · refine QQ_q R (r := -1) (m1 := m) (m2 := wr m 27 0 0) ?_ Fr.rf ?_ (fr_thr m 0)
      · simp only [f_X10_slips, hC_yes H.2.2.1 hc H.2.2.2.2.2.1, hE_no H.2.2.2.1 h, cal_eq, bnd_eq, if_neg (show ¬ (1 : Int32) = 0 by decide), if_true]
      · simp only [f_X11_slips, bnd_eq, iC_yes H'.1 hc H.2.2.2.2.2.1, iE_no H'.2.1 h, cal_eq, if_neg (show ¬ (1 : Int32) = 0 by decide), if_true]
    · subst h
      have he4 : e < 4 := by have := H.2.2.2.2.1; omega
      refine QQ_q R (r := wnt (m.1 4) c e) (m1 := m) (m2 := wr m 27 0 0) ?_ Fr.rf ?_ (fr_thr m 0)
      · simp only [f_X10_slips, hC_yes H.2.2.1 hc H.2.2.2.2.2.1, hE_yes H.2.2.2.1 he (by omega), wants_v hc8 he4, cal_eq, bnd_eq, if_neg (show ¬ (1 : Int32) = 0 by decide)]
      · simp only [f_X11_slips, bnd_eq, iC_yes H'.1 hc H.2.2.2.2.2.1, iE_yes H'.2.1 he (by omega), mSlips_v h1 h2 h3 hc he, cal_eq, if_neg (show ¬ (1 : Int32) = 0 by decide)]
theorem q_examiner (R : Rel nl ln B m) : QQ nl ln B (f_X10_examiner m) (fun m1 => f_X11_examiner m1) := by
  obtain ⟨nc, ne, H⟩ := Rel_HM R
  have hn4 := H.2.2.2.2.1
  have hn8 := H.2.2.2.2.2.1
  refine QQ_q R (r := trW (m.1 4) 0 ne) (m1 := m) (m2 := wr m 27 0 0) ?_ Fr.rf (mExaminer_v H) (fr_thr m 0)
  simp only [f_X10_examiner, trier_v H.2.2.2.1 H.2.2.2.2.1, cal_eq]
end
