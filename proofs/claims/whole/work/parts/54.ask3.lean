/-! calls that ask, of children, elders and sets -/
section
variable {nl B : Nat} {ln : Nat → Nat} {m m1 m2 : Sg} {j : Nat} {a a1 a2 r : Int32} {f : Nat → Int32} {nc ne c e : Nat}
theorem itr_congr {α : Type} {F G : Nat → α → α} {a : α} : ∀ (n : Nat), (∀ i, i < n → ∀ x, F i x = G i x) → itr F a n = itr G a n
  | 0, _ => rfl
  | n + 1, h => by rw [itr, itr, itr_congr n (fun i hi => h i (by omega)), h n (by omega)]
theorem iN_no (h : a < 0 ∨ ¬ a < 0 ∧ nI 5 ≤ a) : f_X0_isNursery m a = some (0, m) := by
  unfold f_X0_isNursery
  rcases h with h | ⟨h, h'⟩
  · rw [if_pos h]
  · rw [if_neg h, if_pos (Int32.lt_of_lt_of_le (show (4 : Int32) < nI 5 by decide) h')]
theorem iN_yes {w : Nat} (h : w < 5) : f_X0_isNursery m (nI w) = some (1, m) := by
  unfold f_X0_isNursery
  rw [if_neg (nI_pos (by omega)), if_neg (show ¬ (4 : Int32) < nI w from nI_nlt (b := w) (a := 4) (by omega) (by decide))]
theorem mN_no (h : a < 0 ∨ ¬ a < 0 ∧ nI 5 ≤ a) : f_X11_isNursery m a = some (0, m) := by
  unfold f_X11_isNursery
  split
  · rfl
  · rw [in4_no h]; rfl
theorem mN_un (hC : m.1 27 24 = nI 0) : f_X11_isNursery m a = some (0, m) := by
  unfold f_X11_isNursery
  rw [hC, if_pos (by decide)]
theorem mN_yes {w : Nat} (hC : m.1 27 24 = nI nc) (h0 : 0 < nc) (hn : nc ≤ 8) (h : w < 5) : f_X11_isNursery m (nI w) = some (1, m) := by
  unfold f_X11_isNursery
  rw [hC, if_neg (nI_nle h0 (by omega)), in4_yes h]; rfl
theorem ofN_v (hC : m.1 j 95 = nI nc) (hc : c < nc) (hn : nc ≤ 8) : f_X0_isOfNursery j m (nI c) a = some (if kd (m.1 j) c 3 = a then 1 else 0, m) := by
  simp only [f_X0_isOfNursery, hC_yes hC hc hn, cal_eq, n10, ↓reduceIte, kid3 (show c < 8 by omega)]
  split <;> rfl
theorem isOf_v (h2 : SV m f nc ne) (hc : c < nc) (hn : nc ≤ 8) : f_X11_isOf m (nI c) a = some (if kd f c 3 = a then 1 else 0, m) := by
  have hc8 : c < 8 := by omega
  simp only [f_X11_isOf, iC_yes h2.2.2.2.2.2.1 hc hn, cal_eq, n10, ↓reduceIte, i6_3 hc8, t6_3 hc8, (h2.1 c hc).1]
  split <;> rfl
def ptF (f : Nat → Int32) (a : Int32) (i : Nat) (x : Int32) : Int32 := if kd f i 3 = a then x ||| rt f i else x
theorem q_party (R : Rel nl ln B m) : QQ nl ln B (f_X10_party m a1) (fun m1 => f_X11_party m1 a1) := by
  obtain ⟨nc, ne, H⟩ := Rel_HM R
  have hn4 := H.2.2.2.2.1
  have hn8 := H.2.2.2.2.2.1
  have H' := HM_fr H (fr_thr m 0)
  by_cases h0 : nc = 0
  · refine QQ_q R (r := -1) (m1 := m) (m2 := wr m 27 0 0) ?_ Fr.rf ?_ (fr_thr m 0)
    · simp only [f_X10_party, told_v H.2.2.1 hn8, cal_eq, if_pos h0, ↓reduceIte]
    · simp only [f_X11_party, bnd_eq, mN_un (h0 ▸ H'.1), cal_eq, ↓reduceIte]
  · obtain ⟨h1, h2, h3⟩ := H'.2.2.2.2.2.2.2 (by omega)
    rcases ch_cases a1 (show 5 ≤ 8 by decide) with h | ⟨w, hw, h⟩
    · refine QQ_q R (r := -1) (m1 := m) (m2 := wr m 27 0 0) ?_ Fr.rf ?_ (fr_thr m 0)
      · simp only [f_X10_party, told_v H.2.2.1 hn8, cal_eq, if_neg h0, n10, ↓reduceIte, iN_no h]
      · simp only [f_X11_party, bnd_eq, mN_no h, cal_eq, ↓reduceIte]
    · subst h
      refine QQ_q R (r := itr (ptF (m.1 4) (nI w)) 0 nc) (m1 := m) (m2 := wr m 27 0 0) ?_ Fr.rf ?_ (fr_thr m 0)
      · simp only [f_X10_party, told_v H.2.2.1 hn8, cal_eq, if_neg h0, n10, ↓reduceIte, iN_yes hw, f_X8_rightInNursery]
        rw [show (m, (0 : Int32), (0 : Int32)) = (fun i => (m, itr (ptF (m.1 4) (nI w)) 0 i, nI i)) 0 from rfl, lpk_seq (S := fun i => (m, itr (ptF (m.1 4) (nI w)) 0 i, nI i)) (x := (m, itr (ptF (m.1 4) (nI w)) 0 nc)) nc ?_ ?_ (by omega)]
        · rfl
        · intro i hi
          have hi8 : i < 8 := by omega
          simp only [f_X8_rightInNursery_L4, f_X0_children, H.2.2.1, cal_eq, if_neg (ix_lt hi (show nc < 2 ^ 31 by omega)), ofN_v H.2.2.1 hi hn8, rightOf_v hi8, bnd_eq, nI_1, itr, ptF]
          by_cases q : kd (m.1 4) i 3 = nI w <;> simp only [q, n10, ↓reduceIte]
        · simp only [f_X8_rightInNursery_L4, f_X0_children, H.2.2.1, cal_eq, if_pos (nI_le (Nat.le_refl nc) (show nc < 2 ^ 31 by omega))]
      · simp only [f_X11_party, bnd_eq, mN_yes H'.1 (by omega) hn8 hw, cal_eq, n10, ↓reduceIte]
        generalize wr m 27 0 0 = m' at *
        rw [show (m', (0 : Int32), (0 : Int32)) = (fun i => (m', itr (ptF (m.1 4) (nI w)) 0 i, nI i)) 0 from rfl, lpk_seq (S := fun i => (m', itr (ptF (m.1 4) (nI w)) 0 i, nI i)) (x := (m', itr (ptF (m.1 4) (nI w)) 0 nc)) nc ?_ ?_ (by omega)]
        · intro i hi
          have hi8 : i < 8 := by omega
          simp only [f_X11_party_L19, h2.2.2.2.2.2.1, if_neg (ix_lt hi (show nc < 2 ^ 31 by omega)), isOf_v h2 hi hn8, mRight_v h1 hi8, cal_eq, bnd_eq, nI_1, itr, ptF]
          by_cases q : kd (m.1 4) i 3 = nI w <;> simp only [q, n10, ↓reduceIte, or0]
        · simp only [f_X11_party_L19, h2.2.2.2.2.2.1, if_pos (nI_le (Nat.le_refl nc) (show nc < 2 ^ 31 by omega))]
/-- calls of one child that stop where there is none -/
theorem q_ch {o : Option (Int32 × Sg)} {F2 : Sg → Option (Int32 × Sg)} (R : Rel nl ln B m) (a : Int32) (h1 : ∀ nc ne, HM m (m.1 4) nc ne B → (a < 0 ∨ ¬ a < 0 ∧ nI nc ≤ a) → ∃ r, o = some (r, m) ∧ F2 m = some (r, wr m 27 0 0)) (h2 : ∀ nc ne c, HM m (m.1 4) nc ne B → c < nc → c < 8 → ne ≤ 4 → nc ≤ 8 → a = nI c → CV ((wr m 27 0 0).1 38) (m.1 4) → SV (wr m 27 0 0) (m.1 4) nc ne → WF (m.1 4) nc ne B → QQ nl ln B o F2) : QQ nl ln B o F2 := by
  obtain ⟨nc, ne, H⟩ := Rel_HM R
  have hn4 := H.2.2.2.2.1
  have hn8 := H.2.2.2.2.2.1
  rcases ch_cases a hn8 with h | ⟨c, hc, h⟩
  · obtain ⟨r, e1, e2⟩ := h1 nc ne H h
    exact QQ_q R e1 Fr.rf e2 (fr_thr m 0)
  · obtain ⟨z1, z2, z3⟩ := (HM_fr H (fr_thr m 0)).2.2.2.2.2.2.2 (by omega)
    exact h2 nc ne c H hc (by omega) hn4 hn8 h z1 z2 z3
def bfF (f : Nat → Int32) (c e : Nat) (x : Int32) : Int32 := if wnt f c e = 0 then x ||| tn (nI e) else x
theorem q_before (R : Rel nl ln B m) : QQ nl ln B (f_X10_before m a1) (fun m1 => f_X11_before m1 a1) := by
  refine q_ch R a1 (fun nc ne H h => ⟨-1, ?_, ?_⟩) (fun nc ne c H hc hc8 hn4 hn8 h h1 h2 h3 => ?_)
  · simp only [f_X10_before, hC_no H.2.2.1 h, cal_eq, ↓reduceIte]
  · simp only [f_X11_before, bnd_eq, iC_no (HM_fr H (fr_thr m 0)).1 h, cal_eq, ↓reduceIte]
  · subst h
    refine QQ_q R (r := itr (bfF (m.1 4) c) 0 ne) (m1 := m) (m2 := wr m 27 0 0) ?_ Fr.rf ?_ (fr_thr m 0)
    · simp only [f_X10_before, hC_yes H.2.2.1 hc hn8, cal_eq, n10, ↓reduceIte, f_X8_eldersSatisfied]
      rw [show (m, (0 : Int32), (0 : Int32)) = (fun i => (m, itr (bfF (m.1 4) c) 0 i, nI i)) 0 from rfl, lpk_seq (S := fun i => (m, itr (bfF (m.1 4) c) 0 i, nI i)) (x := (m, itr (bfF (m.1 4) c) 0 ne)) ne ?_ ?_ (by omega)]
      · rfl
      · intro i hi
        have hi4 : i < 4 := by omega
        simp only [f_X8_eldersSatisfied_L4, f_X0_elders, H.2.2.2.1, cal_eq, if_neg (ix_lt hi (show ne < 2 ^ 31 by omega)), stands_v hc8 hi4, bnd_eq, nI_1, itr, bfF]
        by_cases q : wnt (m.1 4) c i = 0 <;> simp only [q, n10, ↓reduceIte, tn]
      · simp only [f_X8_eldersSatisfied_L4, f_X0_elders, H.2.2.2.1, cal_eq, if_pos (nI_le (Nat.le_refl ne) (show ne < 2 ^ 31 by omega))]
    · simp only [f_X11_before, bnd_eq, iC_yes h2.2.2.2.2.2.1 hc hn8, cal_eq, n10, ↓reduceIte]
      generalize wr m 27 0 0 = m' at *
      rw [show (m', (0 : Int32), (0 : Int32)) = (fun i => (m', itr (bfF (m.1 4) c) 0 i, nI i)) 0 from rfl, lpk_seq (S := fun i => (m', itr (bfF (m.1 4) c) 0 i, nI i)) (x := (m', itr (bfF (m.1 4) c) 0 ne)) ne ?_ ?_ (by omega)]
      · intro i hi
        simp only [f_X11_before_L19, h2.2.2.2.2.2.2, if_neg (ix_lt hi (show ne < 2 ^ 31 by omega)), mSlips_v h1 h2 h3 hc hi, cal_eq, bnd_eq, nI_1, itr, bfF]
        by_cases q : wnt (m.1 4) c i = 0 <;> simp only [q, ↓reduceIte, tn, or0]
      · simp only [f_X11_before_L19, h2.2.2.2.2.2.2, if_pos (nI_le (Nat.le_refl ne) (show ne < 2 ^ 31 by omega))]
theorem sh1 : ∀ n, n < 9 → (1 : Int32) <<< (nI n &&& 31) = nI (2 ^ n) := by decide
theorem p2le {n k : Nat} (h : n ≤ k) : 2 ^ n ≤ 2 ^ k := Nat.pow_le_pow_right (by decide) h
def woF (f : Nat → Int32) (c ne s : Nat) (x : Int32) : Int32 := if trW f (nI s) ne = -1 then x else if wnt f c (trW f (nI s) ne).toNatClampNeg = 0 then (if x = -1 then nI s else if bcV x ≤ bcV (nI s) then x else nI s) else x
theorem q_without (R : Rel nl ln B m) : QQ nl ln B (f_X10_without m a1) (fun m1 => f_X11_without m1 a1) := by
  refine q_ch R a1 (fun nc ne H h => ⟨-1, ?_, ?_⟩) (fun nc ne c H hc hc8 hn4 hn8 h h1 h2 h3 => ?_)
  · simp only [f_X10_without, hC_no H.2.2.1 h, cal_eq, ↓reduceIte]
  · simp only [f_X11_without, bnd_eq, iC_no (HM_fr H (fr_thr m 0)).1 h, cal_eq, ↓reduceIte]
  · subst h
    have hp : 2 ^ ne ≤ 2 ^ 4 := p2le hn4
    have hp' : 2 ^ ne < 2 ^ 31 := by omega
    refine QQ_q R (r := itr (woF (m.1 4) c ne) (-1) (2 ^ ne)) (m1 := m) (m2 := wr m 27 0 0) ?_ Fr.rf ?_ (fr_thr m 0)
    · simp only [f_X10_without, hC_yes H.2.2.1 hc hn8, cal_eq, n10, ↓reduceIte, f_X8_fewestAbsent]
      rw [show (m, (-1 : Int32), (0 : Int32)) = (fun i => (m, itr (woF (m.1 4) c ne) (-1) i, nI i)) 0 from rfl, lpk_seq (S := fun i => (m, itr (woF (m.1 4) c ne) (-1) i, nI i)) (x := (m, itr (woF (m.1 4) c ne) (-1) (2 ^ ne))) (2 ^ ne) ?_ ?_ (by omega)]
      · rfl
      · intro i hi
        simp only [f_X8_fewestAbsent_L4, f_X0_elders, H.2.2.2.1, cal_eq, sh1 ne (by omega), if_neg (ix_lt hi hp'), trierWithout_v H.2.2.2.1 hn4, bnd_eq, nI_1, itr, bc_v]
        generalize itr (woF (m.1 4) c ne) (-1) i = x
        unfold woF
        rcases tr_cases (m.1 4) (nI i) ne with q | ⟨e, he, q⟩
        · simp only [q, ↓reduceIte]
        · rw [q]
          simp only [n1e (show e < 9 by omega), ↓reduceIte, stands_v hc8 (show e < 4 by omega), cal_eq, nI_clamp (show e < 2 ^ 31 by omega)]
          by_cases q1 : wnt (m.1 4) c e = 0
          · simp only [q1, n10, ↓reduceIte]
            split
            · rfl
            · split <;> rfl
          · simp only [q1, ↓reduceIte]
      · simp only [f_X8_fewestAbsent_L4, f_X0_elders, H.2.2.2.1, cal_eq, sh1 ne (by omega), if_pos (nI_le (Nat.le_refl _) hp')]
    · simp only [f_X11_without, bnd_eq, iC_yes h2.2.2.2.2.2.1 hc hn8, cal_eq, n10, ↓reduceIte]
      generalize wr m 27 0 0 = m' at *
      rw [show (m', (-1 : Int32), (0 : Int32)) = (fun i => (m', itr (woF (m.1 4) c ne) (-1) i, nI i)) 0 from rfl, lpk_seq (S := fun i => (m', itr (woF (m.1 4) c ne) (-1) i, nI i)) (x := (m', itr (woF (m.1 4) c ne) (-1) (2 ^ ne))) (2 ^ ne) ?_ ?_ (by omega)]
      · intro i hi
        simp only [f_X11_without_L19, h2.2.2.2.2.2.2, sh1 ne (by omega), if_neg (ix_lt hi hp'), mExam_v h1 h2 h3, cal_eq, bnd_eq, nI_1, itr, bc_v]
        generalize itr (woF (m.1 4) c ne) (-1) i = x
        unfold woF
        rcases tr_cases (m.1 4) (nI i) ne with q | ⟨e, he, q⟩
        · simp only [q, ↓reduceIte]
        · rw [q]
          simp only [n1e (show e < 9 by omega), ↓reduceIte, mSlips_v h1 h2 h3 hc he, cal_eq, nI_clamp (show e < 2 ^ 31 by omega)]
          by_cases q1 : wnt (m.1 4) c e = 0
          · simp only [q1, ↓reduceIte]
            split
            · rfl
            · split <;> rfl
          · simp only [q1, ↓reduceIte]
      · simp only [f_X11_without_L19, h2.2.2.2.2.2.2, sh1 ne (by omega), if_pos (nI_le (Nat.le_refl _) hp')]
def mdF (f : Nat → Int32) (s : Int32) (e : Nat) (x : Int32) : Int32 := if b0 s e then x else x ||| od f e 2
theorem minded_v {s : Int32} (hE : m.1 4 96 = nI ne) (hn : ne ≤ 4) : f_X8_mindedBy m s = some (itr (mdF (m.1 4) s) 0 ne, m) := by
  unfold f_X8_mindedBy
  rw [show (m, (0 : Int32), (0 : Int32)) = (fun i => (m, itr (mdF (m.1 4) s) 0 i, nI i)) 0 from rfl, lpk_seq (S := fun i => (m, itr (mdF (m.1 4) s) 0 i, nI i)) (x := (m, itr (mdF (m.1 4) s) 0 ne)) ne ?_ ?_ (by omega)]
  · intro i hi
    have hi4 : i < 4 := by omega
    simp only [f_X8_mindedBy_L4, f_X0_elders, hE, cal_eq, if_neg (ix_lt hi (show ne < 2 ^ 31 by omega)), old2 hi4, bnd_eq, nI_1, itr, mdF]
    by_cases q : b0 s i <;> simp only [b0, q, ↓reduceIte] <;> rw [b0] at q <;> simp only [q, ↓reduceIte]
  · simp only [f_X8_mindedBy_L4, f_X0_elders, hE, cal_eq, if_pos (nI_le (Nat.le_refl ne) (show ne < 2 ^ 31 by omega))]
theorem all_b : ∀ n, n < 5 → ∀ e, e < n → ¬ b0 ((1 <<< (nI n &&& 31)) - 1) e := by decide
theorem q_forgotten (R : Rel nl ln B m) : QQ nl ln B (f_X10_forgotten m) (fun m1 => f_X11_forgotten m1) := by
  obtain ⟨nc, ne, H⟩ := Rel_HM R
  have hn4 := H.2.2.2.2.1
  have hn8 := H.2.2.2.2.2.1
  have H' := HM_fr H (fr_thr m 0)
  by_cases h0 : nc = 0
  · refine QQ_q R (r := -1) (m1 := m) (m2 := wr m 27 0 0) ?_ Fr.rf ?_ (fr_thr m 0)
    · simp only [f_X10_forgotten, told_v H.2.2.1 hn8, cal_eq, if_pos h0, ↓reduceIte]
    · simp only [f_X11_forgotten, bnd_eq, (n24 H'.1 hn8).mpr h0, ↓reduceIte]
  · obtain ⟨h1, h2, h3⟩ := H'.2.2.2.2.2.2.2 (by omega)
    have hz : ¬ (wr m 27 0 0).1 27 24 = 0 := fun q => h0 ((n24 H'.1 hn8).mp q)
    have eq : itr (mdF (m.1 4) ((1 <<< (nI ne &&& 31)) - 1)) 0 ne = itr (fun e x => x ||| od (m.1 4) e 2) 0 ne := itr_congr ne (fun i hi x => by unfold mdF; rw [if_neg (all_b ne (by omega) i hi)])
    refine QQ_q R (r := tri (m.1 4) &&& (itr (fun e x => x ||| od (m.1 4) e 2) 0 ne ^^^ (-1))) (m1 := m) (m2 := wr m 27 0 0) ?_ Fr.rf ?_ (fr_thr m 0)
    · simp only [f_X10_forgotten, told_v H.2.2.1 hn8, cal_eq, if_neg h0, n10, ↓reduceIte, f_X8_unknownToElders, f_X0_triedTens, f_X0_elders, H.2.2.2.1, minded_v H.2.2.2.1 hn4, eq]; rfl
    · simp only [f_X11_forgotten, bnd_eq, if_neg hz]
      generalize wr m 27 0 0 = m' at *
      rw [show (m', (0 : Int32), (0 : Int32)) = (fun i => (m', itr (fun e x => x ||| od (m.1 4) e 2) 0 i, nI i)) 0 from rfl, lpk_seq (S := fun i => (m', itr (fun e x => x ||| od (m.1 4) e 2) 0 i, nI i)) (x := (m', itr (fun e x => x ||| od (m.1 4) e 2) 0 ne)) ne ?_ ?_ (by omega)]
      · simp only [h2.2.2.2.1]; rfl
      · intro i hi
        have hi4 : i < 4 := by omega
        simp only [f_X11_forgotten_L18, h2.2.2.2.2.2.2, if_neg (ix_lt hi (show ne < 2 ^ 31 by omega)), i56 hi4, t56 hi4, ↓reduceIte, h1.2.1 i hi4, bnd_eq, nI_1, itr]
      · simp only [f_X11_forgotten_L18, h2.2.2.2.2.2.2, if_pos (nI_le (Nat.le_refl ne) (show ne < 2 ^ 31 by omega))]
/-- could these elders have taught the child? -/
abbrev ctv (f : Nat → Int32) (c ne : Nat) (s : Int32) : Prop := (rt f c &&& (itr (mdF f s) 0 ne ^^^ (-1))) = 0 ∧ (kd f c 2 &&& itr (mdF f s) 0 ne) = 0
theorem could_v {s : Int32} (hE : m.1 4 96 = nI ne) (hn : ne ≤ 4) (hc : c < 8) : ∃ r, f_X8_couldHaveTaught m s (nI c) = some (r, m) ∧ (r = 1 ∧ ctv (m.1 4) c ne s ∨ r = 0 ∧ ¬ ctv (m.1 4) c ne s) := by
  simp only [f_X8_couldHaveTaught, minded_v hE hn, rightOf_v hc, kid2 hc, cal_eq, ctv]
  by_cases h1 : (rt (m.1 4) c &&& (itr (mdF (m.1 4) s) 0 ne ^^^ (-1))) = 0
  · by_cases h2 : (kd (m.1 4) c 2 &&& itr (mdF (m.1 4) s) 0 ne) = 0
    · exact ⟨1, by simp only [if_pos h1, if_pos h2], Or.inl ⟨rfl, h1, h2⟩⟩
    · exact ⟨0, by simp only [if_pos h1, if_neg h2], Or.inr ⟨rfl, fun q => h2 q.2⟩⟩
  · exact ⟨0, by simp only [if_neg h1], Or.inr ⟨rfl, fun q => h1 q.1⟩⟩
theorem mCould_v {s : Int32} (h1 : CV (m.1 38) f) (h2 : SV m f nc ne) (h3 : WF f nc ne B) (hc : c < 8) : ∃ r, f_X11_couldTeach m (nI c) s = some (r, m) ∧ (r = 1 ∧ ctv f c ne s ∨ r = 0 ∧ ¬ ctv f c ne s) := by
  have hn := h3.2.1
  unfold f_X11_couldTeach
  rw [show (m, (0 : Int32), (0 : Int32)) = (fun i => (m, itr (mdF f s) 0 i, nI i)) 0 from rfl, lpk_seq (S := fun i => (m, itr (mdF f s) 0 i, nI i)) (x := (m, itr (mdF f s) 0 ne)) ne ?_ ?_ (by omega)]
  · simp only [mRight_v h1 hc, i7_2 hc, t7_2 hc, (h1.1 c hc).2.2.1, ↓reduceIte, cal_eq, ctv]
    by_cases h1 : (rt f c &&& (itr (mdF f s) 0 ne ^^^ (-1))) = 0
    · by_cases h2 : (kd f c 2 &&& itr (mdF f s) 0 ne) = 0
      · exact ⟨1, by simp only [if_pos h1, if_pos h2], Or.inl ⟨rfl, h1, h2⟩⟩
      · exact ⟨0, by simp only [if_pos h1, if_neg h2], Or.inr ⟨rfl, fun q => h2 q.2⟩⟩
    · exact ⟨0, by simp only [if_neg h1], Or.inr ⟨rfl, fun q => h1 q.1⟩⟩
  · intro i hi
    have hi4 : i < 4 := by omega
    simp only [f_X11_couldTeach_L5, h2.2.2.2.2.2.2, if_neg (ix_lt hi (show ne < 2 ^ 31 by omega)), has_v, i56 hi4, t56 hi4, ↓reduceIte, h1.2.1 i hi4, cal_eq, bnd_eq, nI_1, itr, mdF]
    by_cases q : b0 s i
    · simp only [if_pos q, ↓reduceIte, or0]
    · simp only [if_neg q, n10, ↓reduceIte]
  · simp only [f_X11_couldTeach_L5, h2.2.2.2.2.2.2, if_pos (nI_le (Nat.le_refl ne) (show ne < 2 ^ 31 by omega))]
def tcG (f : Nat → Int32) (c ne : Nat) (i : Nat) (x : Int32) : Int32 := if ctv f c ne (nI (i + 1)) then x + 1 else x
end
