/-! calls that ask, by the trier -/
section
variable {nl B : Nat} {ln : Nat → Nat} {m m1 m2 : Sg} {j : Nat} {a a1 a2 r : Int32} {f : Nat → Int32} {nc ne c e : Nat}
theorem or0 (x : Int32) : x ||| 0 = x := by
  apply Int32.toBitVec_inj.mp
  rw [Int32.toBitVec_or]
  exact BitVec.or_zero
theorem n10 : ¬ (1 : Int32) = 0 := by decide
def t00 (m : Sg) : Sg := wr (wr m 27 0 0) 27 0 0
theorem fr_t00 : Fr scr m (t00 m) := (fr_thr m 0).tr (fr_thr _ 0)
theorem mEx2 (H : HM m f nc ne B) : f_X11_examiner (wr m 27 0 0) = some (trW f 0 ne, t00 m) := mExaminer_v (HM_fr H (fr_thr m 0))
/-- both stop where nobody tries -/
theorem q_tr {F1 : Int32 → Sg → Option (Int32 × Sg)} {o : Option (Int32 × Sg)} {F2 : Sg → Option (Int32 × Sg)} (R : Rel nl ln B m) (h1 : ∀ nc ne, HM m (m.1 4) nc ne B → trW (m.1 4) 0 ne = -1 → ∃ m2, o = some (-1, m) ∧ F2 m = some (-1, m2) ∧ Fr scr m m2) (h2 : ∀ nc ne e, HM m (m.1 4) nc ne B → e < ne → 0 < nc → trW (m.1 4) 0 ne = nI e → e < 4 → QQ nl ln B o F2) : QQ nl ln B o F2 := by
  obtain ⟨nc, ne, H⟩ := Rel_HM R
  rcases tr_cases (m.1 4) 0 ne with h | ⟨e, he, h⟩
  · obtain ⟨m2, e1, e2, e3⟩ := h1 nc ne H h
    exact QQ_q R e1 Fr.rf e2 e3
  · exact h2 nc ne e H he (HM_pos H he) h (by have := H.2.2.2.2.1; omega)
theorem n1e {e : Nat} (h : e < 9) : ¬ nI e = -1 := nI_m1 (by omega)
def thF (f : Nat → Int32) (e i : Nat) (x : Int32) : Int32 := if wnt f i e = 0 then (if (ask f e &&& (rt f i ^^^ (-1))) = 0 then x else x ||| tn (nI i)) else x
theorem only_v (hC : m.1 4 95 = nI nc) (hn : nc ≤ 8) (he : e < 4) : f_X8_onlyByTheirSteps m (nI e) = some (itr (thF (m.1 4) e) 0 nc, m) := by
  unfold f_X8_onlyByTheirSteps
  rw [show (m, (0 : Int32), (0 : Int32)) = (fun i => (m, itr (thF (m.1 4) e) 0 i, nI i)) 0 from rfl, lpk_seq (S := fun i => (m, itr (thF (m.1 4) e) 0 i, nI i)) (x := (m, itr (thF (m.1 4) e) 0 nc)) nc ?_ ?_ (by omega)]
  · intro i hi
    have hi8 : i < 8 := by omega
    simp only [f_X8_onlyByTheirSteps_L4, f_X0_children, hC, cal_eq, if_neg (ix_lt hi (show nc < 2 ^ 31 by omega)), askedBy_v he, rightOf_v hi8, stands_v hi8 he, bnd_eq, nI_1, itr, thF]
    by_cases h1 : (ask (m.1 4) e &&& (rt (m.1 4) i ^^^ (-1))) = 0 <;> by_cases h2 : wnt (m.1 4) i e = 0 <;> simp only [h1, h2, n10, ↓reduceIte, tn]
  · simp only [f_X8_onlyByTheirSteps_L4, f_X0_children, hC, cal_eq, if_pos (nI_le (Nat.le_refl nc) (show nc < 2 ^ 31 by omega))]
theorem mOnly_v (h1 : CV (m.1 38) f) (h2 : SV m f nc ne) (h3 : WF f nc ne B) (he : e < ne) : lpk (f_X11_threes_L21 (nI e)) (m, 0, 0) (fun ((m7, x8) : Sg × Int32) => some (x8, m7)) = some (itr (thF f e) 0 nc, m) := by
  have hC := h2.2.2.2.2.2.1
  have hn := h3.1.2
  have he4 : e < 4 := Nat.lt_of_lt_of_le he h3.2.1
  rw [show (m, (0 : Int32), (0 : Int32)) = (fun i => (m, itr (thF f e) 0 i, nI i)) 0 from rfl, lpk_seq (S := fun i => (m, itr (thF f e) 0 i, nI i)) (x := (m, itr (thF f e) 0 nc)) nc ?_ ?_ (by omega)]
  · intro i hi
    have hi8 : i < 8 := by omega
    have e1 : f_X11_asks 38 m (nI e) 1 = some (ask f e, m) := asksBy_v (p := 1) h1 h2 h3 he (by decide) (by decide)
    simp only [f_X11_threes_L21, hC, if_neg (ix_lt hi (show nc < 2 ^ 31 by omega)), mSlips_v h1 h2 h3 hi he, mRight_v h1 hi8, e1, cal_eq, bnd_eq, nI_1, itr, thF]
    by_cases h1 : (ask f e &&& (rt f i ^^^ (-1))) = 0 <;> by_cases h2 : wnt f i e = 0 <;> simp only [h1, h2, n10, ↓reduceIte, tn, or0]
  · simp only [f_X11_threes_L21, hC, if_pos (nI_le (Nat.le_refl nc) (show nc < 2 ^ 31 by omega))]
theorem q_threes (R : Rel nl ln B m) : QQ nl ln B (f_X10_threes m) (fun m1 => f_X11_threes m1) := by
  refine q_tr (F1 := fun _ _ => none) R (fun nc ne H h => ⟨t00 m, ?_, ?_, fr_t00⟩) (fun nc ne e H he hc h he4 => ?_)
  · simp only [f_X10_threes, trier_v H.2.2.2.1 H.2.2.2.2.1, cal_eq, h, ↓reduceIte]
  · simp only [f_X11_threes, bnd_eq, mEx2 H, cal_eq, h, ↓reduceIte]
  · obtain ⟨h1, h2, h3⟩ := (HM_fr H fr_t00).2.2.2.2.2.2.2 hc
    refine QQ_q R (r := itr (thF (m.1 4) e) 0 nc) (m1 := m) (m2 := t00 m) ?_ Fr.rf ?_ fr_t00
    · simp only [f_X10_threes, trier_v H.2.2.2.1 H.2.2.2.2.1, cal_eq, h, n1e (show e < 9 by omega), ↓reduceIte, only_v H.2.2.1 H.2.2.2.2.2.1 he4]
    · simp only [f_X11_threes, bnd_eq, mEx2 H, cal_eq, h, n1e (show e < 9 by omega), ↓reduceIte]
      exact mOnly_v h1 h2 h3 he
def fvF (f : Nat → Int32) (e i : Nat) (x : Int32) : Int32 := if (bst (ask f e) (kd f i 5) &&& ((rt f i &&& (-129)) ^^^ (-1))) = 0 then x ||| tn (nI i) else x
theorem q_fevered (R : Rel nl ln B m) : QQ nl ln B (f_X10_fevered m) (fun m1 => f_X11_fevered m1) := by
  refine q_tr (F1 := fun _ _ => none) R (fun nc ne H h => ⟨t00 m, ?_, ?_, fr_t00⟩) (fun nc ne e H he hc h he4 => ?_)
  · simp only [f_X10_fevered, trier_v H.2.2.2.1 H.2.2.2.2.1, cal_eq, h, ↓reduceIte]
  · simp only [f_X11_fevered, bnd_eq, mEx2 H, cal_eq, h, ↓reduceIte]
  · obtain ⟨h1, h2, h3⟩ := (HM_fr H fr_t00).2.2.2.2.2.2.2 hc
    have hn := H.2.2.2.2.2.1
    refine QQ_q R (r := itr (fvF (m.1 4) e) 0 nc) (m1 := m) (m2 := t00 m) ?_ Fr.rf ?_ fr_t00
    · simp only [f_X10_fevered, trier_v H.2.2.2.1 H.2.2.2.2.1, cal_eq, h, n1e (show e < 9 by omega), ↓reduceIte, f_X8_standingFevered]
      rw [show (m, (0 : Int32), (0 : Int32)) = (fun i => (m, itr (fvF (m.1 4) e) 0 i, nI i)) 0 from rfl, lpk_seq (S := fun i => (m, itr (fvF (m.1 4) e) 0 i, nI i)) (x := (m, itr (fvF (m.1 4) e) 0 nc)) nc ?_ ?_ (by omega)]
      · rfl
      · intro i hi
        have hi8 : i < 8 := by omega
        simp only [f_X8_standingFevered_L4, f_X0_children, H.2.2.1, cal_eq, if_neg (ix_lt hi (show nc < 2 ^ 31 by omega)), askedBy_v he4, rightOf_v hi8, askedOf_v hi8, bnd_eq, nI_1, itr, fvF]
        by_cases q : (bst (ask (m.1 4) e) (kd (m.1 4) i 5) &&& ((rt (m.1 4) i &&& (-129)) ^^^ (-1))) = 0 <;> simp only [q, ↓reduceIte, tn]
      · simp only [f_X8_standingFevered_L4, f_X0_children, H.2.2.1, cal_eq, if_pos (nI_le (Nat.le_refl nc) (show nc < 2 ^ 31 by omega))]
    · simp only [f_X11_fevered, bnd_eq, mEx2 H, cal_eq, h, n1e (show e < 9 by omega), ↓reduceIte]
      rw [show (t00 m, (0 : Int32), (0 : Int32)) = (fun i => (t00 m, itr (fvF (m.1 4) e) 0 i, nI i)) 0 from rfl, lpk_seq (S := fun i => (t00 m, itr (fvF (m.1 4) e) 0 i, nI i)) (x := (t00 m, itr (fvF (m.1 4) e) 0 nc)) nc ?_ ?_ (by omega)]
      · intro i hi
        have hi8 : i < 8 := by omega
        obtain ⟨p, p0, p1, p2⟩ := (h3.2.2.2.2.1 i hi).2.2.2.2.2.1
        simp only [f_X11_fevered_L21, h2.2.2.2.2.2.1, if_neg (ix_lt hi (show nc < 2 ^ 31 by omega)), i6_5 hi8, t6_5 hi8, ↓reduceIte, (h2.1 i hi).2.2, p2, asksBy_v h1 h2 h3 he p0 p1, mRight_v h1 hi8, cal_eq, bnd_eq, nI_1, itr, fvF]
        by_cases q : (bst (ask (m.1 4) e) (nI p) &&& ((rt (m.1 4) i &&& (-129)) ^^^ (-1))) = 0 <;> simp only [q, ↓reduceIte, tn, or0]
      · simp only [f_X11_fevered_L21, h2.2.2.2.2.2.1, if_pos (nI_le (Nat.le_refl nc) (show nc < 2 ^ 31 by omega))]
theorem q_plums (R : Rel nl ln B m) : QQ nl ln B (f_X10_plums m a1) (fun m1 => f_X11_plums m1 a1) := by
  refine q_tr (F1 := fun _ _ => none) R (fun nc ne H h => ⟨wr m 27 0 0, ?_, ?_, fr_thr m 0⟩) (fun nc ne e H he hc h he4 => ?_)
  · simp only [f_X10_plums, trier_v H.2.2.2.1 H.2.2.2.2.1, cal_eq, bnd_eq, h, ↓reduceIte]
  · have H' := HM_fr H (fr_thr m 0)
    by_cases hz : nc = 0
    · simp only [f_X11_plums, bnd_eq, (n24 H'.1 H'.2.2.2.2.2.1).mpr hz, ↓reduceIte]
    · obtain ⟨h1, h2, h3⟩ := H'.2.2.2.2.2.2.2 (by omega)
      simp only [f_X11_plums, bnd_eq, if_neg (fun q => hz ((n24 H'.1 H'.2.2.2.2.2.1).mp q)), mExam_v h1 h2 h3, cal_eq, h, ↓reduceIte]
  · have H' := HM_fr H (fr_thr m 0)
    obtain ⟨h1, h2, h3⟩ := H'.2.2.2.2.2.2.2 hc
    have hz : ¬ (wr m 27 0 0).1 27 24 = 0 := fun q => by have := (n24 H'.1 H'.2.2.2.2.2.1).mp q; omega
    rcases ch_cases a1 H.2.2.2.2.2.1 with q | ⟨c, hc, q⟩
    · refine QQ_q R (r := -1) (m1 := m) (m2 := wr m 27 0 0) ?_ Fr.rf ?_ (fr_thr m 0)
      · simp only [f_X10_plums, trier_v H.2.2.2.1 H.2.2.2.2.1, cal_eq, bnd_eq, h, n1e (show e < 9 by omega), ↓reduceIte, hC_no H.2.2.1 q]
      · simp only [f_X11_plums, bnd_eq, if_neg hz, mExam_v h1 h2 h3, h, n1e (show e < 9 by omega), ↓reduceIte, iC_no H'.1 q, cal_eq]
    · subst q
      have hc8 : c < 8 := by have := H.2.2.2.2.2.1; omega
      refine QQ_q R (r := m.1 4 94 * bcV (wnt (m.1 4) c e)) (m1 := m) (m2 := wr m 27 0 0) ?_ Fr.rf ?_ (fr_thr m 0)
      · simp only [f_X10_plums, trier_v H.2.2.2.1 H.2.2.2.2.1, cal_eq, bnd_eq, h, n1e (show e < 9 by omega), ↓reduceIte, hC_yes H.2.2.1 hc H.2.2.2.2.2.1, n10, f_X0_plumsToStand, wants_v hc8 he4, bc_v]
      · simp only [f_X11_plums, bnd_eq, if_neg hz, mExam_v h1 h2 h3, h, n1e (show e < 9 by omega), ↓reduceIte, iC_yes H'.1 hc H.2.2.2.2.2.1, cal_eq, n10, f_X11_plumsOf, mSlips_v h1 h2 h3 hc he, bc_v, h2.2.2.2.2.1]
theorem q_soon (R : Rel nl ln B m) : QQ nl ln B (f_X10_soon m a1) (fun m1 => f_X11_soon m1 a1) := by
  refine q_tr (F1 := fun _ _ => none) R (fun nc ne H h => ⟨t00 m, ?_, ?_, fr_t00⟩) (fun nc ne e H he hc h he4 => ?_)
  · simp only [f_X10_soon, trier_v H.2.2.2.1 H.2.2.2.2.1, cal_eq, bnd_eq, h, ↓reduceIte]
  · simp only [f_X11_soon, bnd_eq, mEx2 H, cal_eq, h, ↓reduceIte]
  · have H' := HM_fr H fr_t00
    obtain ⟨h1, h2, h3⟩ := H'.2.2.2.2.2.2.2 hc
    rcases ch_cases a1 H.2.2.2.2.2.1 with q | ⟨c, hc, q⟩
    · refine QQ_q R (r := -1) (m1 := m) (m2 := t00 m) ?_ Fr.rf ?_ fr_t00
      · simp only [f_X10_soon, trier_v H.2.2.2.1 H.2.2.2.2.1, cal_eq, bnd_eq, h, n1e (show e < 9 by omega), ↓reduceIte, hC_no H.2.2.1 q]
      · simp only [f_X11_soon, bnd_eq, mEx2 H, cal_eq, h, n1e (show e < 9 by omega), ↓reduceIte, iC_no H'.1 q]
    · subst q
      have hc8 : c < 8 := by have := H.2.2.2.2.2.1; omega
      by_cases w : wnt (m.1 4) c e = 0
      · refine QQ_q R (r := 0) (m1 := m) (m2 := t00 m) ?_ Fr.rf ?_ fr_t00
        · simp only [f_X10_soon, trier_v H.2.2.2.1 H.2.2.2.2.1, cal_eq, bnd_eq, h, n1e (show e < 9 by omega), ↓reduceIte, hC_yes H.2.2.1 hc H.2.2.2.2.2.1, n10, f_X0_monthsToStand, wants_v hc8 he4, w]
        · simp only [f_X11_soon, bnd_eq, mEx2 H, cal_eq, h, n1e (show e < 9 by omega), ↓reduceIte, iC_yes H'.1 hc H.2.2.2.2.2.1, n10, mSlips_v h1 h2 h3 hc he, w]
      · have hl := (h3.2.2.2.2.1 c hc).2.2.2.2.2.2.1
        by_cases l : kd (m.1 4) c 6 = -1
        · have l7 : kd (m.1 4) c 7 = 0 := by
            rcases hl with q | ⟨⟨t, t1, t2⟩, _⟩
            · exact q.2
            · rw [t2] at l; exact absurd l (n1e (by omega))
          refine QQ_q R (r := kd (m.1 4) c 7 + kd (m.1 4) c 4 * bcV (wnt (m.1 4) c e)) (m1 := m) (m2 := t00 m) ?_ Fr.rf ?_ fr_t00
          · simp only [f_X10_soon, trier_v H.2.2.2.1 H.2.2.2.2.1, cal_eq, bnd_eq, h, n1e (show e < 9 by omega), ↓reduceIte, hC_yes H.2.2.1 hc H.2.2.2.2.2.1, n10, f_X0_monthsToStand, wants_v hc8 he4, w, kid6 hc8, kid7 hc8, kid4 hc8, l, bc_v]
          · simp only [f_X11_soon, bnd_eq, mEx2 H, cal_eq, h, n1e (show e < 9 by omega), ↓reduceIte, iC_yes H'.1 hc H.2.2.2.2.2.1, n10, mSlips_v h1 h2 h3 hc he, w, i7_3 hc8, t7_3 hc8, i6_4 hc8, t6_4 hc8, (h1.1 c hc8).2.2.2.1, l, l7, bc_v, (h2.1 c hc).2.1]
        · refine QQ_q R (r := kd (m.1 4) c 7 + kd (m.1 4) c 4 * bcV (wnt (m.1 4) c e &&& ((1 <<< (kd (m.1 4) c 6 &&& 31)) ^^^ (-1)))) (m1 := m) (m2 := t00 m) ?_ Fr.rf ?_ fr_t00
          · simp only [f_X10_soon, trier_v H.2.2.2.1 H.2.2.2.2.1, cal_eq, bnd_eq, h, n1e (show e < 9 by omega), ↓reduceIte, hC_yes H.2.2.1 hc H.2.2.2.2.2.1, n10, f_X0_monthsToStand, wants_v hc8 he4, w, kid6 hc8, kid7 hc8, kid4 hc8, l, bc_v]
          · simp only [f_X11_soon, bnd_eq, mEx2 H, cal_eq, h, n1e (show e < 9 by omega), ↓reduceIte, iC_yes H'.1 hc H.2.2.2.2.2.1, n10, mSlips_v h1 h2 h3 hc he, w, i7_3 hc8, t7_3 hc8, i6_4 hc8, t6_4 hc8, i7_4 hc8, t7_4 hc8, (h1.1 c hc8).2.2.2.1, (h1.1 c hc8).2.2.2.2.1, l, bc_v, (h2.1 c hc).2.1]
theorem q_spoil (R : Rel nl ln B m) : QQ nl ln B (f_X10_spoil m a1) (fun m1 => f_X11_spoil m1 a1) := by
  refine q_tr (F1 := fun _ _ => none) R (fun nc ne H h => ⟨t00 m, ?_, ?_, fr_t00⟩) (fun nc ne e H he hc h he4 => ?_)
  · simp only [f_X10_spoil, trier_v H.2.2.2.1 H.2.2.2.2.1, cal_eq, bnd_eq, h, ↓reduceIte]
  · simp only [f_X11_spoil, bnd_eq, mEx2 H, cal_eq, h, ↓reduceIte]
  · have H' := HM_fr H fr_t00
    obtain ⟨h1, h2, h3⟩ := H'.2.2.2.2.2.2.2 hc
    rcases ch_cases a1 H.2.2.2.2.2.1 with q | ⟨c, hc, q⟩
    · refine QQ_q R (r := -1) (m1 := m) (m2 := t00 m) ?_ Fr.rf ?_ fr_t00
      · simp only [f_X10_spoil, trier_v H.2.2.2.1 H.2.2.2.2.1, cal_eq, bnd_eq, h, n1e (show e < 9 by omega), ↓reduceIte, hC_no H.2.2.1 q]
      · simp only [f_X11_spoil, bnd_eq, mEx2 H, cal_eq, h, n1e (show e < 9 by omega), ↓reduceIte, iC_no H'.1 q]
    · subst q
      have hc8 : c < 8 := by have := H.2.2.2.2.2.1; omega
      by_cases w : wnt (m.1 4) c e = 0
      · obtain ⟨p, p0, p1, p2⟩ := (h3.2.2.2.2.1 c hc).2.2.2.2.2.1
        refine QQ_q R (r := lowT (bst (ask (m.1 4) e) (kd (m.1 4) c 5))) (m1 := m) (m2 := t00 m) ?_ Fr.rf ?_ fr_t00
        · simp only [f_X10_spoil, trier_v H.2.2.2.1 H.2.2.2.2.1, cal_eq, bnd_eq, h, n1e (show e < 9 by omega), ↓reduceIte, hC_yes H.2.2.1 hc H.2.2.2.2.2.1, n10, stands_v hc8 he4, w, askedBy_v he4, askedOf_v hc8, lowestTen_v]
        · simp only [f_X11_spoil, bnd_eq, mEx2 H, cal_eq, h, n1e (show e < 9 by omega), ↓reduceIte, iC_yes H'.1 hc H.2.2.2.2.2.1, n10, mSlips_v h1 h2 h3 hc he, w, i6_5 hc8, t6_5 hc8, (h2.1 c hc).2.2, p2, asksBy_v h1 h2 h3 he p0 p1]
          generalize bst (ask (m.1 4) e) (nI p) = x
          rw [show (t00 m, (0 : Int32)) = (fun i => (t00 m, nI i)) 0 from rfl, lpk_scn (S := fun i => (t00 m, nI i)) (P := fun i => (if b0 x i then none else some (nI i)).map (fun t => Sum.inl (t00 m, t))) (y := .inr (t00 m)) 9 ?_ ?_ (by decide)]
          · rw [scn_map]; unfold lowT; cases scn _ 0 9 <;> rfl
          · intro q hq
            simp only [f_X11_spoil_L62, if_neg (show ¬ (9 : Int32) ≤ nI q from ix_lt (n := 9) hq (by decide)), has_v, cal_eq, bnd_eq, nI_1]
            by_cases h : b0 x q
            · rw [if_pos h, if_pos h]; rfl
            · rw [if_neg h, if_neg h]; rfl
          · rfl
      · refine QQ_q R (r := -1) (m1 := m) (m2 := t00 m) ?_ Fr.rf ?_ fr_t00
        · simp only [f_X10_spoil, trier_v H.2.2.2.1 H.2.2.2.2.1, cal_eq, bnd_eq, h, n1e (show e < 9 by omega), ↓reduceIte, hC_yes H.2.2.1 hc H.2.2.2.2.2.1, n10, stands_v hc8 he4, w]
        · simp only [f_X11_spoil, bnd_eq, mEx2 H, cal_eq, h, n1e (show e < 9 by omega), ↓reduceIte, iC_yes H'.1 hc H.2.2.2.2.2.1, n10, mSlips_v h1 h2 h3 hc he, w]
def rvF (f : Nat → Int32) (c e i : Nat) (x : Int32) : Int32 := if kd f c 0 ≤ kd f i 0 then x else if f 92 ≤ kd f i 0 then x else if wnt f i e = 0 then x ||| tn (nI i) else x
theorem q_rivals (R : Rel nl ln B m) : QQ nl ln B (f_X10_rivals m a1) (fun m1 => f_X11_rivals m1 a1) := by
  refine q_tr (F1 := fun _ _ => none) R (fun nc ne H h => ⟨t00 m, ?_, ?_, fr_t00⟩) (fun nc ne e H he hc h he4 => ?_)
  · simp only [f_X10_rivals, trier_v H.2.2.2.1 H.2.2.2.2.1, cal_eq, bnd_eq, h, ↓reduceIte]
  · simp only [f_X11_rivals, bnd_eq, mEx2 H, cal_eq, h, ↓reduceIte]
  · have H' := HM_fr H fr_t00
    have hn := H.2.2.2.2.2.1
    obtain ⟨h1, h2, h3⟩ := H'.2.2.2.2.2.2.2 hc
    rcases ch_cases a1 H.2.2.2.2.2.1 with q | ⟨c, hc, q⟩
    · refine QQ_q R (r := -1) (m1 := m) (m2 := t00 m) ?_ Fr.rf ?_ fr_t00
      · simp only [f_X10_rivals, trier_v H.2.2.2.1 H.2.2.2.2.1, cal_eq, bnd_eq, h, n1e (show e < 9 by omega), ↓reduceIte, hC_no H.2.2.1 q]
      · simp only [f_X11_rivals, bnd_eq, mEx2 H, cal_eq, h, n1e (show e < 9 by omega), ↓reduceIte, iC_no H'.1 q]
    · subst q
      have hc8 : c < 8 := by omega
      refine QQ_q R (r := itr (rvF (m.1 4) c e) 0 nc) (m1 := m) (m2 := t00 m) ?_ Fr.rf ?_ fr_t00
      · simp only [f_X10_rivals, trier_v H.2.2.2.1 H.2.2.2.2.1, cal_eq, bnd_eq, h, n1e (show e < 9 by omega), ↓reduceIte, hC_yes H.2.2.1 hc hn, n10, f_X8_youngerStanding]
        rw [show (m, (0 : Int32), (0 : Int32)) = (fun i => (m, itr (rvF (m.1 4) c e) 0 i, nI i)) 0 from rfl, lpk_seq (S := fun i => (m, itr (rvF (m.1 4) c e) 0 i, nI i)) (x := (m, itr (rvF (m.1 4) c e) 0 nc)) nc ?_ ?_ (by omega)]
        · rfl
        · intro i hi
          have hi8 : i < 8 := by omega
          simp only [f_X8_youngerStanding_L5, f_X0_children, H.2.2.1, cal_eq, if_neg (ix_lt hi (show nc < 2 ^ 31 by omega)), isYounger_v hi8 hc8, isBelow_v hi8, stands_v hi8 he4, bnd_eq, nI_1, itr, rvF]
          by_cases q1 : kd (m.1 4) c 0 ≤ kd (m.1 4) i 0 <;> by_cases q2 : m.1 4 92 ≤ kd (m.1 4) i 0 <;> by_cases q3 : wnt (m.1 4) i e = 0 <;> simp only [q1, q2, q3, n10, ↓reduceIte, tn]
        · simp only [f_X8_youngerStanding_L5, f_X0_children, H.2.2.1, cal_eq, if_pos (nI_le (Nat.le_refl nc) (show nc < 2 ^ 31 by omega))]
      · simp only [f_X11_rivals, bnd_eq, mEx2 H, cal_eq, h, n1e (show e < 9 by omega), ↓reduceIte, iC_yes H'.1 hc hn, n10]
        rw [show (t00 m, (0 : Int32), (0 : Int32)) = (fun i => (t00 m, itr (rvF (m.1 4) c e) 0 i, nI i)) 0 from rfl, lpk_seq (S := fun i => (t00 m, itr (rvF (m.1 4) c e) 0 i, nI i)) (x := (t00 m, itr (rvF (m.1 4) c e) 0 nc)) nc ?_ ?_ (by omega)]
        · intro i hi
          have hi8 : i < 8 := by omega
          simp only [f_X11_rivals_L30, h2.2.2.2.2.2.1, if_neg (ix_lt hi (show nc < 2 ^ 31 by omega)), i7_0 hi8, t7_0 hi8, i7_0 hc8, t7_0 hc8, ↓reduceIte, (h1.1 i hi8).1, (h1.1 c hc8).1, h2.2.2.1, mSlips_v h1 h2 h3 hi he, cal_eq, bnd_eq, nI_1, itr, rvF]
          by_cases q1 : kd (m.1 4) c 0 ≤ kd (m.1 4) i 0 <;> by_cases q2 : m.1 4 92 ≤ kd (m.1 4) i 0 <;> by_cases q3 : wnt (m.1 4) i e = 0 <;> simp only [q1, q2, q3, n10, ↓reduceIte, tn, or0]
        · simp only [f_X11_rivals_L30, h2.2.2.2.2.2.1, if_pos (nI_le (Nat.le_refl nc) (show nc < 2 ^ 31 by omega))]
theorem q_heir (R : Rel nl ln B m) : QQ nl ln B (f_X10_heir m) (fun m1 => f_X11_heir m1) := by
  refine q_tr (F1 := fun _ _ => none) R (fun nc ne H h => ⟨t00 m, ?_, ?_, fr_t00⟩) (fun nc ne e H he hc h he4 => ?_)
  · simp only [f_X10_heir, trier_v H.2.2.2.1 H.2.2.2.2.1, cal_eq, bnd_eq, h, ↓reduceIte]
  · have H' := HM_fr H fr_t00
    simp only [f_X11_heir, bnd_eq, mEx2 H, cal_eq, h]
    rw [show (t00 m, (-1 : Int32), (0 : Int32)) = (fun i => (t00 m, (-1 : Int32), (0 : Int32))) 0 from rfl, lpk_seq (S := fun _ => (t00 m, (-1 : Int32), (0 : Int32))) (x := (t00 m, -1)) 0 (fun i hi => absurd hi (Nat.not_lt_zero _)) ?_ (by decide)]
    simp only [f_X11_heir_L14, H'.1, ↓reduceIte]
    split <;> rfl
  · have H' := HM_fr H fr_t00
    have hn := H.2.2.2.2.2.1
    obtain ⟨h1, h2, h3⟩ := H'.2.2.2.2.2.2.2 hc
    refine QQ_q R (r := clM (m.1 4) (ask (m.1 4) e) (m.1 4 98) nc) (m1 := m) (m2 := t00 m) ?_ Fr.rf ?_ fr_t00
    · simp only [f_X10_heir, trier_v H.2.2.2.1 H.2.2.2.2.1, cal_eq, bnd_eq, h, n1e (show e < 9 by omega), ↓reduceIte, askedBy_v he4, f_X0_ruler, claimant_v H.2.2.1 hn]
    · simp only [f_X11_heir, bnd_eq, mEx2 H, cal_eq, h]
      rw [show (t00 m, (-1 : Int32), (0 : Int32)) = (fun i => (t00 m, itr (clF (m.1 4) (ask (m.1 4) e) (m.1 4 98)) (-1) i, nI i)) 0 from rfl, lpk_seq (S := fun i => (t00 m, itr (clF (m.1 4) (ask (m.1 4) e) (m.1 4 98)) (-1) i, nI i)) (x := (t00 m, clM (m.1 4) (ask (m.1 4) e) (m.1 4 98) nc)) nc ?_ ?_ (by omega)]
      · intro i hi
        have hi8 : i < 8 := by omega
        simp only [f_X11_heir_L14, h2.2.2.2.2.2.1, if_neg (ix_lt hi (show nc < 2 ^ 31 by omega)), n1e (show e < 9 by omega), i7_0 hi8, t7_0 hi8, ↓reduceIte, (h1.1 i hi8).1, h1.2.2.2, h2.2.2.1, mSlips_v h1 h2 h3 hi he, cal_eq, bnd_eq, nI_1, itr]
        generalize hx : itr (clF (m.1 4) (ask (m.1 4) e) (m.1 4 98)) (-1) i = x
        have hI : isI x i := hx ▸ itr_isI clF_or i
        unfold clF
        rw [show lck (m.1 4) i (ask (m.1 4) e) = wnt (m.1 4) i e from rfl]
        by_cases q1 : nI i = m.1 4 98
        · simp only [if_pos q1]
        · by_cases q2 : m.1 4 92 ≤ kd (m.1 4) i 0
          · simp only [if_neg q1, if_pos q2]
          · by_cases q3 : wnt (m.1 4) i e = 0
            · simp only [if_neg q1, if_neg q2, if_pos q3]
              rcases hI with h3 | ⟨d, hd, h3⟩
              · simp only [if_pos h3]
              · subst h3
                have hd8 : d < 8 := by omega
                simp only [if_neg (n1e (show d < 9 by omega)), i7_0 hd8, t7_0 hd8, ↓reduceIte, (h1.1 d hd8).1, nI_clamp (show d < 2 ^ 31 by omega)]
                split <;> rfl
            · simp only [if_neg q1, if_neg q2, if_neg q3]
      · simp only [f_X11_heir_L14, h2.2.2.2.2.2.1, if_pos (nI_le (Nat.le_refl nc) (show nc < 2 ^ 31 by omega))]; rfl
end
