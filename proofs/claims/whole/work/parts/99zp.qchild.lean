/-! child once more: whatever stands beside -/
section
variable {nl B : Nat} {ln : Nat → Nat} {m m1 m2 : Sg} {a1 a2 : Int32}
theorem q_child2 (R : Rel nl ln B m) (hon : chOn m a1 a2) : ∃ r m1, f_X10_child nl ln m a1 a2 = some (r, m1) ∧ Fr scr m m1 ∧ ∀ m9, Fr scr m m9 → ∃ m2, f_X11_child m9 a1 a2 = some (r, m2) ∧ m2.1 27 0 = 0 ∧ Rel nl ln B m2 := by
  obtain ⟨V, hl, h4, hi, eh⟩ := Rel_LR R
  obtain ⟨nc, ne, H⟩ := Rel_HM R
  have hn8 := H.2.2.2.2.2.1
  rcases ch_cases a1 hn8 with h | ⟨c, hc, h⟩
  · rcases h with h | h
    · exact absurd h hon.1
    · exact absurd (by rw [H.2.2.1]; exact h.2) hon.2.1
  · subst h
    have hc8 : c < 8 := by omega
    rcases hund_cases a2 (n := 12) (by decide) with h | ⟨v, hv, h⟩
    · rcases h with h | h
      · exact absurd h hon.2.2.1
      · exact absurd (Int32.lt_of_lt_of_le (show (11 : Int32) < nI 12 by decide) h.2) hon.2.2.2
    · subst h
      have base1 : f_X10_child nl ln m (nI c) (nI v) = (if nI v = 10 then cal (f_X0_countOf 4 m (nI c)) (fun x12 m11 => some (x12, m11)) else (if nI v = 11 then cal (f_X5_holding m) (fun x8 m7 => cal (f_X5_taxOf nl ln 4 m7 (nI c) x8) (fun x10 m9 => some (x10, m9))) else cal (f_X0_kid 4 m (nI c) (nI v)) (fun x6 m5 => some (x6, m5)))) := by
        simp only [f_X10_child, hC_yes H.2.2.1 hc hn8, cal_eq, bnd_eq, n10, ↓reduceIte, if_neg (nI_pos (show v < 2 ^ 31 by omega)), if_pos (show nI v ≤ 11 from nI_le (b := 11) (by omega) (by decide))]
      have H0 : ∀ m', Fr scr m m' → m'.1 27 24 = nI nc := fun m' z => (HM_fr H z).1
      have base2 : ∀ m', Fr scr m m' → f_X11_child m' (nI c) (nI v) = (let m6 := wr m' 27 0 0; if nI v = 0 then if inr ((7 * nI c) + 0) 244 = true then some (m6.1 38 ((7 * nI c) + 0).toNatClampNeg, m6) else none else
  (if nI v = 1 then if inr ((7 * nI c) + 1) 244 = true then some (m6.1 38 ((7 * nI c) + 1).toNatClampNeg, m6) else none else
  (if nI v = 2 then if inr ((7 * nI c) + 2) 244 = true then some (m6.1 38 ((7 * nI c) + 2).toNatClampNeg, m6) else none else
  (if nI v = 3 then if inr ((6 * nI c) + nI v) 48 = true then some (m6.1 32 ((6 * nI c) + nI v).toNatClampNeg, m6) else none else
  (if nI v = 4 then if inr ((6 * nI c) + nI v) 48 = true then some (m6.1 32 ((6 * nI c) + nI v).toNatClampNeg, m6) else none else
  (if nI v = 5 then if inr ((6 * nI c) + nI v) 48 = true then some (m6.1 32 ((6 * nI c) + nI v).toNatClampNeg, m6) else none else
  (if nI v = 6 then if inr (((7 * nI c) + nI v) - 3) 244 = true then some (m6.1 38 (((7 * nI c) + nI v) - 3).toNatClampNeg, m6) else none else
  (if nI v = 7 then if inr (((7 * nI c) + nI v) - 3) 244 = true then some (m6.1 38 (((7 * nI c) + nI v) - 3).toNatClampNeg, m6) else none else
  (if nI v = 8 then if inr (((7 * nI c) + nI v) - 3) 244 = true then some (m6.1 38 (((7 * nI c) + nI v) - 3).toNatClampNeg, m6) else none else
  (if nI v = 9 then if inr (((7 * nI c) + nI v) - 3) 244 = true then some (m6.1 38 (((7 * nI c) + nI v) - 3).toNatClampNeg, m6) else none else
  (if nI v = 10 then cal (f_X11_countOf 38 m6 (nI c)) (fun x8 m7 => some (x8, m7)) else
  (if nI v = 11 then cal (f_X11_taxOf 38 m6 (nI c)) (fun x10 m9 => some (x10, m9)) else
  if inr (((7 * nI c) + nI v) - 3) 244 = true then some (m6.1 38 (((7 * nI c) + nI v) - 3).toNatClampNeg, m6) else none)))))))))))) := by
        intro m' z
        have z1 : (wr m' 27 0 0).1 27 0 ≤ 0 := Int32.le_refl 0
        simp only [f_X11_child, iC_yes (H0 m' z) hc hn8, cal_eq, bnd_eq, n10, ↓reduceIte, in11_yes hv, if_pos z1]
      have s7 : ∀ k, k < 7 → ∀ q : Int32, q = nI (k + 3) → (((7 : Int32) * nI c) + q) - 3 = 7 * nI c + nI k := by
        intro k hk q hq
        subst hq
        rw [show (7 : Int32) * nI c = nI (7 * c) from pk_mul 7 c, nI_add, show (3 : Int32) = nI 3 from rfl, pk_sub (by omega), nI_add]
        rfl
      have told := R.2.2.2.2
      have r9 : ∀ m9, Fr scr m m9 → (wr m9 27 0 0).1 38 (7 * c + 6) = kd (m.1 4) c 9 := by
        intro m9 z
        rw [fr_ess (z.tr (fr_thr m9 0)) (e_all (by simp) _)]
        rcases told with u | ⟨nc', ne', t⟩
        · have := H.2.2.1; rw [u.1] at this; exact absurd this.symm (nI_ne0 (by omega) (by omega))
        · exact t.2.1.2.2.1 c hc8
      by_cases v10 : v = 10
      · subst v10
        refine ⟨cnt (m.1 4) c, m, ?_, Fr.rf, fun m9 z => ⟨wr m9 27 0 0, ?_, rfl, Rel_fr R (z.tr (fr_thr m9 0))⟩⟩
        · rw [base1, if_pos (by decide), countOf_v hc8]; rfl
        · obtain ⟨t1, t2, t3⟩ := (HM_fr H (z.tr (fr_thr m9 0))).2.2.2.2.2.2.2 (show 0 < nc by omega)
          rw [base2 m9 z]
          show cal (f_X11_countOf 38 (wr m9 27 0 0) (nI c)) (fun x8 m7 => some (x8, m7)) = some (cnt (m.1 4) c, wr m9 27 0 0)
          rw [mCount_v t1 hc8]; rfl
      by_cases v11 : v = 11
      · subst v11
        obtain ⟨m1, e1⟩ := taxOf_v (j := 4) hl h4 hi (by decide) hc8
        have f1 : Fr scr m m1 := fr_X5_taxOf (S := scr) (fun _ => rfl) scr_law e1
        refine ⟨taxV V (m.1 13 3) (ltC (m.1 4) c) (cnt (m.1 4) c), m1, ?_, f1, fun m9 z => ?_⟩
        · rw [base1, if_neg (by decide), if_pos (by decide)]
          simp only [f_X5_holding, cal_eq, e1]
        · have f2 := z.tr (fr_thr m9 0)
          have c31 : (wr m9 27 0 0).1 27 31 = m.1 13 3 := (fr_ess f2 rfl).trans eh
          obtain ⟨u1, u2, u3⟩ := (HM_fr H f2).2.2.2.2.2.2.2 (show 0 < nc by omega)
          obtain ⟨m2, e2⟩ := mTaxOf_v (w := 38) (LR_fr hl f2) h4 (by rw [c31]; exact hi) u1 u2 hc hn8
          rw [c31] at e2
          have f3 : Fr (fun p k => scr p k && !(p == 27 && k == 0)) (wr m9 27 0 0) m2 := fr_X11_taxOf (S := fun p k => scr p k && !(p == 27 && k == 0)) rfl rfl rfl rfl rfl rfl rfl rfl rfl (fun _ => rfl) e2
          have f3' : Fr scr (wr m9 27 0 0) m2 := ⟨fun p k h => f3.1 p k (by simp [h]), fun p h => f3.2 p (by simp [h])⟩
          refine ⟨m2, ?_, ?_, Rel_fr R (f2.tr f3')⟩
          · rw [base2 m9 z]
            show cal (f_X11_taxOf 38 (wr m9 27 0 0) (nI c)) (fun x10 m9 => some (x10, m9)) = _
            rw [e2]; rfl
          · rw [f3.1 27 0 rfl]; rfl
      refine ⟨kd (m.1 4) c v, m, ?_, Fr.rf, fun m9 z => ⟨wr m9 27 0 0, ?_, rfl, Rel_fr R (z.tr (fr_thr m9 0))⟩⟩
      · have n1 : ¬ nI v = 10 := fun q => v10 ((nI_eq (a := v) (b := 10) (by omega) (by decide)).mp q)
        have n2 : ¬ nI v = 11 := fun q => v11 ((nI_eq (a := v) (b := 11) (by omega) (by decide)).mp q)
        rw [base1, if_neg n1, if_neg n2, kid_v hc8 (show v < 10 by omega)]; rfl
      · obtain ⟨t1, t2, t3⟩ := (HM_fr H (z.tr (fr_thr m9 0))).2.2.2.2.2.2.2 (show 0 < nc by omega)
        rw [base2 m9 z]
        rcases (show v = 0 ∨ v = 1 ∨ v = 2 ∨ v = 3 ∨ v = 4 ∨ v = 5 ∨ v = 6 ∨ v = 7 ∨ v = 8 ∨ v = 9 by omega) with h | h | h | h | h | h | h | h | h | h
        · subst h
          show (if inr (7 * nI c + 0) 244 = true then some ((wr m9 27 0 0).1 38 (7 * nI c + 0).toNatClampNeg, wr m9 27 0 0) else none) = _
          rw [if_pos (i7_0 hc8), t7_0 hc8, (t1.1 c hc8).1]
        · subst h
          show (if inr (7 * nI c + 1) 244 = true then some ((wr m9 27 0 0).1 38 (7 * nI c + 1).toNatClampNeg, wr m9 27 0 0) else none) = _
          rw [if_pos (i7_1 hc8), t7_1 hc8, (t1.1 c hc8).2.1]
        · subst h
          show (if inr (7 * nI c + 2) 244 = true then some ((wr m9 27 0 0).1 38 (7 * nI c + 2).toNatClampNeg, wr m9 27 0 0) else none) = _
          rw [if_pos (i7_2 hc8), t7_2 hc8, (t1.1 c hc8).2.2.1]
        · subst h
          show (if inr (6 * nI c + 3) 48 = true then some ((wr m9 27 0 0).1 32 (6 * nI c + 3).toNatClampNeg, wr m9 27 0 0) else none) = _
          rw [if_pos (i6_3 hc8), t6_3 hc8, (t2.1 c hc).1]
        · subst h
          show (if inr (6 * nI c + 4) 48 = true then some ((wr m9 27 0 0).1 32 (6 * nI c + 4).toNatClampNeg, wr m9 27 0 0) else none) = _
          rw [if_pos (i6_4 hc8), t6_4 hc8, (t2.1 c hc).2.1]
        · subst h
          show (if inr (6 * nI c + 5) 48 = true then some ((wr m9 27 0 0).1 32 (6 * nI c + 5).toNatClampNeg, wr m9 27 0 0) else none) = _
          rw [if_pos (i6_5 hc8), t6_5 hc8, (t2.1 c hc).2.2]
        · subst h
          show (if inr (7 * nI c + 6 - 3) 244 = true then some ((wr m9 27 0 0).1 38 (7 * nI c + 6 - 3).toNatClampNeg, wr m9 27 0 0) else none) = _
          rw [s7 3 (by decide) 6 rfl, show (7 : Int32) * nI c + nI 3 = 7 * nI c + 3 from rfl, if_pos (i7_3 hc8), t7_3 hc8, (t1.1 c hc8).2.2.2.1]
        · subst h
          show (if inr (7 * nI c + 7 - 3) 244 = true then some ((wr m9 27 0 0).1 38 (7 * nI c + 7 - 3).toNatClampNeg, wr m9 27 0 0) else none) = _
          rw [s7 4 (by decide) 7 rfl, show (7 : Int32) * nI c + nI 4 = 7 * nI c + 4 from rfl, if_pos (i7_4 hc8), t7_4 hc8, (t1.1 c hc8).2.2.2.2.1]
        · subst h
          show (if inr (7 * nI c + 8 - 3) 244 = true then some ((wr m9 27 0 0).1 38 (7 * nI c + 8 - 3).toNatClampNeg, wr m9 27 0 0) else none) = _
          rw [s7 5 (by decide) 8 rfl, show (7 : Int32) * nI c + nI 5 = 7 * nI c + 5 from rfl, if_pos (i7_5 hc8), t7_5 hc8, (t1.1 c hc8).2.2.2.2.2]
        · subst h
          show (if inr (7 * nI c + 9 - 3) 244 = true then some ((wr m9 27 0 0).1 38 (7 * nI c + 9 - 3).toNatClampNeg, wr m9 27 0 0) else none) = _
          rw [s7 6 (by decide) 9 rfl, show (7 : Int32) * nI c + nI 6 = 7 * nI c + 6 from rfl, if_pos (i7_6 hc8), t7_6 hc8, r9 m9 z]
end
