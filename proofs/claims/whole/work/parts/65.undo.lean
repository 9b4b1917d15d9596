/-! undo, image, back; fever, law, end -/
section
variable {nl B B' : Nat} {ln : Nat → Nat} {m m1 m2 m' : Sg} {j w u : Nat} {a a1 a2 a3 r s law x : Int32} {f f' g g' lg lg' : Nat → Int32} {nc ne c e t M M' A nx : Nat}
theorem mCopy_v (h : w ≠ u) : f_X11_copy w u m = some (wrr m u (fun k => if k < 244 then m.1 w k else m.1 u k)) := by
  unfold f_X11_copy
  rw [show (m, (0 : Int32)) = (fun i => (wrr m u (fun k => if k < i then m.1 w k else m.1 u k), nI i)) 0 from by
    have : (fun k => if k < 0 then m.1 w k else m.1 u k) = m.1 u := by
      funext k; rw [if_neg (by omega)]
    simp only [this, wrr_id]; rfl, lpk_seq (S := fun i => (wrr m u (fun k => if k < i then m.1 w k else m.1 u k), nI i)) (x := wrr m u (fun k => if k < 244 then m.1 w k else m.1 u k)) 244 ?_ ?_ (by decide)]
  · intro i hi
    simp only [f_X11_copy_L2, if_neg (show ¬ (244 : Int32) ≤ nI i from ix_lt (n := 244) hi (by decide)), in_nI hi (show 244 < 2 ^ 31 by decide), ↓reduceIte, wrr_ne h, nI_clamp (show i < 2 ^ 31 by omega), bnd_eq, nI_1, wr_wr]
    congr 4
    funext k
    by_cases z : k = i
    · subst z; rw [pk_us, if_pos (by omega)]
    · rw [pk_un z]
      by_cases y : k < i
      · rw [if_pos y, if_pos (by omega)]
      · rw [if_neg y, if_neg (by omega)]
  · rfl
/-- cells of the county and what was -/
def CL (m m' : Sg) : Prop := m'.1 4 = m.1 4 ∧ m'.1 17 = m.1 17 ∧ m'.1 18 = m.1 18 ∧ m'.1 19 = m.1 19 ∧ m'.1 20 = m.1 20 ∧ m'.1 32 = m.1 32 ∧ m'.1 34 = m.1 34 ∧ m'.1 36 = m.1 36 ∧ m'.1 38 = m.1 38 ∧ m'.1 41 = m.1 41 ∧ m'.1 43 = m.1 43 ∧ m'.1 16 4 = m.1 16 4 ∧ m'.1 16 5 = m.1 16 5 ∧ m'.1 16 6 = m.1 16 6 ∧ m'.1 27 24 = m.1 27 24 ∧ m'.1 27 25 = m.1 27 25 ∧ m'.1 27 39 = m.1 27 39 ∧ m'.1 27 45 = m.1 27 45
theorem CL_told (h : CL m m') (k : Untold m ∨ ∃ nc ne, Told m nc ne B) : Untold m' ∨ ∃ nc ne, Told m' nc ne B := by
  obtain ⟨r4, r17, r18, r19, r20, r32, r34, r36, r38, r41, r43, c5, c6, c7, d3, d4, d8, d9⟩ := h
  unfold Untold Told PastR SV rowC rowM at k ⊢
  simp only [r4, r17, r18, r19, r20, r32, r34, r36, r38, r41, r43, c5, c6, c7, d3, d4, d8, d9]
  exact k
theorem q_undo (R : Rel nl ln B m) : QQ nl ln B (f_X10_undo m) (fun m1 => f_X11_undo m1) := by
  rcases Rel_cases R with ⟨u, H⟩ | ⟨nc, ne, M, A, nx, T, H, hM, L, P⟩
  · have e1 : m.1 16 5 = 0 := u.2.2.2.2.2.2.2.2.2.2.1
    have e2 : m.1 27 39 = 0 := u.2.2.2.2.2.2.2.2.2.2.2.1
    refine QQ_q R (r := -1) (m1 := m) (m2 := wr m 27 0 0) ?_ Fr.rf ?_ (fr_thr m 0)
    · simp only [f_X10_undo, f_X7_acts, cal_eq, e1, ↓reduceIte]
    · simp only [f_X11_undo, bnd_eq]
      rw [if_pos (show (wr m 27 0 0).1 27 39 = 0 from e2)]
  · obtain ⟨p1, p2, p3, p4, p5, p6, p7, p8⟩ := P
    by_cases hA : A = 0
    · subst hA
      refine QQ_q R (r := -1) (m1 := m) (m2 := wr m 27 0 0) ?_ Fr.rf ?_ (fr_thr m 0)
      · simp only [f_X10_undo, f_X7_acts, cal_eq, p3, nI_0, ↓reduceIte]
      · simp only [f_X11_undo, bnd_eq]
        rw [if_pos (show (wr m 27 0 0).1 27 39 = 0 from p4)]
    · have n0 : ¬ nI A = 0 := nI_ne0 (by omega) (by omega)
      obtain ⟨Ms, ⟨m0, ch⟩, p6⟩ := p6
      obtain ⟨f1, f2, f3⟩ := p6 1 (by decide) (by omega)
      have nx1 : (nx + 39) % 40 < 40 := Nat.mod_lt _ (by decide)
      have ex : ((m.1 16 4 + 40) - 1) - ((m.1 16 4 + 40) - 1) / 40 * 40 = nI ((nx + 39) % 40) := by
        rw [p5, show (40 : Int32) = nI 40 from rfl, nI_add, show (1 : Int32) = nI 1 from rfl, pk_sub (by omega), pk_rem (by omega) (by decide) (by decide)]
        congr 1
      have ea : nI A - 1 = nI (A - 1) := by rw [show (1 : Int32) = nI 1 from rfl, pk_sub (by omega)]
      generalize hy : (nx + 39) % 40 = y at *
      let mC : Sg := wrr (wr (wr m 16 4 (nI y)) 16 5 (nI (A - 1))) 4 (va_cpy (m.1 17) (m.1 4) (100 * y) 0 100)
      let g2 : Nat → Int32 := fun k => if k < 244 then m.1 41 (244 * (A - 1) + k) else m.1 38 k
      let mE : Sg := wrr (wr (wr mC 27 0 0) 27 39 (nI (A - 1))) 38 g2
      have o1 : f_X10_undo m = some (nI (A - 1), mC) := by
        have e2 : ∀ q : Sg, q.1 17 = m.1 17 → q.1 4 = m.1 4 → f_X0_copyFrom 4 17 4000 q (nI (100 * y)) = some (wrr q 4 (va_cpy (m.1 17) (m.1 4) (100 * y) 0 100)) := by
          intro q h17 h4
          have c1 : ¬ ((Int32.ofNat 4000) - 100) < nI (100 * y) := nI_nlt (a := 3900) (b := 100 * y) (by omega) (by decide)
          have c2 : cpk (nI (100 * y)) 0 100 4000 100 = true := cpk_v (b := 0) (k := 100) (by omega) (by decide) (by decide) (by decide)
          simp only [f_X0_copyFrom, if_neg (nI_pos (show 100 * y < 2 ^ 31 by omega)), if_neg c1, c2, ↓reduceIte, bnd_eq, nI_clamp (show 100 * y < 2 ^ 31 by omega), h17, h4]
          rfl
        have e3 : (wr m 16 4 (nI y)).1 16 5 = nI A := by rw [wr_at, pk_un (by decide), p3]
        have e4 : ∀ z, (wr (wr m 16 4 (nI y)) 16 5 z).1 16 4 * 100 = nI (100 * y) := by
          intro z
          rw [wr_at, pk_un (by decide), wr_at, pk_us, show (100 : Int32) = nI 100 from rfl, pk_mul, Nat.mul_comm]
        simp only [f_X10_undo, f_X7_acts, cal_eq, p3, if_neg n0, f_X7_recall, bnd_eq, ex, e3, ea, e4]
        rw [e2 _ (by rw [wr_ne (by decide), wr_ne (by decide)]) (by rw [wr_ne (by decide), wr_ne (by decide)])]
        simp only [calv_eq]
        rw [wrr_ne (by decide), wr_at, pk_us]
      have o2 : f_X11_undo mC = some (nI (A - 1), mE) := by
        have e39 : (wr mC 27 0 0).1 27 39 = nI A := by
          rw [wr_at, pk_un (by decide)]
          show (wrr (wr (wr m 16 4 (nI y)) 16 5 (nI (A - 1))) 4 _).1 27 39 = _
          rw [wrr_ne (by decide), wr_ne (by decide), wr_ne (by decide), p4]
        have e41 : (wr (wr mC 27 0 0) 27 39 (nI (A - 1))).1 41 = m.1 41 := by
          rw [wr_ne (by decide), wr_ne (by decide)]
          show (wrr (wr (wr m 16 4 (nI y)) 16 5 (nI (A - 1))) 4 _).1 41 = _
          rw [wrr_ne (by decide), wr_ne (by decide), wr_ne (by decide)]
        have e38 : (wr (wr mC 27 0 0) 27 39 (nI (A - 1))).1 38 = m.1 38 := by
          rw [wr_ne (by decide), wr_ne (by decide)]
          show (wrr (wr (wr m 16 4 (nI y)) 16 5 (nI (A - 1))) 4 _).1 38 = _
          rw [wrr_ne (by decide), wr_ne (by decide), wr_ne (by decide)]
        have e40 : (wr (wr mC 27 0 0) 27 39 (nI (A - 1))).1 27 39 = nI (A - 1) := by rw [wr_at, pk_us]
        simp only [f_X11_undo, bnd_eq, e39, if_neg n0, ea]
        generalize hq : wr (wr mC 27 0 0) 27 39 (nI (A - 1)) = q at *
        rw [show (q, (0 : Int32)) = (fun i => (wrr q 38 (fun k => if k < i then m.1 41 (244 * (A - 1) + k) else m.1 38 k), nI i)) 0 from by
          have : (fun k => if k < 0 then m.1 41 (244 * (A - 1) + k) else m.1 38 k) = q.1 38 := by
            funext k; rw [if_neg (by omega), e38]
          simp only [this, wrr_id]; rfl, lpk_seq (S := fun i => (wrr q 38 (fun k => if k < i then m.1 41 (244 * (A - 1) + k) else m.1 38 k), nI i)) (x := wrr q 38 g2) 244 ?_ ?_ (by decide)]
        · show some ((wrr q 38 g2).1 27 39, wrr q 38 g2) = _
          rw [wrr_ne (by decide), e40, ← hq]
        · intro i hi
          have e1 : (244 : Int32) * nI (A - 1) + nI i = nI (244 * (A - 1) + i) := by rw [show (244 : Int32) = nI 244 from rfl, pk_mul, nI_add]
          simp only [f_X11_undo_L26, if_neg (show ¬ (244 : Int32) ≤ nI i from ix_lt (n := 244) hi (by decide)), in_nI hi (show 244 < 2 ^ 31 by decide), ↓reduceIte, wrr_ne (show 27 ≠ 38 by decide), wrr_ne (show 41 ≠ 38 by decide), e40, e41, e1, in_nI (show 244 * (A - 1) + i < 9760 by omega) (show 9760 < 2 ^ 31 by decide), nI_clamp (show 244 * (A - 1) + i < 2 ^ 31 by omega), nI_clamp (show i < 2 ^ 31 by omega), bnd_eq, nI_1, wr_wr]
          congr 4
          funext k
          by_cases z : k = i
          · subst z; rw [pk_us, if_pos (by omega)]
          · rw [pk_un z]
            by_cases y : k < i
            · rw [if_pos y, if_pos (by omega)]
            · rw [if_neg y, if_neg (by omega)]
        · rfl
      refine ⟨nI (A - 1), mC, mE, o1, o2, ?_⟩
      have q : ∀ p, p ≠ 4 → p ≠ 16 → p ≠ 27 → p ≠ 38 → mE.1 p = m.1 p := by
        intro p h4 h16 h27 h38
        show (wrr (wr (wr (wrr (wr (wr m 16 4 (nI y)) 16 5 (nI (A - 1))) 4 _) 27 0 0) 27 39 (nI (A - 1))) 38 g2).1 p = _
        rw [wrr_ne h38, wr_ne h27, wr_ne h27, wrr_ne h4, wr_ne h16, wr_ne h16]
      have q27 : ∀ k, k ≠ 0 → k ≠ 39 → mE.1 27 k = m.1 27 k := by
        intro k h0 h39
        show (wrr (wr (wr (wrr (wr (wr m 16 4 (nI y)) 16 5 (nI (A - 1))) 4 _) 27 0 0) 27 39 (nI (A - 1))) 38 g2).1 27 k = _
        rw [wrr_ne (by decide), wr_at, pk_un h39, wr_at, pk_un h0, wrr_ne (by decide), wr_ne (by decide), wr_ne (by decide)]
      have q39 : mE.1 27 39 = nI (A - 1) := by
        show (wrr (wr (wr (wrr (wr (wr m 16 4 (nI y)) 16 5 (nI (A - 1))) 4 _) 27 0 0) 27 39 (nI (A - 1))) 38 g2).1 27 39 = _
        rw [wrr_ne (by decide), wr_at, pk_us]
      have q16 : ∀ k, mE.1 16 k = if k = 5 then nI (A - 1) else if k = 4 then nI y else m.1 16 k := by
        intro k
        show (wrr (wr (wr (wrr (wr (wr m 16 4 (nI y)) 16 5 (nI (A - 1))) 4 _) 27 0 0) 27 39 (nI (A - 1))) 38 g2).1 16 k = _
        rw [wrr_ne (by decide), wr_ne (by decide), wr_ne (by decide), wrr_ne (by decide), wr_at]
        by_cases h : k = 5
        · rw [h, pk_us, if_pos rfl]
        · rw [pk_un h, if_neg h, wr_at]
          by_cases h2 : k = 4
          · rw [h2, pk_us, if_pos rfl]
          · rw [pk_un h2, if_neg h2]
      have q4 : ∀ k, k < 100 → mE.1 4 k = rowC m nx 1 k := by
        intro k hk
        show (wrr (wr (wr (wrr (wr (wr m 16 4 (nI y)) 16 5 (nI (A - 1))) 4 (va_cpy (m.1 17) (m.1 4) (100 * y) 0 100)) 27 0 0) 27 39 (nI (A - 1))) 38 g2).1 4 k = _
        rw [wrr_ne (by decide), wr_ne (by decide), wr_ne (by decide), wrr_at, pk_cpy_in (by omega) (by omega)]
        unfold rowC
        exact congrArg (m.1 17) (by omega)
      have q38 : ∀ k, k < 244 → mE.1 38 k = rowM m A 1 k := by
        intro k hk
        show (wrr (wr (wr mC 27 0 0) 27 39 (nI (A - 1))) 38 g2).1 38 k = _
        rw [wrr_at]
        show (if k < 244 then m.1 41 (244 * (A - 1) + k) else m.1 38 k) = _
        rw [if_pos hk]; rfl
      have st : StE (m.1 4) (mE.1 4) := fun k hk => by rw [q4 k (stc_lt hk), f2 k hk]
      have tl : TL m mE := by
        refine ⟨?_, ?_, ?_, ?_, ?_, ?_, ?_, ?_, ?_, ?_, ?_, ?_, ?_, ?_⟩
        · rw [q 0 (by decide) (by decide) (by decide) (by decide)]
        · rw [q 1 (by decide) (by decide) (by decide) (by decide)]
        · rw [q 2 (by decide) (by decide) (by decide) (by decide)]
        · rw [q 13 (by decide) (by decide) (by decide) (by decide)]
        · rw [q 13 (by decide) (by decide) (by decide) (by decide)]
        · exact q27 _ (by decide) (by decide)
        · exact q27 _ (by decide) (by decide)
        · exact q27 _ (by decide) (by decide)
        · exact q27 _ (by decide) (by decide)
        · exact q27 _ (by decide) (by decide)
        · rw [q 28 (by decide) (by decide) (by decide) (by decide)]
        · rw [q 29 (by decide) (by decide) (by decide) (by decide)]
        · rw [q 30 (by decide) (by decide) (by decide) (by decide)]
        · intro k
          rw [q (46 + 3 * k) (by omega) (by omega) (by omega) (by omega)]
      have e18 : mE.1 18 = m.1 18 := q 18 (by decide) (by decide) (by decide) (by decide)
      have hM1 : Ms 1 ≤ B := by have := (ch 0).1; rw [m0] at this; exact Nat.le_trans this hM
      refine Rel_TL R tl (Or.inr ⟨nc, ne, SV_st T.1 st T.2.1.1.1.2 T.2.1.1.2.1 (q 32 (by decide) (by decide) (by decide) (by decide)) (q 34 (by decide) (by decide) (by decide) (by decide)) (q 36 (by decide) (by decide) (by decide) (by decide)) (q27 24 (by decide) (by decide)) (q27 25 (by decide) (by decide)), FR_congr q4 q38 f1, Ms 1, hM1, LG_congr q4 q38 (fun i _ w _ => by rw [e18]) f3, A - 1, y, by omega, nx1, ?_, q39, ?_, ⟨fun i => Ms (i + 1), ⟨rfl, fun i => ch (i + 1)⟩, fun i i1 i2 => ?_⟩, ?_, ?_⟩)
      · rw [q16, if_pos rfl]
      · rw [q16, if_neg (by decide), if_pos rfl]
      · obtain ⟨h1, h2, h3⟩ := p6 (i + 1) (by omega) (by omega)
        have r1 : rowC mE y i = rowC m nx (i + 1) := by
          funext k
          unfold rowC
          rw [q 17 (by decide) (by decide) (by decide) (by decide)]
          exact congrArg (m.1 17) (by omega)
        have r2 : rowM mE (A - 1) i = rowM m A (i + 1) := by
          funext k
          unfold rowM
          rw [q 41 (by decide) (by decide) (by decide) (by decide)]
          exact congrArg (m.1 41) (by omega)
        rw [r1, r2, e18]
        exact ⟨h1, StE_tr st h2, h3⟩
      · rw [q16, if_neg (by decide), if_neg (by decide), q27 45 (by decide) (by decide)]; exact p7
      · rw [q16, if_neg (by decide), if_neg (by decide), q 19 (by decide) (by decide) (by decide) (by decide), q 43 (by decide) (by decide) (by decide) (by decide), q 20 (by decide) (by decide) (by decide) (by decide)]
        rcases p8 with h | ⟨h1, h2, h3, h4⟩
        · exact Or.inl h
        · exact Or.inr ⟨h1, h2, StE_tr st h3, h4⟩
end
