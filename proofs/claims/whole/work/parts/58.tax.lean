/-! taxes; child, spans, log -/
section
variable {nl B : Nat} {ln : Nat → Nat} {V : Nat → (Nat → Int32) → Int32} {m m1 m2 : Sg} {j w : Nat} {a a1 a2 r s law x : Int32} {f : Nat → Int32} {nc ne c e : Nat}
/-- a loop by an invariant, with early ends -/
theorem lpk_inv {σ χ ρ : Type} {step : σ → Option (χ ⊕ σ)} {K : χ → Option ρ} (I : Nat → σ → Prop) (E : χ → Prop) (n : Nat) (s0 : σ) (h0 : I 0 s0) (hs : ∀ i s, i < n → I i s → (∃ s', step s = some (.inr s') ∧ I (i + 1) s') ∨ ∃ x, step s = some (.inl x) ∧ E x) (he : ∀ s, I n s → ∃ x, step s = some (.inl x) ∧ E x) (hn : n < 1000000) : ∃ x, lpk step s0 K = K x ∧ E x := by
  have key : ∀ k i s fuel, i + k = n → k < fuel → I i s → ∃ x, lpO step fuel s = some x ∧ E x := by
    intro k
    induction k with
    | zero =>
      intro i s fuel hi hk hI
      cases fuel with
      | zero => omega
      | succ fuel =>
        obtain ⟨x, x1, x2⟩ := he s (by rw [show n = i by omega]; exact hI)
        exact ⟨x, by rw [lpO, x1], x2⟩
    | succ k ih =>
      intro i s fuel hi hk hI
      cases fuel with
      | zero => omega
      | succ fuel =>
        rcases hs i s (by omega) hI with ⟨s', s1, s2⟩ | ⟨x, x1, x2⟩
        · obtain ⟨x, x1, x2⟩ := ih (i + 1) s' fuel (by omega) (by omega) s2
          exact ⟨x, by rw [lpO, s1]; exact x1, x2⟩
        · exact ⟨x, by rw [lpO, x1], x2⟩
  obtain ⟨x, x1, x2⟩ := key n 0 s0 fu (by omega) hn h0
  exact ⟨x, lpk_of x1, x2⟩
theorem wr_ne {p k : Nat} (h : p ≠ j) : (wr m j k x).1 p = m.1 p := by simp [wr, va_up, h]
theorem wr_at {k : Nat} : (wr m j k x).1 j = upd (m.1 j) k x := by simp [wr, va_up]
def LR (nl : Nat) (ln : Nat → Nat) (V : Nat → (Nat → Int32) → Int32) (m : Sg) : Prop := ∀ k, k < nl → LawOK ln (m.1 (46 + 3 * k)) (fun i => m.1 29 (240 * k + i)) (m.1 30 k) (V k) k
theorem LR_fr (h : LR nl ln V m) (hf : Fr scr m m1) : LR nl ln V m1 := by
  intro k hk
  have rc : m1.1 (46 + 3 * k) = m.1 (46 + 3 * k) := fr_row hf (e_code k)
  have r29 : m1.1 29 = m.1 29 := fr_row hf (e_all (by simp))
  have r30 : m1.1 30 = m.1 30 := fr_row hf (e_all (by simp))
  rw [rc, r29, r30]
  exact h k hk
def clt (v c : Int32) : Int32 := if (0 : Int32) < (if v < c then v else c) then (if v < c then v else c) else 0
def taxV (V : Nat → (Nat → Int32) → Int32) (law : Int32) (L : Nat → Int32) (c : Int32) : Int32 := if law = -1 then c else clt (V law.toNatClampNeg L) c
theorem taxBy_v (hl : LR nl ln V m) (h4 : nl ≤ 4) (hi : isI law nl) : ∃ m1, f_X5_taxBy nl ln m law x = some (taxV V law (l6 (m.1 15)) x, m1) := by
  rcases hi with h | ⟨k, hk, h⟩
  · subst h
    exact ⟨m, rfl⟩
  · subst h
    obtain ⟨m1, e1⟩ := (hl k hk).1 m rfl
    refine ⟨m1, ?_⟩
    simp only [f_X5_taxBy, if_neg (nI_pos (show k < 2 ^ 31 by omega)), if_neg (show ¬ (4 : Int32) ≤ nI k from ix_lt (n := 4) (by omega) (by decide)), in_nI (show k < 4 by omega) (show 4 < 2 ^ 31 by decide), ↓reduceIte, nI_clamp (show k < 2 ^ 31 by omega), hk, e1, cal_eq, taxV, n1e (show k < 9 by omega)]
    rfl
/-- what the letters stand for -/
def lts (a b c d e g : Int32) : Nat → Int32 := fun i => if i = 0 then a else if i = 1 then b else if i = 2 then c else if i = 3 then d else if i = 4 then e else if i = 5 then g else 0
def ltC (f : Nat → Int32) (c : Nat) : Nat → Int32 := lts (cnt f c) (kd f c 0) (bcV (rt f c)) (kd f c 3) (f 97) (bcV (kd f c 2))
theorem l6_set {b0 b1 b2 b3 b4 b5 : Int32} {r : Nat → Int32} : l6 (upd (upd (upd (upd (upd (upd r 0 b0) 1 b1) 2 b2) 3 b3) 4 b4) 5 b5) = lts b0 b1 b2 b3 b4 b5 := by
  funext i
  unfold l6 lts
  rcases (show i = 0 ∨ i = 1 ∨ i = 2 ∨ i = 3 ∨ i = 4 ∨ i = 5 ∨ 6 ≤ i by omega) with h | h | h | h | h | h | h
  · subst h; rfl
  · subst h; rfl
  · subst h; rfl
  · subst h; rfl
  · subst h; rfl
  · subst h; rfl
  · rw [if_neg (by omega), if_neg (by omega), if_neg (by omega), if_neg (by omega), if_neg (by omega), if_neg (by omega), if_neg (by omega)]
theorem l6m_set {b0 b1 b2 b3 b4 b5 : Int32} {r : Nat → Int32} : l6m (upd (upd (upd (upd (upd (upd r 99 b0) 97 b1) 107 b2) 110 b3) 109 b4) 119 b5) = lts b0 b1 b2 b3 b4 b5 := by
  funext i
  unfold l6m lts
  rcases (show i = 0 ∨ i = 1 ∨ i = 2 ∨ i = 3 ∨ i = 4 ∨ i = 5 ∨ 6 ≤ i by omega) with h | h | h | h | h | h | h
  · subst h; rfl
  · subst h; rfl
  · subst h; rfl
  · subst h; rfl
  · subst h; rfl
  · subst h; rfl
  · rw [if_neg (by omega), if_neg (by omega), if_neg (by omega), if_neg (by omega), if_neg (by omega), if_neg (by omega), if_neg (by omega), if_neg (by omega), if_neg (by omega), if_neg (by omega), if_neg (by omega), if_neg (by omega)]
def w15 (m : Sg) (a b c d e g : Int32) : Sg := wr (wr (wr (wr (wr (wr m 15 0 a) 15 1 b) 15 2 c) 15 3 d) 15 4 e) 15 5 g
theorem w15_fr {a b c d e g : Int32} : Fr scr m (w15 m a b c d e g) := (((((Fr.w1 (S := scr) (p := 15) rfl).tr (Fr.w1 rfl)).tr (Fr.w1 rfl)).tr (Fr.w1 rfl)).tr (Fr.w1 rfl)).tr (Fr.w1 rfl)
theorem w15_l {a b c d e g : Int32} : l6 ((w15 m a b c d e g).1 15) = lts a b c d e g := by
  unfold w15
  simp only [wr_at]
  exact l6_set
theorem taxOf_v (hl : LR nl ln V m) (h4 : nl ≤ 4) (hi : isI law nl) (hj : j ≠ 15) (hc : c < 8) : ∃ m1, f_X5_taxOf nl ln j m (nI c) law = some (taxV V law (ltC (m.1 j) c) (cnt (m.1 j) c), m1) := by
  obtain ⟨m1, e1⟩ := taxBy_v (x := cnt (m.1 j) c) (LR_fr hl (w15_fr (a := cnt (m.1 j) c) (b := kd (m.1 j) c 0) (c := bcV (rt (m.1 j) c)) (d := kd (m.1 j) c 3) (e := m.1 j 97) (g := bcV (kd (m.1 j) c 2)))) h4 hi
  refine ⟨m1, ?_⟩
  rw [w15_l] at e1
  simp only [f_X5_taxOf, f_X5_setLetters, rightOf_v hc, countOf_v hc, bc_v, kid0 hc, kid3 hc, kid2 hc, cell97, cal_eq, calv_eq, bnd_eq, wr_ne hj]
  show cal (f_X5_taxBy nl ln (w15 m (cnt (m.1 j) c) (kd (m.1 j) c 0) (bcV (rt (m.1 j) c)) (kd (m.1 j) c 3) (m.1 j 97) (bcV (kd (m.1 j) c 2))) law (cnt (m.1 j) c)) _ = _
  rw [e1]; rfl
theorem taxAt_v (hl : LR nl ln V m) (h4 : nl ≤ 4) (hi : isI (m.1 13 3) nl) (hc : c < 8) : ∃ m1, f_X5_taxAtCount nl ln m (nI c) x = some (taxV V (m.1 13 3) (lts (x * 10) (kd (m.1 4) c 0) x (kd (m.1 4) c 3) (m.1 4 97) 0) (x * 10), m1) := by
  obtain ⟨m1, e1⟩ := taxBy_v (x := x * 10) (LR_fr hl (w15_fr (a := x * 10) (b := kd (m.1 4) c 0) (c := x) (d := kd (m.1 4) c 3) (e := m.1 4 97) (g := 0))) h4 hi
  refine ⟨m1, ?_⟩
  rw [w15_l] at e1
  simp only [f_X5_taxAtCount, f_X5_setLetters, kid0 hc, kid3 hc, cell97, cal_eq, calv_eq, bnd_eq, wr_ne (show 4 ≠ 15 by decide), wr_ne (show 13 ≠ 15 by decide)]
  show cal (f_X5_taxBy nl ln (w15 m (x * 10) (kd (m.1 4) c 0) x (kd (m.1 4) c 3) (m.1 4 97) 0) (m.1 13 3) (x * 10)) _ = _
  rw [e1]; rfl
theorem mTaxBy_v {b0 b1 b2 b3 b4 b5 : Int32} (hl : LR nl ln V m) (h4 : nl ≤ 4) (hi : isI (m.1 27 31) nl) : ∃ m1, f_X11_taxBy m b0 b1 b2 b3 b4 b5 = some (taxV V (m.1 27 31) (lts b0 b1 b2 b3 b4 b5) b0, m1) := by
  rcases hi with h | ⟨k, hk, h⟩
  · refine ⟨m, ?_⟩
    simp only [f_X11_taxBy, h, ↓reduceIte, taxV]
  · generalize hm' : wr (wr (wr (wr (wr (wr m 31 99 b0) 31 97 b1) 31 107 b2) 31 110 b3) 31 109 b4) 31 119 b5 = m'
    have f1 : Fr scr m m' := by
      rw [← hm']
      exact (((((Fr.w1 (S := scr) (p := 31) rfl).tr (Fr.w1 rfl)).tr (Fr.w1 rfl)).tr (Fr.w1 rfl)).tr (Fr.w1 rfl)).tr (Fr.w1 rfl)
    have e31 : l6m (m'.1 31) = lts b0 b1 b2 b3 b4 b5 := by
      rw [← hm']
      simp only [wr_at]
      exact l6m_set
    have eL : m'.1 27 31 = nI k := (fr_ess f1 rfl).trans h
    obtain ⟨m1, e1, e2⟩ := (LR_fr hl f1 k hk).2 m' (fun i hi => rfl)
    refine ⟨m1, ?_⟩
    simp only [f_X11_taxBy, h, n1e (show k < 9 by omega), ↓reduceIte, bnd_eq, hm', eL, in_nI (show k < 4 by omega) (show 4 < 2 ^ 31 by decide), nI_clamp (show k < 2 ^ 31 by omega), show (240 : Int32) * nI k = nI (240 * k) from pk_mul 240 k, e1, calv_eq, e2, e31, taxV]
    rfl
theorem mTaxOf_v (hl : LR nl ln V m) (h4 : nl ≤ 4) (hi : isI (m.1 27 31) nl) (hv : CV (m.1 w) f) (hs : SV m f nc ne) (hc : c < nc) (hn : nc ≤ 8) : ∃ m1, f_X11_taxOf w m (nI c) = some (taxV V (m.1 27 31) (ltC f c) (cnt f c), m1) := by
  have hc8 : c < 8 := by omega
  obtain ⟨m1, e1⟩ := mTaxBy_v (b0 := cnt f c) (b1 := kd f c 0) (b2 := bcV (rt f c)) (b3 := kd f c 3) (b4 := f 97) (b5 := bcV (kd f c 2)) hl h4 hi
  refine ⟨m1, ?_⟩
  simp only [f_X11_taxOf, mCount_v hv hc8, mRight_v hv hc8, bc_v, i7_0 hc8, t7_0 hc8, i7_2 hc8, t7_2 hc8, i6_3 hc8, t6_3 hc8, ↓reduceIte, (hv.1 c hc8).1, (hv.1 c hc8).2.2.1, (hs.1 c hc).1, hv.2.2.1, cal_eq, e1]
  rfl
theorem Rel_LR (R : Rel nl ln B m) : ∃ V, LR nl ln V m ∧ nl ≤ 4 ∧ isI (m.1 13 3) nl ∧ m.1 27 31 = m.1 13 3 := by
  obtain ⟨V, v⟩ := R.2.1
  exact ⟨V, v.2.2.2.2.2, v.2.2.1, v.2.2.2.1, v.2.2.2.2.1⟩
def spF (V : Nat → (Nat → Int32) → Int32) (law v : Int32) (f : Nat → Int32) (c i : Nat) (x : Int32) : Int32 := if taxV V law (lts (nI i * 10) (kd f c 0) (nI i) (kd f c 3) (f 97) 0) (nI i * 10) = v then x ||| tn (nI i) else x
theorem hund_cases (a : Int32) {n : Nat} (hn : n < 2 ^ 31) : (a < 0 ∨ ¬ a < 0 ∧ nI n ≤ a) ∨ ∃ c, c < n ∧ a = nI c := by
  rcases pk_ix a (n := n) hn with h | h | h
  · exact Or.inl (Or.inl h)
  · by_cases q : a < 0
    · exact Or.inl (Or.inl q)
    · exact Or.inl (Or.inr ⟨q, h⟩)
  · exact Or.inr h
theorem q_spans (R : Rel nl ln B m) : QQ nl ln B (f_X10_spans nl ln m a1 a2) (fun m1 => f_X11_spans m1 a1 a2) := by
  obtain ⟨V, hl, h4, hi, eh⟩ := Rel_LR R
  refine q_ch R a1 (fun nc ne H h => ⟨-1, ?_, ?_⟩) (fun nc ne c H hc hc8 hn4 hn8 h h1 h2 h3 => ?_)
  · simp only [f_X10_spans, hC_no H.2.2.1 h, cal_eq, ↓reduceIte]
  · simp only [f_X11_spans, bnd_eq, iC_no (HM_fr H (fr_thr m 0)).1 h, cal_eq, ↓reduceIte]
  · subst h
    rcases hund_cases a2 (n := 100) (by decide) with h | ⟨v, hv, h⟩
    · refine QQ_q R (r := -1) (m1 := m) (m2 := wr m 27 0 0) ?_ Fr.rf ?_ (fr_thr m 0)
      · simp only [f_X10_spans, hC_yes H.2.2.1 hc hn8, cal_eq, n10, ↓reduceIte]
        rcases h with h | ⟨h, h'⟩
        · rw [if_pos h]
        · rw [if_neg h, if_neg (fun q => Int32.not_le.mpr (Int32.lt_of_lt_of_le (show (99 : Int32) < nI 100 by decide) h') q)]
      · simp only [f_X11_spans, bnd_eq, iC_yes h2.2.2.2.2.2.1 hc hn8, cal_eq, n10, ↓reduceIte, in99_no h]
    · subst h
      obtain ⟨q, q1, q2⟩ : ∃ q : Sg × Int32, lpk (f_X10_spans_L28 (nI c) (nI v) nl ln) (m, 0, 0) (fun ((m6, x7) : Sg × Int32) => some (x7, m6)) = some (q.2, q.1) ∧ (q.2 = itr (spF V (m.1 13 3) (nI v) (m.1 4) c) 0 10 ∧ Fr scr m q.1) := by
        refine lpk_inv (fun i (s : Sg × Int32 × Int32) => Fr scr m s.1 ∧ s.2.1 = itr (spF V (m.1 13 3) (nI v) (m.1 4) c) 0 i ∧ s.2.2 = nI i) (fun (x : Sg × Int32) => x.2 = itr (spF V (m.1 13 3) (nI v) (m.1 4) c) 0 10 ∧ Fr scr m x.1) 10 _ ⟨Fr.rf, rfl, rfl⟩ ?_ ?_ (by decide)
        · rintro i ⟨m', x, y⟩ hi10 ⟨g1, g2, g3⟩
          dsimp only at g1 g2 g3
          subst g2; subst g3
          left
          have r4 : m'.1 4 = m.1 4 := fr_row g1 (e_all (by simp))
          have c13 : m'.1 13 3 = m.1 13 3 := fr_ess g1 rfl
          obtain ⟨m3, e3⟩ := taxAt_v (x := nI i) (LR_fr hl g1) h4 (by rw [c13]; exact hi) hc8
          have g3 : Fr scr m' m3 := fr_X5_taxAtCount (S := scr) (fun _ => rfl) scr_law e3
          rw [r4, c13] at e3
          refine ⟨(m3, itr (spF V (m.1 13 3) (nI v) (m.1 4) c) 0 (i + 1), nI (i + 1)), ?_, g1.tr g3, rfl, rfl⟩
          simp only [f_X10_spans_L28, if_neg (show ¬ (9 : Int32) < nI i from nI_nlt (b := i) (a := 9) (by omega) (by decide)), e3, cal_eq, bnd_eq, nI_1, itr, spF]
          split <;> rfl
        · rintro ⟨m', x, y⟩ ⟨g1, g2, g3⟩
          dsimp only at g1 g2 g3
          subst g2; subst g3
          exact ⟨_, rfl, rfl, g1⟩
      have H1 := HM_fr (HM_fr H q2.2) (fr_thr q.1 0)
      obtain ⟨h1, h2, h3⟩ := H1.2.2.2.2.2.2.2 (by omega)
      have f0 : Fr scr m (wr q.1 27 0 0) := q2.2.tr (fr_thr q.1 0)
      have hl' := LR_fr hl f0
      have c31 : (wr q.1 27 0 0).1 27 31 = m.1 13 3 := (fr_ess f0 rfl).trans eh
      obtain ⟨u, u1, u2⟩ : ∃ u : Sg × Int32, lpk (f_X11_spans_L32 (nI c) (nI v)) (wr q.1 27 0 0, 0, 0) (fun ((m9, x10) : Sg × Int32) => some (x10, m9)) = some (u.2, u.1) ∧ (u.2 = itr (spF V (m.1 13 3) (nI v) (m.1 4) c) 0 10 ∧ Fr scr (wr q.1 27 0 0) u.1) := by
        generalize wr q.1 27 0 0 = m0 at *
        refine lpk_inv (fun i (s : Sg × Int32 × Int32) => Fr scr m0 s.1 ∧ s.2.1 = itr (spF V (m.1 13 3) (nI v) (m.1 4) c) 0 i ∧ s.2.2 = nI i) (fun (x : Sg × Int32) => x.2 = itr (spF V (m.1 13 3) (nI v) (m.1 4) c) 0 10 ∧ Fr scr m0 x.1) 10 _ ⟨Fr.rf, rfl, rfl⟩ ?_ ?_ (by decide)
        · rintro i ⟨m', x, y⟩ hi10 ⟨g1, g2, g3⟩
          dsimp only at g1 g2 g3
          subst g2; subst g3
          left
          have r38 : m'.1 38 = m0.1 38 := fr_row g1 (e_all (by simp))
          have r32 : m'.1 32 = m0.1 32 := fr_row g1 (e_all (by simp))
          have c31' : m'.1 27 31 = m.1 13 3 := (fr_ess g1 rfl).trans c31
          obtain ⟨m3, e3⟩ := mTaxBy_v (b0 := nI i * 10) (b1 := kd (m.1 4) c 0) (b2 := nI i) (b3 := kd (m.1 4) c 3) (b4 := m.1 4 97) (b5 := 0) (LR_fr hl' g1) h4 (by rw [c31']; exact hi)
          have g3 : Fr scr m' m3 := fr_X11_taxBy (S := scr) rfl rfl rfl rfl rfl rfl rfl rfl rfl (fun _ => rfl) e3
          rw [c31'] at e3
          refine ⟨(m3, itr (spF V (m.1 13 3) (nI v) (m.1 4) c) 0 (i + 1), nI (i + 1)), ?_, g1.tr g3, rfl, rfl⟩
          simp only [f_X11_spans_L32, if_neg (show ¬ (9 : Int32) < nI i from nI_nlt (b := i) (a := 9) (by omega) (by decide)), i7_0 hc8, t7_0 hc8, i6_3 hc8, t6_3 hc8, ↓reduceIte, r38, r32, (h1.1 c hc8).1, (h2.1 c hc).1, h1.2.2.1, Int32.mul_comm 10 (nI i), e3, cal_eq, bnd_eq, nI_1, itr, spF]
          split
          · rfl
          · rw [or0]
        · rintro ⟨m', x, y⟩ ⟨g1, g2, g3⟩
          dsimp only at g1 g2 g3
          subst g2; subst g3
          exact ⟨_, rfl, rfl, g1⟩
      refine QQ_q R (r := itr (spF V (m.1 13 3) (nI v) (m.1 4) c) 0 10) (m1 := q.1) (m2 := u.1) ?_ q2.2 ?_ ((fr_thr q.1 0).tr u2.2)
      · simp only [f_X10_spans, hC_yes H.2.2.1 hc hn8, cal_eq, n10, ↓reduceIte, if_neg (nI_pos (show v < 2 ^ 31 by omega)), if_pos (show nI v ≤ 99 from nI_le (b := 99) (by omega) (by decide)), q1, q2.1]
      · simp only [f_X11_spans, bnd_eq, iC_yes h2.2.2.2.2.2.1 hc hn8, cal_eq, n10, ↓reduceIte, in99_yes hv, u1, u2.1]
theorem sv_thr {x : Int32} (h : SV m f nc ne) : SV (wr m 27 0 x) f nc ne := h
/-- is the call child answered at all? -/
def chOn (m : Sg) (a1 a2 : Int32) : Prop := ¬ a1 < 0 ∧ ¬ m.1 4 95 ≤ a1 ∧ ¬ a2 < 0 ∧ ¬ 11 < a2
theorem q_child (R : Rel nl ln B m) : (chOn m a1 a2 ∧ ∃ r m1 m2, f_X10_child nl ln m a1 a2 = some (r, m1) ∧ f_X11_child m1 a1 a2 = some (r, m2) ∧ m2.1 27 0 = 0 ∧ Rel nl ln B m2) ∨ (¬ chOn m a1 a2 ∧ ∃ r m2, f_X11_child m a1 a2 = some (r, m2) ∧ m2.1 27 0 = 1 ∧ Rel nl ln B m2) := by
  obtain ⟨V, hl, h4, hi, eh⟩ := Rel_LR R
  obtain ⟨nc, ne, H⟩ := Rel_HM R
  have hn8 := H.2.2.2.2.2.1
  rcases ch_cases a1 hn8 with h | ⟨c, hc, h⟩
  · right
    refine ⟨fun q => ?_, 0, wr m 27 0 1, ?_, rfl, Rel_fr R (fr_thr m 1)⟩
    · rcases h with h | h
      · exact q.1 h
      · exact q.2.1 (by rw [H.2.2.1]; exact h.2)
    · simp only [f_X11_child, iC_no H.1 h, cal_eq, bnd_eq, ↓reduceIte]
      rfl
  · subst h
    have hc8 : c < 8 := by omega
    rcases hund_cases a2 (n := 12) (by decide) with h | ⟨v, hv, h⟩
    · right
      refine ⟨fun q => ?_, 0, wr m 27 0 1, ?_, rfl, Rel_fr R (fr_thr m 1)⟩
      · rcases h with h | h
        · exact q.2.2.1 h
        · exact q.2.2.2 (Int32.lt_of_lt_of_le (show (11 : Int32) < nI 12 by decide) h.2)
      · simp only [f_X11_child, iC_yes H.1 hc hn8, cal_eq, bnd_eq, n10, ↓reduceIte, in11_no h]
        rfl
    · subst h
      left
      refine ⟨⟨nI_pos (by omega), by rw [H.2.2.1]; exact ix_lt hc (by omega), nI_pos (by omega), nI_nlt (b := v) (a := 11) (by omega) (by decide)⟩, ?_⟩
      have base1 : f_X10_child nl ln m (nI c) (nI v) = (if nI v = 10 then cal (f_X0_countOf 4 m (nI c)) (fun x12 m11 => some (x12, m11)) else (if nI v = 11 then cal (f_X5_holding m) (fun x8 m7 => cal (f_X5_taxOf nl ln 4 m7 (nI c) x8) (fun x10 m9 => some (x10, m9))) else cal (f_X0_kid 4 m (nI c) (nI v)) (fun x6 m5 => some (x6, m5)))) := by
        simp only [f_X10_child, hC_yes H.2.2.1 hc hn8, cal_eq, bnd_eq, n10, ↓reduceIte, if_neg (nI_pos (show v < 2 ^ 31 by omega)), if_pos (show nI v ≤ 11 from nI_le (b := 11) (by omega) (by decide))]
      have H0 : ∀ m', Fr scr m m' → m'.1 27 24 = nI nc := fun m' z => (HM_fr H z).1
      have base2 : ∀ m', Fr scr m m' → f_X11_child m' (nI c) (nI v) = (let m6 := wr m' 27 0 0; if nI v = 0 then if inr ((7 * nI c) + 0) 244 = true then some (m6.1 38 ((7 * nI c) + 0).toNatClampNeg, m6) else none else
  (if nI v = 1 then if inr ((7 * nI c) + 1) 244 = true then some (m6.1 38 ((7 * nI c) + 1).toNatClampNeg, m6) else none else
  (if nI v = 2 then if inr ((7 * nI c) + 2) 244 = true then some (m6.1 38 ((7 * nI c) + 2).toNatClampNeg, m6) else none else
  (if nI v = 3 then if inr ((6 * nI c) + nI v) 48 = true then some (m6.1 32 ((6 * nI c) + nI v).toNatClampNeg, m6) else none else
  (if nI v = 4 then if inr ((6 * nI c) + nI v) 48 = true then some (m6.1 32 ((6 * nI c) + nI v).toNatClampNeg, m6) else none else
  (if nI v = 5 then if inr ((6 * nI c) + nI v) 48 = true then some (m6.1 32 ((6 * nI c) + nI v).toNatClampNeg, m6) else none else
  (if nI v = 6 then if inr (((7 * nI c) + nI v) - 3) 244 = true then some (m6.1 38 (((7 * nI c) + nI v) - 3).toNatClampNeg, m6) else none else
  (if nI v = 7 then if inr (((7 * nI c) + nI v) - 3) 244 = true then some (m6.1 38 (((7 * nI c) + nI v) - 3).toNatClampNeg, m6) else none else
  (if nI v = 8 then if inr (((7 * nI c) + nI v) - 3) 244 = true then some (m6.1 38 (((7 * nI c) + nI v) - 3).toNatClampNeg, m6) else none else
  (if nI v = 9 then if inr (((7 * nI c) + nI v) - 3) 244 = true then some (m6.1 38 (((7 * nI c) + nI v) - 3).toNatClampNeg, m6) else none else
  (if nI v = 10 then cal (f_X11_countOf 38 m6 (nI c)) (fun x8 m7 => some (x8, m7)) else
  (if nI v = 11 then cal (f_X11_taxOf 38 m6 (nI c)) (fun x10 m9 => some (x10, m9)) else
  if inr (((7 * nI c) + nI v) - 3) 244 = true then some (m6.1 38 (((7 * nI c) + nI v) - 3).toNatClampNeg, m6) else none)))))))))))) := by
        intro m' z
        have z1 : (wr m' 27 0 0).1 27 0 ≤ 0 := Int32.le_refl 0
        simp only [f_X11_child, iC_yes (H0 m' z) hc hn8, cal_eq, bnd_eq, n10, ↓reduceIte, in11_yes hv, if_pos z1]
      have s7 : ∀ k, k < 7 → ∀ q : Int32, q = nI (k + 3) → (((7 : Int32) * nI c) + q) - 3 = 7 * nI c + nI k := by
        intro k hk q hq
        subst hq
        rw [show (7 : Int32) * nI c = nI (7 * c) from pk_mul 7 c, nI_add, show (3 : Int32) = nI 3 from rfl, pk_sub (by omega), nI_add]
        rfl
      obtain ⟨t1, t2, t3⟩ := (HM_fr H (fr_thr m 0)).2.2.2.2.2.2.2 (show 0 < nc by omega)
      have told := R.2.2.2.2
      have r9 : (wr m 27 0 0).1 38 (7 * c + 6) = kd (m.1 4) c 9 := by
        rcases told with u | ⟨nc', ne', t⟩
        · have := H.2.2.1; rw [u.1] at this; exact absurd this.symm (nI_ne0 (by omega) (by omega))
        · exact t.2.1.2.2.1 c hc8
      by_cases v10 : v = 10
      · subst v10
        refine ⟨cnt (m.1 4) c, m, wr m 27 0 0, ?_, ?_, rfl, Rel_fr R (fr_thr m 0)⟩
        · rw [base1, if_pos (by decide), countOf_v hc8]; rfl
        · rw [base2 m Fr.rf]
          show cal (f_X11_countOf 38 (wr m 27 0 0) (nI c)) (fun x8 m7 => some (x8, m7)) = some (cnt (m.1 4) c, wr m 27 0 0)
          rw [mCount_v t1 hc8]; rfl
      by_cases v11 : v = 11
      · subst v11
        obtain ⟨m1, e1⟩ := taxOf_v (j := 4) hl h4 hi (by decide) hc8
        have f1 : Fr scr m m1 := fr_X5_taxOf (S := scr) (fun _ => rfl) scr_law e1
        have f2 := f1.tr (fr_thr m1 0)
        have c31 : (wr m1 27 0 0).1 27 31 = m.1 13 3 := (fr_ess f2 rfl).trans eh
        obtain ⟨u1, u2, u3⟩ := (HM_fr H f2).2.2.2.2.2.2.2 (show 0 < nc by omega)
        obtain ⟨m2, e2⟩ := mTaxOf_v (w := 38) (LR_fr hl f2) h4 (by rw [c31]; exact hi) u1 u2 hc hn8
        rw [c31] at e2
        have f3 : Fr (fun p k => scr p k && !(p == 27 && k == 0)) (wr m1 27 0 0) m2 := fr_X11_taxOf (S := fun p k => scr p k && !(p == 27 && k == 0)) rfl rfl rfl rfl rfl rfl rfl rfl rfl (fun _ => rfl) e2
        have f3' : Fr scr (wr m1 27 0 0) m2 := ⟨fun p k h => f3.1 p k (by simp [h]), fun p h => f3.2 p (by simp [h])⟩
        refine ⟨taxV V (m.1 13 3) (ltC (m.1 4) c) (cnt (m.1 4) c), m1, m2, ?_, ?_, ?_, Rel_fr R (f2.tr f3')⟩
        · rw [base1, if_neg (by decide), if_pos (by decide)]
          simp only [f_X5_holding, cal_eq, e1]
        · rw [base2 m1 f1]
          show cal (f_X11_taxOf 38 (wr m1 27 0 0) (nI c)) (fun x10 m9 => some (x10, m9)) = _
          rw [e2]; rfl
        · rw [f3.1 27 0 rfl]; rfl
      refine ⟨kd (m.1 4) c v, m, wr m 27 0 0, ?_, ?_, rfl, Rel_fr R (fr_thr m 0)⟩
      · have n1 : ¬ nI v = 10 := fun q => v10 ((nI_eq (a := v) (b := 10) (by omega) (by decide)).mp q)
        have n2 : ¬ nI v = 11 := fun q => v11 ((nI_eq (a := v) (b := 11) (by omega) (by decide)).mp q)
        rw [base1, if_neg n1, if_neg n2, kid_v hc8 (show v < 10 by omega)]; rfl
      · rw [base2 m Fr.rf]
        rcases (show v = 0 ∨ v = 1 ∨ v = 2 ∨ v = 3 ∨ v = 4 ∨ v = 5 ∨ v = 6 ∨ v = 7 ∨ v = 8 ∨ v = 9 by omega) with h | h | h | h | h | h | h | h | h | h
        · subst h
          show (if inr (7 * nI c + 0) 244 = true then some ((wr m 27 0 0).1 38 (7 * nI c + 0).toNatClampNeg, wr m 27 0 0) else none) = _
          rw [if_pos (i7_0 hc8), t7_0 hc8, (t1.1 c hc8).1]
        · subst h
          show (if inr (7 * nI c + 1) 244 = true then some ((wr m 27 0 0).1 38 (7 * nI c + 1).toNatClampNeg, wr m 27 0 0) else none) = _
          rw [if_pos (i7_1 hc8), t7_1 hc8, (t1.1 c hc8).2.1]
        · subst h
          show (if inr (7 * nI c + 2) 244 = true then some ((wr m 27 0 0).1 38 (7 * nI c + 2).toNatClampNeg, wr m 27 0 0) else none) = _
          rw [if_pos (i7_2 hc8), t7_2 hc8, (t1.1 c hc8).2.2.1]
        · subst h
          show (if inr (6 * nI c + 3) 48 = true then some ((wr m 27 0 0).1 32 (6 * nI c + 3).toNatClampNeg, wr m 27 0 0) else none) = _
          rw [if_pos (i6_3 hc8), t6_3 hc8, (t2.1 c hc).1]
        · subst h
          show (if inr (6 * nI c + 4) 48 = true then some ((wr m 27 0 0).1 32 (6 * nI c + 4).toNatClampNeg, wr m 27 0 0) else none) = _
          rw [if_pos (i6_4 hc8), t6_4 hc8, (t2.1 c hc).2.1]
        · subst h
          show (if inr (6 * nI c + 5) 48 = true then some ((wr m 27 0 0).1 32 (6 * nI c + 5).toNatClampNeg, wr m 27 0 0) else none) = _
          rw [if_pos (i6_5 hc8), t6_5 hc8, (t2.1 c hc).2.2]
        · subst h
          show (if inr (7 * nI c + 6 - 3) 244 = true then some ((wr m 27 0 0).1 38 (7 * nI c + 6 - 3).toNatClampNeg, wr m 27 0 0) else none) = _
          rw [s7 3 (by decide) 6 rfl, show (7 : Int32) * nI c + nI 3 = 7 * nI c + 3 from rfl, if_pos (i7_3 hc8), t7_3 hc8, (t1.1 c hc8).2.2.2.1]
        · subst h
          show (if inr (7 * nI c + 7 - 3) 244 = true then some ((wr m 27 0 0).1 38 (7 * nI c + 7 - 3).toNatClampNeg, wr m 27 0 0) else none) = _
          rw [s7 4 (by decide) 7 rfl, show (7 : Int32) * nI c + nI 4 = 7 * nI c + 4 from rfl, if_pos (i7_4 hc8), t7_4 hc8, (t1.1 c hc8).2.2.2.2.1]
        · subst h
          show (if inr (7 * nI c + 8 - 3) 244 = true then some ((wr m 27 0 0).1 38 (7 * nI c + 8 - 3).toNatClampNeg, wr m 27 0 0) else none) = _
          rw [s7 5 (by decide) 8 rfl, show (7 : Int32) * nI c + nI 5 = 7 * nI c + 5 from rfl, if_pos (i7_5 hc8), t7_5 hc8, (t1.1 c hc8).2.2.2.2.2]
        · subst h
          show (if inr (7 * nI c + 9 - 3) 244 = true then some ((wr m 27 0 0).1 38 (7 * nI c + 9 - 3).toNatClampNeg, wr m 27 0 0) else none) = _
          rw [s7 6 (by decide) 9 rfl, show (7 : Int32) * nI c + nI 6 = 7 * nI c + 6 from rfl, if_pos (i7_6 hc8), t7_6 hc8, r9]
theorem q_log (hB : B ≤ 40000) (R : Rel nl ln B m) : QQ nl ln B (f_X10_log m a1 a2) (fun m1 => f_X11_log m1 a1 a2) := by
  obtain ⟨M, M1, e97, e63, eg⟩ : ∃ M, M ≤ 40000 ∧ m.1 4 97 = nI M ∧ m.1 38 63 = nI (mn M 60) ∧ ∀ i, i < mn M 60 → ∀ w, w < 3 → m.1 38 (64 + 3 * (mn M 60 - 1 - i) + w) = m.1 18 ((M - i) % 100 * 3 + w) := by
    rcases R.2.2.2.2 with u | ⟨nc, ne, t⟩
    · exact ⟨0, by decide, u.2.2.1, u.2.2.2.2.2.2.2.2.2.1, fun i hi => absurd hi (Nat.not_lt_zero _)⟩
    · obtain ⟨M, M1, M2, _⟩ := t.2.2
      exact ⟨M, by omega, M2.1, M2.2.1, M2.2.2⟩
  have hq : mn M 60 ≤ 60 ∧ mn M 60 ≤ M := by unfold mn; split <;> omega
  have ll : f_X7_logLength m = some (nI (mn M 60), m) := by rw [logLen_v, e97, mn60 M1]
  have e63' : (wr m 27 0 0).1 38 63 = nI (mn M 60) := e63
  generalize hN : mn M 60 = N at *
  suffices ∃ r, f_X10_log m a1 a2 = some (r, m) ∧ f_X11_log m a1 a2 = some (r, wr m 27 0 0) by
    obtain ⟨r, x1, x2⟩ := this
    exact QQ_q R x1 Fr.rf x2 (fr_thr m 0)
  have in1 : ∀ x : Int32, (x < 0 ∨ ¬ x < 0 ∧ nI N ≤ x) → f_X11_isIn (wr m 27 0 0) x.toInt64 0 (nI N - 1 : Int32).toInt64 = some (0, wr m 27 0 0) := by
    intro x h
    rw [isIn_v (lo' := 0) (lo := 0) (hi := nI N - 1) rfl rfl]
    rcases h with h | ⟨h, h'⟩
    · rw [if_pos h]
    · rw [if_neg h, if_pos]
      rcases Nat.eq_zero_or_pos N with z | z
      · rw [z]; exact Int32.lt_of_lt_of_le (show nI 0 - 1 < 0 by decide) (Int32.not_lt.mp h)
      · rw [show (1 : Int32) = nI 1 from rfl, pk_sub z]
        exact Int32.lt_of_lt_of_le (nI_lt (by omega) (by omega)) h'
  rcases hund_cases a1 (n := N) (by omega) with h | ⟨i, hi, h⟩
  · refine ⟨-1000000, ?_, ?_⟩
    · simp only [f_X10_log, ll, cal_eq]
      rcases h with h | ⟨h, h'⟩
      · rw [if_pos h]
      · rw [if_neg h, if_pos h']
    · simp only [f_X11_log, bnd_eq, e63', in1 a1 h, cal_eq, ↓reduceIte]
  · subst h
    have in2 : f_X11_isIn (wr m 27 0 0) (nI i).toInt64 0 (nI N - 1 : Int32).toInt64 = some (1, wr m 27 0 0) := by
      rw [isIn_v (lo' := 0) (lo := 0) (hi := nI N - 1) rfl rfl, if_neg (nI_pos (by omega)), show (1 : Int32) = nI 1 from rfl, pk_sub (by omega), if_neg (nI_nlt (by omega) (by omega))]
    rcases hund_cases a2 (n := 3) (by decide) with h | ⟨w, hw, h⟩
    · refine ⟨-1000000, ?_, ?_⟩
      · simp only [f_X10_log, ll, cal_eq, if_neg (nI_pos (show i < 2 ^ 31 by omega)), if_neg (ix_lt hi (show N < 2 ^ 31 by omega))]
        rcases h with h | ⟨h, h'⟩
        · rw [if_pos h]
        · rw [if_neg h, if_neg (show ¬ a2 < 3 from Int32.not_lt.mpr h')]
      · simp only [f_X11_log, bnd_eq, e63', in2, cal_eq, n10, ↓reduceIte, in2_no h]
    · subst h
      have p1 : (M - i) % 100 * 3 + w < 300 := by have := Nat.mod_lt (M - i) (show 0 < 100 by decide); omega
      have eq1 : (nI M - nI i) - (nI M - nI i) / 100 * 100 = nI ((M - i) % 100) := by
        rw [pk_sub (show i ≤ M by omega), show (100 : Int32) = nI 100 from rfl, pk_rem (by omega) (by decide) (by decide)]
      have eq2 : nI ((M - i) % 100) * 3 + nI w = nI ((M - i) % 100 * 3 + w) := by
        rw [show (3 : Int32) = nI 3 from rfl, pk_mul, nI_add]
      have p2 : 64 + 3 * (N - 1 - i) + w < 244 := by omega
      have eq3 : (64 : Int32) + 3 * (nI N - 1 - nI i) + nI w = nI (64 + 3 * (N - 1 - i) + w) := by
        rw [show (1 : Int32) = nI 1 from rfl, pk_sub (show 1 ≤ N by omega), pk_sub (show i ≤ N - 1 by omega), show (3 : Int32) = nI 3 from rfl, pk_mul, show (64 : Int32) = nI 64 from rfl, nI_add, nI_add]
      refine ⟨m.1 18 ((M - i) % 100 * 3 + w), ?_, ?_⟩
      · simp only [f_X10_log, ll, cal_eq, if_neg (nI_pos (show i < 2 ^ 31 by omega)), if_neg (ix_lt hi (show N < 2 ^ 31 by omega)), if_neg (nI_pos (show w < 2 ^ 31 by omega)), if_pos (show nI w < 3 from nI_lt (b := 3) hw (by decide)), cell97, e97, f_X7_logged, f_X7_rowOf, bnd_eq, eq1, eq2, if_neg (nI_pos (show (M - i) % 100 * 3 + w < 2 ^ 31 by omega)), if_neg (show ¬ (300 : Int32) ≤ nI ((M - i) % 100 * 3 + w) from ix_lt (n := 300) p1 (by decide)), in_nI p1 (show 300 < 2 ^ 31 by decide), ↓reduceIte, nI_clamp (show (M - i) % 100 * 3 + w < 2 ^ 31 by omega)]
      · simp only [f_X11_log, bnd_eq, e63', in2, cal_eq, n10, ↓reduceIte, in2_yes hw, eq3, in_nI p2 (show 244 < 2 ^ 31 by decide), nI_clamp (show 64 + 3 * (N - 1 - i) + w < 2 ^ 31 by omega)]
        rw [show (wr m 27 0 0).1 38 (64 + 3 * (N - 1 - i) + w) = m.1 38 (64 + 3 * (N - 1 - i) + w) from rfl, eg i hi w hw]
end
