/-! text: a law that is taken -/
section
variable {nl B B' : Nat} {ln : Nat → Nat} {m m1 m2 m' mc mm mc' mm0 mc1 mm1 mc2 mm2 : Sg} {j w u : Nat} {a a1 a2 a3 a4 r x x2 c v v1 v2 op : Int32} {L p q k k1 k2 i n off b N t P d f g p' n' p1 : Nat} {tx lt F G : Nat → Int32} {z : Bool} {V : (Nat → Int32) → Int32}
theorem LawOK_cg {ln' : Nat → Nat} {cd tx tx' : Nat → Int32} {T : Int32} (h : LawOK ln cd tx T V k) (e : ∀ i, i < 240 → tx' i = tx i) (el : ln' k = ln k) : LawOK ln' cd tx' T V k := by
  refine ⟨fun m' hm => by rw [el]; exact h.1 m' hm, fun m' hm => h.2 m' (fun i hi => by rw [hm i hi, e i hi])⟩
set_option maxRecDepth 100000 in
theorem nar_b (hb : b < 256) : vp_nar .byte (sb (nI b)) = sb (nI b) := by
  have : ∀ b, b < 256 → vp_nar .byte (sb (nI b)) = sb (nI b) := by decide
  exact this b hb
/-- the memory once the component has taken a law of n codes -/
def NW (nl n : Nat) (mc m3 : Sg) : Prop := m3.1 1 1 = 0 ∧ m3.1 13 2 = nI (nl + 1) ∧ (∀ i, i < n → m3.1 (46 + 3 * nl) i = mc.1 12 i) ∧ ∀ p k, ess p k = true → ¬ (p = 1 ∧ k = 1) → ¬ (p = 13 ∧ k = 2) → p ≠ 46 + 3 * nl → m3.1 p k = mc.1 p k
def lnA (ln : Nat → Nat) (nl n k : Nat) : Nat := if k = nl then n else ln k
theorem copy_v (h7 : m.1 27 7 = nI nl) (hn : nl < 4) (hL : L ≤ 240) (hb : ∀ i, i < L → ∃ b, b < 256 ∧ m.1 28 i = sb (nI b)) : ∃ m', lpO (f_X11_text_L56 (nI L)) fu (m, 0) = some m' ∧ ((∀ p, p ≠ 29 → m'.1 p = m.1 p) ∧ (∀ i, i < L → m'.1 29 (240 * nl + i) = m.1 28 i) ∧ ∀ i, ¬ (240 * nl ≤ i ∧ i < 240 * nl + L) → m'.1 29 i = m.1 29 i) := by
  refine lpO_inv (step := f_X11_text_L56 (nI L)) (fun i st => ∃ q, st = (q, nI i) ∧ (∀ p, p ≠ 29 → q.1 p = m.1 p) ∧ (∀ j, j < i → q.1 29 (240 * nl + j) = m.1 28 j) ∧ ∀ j, ¬ (240 * nl ≤ j ∧ j < 240 * nl + i) → q.1 29 j = m.1 29 j) _ L (m, 0) ⟨m, rfl, fun _ _ => rfl, fun j hj => absurd hj (by omega), fun _ _ => rfl⟩ ?_ ?_ (by omega)
  · rintro i st hi ⟨q, rfl, q1, q2, q3⟩
    obtain ⟨b, b1, b2⟩ := hb i hi
    have e7 : q.1 27 7 = nI nl := by rw [q1 27 (by decide)]; exact h7
    have e28 : q.1 28 i = sb (nI b) := by rw [q1 28 (by decide)]; exact b2
    have e240 : (240 : Int32) * nI nl + nI i = nI (240 * nl + i) := by
      rw [show (240 : Int32) = nI 240 from rfl, pk_mul, nI_add]
    refine ⟨(wr q 29 (240 * nl + i) (sb (nI b)), nI (i + 1)), ?_, _, rfl, fun p hp => by rw [wr_ne hp]; exact q1 p hp, fun j hj => ?_, fun j hj => ?_⟩
    · simp only [f_X11_text_L56, if_neg (ix_lt hi (show L < 2 ^ 31 by omega)), in_nI (show i < 240 by omega) (show 240 < 2 ^ 31 by decide), ↓reduceIte, e7, e240, in_nI (show 240 * nl + i < 960 by omega) (show 960 < 2 ^ 31 by decide), nI_clamp (show 240 * nl + i < 2 ^ 31 by omega), nI_clamp (show i < 2 ^ 31 by omega), e28, nar_b b1, bnd_eq, nI_1]
    · rw [wr_at]
      by_cases e : j = i
      · subst e; rw [pk_us, b2]
      · rw [pk_un (by omega)]; exact q2 j (by omega)
    · rw [wr_at, pk_un (by omega)]; exact q3 j (by omega)
  · rintro st ⟨q, rfl, q1, q2, q3⟩
    exact ⟨q, by simp only [f_X11_text_L56, if_pos (nI_le (Nat.le_refl L) (show L < 2 ^ 31 by omega))], q1, q2, q3⟩
theorem q_enact (R : Rel nl ln B m) (h4 : nl < 4) (hr : f_X6_read m = some (-1, mc)) : Fr scr m mc ∧ ∃ n, n ≤ 240 ∧ mc.1 10 2 = nI n ∧ ∀ m3 : Sg, NW nl n mc m3 → ∃ m4, f_X11_text m3 1 = some (nI nl, m4) ∧ Rel (nl + 1) (lnA ln nl n) B m4 := by
  obtain ⟨mc0, e1, e2, e3⟩ := law_q R
  have ex := Option.some.inj (hr.symm.trans e1)
  have ex1 : -1 = mc0.1 11 2 := congrArg Prod.fst ex
  have ex2 : mc = mc0 := congrArg Prod.snd ex
  subst ex2
  refine ⟨e2, ?_⟩
  obtain ⟨⟨L, tl, t1, t2, t3⟩, ⟨V, v1, v2, v3, v4, v5, v6⟩, R3, R4, R5⟩ := R
  have hb : Bt (m.1 2) L := fun k hk => by obtain ⟨b, b1, b2, b3, _⟩ := t3 k hk; exact ⟨b, b1, b2, b3⟩
  obtain ⟨n, n1, n2, n3⟩ := law_ok (k := nl) hb ⟨tl, t1, fun _ _ => rfl⟩ hr h4
  refine ⟨n, n1, n2, fun m3 hN => ?_⟩
  obtain ⟨w1, w2, w3, w4⟩ := hN
  -- cells of old
  have old : ∀ p k, ess p k = true → ¬ (p = 1 ∧ k = 1) → ¬ (p = 13 ∧ k = 2) → p ≠ 46 + 3 * nl → m3.1 p k = m.1 p k := fun p k h1 h2 h3 h4 => (w4 p k h1 h2 h3 h4).trans (fr_ess e2 h1)
  obtain ⟨mm, f1, f2, f3⟩ := e3 (wr m3 27 0 0) (fun k => by rw [wr_ne (by decide)]; exact old 28 k (e_all (by simp) k) (by omega) (by omega) (by omega)) (by rw [wr_at, pk_un (by decide)]; exact old 27 6 rfl (by omega) (by omega) (by omega))
  rw [← ex1] at f2
  have mo : ∀ p k, ess p k = true → ¬ (p = 27 ∧ k = 0) → mm.1 p k = m3.1 p k := fun p k h1 h2 => by
    rw [fr_ess f3 h1]
    by_cases e : p = 27
    · subst e; rw [wr_at, pk_un (fun h => h2 ⟨rfl, h⟩)]
    · rw [wr_ne e]
  have all : ∀ p k, ess p k = true → ¬ (p = 27 ∧ k = 0) → ¬ (p = 1 ∧ k = 1) → ¬ (p = 13 ∧ k = 2) → p ≠ 46 + 3 * nl → mm.1 p k = m.1 p k := fun p k h1 h2 h3 h4 h5 => (mo p k h1 h2).trans (old p k h1 h3 h4 h5)
  have c6 : mm.1 27 6 = nI L := (all 27 6 rfl (by omega) (by omega) (by omega) (by omega)).trans t2
  have c7 : mm.1 27 7 = nI nl := (all 27 7 rfl (by omega) (by omega) (by omega) (by omega)).trans v2
  have c28 : ∀ i, mm.1 28 i = m.1 28 i := fun i => all 28 i (e_all (by simp) i) (by omega) (by omega) (by omega) (by omega)
  obtain ⟨m5, g1, g2, g3, g4⟩ := copy_v (m := wr mm 27 6 0) (nl := nl) (L := L) (by rw [wr_at, pk_un (by decide)]; exact c7) h4 tl (fun i hi => by
    obtain ⟨b, b1, b2, b3, b4⟩ := t3 i hi
    exact ⟨b, b2, by rw [wr_ne (by decide), c28]; exact b4⟩)
  have h57 : m5.1 27 7 = nI nl := by rw [g2 27 (by decide), wr_at, pk_un (by decide)]; exact c7
  let m4 := wr (wr m5 30 nl (nI L)) 27 7 (nI (nl + 1))
  have i1 : ∀ q : Sg, f_X11_isIn q ((1 : Int32).toInt64) 0 1 = some (1, q) := fun q => in1_1
  have n4 : ¬ (wr m3 27 0 0).1 27 7 = 4 := by
    rw [wr_at, pk_un (by decide), old 27 7 rfl (by omega) (by omega) (by omega), v2]
    exact fun e => by have := (nI_eq (b := 4) (by omega) (by decide)).mp e; omega
  refine ⟨m4, ?_, ?_⟩
  · simp only [f_X11_text, bnd_eq, i1, cal_eq, if_neg n10, ↓reduceIte, if_neg n4, f1, f2, c6]
    rw [lpk_of g1]
    simp only [h57, in_nI h4 (show 4 < 2 ^ 31 by decide), ↓reduceIte, nI_clamp (show nl < 2 ^ 31 by omega), bnd_eq]
    have h577 : (wr m5 30 nl (nI L)).1 27 7 = nI nl := by rw [wr_ne (by decide)]; exact h57
    rw [h577, nI_1]
    show some ((wr _ 27 7 _).1 27 7 - 1, m4) = _
    rw [wr_at, pk_us, nI_s1 (by omega), Nat.add_sub_cancel]
  · have o4 : ∀ p, p ≠ 27 → p ≠ 29 → p ≠ 30 → m4.1 p = mm.1 p := fun p h1 h2 h3 => by
      show (wr (wr m5 30 nl (nI L)) 27 7 (nI (nl + 1))).1 p = _
      rw [wr_ne h1, wr_ne h3, g2 p h2, wr_ne h1]
    have o27 : ∀ k, k ≠ 6 → k ≠ 7 → m4.1 27 k = mm.1 27 k := fun k h1 h2 => by
      show (wr (wr m5 30 nl (nI L)) 27 7 (nI (nl + 1))).1 27 k = _
      rw [wr_at, pk_un h2, wr_ne (by decide), g2 27 (by decide), wr_at, pk_un h1]
    have o29 : m4.1 29 = m5.1 29 := by
      show (wr (wr m5 30 nl (nI L)) 27 7 (nI (nl + 1))).1 29 = _
      rw [wr_ne (by decide), wr_ne (by decide)]
    have o30 : m4.1 30 = upd (mm.1 30) nl (nI L) := by
      show (wr (wr m5 30 nl (nI L)) 27 7 (nI (nl + 1))).1 30 = _
      rw [wr_ne (by decide), wr_at, g2 30 (by decide), wr_ne (by decide)]
    have ro : ∀ p, p ≠ 27 → p ≠ 29 → p ≠ 30 → p ≠ 1 → p ≠ 13 → p ≠ 46 + 3 * nl → ∀ k, ess p k = true → m4.1 p k = m.1 p k := fun p h1 h2 h3 h4' h5 h6 k hk => by
      rw [o4 p h1 h2 h3]
      exact all p k hk (by omega) (by omega) (by omega) h6
    have r27 : ∀ k, k ≠ 6 → k ≠ 7 → k ≠ 0 → ess 27 k = true → m4.1 27 k = m.1 27 k := fun k h1 h2 h3 h4' => by
      rw [o27 k h1 h2]
      exact all 27 k h4' (by omega) (by omega) (by omega) (by omega)
    have row : ∀ p, p ≠ 27 → p ≠ 29 → p ≠ 30 → p ≠ 1 → p ≠ 13 → p ≠ 46 + 3 * nl → (∀ k, ess p k = true) → m4.1 p = m.1 p := fun p h1 h2 h3 h4' h5 h6 hk => funext fun k => ro p h1 h2 h3 h4' h5 h6 k (hk k)
    refine ⟨⟨0, by decide, ?_, ?_, fun k hk => absurd hk (by omega)⟩, ⟨fun k => if k = nl then Vw (mc.1 12) n else V k, ?_, ?_, by omega, ?_, ?_, fun k hk => ?_⟩, ?_, ?_, ?_⟩
    · rw [o4 1 (by decide) (by decide) (by decide), mo 1 1 rfl (by omega)]; exact w1
    · show (wr (wr m5 30 nl (nI L)) 27 7 (nI (nl + 1))).1 27 6 = _
      rw [wr_at, pk_un (by decide), wr_ne (by decide), g2 27 (by decide), wr_at, pk_us]; rfl
    · rw [o4 13 (by decide) (by decide) (by decide), mo 13 2 rfl (by omega)]; exact w2
    · show (wr (wr m5 30 nl (nI L)) 27 7 (nI (nl + 1))).1 27 7 = _
      rw [wr_at, pk_us]
    · rw [o4 13 (by decide) (by decide) (by decide), all 13 3 rfl (by omega) (by omega) (by omega) (by omega)]; exact isI_mono v4 (by omega)
    · rw [r27 31 (by decide) (by decide) (by decide) rfl, o4 13 (by decide) (by decide) (by decide), all 13 3 rfl (by omega) (by omega) (by omega) (by omega)]; exact v5
    · by_cases e : k = nl
      · subst e
        dsimp only
        rw [if_pos rfl, o30, pk_us, o29]
        refine n3 (lnA ln k n) _ _ (by unfold lnA; rw [if_pos rfl]) (fun i hi => ?_) (fun i hi => ?_)
        · rw [o4 (46 + 3 * k) (by omega) (by omega) (by omega), mo _ i (e_code k i) (by omega)]; exact w3 i hi
        · rw [g3 i hi, wr_ne (by decide), c28]
          obtain ⟨b, b1, b2, b3, b4⟩ := t3 i hi
          rw [b4, b3]
      · have hk' : k < nl := by omega
        have ecd : m4.1 (46 + 3 * k) = m.1 (46 + 3 * k) := row (46 + 3 * k) (by omega) (by omega) (by omega) (by omega) (by omega) (by omega) (e_code k)
        have e30 : m4.1 30 k = m.1 30 k := by
          rw [o30, pk_un e]
          exact all 30 k (e_all (by simp) k) (by omega) (by omega) (by omega) (by omega)
        dsimp only
        rw [if_neg e, ecd, e30]
        refine LawOK_cg (v6 k hk') (fun i hi => ?_) (by unfold lnA; rw [if_neg e])
        rw [o29, g4 _ (by omega), wr_ne (by decide)]
        exact all 29 _ (e_all (by simp) _) (by omega) (by omega) (by omega) (by omega)
    · rw [r27 32 (by decide) (by decide) (by decide) rfl, ro 0 (by decide) (by decide) (by decide) (by decide) (by decide) (by omega) 9 rfl]; exact R3
    · rw [r27 34 (by decide) (by decide) (by decide) rfl]; exact R4
    · have r4 := row 4 (by decide) (by decide) (by decide) (by decide) (by decide) (by omega) (e_all (by simp))
      have r17 := row 17 (by decide) (by decide) (by decide) (by decide) (by decide) (by omega) (e_all (by simp))
      have r18 := row 18 (by decide) (by decide) (by decide) (by decide) (by decide) (by omega) (e_all (by simp))
      have r19 := row 19 (by decide) (by decide) (by decide) (by decide) (by decide) (by omega) (e_all (by simp))
      have r20 := row 20 (by decide) (by decide) (by decide) (by decide) (by decide) (by omega) (e_all (by simp))
      have r32 := row 32 (by decide) (by decide) (by decide) (by decide) (by decide) (by omega) (e_all (by simp))
      have r34 := row 34 (by decide) (by decide) (by decide) (by decide) (by decide) (by omega) (e_all (by simp))
      have r36 := row 36 (by decide) (by decide) (by decide) (by decide) (by decide) (by omega) (e_all (by simp))
      have r38 := row 38 (by decide) (by decide) (by decide) (by decide) (by decide) (by omega) (e_all (by simp))
      have r41 := row 41 (by decide) (by decide) (by decide) (by decide) (by decide) (by omega) (e_all (by simp))
      have r43 := row 43 (by decide) (by decide) (by decide) (by decide) (by decide) (by omega) (e_all (by simp))
      have c5 := ro 16 (by decide) (by decide) (by decide) (by decide) (by decide) (by omega) 4 rfl
      have c6 := ro 16 (by decide) (by decide) (by decide) (by decide) (by decide) (by omega) 5 rfl
      have c7 := ro 16 (by decide) (by decide) (by decide) (by decide) (by decide) (by omega) 6 rfl
      have d3 := r27 24 (by decide) (by decide) (by decide) rfl
      have d4 := r27 25 (by decide) (by decide) (by decide) rfl
      have d8 := r27 39 (by decide) (by decide) (by decide) rfl
      have d9 := r27 45 (by decide) (by decide) (by decide) rfl
      generalize m4 = y at *
      unfold Untold Told PastR SV rowC rowM at R5 ⊢
      simp only [r4, r17, r18, r19, r20, r32, r34, r36, r38, r41, r43, c5, c6, c7, d3, d4, d8, d9]
      exact R5
end
