/-! fault and text: a law -/
section
variable {nl B B' : Nat} {ln : Nat → Nat} {m m1 m2 m' mc mm mc' mm0 mc1 mm1 mc2 mm2 : Sg} {j w u : Nat} {a a1 a2 a3 a4 r x x2 c v v1 v2 op : Int32} {L p q k k1 k2 i n off b N t P d f g p' n' p1 : Nat} {tx lt F G : Nat → Int32} {z : Bool}
/-- both have read the tape as a law -/
theorem law_q (R : Rel nl ln B m) : ∃ mc, f_X6_read m = some (mc.1 11 2, mc) ∧ Fr scr m mc ∧ ∀ q : Sg, (∀ k, q.1 28 k = m.1 28 k) → q.1 27 6 = m.1 27 6 → ∃ mm, f_X11_fault q 1 = some (mm.1 27 11, mm) ∧ mm.1 27 11 = mc.1 11 2 ∧ Fr scr q mm := by
  obtain ⟨L, tl, t1, t2, t3⟩ := R.1
  have hb : Bt (m.1 2) L := fun k hk => by obtain ⟨b, b1, b2, b3, _⟩ := t3 k hk; exact ⟨b, b1, b2, b3⟩
  have h28 : ∀ k, k < L → m.1 28 k = sb (m.1 2 k) := fun k hk => by obtain ⟨b, b1, b2, b3, b4⟩ := t3 k hk; rw [b3]; exact b4
  have T : Tx (m.1 2) L m := ⟨tl, t1, fun _ _ => rfl⟩
  obtain ⟨mc, _, e1, _, e3, _⟩ := law_v (z := false) (mm := m) (off := 0) hb T (by show 0 + L ≤ 240; omega) (fun k hk => by
    show m.1 28 (0 + k) = _
    rw [Nat.zero_add]; exact h28 k hk)
  refine ⟨mc, e1, sK_scr e3, fun q q1 q2 => ?_⟩
  obtain ⟨mc', mm, w1, w2, w3, w4, w5, _⟩ := law_v (z := false) (mm := wr q 27 0 0) (off := 0) hb T (by show 0 + L ≤ 240; omega) (fun k hk => by
    show (wr q 27 0 0).1 28 (0 + k) = _
    rw [Nat.zero_add, wr_ne (by decide), q1]; exact h28 k hk)
  have ex := congrArg Prod.snd (Option.some.inj (e1.symm.trans w1))
  have ex : mc = mc' := ex
  subst ex
  have w2 : f_X11_goThrough 0 (wr q 27 0 0) 0 (nI L) = some mm := w2
  refine ⟨mm, ?_, w5, (fr_thr q 0).tr (sG_scr w4)⟩
  have e6 : (wr q 27 0 0).1 27 6 = nI L := by rw [wr_at, pk_un (by decide), q2]; exact t2
  simp only [f_X11_fault, bnd_eq, show f_X11_isIn (wr q 27 0 0) ((1 : Int32).toInt64) 0 1 = some (1, wr q 27 0 0) from in1_1, cal_eq, if_neg n10, e6, w2, calv_eq]
theorem q_fault (R : Rel nl ln B m) : QQ nl ln B (f_X10_fault m a) (fun m1 => f_X11_fault m1 a) := by
  by_cases y0 : a = 0
  · subst y0; exact q_fault0 R
  · by_cases y1 : a = 1
    · subst y1
      obtain ⟨mc, e1, e2, e3⟩ := law_q R
      obtain ⟨mm, w1, w2, w3⟩ := e3 mc (fun k => by rw [fr_row e2 (e_all (by simp))]) (fr_ess e2 rfl)
      refine QQ_q R (r := mc.1 11 2) (m1 := mc) (m2 := mm) ?_ e2 ?_ w3
      · simp only [f_X10_fault, if_neg n10, if_pos, e1, cal_eq]
      · show f_X11_fault mc 1 = _
        rw [w1, w2]
    · have hn : a < 0 ∨ ¬ a < 0 ∧ nI 2 ≤ a := by
        rcases hund_cases a (n := 2) (by decide) with h | ⟨c, c1, c2⟩
        · exact h
        · have : c = 0 ∨ c = 1 := by omega
          rcases this with h | h
          · subst h; exact absurd c2 y0
          · subst h; exact absurd c2 y1
      refine QQ_q R (r := -2) (m1 := m) (m2 := wr m 27 0 0) ?_ Fr.rf ?_ (fr_thr m 0)
      · simp only [f_X10_fault, if_neg y0, if_neg y1]
      · simp only [f_X11_fault, bnd_eq, in1_no (m := wr m 27 0 0) hn, cal_eq, ↓reduceIte]
/-- text, but for a law that is taken -/
theorem q_text (R : Rel nl ln B m) (h : a = 1 → nl = 4 ∨ ∃ r mc, f_X6_read m = some (r, mc) ∧ ¬ r = -1) : QQ nl ln B (f_X10_text m a) (fun m1 => f_X11_text m1 a) := by
  by_cases y0 : a = 0
  · subst y0; exact q_text0 R
  · obtain ⟨V, hv⟩ := R.2.1
    obtain ⟨v1, v2, v3, _⟩ := hv
    by_cases y1 : a = 1
    · subst y1
      have i1 : ∀ q : Sg, f_X11_isIn q ((1 : Int32).toInt64) 0 1 = some (1, q) := fun q => in1_1
      by_cases y4 : nl = 4
      · subst y4
        refine QQ_q R (r := -1) (m1 := m) (m2 := wr m 27 0 0) ?_ Fr.rf ?_ (fr_thr m 0)
        · simp only [f_X10_text, bnd_eq, if_neg n10, ↓reduceIte, f_X5_hasRoom, v1, if_pos (show (4 : Int32) ≤ nI 4 by decide), cal_eq]
        · have e7 : (wr m 27 0 0).1 27 7 = 4 := by rw [wr_at, pk_un (by decide), v2]; rfl
          simp only [f_X11_text, bnd_eq, i1, cal_eq, if_neg n10, ↓reduceIte, e7]
      · have nl4 : nl < 4 := by omega
        obtain ⟨r, mc', hr, nr⟩ := (h rfl).resolve_left y4
        obtain ⟨mc, e1, e2, e3⟩ := law_q R
        have ex := Option.some.inj (hr.symm.trans e1)
        have ex1 : r = mc.1 11 2 := congrArg Prod.fst ex
        have ex2 : mc' = mc := congrArg Prod.snd ex
        subst ex2
        subst ex1
        obtain ⟨mm, w1, w2, w3⟩ := e3 (wr mc' 27 0 0) (fun k => by rw [wr_ne (by decide), fr_row e2 (e_all (by simp))]) (by rw [wr_at, pk_un (by decide), fr_ess e2 rfl])
        refine QQ_q R (r := -1) (m1 := mc') (m2 := mm) ?_ e2 ?_ ((fr_thr mc' 0).tr w3)
        · simp only [f_X10_text, bnd_eq, if_neg n10, ↓reduceIte, f_X5_hasRoom, v1, if_neg (show ¬ (4 : Int32) ≤ nI nl from ix_lt (n := 4) nl4 (by decide)), cal_eq, e1, if_neg nr]
        · have e7 : ¬ (wr mc' 27 0 0).1 27 7 = 4 := by
            rw [wr_at, pk_un (by decide), fr_ess e2 rfl, v2]
            exact fun e => by have := (nI_eq (b := 4) (by omega) (by decide)).mp e; omega
          rw [← w2] at nr
          simp only [f_X11_text, bnd_eq, i1, cal_eq, if_neg n10, ↓reduceIte, if_neg e7, w1, if_neg nr]
    · have hn : a < 0 ∨ ¬ a < 0 ∧ nI 2 ≤ a := by
        rcases hund_cases a (n := 2) (by decide) with h | ⟨c, c1, c2⟩
        · exact h
        · have : c = 0 ∨ c = 1 := by omega
          rcases this with h | h
          · subst h; exact absurd c2 y0
          · subst h; exact absurd c2 y1
      refine QQ_q R (r := -1) (m1 := m) (m2 := wr m 27 0 0) ?_ Fr.rf ?_ (fr_thr m 0)
      · simp only [f_X10_text, bnd_eq, if_neg y0, if_neg y1]
      · simp only [f_X11_text, bnd_eq, in1_no (m := wr m 27 0 0) hn, cal_eq, ↓reduceIte]
end
