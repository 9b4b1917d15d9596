/-! texts of counties: a clause -/
section
variable {nl B B' : Nat} {ln : Nat → Nat} {m m1 m2 m' mc mm mc0 mm0 : Sg} {j w u : Nat} {a a1 a2 a3 a4 r x c lo hi s : Int32} {L p q k i n off b N t t1 t2 t3 cnt base nc ne e ru : Nat} {tx : Nat → Int32} {z : Bool} {F F' R S U R' S' U' g : Nat → Int32}
theorem addE_v (h : m.1 6 96 = nI ne) (hn : ne < 4) : ∃ m', f_X0_addElder 6 m a1 a2 a3 = some m' ∧ Fr s6 m m' ∧ (∀ k, (k < 80 + 3 * ne ∨ 80 + 3 * ne + 3 ≤ k) → k ≠ 96 → m'.1 6 k = m.1 6 k) ∧ m'.1 6 96 = nI (ne + 1) ∧ m'.1 6 (80 + 3 * ne + 0) = a1 ∧ m'.1 6 (80 + 3 * ne + 1) = a2 ∧ m'.1 6 (80 + 3 * ne + 2) = (1 <<< (a3 &&& 31)) - 1 := by
  have p0 : ∀ (q : Sg) v, f_X0_putOld 6 q (nI ne) 0 v = some (wr q 6 (80 + 3 * ne + 0) v) := fun q v => putOld_v (w := 0) hn (by decide)
  have p1 : ∀ (q : Sg) v, f_X0_putOld 6 q (nI ne) 1 v = some (wr q 6 (80 + 3 * ne + 1) v) := fun q v => putOld_v (w := 1) hn (by decide)
  have p2 : ∀ (q : Sg) v, f_X0_putOld 6 q (nI ne) 2 v = some (wr q 6 (80 + 3 * ne + 2) v) := fun q v => putOld_v (w := 2) hn (by decide)
  refine ⟨wr (wr (wr (wr m 6 (80 + 3 * ne + 0) a1) 6 (80 + 3 * ne + 1) a2) 6 (80 + 3 * ne + 2) ((1 <<< (a3 &&& 31)) - 1)) 6 96 (nI (ne + 1)), ?_, ((Fr.tr (Fr.w1 rfl) (Fr.w1 rfl)).tr (Fr.w1 rfl)).tr (Fr.w1 rfl), fun k hk hk2 => ?_, ?_, ?_, ?_, ?_⟩
  · simp only [f_X0_addElder, h, bnd_eq, if_pos (show nI ne < 4 from nI_lt (b := 4) hn (by decide)), p0, p1, p2, calv_eq, cal_eq, f_X0_fromBelow, nI_1]
  · simp only [wr_at]
    rw [pk_un hk2, pk_un (by omega), pk_un (by omega), pk_un (by omega)]
  · simp only [wr_at]; rw [pk_us]
  · simp only [wr_at]; rw [pk_un (by omega), pk_un (by omega), pk_un (by omega), pk_us]
  · simp only [wr_at]; rw [pk_un (by omega), pk_un (by omega), pk_us]
  · simp only [wr_at]; rw [pk_un (by omega), pk_us]
/-- both stand alike: n clauses read, or wrong at the same place -/
def CR (tx : Nat → Int32) (L n p : Nat) (mc mm : Sg) : Prop := ∃ nc ne ru, mc.1 8 1 = nI p ∧ mc.1 8 2 = -1 ∧ p ≤ L ∧ mm.1 27 10 = nI p ∧ mm.1 27 11 = -1 ∧ mm.1 27 26 = nI nc ∧ mm.1 27 27 = nI ne ∧ mm.1 27 28 = nI ru ∧ mc.1 7 2 = nI ru ∧ ru ≤ 1 ∧ nc + ne + ru = n ∧ KR (mc.1 6) (mm.1 33) (mm.1 35) (mm.1 37) nc ne
def CW (mc mm : Sg) : Prop := ∃ e, mc.1 8 2 = nI e ∧ mm.1 27 11 = nI e ∧ e < 2 ^ 31
def CX (tx : Nat → Int32) (L n : Nat) (mc mm : Sg) : Prop := Tx tx L mc ∧ Mx tx L false 0 mm ∧ ((∃ p, CR tx L n p mc mm) ∨ CW mc mm)
theorem s6_Tx (T : Tx tx L m) (f : Fr s6 m m') : Tx tx L m' := ⟨T.1, by rw [f.1 1 1 rfl]; exact T.2.1, fun k hk => by rw [f.1 2 k rfl]; exact T.2.2 k hk⟩
theorem clause_v (hb : Bt tx L) (T : Tx tx L mc) (M : Mx tx L false 0 mm) (h : CR tx L n p mc mm) : ∃ mc' mm', f_X1_readClause mc = some mc' ∧ f_X11_readClause mm = some mm' ∧ CX tx L (n + 1) mc' mm' := by
  obtain ⟨nc, ne, ru, h1, h2, h3, h4, h5, h6, h7, h8, h9, h10, h11, K⟩ := h
  have l240 := T.1
  have hn8 := K.1
  have hn4 := K.2.1
  have pk := peek_v T (show 8 ≠ 1 by decide) (show 8 ≠ 2 by decide) h1 h3 h2
  have lk := look_v hb M h4 h3
  have le := sk_le (tx := tx) h3
  have T1 : Tx tx L (wr mc 8 1 (nI (sk tx L p))) := Tx_wr T (by decide) (by decide)
  have M1 : ∀ v, Mx tx L false 0 (wr mm 27 10 v) := fun v => Mx_wr M (by decide) (by decide) (by decide)
  have c81 : (wr mc 8 1 (nI (sk tx L p))).1 8 1 = nI (sk tx L p) := by rw [wr_at, pk_us]
  have c82 : (wr mc 8 1 (nI (sk tx L p))).1 8 2 = -1 := by rw [wr_at, pk_un (by decide)]; exact h2
  have c6 : (wr mc 8 1 (nI (sk tx L p))).1 6 = mc.1 6 := wr_ne (by decide)
  have c7 : (wr mc 8 1 (nI (sk tx L p))).1 7 = mc.1 7 := wr_ne (by decide)
  have d10 : ∀ v, (wr mm 27 10 v).1 27 10 = v := fun v => by rw [wr_at, pk_us]
  have dk : ∀ v k, k ≠ 10 → (wr mm 27 10 v).1 27 k = mm.1 27 k := fun v k hk => by rw [wr_at, pk_un hk]
  have dw : ∀ v w, w ≠ 27 → (wr mm 27 10 v).1 w = mm.1 w := fun v w hw => wr_ne hw
  unfold f_X1_readClause f_X11_readClause
  rw [pk, cal_eq, lk, cal_eq]
  have cL : chr tx L (sk tx L p) ≠ -1 → sk tx L p < L := by
    intro z
    unfold chr at z
    rcases Nat.lt_or_ge (sk tx L p) L with y | y
    · exact y
    · rw [if_neg (by omega)] at z; exact absurd rfl z
  generalize hc : wr mc 8 1 (nI (sk tx L p)) = c1 at *
  generalize hce : chr tx L (sk tx L p) = ch at *
  -- wrong here
  have wrong : ∃ mc' mm', f_X2_fail 8 c1 = some mc' ∧ f_X11_fails (wr mm 27 10 (nI (sk tx L p))) = some (0, mm') ∧ CX tx L (n + 1) mc' mm' := by
    refine ⟨wr c1 8 2 (nI (sk tx L p)), wr (wr mm 27 10 (nI (sk tx L p))) 27 11 (nI (sk tx L p)), by rw [fail_v c82, c81], by rw [mfail_v (by rw [dk _ 11 (by decide)]; exact h5), d10], Tx_wr T1 (by decide) (by decide), Mx_wr (M1 _) (by decide) (by decide) (by decide), Or.inr ⟨sk tx L p, by rw [wr_at, pk_us], by rw [wr_at, pk_us], by omega⟩⟩
  obtain ⟨wc, wm, w1, w2, w3⟩ := wrong
  simp only [bnd_eq, f_X0_children, f_X0_elders, cal_eq, c6, c7, K.2.2.1, K.2.2.2.1, h9, dk _ 26 (by decide), dk _ 27 (by decide), dk _ 28 (by decide), h6, h7, h8, w1, w2, calv_eq, ↓reduceIte, n10, d10, nI_1, wr_wr2]
  by_cases y1 : ch = 99
  · subst y1
    have sl := cL (by decide)
    simp only [↓reduceIte, if_neg (show ¬ (99 : Int32) = 101 by decide), if_neg (show ¬ (99 : Int32) = 114 by decide)]
    by_cases y2 : nc < 8
    · rw [if_neg (show ¬ (8 : Int32) ≤ nI nc from ix_lt (n := 8) y2 (by decide)), if_pos (show nI nc < 8 from nI_lt (b := 8) y2 (by decide))]
      have M2 : Mx tx L false 0 (wr (wr mm 27 10 (nI (sk tx L p + 1))) 27 26 (nI (nc + 1))) := Mx_wr (M1 _) (by decide) (by decide) (by decide)
      have f26 : (wr (wr mm 27 10 (nI (sk tx L p + 1))) 27 26 (nI (nc + 1))).1 27 26 = nI (nc + 1) := by rw [wr_at, pk_us]
      have fk : ∀ k, k ≠ 26 → k ≠ 10 → (wr (wr mm 27 10 (nI (sk tx L p + 1))) 27 26 (nI (nc + 1))).1 27 k = mm.1 27 k := fun k k1 k2 => by rw [wr_at, pk_un k1, dk _ k k2]
      have f10 : (wr (wr mm 27 10 (nI (sk tx L p + 1))) 27 26 (nI (nc + 1))).1 27 10 = nI (sk tx L p + 1) := by rw [wr_at, pk_un (by decide), d10]
      have fw : ∀ w, w ≠ 27 → (wr (wr mm 27 10 (nI (sk tx L p + 1))) 27 26 (nI (nc + 1))).1 w = mm.1 w := fun w hw => by rw [wr_ne hw, wr_ne hw]
      have f11 : (wr (wr mm 27 10 (nI (sk tx L p + 1))) 27 26 (nI (nc + 1))).1 27 11 = -1 := by rw [fk 11 (by decide) (by decide)]; exact h5
      have eb : (6 : Int32) * (nI (nc + 1) - 1) = nI (6 * nc) := by
        rw [nI_s1 (by omega), show nc + 1 - 1 = nc by omega, show (6 : Int32) = nI 6 from rfl, pk_mul]
      rw [f26, eb]
      generalize wr (wr mm 27 10 (nI (sk tx L p + 1))) 27 26 (nI (nc + 1)) = mx at *
      obtain ⟨c2, m2, i1, i2, O1, O2, O3, O4, O5⟩ := items_v (base := 6 * nc) (w := 33) (n := 48) hb KK_c (Or.inl rfl) (show 6 * nc + 6 ≤ 48 by omega) (by decide) T1 M2 c81 c82 sl f10 f11
      have c26 : c2.1 6 = mc.1 6 := by rw [← c6]; exact funext fun k => O3.1 6 k rfl
      have c27 : c2.1 7 2 = nI ru := by rw [O3.1 7 2 rfl, c7, h9]
      obtain ⟨c3, a1, a2, a3, a4, a5, a6, a7, a8, a9, a10, a11⟩ := addC_v (m := c2) (nc := nc) (by rw [c26]; exact K.2.2.1) y2
      refine ⟨c3, m2, by rw [i1, calv_eq, a1, calv_eq], by rw [i2, calv_eq], s6_Tx O1 a2, O2, ?_⟩
      rcases O5 with ⟨p', q1, q2, q3, q4, q5, q6, q7⟩ | ⟨e, e1, e2, e3⟩
      · refine Or.inl ⟨p', nc + 1, ne, ru, by rw [a2.1 8 1 rfl]; exact q1, by rw [a2.1 8 2 rfl]; exact q2, q3, q4, q5, by rw [O4.1 27 26 rfl]; exact f26, by rw [O4.1 27 27 rfl, fk 27 (by decide) (by decide)]; exact h7, by rw [O4.1 27 28 rfl, fk 28 (by decide) (by decide)]; exact h8, by rw [a2.1 7 2 rfl]; exact c27, h10, by omega, ?_⟩
        have e35 : m2.1 35 = mm.1 35 := by rw [← fw 35 (by decide)]; exact funext fun k => O4.1 35 k rfl
        have e37 : m2.1 37 = mm.1 37 := by rw [← fw 37 (by decide)]; exact funext fun k => O4.1 37 k rfl
        rw [e35, e37]
        exact KR_kid (g := c2.1 9) K y2 (fun k k1 k2 => by rw [a3 k k1 k2, c26]) a4 a5 a6 a7 a8 a9 a10 a11 (fun j hj => by rw [q7 j hj, fw 33 (by decide)]) q6
      · exact Or.inr ⟨e, by rw [a2.1 8 2 rfl]; exact e1, e2, e3⟩
    · rw [if_pos (show (8 : Int32) ≤ nI nc from nI_le (a := 8) (by omega) (by omega)), if_neg (show ¬ nI nc < 8 from nI_nlt (b := 8) (by omega) (by omega))]
      exact ⟨wc, wm, rfl, rfl, w3⟩
  · simp only [if_neg y1]
    by_cases y3 : ch = 101
    · subst y3
      have sl := cL (by decide)
      simp only [↓reduceIte, if_neg (show ¬ (101 : Int32) = 114 by decide)]
      by_cases y2 : ne < 4
      · rw [if_neg (show ¬ (4 : Int32) ≤ nI ne from ix_lt (n := 4) y2 (by decide)), if_pos (show nI ne < 4 from nI_lt (b := 4) y2 (by decide))]
        have M2 : Mx tx L false 0 (wr (wr mm 27 10 (nI (sk tx L p + 1))) 27 27 (nI (ne + 1))) := Mx_wr (M1 _) (by decide) (by decide) (by decide)
        have f26 : (wr (wr mm 27 10 (nI (sk tx L p + 1))) 27 27 (nI (ne + 1))).1 27 27 = nI (ne + 1) := by rw [wr_at, pk_us]
        have fk : ∀ k, k ≠ 27 → k ≠ 10 → (wr (wr mm 27 10 (nI (sk tx L p + 1))) 27 27 (nI (ne + 1))).1 27 k = mm.1 27 k := fun k k1 k2 => by rw [wr_at, pk_un k1, dk _ k k2]
        have f10 : (wr (wr mm 27 10 (nI (sk tx L p + 1))) 27 27 (nI (ne + 1))).1 27 10 = nI (sk tx L p + 1) := by rw [wr_at, pk_un (by decide), d10]
        have fw : ∀ w, w ≠ 27 → (wr (wr mm 27 10 (nI (sk tx L p + 1))) 27 27 (nI (ne + 1))).1 w = mm.1 w := fun w hw => by rw [wr_ne hw, wr_ne hw]
        have f11 : (wr (wr mm 27 10 (nI (sk tx L p + 1))) 27 27 (nI (ne + 1))).1 27 11 = -1 := by rw [fk 11 (by decide) (by decide)]; exact h5
        have eb : (3 : Int32) * (nI (ne + 1) - 1) = nI (3 * ne) := by
          rw [nI_s1 (by omega), show ne + 1 - 1 = ne by omega, show (3 : Int32) = nI 3 from rfl, pk_mul]
        rw [f26, eb]
        generalize wr (wr mm 27 10 (nI (sk tx L p + 1))) 27 27 (nI (ne + 1)) = mx at *
        obtain ⟨c2, m2, i1, i2, O1, O2, O3, O4, O5⟩ := items_v (base := 3 * ne) (w := 35) (n := 12) hb KK_e (Or.inr (Or.inl rfl)) (show 3 * ne + 3 ≤ 12 by omega) (by decide) T1 M2 c81 c82 sl f10 f11
        have c26 : c2.1 6 = mc.1 6 := by rw [← c6]; exact funext fun k => O3.1 6 k rfl
        have c27 : c2.1 7 2 = nI ru := by rw [O3.1 7 2 rfl, c7, h9]
        obtain ⟨c3, a1, a2, a3, a4, a5, a6, a7⟩ := addE_v (m := c2) (ne := ne) (a1 := c2.1 9 0) (a2 := c2.1 9 1) (a3 := c2.1 9 2) (by rw [c26]; exact K.2.2.2.1) y2
        refine ⟨c3, m2, by rw [i1, calv_eq, a1, calv_eq], by rw [i2, calv_eq], s6_Tx O1 a2, O2, ?_⟩
        rcases O5 with ⟨p', q1, q2, q3, q4, q5, q6, q7⟩ | ⟨e, e1, e2, e3⟩
        · refine Or.inl ⟨p', nc, ne + 1, ru, by rw [a2.1 8 1 rfl]; exact q1, by rw [a2.1 8 2 rfl]; exact q2, q3, q4, q5, by rw [O4.1 27 26 rfl, fk 26 (by decide) (by decide)]; exact h6, by rw [O4.1 27 27 rfl]; exact f26, by rw [O4.1 27 28 rfl, fk 28 (by decide) (by decide)]; exact h8, by rw [a2.1 7 2 rfl]; exact c27, h10, by omega, ?_⟩
          have e33 : m2.1 33 = mm.1 33 := by rw [← fw 33 (by decide)]; exact funext fun k => O4.1 33 k rfl
          have e37 : m2.1 37 = mm.1 37 := by rw [← fw 37 (by decide)]; exact funext fun k => O4.1 37 k rfl
          rw [e33, e37]
          exact KR_old (g := c2.1 9) K y2 (fun k k1 k2 => by rw [a3 k k1 k2, c26]) a4 a5 a6 a7 (fun j hj => by rw [q7 j hj, fw 35 (by decide)]) q6
        · exact Or.inr ⟨e, by rw [a2.1 8 2 rfl]; exact e1, e2, e3⟩
      · rw [if_pos (show (4 : Int32) ≤ nI ne from nI_le (a := 4) (by omega) (by omega)), if_neg (show ¬ nI ne < 4 from nI_nlt (b := 4) (by omega) (by omega))]
        exact ⟨wc, wm, rfl, rfl, w3⟩
    · simp only [if_neg y3]
      by_cases y4 : ch = 114
      · subst y4
        have sl := cL (by decide)
        simp only [↓reduceIte]
        rcases (show ru = 0 ∨ ru = 1 by omega) with y2 | y2
        · subst y2
          simp only [if_pos (show nI 0 = 0 from rfl)]
          have M2 : Mx tx L false 0 (wr (wr mm 27 10 (nI (sk tx L p + 1))) 27 28 1) := Mx_wr (M1 _) (by decide) (by decide) (by decide)
          have f26 : (wr (wr mm 27 10 (nI (sk tx L p + 1))) 27 28 1).1 27 28 = nI 1 := by rw [wr_at, pk_us]; rfl
          have fk : ∀ k, k ≠ 28 → k ≠ 10 → (wr (wr mm 27 10 (nI (sk tx L p + 1))) 27 28 1).1 27 k = mm.1 27 k := fun k k1 k2 => by rw [wr_at, pk_un k1, dk _ k k2]
          have f10 : (wr (wr mm 27 10 (nI (sk tx L p + 1))) 27 28 1).1 27 10 = nI (sk tx L p + 1) := by rw [wr_at, pk_un (by decide), d10]
          have fw : ∀ w, w ≠ 27 → (wr (wr mm 27 10 (nI (sk tx L p + 1))) 27 28 1).1 w = mm.1 w := fun w hw => by rw [wr_ne hw, wr_ne hw]
          have f11 : (wr (wr mm 27 10 (nI (sk tx L p + 1))) 27 28 1).1 27 11 = -1 := by rw [fk 11 (by decide) (by decide)]; exact h5
          generalize wr (wr mm 27 10 (nI (sk tx L p + 1))) 27 28 1 = mx at *
          obtain ⟨c2, m2, i1, i2, O1, O2, O3, O4, O5⟩ := items_v (base := 0) (w := 37) (n := 3) hb KK_r (Or.inr (Or.inr rfl)) (show 0 + 3 ≤ 3 by omega) (by decide) T1 M2 c81 c82 sl f10 f11
          have i2 : f_X11_readItems 37 3 4 mx 114 0 = some m2 := i2
          have c26 : c2.1 6 = mc.1 6 := by rw [← c6]; exact funext fun k => O3.1 6 k rfl
          refine ⟨wr (wr (wr (wr c2 6 92 (c2.1 9 0)) 6 93 (c2.1 9 1)) 6 94 (c2.1 9 2)) 7 2 1, m2, by rw [i1, calv_eq]; rfl, by rw [i2, calv_eq], Tx_wr (Tx_wr (Tx_wr (Tx_wr O1 (by decide) (by decide)) (by decide) (by decide)) (by decide) (by decide)) (by decide) (by decide), O2, ?_⟩
          rcases O5 with ⟨p', q1, q2, q3, q4, q5, q6, q7⟩ | ⟨e, e1, e2, e3⟩
          · refine Or.inl ⟨p', nc, ne, 1, by rw [wr_ne (by decide), wr_ne (by decide), wr_ne (by decide), wr_ne (by decide)]; exact q1, by rw [wr_ne (by decide), wr_ne (by decide), wr_ne (by decide), wr_ne (by decide)]; exact q2, q3, q4, q5, by rw [O4.1 27 26 rfl, fk 26 (by decide) (by decide)]; exact h6, by rw [O4.1 27 27 rfl, fk 27 (by decide) (by decide)]; exact h7, by rw [O4.1 27 28 rfl]; exact f26, by rw [wr_at, pk_us]; rfl, by decide, by omega, ?_⟩
            have e33 : m2.1 33 = mm.1 33 := by rw [← fw 33 (by decide)]; exact funext fun k => O4.1 33 k rfl
            have e35 : m2.1 35 = mm.1 35 := by rw [← fw 35 (by decide)]; exact funext fun k => O4.1 35 k rfl
            rw [e33, e35]
            refine KR_rul (g := c2.1 9) K (fun k hk => ?_) ?_ ?_ ?_ q6
            · rw [wr_ne (by decide), wr_at, pk_un (by omega), wr_at, pk_un (by omega), wr_at, pk_un (by omega), c26]
            · rw [wr_ne (by decide), wr_at, pk_un (by decide), wr_at, pk_un (by decide), wr_at, pk_us]
            · rw [wr_ne (by decide), wr_at, pk_un (by decide), wr_at, pk_us]
            · rw [wr_ne (by decide), wr_at, pk_us]
          · exact Or.inr ⟨e, by rw [wr_ne (by decide), wr_ne (by decide), wr_ne (by decide), wr_ne (by decide)]; exact e1, e2, e3⟩
        · subst y2
          simp only [if_neg (show ¬ nI 1 = 0 by decide)]
          exact ⟨wc, wm, rfl, rfl, w3⟩
      · simp only [if_neg y4]
        exact ⟨wc, wm, rfl, rfl, w3⟩
end
