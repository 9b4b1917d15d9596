/-! duel -/
section
variable {nl B B' : Nat} {ln : Nat → Nat} {V : Nat → (Nat → Int32) → Int32} {m m1 m2 m' C C' S : Sg} {j w u : Nat} {a a1 a2 a3 a4 r s law x mo y tr fv o1 o2 : Int32} {f f' g g' lg lg' : Nat → Int32} {nc ne c d e t M M' A nx n : Nat}
theorem lowT_v (x : Int32) : lowT x = -1 ∨ ∃ t, t < 9 ∧ lowT x = nI t := by
  unfold lowT
  have hx : ∀ k i, i + k ≤ 9 → scn (fun t => if b0 x t then none else some (nI t)) i k = none ∨ ∃ t, t < 9 ∧ scn (fun t => if b0 x t then none else some (nI t)) i k = some (nI t) := by
    intro k
    induction k with
    | zero => intro i h; exact Or.inl rfl
    | succ k ih =>
      intro i hk
      rw [scn]
      by_cases q : b0 x i
      · simp only [if_pos q]; exact ih (i + 1) (by omega)
      · simp only [if_neg q]; exact Or.inr ⟨i, by omega, rfl⟩
  rcases hx 9 0 (by decide) with h | ⟨t, t1, h⟩
  · rw [h]; exact Or.inl rfl
  · rw [h]; exact Or.inr ⟨t, t1, rfl⟩
theorem mkR_o {t : Int32} {k : Nat} (h1 : k ≠ 10 * c + 1) (h2 : k ≠ 10 * c + 2) : mkR f c t k = f k := by
  unfold mkR; rw [pk_un h2, pk_un h1]
theorem mkR_1 {t : Int32} : kd (mkR f c t) c 1 = kd f c 1 ||| tn t := by
  unfold mkR kd; rw [pk_un (by omega), pk_us]
theorem mkR_2 {t : Int32} : kd (mkR f c t) c 2 = kd f c 2 &&& (tn t ^^^ (-1)) := by
  unfold mkR kd; rw [pk_us]
theorem WF_mkR (hf : WF f nc ne B) (hc : c < nc) (ht : t < 9) : WF (mkR f c (nI t)) nc ne B := by
  obtain ⟨h1, h2, h3, h4, h5, h6, h7, h8, h9, h10, h11⟩ := hf
  have hi : ∀ k, 80 ≤ k → mkR f c (nI t) k = f k := fun k hk => mkR_o (by omega) (by omega)
  refine ⟨h1, h2, ?_, ?_, ?_, ?_, ?_, ?_, ?_, ?_, ?_⟩
  · rw [hi 95 (by omega)]; exact h3
  · rw [hi 96 (by omega)]; exact h4
  · intro c' hc'
    have kw : ∀ w, w < 10 → w ≠ 1 → w ≠ 2 → kd (mkR f c (nI t)) c' w = kd f c' w := fun w hw w1 w2 => mkR_o (by omega) (by omega)
    obtain ⟨d0, ⟨b0, b1, b2⟩, ⟨e0, e1, e2⟩, d3, d4, d5, d6, d8⟩ := h5 c' hc'
    unfold wfC
    rw [kw 0 (by decide) (by decide) (by decide), kw 3 (by decide) (by decide) (by decide), kw 4 (by decide) (by decide) (by decide), kw 5 (by decide) (by decide) (by decide), kw 6 (by decide) (by decide) (by decide), kw 7 (by decide) (by decide) (by decide), kw 8 (by decide) (by decide) (by decide)]
    by_cases q : c' = c
    · subst q
      rw [mkR_1, mkR_2, b2, e2]
      exact ⟨d0, or_tn b1 ht, and_lt _ e1, d3, d4, d5, d6, d8⟩
    · have k1 : kd (mkR f c (nI t)) c' 1 = kd f c' 1 := mkR_o (by omega) (by omega)
      have k2 : kd (mkR f c (nI t)) c' 2 = kd f c' 2 := mkR_o (by omega) (by omega)
      rw [k1, k2]
      exact ⟨d0, ⟨b0, b1, b2⟩, ⟨e0, e1, e2⟩, d3, d4, d5, d6, d8⟩
  · intro e he
    have := h6 e he
    unfold wfE at this ⊢
    have o : ∀ w, od (mkR f c (nI t)) e w = od f e w := fun w => hi _ (by omega)
    rw [o 1, o 2]
    exact this
  · rw [hi 92 (by omega)]; exact h7
  · rw [hi 93 (by omega)]; exact h8
  · rw [hi 94 (by omega)]; exact h9
  · rw [hi 97 (by omega)]; exact h10
  · rw [hi 98 (by omega)]; exact h11
theorem StE_mkR {t : Int32} (hc : c < 8) : StE f (mkR f c t) := by
  intro k hk
  refine mkR_o ?_ ?_ <;> · intro z; subst z; unfold stc at hk; simp at hk; omega
theorem CV_mkR {t : Int32} (hv : CV g f) (hc : c < 8) : CV (mri g c (kd f c 1) (kd f c 2) t) (mkR f c t) := by
  have go : ∀ k, k ≠ 7 * c + 1 → k ≠ 7 * c + 2 → mri g c (kd f c 1) (kd f c 2) t k = g k := fun k h1 h2 => by unfold mri; rw [pk_un h2, pk_un h1]
  refine ⟨fun c' hc' => ?_, fun e he => ?_, ?_, ?_⟩
  · obtain ⟨q1, q2, q3, q4, q5, q6⟩ := hv.1 c' hc'
    have kw : ∀ w, w < 10 → w ≠ 1 → w ≠ 2 → kd (mkR f c t) c' w = kd f c' w := fun w hw w1 w2 => mkR_o (by omega) (by omega)
    rw [kw 0 (by decide) (by decide) (by decide), kw 6 (by decide) (by decide) (by decide), kw 7 (by decide) (by decide) (by decide), kw 8 (by decide) (by decide) (by decide), go _ (by omega) (by omega), go (7 * c' + 3) (by omega) (by omega), go (7 * c' + 4) (by omega) (by omega), go (7 * c' + 5) (by omega) (by omega)]
    refine ⟨q1, ?_, ?_, q4, q5, q6⟩
    · by_cases q : c' = c
      · subst q
        rw [mkR_1]; unfold mri; rw [pk_un (by omega), pk_us]
      · have k1 : kd (mkR f c t) c' 1 = kd f c' 1 := mkR_o (by omega) (by omega)
        rw [k1, go _ (by omega) (by omega)]; exact q2
    · by_cases q : c' = c
      · subst q
        rw [mkR_2]; unfold mri; rw [pk_us]
      · have k1 : kd (mkR f c t) c' 2 = kd f c' 2 := mkR_o (by omega) (by omega)
        rw [k1, go _ (by omega) (by omega)]; exact q3
  · have o : od (mkR f c t) e 2 = od f e 2 := mkR_o (by omega) (by omega)
    rw [o, go _ (by omega) (by omega)]; exact hv.2.1 e he
  · rw [go _ (by omega) (by omega), mkR_o (by omega) (by omega)]; exact hv.2.2.1
  · rw [go _ (by omega) (by omega), mkR_o (by omega) (by omega)]; exact hv.2.2.2
/-- the lowest ten that isn't right taught at once -/
def tlR (f : Nat → Int32) (c : Nat) : Nat → Int32 := if lowT (rt f c ^^^ (-1)) = -1 then f else mkR f c (lowT (rt f c ^^^ (-1)))
theorem tlR_hi {k : Nat} (hc : c < 8) (hk : 80 ≤ k) : tlR f c k = f k := by
  unfold tlR
  split
  · rfl
  · exact mkR_o (by omega) (by omega)
theorem WF_tlR (hf : WF f nc ne B) (hc : c < nc) : WF (tlR f c) nc ne B := by
  unfold tlR
  rcases lowT_v (rt f c ^^^ (-1)) with h | ⟨t, t1, h⟩
  · rw [if_pos h]; exact hf
  · rw [h, if_neg (n1e t1)]; exact WF_mkR hf hc t1
theorem StE_tlR (hc : c < 8) : StE f (tlR f c) := by
  unfold tlR
  split
  · exact fun _ _ => rfl
  · exact StE_mkR hc
theorem cTeach_v (hc : c < 8) : f_X3_teachLowest m (nI c) = some (wrr m 6 (tlR (m.1 6) c)) := by
  unfold f_X3_teachLowest tlR
  rw [lowestNotRight_v hc, cal_eq]
  by_cases h : lowT (rt (m.1 6) c ^^^ (-1)) = -1
  · rw [if_pos h, if_pos h, wrr_id]
  · rw [if_neg h, if_neg h, makeRight_v hc]; rfl
theorem mTeach_v (h : TS nl ln V nc ne B m f) (hc : c < nc) : ∃ m', f_X11_teachesAtOnce m (nI c) = some m' ∧ TS nl ln V nc ne B m' (tlR f c) ∧ Fr tS m m' := by
  have hc8 : c < 8 := by have := h.2.2.1.1.2; omega
  obtain ⟨hv, hs, hf, hl, h4, hi, ⟨n, n1, n2⟩, hp⟩ := h
  have hcv := hv.1 c hc8
  unfold f_X11_teachesAtOnce
  rw [mCount_v hv hc8, cal_eq, bnd_eq]
  have ec : cnt f c = 10 * (if lowT (rt f c ^^^ (-1)) = -1 then 9 else lowT (rt f c ^^^ (-1))) := rfl
  rcases lowT_v (rt f c ^^^ (-1)) with h | ⟨t, t1, h⟩
  · have et : tlR f c = f := by unfold tlR; rw [if_pos h]
    rw [ec, if_pos h, if_pos (by decide), et]
    exact ⟨m, rfl, ⟨hv, hs, hf, hl, h4, hi, ⟨n, n1, n2⟩, hp⟩, Fr.rf⟩
  · have et : tlR f c = mkR f c (nI t) := by unfold tlR; rw [h, if_neg (n1e t1)]
    have e10 : (10 : Int32) * nI t / 10 = nI t := by
      rw [show (10 : Int32) = nI 10 from rfl, pk_mul, pk_div (by omega) (by decide) (by decide)]
      congr 1; omega
    rw [ec, h, if_neg (n1e t1), e10, if_neg (show ¬ (9 : Int32) ≤ nI t from ix_lt (n := 9) t1 (by decide)), mIsRight_v hcv.2.1 hcv.2.2.1 hc8, calv_eq, et]
    refine ⟨_, rfl, ⟨?_, ?_, WF_mkR hf hc t1, ?_, h4, ?_, ⟨n, n1, ?_⟩, ?_⟩, Fr.w2 (fun _ => rfl)⟩
    · rw [wrr_at]; exact CV_mkR hv hc8
    · exact SV_st2 (SV_row (by decide) hs) (StE_mkR hc8) hf.1.2 hf.2.1
    · exact LR_row (Or.inr rfl) hl
    · rw [wrr_ne (by decide)]; exact hi
    · rw [wrr_at]; unfold mri; rw [pk_un (by omega), pk_un (by omega)]; exact n2
    · rw [wrr_ne (by decide)]; exact hp
def dlF (o1 o2 : Int32) (f : Nat → Int32) (nc ne : Nat) (i : Nat) (x : Int32) : Int32 := x + (if pNu f o1 (fm f nc ne (i + 1) 98) = true then 1 else if pNu f o2 (fm f nc ne (i + 1) 98) = true then -1 else 0)
def dV (f : Nat → Int32) (o1 o2 : Int32) (nc ne c d : Nat) : Int32 := itr (dlF o1 o2 (tlR (tlR f c) d) nc ne) 0 12
theorem kd3_tlR (hc : c < 8) (hd : d < 8) : kd (tlR f c) d 3 = kd f d 3 := StE_tlR hc _ (stc3 hd)
theorem pNu_r (hn : nc ≤ 8) (hr : isI r nc) (h3 : ∀ c, c < 8 → kd f' c 3 = kd f c 3) (hm6 : m.1 6 = f') (h95 : f' 95 = nI nc) : f_X0_isOfNursery 6 m r a = some (if pNu f a r = true then 1 else 0, m) := by
  rcases hr with h | ⟨c, hc, h⟩
  · subst h
    rw [ofN_m1]; rfl
  · subst h
    rw [ofN_v (j := 6) (nc := nc) (by rw [hm6]; exact h95) hc hn, hm6, h3 c (by omega)]
    unfold pNu
    rw [nI_clamp (by omega)]
    by_cases q : kd f c 3 = a
    · simp [q, n1e (show c < 9 by omega)]
    · simp [q]
theorem gain_l (hf : WF f nc ne B) (ho : ¬ o1 = o2) : ∃ g', lpk (f_X3_gain_L48 o1 o2) (wrr m 6 f, 0, 0) (fun ((m11, x12) : Sg × Int32) => some (x12, m11)) = some (itr (dlF o1 o2 f nc ne) 0 12, wrr m 6 g') ∧ ∀ k, 100 ≤ k → g' k = f k := by
  have hn8 := hf.1.2
  have hn4 := hf.2.1
  have fhi : ∀ k, 100 ≤ k → ∀ i, fm f nc ne i k = f k := by
    intro k hk i
    induction i with
    | zero => rfl
    | succ i ih =>
      show nmo (fm f nc ne i) nc ne k = f k
      rw [nmo_hi hn8 hn4 (by omega), ih]
  refine ⟨fm f nc ne 12, ?_, fun k hk => fhi k hk 12⟩
  rw [show (wrr m 6 f, (0 : Int32), (0 : Int32)) = (fun i => (wrr m 6 (fm f nc ne i), itr (dlF o1 o2 f nc ne) 0 i, nI i)) 0 from rfl, lpk_seq (S := fun i => (wrr m 6 (fm f nc ne i), itr (dlF o1 o2 f nc ne) 0 i, nI i)) (x := (wrr m 6 (fm f nc ne 12), itr (dlF o1 o2 f nc ne) 0 12)) 12 ?_ ?_ (by decide)]
  · intro i hi
    have hr := rnm_v (m := wrr m 6 (fm f nc ne i)) (nc := nc) (ne := ne) (B := B + i) (by rw [wrr_at]; exact WF_fm hf i)
    rw [wrr_at, wrr_wrr] at hr
    have wf1 := WF_fm hf (i + 1)
    have h3 : ∀ c, c < 8 → kd (fm f nc ne (i + 1)) c 3 = kd f c 3 := fun c hc => kd3_fm hn8 hn4 hc (i + 1)
    have e1 : nmo (fm f nc ne i) nc ne = fm f nc ne (i + 1) := rfl
    rw [e1] at hr
    have rI : isI (fm f nc ne (i + 1) 98) nc := wf1.2.2.2.2.2.2.2.2.2.2
    have p1 := pNu_r (m := wrr m 6 (fm f nc ne (i + 1))) (a := o1) hn8 rI h3 wrr_at wf1.2.2.1
    have p2 := pNu_r (m := wrr m 6 (fm f nc ne (i + 1))) (a := o2) hn8 rI h3 wrr_at wf1.2.2.1
    simp only [f_X3_gain_L48, if_neg (show ¬ (12 : Int32) ≤ nI i from ix_lt (n := 12) hi (by decide)), hr, cal_eq, bnd_eq, nI_1, itr, dlF, p1, p2]
    have ex : ¬ (pNu f o1 (fm f nc ne (i + 1) 98) = true ∧ pNu f o2 (fm f nc ne (i + 1) 98) = true) := by
      rintro ⟨q1, q2⟩
      unfold pNu at q1 q2
      simp at q1 q2
      exact ho (q1.2.symm.trans q2.2)
    generalize fm f nc ne (i + 1) 98 = r at *
    generalize itr (dlF o1 o2 f nc ne) 0 i = z
    by_cases q1 : pNu f o1 r = true
    · have q2 : ¬ pNu f o2 r = true := fun q2 => ex ⟨q1, q2⟩
      simp only [q1, q2, Bool.false_eq_true, ↓reduceIte, n10, Int32.sub_zero]
    · by_cases q2 : pNu f o2 r = true
      · simp only [q1, q2, Bool.false_eq_true, ↓reduceIte, n10, Int32.add_zero, Int32.sub_eq_add_neg]
      · simp only [q1, q2, Bool.false_eq_true, ↓reduceIte, Int32.add_zero, Int32.sub_zero]
  · simp only [f_X3_gain_L48, if_pos (show (12 : Int32) ≤ nI 12 by decide)]
theorem gain_v (hf : WF (va_cpy (m.1 4) (m.1 6) 0 0 100) nc ne B) (hc : c < nc) (hd : d < nc) (e1 : kd (m.1 4) c 3 = o1) (e2 : kd (m.1 4) d 3 = o2) (ho : ¬ o1 = o2) : ∃ g', f_X3_gain m (nI c) (nI d) = some (dV (va_cpy (m.1 4) (m.1 6) 0 0 100) o1 o2 nc ne c d, wrr m 6 g') ∧ ∀ k, 100 ≤ k → g' k = m.1 6 k := by
  have hn8 := hf.1.2
  have hc8 : c < 8 := by omega
  have hd8 : d < 8 := by omega
  unfold f_X3_gain
  rw [become_v, calv_eq, cTeach_v hc8, calv_eq, cTeach_v hd8, calv_eq, kid3 hc8, cal_eq, kid3 hd8, cal_eq]
  have w1 := WF_tlR (WF_tlR hf hc) hd
  obtain ⟨g', x1, x2⟩ := gain_l (m := m) w1 ho
  simp only [wrr_at, wrr_wrr, wrr_ne (show 4 ≠ 6 by decide), e1, e2]
  refine ⟨g', x1, fun k hk => ?_⟩
  rw [x2 k hk, tlR_hi hd8 (by omega), tlR_hi hc8 (by omega), pk_cpy_out (by omega)]
theorem mDuel_l (h : TS nl ln V nc ne B m f) : ∃ m', lpk (f_X11_duelOf_L28 o1 o2) (m, 0, 0) (fun ((m7, x8) : Sg × Int32) => some (x8, m7)) = some (itr (dlF o1 o2 f nc ne) 0 12, m') ∧ Fr tS m m' := by
  suffices key : ∃ x : Sg × Int32, lpO (f_X11_duelOf_L28 o1 o2) fu (m, 0, 0) = some x ∧ (x.2 = itr (dlF o1 o2 f nc ne) 0 12 ∧ Fr tS m x.1) by
    obtain ⟨x, e1, e2, e3⟩ := key
    rw [lpk_of e1]
    exact ⟨x.1, by rw [← e2], e3⟩
  refine lpO_inv (step := f_X11_duelOf_L28 o1 o2) (fun i s => ∃ q, s = (q, itr (dlF o1 o2 f nc ne) 0 i, nI i) ∧ TS nl ln V nc ne (B + i) q (fm f nc ne i) ∧ Fr tS m q) (fun x => x.2 = itr (dlF o1 o2 f nc ne) 0 12 ∧ Fr tS m x.1) 12 (m, 0, 0) ⟨m, rfl, h, Fr.rf⟩ ?_ ?_ (by decide)
  · rintro i s hi ⟨q, rfl, q1, q2⟩
    obtain ⟨q', d1, d2, d3, d4⟩ := TS_go q1
    have hn8 := h.2.2.1.1.2
    have e61 : q'.1 39 61 = fm f nc ne (i + 1) 98 := d2.1.2.2.2
    have hI := d2.2.2.1.2.2.2.2.2.2.2.2.2.2
    refine ⟨(q', itr (dlF o1 o2 f nc ne) 0 (i + 1), nI (i + 1)), ?_, q', rfl, d2, q2.tr d4⟩
    simp only [f_X11_duelOf_L28, if_neg (show ¬ (12 : Int32) ≤ nI i from ix_lt (n := 12) hi (by decide)), d1, calv_eq, bnd_eq, nI_1, e61, itr, dlF]
    change isI (fm f nc ne (i + 1) 98) nc at hI
    have sv := d2.2.1
    have h3 : ∀ c, c < 8 → kd (nmo (fm f nc ne i) nc ne) c 3 = kd f c 3 := fun c hc => kd3_fm hn8 h.2.2.1.2.1 hc (i + 1)
    generalize fm f nc ne (i + 1) 98 = r at *
    rcases hI with h | ⟨c, hc, h⟩
    · subst h
      have n1 : ∀ a, pNu f a (-1) = false := fun a => rfl
      rw [if_pos rfl, n1, n1]
      simp
    · have hc8 : c < 8 := by omega
      have c1 : ¬ nI c = -1 := n1e (by omega)
      subst h
      rw [if_neg c1, i6_3 hc8, if_pos rfl, t6_3 hc8, (sv.1 c hc).1, h3 c hc8]
      have pe : ∀ a, pNu f a (nI c) = decide (kd f c 3 = a) := by
        intro a
        unfold pNu
        rw [nI_clamp (by omega), decide_eq_false c1]; rfl
      rw [pe, pe]
      by_cases z1 : kd f c 3 = o1
      · simp [z1]
      · by_cases z2 : kd f c 3 = o2
        · rw [if_neg z1, if_pos z2, decide_eq_false z1, decide_eq_true z2]; simp
        · simp [z1, z2]
  · rintro s ⟨q, rfl, q1, q2⟩
    refine ⟨(q, itr (dlF o1 o2 f nc ne) 0 12), ?_, rfl, q2⟩
    simp only [f_X11_duelOf_L28, if_pos (show (12 : Int32) ≤ nI 12 by decide)]
theorem mDuel_v (R : Rel nl ln B m) (T : Told m nc ne B) (hl : LR nl ln V m) (h4 : nl ≤ 4) (hi : isI (m.1 13 3) nl) (eh : m.1 27 31 = m.1 13 3) (h : ∀ p k, ess p k = true → m1.1 p k = m.1 p k) (hc : c < nc) (hd : d < nc) : ∃ m', f_X11_duelOf m1 o1 o2 (nI c) (nI d) = some (dV (va_cpy (m.1 4) (m.1 6) 0 0 100) o1 o2 nc ne c d, m') ∧ Fr tS m1 m' := by
  obtain ⟨m3, d1, d2, d3, d4, d5⟩ := T_start R T hl h4 hi eh (m1 := m1) h
  obtain ⟨m5, e1, e2, e3⟩ := mTeach_v d2 hc
  obtain ⟨m6, f1, f2, f3⟩ := mTeach_v e2 hd
  obtain ⟨m7, g1, g2⟩ := mDuel_l (o1 := o1) (o2 := o2) f2
  refine ⟨m7, ?_, ((d5.tr e3).tr f3).tr g2⟩
  unfold f_X11_duelOf
  rw [d1, calv_eq, e1, calv_eq, f1, calv_eq]
  exact g1
theorem two_nu (a1 a2 : Int32) : (∃ u v, u < 5 ∧ v < 5 ∧ a1 = nI u ∧ a2 = nI v ∧ ¬ a1 = a2) ∨ ((a1 < 0 ∨ ¬ a1 < 0 ∧ nI 5 ≤ a1) ∨ (∃ u, u < 5 ∧ a1 = nI u) ∧ ((a2 < 0 ∨ ¬ a2 < 0 ∧ nI 5 ≤ a2) ∨ (∃ v, v < 5 ∧ a2 = nI v) ∧ a1 = a2)) := by
  rcases hund_cases a1 (n := 5) (by decide) with h | ⟨u, hu, h⟩
  · exact Or.inr (Or.inl h)
  · rcases hund_cases a2 (n := 5) (by decide) with h' | ⟨v, hv, h'⟩
    · exact Or.inr (Or.inr ⟨⟨u, hu, h⟩, Or.inl h'⟩)
    · by_cases q : a1 = a2
      · exact Or.inr (Or.inr ⟨⟨u, hu, h⟩, Or.inr ⟨⟨v, hv, h'⟩, q⟩⟩)
      · exact Or.inl ⟨u, v, hu, hv, h, h', q⟩
theorem ofN_no (hC : m.1 j 95 = nI nc) (h : a < 0 ∨ ¬ a < 0 ∧ nI nc ≤ a) : f_X0_isOfNursery j m a a1 = some (0, m) := by
  unfold f_X0_isOfNursery
  rw [hC_no hC h, cal_eq, if_pos rfl]
theorem isOf_no (hC : m.1 27 24 = nI nc) (h : a < 0 ∨ ¬ a < 0 ∧ nI nc ≤ a) : f_X11_isOf m a a1 = some (0, m) := by
  unfold f_X11_isOf
  rw [iC_no hC h, cal_eq, if_pos rfl]
theorem q_duel (R : Rel nl ln B m) : QQ nl ln B (f_X10_duel m a1 a2 a3 a4) (fun m1 => f_X11_duel m1 a1 a2 a3 a4) := by
  have tn : ∀ q : Sg, ((a1 < 0 ∨ ¬ a1 < 0 ∧ nI 5 ≤ a1) ∨ (∃ u, u < 5 ∧ a1 = nI u) ∧ ((a2 < 0 ∨ ¬ a2 < 0 ∧ nI 5 ≤ a2) ∨ (∃ v, v < 5 ∧ a2 = nI v) ∧ a1 = a2)) → f_X10_areTwoNurseries q a1 a2 = some (0, q) := by
    intro q z
    rcases z with z | ⟨⟨u, hu, z⟩, y | ⟨⟨v, hv, y⟩, y'⟩⟩
    · simp only [f_X10_areTwoNurseries, iN_no z, cal_eq, ↓reduceIte]
    · subst z; simp only [f_X10_areTwoNurseries, iN_yes hu, iN_no y, cal_eq, n10, ↓reduceIte]
    · subst z; subst y; simp only [f_X10_areTwoNurseries, iN_yes hu, iN_yes hv, cal_eq, n10, ↓reduceIte, if_pos y']
  have no : f_X10_duel m a1 a2 a3 a4 = some (-1000000, m) → f_X11_duel m a1 a2 a3 a4 = some (-1000000, wr m 27 0 0) → QQ nl ln B (f_X10_duel m a1 a2 a3 a4) (fun m1 => f_X11_duel m1 a1 a2 a3 a4) := fun x1 x2 => QQ_q R x1 Fr.rf x2 (fr_thr m 0)
  rcases Rel_cases R with ⟨u, H⟩ | ⟨nc, ne, M, A, nx, T, H, hM, L, P⟩
  · have H' := HM_fr H (fr_thr m 0)
    have hno : ∀ a, a < 0 ∨ ¬ a < 0 ∧ nI 0 ≤ a := fun a => by
      rcases ch_cases a (show 0 ≤ 8 by decide) with h | ⟨c, hc, _⟩
      · exact h
      · exact absurd hc (by omega)
    refine no ?_ ?_
    · rcases two_nu a1 a2 with ⟨p, q, hp, hq, e1, e2, h⟩ | h
      · subst e1; subst e2
        simp only [f_X10_duel, f_X10_areTwoNurseries, iN_yes hp, iN_yes hq, cal_eq, n10, ↓reduceIte, if_neg h, ofN_no H.2.2.1 (hno a3)]
      · simp only [f_X10_duel, tn m h, cal_eq, ↓reduceIte]
    · simp only [f_X11_duel, bnd_eq, mN_un H'.1, cal_eq, ↓reduceIte]
  · have h0 : 0 < nc := T.2.1.1.1.1
    have hn8 := H.2.2.2.2.2.1
    have H' := HM_fr H (fr_thr m 0)
    rcases two_nu a1 a2 with ⟨p, q, hp, hq, e1, e2, h⟩ | h
    · subst e1; subst e2
      rcases ch_cases a3 hn8 with h3 | ⟨c, hc, h3⟩
      · refine no ?_ ?_
        · simp only [f_X10_duel, f_X10_areTwoNurseries, iN_yes hp, iN_yes hq, cal_eq, n10, ↓reduceIte, if_neg h, ofN_no H.2.2.1 h3]
        · simp only [f_X11_duel, bnd_eq, mN_yes H'.1 h0 hn8 hp, mN_yes H'.1 h0 hn8 hq, if_neg h, isOf_no H'.1 h3, cal_eq, n10, ↓reduceIte]
      · subst h3
        have v2 := (H'.2.2.2.2.2.2.2 h0).2.1
        by_cases q1 : kd (m.1 4) c 3 = nI p
        · rcases ch_cases a4 hn8 with h4 | ⟨d, hd, h4⟩
          · refine no ?_ ?_
            · simp only [f_X10_duel, f_X10_areTwoNurseries, iN_yes hp, iN_yes hq, cal_eq, n10, ↓reduceIte, if_neg h, ofN_v H.2.2.1 hc hn8, if_pos q1, ofN_no H.2.2.1 h4]
            · simp only [f_X11_duel, bnd_eq, mN_yes H'.1 h0 hn8 hp, mN_yes H'.1 h0 hn8 hq, if_neg h, isOf_v v2 hc hn8, if_pos q1, isOf_no H'.1 h4, cal_eq, n10, ↓reduceIte]
          · subst h4
            by_cases q2 : kd (m.1 4) d 3 = nI q
            · obtain ⟨V, hl, h4, hi, eh⟩ := Rel_LR R
              obtain ⟨g', c1, c2⟩ := gain_v (T_WF T) hc hd q1 q2 h
              have frC : Fr scr m (wrr m 6 g') := gS_scr fr6
              have frT := frC.tr (fr_thr _ 0)
              have H2 := HM_fr H frT
              have w2 := (H2.2.2.2.2.2.2.2 h0).2.1
              obtain ⟨m4, x1, x2⟩ := mDuel_v (m1 := wr (wrr m 6 g') 27 0 0) (o1 := nI p) (o2 := nI q) R T hl h4 hi eh (fun p k hp => fr_ess frT hp) hc hd
              refine QQ_q R (r := dV (va_cpy (m.1 4) (m.1 6) 0 0 100) (nI p) (nI q) nc ne c d) (m1 := wrr m 6 g') (m2 := m4) ?_ frC ?_ ((fr_thr _ 0).tr (tS_scr x2))
              · simp only [f_X10_duel, f_X10_areTwoNurseries, iN_yes hp, iN_yes hq, cal_eq, n10, ↓reduceIte, if_neg h, ofN_v H.2.2.1 hc hn8, ofN_v H.2.2.1 hd hn8, if_pos q1, if_pos q2, c1]
              · simp only [f_X11_duel, bnd_eq, mN_yes H2.1 h0 hn8 hp, mN_yes H2.1 h0 hn8 hq, if_neg h, isOf_v w2 hc hn8, isOf_v w2 hd hn8, if_pos q1, if_pos q2, cal_eq, n10, ↓reduceIte, x1]
            · refine no ?_ ?_
              · simp only [f_X10_duel, f_X10_areTwoNurseries, iN_yes hp, iN_yes hq, cal_eq, n10, ↓reduceIte, if_neg h, ofN_v H.2.2.1 hc hn8, ofN_v H.2.2.1 hd hn8, if_pos q1, if_neg q2]
              · simp only [f_X11_duel, bnd_eq, mN_yes H'.1 h0 hn8 hp, mN_yes H'.1 h0 hn8 hq, if_neg h, isOf_v v2 hc hn8, isOf_v v2 hd hn8, if_pos q1, if_neg q2, cal_eq, n10, ↓reduceIte]
        · refine no ?_ ?_
          · simp only [f_X10_duel, f_X10_areTwoNurseries, iN_yes hp, iN_yes hq, cal_eq, n10, ↓reduceIte, if_neg h, ofN_v H.2.2.1 hc hn8, if_neg q1]
          · simp only [f_X11_duel, bnd_eq, mN_yes H'.1 h0 hn8 hp, mN_yes H'.1 h0 hn8 hq, if_neg h, isOf_v v2 hc hn8, if_neg q1, cal_eq, n10, ↓reduceIte]
    · refine no ?_ ?_
      · simp only [f_X10_duel, tn m h, cal_eq, ↓reduceIte]
      · rcases h with z | ⟨⟨u, hu, z⟩, y | ⟨⟨v, hv, y⟩, y'⟩⟩
        · simp only [f_X11_duel, bnd_eq, mN_no z, cal_eq, ↓reduceIte]
        · subst z; simp only [f_X11_duel, bnd_eq, mN_yes H'.1 h0 hn8 hu, mN_no y, cal_eq, n10, ↓reduceIte]
        · subst z; subst y; simp only [f_X11_duel, bnd_eq, mN_yes H'.1 h0 hn8 hu, mN_yes H'.1 h0 hn8 hv, cal_eq, n10, ↓reduceIte, if_pos y']
end
