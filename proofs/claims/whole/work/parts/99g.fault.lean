/-! texts of counties: both read alike -/
section
variable {nl B B' : Nat} {ln : Nat → Nat} {m m1 m2 m' mc mm mc0 mm0 : Sg} {j w u : Nat} {a a1 a2 a3 a4 r x c lo hi s : Int32} {L p q k i n off b N t t1 t2 t3 cnt base nc ne e ru : Nat} {tx : Nat → Int32} {z : Bool} {F F' R S U R' S' U' g : Nat → Int32}
theorem clear_v : ∃ m', f_X0_clear 6 m = some m' ∧ Fr s6 m m' ∧ (∀ k, k < 100 → k ≠ 98 → m'.1 6 k = 0) ∧ m'.1 6 98 = -1 := by
  suffices key : ∃ x, lpO (f_X0_clear_L2 6) fu (m, 0) = some x ∧ (Fr s6 m x ∧ ∀ k, k < 100 → x.1 6 k = 0) by
    obtain ⟨x, x1, x2, x3⟩ := key
    refine ⟨wr x 6 98 (-1), by unfold f_X0_clear; rw [lpk_of x1, bnd_eq], x2.tr (Fr.w1 rfl), fun k hk h98 => by rw [wr_at, pk_un h98]; exact x3 k hk, by rw [wr_at, pk_us]⟩
  refine lpO_inv (step := f_X0_clear_L2 6) (fun i st => ∃ q, st = (q, nI i) ∧ Fr s6 m q ∧ ∀ j, j < i → q.1 6 j = 0) _ 100 (m, 0) ⟨m, rfl, Fr.rf, fun j hj => absurd hj (by omega)⟩ ?_ ?_ (by omega)
  · rintro i st hi ⟨q, rfl, q1, q2⟩
    refine ⟨(wr q 6 i 0, nI (i + 1)), ?_, _, rfl, q1.tr (Fr.w1 rfl), fun j hj => ?_⟩
    · simp only [f_X0_clear_L2, if_neg (show ¬ (100 : Int32) ≤ nI i from ix_lt (n := 100) hi (by decide)), in_nI hi (show 100 < 2 ^ 31 by decide), ↓reduceIte, nI_clamp (show i < 2 ^ 31 by omega), bnd_eq, nI_1]
    · rw [wr_at]
      by_cases e : j = i
      · subst e; rw [pk_us]
      · rw [pk_un e]; exact q2 j (by omega)
  · rintro st ⟨q, rfl, q1⟩
    exact ⟨q, by simp only [f_X0_clear_L2, if_pos (show (100 : Int32) ≤ nI 100 by decide)], q1⟩
theorem l30_v (M : Mx tx L false 0 m) : ∃ m', lpO f_X11_readCounty_L30 fu (m, 0) = some m' ∧ (Mx tx L false 0 m' ∧ m'.1 27 = m.1 27 ∧ ∀ j, j < 3 → m'.1 37 j = tab 8 j) := by
  refine lpO_inv (step := f_X11_readCounty_L30) (fun i st => ∃ q, st = (q, nI i) ∧ Mx tx L false 0 q ∧ q.1 27 = m.1 27 ∧ ∀ j, j < i → q.1 37 j = tab 8 j) _ 3 (m, 0) ⟨m, rfl, M, rfl, fun j hj => absurd hj (by omega)⟩ ?_ ?_ (by omega)
  · rintro i st hi ⟨q, rfl, q0, q1, q2⟩
    refine ⟨(wr q 37 i (tab 8 i), nI (i + 1)), ?_, _, rfl, Mx_w q0 (Or.inr (Or.inr rfl)), by rw [wr_ne (by decide)]; exact q1, fun j hj => ?_⟩
    · simp only [f_X11_readCounty_L30, if_neg (show ¬ (3 : Int32) ≤ nI i from ix_lt (n := 3) hi (by decide)), (KK_r.2.2.2.2.2.1 _ i (show i < strN 4 from hi)).2.2, cal_eq, in_nI hi (show 3 < 2 ^ 31 by decide), ↓reduceIte, nI_clamp (show i < 2 ^ 31 by omega), bnd_eq, nI_1]
    · rw [wr_at]
      by_cases e : j = i
      · subst e; rw [pk_us]
      · rw [pk_un e]; exact q2 j (by omega)
  · rintro st ⟨q, rfl, q1⟩
    exact ⟨q, by simp only [f_X11_readCounty_L30, if_pos (show (3 : Int32) ≤ nI 3 by decide)], q1⟩
theorem county_v (hb : Bt tx L) (T : Tx tx L m) (h6 : m2.1 27 6 = nI L) (h28 : ∀ k, k < L → m2.1 28 k = sb (tx k)) : ∃ mc' mm', f_X1_read m = some (mc'.1 8 2, mc') ∧ f_X11_readCounty m2 = some mm' ∧ EC mc' mm' := by
  have l240 := T.1
  obtain ⟨c2, x1, x2, x3, x4⟩ := clear_v (m := wr (wr m 8 1 0) 8 2 (-1))
  obtain ⟨c4, y1, y2, y3, y4⟩ := usual_v (t := 8) (m := wr c2 7 2 0) (by decide)
  have T4 : Tx tx L c4 := s9_Tx (Tx_wr (s6_Tx (Tx_wr (Tx_wr T (by decide) (by decide)) (by decide) (by decide)) x2) (by decide) (by decide)) y2
  have T5 : Tx tx L (wr (wr (wr c4 6 92 (c4.1 9 0)) 6 93 (c4.1 9 1)) 6 94 (c4.1 9 2)) := Tx_wr (Tx_wr (Tx_wr T4 (by decide) (by decide)) (by decide) (by decide)) (by decide) (by decide)
  have e8 : c4.1 8 1 = nI 0 ∧ c4.1 8 2 = -1 := by
    rw [y3, wr_ne (by decide), x2.1 8 1 rfl, x2.1 8 2 rfl]
    exact ⟨by rw [wr_at, pk_un (by decide), wr_at, pk_us]; rfl, by rw [wr_at, pk_us]⟩
  have e7 : c4.1 7 2 = nI 0 := by rw [y2.1 7 2 rfl, wr_at, pk_us]; rfl
  have e6 : ∀ k, c4.1 6 k = c2.1 6 k := fun k => by rw [y2.1 6 k rfl, wr_ne (by decide)]
  let s0 := wr (wr (wr (wr (wr m2 27 5 0) 27 8 0) 27 9 (nI L)) 27 10 0) 27 11 (-1)
  let s3 := wr (wr (wr s0 27 26 0) 27 27 0) 27 28 0
  have M3 : Mx tx L false 0 s3 := by
    refine ⟨by show 0 + L ≤ 240; omega, rfl, rfl, rfl, fun k hk => ?_⟩
    show m2.1 28 (0 + k) = _
    rw [Nat.zero_add]; exact h28 k hk
  obtain ⟨m7, z1, z2, z3, z4⟩ := l30_v M3
  have K0 : KR ((wr (wr (wr c4 6 92 (c4.1 9 0)) 6 93 (c4.1 9 1)) 6 94 (c4.1 9 2)).1 6) (m7.1 33) (m7.1 35) (m7.1 37) 0 0 := by
    have ef : ∀ k, (k < 92 ∨ 95 ≤ k) → (wr (wr (wr c4 6 92 (c4.1 9 0)) 6 93 (c4.1 9 1)) 6 94 (c4.1 9 2)).1 6 k = c2.1 6 k := fun k hk => by
      rw [wr_at, pk_un (by omega), wr_at, pk_un (by omega), wr_at, pk_un (by omega), e6]
    refine ⟨by decide, by decide, by rw [ef 95 (by omega)]; exact x3 95 (by decide) (by decide), by rw [ef 96 (by omega)]; exact x3 96 (by decide) (by decide), by rw [ef 97 (by omega)]; exact x3 97 (by decide) (by decide), by rw [ef 98 (by omega)]; exact x4, by rw [ef 99 (by omega)]; exact x3 99 (by decide) (by decide), fun c hc => absurd hc (by omega), fun c _ hc i hi => by rw [ef _ (by omega)]; exact x3 _ (by omega) (by omega), fun c hc => absurd hc (by omega), fun c _ hc i hi => by rw [ef _ (by omega)]; exact x3 _ (by omega) (by omega), ?_, ?_, ?_, fun i hi => ?_⟩
    · rw [wr_at, pk_un (by decide), wr_at, pk_un (by decide), wr_at, pk_us, y4 0 (by decide), z4 0 (by decide)]
    · rw [wr_at, pk_un (by decide), wr_at, pk_us, y4 1 (by decide), z4 1 (by decide)]
    · rw [wr_at, pk_us, y4 2 (by decide), z4 2 (by decide)]
    · rw [z4 i hi]; exact KK_r.2.2.2.2.2.2 i hi
  have C0 : CR tx L 0 0 (wr (wr (wr c4 6 92 (c4.1 9 0)) 6 93 (c4.1 9 1)) 6 94 (c4.1 9 2)) m7 := by
    refine ⟨0, 0, 0, ?_, ?_, by omega, by rw [z3]; rfl, by rw [z3]; rfl, by rw [z3]; rfl, by rw [z3]; rfl, by rw [z3]; rfl, ?_, by decide, rfl, K0⟩
    · rw [wr_ne (by decide), wr_ne (by decide), wr_ne (by decide)]; exact e8.1
    · rw [wr_ne (by decide), wr_ne (by decide), wr_ne (by decide)]; exact e8.2
    · rw [wr_ne (by decide), wr_ne (by decide), wr_ne (by decide)]; exact e7
  obtain ⟨mc1, t', a1, a2, a3⟩ := after_v (N := 0) hb T5 z2 C0 (by omega)
  obtain ⟨x, y, l1, l2, Q⟩ := lpO_sim (s1 := f_X1_read_L52) (s2 := f_X11_readCounty_L55) (R := RLp tx L) (Q := QL tx L) (μ := fun (s : Sg × Int32) => (20 : Nat) - s.2.toNatClampNeg) (loop_v hb) 999999 (mc1, nI 0) t' (Nat.lt_of_le_of_lt (Nat.sub_le _ _) (by decide)) a3
  have l1' : lpO f_X1_read_L52 fu (mc1, 0) = some x := lpO_up 999999 _ l1
  have l2' : lpO f_X11_readCounty_L55 fu (m7, 1) = some y := by
    show lpO f_X11_readCounty_L55 (999999 + 1) (m7, 1) = some y
    rw [lpO, a2]; exact l2
  obtain ⟨mc', mm', b1, b2, b3⟩ := end_v hb Q
  refine ⟨mc', mm', ?_, ?_, b3⟩
  · unfold f_X1_read f_X2_begin f_X0_setRule
    simp only [bnd_eq, calv_eq]
    rw [x1, calv_eq, y1, calv_eq, a1, calv_eq, lpk_of l1']
    exact b1
  · unfold f_X11_readCounty f_X11_starts
    simp only [bnd_eq, calv_eq]
    rw [h6, lpk_of z1, lpk_of l2']
    exact b2
theorem q_fault0 (R : Rel nl ln B m) : QQ nl ln B (f_X10_fault m 0) (fun m1 => f_X11_fault m1 0) := by
  obtain ⟨L, tl, t1, t2, t3⟩ := R.1
  have hb : Bt (m.1 2) L := fun k hk => by obtain ⟨b, b1, b2, b3, _⟩ := t3 k hk; exact ⟨b, b1, b2, b3⟩
  have h28 : ∀ k, k < L → m.1 28 k = sb (m.1 2 k) := fun k hk => by obtain ⟨b, b1, b2, b3, b4⟩ := t3 k hk; rw [b3]; exact b4
  have rd : ∃ x, f_X1_read m = some x := by
    obtain ⟨mc', mm', e1, _⟩ := county_v (m2 := m) hb ⟨tl, t1, fun _ _ => rfl⟩ t2 h28
    exact ⟨_, e1⟩
  obtain ⟨x, hx⟩ := rd
  have fr1 : Fr scr m x.2 := fr_X1_read (r := x.1) (fun k => rfl) rfl rfl rfl (fun k => rfl) hx
  have q6 : x.2.1 27 6 = nI L := by rw [fr_ess fr1 rfl]; exact t2
  have q28 : x.2.1 28 = m.1 28 := fr_row fr1 (e_all (by simp))
  obtain ⟨mc', mm', e1, e2, e3⟩ := county_v (m2 := wr x.2 27 0 0) hb ⟨tl, t1, fun _ _ => rfl⟩ (by rw [wr_at, pk_un (by decide)]; exact q6) (fun k hk => by rw [wr_ne (by decide), q28]; exact h28 k hk)
  have ex : x = (mc'.1 8 2, mc') := Option.some.inj (hx.symm.trans e1)
  subst ex
  have fr2 : Fr scr (wr mc' 27 0 0) mm' := fr_X11_readCounty rfl rfl rfl rfl rfl rfl rfl rfl (fun k => rfl) (fun k => rfl) (fun k => rfl) e2
  have eq : mm'.1 27 11 = mc'.1 8 2 := by
    rcases e3 with ⟨e, w1, w2, _⟩ | ⟨w1, w2, _⟩
    · rw [w1, w2]
    · rw [w1, w2]
  refine QQ_q R (r := mc'.1 8 2) (m1 := mc') (m2 := mm') ?_ fr1 ?_ ((fr_thr mc' 0).tr fr2)
  · simp only [f_X10_fault, ↓reduceIte, e1, cal_eq]
  · simp only [f_X11_fault, bnd_eq, show f_X11_isIn (wr mc' 27 0 0) ((0 : Int32).toInt64) 0 1 = some (1, wr mc' 27 0 0) from in1_0, cal_eq, n10, ↓reduceIte, e2, calv_eq, eq]
end
