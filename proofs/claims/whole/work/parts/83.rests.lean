/-! rests -/
section
variable {nl B B' : Nat} {ln : Nat → Nat} {V : Nat → (Nat → Int32) → Int32} {m m1 m2 m' C C' S mW mX : Sg} {j w u : Nat} {a a1 a2 a3 a4 r s law x mo y tr fv o1 o2 : Int32} {f f' g g' lg lg' : Nat → Int32} {nc ne c d e t M M' A nx n : Nat}
def wS (p k : Nat) : Bool := gS p k || p == 26
theorem wS_scr (h : Fr wS m m') : Fr scr m m' := by
  refine Fr_mono (fun p k hp => ?_) h
  have h23 : p ≠ 26 := by
    intro z; subst z
    unfold scr ess at hp
    simp at hp
  have hg : gS p k = false := by
    unfold scr at hp
    simp at hp
    unfold gS
    by_cases h1 : p = 6
    · subst h1; exact absurd hp (by simp [ess])
    · by_cases h2 : p = 15
      · subst h2; exact absurd hp (by simp [ess])
      · simp [h1, h2]
        intro h3
        unfold ess at hp
        rw [if_neg (by omega), if_neg (by omega)] at hp
        simpa using hp
  unfold wS
  rw [hg]
  simp [h23]
theorem gS_wS (h : Fr gS m m') : Fr wS m m' := Fr_mono (fun p k hp => by unfold wS at hp; simp at hp; exact hp.1) h
/-- the component's weighing, one row -/
theorem weigh1 (hf : WF (va_cpy (m.1 4) (m.1 6) 0 0 100) nc ne B) (h95 : m.1 4 95 = nI nc) (ho : ¬ o1 = o2) (hc : c < nc) {q : Sg} (fr : Fr wS m q) (h6 : ∀ k, 100 ≤ k → q.1 6 k = m.1 6 k) : ∃ q', lpO (f_X3_weighAll_L16 o1 o2 (nI c)) fu (q, 0) = some q' ∧ (Fr wS m q' ∧ (∀ k, 100 ≤ k → q'.1 6 k = m.1 6 k) ∧ (∀ d, d < nc → kd (m.1 4) c 3 = o1 → kd (m.1 4) d 3 = o2 → q'.1 26 (8 * c + d) = dV (va_cpy (m.1 4) (m.1 6) 0 0 100) o1 o2 nc ne c d) ∧ ∀ k, k < 8 * c ∨ 8 * c + 8 ≤ k → q'.1 26 k = q.1 26 k) := by
  have hn8 := hf.1.2
  have hc8 : c < 8 := by omega
  refine lpO_inv (step := f_X3_weighAll_L16 o1 o2 (nI c)) (fun i s => ∃ p, s = (p, nI i) ∧ Fr wS m p ∧ (∀ k, 100 ≤ k → p.1 6 k = m.1 6 k) ∧ (∀ d, d < i → kd (m.1 4) c 3 = o1 → kd (m.1 4) d 3 = o2 → p.1 26 (8 * c + d) = dV (va_cpy (m.1 4) (m.1 6) 0 0 100) o1 o2 nc ne c d) ∧ ∀ k, k < 8 * c ∨ 8 * c + 8 ≤ k → p.1 26 k = q.1 26 k) _ nc (q, 0) ⟨q, rfl, fr, h6, fun d hd => absurd hd (by omega), fun _ _ => rfl⟩ ?_ ?_ (by omega)
  · rintro i s hi ⟨p, rfl, p1, p2, p3, p4⟩
    have hi8 : i < 8 := by omega
    have e4 : p.1 4 = m.1 4 := fr_row (wS_scr p1) (e_all (by simp))
    have e95 : p.1 4 95 = nI nc := by rw [e4, h95]
    have pl : nI c * 8 + nI i = nI (8 * c + i) := by rw [show (8 : Int32) = nI 8 from rfl, pk_mul, nI_add]; congr 1; omega
    by_cases q1 : kd (m.1 4) c 3 = o1
    · by_cases q2 : kd (m.1 4) i 3 = o2
      · have ec : va_cpy (p.1 4) (p.1 6) 0 0 100 = va_cpy (m.1 4) (m.1 6) 0 0 100 := by rw [e4]; exact cpy_eq p2
        obtain ⟨g', x1, x2⟩ := gain_v (m := p) (nc := nc) (ne := ne) (B := B) (c := c) (d := i) (o1 := o1) (o2 := o2) (by rw [ec]; exact hf) hc hi (by rw [e4]; exact q1) (by rw [e4]; exact q2) ho
        rw [ec] at x1
        refine ⟨(wr (wrr p 6 g') 26 (8 * c + i) (dV (va_cpy (m.1 4) (m.1 6) 0 0 100) o1 o2 nc ne c i), nI (i + 1)), ?_, _, rfl, (p1.tr (Fr.w2 (fun _ => rfl))).tr (Fr.w1 rfl), ?_, ?_, ?_⟩
        · simp only [f_X3_weighAll_L16, f_X0_children, cal_eq, e95, if_neg (ix_lt hi (show nc < 2 ^ 31 by omega)), f_X3_placeOf, pl, ofN_v e95 hc hn8, ofN_v e95 hi hn8, e4, if_pos q1, if_pos q2, n10, ↓reduceIte, if_neg (show ¬ (64 : Int32) ≤ nI (8 * c + i) from ix_lt (n := 64) (by omega) (by decide)), x1, in_nI (show 8 * c + i < 64 by omega) (show 64 < 2 ^ 31 by decide), nI_clamp (show 8 * c + i < 2 ^ 31 by omega), bnd_eq, nI_1]
        · intro k hk
          rw [wr_ne (by decide), wrr_at, x2 k hk, p2 k hk]
        · intro d hd y1 y2
          by_cases z : d = i
          · subst z; rw [wr_at, pk_us]
          · rw [wr_at, pk_un (by omega), wrr_ne (by decide)]; exact p3 d (by omega) y1 y2
        · intro k hk
          rw [wr_at, pk_un (by omega), wrr_ne (by decide), p4 k hk]
      · refine ⟨(p, nI (i + 1)), ?_, p, rfl, p1, p2, fun d hd y1 y2 => ?_, p4⟩
        · simp only [f_X3_weighAll_L16, f_X0_children, cal_eq, e95, if_neg (ix_lt hi (show nc < 2 ^ 31 by omega)), f_X3_placeOf, ofN_v e95 hc hn8, ofN_v e95 hi hn8, e4, if_pos q1, if_neg q2, n10, ↓reduceIte, bnd_eq, nI_1]
        · by_cases z : d = i
          · subst z; exact absurd y2 q2
          · exact p3 d (by omega) y1 y2
    · refine ⟨(p, nI (i + 1)), ?_, p, rfl, p1, p2, fun d hd y1 y2 => absurd y1 q1, p4⟩
      simp only [f_X3_weighAll_L16, f_X0_children, cal_eq, e95, if_neg (ix_lt hi (show nc < 2 ^ 31 by omega)), f_X3_placeOf, ofN_v e95 hc hn8, e4, if_neg q1, ↓reduceIte, bnd_eq, nI_1]
  · rintro s ⟨p, rfl, p1, p2, p3, p4⟩
    have e95 : p.1 4 95 = nI nc := by rw [fr_ess (wS_scr p1) rfl, h95]
    refine ⟨p, ?_, p1, p2, p3, p4⟩
    simp only [f_X3_weighAll_L16, f_X0_children, cal_eq, e95, if_pos (nI_le (Nat.le_refl nc) (show nc < 2 ^ 31 by omega))]
theorem weigh_v (hf : WF (va_cpy (m.1 4) (m.1 6) 0 0 100) nc ne B) (h95 : m.1 4 95 = nI nc) (ho : ¬ o1 = o2) : ∃ q', f_X3_weighAll m o1 o2 = some q' ∧ Fr wS m q' ∧ ∀ c d, c < nc → d < nc → kd (m.1 4) c 3 = o1 → kd (m.1 4) d 3 = o2 → q'.1 26 (8 * c + d) = dV (va_cpy (m.1 4) (m.1 6) 0 0 100) o1 o2 nc ne c d := by
  have hn8 := hf.1.2
  suffices key : ∃ q', lpO (f_X3_weighAll_L2 o1 o2) fu (m, 0) = some q' ∧ (Fr wS m q' ∧ ∀ c d, c < nc → d < nc → kd (m.1 4) c 3 = o1 → kd (m.1 4) d 3 = o2 → q'.1 26 (8 * c + d) = dV (va_cpy (m.1 4) (m.1 6) 0 0 100) o1 o2 nc ne c d) by
    obtain ⟨q', e1, e2⟩ := key
    unfold f_X3_weighAll
    rw [lpk_of e1]; exact ⟨q', rfl, e2⟩
  refine lpO_inv (step := f_X3_weighAll_L2 o1 o2) (fun i s => ∃ p, s = (p, nI i) ∧ Fr wS m p ∧ (∀ k, 100 ≤ k → p.1 6 k = m.1 6 k) ∧ ∀ c d, c < i → d < nc → kd (m.1 4) c 3 = o1 → kd (m.1 4) d 3 = o2 → p.1 26 (8 * c + d) = dV (va_cpy (m.1 4) (m.1 6) 0 0 100) o1 o2 nc ne c d) _ nc (m, 0) ⟨m, rfl, Fr.rf, fun _ _ => rfl, fun c d hc => absurd hc (by omega)⟩ ?_ ?_ (by omega)
  · rintro i s hi ⟨p, rfl, p1, p2, p3⟩
    have e95 : p.1 4 95 = nI nc := by rw [fr_ess (wS_scr p1) rfl, h95]
    obtain ⟨q', x1, x2, x3, x4, x5⟩ := weigh1 hf h95 ho hi p1 p2
    refine ⟨(q', nI (i + 1)), ?_, q', rfl, x2, x3, fun c d hc hd y1 y2 => ?_⟩
    · simp only [f_X3_weighAll_L2, f_X0_children, cal_eq, e95, if_neg (ix_lt hi (show nc < 2 ^ 31 by omega)), lpk_of x1, bnd_eq, nI_1]
    · by_cases z : c = i
      · subst z; exact x4 d hd y1 y2
      · rw [x5 _ (by omega)]; exact p3 c d (by omega) hd y1 y2
  · rintro s ⟨p, rfl, p1, p2, p3⟩
    have e95 : p.1 4 95 = nI nc := by rw [fr_ess (wS_scr p1) rfl, h95]
    refine ⟨p, ?_, p1, p3⟩
    simp only [f_X3_weighAll_L2, f_X0_children, cal_eq, e95, if_pos (nI_le (Nat.le_refl nc) (show nc < 2 ^ 31 by omega))]
/-- the model's -/
def vS (p k : Nat) : Bool := tS p k || p == 42
theorem tS_vS (h : Fr tS m m') : Fr vS m m' := Fr_mono (fun p k hp => by unfold vS at hp; simp at hp; exact hp.1) h
theorem vS_scr (h : Fr vS m m') : Fr scr m m' := by
  refine Fr_mono (fun p k hp => ?_) h
  have h23 : p ≠ 42 := by
    intro z; subst z
    unfold scr ess at hp
    simp at hp
  have hg : tS p k = false := by
    unfold scr at hp
    simp at hp
    unfold tS
    by_cases h1 : p = 27
    · subst h1
      unfold ess at hp
      simp at hp
      simp
      omega
    · by_cases h2 : p = 31
      · subst h2; exact absurd hp (by simp [ess])
      · by_cases h3 : p = 39
        · subst h3; exact absurd hp (by simp [ess])
        · simp [h1, h2, h3]
  unfold vS
  rw [hg]
  simp [h23]
theorem mWeigh1 (R : Rel nl ln B m) (T : Told m nc ne B) (hl : LR nl ln V m) (h4 : nl ≤ 4) (hi : isI (m.1 13 3) nl) (eh : m.1 27 31 = m.1 13 3) (H : HM m (m.1 4) nc ne B) (hc : c < nc) {q : Sg} (fr : Fr scr m q) : ∃ q', lpO (f_X11_rests_L48 o1 o2 (nI c)) fu (q, 0) = some q' ∧ (Fr vS q q' ∧ (∀ d, d < nc → kd (m.1 4) c 3 = o1 → kd (m.1 4) d 3 = o2 → q'.1 42 (8 * c + d) = dV (va_cpy (m.1 4) (m.1 6) 0 0 100) o1 o2 nc ne c d) ∧ ∀ k, k < 8 * c ∨ 8 * c + 8 ≤ k → q'.1 42 k = q.1 42 k) := by
  have hn8 := H.2.2.2.2.2.1
  have hc8 : c < 8 := by omega
  have h0 : 0 < nc := T.2.1.1.1.1
  refine lpO_inv (step := f_X11_rests_L48 o1 o2 (nI c)) (fun i s => ∃ p, s = (p, nI i) ∧ Fr vS q p ∧ (∀ d, d < i → kd (m.1 4) c 3 = o1 → kd (m.1 4) d 3 = o2 → p.1 42 (8 * c + d) = dV (va_cpy (m.1 4) (m.1 6) 0 0 100) o1 o2 nc ne c d) ∧ ∀ k, k < 8 * c ∨ 8 * c + 8 ≤ k → p.1 42 k = q.1 42 k) _ nc (q, 0) ⟨q, rfl, Fr.rf, fun d hd => absurd hd (by omega), fun _ _ => rfl⟩ ?_ ?_ (by omega)
  · rintro i s hi' ⟨p, rfl, p1, p3, p4⟩
    have hi8 : i < 8 := by omega
    have frp := fr.tr (vS_scr p1)
    have H2 := HM_fr H frp
    have sv := (H2.2.2.2.2.2.2.2 h0).2.1
    have pl : (8 : Int32) * nI c + nI i = nI (8 * c + i) := by rw [show (8 : Int32) = nI 8 from rfl, pk_mul, nI_add]
    by_cases q1 : kd (m.1 4) c 3 = o1
    · by_cases q2 : kd (m.1 4) i 3 = o2
      · obtain ⟨m4, x1, x2⟩ := mDuel_v (m1 := p) (o1 := o1) (o2 := o2) R T hl h4 hi eh (fun p k hp => fr_ess frp hp) hc hi'
        refine ⟨(wr m4 42 (8 * c + i) (dV (va_cpy (m.1 4) (m.1 6) 0 0 100) o1 o2 nc ne c i), nI (i + 1)), ?_, _, rfl, (p1.tr (tS_vS x2)).tr (Fr.w1 rfl), ?_, ?_⟩
        · simp only [f_X11_rests_L48, H2.1, if_neg (ix_lt hi' (show nc < 2 ^ 31 by omega)), isOf_v sv hc hn8, isOf_v sv hi' hn8, cal_eq, if_pos q1, if_pos q2, n10, ↓reduceIte, x1, pl, in_nI (show 8 * c + i < 64 by omega) (show 64 < 2 ^ 31 by decide), nI_clamp (show 8 * c + i < 2 ^ 31 by omega), bnd_eq, nI_1]
        · intro d hd y1 y2
          by_cases z : d = i
          · subst z; rw [wr_at, pk_us]
          · rw [wr_at, pk_un (by omega), x2.1 42 _ rfl]; exact p3 d (by omega) y1 y2
        · intro k hk
          rw [wr_at, pk_un (by omega), x2.1 42 _ rfl, p4 k hk]
      · refine ⟨(p, nI (i + 1)), ?_, p, rfl, p1, fun d hd y1 y2 => ?_, p4⟩
        · simp only [f_X11_rests_L48, H2.1, if_neg (ix_lt hi' (show nc < 2 ^ 31 by omega)), isOf_v sv hc hn8, isOf_v sv hi' hn8, cal_eq, if_pos q1, if_neg q2, n10, ↓reduceIte, bnd_eq, nI_1]
        · by_cases z : d = i
          · subst z; exact absurd y2 q2
          · exact p3 d (by omega) y1 y2
    · refine ⟨(p, nI (i + 1)), ?_, p, rfl, p1, fun d hd y1 y2 => absurd y1 q1, p4⟩
      simp only [f_X11_rests_L48, H2.1, if_neg (ix_lt hi' (show nc < 2 ^ 31 by omega)), isOf_v sv hc hn8, cal_eq, if_neg q1, ↓reduceIte, bnd_eq, nI_1]
  · rintro s ⟨p, rfl, p1, p3, p4⟩
    have H2 := HM_fr H (fr.tr (vS_scr p1))
    refine ⟨p, ?_, p1, p3, p4⟩
    simp only [f_X11_rests_L48, H2.1, if_pos (nI_le (Nat.le_refl nc) (show nc < 2 ^ 31 by omega))]
theorem mWeigh_v (R : Rel nl ln B m) (T : Told m nc ne B) (hl : LR nl ln V m) (h4 : nl ≤ 4) (hi : isI (m.1 13 3) nl) (eh : m.1 27 31 = m.1 13 3) (H : HM m (m.1 4) nc ne B) {q : Sg} (fr : Fr scr m q) : ∃ q', lpO (f_X11_rests_L36 o1 o2) fu (q, 0) = some q' ∧ (Fr vS q q' ∧ ∀ c d, c < nc → d < nc → kd (m.1 4) c 3 = o1 → kd (m.1 4) d 3 = o2 → q'.1 42 (8 * c + d) = dV (va_cpy (m.1 4) (m.1 6) 0 0 100) o1 o2 nc ne c d) := by
  have hn8 := H.2.2.2.2.2.1
  refine lpO_inv (step := f_X11_rests_L36 o1 o2) (fun i s => ∃ p, s = (p, nI i) ∧ Fr vS q p ∧ ∀ c d, c < i → d < nc → kd (m.1 4) c 3 = o1 → kd (m.1 4) d 3 = o2 → p.1 42 (8 * c + d) = dV (va_cpy (m.1 4) (m.1 6) 0 0 100) o1 o2 nc ne c d) _ nc (q, 0) ⟨q, rfl, Fr.rf, fun c d hc => absurd hc (by omega)⟩ ?_ ?_ (by omega)
  · rintro i s hi' ⟨p, rfl, p1, p3⟩
    have H2 := HM_fr H (fr.tr (vS_scr p1))
    obtain ⟨q', x1, x2, x4, x5⟩ := mWeigh1 (o1 := o1) (o2 := o2) R T hl h4 hi eh H hi' (fr.tr (vS_scr p1))
    refine ⟨(q', nI (i + 1)), ?_, q', rfl, p1.tr x2, fun c d hc hd y1 y2 => ?_⟩
    · simp only [f_X11_rests_L36, H2.1, if_neg (ix_lt hi' (show nc < 2 ^ 31 by omega)), lpk_of x1, bnd_eq, nI_1]
    · by_cases z : c = i
      · subst z; exact x4 d hd y1 y2
      · rw [x5 _ (by omega)]; exact p3 c d (by omega) hd y1 y2
  · rintro s ⟨p, rfl, p1, p3⟩
    have H2 := HM_fr H (fr.tr (vS_scr p1))
    refine ⟨p, ?_, p1, p3⟩
    simp only [f_X11_rests_L36, H2.1, if_pos (nI_le (Nat.le_refl nc) (show nc < 2 ^ 31 by omega))]
/-- what the two scans need -/
def RS (nc ne B : Nat) (f : Nat → Int32) (o1 o2 : Int32) (G : Nat → Nat → Int32) (mW mX : Sg) : Prop := nc ≤ 8 ∧ mW.1 4 = f ∧ f 95 = nI nc ∧ mX.1 27 24 = nI nc ∧ SV mX f nc ne ∧ (∀ c d, c < nc → d < nc → kd f c 3 = o1 → kd f d 3 = o2 → mW.1 26 (8 * c + d) = G c d ∧ mX.1 42 (8 * c + d) = G c d)
theorem weighed_v (hc : c < 8) (hd : d < 8) : f_X3_weighed m (nI c) (nI d) = some (m.1 26 (8 * c + d), m) := by
  have pl : nI c * 8 + nI d = nI (8 * c + d) := by rw [show (8 : Int32) = nI 8 from rfl, pk_mul, nI_add]; congr 1; omega
  simp only [f_X3_weighed, f_X3_placeOf, cal_eq, pl, if_neg (nI_pos (show 8 * c + d < 2 ^ 31 by omega)), if_neg (show ¬ (64 : Int32) ≤ nI (8 * c + d) from ix_lt (n := 64) (by omega) (by decide)), in_nI (show 8 * c + d < 64 by omega) (show 64 < 2 ^ 31 by decide), ↓reduceIte, nI_clamp (show 8 * c + d < 2 ^ 31 by omega)]
theorem isRest_v {G : Nat → Nat → Int32} (h : RS nc ne B f o1 o2 G mW mX) (hc : c < nc) (hd : d < nc) (q1 : kd f c 3 = o1) (q2 : kd f d 3 = o2) : ∃ r, f_X3_isRest mW (nI c) (nI d) = some (r, mW) ∧ f_X11_isRest mX o1 o2 (nI c) (nI d) = some (r, mX) := by
  obtain ⟨hn8, e4, h95, h24, sv, hG⟩ := h
  have hc8 : c < 8 := by omega
  have hd8 : d < 8 := by omega
  have h95' : mW.1 4 95 = nI nc := by rw [e4, h95]
  have pl : ∀ a b, (8 : Int32) * nI a + nI b = nI (8 * a + b) := fun a b => by rw [show (8 : Int32) = nI 8 from rfl, pk_mul, nI_add]
  obtain ⟨g1, g2⟩ := hG c d hc hd q1 q2
  obtain ⟨x, y, x1, y1, Q⟩ := lpO_sim (s1 := f_X3_isRest_L32 (nI c) (nI d) (G c d) o1 o2) (s2 := f_X11_isRest_L17 o1 o2 (nI c) (nI d) (G c d)) (R := fun s t => ∃ i, i ≤ nc ∧ s = (mW, nI i) ∧ t = (mX, nI i)) (Q := fun x y => (x = .inl mW ∧ y = .inl mX) ∨ (x = .inr (.inl mW) ∧ y = .inl mX) ∨ (x = .inr (.inr mW) ∧ y = .inr mX)) (μ := fun s => nc - s.2.toNatClampNeg) (by
    rintro s t ⟨i, hi, rfl, rfl⟩
    by_cases z : i = nc
    · left
      subst z
      refine ⟨.inr (.inr mW), .inr mX, ?_, ?_, Or.inr (Or.inr ⟨rfl, rfl⟩)⟩
      · simp only [f_X3_isRest_L32, f_X0_children, cal_eq, h95', if_pos (nI_le (Nat.le_refl i) (show i < 2 ^ 31 by omega))]
      · simp only [f_X11_isRest_L17, h24, if_pos (nI_le (Nat.le_refl i) (show i < 2 ^ 31 by omega))]
    · have hi' : i < nc := by omega
      have hi8 : i < 8 := by omega
      have step : (∃ i', i' ≤ nc ∧ ((mW, nI (i + 1)) : Sg × Int32) = (mW, nI i') ∧ ((mX, nI (i + 1)) : Sg × Int32) = (mX, nI i')) ∧ nc - ((mW, nI (i + 1)) : Sg × Int32).2.toNatClampNeg < nc - ((mW, nI i) : Sg × Int32).2.toNatClampNeg := ⟨⟨i + 1, hi', rfl, rfl⟩, by
        show nc - (nI (i + 1)).toNatClampNeg < nc - (nI i).toNatClampNeg
        rw [nI_clamp (by omega), nI_clamp (by omega)]; omega⟩
      have pc := pl i d
      have pd := pl c i
      have inA : inr (nI (8 * i + d)) 64 = true := in_nI (by omega) (by decide)
      have inB : inr (nI (8 * c + i)) 64 = true := in_nI (by omega) (by decide)
      have clA : (nI (8 * i + d)).toNatClampNeg = 8 * i + d := nI_clamp (by omega)
      have clB : (nI (8 * c + i)).toNatClampNeg = 8 * c + i := nI_clamp (by omega)
      have base1 : f_X3_isRest_L32 (nI c) (nI d) (G c d) o1 o2 (mW, nI i) = (if kd f i 3 = o1 then (if mW.1 26 (8 * i + d) ≤ G c d then (if kd f i 3 = o2 then (if G c d ≤ mW.1 26 (8 * c + i) then some (.inr (mW, nI (i + 1))) else some (.inl (.inr (.inl mW)))) else some (.inr (mW, nI (i + 1)))) else some (.inl (.inl mW))) else (if kd f i 3 = o2 then (if G c d ≤ mW.1 26 (8 * c + i) then some (.inr (mW, nI (i + 1))) else some (.inl (.inr (.inl mW)))) else some (.inr (mW, nI (i + 1))))) := by
        simp only [f_X3_isRest_L32, f_X0_children, cal_eq, h95', if_neg (ix_lt hi' (show nc < 2 ^ 31 by omega)), ofN_v h95' hi' hn8, e4, weighed_v hi8 hd8, weighed_v hc8 hi8, bnd_eq, nI_1]
        by_cases y1 : kd f i 3 = o1
        · by_cases y2 : kd f i 3 = o2
          · simp only [if_pos y1, if_pos y2, ↓reduceIte, n10]
          · simp only [if_pos y1, if_neg y2, ↓reduceIte, n10]
        · by_cases y2 : kd f i 3 = o2
          · simp only [if_neg y1, if_pos y2, ↓reduceIte, n10]
          · simp only [if_neg y1, if_neg y2, ↓reduceIte, n10]
      have base2 : f_X11_isRest_L17 o1 o2 (nI c) (nI d) (G c d) (mX, nI i) = (if kd f i 3 = o1 then (if G c d < mX.1 42 (8 * i + d) then some (.inl (.inl mX)) else (if kd f i 3 = o2 then (if G c d ≤ mX.1 42 (8 * c + i) then some (.inr (mX, nI (i + 1))) else some (.inl (.inl mX))) else some (.inr (mX, nI (i + 1))))) else (if kd f i 3 = o2 then (if G c d ≤ mX.1 42 (8 * c + i) then some (.inr (mX, nI (i + 1))) else some (.inl (.inl mX))) else some (.inr (mX, nI (i + 1))))) := by
        simp only [f_X11_isRest_L17, h24, if_neg (ix_lt hi' (show nc < 2 ^ 31 by omega)), isOf_v sv hi' hn8, cal_eq, bnd_eq, nI_1, pc, pd, inA, inB, clA, clB, ↓reduceIte]
        by_cases y1 : kd f i 3 = o1
        · by_cases y2 : kd f i 3 = o2
          · simp only [if_pos y1, if_pos y2, ↓reduceIte, n10]
          · simp only [if_pos y1, if_neg y2, ↓reduceIte, n10]
        · by_cases y2 : kd f i 3 = o2
          · simp only [if_neg y1, if_pos y2, ↓reduceIte, n10]
          · simp only [if_neg y1, if_neg y2, ↓reduceIte, n10]
      rw [base1, base2]
      have tailE : ∀ (b : Prop) (hb : Decidable b), True := fun _ _ => trivial
      by_cases y1 : kd f i 3 = o1
      · obtain ⟨k1, k2⟩ := hG i d hi' hd y1 q2
        rw [if_pos y1, if_pos y1, k1, k2]
        by_cases y3 : G i d ≤ G c d
        · rw [if_pos y3, if_neg (Int32.not_lt.mpr y3)]
          by_cases y2 : kd f i 3 = o2
          · obtain ⟨k3, k4⟩ := hG c i hc hi' q1 y2
            rw [if_pos y2, if_pos y2, k3, k4]
            by_cases y4 : G c d ≤ G c i
            · rw [if_pos y4, if_pos y4]; exact Or.inr ⟨_, _, rfl, rfl, step.1, step.2⟩
            · rw [if_neg y4, if_neg y4]; exact Or.inl ⟨_, _, rfl, rfl, Or.inr (Or.inl ⟨rfl, rfl⟩)⟩
          · rw [if_neg y2, if_neg y2]; exact Or.inr ⟨_, _, rfl, rfl, step.1, step.2⟩
        · rw [if_neg y3, if_pos (Int32.not_le.mp y3)]; exact Or.inl ⟨_, _, rfl, rfl, Or.inl ⟨rfl, rfl⟩⟩
      · rw [if_neg y1, if_neg y1]
        by_cases y2 : kd f i 3 = o2
        · obtain ⟨k3, k4⟩ := hG c i hc hi' q1 y2
          rw [if_pos y2, if_pos y2, k3, k4]
          by_cases y4 : G c d ≤ G c i
          · rw [if_pos y4, if_pos y4]; exact Or.inr ⟨_, _, rfl, rfl, step.1, step.2⟩
          · rw [if_neg y4, if_neg y4]; exact Or.inl ⟨_, _, rfl, rfl, Or.inr (Or.inl ⟨rfl, rfl⟩)⟩
        · rw [if_neg y2, if_neg y2]; exact Or.inr ⟨_, _, rfl, rfl, step.1, step.2⟩) fu (mW, 0) (mX, 0) (by show nc - _ < 1000000; omega) ⟨0, by omega, rfl, rfl⟩
  have r1 : f_X3_isRest mW (nI c) (nI d) = lpk (f_X3_isRest_L32 (nI c) (nI d) (G c d) o1 o2) (mW, 0) (fun x => match x with
    | .inl m9 => some ((0 : Int32), m9)
    | .inr (.inl m10) => some (0, m10)
    | .inr (.inr m11) => some (1, m11)) := by
    unfold f_X3_isRest
    rw [weighed_v hc8 hd8, cal_eq, kid3 hc8, cal_eq, kid3 hd8, cal_eq, g1, e4, q1, q2]
    rfl
  have r2 : f_X11_isRest mX o1 o2 (nI c) (nI d) = lpk (f_X11_isRest_L17 o1 o2 (nI c) (nI d) (G c d)) (mX, 0) (fun x => match x with
    | .inl m4 => some ((0 : Int32), m4)
    | .inr m5 => some (1, m5)) := by
    unfold f_X11_isRest
    rw [pl, in_nI (show 8 * c + d < 64 by omega) (by decide), if_pos rfl, nI_clamp (by omega), g2, bnd_eq]
    rfl
  rw [r1, r2, lpk_of x1, lpk_of y1]
  rcases Q with ⟨rfl, rfl⟩ | ⟨rfl, rfl⟩ | ⟨rfl, rfl⟩
  · exact ⟨0, rfl, rfl⟩
  · exact ⟨0, rfl, rfl⟩
  · exact ⟨1, rfl, rfl⟩
theorem rest_in {G : Nat → Nat → Int32} (h : RS nc ne B f o1 o2 G mW mX) (hc : c < nc) (x0 : Int32) : ∃ x y, lpO (f_X3_restAt_L21 o1 o2 a3 (nI c)) fu (mW, x0, 0) = some x ∧ lpO (f_X11_rests_L130 o1 o2 a3 (nI c)) fu (mX, x0, 0) = some y ∧ ((∃ k, x = .inl (mW, k) ∧ y = .inl (mX, k)) ∨ ∃ k, x = .inr (mW, k) ∧ y = .inr (mX, k)) := by
  have h' := h
  obtain ⟨hn8, e4, h95, h24, sv, hG⟩ := h
  have h95' : mW.1 4 95 = nI nc := by rw [e4, h95]
  refine lpO_sim (s1 := f_X3_restAt_L21 o1 o2 a3 (nI c)) (s2 := f_X11_rests_L130 o1 o2 a3 (nI c)) (R := fun s t => ∃ i k, i ≤ nc ∧ s = (mW, k, nI i) ∧ t = (mX, k, nI i)) (Q := fun x y => (∃ k, x = .inl (mW, k) ∧ y = .inl (mX, k)) ∨ ∃ k, x = .inr (mW, k) ∧ y = .inr (mX, k)) (μ := fun s => nc - s.2.2.toNatClampNeg) ?_ fu (mW, x0, 0) (mX, x0, 0) (by show nc - _ < 1000000; omega) ⟨0, x0, by omega, rfl, rfl⟩
  rintro s t ⟨i, k, hi, rfl, rfl⟩
  by_cases z : i = nc
  · left
    subst z
    refine ⟨.inr (mW, k), .inr (mX, k), ?_, ?_, Or.inr ⟨k, rfl, rfl⟩⟩
    · simp only [f_X3_restAt_L21, f_X0_children, cal_eq, h95', if_pos (nI_le (Nat.le_refl i) (show i < 2 ^ 31 by omega))]
    · simp only [f_X11_rests_L130, h24, if_pos (nI_le (Nat.le_refl i) (show i < 2 ^ 31 by omega))]
  · have hi' : i < nc := by omega
    have dec : nc - (nI (i + 1)).toNatClampNeg < nc - (nI i).toNatClampNeg := by
      rw [nI_clamp (by omega), nI_clamp (by omega)]; omega
    have go : ∀ k', f_X3_restAt_L21 o1 o2 a3 (nI c) (mW, k, nI i) = some (.inr (mW, k', nI (i + 1))) → f_X11_rests_L130 o1 o2 a3 (nI c) (mX, k, nI i) = some (.inr (mX, k', nI (i + 1))) → (∃ x y, f_X3_restAt_L21 o1 o2 a3 (nI c) (mW, k, nI i) = some (.inl x) ∧ f_X11_rests_L130 o1 o2 a3 (nI c) (mX, k, nI i) = some (.inl y) ∧ ((∃ k, x = .inl (mW, k) ∧ y = .inl (mX, k)) ∨ ∃ k, x = .inr (mW, k) ∧ y = .inr (mX, k))) ∨ (∃ s' t', f_X3_restAt_L21 o1 o2 a3 (nI c) (mW, k, nI i) = some (.inr s') ∧ f_X11_rests_L130 o1 o2 a3 (nI c) (mX, k, nI i) = some (.inr t') ∧ (∃ i k, i ≤ nc ∧ s' = (mW, k, nI i) ∧ t' = (mX, k, nI i)) ∧ nc - s'.2.2.toNatClampNeg < nc - ((mW, k, nI i) : Sg × Int32 × Int32).2.2.toNatClampNeg) := fun k' x1 x2 => Or.inr ⟨_, _, x1, x2, ⟨i + 1, k', hi', rfl, rfl⟩, dec⟩
    by_cases q1 : kd f c 3 = o1
    · by_cases q2 : kd f i 3 = o2
      · obtain ⟨r, r1, r2⟩ := isRest_v (c := c) (d := i) h' hc hi' q1 q2
        by_cases q3 : r = 0
        · refine go k ?_ ?_
          · simp only [f_X3_restAt_L21, f_X0_children, cal_eq, h95', if_neg (ix_lt hi' (show nc < 2 ^ 31 by omega)), ofN_v h95' hc hn8, ofN_v h95' hi' hn8, e4, if_pos q1, if_pos q2, n10, ↓reduceIte, r1, if_pos q3, bnd_eq, nI_1]
          · simp only [f_X11_rests_L130, h24, if_neg (ix_lt hi' (show nc < 2 ^ 31 by omega)), isOf_v sv hc hn8, isOf_v sv hi' hn8, cal_eq, if_pos q1, if_pos q2, n10, ↓reduceIte, r2, if_pos q3, bnd_eq, nI_1]
        · by_cases q4 : k = a3
          · left
            refine ⟨.inl (mW, nI i), .inl (mX, nI i), ?_, ?_, Or.inl ⟨nI i, rfl, rfl⟩⟩
            · simp only [f_X3_restAt_L21, f_X0_children, cal_eq, h95', if_neg (ix_lt hi' (show nc < 2 ^ 31 by omega)), ofN_v h95' hc hn8, ofN_v h95' hi' hn8, e4, if_pos q1, if_pos q2, n10, ↓reduceIte, r1, if_neg q3, if_pos q4, bnd_eq, nI_1]
            · simp only [f_X11_rests_L130, h24, if_neg (ix_lt hi' (show nc < 2 ^ 31 by omega)), isOf_v sv hc hn8, isOf_v sv hi' hn8, cal_eq, if_pos q1, if_pos q2, n10, ↓reduceIte, r2, if_neg q3, if_pos q4, bnd_eq, nI_1]
          · refine go (k + 1) ?_ ?_
            · simp only [f_X3_restAt_L21, f_X0_children, cal_eq, h95', if_neg (ix_lt hi' (show nc < 2 ^ 31 by omega)), ofN_v h95' hc hn8, ofN_v h95' hi' hn8, e4, if_pos q1, if_pos q2, n10, ↓reduceIte, r1, if_neg q3, if_neg q4, bnd_eq, nI_1]
            · simp only [f_X11_rests_L130, h24, if_neg (ix_lt hi' (show nc < 2 ^ 31 by omega)), isOf_v sv hc hn8, isOf_v sv hi' hn8, cal_eq, if_pos q1, if_pos q2, n10, ↓reduceIte, r2, if_neg q3, if_neg q4, bnd_eq, nI_1]
      · refine go k ?_ ?_
        · simp only [f_X3_restAt_L21, f_X0_children, cal_eq, h95', if_neg (ix_lt hi' (show nc < 2 ^ 31 by omega)), ofN_v h95' hc hn8, ofN_v h95' hi' hn8, e4, if_pos q1, if_neg q2, n10, ↓reduceIte, bnd_eq, nI_1]
        · simp only [f_X11_rests_L130, h24, if_neg (ix_lt hi' (show nc < 2 ^ 31 by omega)), isOf_v sv hc hn8, isOf_v sv hi' hn8, cal_eq, if_pos q1, if_neg q2, n10, ↓reduceIte, bnd_eq, nI_1]
    · refine go k ?_ ?_
      · simp only [f_X3_restAt_L21, f_X0_children, cal_eq, h95', if_neg (ix_lt hi' (show nc < 2 ^ 31 by omega)), ofN_v h95' hc hn8, e4, if_neg q1, ↓reduceIte, bnd_eq, nI_1]
      · simp only [f_X11_rests_L130, h24, if_neg (ix_lt hi' (show nc < 2 ^ 31 by omega)), isOf_v sv hc hn8, cal_eq, if_neg q1, ↓reduceIte, bnd_eq, nI_1]
theorem rest_out {G : Nat → Nat → Int32} (h : RS nc ne B f o1 o2 G mW mX) : ∃ x y, lpO (f_X3_restAt_L6 o1 o2 a3) fu (mW, 0, 0) = some x ∧ lpO (f_X11_rests_L118 o1 o2 a3) fu (mX, 0, 0) = some y ∧ ((∃ j k, x = .inl (mW, j, k) ∧ y = .inl (mX, j, k)) ∨ ∃ k, x = .inr (mW, k) ∧ y = .inr (mX, k)) := by
  have h' := h
  obtain ⟨hn8, e4, h95, h24, sv, hG⟩ := h
  have h95' : mW.1 4 95 = nI nc := by rw [e4, h95]
  refine lpO_sim (s1 := f_X3_restAt_L6 o1 o2 a3) (s2 := f_X11_rests_L118 o1 o2 a3) (R := fun s t => ∃ i k, i ≤ nc ∧ s = (mW, k, nI i) ∧ t = (mX, k, nI i)) (Q := fun x y => (∃ j k, x = .inl (mW, j, k) ∧ y = .inl (mX, j, k)) ∨ ∃ k, x = .inr (mW, k) ∧ y = .inr (mX, k)) (μ := fun s => nc - s.2.2.toNatClampNeg) ?_ fu (mW, 0, 0) (mX, 0, 0) (by show nc - _ < 1000000; omega) ⟨0, 0, by omega, rfl, rfl⟩
  rintro s t ⟨i, k, hi, rfl, rfl⟩
  by_cases z : i = nc
  · left
    subst z
    refine ⟨.inr (mW, k), .inr (mX, k), ?_, ?_, Or.inr ⟨k, rfl, rfl⟩⟩
    · simp only [f_X3_restAt_L6, f_X0_children, cal_eq, h95', if_pos (nI_le (Nat.le_refl i) (show i < 2 ^ 31 by omega))]
    · simp only [f_X11_rests_L118, h24, if_pos (nI_le (Nat.le_refl i) (show i < 2 ^ 31 by omega))]
  · have hi' : i < nc := by omega
    have dec : nc - (nI (i + 1)).toNatClampNeg < nc - (nI i).toNatClampNeg := by
      rw [nI_clamp (by omega), nI_clamp (by omega)]; omega
    obtain ⟨x, y, x1, y1, Q⟩ := rest_in (a3 := a3) h' hi' k
    have b1 : f_X3_restAt_L6 o1 o2 a3 (mW, k, nI i) = lpk (f_X3_restAt_L21 o1 o2 a3 (nI i)) (mW, k, 0) (fun x => match x with
      | .inl (m16, x17) => some (.inl (.inl (m16, nI i, x17)))
      | .inr (m18, x19) => bnd (nI i + 1) (fun x35 => some (.inr (m18, x19, x35)))) := by
      simp only [f_X3_restAt_L6, f_X0_children, cal_eq, h95', if_neg (ix_lt hi' (show nc < 2 ^ 31 by omega))]
      rfl
    have b2 : f_X11_rests_L118 o1 o2 a3 (mX, k, nI i) = lpk (f_X11_rests_L130 o1 o2 a3 (nI i)) (mX, k, 0) (fun x => match x with
      | .inl (m40, x41) => some (.inl (.inl (m40, nI i, x41)))
      | .inr (m42, x43) => bnd (nI i + 1) (fun x57 => some (.inr (m42, x43, x57)))) := by
      simp only [f_X11_rests_L118, h24, if_neg (ix_lt hi' (show nc < 2 ^ 31 by omega))]
      rfl
    rw [b1, b2, lpk_of x1, lpk_of y1]
    rcases Q with ⟨k', rfl, rfl⟩ | ⟨k', rfl, rfl⟩
    · exact Or.inl ⟨_, _, rfl, rfl, Or.inl ⟨nI i, k', rfl, rfl⟩⟩
    · refine Or.inr ⟨(mW, k', nI (i + 1)), (mX, k', nI (i + 1)), ?_, ?_, ⟨i + 1, k', hi', rfl, rfl⟩, dec⟩
      · simp only [bnd_eq, nI_1]
      · simp only [bnd_eq, nI_1]
theorem q_rests (R : Rel nl ln B m) : QQ nl ln B (f_X10_rests m a1 a2 a3) (fun m1 => f_X11_rests m1 a1 a2 a3) := by
  have no : f_X10_rests m a1 a2 a3 = some (-1, m) → f_X11_rests m a1 a2 a3 = some (-1, wr m 27 0 0) → QQ nl ln B (f_X10_rests m a1 a2 a3) (fun m1 => f_X11_rests m1 a1 a2 a3) := fun x1 x2 => QQ_q R x1 Fr.rf x2 (fr_thr m 0)
  rcases Rel_cases R with ⟨u, H⟩ | ⟨nc, ne, M, A, nx, T, H, hM, L, P⟩
  · have H' := HM_fr H (fr_thr m 0)
    refine no ?_ ?_
    · simp only [f_X10_rests, told_v H.2.2.1 (by decide), cal_eq, ↓reduceIte]
    · simp only [f_X11_rests, bnd_eq, mN_un H'.1, cal_eq, ↓reduceIte]
  · have h0 : 0 < nc := T.2.1.1.1.1
    have hn8 := H.2.2.2.2.2.1
    have H' := HM_fr H (fr_thr m 0)
    have tl : f_X0_isTold 4 m = some (1, m) := by rw [told_v H.2.2.1 hn8, if_neg (by omega)]
    rcases two_nu a1 a2 with ⟨p, q, hp, hq, e1, e2, h⟩ | h
    · subst e1; subst e2
      by_cases z : (-1 : Int32) ≤ a3
      · obtain ⟨V, hl, h4, hi, eh⟩ := Rel_LR R
        obtain ⟨mW, c1, c2, c3⟩ := weigh_v (T_WF T) H.2.2.1 h
        have frC := wS_scr c2
        have frT := frC.tr (fr_thr mW 0)
        have H2 := HM_fr H frT
        obtain ⟨mX, d1, d2, d3⟩ := mWeigh_v (o1 := nI p) (o2 := nI q) R T hl h4 hi eh H frT
        have frX := frT.tr (vS_scr d2)
        have H3 := HM_fr H frX
        have rs : RS nc ne B (m.1 4) (nI p) (nI q) (dV (va_cpy (m.1 4) (m.1 6) 0 0 100) (nI p) (nI q) nc ne) mW mX := ⟨hn8, fr_row frC (e_all (by simp)), H.2.2.1, H3.1, (H3.2.2.2.2.2.2.2 h0).2.1, fun c d hc hd y1 y2 => ⟨c3 c d hc hd y1 y2, d3 c d hc hd y1 y2⟩⟩
        obtain ⟨x, y, x1, y1, Q⟩ := rest_out (a3 := a3) rs
        have b1 : f_X10_rests m (nI p) (nI q) a3 = cal (lpk (f_X3_restAt_L6 (nI p) (nI q) a3) (mW, 0, 0) (fun x => match x with
          | .inl (m4, x5, x6) => some ((10 * x5) + x6, m4)
          | .inr (m7, x8) => (if a3 = (-1) then some (x8, m7) else some ((-1), m7)))) (fun x7 m6 => some (x7, m6)) := by
          simp only [f_X10_rests, tl, f_X10_areTwoNurseries, iN_yes hp, iN_yes hq, cal_eq, calv_eq, n10, ↓reduceIte, if_neg h, if_pos z, c1]
          rfl
        have b2 : f_X11_rests mW (nI p) (nI q) a3 = lpk (f_X11_rests_L118 (nI p) (nI q) a3) (mX, 0, 0) (fun x => match x with
          | .inl (m30, x31, x32) => some ((10 * x31) + x32, m30)
          | .inr (m33, x34) => (if a3 = (-1) then some (x34, m33) else some ((-1), m33))) := by
          simp only [f_X11_rests, bnd_eq, mN_yes H2.1 h0 hn8 hp, mN_yes H2.1 h0 hn8 hq, if_neg h, cal_eq, n10, ↓reduceIte, if_pos z, lpk_of d1]
          rfl
        rw [lpk_of x1] at b1
        rw [lpk_of y1] at b2
        rcases Q with ⟨j, k, rfl, rfl⟩ | ⟨k, rfl, rfl⟩
        · exact QQ_q R (r := 10 * j + k) (m1 := mW) (m2 := mX) b1 frC b2 ((fr_thr mW 0).tr (vS_scr d2))
        · refine QQ_q R (r := if a3 = -1 then k else -1) (m1 := mW) (m2 := mX) ?_ frC ?_ ((fr_thr mW 0).tr (vS_scr d2))
          · rw [b1]; simp only; split <;> rfl
          · show f_X11_rests mW (nI p) (nI q) a3 = _
            rw [b2]; simp only; split <;> rfl
      · refine no ?_ ?_
        · simp only [f_X10_rests, tl, f_X10_areTwoNurseries, iN_yes hp, iN_yes hq, cal_eq, n10, ↓reduceIte, if_neg h, if_neg z]
        · simp only [f_X11_rests, bnd_eq, mN_yes H'.1 h0 hn8 hp, mN_yes H'.1 h0 hn8 hq, if_neg h, cal_eq, n10, ↓reduceIte, if_neg z]
    · refine no ?_ ?_
      · rcases h with z | ⟨⟨u, hu, z⟩, y | ⟨⟨v, hv, y⟩, y'⟩⟩
        · simp only [f_X10_rests, tl, f_X10_areTwoNurseries, iN_no z, cal_eq, n10, ↓reduceIte]
        · subst z; simp only [f_X10_rests, tl, f_X10_areTwoNurseries, iN_yes hu, iN_no y, cal_eq, n10, ↓reduceIte]
        · subst z; subst y; simp only [f_X10_rests, tl, f_X10_areTwoNurseries, iN_yes hu, iN_yes hv, cal_eq, n10, ↓reduceIte, if_pos y']
      · rcases h with z | ⟨⟨u, hu, z⟩, y | ⟨⟨v, hv, y⟩, y'⟩⟩
        · simp only [f_X11_rests, bnd_eq, mN_no z, cal_eq, ↓reduceIte]
        · subst z; simp only [f_X11_rests, bnd_eq, mN_yes H'.1 h0 hn8 hu, mN_no y, cal_eq, n10, ↓reduceIte]
        · subst z; subst y; simp only [f_X11_rests, bnd_eq, mN_yes H'.1 h0 hn8 hu, mN_yes H'.1 h0 hn8 hv, cal_eq, n10, ↓reduceIte, if_pos y']
end
