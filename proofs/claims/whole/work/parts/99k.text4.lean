/-! a county's text becomes the county: the call -/
section
variable {nl B B' : Nat} {ln : Nat → Nat} {m m1 m2 m' mc mm mc0 mm0 : Sg} {j w u : Nat} {a a1 a2 a3 a4 r x c s v : Int32} {L p q k i n off b N t t1 t2 t3 cnt base nc ne e ru lo hi : Nat} {tx : Nat → Int32} {z : Bool} {F F' R S U R' S' U' g f : Nat → Int32}
theorem KR_cg (h : ∀ k, k < 100 → F' k = F k) (K : KR F R S U nc ne) : KR F' R S U nc ne := by
  obtain ⟨k1, k2, k3, k4, k5, k6, k7, k8, k9, k10, k11, k12⟩ := K
  refine ⟨k1, k2, by rw [h 95 (by decide)]; exact k3, by rw [h 96 (by decide)]; exact k4, by rw [h 97 (by decide)]; exact k5, by rw [h 98 (by decide)]; exact k6, by rw [h 99 (by decide)]; exact k7, fun c hc => kid_mv (k8 c hc) (fun i hi => h _ (by omega)) (fun _ _ => rfl), fun c h1 h2 i hi => by rw [h _ (by omega)]; exact k9 c h1 h2 i hi, fun e he => old_mv (k10 e he) (fun i hi => h _ (by omega)) (fun _ _ => rfl), fun e h1 h2 i hi => by rw [h _ (by omega)]; exact k11 e h1 h2 i hi, by rw [h 92 (by decide)]; exact k12.1, by rw [h 93 (by decide)]; exact k12.2.1, by rw [h 94 (by decide)]; exact k12.2.2.1, k12.2.2.2⟩
theorem told_new (h0 : 0 < nc) (K : KR (m.1 4) R S U nc ne) (G : gCell (m.1 38) R S nc ne) (h32 : ∀ j, j < 48 → m.1 32 j = R j) (h34 : ∀ j, j < 12 → m.1 34 j = S j) (h36 : ∀ j, j < 3 → m.1 36 j = U j) (h24 : m.1 27 24 = nI nc) (h25 : m.1 27 25 = nI ne) (h165 : m.1 16 5 = 0) (h166 : m.1 16 6 = 0) (h39 : m.1 27 39 = 0) (h45 : m.1 27 45 = 0) (hx : ∃ nx, nx < 40 ∧ m.1 16 4 = nI nx) : Told m nc ne B := by
  obtain ⟨cv, c9, c62, c63⟩ := KR_CV K G
  have hn8 := K.1
  have hn4 := K.2.1
  refine ⟨⟨fun c hc => ?_, fun e he => ?_, ?_, ?_, ?_, h24, h25⟩, ⟨KR_WF K h0, cv, c9, c62, 0, Nat.zero_le _, K.2.2.2.2.2.2.1⟩, 0, Nat.zero_le _, ⟨K.2.2.2.2.1, c63, fun i hi => absurd hi (show ¬ i < 0 by omega)⟩, ?_⟩
  · obtain ⟨b0, b1, b2, b3, b4, b5, _⟩ := K.2.2.2.2.2.2.2.1 c hc
    exact ⟨(h32 _ (by omega)).trans b3.symm, (h32 _ (by omega)).trans b4.symm, (h32 _ (by omega)).trans b5.symm⟩
  · obtain ⟨b0, b1, _⟩ := K.2.2.2.2.2.2.2.2.2.1 e he
    exact ⟨(h34 _ (by omega)).trans b0.symm, (h34 _ (by omega)).trans b1.symm⟩
  · exact (h36 0 (by decide)).trans K.2.2.2.2.2.2.2.2.2.2.2.1.symm
  · exact (h36 1 (by decide)).trans K.2.2.2.2.2.2.2.2.2.2.2.2.1.symm
  · exact (h36 2 (by decide)).trans K.2.2.2.2.2.2.2.2.2.2.2.2.2.1.symm
  · obtain ⟨nx, x1, x2⟩ := hx
    exact ⟨0, nx, by decide, x1, h165, h39, x2, ⟨fun _ => 0, ⟨rfl, fun i => ⟨Nat.le_refl _, Nat.zero_le _⟩⟩, fun i i1 i2 => absurd i1 (by omega)⟩, h166.trans h45.symm, Or.inl h166⟩
theorem q_text0 (R : Rel nl ln B m) : QQ nl ln B (f_X10_text m 0) (fun m1 => f_X11_text m1 0) := by
  obtain ⟨L, tl, t1, t2, t3⟩ := R.1
  have hb : Bt (m.1 2) L := fun k hk => by obtain ⟨b, b1, b2, b3, _⟩ := t3 k hk; exact ⟨b, b1, b2, b3⟩
  have h28 : ∀ k, k < L → m.1 28 k = sb (m.1 2 k) := fun k hk => by obtain ⟨b, b1, b2, b3, b4⟩ := t3 k hk; rw [b3]; exact b4
  have rd : ∃ x, f_X1_read m = some x := by
    obtain ⟨mc', mm', e1, _⟩ := county_v (m2 := m) hb ⟨tl, t1, fun _ _ => rfl⟩ t2 h28
    exact ⟨_, e1⟩
  obtain ⟨⟨x, mc⟩, hx⟩ := rd
  have fr1 : Fr scr m mc := fr_X1_read (r := x) (fun k => rfl) rfl rfl rfl (fun k => rfl) hx
  have q6 : mc.1 27 6 = nI L := by rw [fr_ess fr1 rfl]; exact t2
  have q28 : mc.1 28 = m.1 28 := fr_row fr1 (e_all (by simp))
  -- the model reads what stood there, whatever the component wrote elsewhere
  have run : ∀ q : Sg, q.1 27 6 = nI L → q.1 28 = m.1 28 → ∃ mm', x = mc.1 8 2 ∧ f_X11_fault (wr q 27 0 0) 0 = some (mm'.1 27 11, mm') ∧ Fr scr (wr q 27 0 0) mm' ∧ EC mc mm' := by
    intro q h1 h2
    obtain ⟨mc', mm', e1, e2, e3⟩ := county_v (m2 := wr q 27 0 0) hb ⟨tl, t1, fun _ _ => rfl⟩ (by rw [wr_at, pk_un (by decide)]; exact h1) (fun k hk => by rw [wr_ne (by decide), h2]; exact h28 k hk)
    have ex := Option.some.inj (hx.symm.trans e1)
    have ex1 : x = mc'.1 8 2 := congrArg Prod.fst ex
    have ex2 : mc = mc' := congrArg Prod.snd ex
    subst ex2
    refine ⟨mm', ex1, ?_, fr_X11_readCounty rfl rfl rfl rfl rfl rfl rfl rfl (fun k => rfl) (fun k => rfl) (fun k => rfl) e2, e3⟩
    simp only [f_X11_fault, bnd_eq, wr_wr2, show f_X11_isIn (wr q 27 0 0) ((0 : Int32).toInt64) 0 1 = some (1, wr q 27 0 0) from in1_0, cal_eq, n10, ↓reduceIte, e2, calv_eq]
  have i01 : ∀ q : Sg, f_X11_isIn q ((0 : Int32).toInt64) 0 1 = some (1, q) := fun q => in1_0
  have n01 : ¬ (0 : Int32) = 1 := by decide
  by_cases y : x = -1
  · subst y
    let mC := wr (wr (wr (wrr mc 4 (va_cpy (mc.1 6) (mc.1 4) 0 0 100)) 16 5 0) 16 6 0) 1 1 0
    have cp : ∀ p, p ≠ 4 → p ≠ 16 → p ≠ 1 → mC.1 p = mc.1 p := fun p h1 h2 h3 => by
      show (wr (wr (wr (wrr mc 4 _) 16 5 0) 16 6 0) 1 1 0).1 p = _
      rw [wr_ne h3, wr_ne h2, wr_ne h2, wrr_ne h1]
    have c4 : mC.1 4 = va_cpy (mc.1 6) (mc.1 4) 0 0 100 := by
      show (wr (wr (wr (wrr mc 4 _) 16 5 0) 16 6 0) 1 1 0).1 4 = _
      rw [wr_ne (by decide), wr_ne (by decide), wr_ne (by decide), wrr_at]
    obtain ⟨mm', ex, f1, f2, ec⟩ := run mC (by rw [cp 27 (by decide) (by decide) (by decide)]; exact q6) (by rw [cp 28 (by decide) (by decide) (by decide)]; exact q28)
    rcases ec with ⟨e, w1, w2, w3⟩ | ⟨w1, w2, nc, ne, n0, k26, k27, K⟩
    · rw [w1] at ex
      exact absurd ex.symm (nI_m1 w3)
    · obtain ⟨mF, g1, g2, g3, g4, g5, g6, g7, g8, g9, g10, g11, g12⟩ := mTail_v k26 k27 K.1 K.2.1
      have oth : ∀ p k, p ≠ 27 → p ≠ 32 → p ≠ 34 → p ≠ 36 → p ≠ 38 → ess p k = true → mF.1 p k = mC.1 p k := fun p k h1 h2 h3 h4 h5 h6 => by
        rw [g12 p h1 h2 h3 h4 h5, fr_ess f2 h6, wr_ne h1]
      have bas : ∀ p k, p ≠ 27 → p ≠ 32 → p ≠ 34 → p ≠ 36 → p ≠ 38 → p ≠ 4 → p ≠ 16 → p ≠ 1 → ess p k = true → mF.1 p k = m.1 p k := fun p k h1 h2 h3 h4 h5 h6 h7 h8 h9 => by
        rw [oth p k h1 h2 h3 h4 h5 h9, cp p h6 h7 h8, fr_ess fr1 h9]
      have b27 : ∀ k, k ≠ 6 → k ≠ 24 → k ≠ 25 → k ≠ 39 → k ≠ 45 → k ≠ 0 → ess 27 k = true → mF.1 27 k = m.1 27 k := fun k h1 h2 h3 h4 h5 h6 h7 => by
        rw [g11 k h1 h2 h3 h4 h5, fr_ess f2 h7, wr_at, pk_un h6, cp 27 (by decide) (by decide) (by decide), fr_ess fr1 h7]
      have r4 : mF.1 4 = va_cpy (mc.1 6) (mc.1 4) 0 0 100 := by
        rw [← c4]; exact funext fun k => oth 4 k (by decide) (by decide) (by decide) (by decide) (by decide) (e_all (by simp) k)
      have K4 : KR (mF.1 4) (mm'.1 33) (mm'.1 35) (mm'.1 37) nc ne := by
        rw [r4]; exact KR_cg (fun k hk => cpyk hk) K
      have d16 : ∀ k, k = 4 ∨ k = 5 ∨ k = 6 → mF.1 16 k = mC.1 16 k := fun k hk => oth 16 k (by decide) (by decide) (by decide) (by decide) (by decide) (by rcases hk with h | h | h <;> subst h <;> rfl)
      have e164 : mC.1 16 4 = mc.1 16 4 := by
        show (wr (wr (wr (wrr mc 4 _) 16 5 0) 16 6 0) 1 1 0).1 16 4 = _
        rw [wr_ne (by decide), wr_at, pk_un (by decide), wr_at, pk_un (by decide), wrr_ne (by decide)]
      have e165 : mC.1 16 5 = 0 := by
        show (wr (wr (wr (wrr mc 4 _) 16 5 0) 16 6 0) 1 1 0).1 16 5 = _
        rw [wr_ne (by decide), wr_at, pk_un (by decide), wr_at, pk_us]
      have e166 : mC.1 16 6 = 0 := by
        show (wr (wr (wr (wrr mc 4 _) 16 5 0) 16 6 0) 1 1 0).1 16 6 = _
        rw [wr_ne (by decide), wr_at, pk_us]
      have T : Told mF nc ne B := told_new n0 K4 g10 g7 g8 g9 g2 g3 ((d16 5 (by decide)).trans e165) ((d16 6 (by decide)).trans e166) g5 g6 (by
        obtain ⟨nx, x1, x2⟩ := Rel_nx R
        refine ⟨nx, x1, ?_⟩
        rw [d16 4 (by decide), e164, fr_ess fr1 rfl]; exact x2)
      have RF : Rel nl ln B mF := by
        obtain ⟨R1, R2, R3, R4, _⟩ := R
        refine ⟨⟨0, by decide, ?_, g4, fun k hk => absurd hk (by omega)⟩, ?_, ?_, ?_, Or.inr ⟨nc, ne, T⟩⟩
        · rw [oth 1 1 (by decide) (by decide) (by decide) (by decide) (by decide) rfl]
          show (wr (wr (wr (wrr mc 4 _) 16 5 0) 16 6 0) 1 1 0).1 1 1 = _
          rw [wr_at, pk_us]; rfl
        · obtain ⟨V, hv⟩ := R2
          refine ⟨V, ?_⟩
          unfold LawR at hv ⊢
          have z29 : mF.1 29 = m.1 29 := funext fun k => bas 29 k (by decide) (by decide) (by decide) (by decide) (by decide) (by decide) (by decide) (by decide) (e_all (by simp) k)
          have z30 : mF.1 30 = m.1 30 := funext fun k => bas 30 k (by decide) (by decide) (by decide) (by decide) (by decide) (by decide) (by decide) (by decide) (e_all (by simp) k)
          have zc : ∀ k, mF.1 (46 + 3 * k) = m.1 (46 + 3 * k) := fun k => funext fun i => bas _ i (by omega) (by omega) (by omega) (by omega) (by omega) (by omega) (by omega) (by omega) (e_code k i)
          rw [bas 13 2 (by decide) (by decide) (by decide) (by decide) (by decide) (by decide) (by decide) (by decide) rfl, bas 13 3 (by decide) (by decide) (by decide) (by decide) (by decide) (by decide) (by decide) (by decide) rfl, b27 7 (by decide) (by decide) (by decide) (by decide) (by decide) (by decide) rfl, b27 31 (by decide) (by decide) (by decide) (by decide) (by decide) (by decide) rfl, z29, z30]
          simp only [zc]
          exact hv
        · rw [b27 32 (by decide) (by decide) (by decide) (by decide) (by decide) (by decide) rfl, bas 0 9 (by decide) (by decide) (by decide) (by decide) (by decide) (by decide) (by decide) (by decide) rfl]; exact R3
        · rw [b27 34 (by decide) (by decide) (by decide) (by decide) (by decide) (by decide) rfl]; exact R4
      have c95 : mC.1 4 95 = nI nc := by rw [c4, cpyk (by decide)]; exact K.2.2.1
      refine ⟨nI nc, mC, mF, ?_, ?_, RF⟩
      · have ck : cpk 0 0 100 100 100 = true := by decide
        simp only [f_X10_text, bnd_eq, ↓reduceIte, hx, cal_eq, f_X0_become, ck, calv_eq, f_X7_forgetAll, f_X9_cut, f_X0_children]
        show some (mC.1 4 95, mC) = _
        rw [c95]
      · simp only [f_X11_text, bnd_eq, i01, cal_eq, n10, ↓reduceIte, n01, f1, w2]
        simp only [mTail, bnd_eq] at g1
        exact g1
  · have run' := run mc q6 q28
    obtain ⟨mm', ex, f1, f2, ec⟩ := run'
    have em : mm'.1 27 11 = x := by
      rcases ec with ⟨e, w1, w2, _⟩ | ⟨w1, w2, _⟩
      · rw [w2, ex, w1]
      · rw [w2, ex, w1]
    refine QQ_q R (r := -1) (m1 := mc) (m2 := mm') ?_ fr1 ?_ ((fr_thr mc 0).tr f2)
    · simp only [f_X10_text, bnd_eq, ↓reduceIte, hx, cal_eq, if_neg y, n01]
    · simp only [f_X11_text, bnd_eq, i01, cal_eq, n10, ↓reduceIte, n01, f1, em, if_neg y]
end
