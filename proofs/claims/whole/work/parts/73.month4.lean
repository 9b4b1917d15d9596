/-! a month of the model, whole -/
section
variable {nl B B' : Nat} {ln : Nat → Nat} {V : Nat → (Nat → Int32) → Int32} {m m1 m2 m' : Sg} {j w u : Nat} {a a1 a2 a3 r s law x mo y tr : Int32} {f f' g g' lg lg' : Nat → Int32} {nc ne c e t M M' A nx n : Nat}
theorem wrG_lo {e p : Int32} {k : Nat} (h : k < 63) : wrG g n e p k = g k := by
  unfold wrG wrB
  rw [pk_un (by omega), pk_un (by omega), pk_un (by omega), pk_un (by omega)]
  split
  · rw [pk_un (by omega)]
    unfold shg
    rw [if_neg (by omega)]
  · rfl
theorem wrG_63 {e p : Int32} (hn : n ≤ 60) : ∃ q, q ≤ 60 ∧ wrG g n e p 63 = nI q := by
  unfold wrG wrQ
  rw [pk_us]
  split
  · exact ⟨59 + 1, by decide, rfl⟩
  · exact ⟨n + 1, by omega, rfl⟩
/-- what the ruler pays -/
def pdV (V : Nat → (Nat → Int32) → Int32) (law : Int32) (f : Nat → Int32) : Int32 := if f 98 = -1 then 0 else taxV V law (ltC f (f 98).toNatClampNeg) (cnt f (f 98).toNatClampNeg)
theorem CV_6 (hv : CV g f) (h : ∀ k, k < 62 → (∀ c, c < 8 → k ≠ 7 * c + 6) → g' k = g k) : CV g' f := by
  refine ⟨fun c hc => ?_, fun e he => ?_, ?_, ?_⟩
  · rw [h _ (by omega) (fun q _ => by omega), h _ (by omega) (fun q _ => by omega), h _ (by omega) (fun q _ => by omega), h _ (by omega) (fun q _ => by omega), h _ (by omega) (fun q _ => by omega), h _ (by omega) (fun q _ => by omega)]
    exact hv.1 c hc
  · rw [h _ (by omega) (fun q _ => by omega)]; exact hv.2.1 e he
  · rw [h _ (by omega) (fun q _ => by omega)]; exact hv.2.2.1
  · rw [h _ (by omega) (fun q _ => by omega)]; exact hv.2.2.2
theorem gmP_v (hw : w = 38 ∨ w = 39) (hv : CV (m.1 w) f) (hs : SV m f nc ne) (hf : WF f nc ne B) (hl : LR nl ln V m) (h4 : nl ≤ 4) (hi : isI (m.1 27 31) nl) (hlen : m.1 w 63 = nI n) (hn : n ≤ 60) : ∃ m' g', gmP w tr m = some m' ∧ m'.1 w = wrG g' n tr (pdV V (m.1 27 31) f) ∧ (∀ k, k ≠ 62 → (∀ c, c < 8 → k ≠ 7 * c + 6) → g' k = m.1 w k) ∧ g' 62 = m.1 w 62 + pdV V (m.1 27 31) f ∧ (∀ c, c < 8 → g' (7 * c + 6) = m.1 w (7 * c + 6) + if f 98 = nI c then 1 else 0) ∧ m'.2 27 = m.2 27 ∧ m'.1 27 35 = m.1 27 35 := by
  have e61 : m.1 w 61 = f 98 := hv.2.2.2
  have hn8 := hf.1.2
  rcases hf.2.2.2.2.2.2.2.2.2.2 with h | ⟨c, hc, h⟩
  · refine ⟨wrr m w (wrG (m.1 w) n tr 0), m.1 w, ?_, ?_, fun _ _ _ => rfl, ?_, fun c hc => ?_, rfl, by rw [wrr_ne (by omega)]⟩
    · unfold gmP
      rw [bnd_eq, if_pos (e61.trans h)]
      show calv (f_X11_writes w m tr 0) _ = _
      rw [writes_v hlen hn]; rfl
    · rw [wrr_at]; unfold pdV; rw [if_pos h]
    · unfold pdV; rw [if_pos h, Int32.add_zero]
    · rw [h, if_neg (fun z => n1e (show c < 9 by omega) z.symm), Int32.add_zero]
  · have hc8 : c < 8 := by omega
    have c1 : ¬ nI c = -1 := n1e (by omega)
    let g1 : Nat → Int32 := upd (m.1 w) (7 * c + 6) (m.1 w (7 * c + 6) + 1)
    have cv1 : CV ((wrr m w g1).1 w) f := by
      rw [wrr_at]
      exact CV_6 hv (fun k hk h6 => pk_un (h6 c hc8))
    have h27 : (wrr m w g1).1 27 31 = m.1 27 31 := by rw [wrr_ne (by omega)]
    obtain ⟨m3, e3⟩ := mTaxOf_v (w := w) (LR_row hw hl) h4 (by rw [h27]; exact hi) cv1 (SV_row (by omega) hs) hc hn8
    rw [h27] at e3
    have f3 : Fr (fun p k => p == 27 && !(k == 1000000 || k == 35) || p == 31) (wrr m w g1) m3 := fr_X11_taxOf (S := fun p k => p == 27 && !(k == 1000000 || k == 35) || p == 31) rfl rfl rfl rfl rfl rfl rfl rfl rfl (fun _ => rfl) e3
    have r3 : m3.1 w = g1 := by
      rw [← wrr_at (m := m) (j := w) (f := g1)]
      exact funext fun k => f3.1 w k (by rcases hw with h | h <;> subst h <;> rfl)
    have hpd : pdV V (m.1 27 31) f = taxV V (m.1 27 31) (ltC f c) (cnt f c) := by
      unfold pdV; rw [h, if_neg c1, nI_clamp (by omega)]
    have g61 : (wr m w (7 * c + 6) (m.1 w (7 * c + 6) + 1)).1 w 61 = nI c := by rw [wr_at, pk_un (by omega), e61, h]
    have g63 : (wr m3 w 62 (m3.1 w 62 + taxV V (m.1 27 31) (ltC f c) (cnt f c))).1 w 63 = nI n := by
      rw [wr_at, pk_un (by omega), r3]
      show upd (m.1 w) (7 * c + 6) _ 63 = _
      rw [pk_un (by omega), hlen]
    refine ⟨wrr (wr m3 w 62 (m3.1 w 62 + taxV V (m.1 27 31) (ltC f c) (cnt f c))) w (wrG (upd g1 62 (g1 62 + taxV V (m.1 27 31) (ltC f c) (cnt f c))) n tr (taxV V (m.1 27 31) (ltC f c) (cnt f c))), upd g1 62 (g1 62 + taxV V (m.1 27 31) (ltC f c) (cnt f c)), ?_, ?_, ?_, ?_, ?_, f3.2 27 rfl, by rw [wrr_ne (by omega), wr_ne (by omega), f3.1 27 35 rfl, wrr_ne (by omega)]⟩
    · unfold gmP
      simp only [bnd_eq]
      rw [e61, h, if_neg c1, i7_6 hc8, if_pos rfl, if_pos rfl, t7_6 hc8, g61]
      rw [show wr m w (7 * c + 6) (m.1 w (7 * c + 6) + 1) = wrr m w g1 from rfl, e3]
      simp only [cal_eq]
      rw [writes_v g63 hn]
      simp only [calv_eq]
      rw [wr_at, r3]
    · rw [wrr_at, hpd]
    · intro k k62 k6
      show upd (upd (m.1 w) (7 * c + 6) _) 62 _ k = _
      rw [pk_un k62, pk_un (k6 c hc8)]
    · rw [hpd]
      show upd (upd (m.1 w) (7 * c + 6) _) 62 (upd (m.1 w) (7 * c + 6) _ 62 + _) 62 = _
      rw [pk_us, pk_un (by omega)]
    · intro d hd
      show upd (upd (m.1 w) (7 * c + 6) _) 62 _ (7 * d + 6) = _
      rw [pk_un (by omega), h]
      by_cases q : d = c
      · subst q; rw [pk_us, if_pos rfl]
      · rw [pk_un (by omega), if_neg (fun z => q ((nI_eq (a := c) (b := d) (by omega) (by omega)).mp z).symm), Int32.add_zero]
theorem SV_98 (hE : ne ≤ 4) (hs : SV m f nc ne) : SV m (upd f 98 x) nc ne := by
  obtain ⟨h1, h2, h3, h4, h5, h6, h7⟩ := hs
  refine ⟨fun c hc => ?_, fun e he => ?_, by rw [pk_un (by decide)]; exact h3, by rw [pk_un (by decide)]; exact h4, by rw [pk_un (by decide)]; exact h5, h6, h7⟩
  · have k : ∀ w, w = 3 ∨ w = 4 ∨ w = 5 → kd (upd f 98 x) c w = kd f c w := fun w hw => pk_un (by omega)
    rw [k 3 (by simp), k 4 (by simp), k 5 (by simp)]; exact h1 c hc
  · have k : ∀ w, w < 2 → od (upd f 98 x) e w = od f e w := fun w hw => pk_un (by omega)
    rw [k 0 (by decide), k 1 (by decide)]; exact h2 e he
theorem kd_98 (hw : w < 8) : kd (upd f 98 x) c w = kd f c w := pk_un (by omega)
theorem ask_98 : ask (upd f 98 x) e = ask f e := by
  unfold ask tri
  have k : od (upd f 98 x) e 2 = od f e 2 := pk_un (by omega)
  rw [k, pk_un (by decide)]
theorem lck_98 : lck (upd f 98 x) c a = lck f c a := by
  unfold lck
  rw [kd_98 (by decide), kd_98 (by decide), kd_98 (by decide)]
theorem clM_98 {t b : Int32} : clM (upd f 98 x) t b n = clM f t b n := by
  unfold clM
  refine itr_congr n (fun i _ z => ?_)
  unfold clF
  rw [kd_98 (by decide), kd_98 (by decide), lck_98, pk_un (show 92 ≠ 98 by decide)]
theorem trF_98 {z : Int32} (hn : n < 4) (hI : isI z n) : trF (upd f 98 x) a n z = trF f a n z := by
  have o : ∀ q, q < 4 → od (upd f 98 x) q 0 = od f q 0 := fun q hq => pk_un (by omega)
  unfold trF
  rw [ask_98, o n hn]
  rcases hI with h | ⟨d, hd, h⟩
  · subst h
    by_cases q1 : b0 a n
    · rw [if_pos q1, if_pos q1]
      by_cases q2 : ask f n = 0
      · rw [if_pos q2, if_pos q2]
      · rw [if_neg q2, if_neg q2, if_pos rfl, if_pos rfl]
    · rw [if_neg q1, if_neg q1]
  · subst h
    rw [nI_clamp (show d < 2 ^ 31 by omega), o d (by omega)]
theorem trW_98 (n : Nat) (hn : n ≤ 4) : trW (upd f 98 x) a n = trW f a n := by
  induction n with
  | zero => exact (show trW (upd f 98 x) a 0 = -1 from rfl).trans (show trW f a 0 = -1 from rfl).symm
  | succ n ih =>
    have hI : isI (trW f a n) n := trW_I
    have ih := ih (by omega)
    unfold trW at ih hI ⊢
    rw [itr, itr, ih]
    exact trF_98 (by omega) hI
def r1V (f : Nat → Int32) : Int32 := if f 98 = -1 then -1 else if kd f (f 98).toNatClampNeg 0 < f 92 then f 98 else -1
def bsV (f : Nat → Int32) (ne nc : Nat) : Int32 := if trW f 0 ne = -1 then -1 else itr (rvS f (trW f 0 ne).toNatClampNeg) (-1) nc
def r2V (f : Nat → Int32) (ne nc : Nat) : Int32 := if bsV f ne nc = -1 then f 98 else bsV f ne nc
theorem bsV_I : isI (bsV f ne nc) nc := by
  unfold bsV
  split
  · exact Or.inl rfl
  · exact itr_isI rvS_or nc
theorem rul_eq (hf : WF f nc ne B) : r2V (upd f 98 (r1V f)) ne nc = rbV f (f 98) (clT f (trW f 0 ne) nc) 0 := by
  have hn := hf.2.1
  have hn8 := hf.1.2
  have h98 : upd f 98 (r1V f) 98 = r1V f := pk_us
  unfold r2V bsV
  rw [trW_98 ne hn, h98]
  unfold rbV clT
  have A : r1V f = -1 → (if (if trW f 0 ne = -1 then -1 else itr (rvS (upd f 98 (r1V f)) (trW f 0 ne).toNatClampNeg) (-1) nc) = -1 then r1V f else if trW f 0 ne = -1 then -1 else itr (rvS (upd f 98 (r1V f)) (trW f 0 ne).toNatClampNeg) (-1) nc) = if trW f 0 ne = -1 then -1 else clM f (ask f (trW f 0 ne).toNatClampNeg) (-1) nc := by
    intro hr
    rw [rv_A (h98.trans hr) nc hn8, clM_98, ask_98, hr]
    by_cases q : trW f 0 ne = -1
    · simp [q]
    · simp only [q, ↓reduceIte]
      split
      · next h => rw [h]
      · rfl
  rcases hf.2.2.2.2.2.2.2.2.2.2 with h | ⟨c, hc, h⟩
  · have hr : r1V f = -1 := by unfold r1V; rw [if_pos h]
    rw [A hr, if_pos h]
  · have hc8 : c < 8 := by omega
    have c1 : ¬ nI c = -1 := n1e (by omega)
    have cc : (nI c).toNatClampNeg = c := nI_clamp (by omega)
    by_cases q : kd f c 0 < f 92
    · have hr : r1V f = nI c := by unfold r1V; rw [h, if_neg c1, cc, if_pos q]
      rw [rv_B (h98.trans hr) hc8 nc hn8, clM_98, ask_98, hr, h, if_neg c1, cc, Int32.add_zero, if_neg (Int32.not_le.mpr q), kd_98 (show 0 < 8 by decide), kd_98 (show 0 < 8 by decide)]
      by_cases q2 : trW f 0 ne = -1
      · simp [q2]
      · simp only [q2, ↓reduceIte]
        generalize clM f (ask f (trW f 0 ne).toNatClampNeg) (-1) nc = z
        by_cases q3 : z = -1
        · simp [q3]
        · simp only [q3, ↓reduceIte]
          by_cases q4 : kd f c 0 ≤ kd f z.toNatClampNeg 0
          · simp [q4]
          · simp [q4, q3]
    · have hr : r1V f = -1 := by unfold r1V; rw [h, if_neg c1, cc, if_neg q]
      rw [A hr, h, if_neg c1, cc, Int32.add_zero, if_pos (Int32.not_lt.mp q)]
theorem upd_upd {k : Nat} {x y : Int32} : upd (upd f k x) k y = upd f k y := by
  funext q
  by_cases z : q = k
  · rw [z, pk_us, pk_us]
  · rw [pk_un z, pk_un z, pk_un z]
theorem gmR_v (hw : w = 38 ∨ w = 39) (hv : CV (m.1 w) f) (hs : SV m f nc ne) (hf : WF f nc ne B) : gmR w m = gmP w (trW f 0 ne) (wr m w 61 (r2V f ne nc)) := by
  have e61 : m.1 w 61 = f 98 := hv.2.2.2
  have hn8 := hf.1.2
  unfold gmR
  rw [mExam_v hv hs hf, cal_eq]
  have fin : ∀ b : Int32, b = bsV f ne nc → (bnd (fun (m58 : Sg) => gmP w (trW f 0 ne) m58) (fun (k59 : Sg → Option (Sg)) => (if b = (-1) then k59 m else bnd (wr m w 61 b) (fun m68 => k59 m68)))) = gmP w (trW f 0 ne) (wr m w 61 (r2V f ne nc)) := by
    intro b hb
    subst hb
    rw [bnd_eq]
    unfold r2V
    by_cases q : bsV f ne nc = -1
    · rw [if_pos q, if_pos q, ← e61, wr_same]
    · rw [if_neg q, if_neg q]; rfl
  rcases tr_cases f 0 ne with h | ⟨e, he, h⟩
  · rw [h] at fin ⊢
    rw [L214_n hs.2.2.2.2.2.1 hf.1.1 hn8]
    refine fin (-1) ?_
    unfold bsV; rw [if_pos h]
  · rw [h] at fin ⊢
    rw [L214_v hv hs hf he]
    refine fin _ ?_
    unfold bsV
    rw [h, if_neg (n1e (show e < 9 by have := hf.2.1; omega)), nI_clamp (by have := hf.2.1; omega)]
theorem gmB_v (hw : w = 38 ∨ w = 39) (hv : CV (m.1 w) f) (hs : SV m f nc ne) (hf : WF f nc ne B) (hl : LR nl ln V m) (h4 : nl ≤ 4) (hi : isI (m.1 27 31) nl) (hlen : m.1 w 63 = nI n) (hn : n ≤ 60) : ∃ m' g', gmB w m = some m' ∧ m'.1 w = wrG g' n (trW f 0 ne) (pdV V (m.1 27 31) (crn f (trW f 0 ne) nc)) ∧ CV g' (crn f (trW f 0 ne) nc) ∧ (∀ k, 63 ≤ k → g' k = m.1 w k) ∧ g' 62 = m.1 w 62 + pdV V (m.1 27 31) (crn f (trW f 0 ne) nc) ∧ (∀ c, c < 8 → g' (7 * c + 6) = m.1 w (7 * c + 6) + if crn f (trW f 0 ne) nc 98 = nI c then 1 else 0) ∧ m'.2 27 = m.2 27 ∧ m'.1 27 35 = m.1 27 35 := by
  have e61 : m.1 w 61 = f 98 := hv.2.2.2
  have hn8 := hf.1.2
  have r1I : isI (r1V f) nc := by
    unfold r1V
    split
    · exact Or.inl rfl
    · split
      · exact hf.2.2.2.2.2.2.2.2.2.2
      · exact Or.inl rfl
  have e1 : gmB w m = gmR w (wr m w 61 (r1V f)) := by
    unfold gmB r1V
    rw [bnd_eq, e61, hs.2.2.1]
    rcases hf.2.2.2.2.2.2.2.2.2.2 with h | ⟨c, hc, h⟩
    · rw [if_pos h, if_pos h]
      rw [show wr m w 61 (-1) = m from by rw [← h, ← e61, wr_same]]
    · have hc8 : c < 8 := by omega
      have c1 : ¬ nI c = -1 := n1e (by omega)
      rw [h, if_neg c1, if_neg c1, i7_0 hc8, if_pos rfl, t7_0 hc8, (hv.1 c hc8).1, nI_clamp (by omega)]
      split
      · rw [← h, ← e61, wr_same]
      · rfl
  have cv1 : CV ((wr m w 61 (r1V f)).1 w) (upd f 98 (r1V f)) := by rw [wr_at]; exact CV_98 hv
  have wne : w ≠ 27 ∧ w ≠ 32 ∧ w ≠ 34 ∧ w ≠ 36 := by omega
  have sv1 : SV (wr m w 61 (r1V f)) (upd f 98 (r1V f)) nc ne := SV_98 hf.2.1 (SV_row wne hs)
  have wf1 := WF_98 hf r1I
  rw [e1, gmR_v hw cv1 sv1 wf1, trW_98 ne hf.2.1, rul_eq hf]
  have cr : upd f 98 (rbV f (f 98) (clT f (trW f 0 ne) nc) 0) = crn f (trW f 0 ne) nc := rfl
  have crI : isI (rbV f (f 98) (clT f (trW f 0 ne) nc) 0) nc := rbV_I hf.2.2.2.2.2.2.2.2.2.2 clT_I
  generalize hr2 : rbV f (f 98) (clT f (trW f 0 ne) nc) 0 = r2 at *
  have ww : wr (wr m w 61 (r1V f)) w 61 r2 = wrr m w (upd (m.1 w) 61 r2) := by rw [wr_wr2]; rfl
  rw [ww]
  have cv2 : CV ((wrr m w (upd (m.1 w) 61 r2)).1 w) (crn f (trW f 0 ne) nc) := by rw [wrr_at, ← cr]; exact CV_98 hv
  have sv2 : SV (wrr m w (upd (m.1 w) 61 r2)) (crn f (trW f 0 ne) nc) nc ne := by rw [← cr]; exact SV_98 hf.2.1 (SV_row wne hs)
  have wf2 : WF (crn f (trW f 0 ne) nc) nc ne B := by rw [← cr]; exact WF_98 hf crI
  have h27 : (wrr m w (upd (m.1 w) 61 r2)).1 27 31 = m.1 27 31 := by rw [wrr_ne (by omega)]
  obtain ⟨m', g', p1, p2, p3, p4, p5, p6, p8⟩ := gmP_v (tr := trW f 0 ne) hw cv2 sv2 wf2 (LR_row hw hl) h4 (by rw [h27]; exact hi) (by rw [wrr_at, pk_un (by decide)]; exact hlen) hn
  have p9 : m'.1 27 35 = m.1 27 35 := by rw [p8, wrr_ne (by omega)]
  clear p8
  rw [h27, wrr_at] at *
  refine ⟨m', g', p1, p2, ?_, ?_, ?_, ?_, p6, p9⟩
  · exact CV_6 (by rw [← cr]; exact CV_98 hv) (fun k hk h6 => p3 k (by omega) h6)
  · intro k hk
    rw [p3 k (by omega) (fun c hc => by omega), pk_un (by omega)]
  · rw [p4, pk_un (by decide)]
  · intro c hc
    rw [p5 c hc, pk_un (by omega)]
end
