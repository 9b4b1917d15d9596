/-! plan: months by a row of tens, on both sides -/
section
variable {nl B B' : Nat} {ln : Nat → Nat} {V : Nat → (Nat → Int32) → Int32} {m m1 m2 m' : Sg} {j w u : Nat} {a a1 a2 a3 a4 r law x mo : Int32} {f f' f0 F G K g g' : Nat → Int32} {nc ne c d e t M n i s l y h L q row : Nat} {ts : List Nat}
def vF (f0 : Nat → Int32) (nc ne c s : Nat) (ts : List Nat) (i : Nat) (x : Int32) : Int32 := x + (if rlK f0 nc ne c s ts (i + 1) = nI c then 1 else 0)
def vR (f0 : Nat → Int32) (nc ne c s : Nat) (ts : List Nat) (n : Nat) : Int32 := itr (vF f0 nc ne c s ts) 0 n
theorem mrgP (hP : PB f0 nc ne B c s ts) (hT : TP nl ln V nc ne B m F c ts y) (hM : MI f0 nc ne B c s ts 0 F y) (hn : n ≤ 24) : ∃ m', f_X11_reigns m (nI c) (nI n) 0 = some (vR f0 nc ne c s ts n, m') ∧ Fr tS m m' := by
  obtain ⟨hf, hB, hc, h6, h7, h4s, s1, s9, hL, hTs⟩ := hP
  have hP : PB f0 nc ne B c s ts := ⟨hf, hB, hc, h6, h7, h4s, s1, s9, hL, hTs⟩
  have hc8 : c < 8 := by have := hf.1.2; omega
  suffices key : ∃ x : Sg × Int32, lpO (f_X11_reigns_L6 (nI c) (nI n) 0) fu (m, 0, 0) = some x ∧ (x.2 = vR f0 nc ne c s ts n ∧ Fr tS m x.1) by
    obtain ⟨x, e1, e2, e3⟩ := key
    unfold f_X11_reigns
    rw [lpk_of e1]
    exact ⟨x.1, by rw [← e2], e3⟩
  refine lpO_inv (step := f_X11_reigns_L6 (nI c) (nI n) 0) (fun i st => ∃ q F y, st = (q, vR f0 nc ne c s ts i, nI i) ∧ TP nl ln V nc ne (B + i) q F c ts y ∧ MI f0 nc ne B c s ts i F y ∧ Fr tS m q) (fun x => x.2 = vR f0 nc ne c s ts n ∧ Fr tS m x.1) n (m, 0, 0) ⟨m, F, y, rfl, hT, hM, Fr.rf⟩ ?_ ?_ (by omega)
  · rintro i st hi ⟨q, F, y, rfl, q1, q2, q3⟩
    obtain ⟨q', d1, d2, d3⟩ := TP_go q1 hc
    have mi := MI_step hP q2 (by omega) hTs
    have e61 : q'.1 39 61 = rlK f0 nc ne c s ts (i + 1) := by rw [d2.1.2.2.2]; exact mi.2.2.2.2.1
    refine ⟨(q', vR f0 nc ne c s ts (i + 1), nI (i + 1)), ?_, q', _, _, rfl, d2, mi, q3.tr d3⟩
    have ev : vR f0 nc ne c s ts (i + 1) = vR f0 nc ne c s ts i + (if rlK f0 nc ne c s ts (i + 1) = nI c then 1 else 0) := rfl
    simp only [f_X11_reigns_L6, if_neg (ix_lt hi (show n < 2 ^ 31 by omega)), d1, calv_eq, bnd_eq, nI_1, e61, ↓reduceIte, ev]
    generalize rlK f0 nc ne c s ts (i + 1) = r
    by_cases z : r = -1
    · rw [if_pos z, if_neg (fun y => n1e (show c < 9 by omega) (y.symm.trans z))]
    · rw [if_neg z]
      split <;> rfl
  · rintro st ⟨q, F, y, rfl, q1, q2, q3⟩
    refine ⟨(q, vR f0 nc ne c s ts n), ?_, rfl, q3⟩
    simp only [f_X11_reigns_L6, if_pos (nI_le (Nat.le_refl n) (show n < 2 ^ 31 by omega))]
theorem CV_bgL {t : Int32} (hv : CV g f) (hc : c < 8) : CV (upd (upd g (7 * c + 3) t) (7 * c + 4) (kd f c 4)) (bgL f c t) := by
  have ko : ∀ k, k ≠ 10 * c + 6 → k ≠ 10 * c + 7 → bgL f c t k = f k := fun k a b => by unfold bgL; rw [pk_un b, pk_un a]
  have go : ∀ k, k ≠ 7 * c + 3 → k ≠ 7 * c + 4 → upd (upd g (7 * c + 3) t) (7 * c + 4) (kd f c 4) k = g k := fun k a b => by rw [pk_un b, pk_un a]
  refine ⟨fun c' hc' => ?_, fun e he => ?_, ?_, ?_⟩
  · obtain ⟨q1, q2, q3, q4, q5, q6⟩ := hv.1 c' hc'
    have kw : ∀ w, w < 10 → w ≠ 6 → w ≠ 7 → kd (bgL f c t) c' w = kd f c' w := fun w hw w1 w2 => ko _ (by omega) (by omega)
    rw [kw 0 (by decide) (by decide) (by decide), kw 1 (by decide) (by decide) (by decide), kw 2 (by decide) (by decide) (by decide), kw 8 (by decide) (by decide) (by decide), go _ (by omega) (by omega), go (7 * c' + 1) (by omega) (by omega), go (7 * c' + 2) (by omega) (by omega), go (7 * c' + 5) (by omega) (by omega)]
    refine ⟨q1, q2, q3, ?_, ?_, q6⟩
    · by_cases z : c' = c
      · subst z
        have : kd (bgL f c' t) c' 6 = t := by unfold kd bgL; rw [pk_un (by omega), pk_us]
        rw [this, pk_un (by omega), pk_us]
      · have : kd (bgL f c t) c' 6 = kd f c' 6 := ko _ (by omega) (by omega)
        rw [this, go _ (by omega) (by omega)]; exact q4
    · by_cases z : c' = c
      · subst z
        have : kd (bgL f c' t) c' 7 = kd f c' 4 := by unfold bgL; exact pk_us
        rw [this, pk_us]
      · have : kd (bgL f c t) c' 7 = kd f c' 7 := ko _ (by omega) (by omega)
        rw [this, go _ (by omega) (by omega)]; exact q5
  · have o : od (bgL f c t) e 2 = od f e 2 := ko _ (by omega) (by omega)
    rw [o, go _ (by omega) (by omega)]; exact hv.2.1 e he
  · rw [ko _ (by omega) (by omega), go _ (by omega) (by omega)]; exact hv.2.2.1
  · rw [ko _ (by omega) (by omega), go _ (by omega) (by omega)]; exact hv.2.2.2
theorem MI_0 (hP : PB f0 nc ne B c s ts) (h0 : ts.length = 0) : MI f0 nc ne B c s ts 0 f0 0 := by
  obtain ⟨hf, hB, hc, h6, h7, h4s, s1, s9, hL, hTs⟩ := hP
  have e : hdN s ts.length 0 = 0 := by unfold hdN; rw [h0]; rfl
  refine ⟨fun _ _ _ _ _ _ => rfl, by rw [e]; rfl, fun z => by rw [e, h0] at z; exact absurd z (by omega), fun _ => ⟨h6, h7, h0.symm⟩, rfl, hf⟩
theorem MI_1 (hP : PB f0 nc ne B c s ts) (h0 : 0 < ts.length) : MI f0 nc ne B c s ts 0 (bgL f0 c (nI (tA ts 0))) 1 := by
  obtain ⟨hf, hB, hc, h6, h7, h4s, s1, s9, hL, hTs⟩ := hP
  have e : hdN s ts.length 0 = 0 := by unfold hdN; rw [Nat.zero_div, if_neg (by omega)]
  have ko : ∀ k, k ≠ 10 * c + 6 → k ≠ 10 * c + 7 → bgL f0 c (nI (tA ts 0)) k = f0 k := fun k a b => by unfold bgL; rw [pk_un b, pk_un a]
  refine ⟨fun k _ _ a b _ => ko k a b, ?_, fun _ => ⟨?_, ?_, by rw [e]⟩, fun z => by rw [e] at z; exact absurd h0 z, ko 98 (by omega) (by omega), WF_bgL hf hc (hTs 0 h0)⟩
  · rw [e]
    show kd _ c 1 &&& (kd _ c 2 ^^^ (-1)) = rt f0 c
    have z1 : kd (bgL f0 c (nI (tA ts 0))) c 1 = kd f0 c 1 := ko _ (by omega) (by omega)
    have z2 : kd (bgL f0 c (nI (tA ts 0))) c 2 = kd f0 c 2 := ko _ (by omega) (by omega)
    rw [z1, z2]; rfl
  · rw [e]
    unfold kd bgL; rw [pk_un (by omega), pk_us]
  · rw [e]
    have : kd (bgL f0 c (nI (tA ts 0))) c 7 = kd f0 c 4 := by unfold bgL; exact pk_us
    rw [this, h4s]
    congr 1
    omega
/-- cells but the pupil's number -/
def essP (p k : Nat) : Bool := ess p k && !(p == 27 && k == 34)
theorem rBy_v (hPB : ∀ ts : List Nat, ts.length ≤ 3 → (∀ j, j < ts.length → tA ts j < 9) → PB f0 nc ne B c s ts) (hL : ts.length ≤ 3) (hTs : ∀ j, j < ts.length → tA ts j < 9) (hn : n ≤ 24) (hc : c < nc) (h40 : ∀ j, j < ts.length → m1.1 40 j = nI (tA ts j)) (hcp : ∃ m3, f_X11_copy 38 39 m1 = some m3 ∧ TS nl ln V nc ne B m3 f0 ∧ Fr tS m1 m3) : ∃ m', f_X11_reignBy m1 (nI c) (nI n) (nI ts.length) = some (vR f0 nc ne c s ts n, m') ∧ m'.1 27 34 = -1 ∧ (∀ p k, essP p k = true → m'.1 p k = m1.1 p k) ∧ (∀ k, m'.1 40 k = m1.1 40 k) ∧ (∀ k, 40 ≤ k → k ≤ 42 → m'.1 27 k = m1.1 27 k) := by
  have hP := hPB ts hL hTs
  obtain ⟨m3, d1, d2, d3⟩ := hcp
  obtain ⟨hv, hs, hf, hl, h4, hi, hln, hp⟩ := d2
  have hc8 : c < 8 := by have := hf.1.2; omega
  let m4 : Sg := wr (wr (wr m3 27 34 (nI c)) 27 35 0) 27 36 (nI ts.length)
  have r27 : ∀ k, k ≠ 34 → k ≠ 35 → k ≠ 36 → m4.1 27 k = m3.1 27 k := by
    intro k a b c'
    show (wr (wr (wr m3 27 34 (nI c)) 27 35 0) 27 36 (nI ts.length)).1 27 k = _
    rw [wr_at, pk_un c', wr_at, pk_un b, wr_at, pk_un a]
  have rp : ∀ p, p ≠ 27 → m4.1 p = m3.1 p := by
    intro p a
    show (wr (wr (wr m3 27 34 (nI c)) 27 35 0) 27 36 (nI ts.length)).1 p = _
    rw [wr_ne a, wr_ne a, wr_ne a]
  have r34 : m4.1 27 34 = nI c := by
    show (wr (wr (wr m3 27 34 (nI c)) 27 35 0) 27 36 (nI ts.length)).1 27 34 = _
    rw [wr_at, pk_un (by decide), wr_at, pk_un (by decide), wr_at, pk_us]
  have r35 : m4.1 27 35 = 0 := by
    show (wr (wr (wr m3 27 34 (nI c)) 27 35 0) 27 36 (nI ts.length)).1 27 35 = _
    rw [wr_at, pk_un (by decide), wr_at, pk_us]
  have r36 : m4.1 27 36 = nI ts.length := by
    show (wr (wr (wr m3 27 34 (nI c)) 27 35 0) 27 36 (nI ts.length)).1 27 36 = _
    rw [wr_at, pk_us]
  have r40 : ∀ j, j < ts.length → m4.1 40 j = nI (tA ts j) := fun j hj => by rw [rp 40 (by decide), d3.1 40 j rfl, h40 j hj]
  have sv4 : SV m4 f0 nc ne := by
    unfold SV at hs ⊢
    rw [rp 32 (by decide), rp 34 (by decide), rp 36 (by decide), r27 24 (by decide) (by decide) (by decide), r27 25 (by decide) (by decide) (by decide)]
    exact hs
  have lr4 : LR nl ln V m4 := fun k hk => by rw [rp (46 + 3 * k) (by omega), rp 29 (by decide), rp 30 (by decide)]; exact hl k hk
  have i31 : isI (m4.1 27 31) nl := by rw [r27 31 (by decide) (by decide) (by decide)]; exact hi
  have ess4 : ∀ p k, essP p k = true → m4.1 p k = m1.1 p k := by
    intro p k hpk
    unfold essP at hpk
    simp only [Bool.and_eq_true, Bool.not_eq_true', Bool.and_eq_false_imp] at hpk
    have e1 : m3.1 p k = m1.1 p k := fr_ess (tS_scr d3) hpk.1
    by_cases z : p = 27
    · subst z
      have : k ≠ 34 := by intro y; subst y; simp at hpk
      have : k ≠ 35 ∧ k ≠ 36 := by
        constructor <;> · intro y; subst y; exact absurd hpk.1 (by decide)
      rw [r27 k (by omega) this.1 this.2, e1]
    · rw [rp p z, e1]
  have keep : ∀ (q m6 : Sg), (∀ p k, tS p k = false → q.1 p k = m4.1 p k) → Fr tS q m6 → (wr m6 27 34 (-1)).1 27 34 = -1 ∧ (∀ p k, essP p k = true → (wr m6 27 34 (-1)).1 p k = m1.1 p k) ∧ (∀ k, (wr m6 27 34 (-1)).1 40 k = m1.1 40 k) ∧ (∀ k, 40 ≤ k → k ≤ 42 → (wr m6 27 34 (-1)).1 27 k = m1.1 27 k) := by
    intro q m6 hq hfr
    have hall : ∀ p k, tS p k = false → m6.1 p k = m4.1 p k := fun p k h => by rw [hfr.1 p k h, hq p k h]
    refine ⟨by rw [wr_at, pk_us], fun p k hpk => ?_, fun k => ?_, fun k k1 k2 => ?_⟩
    · have hpk' := hpk
      unfold essP at hpk'
      simp only [Bool.and_eq_true, Bool.not_eq_true', Bool.and_eq_false_imp] at hpk'
      have htS : tS p k = false := by
        have : scr p k = false := by unfold scr; rw [hpk'.1]; rfl
        cases hh : tS p k
        · rfl
        · exfalso
          unfold tS at hh
          have he := hpk'.1
          unfold ess at he
          simp at hh
          rcases hh with (⟨h1, h2⟩ | h1) | h1
          · subst h1; simp at he; omega
          · subst h1; simp at he
          · subst h1; simp at he
      by_cases z : p = 27
      · subst z
        have : k ≠ 34 := by intro y; subst y; simp at hpk'
        rw [wr_at, pk_un this, hall 27 k htS, ess4 27 k hpk]
      · rw [wr_ne z, hall p k htS, ess4 p k hpk]
    · rw [wr_ne (by decide), hall 40 k rfl, rp 40 (by decide), d3.1 40 k rfl]
    · have htS : tS 27 k = false := by unfold tS; simp; omega
      rw [wr_at, pk_un (by omega), hall 27 k htS, r27 k (by omega) (by omega) (by omega), d3.1 27 k htS]
  unfold f_X11_reignBy
  rw [d1, calv_eq]
  simp only [bnd_eq]
  show ∃ m', (if nI ts.length ≤ 0 then cal (f_X11_reigns m4 (nI c) (nI n) 0) (fun x8 m7 => some (x8, wr m7 27 34 (-1))) else calv (f_X11_begins 39 m4 (nI c)) (fun m10 => cal (f_X11_reigns m10 (nI c) (nI n) 0) (fun x8 m7 => some (x8, wr m7 27 34 (-1))))) = some (vR f0 nc ne c s ts n, m') ∧ _
  by_cases z : ts.length = 0
  · have tp : TP nl ln V nc ne B m4 f0 c ts 0 := ⟨by rw [rp 39 (by decide)]; exact hv, sv4, hf, lr4, h4, i31, by rw [rp 39 (by decide)]; exact hln, r34, r35, r36, fun j hj => absurd hj (by omega), hL, by omega⟩
    obtain ⟨m6, x1, x2⟩ := mrgP hP tp (MI_0 hP z) hn
    rw [if_pos (by rw [z]; decide), x1, cal_eq]
    exact ⟨_, rfl, keep m4 m6 (fun _ _ _ => rfl) x2⟩
  · have b1 : f_X11_begins 39 m4 (nI c) = some (wr (wr (wr m4 39 (7 * c + 3) (nI (tA ts 0))) 39 (7 * c + 4) (kd f0 c 4)) 27 35 1) := by
      have g32 : ∀ z, (wr m4 39 (7 * c + 3) z).1 32 (6 * c + 4) = kd f0 c 4 := fun z => by rw [wr_ne (by decide)]; exact (sv4.1 c hc).2.1
      have g35 : ∀ z z2, (wr (wr m4 39 (7 * c + 3) z) 39 (7 * c + 4) z2).1 27 35 = 0 := fun z z2 => by rw [wr_ne (by decide), wr_ne (by decide), r35]
      have g40 : m4.1 40 0 = nI (tA ts 0) := r40 0 (by omega)
      simp only [f_X11_begins, r35, show inr 0 3 = true from rfl, ↓reduceIte, i7_3 hc8, t7_3 hc8, show (0 : Int32).toNatClampNeg = 0 from rfl, g40, bnd_eq, i6_4 hc8, t6_4 hc8, i7_4 hc8, t7_4 hc8, g32, g35]
      rfl
    let m5 : Sg := wr (wr (wr m4 39 (7 * c + 3) (nI (tA ts 0))) 39 (7 * c + 4) (kd f0 c 4)) 27 35 1
    have q39 : m5.1 39 = upd (upd (m4.1 39) (7 * c + 3) (nI (tA ts 0))) (7 * c + 4) (kd f0 c 4) := by
      show (wr (wr (wr m4 39 (7 * c + 3) (nI (tA ts 0))) 39 (7 * c + 4) (kd f0 c 4)) 27 35 1).1 39 = _
      rw [wr_ne (by decide), wr_at, wr_at]
    have qp : ∀ p, p ≠ 39 → p ≠ 27 → m5.1 p = m4.1 p := by
      intro p a b
      show (wr (wr (wr m4 39 (7 * c + 3) (nI (tA ts 0))) 39 (7 * c + 4) (kd f0 c 4)) 27 35 1).1 p = _
      rw [wr_ne b, wr_ne a, wr_ne a]
    have q27 : ∀ k, k ≠ 35 → m5.1 27 k = m4.1 27 k := by
      intro k a
      show (wr (wr (wr m4 39 (7 * c + 3) (nI (tA ts 0))) 39 (7 * c + 4) (kd f0 c 4)) 27 35 1).1 27 k = _
      rw [wr_at, pk_un a, wr_ne (by decide), wr_ne (by decide)]
    have q35 : m5.1 27 35 = nI 1 := by
      show (wr (wr (wr m4 39 (7 * c + 3) (nI (tA ts 0))) 39 (7 * c + 4) (kd f0 c 4)) 27 35 1).1 27 35 = _
      rw [wr_at, pk_us]; rfl
    have sv5 : SV m5 (bgL f0 c (nI (tA ts 0))) nc ne := by
      refine SV_st sv4 (StE_bgL hc8) hf.1.2 hf.2.1 (qp 32 (by decide) (by decide)) (qp 34 (by decide) (by decide)) (qp 36 (by decide) (by decide)) (q27 24 (by decide)) (q27 25 (by decide))
    have lr5 : LR nl ln V m5 := fun k hk => by rw [qp (46 + 3 * k) (by omega) (by omega), qp 29 (by decide) (by decide), qp 30 (by decide) (by decide)]; exact lr4 k hk
    have tp : TP nl ln V nc ne B m5 (bgL f0 c (nI (tA ts 0))) c ts 1 := by
      refine ⟨?_, sv5, WF_bgL hf hc (hTs 0 (by omega)), lr5, h4, by rw [q27 31 (by decide)]; exact i31, ?_, by rw [q27 34 (by decide)]; exact r34, q35, by rw [q27 36 (by decide)]; exact r36, fun j hj => ⟨by rw [qp 40 (by decide) (by decide)]; exact r40 j hj, hTs j hj⟩, hL, by omega⟩
      · rw [q39, rp 39 (by decide)]; exact CV_bgL hv hc8
      · obtain ⟨k, k1, k2⟩ := hln
        refine ⟨k, k1, ?_⟩
        rw [q39, pk_un (by omega), pk_un (by omega), rp 39 (by decide)]; exact k2
    obtain ⟨m6, x1, x2⟩ := mrgP hP tp (MI_1 hP (by omega)) hn
    rw [if_neg (nI_nle (by omega) (by omega)), b1, calv_eq]
    show ∃ m', cal (f_X11_reigns m5 (nI c) (nI n) 0) (fun x8 m7 => some (x8, wr m7 27 34 (-1))) = some (vR f0 nc ne c s ts n, m') ∧ _
    rw [x1, cal_eq]
    refine ⟨_, rfl, keep m5 m6 (fun p k hpk => ?_) x2⟩
    by_cases y : p = 27
    · subst y
      have : k ≠ 35 := by intro y; subst y; exact absurd hpk (by decide)
      exact q27 k this
    · by_cases y2 : p = 39
      · subst y2; exact absurd hpk (by simp [tS])
      · rw [qp p y2 y]
end
