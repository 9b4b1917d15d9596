/-! a month: both sides whole -/
section
variable {nl B B' : Nat} {ln : Nat → Nat} {V : Nat → (Nat → Int32) → Int32} {m m1 m2 m' : Sg} {j w u : Nat} {a a1 a2 a3 r s law x mo y tr fv : Int32} {f f' g g' lg lg' : Nat → Int32} {nc ne c e t M M' A nx n : Nat} {X : Int64} {N : Int64 → Int64} {D : Int64 → Int32}
/-- the county behind a month, before anything is paid -/
def mth (F : Nat → Int32) (nc ne : Nat) : Nat → Int32 := crn F (trW F 0 ne) nc
theorem SV_st2 (hs : SV m f nc ne) (hst : StE f f') (hn : nc ≤ 8) (hE : ne ≤ 4) : SV m f' nc ne := SV_st hs hst hn hE rfl rfl rfl rfl rfl
theorem mdlMonth (hD : DrM N D) (ha : a = 0 ∨ a = 1) (hw : w = 38 ∨ w = 39) (hv : CV (m.1 w) f) (hs : SV m f nc ne) (hf : WF f nc ne B) (hl : LR nl ln V m) (h4 : nl ≤ 4) (hi : isI (m.1 27 31) nl) (hlen : m.1 w 63 = nI n) (hn : n ≤ 60) (hp : m.1 27 34 = -1) :
    ∃ m' g', f_X11_goMonth w m a = some m' ∧ m'.1 w = wrG g' n (trW (fvR N D a (m.1 27 32) (bmo f nc ne) (m.2 27) nc).1 0 ne) (pdV V (m.1 27 31) (mth (fvR N D a (m.1 27 32) (bmo f nc ne) (m.2 27) nc).1 nc ne)) ∧ CV g' (mth (fvR N D a (m.1 27 32) (bmo f nc ne) (m.2 27) nc).1 nc ne) ∧ (∀ k, 63 ≤ k → g' k = m.1 w k) ∧ g' 62 = m.1 w 62 + pdV V (m.1 27 31) (mth (fvR N D a (m.1 27 32) (bmo f nc ne) (m.2 27) nc).1 nc ne) ∧ (∀ c, c < 8 → g' (7 * c + 6) = m.1 w (7 * c + 6) + if mth (fvR N D a (m.1 27 32) (bmo f nc ne) (m.2 27) nc).1 nc ne 98 = nI c then 1 else 0) ∧ m'.2 27 = (fvR N D a (m.1 27 32) (bmo f nc ne) (m.2 27) nc).2 := by
  have w27 : w ≠ 27 := by omega
  have hn8 := hf.1.2
  have hn4 := hf.2.1
  have hC := hs.2.2.2.2.2.1
  obtain ⟨g3, e3, c3, k3, r3⟩ := front_v (a1 := a) hw hv hs hf (fun c hc => by rw [hp]; exact n1e (by omega))
  have wne : w ≠ 27 ∧ w ≠ 32 ∧ w ≠ 34 ∧ w ≠ 36 := by omega
  have stb := StE_bmo (f := f) hn8 hn4
  have wfb := WF_bmo hf
  rcases ha with h | h
  · subst h
    have e0 : ∀ fv x, fvR N D 0 fv (bmo f nc ne) x nc = (bmo f nc ne, x) := fun _ _ => if_pos rfl
    rw [e0]
    have h27 : (wrr m w g3).1 27 31 = m.1 27 31 := by rw [wrr_ne w27.symm]
    obtain ⟨m', g', p1, p2, p3, p4, p5, p6, p7, _⟩ := gmB_v (m := wrr m w g3) (f := bmo f nc ne) (n := n) hw (by rw [wrr_at]; exact c3) (SV_st2 (SV_row wne hs) stb hn8 hn4) wfb (LR_row hw hl) h4 (by rw [h27]; exact hi) (by rw [wrr_at, k3 63 (by decide)]; exact hlen) hn
    rw [h27, wrr_at] at *
    have eq : f_X11_goMonth w m 0 = some m' := by rw [e3, L123_0 (by rw [wrr_ne w27.symm]; exact hC) hn8, p1]
    exact ⟨m', g', eq, p2, p3, fun k hk => by rw [p4 k hk, k3 k (by omega)], by rw [p5, k3 62 (by decide)]; rfl, fun c hc => by rw [p6 c hc, r3 c hc]; rfl, p7⟩
  · subst h
    have e0 : ∀ fv x, fvR N D 1 fv (bmo f nc ne) x nc = itr (fvS N D fv) (bmo f nc ne, x) nc := fun _ _ => if_neg n10
    have wff : WF (fvR N D 1 (m.1 27 32) (bmo f nc ne) (m.2 27) nc).1 nc ne (B + 1) := WF_fvR wfb
    have stf : StE (bmo f nc ne) (fvR N D 1 (m.1 27 32) (bmo f nc ne) (m.2 27) nc).1 := StE_fvR hn8
    rw [e0] at wff stf ⊢
    obtain ⟨m4, q1, g4, q2, q3, q4⟩ := L123_1 (m := wrr m w g3) (f := bmo f nc ne) (fv := m.1 27 32) hD hw (by rw [wrr_at]; exact c3) (by rw [wrr_ne w27.symm]; exact hC) hn8 (by rw [wrr_ne w27.symm])
    have x2 : (wrr m w g3).2 = m.2 := rfl
    rw [x2, wrr_wrr] at q2
    rw [x2] at q3
    rw [wrr_at] at q4
    generalize itr (fvS N D (m.1 27 32)) (bmo f nc ne, m.2 27) nc = P at *
    subst q2
    have h27 : (wrl (wrr m w g4) 27 P.2).1 27 31 = m.1 27 31 := by rw [wrl_1, wrr_ne w27.symm]
    have hs4 : SV (wrl (wrr m w g4) 27 P.2) P.1 nc ne := SV_st2 (m := wrl (wrr m w g4) 27 P.2) (f := bmo f nc ne) (SV_st2 (m := wrl (wrr m w g4) 27 P.2) (f := f) (SV_row wne hs) stb hn8 hn4) stf hn8 hn4
    obtain ⟨m', g', p1, p2, p3, p4, p5, p6, p7, _⟩ := gmB_v (m := wrl (wrr m w g4) 27 P.2) (f := P.1) (n := n) hw (by rw [wrl_1, wrr_at]; exact q3) hs4 wff (show LR nl ln V (wrr m w g4) from LR_row hw hl) h4 (by rw [h27]; exact hi) (by rw [wrl_1, wrr_at, q4 63 (by omega), k3 63 (by decide)]; exact hlen) hn
    rw [h27, wrl_1, wrr_at] at *
    have eq : f_X11_goMonth w m 1 = some m' := by rw [e3, lpk_of q1, p1]
    exact ⟨m', g', eq, p2, p3, fun k hk => by rw [p4 k hk, q4 k (by omega), k3 k (by omega)], by rw [p5, q4 62 (by omega), k3 62 (by decide)]; rfl, fun c hc => by rw [p6 c hc, q4 _ (by omega), r3 c hc]; rfl, by rw [p7, wrl_2]⟩
/-- the component's month behind its beginning -/
def lmT (nl : Nat) (ln : Nat → Nat) (m3 : Sg) : Option Sg := cal (f_X0_trier 4 m3) (fun x6 m5 => calv (f_X0_crown 4 m5 x6) (fun m7 => cal (f_X0_ruler 4 m7) (fun x9 m8 => bnd (fun ((m10, x11) : Sg × Int32) => calv (f_X0_reignAndTake 4 m10 x11) (fun m13 => calv (f_X7_write m13 x6 x11) (fun m14 => some m14))) (fun (k12 : Sg × Int32 → Option (Sg)) =>
  (if x9 = (-1) then k12 (m8, 0) else
  cal (f_X0_ruler 4 m8) (fun x16 m15 => cal (f_X5_holding m15) (fun x18 m17 => cal (f_X5_taxOf nl ln 4 m17 x16 x18) (fun x20 m19 => k12 (m19, x20)))))))))
theorem live_eq : f_X10_liveMonth nl ln m a1 = calv (f_X7_remember m) (fun m1 => calv (f_X0_beginMonth 4 m1) (fun m2 => (if a1 = 0 then lmT nl ln m2 else calv (f_X10_spreadFever m2) (fun m21 => lmT nl ln m21)))) := rfl
/-- the log's row of a month -/
def lgR (lg : Nat → Int32) (M : Nat) (r tr p : Int32) : Nat → Int32 := upd (upd (upd lg (M % 100 * 3) r) (M % 100 * 3 + 1) tr) (M % 100 * 3 + 2) p
theorem write_v (hM : m.1 4 97 = nI M) (hb : M < 2 ^ 30) : f_X7_write m a1 a2 = some (wrr m 18 (lgR (m.1 18) M (m.1 4 98) a1 a2)) := by
  have e1 : (nI M - nI M / 100 * 100) * 3 = nI (M % 100 * 3) := by
    rw [show (100 : Int32) = nI 100 from rfl, pk_rem (by omega) (by decide) (by decide), show (3 : Int32) = nI 3 from rfl, pk_mul]
  have hq : M % 100 < 100 := Nat.mod_lt _ (by decide)
  have e2 : nI (M % 100 * 3) + 2 = nI (M % 100 * 3 + 2) := nI_add _ 2
  simp only [f_X7_write, cell97, hM, f_X7_rowOf, cal_eq, e1, if_neg (nI_pos (show M % 100 * 3 < 2 ^ 31 by omega)), if_neg (show ¬ ((300 : Int32) - 3) < nI (M % 100 * 3) from nI_nlt (a := 297) (b := M % 100 * 3) (by omega) (by decide)), f_X0_ruler, nI_1, e2, in_nI (show M % 100 * 3 < 300 by omega) (show 300 < 2 ^ 31 by decide), in_nI (show M % 100 * 3 + 1 < 300 by omega) (show 300 < 2 ^ 31 by decide), in_nI (show M % 100 * 3 + 2 < 300 by omega) (show 300 < 2 ^ 31 by decide), ↓reduceIte, bnd_eq, nI_clamp (show M % 100 * 3 < 2 ^ 31 by omega), nI_clamp (show M % 100 * 3 + 1 < 2 ^ 31 by omega), nI_clamp (show M % 100 * 3 + 2 < 2 ^ 31 by omega)]
  rw [wr_wrr m, wr_wr, wr_wr]
  rfl
theorem rgT_hi (hr : isI (f 98) 8) {k : Nat} (hk : 80 ≤ k) (h9 : k ≠ 99) : rgT f x k = f k := by
  unfold rgT
  split
  · exact pk_un h9
  · rcases hr with h | ⟨c, hc, h⟩
    · next q => exact absurd h q
    · rw [h, nI_clamp (by omega), pk_un h9, pk_un (by omega)]
/-- what the component's month may change -/
def cS (p k : Nat) : Bool := p == 0 && k == 1000000 || p == 4 || p == 15 || p == 16 && (k == 4 || k == 5) || p == 17 || p == 18 || (decide (45 ≤ p) && !(p % 3 == 1))
theorem Fr_mono {S T : Nat → Nat → Bool} (h : ∀ p k, T p k = false → S p k = false) (k : Fr S m m') : Fr T m m' := ⟨fun p q hq => k.1 p q (h p q hq), fun p hp => k.2 p (h p 1000000 hp)⟩
theorem lmT_v (hf : WF (m.1 4) nc ne B) (hl : LR nl ln V m) (h4 : nl ≤ 4) (hi : isI (m.1 13 3) nl) (hM : m.1 4 97 = nI M) (hb : M < 2 ^ 30) : ∃ m', lmT nl ln m = some m' ∧ m'.1 4 = rgT (mth (m.1 4) nc ne) (pdV V (m.1 13 3) (mth (m.1 4) nc ne)) ∧ m'.1 18 = lgR (m.1 18) M (mth (m.1 4) nc ne 98) (trW (m.1 4) 0 ne) (pdV V (m.1 13 3) (mth (m.1 4) nc ne)) ∧ Fr (fun p _ => p == 4 || p == 15 || p == 18 || (decide (45 ≤ p) && !(p % 3 == 1))) m m' := by
  have hn8 := hf.1.2
  have hn4 := hf.2.1
  have wf2 : WF (mth (m.1 4) nc ne) nc ne B := WF_crn hf
  have r2I : isI (mth (m.1 4) nc ne 98) nc := wf2.2.2.2.2.2.2.2.2.2.2
  have r2I8 := isI_mono r2I hn8
  have m97 : mth (m.1 4) nc ne 97 = nI M := by unfold mth crn; rw [pk_un (by decide), hM]
  have trI : isI (trW (m.1 4) 0 ne) 4 := isI_mono trW_I hn4
  have hcr : f_X0_crown 4 m (trW (m.1 4) 0 ne) = some (wrr m 4 (mth (m.1 4) nc ne)) := crown_v hf.2.2.1 hn8 trI (isI_mono hf.2.2.2.2.2.2.2.2.2.2 hn8)
  have fin : ∀ (m1 : Sg) (pd : Int32), m1.1 4 = mth (m.1 4) nc ne → m1.1 18 = m.1 18 → pd = pdV V (m.1 13 3) (mth (m.1 4) nc ne) → Fr (fun p _ => p == 4 || p == 15 || p == 18 || (decide (45 ≤ p) && !(p % 3 == 1))) m m1 → ∃ m', calv (f_X0_reignAndTake 4 m1 pd) (fun m13 => calv (f_X7_write m13 (trW (m.1 4) 0 ne) pd) (fun m14 => some m14)) = some m' ∧ m'.1 4 = rgT (mth (m.1 4) nc ne) (pdV V (m.1 13 3) (mth (m.1 4) nc ne)) ∧ m'.1 18 = lgR (m.1 18) M (mth (m.1 4) nc ne 98) (trW (m.1 4) 0 ne) (pdV V (m.1 13 3) (mth (m.1 4) nc ne)) ∧ Fr (fun p _ => p == 4 || p == 15 || p == 18 || (decide (45 ≤ p) && !(p % 3 == 1))) m m' := by
    intro m1 pd e4 e18 hpd fr
    have e97 : (wrr m1 4 (rgT (m1.1 4) pd)).1 4 97 = nI M := by rw [wrr_at, e4, rgT_hi r2I8 (by decide) (by decide), m97]
    have e98 : (wrr m1 4 (rgT (m1.1 4) pd)).1 4 98 = mth (m.1 4) nc ne 98 := by rw [wrr_at, e4, rgT_hi r2I8 (by decide) (by decide)]
    rw [reignAndTake_v (by rw [e4]; exact r2I8), calv_eq, write_v e97 hb, calv_eq, e98]
    refine ⟨_, rfl, ?_, ?_, (fr.tr (Fr.w2 (fun _ => rfl))).tr (Fr.w2 (fun _ => rfl))⟩
    · rw [wrr_ne (by decide), wrr_at, e4, hpd]
    · rw [wrr_at, wrr_ne (by decide), e18, hpd]
  unfold lmT
  rw [trier_v hf.2.2.2.1 hn4, cal_eq, hcr, calv_eq]
  simp only [f_X0_ruler, cal_eq, bnd_eq, wrr_at, f_X5_holding]
  have fr0 : Fr (fun p _ => p == 4 || p == 15 || p == 18 || (decide (45 ≤ p) && !(p % 3 == 1))) m (wrr m 4 (mth (m.1 4) nc ne)) := Fr.w2 (fun _ => rfl)
  rcases r2I with h | ⟨c, hc, h⟩
  · rw [if_pos h]
    exact fin _ 0 wrr_at (wrr_ne (by decide)) (by unfold pdV; rw [if_pos h]) fr0
  · have hc8 : c < 8 := by omega
    have c1 : ¬ nI c = -1 := n1e (by omega)
    rw [h] at fin
    rw [h, if_neg c1, wrr_ne (show 13 ≠ 4 by decide)]
    have lr : LR nl ln V (wrr m 4 (mth (m.1 4) nc ne)) := by
      intro k hk
      rw [wrr_ne (by omega), wrr_ne (by omega), wrr_ne (by omega)]
      exact hl k hk
    obtain ⟨m3, e3⟩ := taxOf_v (j := 4) (law := m.1 13 3) lr h4 hi (by decide) hc8
    have f3 : Fr (fun p _ => p == 15 || (decide (45 ≤ p) && !(p % 3 == 1))) (wrr m 4 (mth (m.1 4) nc ne)) m3 := fr_X5_taxOf (S := fun p _ => p == 15 || (decide (45 ≤ p) && !(p % 3 == 1))) (fun _ => rfl) (fun p k h1 h2 => by simp [h1, h2]) e3
    rw [wrr_at] at e3
    rw [e3]
    simp only [cal_eq]
    refine fin m3 _ ?_ ?_ ?_ (fr0.tr (Fr_mono (fun p k hp => by simp at hp ⊢; exact ⟨hp.1.1.2, hp.2⟩) f3))
    · rw [← wrr_at (m := m) (j := 4) (f := mth (m.1 4) nc ne)]
      exact funext fun k => f3.1 4 k rfl
    · rw [← wrr_ne (m := m) (j := 4) (p := 18) (f := mth (m.1 4) nc ne) (by decide)]
      exact funext fun k => f3.1 18 k rfl
    · unfold pdV; rw [h, if_neg c1, nI_clamp (by omega)]
theorem spf_s (hD : DrC N D) (hC : m.1 4 95 = nI nc) (hn : nc ≤ 8) (hi : n < nc) {f : Nat → Int32} (h95 : f 95 = nI nc) : f_X10_spreadFever_L2 (wrl (wrr m 4 f) 0 X, nI n) = some (.inr (wrl (wrr m 4 (fvS N D (m.1 0 9) n (f, X)).1) 0 (fvS N D (m.1 0 9) n (f, X)).2, nI (n + 1))) := by
  have hi8 : n < 8 := by omega
  have e1 : ∀ q : Sg, f_X0_setBit 4 q (nI n) 1 7 0 = some (wk q 4 n 1 (kd (q.1 4) n 1 &&& (-129))) := fun q => setBit_v (t := 7) (v := 0) (x := 1) (w := 1) rfl hi8 (by decide)
  simp only [f_X10_spreadFever_L2, f_X0_children, cal_eq, wrl_1, wrr_at, h95, if_neg (ix_lt hi (show nc < 2 ^ 31 by omega)), hD (wrl (wrr m 4 f) 0 X), wrl_2, wrl_wrl, bnd_eq, wrr_ne (show 0 ≠ 4 by decide), e1, calv_eq, nI_1, fvS]
  split
  · rfl
  · show some (Sum.inr (wk (wrl (wrr m 4 f) 0 (N X)) 4 n 1 (kd f n 1 &&& (-129)), nI (n + 1))) = _
    unfold wk
    rw [wr_wrl, wr_wr]
theorem spf_v (hD : DrC N D) (hC : m.1 4 95 = nI nc) (hn : nc ≤ 8) : f_X10_spreadFever m = some (wrl (wrr m 4 (itr (fvS N D (m.1 0 9)) (m.1 4, m.2 0) nc).1) 0 (itr (fvS N D (m.1 0 9)) (m.1 4, m.2 0) nc).2) := by
  unfold f_X10_spreadFever
  have e0 : (m, (0 : Int32)) = (fun i => (wrl (wrr m 4 (itr (fvS N D (m.1 0 9)) (m.1 4, m.2 0) i).1) 0 (itr (fvS N D (m.1 0 9)) (m.1 4, m.2 0) i).2, nI i)) 0 := by
    show (m, (0 : Int32)) = (wrl (wrr m 4 (m.1 4)) 0 (m.2 0), nI 0)
    rw [wrr_id, wrl_id]; rfl
  rw [e0, lpk_seq (S := fun i => (wrl (wrr m 4 (itr (fvS N D (m.1 0 9)) (m.1 4, m.2 0) i).1) 0 (itr (fvS N D (m.1 0 9)) (m.1 4, m.2 0) i).2, nI i)) (x := wrl (wrr m 4 (itr (fvS N D (m.1 0 9)) (m.1 4, m.2 0) nc).1) 0 (itr (fvS N D (m.1 0 9)) (m.1 4, m.2 0) nc).2) nc ?_ ?_ (by omega)]
  · intro i hi
    have h95 : (itr (fvS N D (m.1 0 9)) (m.1 4, m.2 0) i).1 95 = nI nc := by rw [fvs_o (by omega) i (by omega), hC]
    rw [itr_s]
    generalize itr (fvS N D (m.1 0 9)) (m.1 4, m.2 0) i = P at *
    exact spf_s hD hC hn hi h95
  · have h95 : (itr (fvS N D (m.1 0 9)) (m.1 4, m.2 0) nc).1 95 = nI nc := by rw [fvs_o (by omega) nc hn, hC]
    generalize itr (fvS N D (m.1 0 9)) (m.1 4, m.2 0) nc = P at *
    simp only [f_X10_spreadFever_L2, f_X0_children, cal_eq, wrl_1, wrr_at, h95, if_pos (nI_le (Nat.le_refl nc) (show nc < 2 ^ 31 by omega))]
theorem clsMonth (hD : DrC N D) (ha : a = 0 ∨ a = 1) (hf : WF (m.1 4) nc ne B) (hB : B ≤ 50000) (hl : LR nl ln V m) (h4 : nl ≤ 4) (hi : isI (m.1 13 3) nl) (h16 : m.1 16 4 = nI nx) (h165 : m.1 16 5 = nI A) (hx : nx < 40) (hA : A ≤ 40) (hM : m.1 4 97 = nI M) (hMB : M ≤ B) :
    ∃ m', f_X10_liveMonth nl ln m a = some m' ∧ m'.1 4 = rgT (mth (fvR N D a (m.1 0 9) (bmo (m.1 4) nc ne) (m.2 0) nc).1 nc ne) (pdV V (m.1 13 3) (mth (fvR N D a (m.1 0 9) (bmo (m.1 4) nc ne) (m.2 0) nc).1 nc ne)) ∧ m'.1 18 = lgR (m.1 18) (M + 1) (mth (fvR N D a (m.1 0 9) (bmo (m.1 4) nc ne) (m.2 0) nc).1 nc ne 98) (trW (fvR N D a (m.1 0 9) (bmo (m.1 4) nc ne) (m.2 0) nc).1 0 ne) (pdV V (m.1 13 3) (mth (fvR N D a (m.1 0 9) (bmo (m.1 4) nc ne) (m.2 0) nc).1 nc ne)) ∧ m'.1 17 = va_cpy (m.1 4) (m.1 17) 0 (100 * nx) 100 ∧ m'.1 16 4 = nI ((nx + 1) % 40) ∧ m'.1 16 5 = nI (mn (A + 1) 40) ∧ m'.2 0 = (fvR N D a (m.1 0 9) (bmo (m.1 4) nc ne) (m.2 0) nc).2 ∧ Fr cS m m' := by
  have hn8 := hf.1.2
  have hn4 := hf.2.1
  have r4 : (rmC m nx A).1 4 = m.1 4 := rmC_p (by decide) (by decide)
  have hbm : f_X0_beginMonth 4 (rmC m nx A) = some (wrr (rmC m nx A) 4 (bmo (m.1 4) nc ne)) := by
    rw [beginMonth_v (by rw [r4]; exact hf.2.2.1) hn8 (by rw [r4]; exact hf.2.2.2.1) hn4, r4]
  let P := fvR N D a (m.1 0 9) (bmo (m.1 4) nc ne) (m.2 0) nc
  have eP : (if a = 0 then lmT nl ln (wrr (rmC m nx A) 4 (bmo (m.1 4) nc ne)) else calv (f_X10_spreadFever (wrr (rmC m nx A) 4 (bmo (m.1 4) nc ne))) (fun m21 => lmT nl ln m21)) = lmT nl ln (wrl (wrr (rmC m nx A) 4 P.1) 0 P.2) := by
    have l0 : (rmC m nx A).2 = m.2 := rfl
    rcases ha with h | h
    · subst h
      rw [if_pos rfl]
      have : P = (bmo (m.1 4) nc ne, m.2 0) := if_pos rfl
      rw [this]
      dsimp only
      rw [show wrl (wrr (rmC m nx A) 4 (bmo (m.1 4) nc ne)) 0 (m.2 0) = wrr (rmC m nx A) 4 (bmo (m.1 4) nc ne) from wrl_id (m := wrr (rmC m nx A) 4 (bmo (m.1 4) nc ne)) (p := 0)]
    · subst h
      rw [if_neg n10, spf_v hD (by rw [wrr_at, (WF_bmo hf).2.2.1]) hn8, calv_eq, wrr_at, wrr_ne (show 0 ≠ 4 by decide), rmC_p (show 0 ≠ 16 by decide) (show 0 ≠ 17 by decide), wrr_wrr]
      have : P = itr (fvS N D (m.1 0 9)) (bmo (m.1 4) nc ne, m.2 0) nc := if_neg n10
      rw [this]; rfl
  have wfP : WF P.1 nc ne (B + 1) := WF_fvR (WF_bmo hf)
  have P97 : P.1 97 = nI (M + 1) := by
    show (fvR N D a (m.1 0 9) (bmo (m.1 4) nc ne) (m.2 0) nc).1 97 = _
    rw [fvR_o (by omega) hn8, bmo_97 hn8 hn4, hM, nI_1]
  show ∃ m', f_X10_liveMonth nl ln m a = some m' ∧ m'.1 4 = rgT (mth P.1 nc ne) (pdV V (m.1 13 3) (mth P.1 nc ne)) ∧ m'.1 18 = lgR (m.1 18) (M + 1) (mth P.1 nc ne 98) (trW P.1 0 ne) (pdV V (m.1 13 3) (mth P.1 nc ne)) ∧ m'.1 17 = va_cpy (m.1 4) (m.1 17) 0 (100 * nx) 100 ∧ m'.1 16 4 = nI ((nx + 1) % 40) ∧ m'.1 16 5 = nI (mn (A + 1) 40) ∧ m'.2 0 = P.2 ∧ Fr cS m m'
  generalize P = Q at *
  let m3 : Sg := wrl (wrr (rmC m nx A) 4 Q.1) 0 Q.2
  have q : ∀ p, p ≠ 4 → p ≠ 16 → p ≠ 17 → m3.1 p = m.1 p := by
    intro p h4 h16 h17
    show (wrr (rmC m nx A) 4 Q.1).1 p = _
    rw [wrr_ne h4, rmC_p h16 h17]
  have q4 : m3.1 4 = Q.1 := by
    show (wrr (rmC m nx A) 4 Q.1).1 4 = _
    exact wrr_at
  have lr : LR nl ln V m3 := by
    intro k hk
    rw [q (46 + 3 * k) (by omega) (by omega) (by omega), q 29 (by decide) (by decide) (by decide), q 30 (by decide) (by decide) (by decide)]
    exact hl k hk
  have e13 : m3.1 13 = m.1 13 := q 13 (by decide) (by decide) (by decide)
  obtain ⟨m', p1, p2, p3, p4⟩ := lmT_v (m := m3) (nc := nc) (ne := ne) (B := B + 1) (M := M + 1) (by rw [q4]; exact wfP) lr h4 (by rw [e13]; exact hi) (by rw [q4]; exact P97) (by omega)
  rw [q4, e13] at p2 p3
  rw [q 18 (by decide) (by decide) (by decide)] at p3
  refine ⟨m', ?_, p2, p3, ?_, ?_, ?_, ?_, ?_⟩
  · rw [live_eq, remC_v h16 h165 hx hA, calv_eq, hbm, calv_eq, eP, p1]
  · have : m'.1 17 = m3.1 17 := funext fun k => p4.1 17 k rfl
    rw [this]
    show (wrr (rmC m nx A) 4 Q.1).1 17 = _
    rw [wrr_ne (by decide), rmC_17]
  · rw [p4.1 16 4 rfl]
    show (wrr (rmC m nx A) 4 Q.1).1 16 4 = _
    rw [wrr_ne (by decide), rmC_16, if_neg (by decide), if_pos rfl]
  · rw [p4.1 16 5 rfl]
    show (wrr (rmC m nx A) 4 Q.1).1 16 5 = _
    rw [wrr_ne (by decide), rmC_16, if_pos rfl]
  · rw [p4.2 0 rfl]
    exact wrl_2
  · have f1 : Fr cS m (rmC m nx A) := by
      unfold rmC
      exact ((Fr.w2 (fun _ => rfl)).tr (Fr.w1 rfl)).tr (Fr.w1 rfl)
    have f2 : Fr cS (rmC m nx A) m3 := (Fr.w2 (S := cS) (p := 4) (fun _ => rfl)).tr (Fr.w3 rfl)
    refine (f1.tr f2).tr (Fr_mono (fun p k hp => ?_) p4)
    unfold cS at hp
    simp at hp ⊢
    omega
end
