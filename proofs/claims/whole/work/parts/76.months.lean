/-! months and fevers: both do alike -/
section
variable {nl B B' : Nat} {ln : Nat → Nat} {V : Nat → (Nat → Int32) → Int32} {m m1 m2 m' C C' S : Sg} {j w u : Nat} {a a1 a2 a3 r s law x mo y tr fv : Int32} {f f' g g' lg lg' : Nat → Int32} {nc ne c e t M M' A nx n : Nat} {X : Int64} {N : Int64 → Int64} {D : Int64 → Int32}
def itO {α : Type} (f : α → Option α) : Nat → α → Option α
  | 0, s => some s
  | n + 1, s => (itO f n s).bind f
theorem itO_pre {α : Type} {f : α → Option α} {s t : α} : ∀ (k i : Nat), itO f (i + k) s = some t → ∃ q, itO f i s = some q
  | 0, i, h => ⟨t, h⟩
  | k + 1, i, h => by
    have h' : (itO f (i + k) s).bind f = some t := h
    cases hq : itO f (i + k) s with
    | none => rw [hq] at h'; cases h'
    | some q => exact itO_pre k i hq
theorem lpk_it {f : Sg → Option Sg} {step : Sg × Int32 → Option (Sg ⊕ (Sg × Int32))} {ρ : Type} {K : Sg → Option ρ} (h1 : ∀ q i, i < n → step (q, nI i) = calv (f q) (fun q' => some (.inr (q', nI (i + 1))))) (h2 : ∀ q, step (q, nI n) = some (.inl q)) (hn : n < 1000000) (h : itO f n m = some m') : lpk step (m, 0) K = K m' := by
  have e0 : (m, (0 : Int32)) = (fun i => ((itO f i m).getD m, nI i)) 0 := rfl
  rw [e0, lpk_seq (S := fun i => ((itO f i m).getD m, nI i)) (x := m') n ?_ ?_ hn]
  · intro i hi
    obtain ⟨q1, e1⟩ := itO_pre (n - i) i (by rw [show i + (n - i) = n by omega]; exact h)
    obtain ⟨q2, e2⟩ := itO_pre (n - (i + 1)) (i + 1) (by rw [show i + 1 + (n - (i + 1)) = n by omega]; exact h)
    have e3 : f q1 = some q2 := by
      have : (itO f i m).bind f = some q2 := e2
      rw [e1] at this
      exact this
    simp only [e1, e2, Option.getD_some]
    rw [h1 q1 i hi, e3]; rfl
  · simp only [h, Option.getD_some]
    exact h2 m'
/-- component's places of one, model's of the other -/
def mg (C M : Sg) : Sg := (fun p => if 27 ≤ p ∧ p < 45 then M.1 p else C.1 p, fun p => if p = 27 then M.2 27 else C.2 p)
theorem mg_c {p : Nat} (h : p < 27 ∨ 45 ≤ p) : (mg C m).1 p = C.1 p := if_neg (by omega)
theorem mg_m {p : Nat} (h : 27 ≤ p) (h2 : p < 45) : (mg C m).1 p = m.1 p := if_pos ⟨h, h2⟩
def AgC (S C : Sg) : Prop := (∀ p, p < 27 → C.1 p = S.1 p) ∧ (∀ k, C.1 (46 + 3 * k) = S.1 (46 + 3 * k)) ∧ C.1 29 = S.1 29 ∧ C.1 30 = S.1 30 ∧ ∀ p, p ≠ 27 → C.2 p = S.2 p
def AgM (a : Int32) (S M : Sg) : Prop := (∀ p, 27 < p → p < 45 → M.1 p = S.1 p) ∧ (∀ k, k ≠ 0 → M.1 27 k = S.1 27 k) ∧ (∀ k, M.1 (46 + 3 * k) = S.1 (46 + 3 * k)) ∧ (a = 1 → M.2 27 = S.2 27)
/-- what the model's month may change -/
def mS (p k : Nat) : Bool := p == 27 && (k == 5 || k == 8 || k == 9 || k == 10 || k == 11 || k == 12 || k == 13 || k == 14 || k == 17 || k == 35 || k == 39 || k == 1000000) || p == 31 || p == 38 || p == 41
theorem cnt_v : ∃ k, k ≤ 9 ∧ cnt f c = nI (10 * k) := by
  unfold cnt lowT
  have hx : ∀ x : Int32, ∀ k i, i + k ≤ 9 → scn (fun t => if b0 x t then none else some (nI t)) i k = none ∨ ∃ t, t < 9 ∧ scn (fun t => if b0 x t then none else some (nI t)) i k = some (nI t) := by
    intro x k
    induction k with
    | zero => intro i h; exact Or.inl rfl
    | succ k ih =>
      intro i hk
      rw [scn]
      by_cases q : b0 x i
      · simp only [if_pos q]; exact ih (i + 1) (by omega)
      · simp only [if_neg q]; exact Or.inr ⟨i, by omega, rfl⟩
  rcases hx (rt f c ^^^ (-1)) 9 0 (by decide) with h | ⟨t, t1, h⟩
  · rw [h]; exact ⟨9, by decide, rfl⟩
  · rw [h, Option.getD_some, if_neg (n1e t1)]
    exact ⟨t, by omega, by rw [show (10 : Int32) = nI 10 from rfl, pk_mul]⟩
theorem clt_v {v : Int32} (hn : n < 2 ^ 31) : ∃ p, p ≤ n ∧ clt v (nI n) = nI p := by
  unfold clt
  by_cases h2 : v < nI n
  · rw [if_pos h2]
    by_cases h : (0 : Int32) < v
    · rw [if_pos h]
      obtain ⟨j, j1, j2⟩ := nI_of (x := v) (fun z => by
        rw [Int32.lt_iff_toInt_lt] at h z
        omega)
      rw [j2] at h2
      exact ⟨j, Nat.le_of_lt ((nI_ltI j1 hn).mp h2), j2⟩
    · rw [if_neg h]; exact ⟨0, Nat.zero_le n, rfl⟩
  · rw [if_neg h2]
    by_cases h : (0 : Int32) < nI n
    · rw [if_pos h]; exact ⟨n, Nat.le_refl n, rfl⟩
    · rw [if_neg h]; exact ⟨0, Nat.zero_le n, rfl⟩
theorem pdV_v : ∃ p, p ≤ 90 ∧ pdV V law f = nI p := by
  unfold pdV
  split
  · exact ⟨0, by decide, rfl⟩
  · obtain ⟨k, k1, k2⟩ := cnt_v (f := f) (c := (f 98).toNatClampNeg)
    unfold taxV
    rw [k2]
    split
    · exact ⟨10 * k, by omega, rfl⟩
    · obtain ⟨p, p1, p2⟩ := clt_v (v := V law.toNatClampNeg (ltC f (f 98).toNatClampNeg)) (show 10 * k < 2 ^ 31 by omega)
      exact ⟨p, by omega, p2⟩
theorem rgT_o (hr : isI (f 98) 8) {k : Nat} (h9 : k ≠ 99) (h : ∀ c, c < 8 → k ≠ 10 * c + 9) : rgT f x k = f k := by
  unfold rgT
  split
  · exact pk_un h9
  · rcases hr with q | ⟨c, hc, q⟩
    · next z => exact absurd q z
    · rw [q, nI_clamp (by omega), pk_un h9, pk_un (h c hc)]
theorem rgT_99 (hr : isI (f 98) 8) : rgT f x 99 = f 99 + x := by
  unfold rgT
  split
  · exact pk_us
  · exact pk_us
theorem rgT_9 (hr : isI (f 98) 8) (hc : c < 8) : kd (rgT f x) c 9 = kd f c 9 + if f 98 = nI c then 1 else 0 := by
  unfold rgT
  rcases hr with q | ⟨d, hd, q⟩
  · rw [if_pos q, q, if_neg (fun z => n1e (show c < 9 by omega) z.symm), Int32.add_zero]
    exact pk_un (by omega)
  · rw [q, if_neg (n1e (by omega)), nI_clamp (by omega)]
    unfold kd
    rw [pk_un (by omega)]
    by_cases z : c = d
    · subst z; rw [pk_us, if_pos rfl]
    · rw [pk_un (by omega), if_neg (fun y => z ((nI_eq (a := d) (b := c) (by omega) (by omega)).mp y).symm), Int32.add_zero]
theorem WF_rgT (hf : WF f nc ne B) : WF (rgT f x) nc ne B := by
  have hr : isI (f 98) 8 := isI_mono hf.2.2.2.2.2.2.2.2.2.2 hf.1.2
  obtain ⟨h1, h2, h3, h4, h5, h6, h7, h8, h9, h10, h11⟩ := hf
  have o : ∀ k, k ≠ 99 → (∀ c, c < 8 → k ≠ 10 * c + 9) → rgT f x k = f k := fun k a b => rgT_o hr a b
  have kw : ∀ c w, c < 8 → w < 9 → kd (rgT f x) c w = kd f c w := fun c w hc hw => o _ (by omega) (fun q _ => by omega)
  refine ⟨h1, h2, ?_, ?_, ?_, ?_, ?_, ?_, ?_, ?_, ?_⟩
  · rw [o 95 (by decide) (fun q _ => by omega)]; exact h3
  · rw [o 96 (by decide) (fun q _ => by omega)]; exact h4
  · intro c hc
    have := h5 c hc
    have hc8 : c < 8 := by omega
    unfold wfC at this ⊢
    rw [kw c 0 hc8 (by decide), kw c 1 hc8 (by decide), kw c 2 hc8 (by decide), kw c 3 hc8 (by decide), kw c 4 hc8 (by decide), kw c 5 hc8 (by decide), kw c 6 hc8 (by decide), kw c 7 hc8 (by decide), kw c 8 hc8 (by decide)]
    exact this
  · intro e he
    have := h6 e he
    unfold wfE at this ⊢
    have o1 : ∀ w, w < 3 → od (rgT f x) e w = od f e w := fun w hw => o _ (by omega) (fun q _ => by omega)
    rw [o1 1 (by decide), o1 2 (by decide)]
    exact this
  · rw [o 92 (by decide) (fun q _ => by omega)]; exact h7
  · rw [o 93 (by decide) (fun q _ => by omega)]; exact h8
  · rw [o 94 (by decide) (fun q _ => by omega)]; exact h9
  · rw [o 97 (by decide) (fun q _ => by omega)]; exact h10
  · rw [o 98 (by decide) (fun q _ => by omega)]; exact h11
theorem CV_rgT (hr : isI (f 98) 8) (hv : CV g f) (hg : ∀ k, k < 62 → g' k = g k) : CV g' (rgT f x) := by
  have kw : ∀ c w, c < 8 → w < 9 → kd (rgT f x) c w = kd f c w := fun c w hc hw => rgT_o hr (by omega) (fun q _ => by omega)
  refine ⟨fun c hc => ?_, fun e he => ?_, ?_, ?_⟩
  · rw [kw c 0 hc (by decide), kw c 1 hc (by decide), kw c 2 hc (by decide), kw c 6 hc (by decide), kw c 7 hc (by decide), kw c 8 hc (by decide), hg _ (by omega), hg _ (by omega), hg _ (by omega), hg _ (by omega), hg _ (by omega), hg _ (by omega)]
    exact hv.1 c hc
  · have o1 : od (rgT f x) e 2 = od f e 2 := rgT_o hr (by omega) (fun q _ => by omega)
    rw [o1, hg _ (by omega)]; exact hv.2.1 e he
  · rw [rgT_o hr (by decide) (fun q _ => by omega), hg _ (by omega)]; exact hv.2.2.1
  · rw [rgT_o hr (by decide) (fun q _ => by omega), hg _ (by omega)]; exact hv.2.2.2
theorem StE_rgT (hr : isI (f' 98) 8) (h : StE f f') : StE f (rgT f' x) := fun k hk => by
  rw [rgT_o hr, h k hk]
  · intro z; subst z; exact absurd hk (by decide)
  · intro c hc z
    subst z
    unfold stc at hk
    simp at hk
    omega
/-- a month on both sides, step by step -/
theorem step_v (hDm : DrM N D) (hDc : DrC N D) (ha : a = 0 ∨ a = 1) (hB : B ≤ 40000) (R : Rel nl ln B S) (T : Told S nc ne B) (P : PastP S nc ne B M A nx) (L : LG (S.1 4) (S.1 38) (S.1 18) M) (hMB : M ≤ B) (hl : LR nl ln V S) (h4 : nl ≤ 4) (hi : isI (S.1 13 3) nl) (eh : S.1 27 31 = S.1 13 3) (hx : a = 1 → S.2 0 = S.2 27) (gC : AgC S C) (gM : AgM a S m) :
    ∃ C' m', f_X10_liveMonth nl ln C a = some C' ∧ calv (f_X11_remember m) (fun q => f_X11_goMonth 38 q a) = some m' ∧ Rel nl ln (B + 1) (mg C' m') ∧ (∃ A' nx', Told (mg C' m') nc ne (B + 1) ∧ PastP (mg C' m') nc ne (B + 1) (M + 1) A' nx' ∧ LG ((mg C' m').1 4) ((mg C' m').1 38) ((mg C' m').1 18) (M + 1)) ∧ LR nl ln V (mg C' m') ∧ isI ((mg C' m').1 13 3) nl ∧ (mg C' m').1 27 31 = (mg C' m').1 13 3 ∧ (a = 1 → (mg C' m').2 0 = (mg C' m').2 27) ∧ AgC (mg C' m') C' ∧ AgM a (mg C' m') m' ∧ Fr cS C C' ∧ Fr mS m m' := by
  obtain ⟨gc1, gc2, gc3, gc4, gc6⟩ := gC
  have gc5 := gc6 0 (by decide)
  obtain ⟨gm1, gm2, gm3, gm4⟩ := gM
  have F := T.2.1
  obtain ⟨p1, p2, p3, p4, p5, p6, p7, p8⟩ := P
  have hn8 := F.1.1.2
  have hn4 := F.1.2.1
  have lrC : LR nl ln V C := fun k hk => by rw [gc2, gc3, gc4]; exact hl k hk
  obtain ⟨C', c1, c2, c3, c4, c5, c6, c7, c8⟩ := clsMonth (m := C) (a := a) (nc := nc) (ne := ne) (B := B) (M := M) (A := A) (nx := nx) (V := V) hDc ha (by rw [gc1 4 (by decide)]; exact F.1) (by omega) lrC h4 (by rw [gc1 13 (by decide)]; exact hi) (by rw [gc1 16 (by decide)]; exact p5) (by rw [gc1 16 (by decide)]; exact p3) p2 p1 (by rw [gc1 4 (by decide)]; exact L.1) hMB
  have rm : f_X11_remember m = some (rmM m A) := remM_v p1 (by rw [gm2 39 (by decide)]; exact p4)
  have q38 : (rmM m A).1 38 = S.1 38 := by rw [rmM_p (by decide) (by decide), gm1 38 (by decide) (by decide)]
  have q27 : ∀ k, k ≠ 0 → k ≠ 39 → (rmM m A).1 27 k = S.1 27 k := fun k h0 h39 => by rw [rmM_27, if_neg h39, gm2 k h0]
  have qp : ∀ p, 27 < p → p < 45 → p ≠ 41 → (rmM m A).1 p = S.1 p := fun p h1 h2 h3 => by rw [rmM_p (by omega) h3, gm1 p h1 h2]
  have lrM : LR nl ln V (rmM m A) := fun k hk => by
    rw [rmM_p (by omega) (by omega), gm3, qp 29 (by decide) (by decide) (by decide), qp 30 (by decide) (by decide) (by decide)]
    exact hl k hk
  have svM : SV (rmM m A) (S.1 4) nc ne := by
    have := T.1
    unfold SV at this ⊢
    rw [qp 32 (by decide) (by decide) (by decide), qp 34 (by decide) (by decide) (by decide), qp 36 (by decide) (by decide) (by decide), q27 24 (by decide) (by decide), q27 25 (by decide) (by decide)]
    exact this
  have hq : mn M 60 ≤ 60 := by unfold mn; split <;> omega
  obtain ⟨m', g', d1, d2, d3, d4, d5, d6, d7⟩ := mdlMonth (m := rmM m A) (a := a) (w := 38) (f := S.1 4) (nc := nc) (ne := ne) (V := V) (n := mn M 60) hDm ha (Or.inl rfl) (by rw [q38]; exact F.2.1) svM F.1 lrM h4 (by rw [q27 31 (by decide) (by decide), eh]; exact hi) (by rw [q38]; exact L.2.1) hq (by rw [q27 34 (by decide) (by decide)]; exact R.2.2.2.1)
  have h9 : S.1 27 32 = S.1 0 9 := R.2.2.1
  have eP2 : a = 1 → fvR N D a ((rmM m A).1 27 32) (bmo (S.1 4) nc ne) ((rmM m A).2 27) nc = fvR N D a (S.1 0 9) (bmo (S.1 4) nc ne) (S.2 0) nc := fun h1 => by rw [q27 32 (by decide) (by decide), h9, show (rmM m A).2 27 = m.2 27 from rfl, gm4 h1, hx h1]
  have eP : (fvR N D a ((rmM m A).1 27 32) (bmo (S.1 4) nc ne) ((rmM m A).2 27) nc).1 = (fvR N D a (S.1 0 9) (bmo (S.1 4) nc ne) (S.2 0) nc).1 := by
    rcases ha with h | h
    · subst h; unfold fvR; rw [if_pos rfl, if_pos rfl]
    · rw [eP2 h]
  have eL : (rmM m A).1 27 31 = S.1 13 3 := by rw [q27 31 (by decide) (by decide), eh]
  rw [eP, eL] at d2
  rw [eP] at d3
  rw [q38] at d4
  rw [eP, eL, q38] at d5
  rw [eP, q38] at d6
  have d7 : a = 1 → m'.2 27 = (fvR N D a (S.1 0 9) (bmo (S.1 4) nc ne) (S.2 0) nc).2 := fun h1 => by rw [d7, eP2 h1]
  clear eP2 eP
  have eC : fvR N D a (C.1 0 9) (bmo (C.1 4) nc ne) (C.2 0) nc = fvR N D a (S.1 0 9) (bmo (S.1 4) nc ne) (S.2 0) nc := by rw [gc1 0 (by decide), gc1 4 (by decide), gc5]
  have eD : C.1 13 3 = S.1 13 3 := by rw [gc1 13 (by decide)]
  rw [eC, eD] at c2
  rw [eC, eD, gc1 18 (by decide)] at c3
  rw [gc1 4 (by decide), gc1 17 (by decide)] at c4
  rw [eC] at c7
  have wfb := WF_bmo F.1
  have stb := StE_bmo (f := S.1 4) hn8 hn4
  have wfP : WF (fvR N D a (S.1 0 9) (bmo (S.1 4) nc ne) (S.2 0) nc).1 nc ne (B + 1) := WF_fvR wfb
  have stP : StE (bmo (S.1 4) nc ne) (fvR N D a (S.1 0 9) (bmo (S.1 4) nc ne) (S.2 0) nc).1 := StE_fvR hn8
  have oP : ∀ k, 80 ≤ k ∨ k % 10 ≠ 1 → (fvR N D a (S.1 0 9) (bmo (S.1 4) nc ne) (S.2 0) nc).1 k = bmo (S.1 4) nc ne k := fun k hk => fvR_o hk hn8
  generalize fvR N D a (S.1 0 9) (bmo (S.1 4) nc ne) (S.2 0) nc = P at *
  have wf2 : WF (mth P.1 nc ne) nc ne (B + 1) := WF_crn wfP
  have r8 : isI (mth P.1 nc ne 98) 8 := isI_mono wf2.2.2.2.2.2.2.2.2.2.2 hn8
  have st2 : StE (S.1 4) (mth P.1 nc ne) := StE_98 (fun k hk => by rw [stP k hk, stb k hk])
  have k9 : ∀ c, c < 8 → kd (mth P.1 nc ne) c 9 = kd (S.1 4) c 9 := by
    intro c hc
    have e1 : kd (mth P.1 nc ne) c 9 = kd P.1 c 9 := pk_un (by omega)
    have e2 : kd P.1 c 9 = kd (bmo (S.1 4) nc ne) c 9 := oP _ (by omega)
    rw [e1, e2, bmo_kd hn8 hn4 hc (by decide)]
    split
    · rfl
    · rfl
  have t99 : mth P.1 nc ne 99 = S.1 4 99 := by
    have e1 : mth P.1 nc ne 99 = P.1 99 := by unfold mth crn; rw [pk_un (by decide)]
    rw [e1, oP 99 (by omega), bmo_hi hn8 hn4 (by decide) (fun q _ => by omega) (by decide)]
  have t97 : mth P.1 nc ne 97 = nI (M + 1) := by
    have e1 : mth P.1 nc ne 97 = P.1 97 := by unfold mth crn; rw [pk_un (by decide)]
    rw [e1, oP 97 (by omega), bmo_97 hn8 hn4, L.1, nI_1]
  obtain ⟨pd, pd1, pd2⟩ := pdV_v (V := V) (law := S.1 13 3) (f := mth P.1 nc ne)
  have gf : Fr mS (rmM m A) m' := fr_X11_goMonth (S := mS) (fun _ => rfl) rfl rfl rfl rfl rfl rfl rfl rfl rfl rfl rfl (fun _ => rfl) d1
  have rf : Fr mS m (rmM m A) := by
    unfold rmM
    exact (Fr.w2 (fun _ => rfl)).tr (Fr.w1 rfl)
  have mf := rf.tr gf
  have m41 : m'.1 41 = unR (S.1 41) (S.1 38) A := by
    have gf2 : Fr (fun p k => mS p k && !(p == 41)) (rmM m A) m' := fr_X11_goMonth (S := fun p k => mS p k && !(p == 41)) (fun _ => rfl) rfl rfl rfl rfl rfl rfl rfl rfl rfl rfl rfl (fun _ => rfl) d1
    have : m'.1 41 = (rmM m A).1 41 := funext fun k => gf2.1 41 k (by simp)
    rw [this, rmM_41, gm1 41 (by decide) (by decide), gm1 38 (by decide) (by decide)]
  have m39 : m'.1 27 39 = nI (mn (A + 1) 40) := by
    have gf2 : Fr (fun p k => mS p k && !(p == 27 && k == 39)) (rmM m A) m' := fr_X11_goMonth (S := fun p k => mS p k && !(p == 27 && k == 39)) (fun _ => rfl) rfl rfl rfl rfl rfl rfl rfl rfl rfl rfl rfl (fun _ => rfl) d1
    rw [gf2.1 27 39 rfl, rmM_27, if_pos rfl]
  have mrow : ∀ p, 27 < p → p < 45 → p ≠ 31 → p ≠ 38 → p ≠ 41 → m'.1 p = S.1 p := by
    intro p h1 h2 h3 h4 h5
    rw [← gm1 p h1 h2]
    funext k
    refine mf.1 p k ?_
    unfold mS
    simp [h3, h4, h5]
    omega
  have m27 : ∀ k, k ≠ 0 → mS 27 k = false → m'.1 27 k = S.1 27 k := fun k h0 h => by rw [mf.1 27 k h, gm2 k h0]
  have crow : ∀ p, p < 27 → p ≠ 4 → p ≠ 15 → p ≠ 16 → p ≠ 17 → p ≠ 18 → C'.1 p = S.1 p ∨ p = 0 := by
    intro p h1 h2 h3 h4 h5 h6
    by_cases z : p = 0
    · exact Or.inr z
    · left
      rw [← gc1 p h1]
      funext k
      refine c8.1 p k ?_
      unfold cS
      simp [z, h2, h3, h4, h5, h6]
      omega
  have c09 : C'.1 0 9 = S.1 0 9 := by rw [c8.1 0 9 rfl, gc1 0 (by decide)]
  have ccode : ∀ k, C'.1 (46 + 3 * k) = S.1 (46 + 3 * k) := by
    intro k
    rw [← gc2 k]
    funext q
    refine c8.1 _ q ?_
    unfold cS
    simp
    omega
  have c13 : C'.1 13 = S.1 13 := by rcases crow 13 (by decide) (by decide) (by decide) (by decide) (by decide) (by decide) with h | h; exact h; cases h
  have c1' : C'.1 1 = S.1 1 := by rcases crow 1 (by decide) (by decide) (by decide) (by decide) (by decide) (by decide) with h | h; exact h; cases h
  have c2' : C'.1 2 = S.1 2 := by rcases crow 2 (by decide) (by decide) (by decide) (by decide) (by decide) (by decide) with h | h; exact h; cases h
  have c19 : C'.1 19 = S.1 19 := by rcases crow 19 (by decide) (by decide) (by decide) (by decide) (by decide) (by decide) with h | h; exact h; cases h
  have c20 : C'.1 20 = S.1 20 := by rcases crow 20 (by decide) (by decide) (by decide) (by decide) (by decide) (by decide) with h | h; exact h; cases h
  have c166 : C'.1 16 6 = S.1 16 6 := by rw [c8.1 16 6 rfl, gc1 16 (by decide)]
  have e4 : (mg C' m').1 4 = rgT (mth P.1 nc ne) (pdV V (S.1 13 3) (mth P.1 nc ne)) := by rw [mg_c (by omega), c2]
  have e18 : (mg C' m').1 18 = lgR (S.1 18) (M + 1) (mth P.1 nc ne 98) (trW P.1 0 ne) (pdV V (S.1 13 3) (mth P.1 nc ne)) := by rw [mg_c (by omega), c3]
  have e38 : (mg C' m').1 38 = wrG g' (mn M 60) (trW P.1 0 ne) (pdV V (S.1 13 3) (mth P.1 nc ne)) := by rw [mg_m (by omega) (by omega), d2]
  have st3 : StE (S.1 4) ((mg C' m').1 4) := by rw [e4]; exact StE_rgT r8 st2
  have FR2 : FR ((mg C' m').1 4) ((mg C' m').1 38) nc ne (B + 1) := by
    rw [e4, e38]
    refine ⟨WF_rgT wf2, CV_rgT r8 d3 (fun k hk => wrG_lo (by omega)), fun c hc => ?_, ?_, ?_⟩
    · rw [wrG_lo (by omega), d6 c hc, rgT_9 r8 hc, k9 c hc, F.2.2.1 c hc]
    · rw [wrG_lo (by omega), d5, rgT_99 r8, t99, F.2.2.2.1]
    · obtain ⟨t, t1, t2⟩ := F.2.2.2.2
      rw [rgT_99 r8, t99, t2, pd2, nI_add]
      exact ⟨t + pd, by omega, rfl⟩
  have LG2 : LG ((mg C' m').1 4) ((mg C' m').1 38) ((mg C' m').1 18) (M + 1) := by
    rw [e38]
    refine LG_month (lr := mth P.1 nc ne 98) (x := pdV V (S.1 13 3) (mth P.1 nc ne)) L ?_ d4 (by rw [d3.2.2.2]) ?_
    · rw [e4, rgT_o r8 (by decide) (fun q _ => by omega), t97]
    · intro k
      rw [e18]
      unfold lgR
      by_cases z1 : k = (M + 1) % 100 * 3
      · rw [if_pos z1, pk_un (by omega), pk_un (by omega), z1, pk_us]
      · rw [if_neg z1]
        by_cases z2 : k = (M + 1) % 100 * 3 + 1
        · rw [if_pos z2, pk_un (by omega), z2, pk_us]
        · rw [if_neg z2]
          by_cases z3 : k = (M + 1) % 100 * 3 + 2
          · rw [if_pos z3, z3, pk_us]
          · rw [if_neg z3, pk_un z3, pk_un z2, pk_un z1]
  have PP : PastP (mg C' m') nc ne (B + 1) (M + 1) (mn (A + 1) 40) ((nx + 1) % 40) := by
    refine Past_push ⟨p1, p2, p3, p4, p5, p6, p7, p8⟩ F L hMB (Nat.le_succ B) ?_ ?_ ?_ ?_ ?_ ?_ ?_ ?_ ?_ ?_ st3 (Nat.le_succ M) (Nat.le_refl _) ?_
    · rw [mg_c (by omega), c4]
    · rw [mg_m (by omega) (by omega), m41]
    · rw [mg_c (by omega), c5]
    · rw [mg_c (by omega), c6]
    · rw [mg_m (by omega) (by omega), m39]
    · rw [mg_c (by omega), c166]
    · rw [mg_m (by omega) (by omega), m27 45 (by decide) rfl]
    · rw [mg_c (by omega), c19]
    · rw [mg_m (by omega) (by omega), mrow 43 (by decide) (by decide) (by decide) (by decide) (by decide)]
    · rw [mg_c (by omega), c20]
    · intro x hx1 hx2 w hw
      rw [e18]
      unfold lgR
      rw [pk_un (by omega), pk_un (by omega), pk_un (by omega)]
  have tl : TL S (mg C' m') := by
    refine ⟨?_, ?_, ?_, ?_, ?_, ?_, ?_, ?_, ?_, ?_, ?_, ?_, ?_, ?_⟩
    · rw [mg_c (by omega), c09]
    · rw [mg_c (by omega), c1']
    · rw [mg_c (by omega), c2']
    · rw [mg_c (by omega), c13]
    · rw [mg_c (by omega), c13]
    · rw [mg_m (by omega) (by omega), m27 6 (by decide) rfl]
    · rw [mg_m (by omega) (by omega), m27 7 (by decide) rfl]
    · rw [mg_m (by omega) (by omega), m27 31 (by decide) rfl]
    · rw [mg_m (by omega) (by omega), m27 32 (by decide) rfl]
    · rw [mg_m (by omega) (by omega), m27 34 (by decide) rfl]
    · rw [mg_m (by omega) (by omega), mrow 28 (by decide) (by decide) (by decide) (by decide) (by decide)]
    · rw [mg_m (by omega) (by omega), mrow 29 (by decide) (by decide) (by decide) (by decide) (by decide)]
    · rw [mg_m (by omega) (by omega), mrow 30 (by decide) (by decide) (by decide) (by decide) (by decide)]
    · intro k; rw [mg_c (by omega), ccode]
  have sv2 : SV (mg C' m') ((mg C' m').1 4) nc ne := by
    refine SV_st T.1 st3 hn8 hn4 ?_ ?_ ?_ ?_ ?_
    · rw [mg_m (by omega) (by omega), mrow 32 (by decide) (by decide) (by decide) (by decide) (by decide)]
    · rw [mg_m (by omega) (by omega), mrow 34 (by decide) (by decide) (by decide) (by decide) (by decide)]
    · rw [mg_m (by omega) (by omega), mrow 36 (by decide) (by decide) (by decide) (by decide) (by decide)]
    · rw [mg_m (by omega) (by omega), m27 24 (by decide) rfl]
    · rw [mg_m (by omega) (by omega), m27 25 (by decide) rfl]
  have T2 : Told (mg C' m') nc ne (B + 1) := ⟨sv2, FR2, M + 1, by omega, LG2, _, _, PP⟩
  refine ⟨C', m', c1, by rw [rm, calv_eq, d1], Rel_TL R tl (Or.inr ⟨nc, ne, T2⟩), ⟨_, _, T2, PP, LG2⟩, ?_, ?_, ?_, ?_, ?_, ?_, c8, mf⟩
  · intro k hk
    rw [tl.2.2.2.2.2.2.2.2.2.2.2.2.2 k, tl.2.2.2.2.2.2.2.2.2.2.2.1, tl.2.2.2.2.2.2.2.2.2.2.2.2.1]
    exact hl k hk
  · rw [tl.2.2.2.2.1]; exact hi
  · rw [tl.2.2.2.2.1, tl.2.2.2.2.2.2.2.1]; exact eh
  · intro h1
    show C'.2 0 = m'.2 27
    rw [c7, d7 h1]
  · refine ⟨fun p hp => (mg_c (by omega)).symm, fun k => (mg_c (by omega)).symm, ?_, ?_, fun p hp => (if_neg hp).symm⟩
    · rw [tl.2.2.2.2.2.2.2.2.2.2.2.1, ← gc3]
      funext k
      exact c8.1 29 k rfl
    · rw [tl.2.2.2.2.2.2.2.2.2.2.2.2.1, ← gc4]
      funext k
      exact c8.1 30 k rfl
  · refine ⟨fun p h1 h2 => (mg_m (by omega) h2).symm, fun k _ => by rw [mg_m (by omega) (by omega)], fun k => ?_, fun _ => rfl⟩
    rw [tl.2.2.2.2.2.2.2.2.2.2.2.2.2 k, ← gm3]
    funext q
    refine mf.1 _ q ?_
    unfold mS
    simp
    omega
end
