/-! months and fevers: the calls -/
section
variable {nl B B' : Nat} {ln : Nat → Nat} {V : Nat → (Nat → Int32) → Int32} {m m1 m2 m' C C' S : Sg} {j w u : Nat} {a a1 a2 a3 r s law x mo y tr fv : Int32} {f f' g g' lg lg' : Nat → Int32} {nc ne c e t M M' A nx n : Nat} {X : Int64} {N : Int64 → Int64} {D : Int64 → Int32}
theorem Rel_eq (R : Rel nl ln B m) (h : ∀ p k, ess p k = true → m1.1 p k = m.1 p k) : Rel nl ln B m1 :=
  Rel_fr (m1 := (m1.1, m.2)) R ⟨fun p k hp => h p k (by simpa [scr] using hp), fun _ _ => rfl⟩
theorem PastR_mono (h : PastR m nc ne B M) (hb : B ≤ B') : PastR m nc ne B' M := by
  obtain ⟨A, nx, p1, p2, p3, p4, p5, ⟨Ms, q1, q2⟩, p7, p8⟩ := h
  refine ⟨A, nx, p1, p2, p3, p4, p5, ⟨Ms, q1, fun i i1 i2 => ?_⟩, p7, ?_⟩
  · obtain ⟨x1, x2, x3⟩ := q2 i i1 i2
    exact ⟨FR_mono x1 hb, x2, x3⟩
  · rcases p8 with h | ⟨h1, h2, h3, Mi, h4, h5⟩
    · exact Or.inl h
    · exact Or.inr ⟨h1, FR_mono h2 hb, h3, Mi, by omega, h5⟩
theorem Rel_mono (R : Rel nl ln B m) (hb : B ≤ B') : Rel nl ln B' m := by
  obtain ⟨r1, r2, r3, r4, r5⟩ := R
  refine ⟨r1, r2, r3, r4, ?_⟩
  rcases r5 with u | ⟨nc, ne, t1, t2, M, t3, t4, t5⟩
  · exact Or.inl u
  · exact Or.inr ⟨nc, ne, t1, FR_mono t2 hb, M, by omega, t4, PastR_mono t5 hb⟩
theorem QQ_mono {o : Option (Int32 × Sg)} {F : Sg → Option (Int32 × Sg)} (h : QQ nl ln B o F) (hb : B ≤ B') : QQ nl ln B' o F := by
  obtain ⟨r, m1, m2, h1, h2, h3⟩ := h
  exact ⟨r, m1, m2, h1, h2, Rel_mono h3 hb⟩
def StB (nl : Nat) (ln : Nat → Nat) (V : Nat → (Nat → Int32) → Int32) (nc ne : Nat) (a : Int32) (B M : Nat) (S : Sg) : Prop := Rel nl ln B S ∧ (∃ A nx, Told S nc ne B ∧ PastP S nc ne B M A nx ∧ LG (S.1 4) (S.1 38) (S.1 18) M) ∧ LR nl ln V S ∧ isI (S.1 13 3) nl ∧ S.1 27 31 = S.1 13 3 ∧ (a = 1 → S.2 0 = S.2 27) ∧ M ≤ B
theorem StB_ag (h : StB nl ln V nc ne a B M S) (gC : AgC S C) (gM : AgM a S m) : StB nl ln V nc ne a B M (mg C m) := by
  obtain ⟨gc1, gc2, gc3, gc4, gc6⟩ := gC
  obtain ⟨gm1, gm2, gm3, gm4⟩ := gM
  obtain ⟨R, ⟨A, nx, T, P, L⟩, hl, hi, eh, hx, hM⟩ := h
  have rc : ∀ p, p < 27 → (mg C m).1 p = S.1 p := fun p hp => by rw [mg_c (by omega), gc1 p hp]
  have rm : ∀ p, 27 < p → p < 45 → (mg C m).1 p = S.1 p := fun p h1 h2 => by rw [mg_m (by omega) h2, gm1 p h1 h2]
  have r27 : ∀ k, k ≠ 0 → (mg C m).1 27 k = S.1 27 k := fun k hk => by rw [mg_m (by omega) (by omega), gm2 k hk]
  have rk : ∀ k, (mg C m).1 (46 + 3 * k) = S.1 (46 + 3 * k) := fun k => by rw [mg_c (by omega), gc2]
  refine ⟨Rel_eq R ?_, ⟨A, nx, ?_⟩, ?_, ?_, ?_, ?_, hM⟩
  · intro p k hp
    by_cases h1 : p < 27
    · rw [rc p h1]
    · by_cases h2 : p = 27
      · subst h2
        rw [r27 k (fun z => by subst z; exact absurd hp (by decide))]
      · by_cases h3 : p < 45
        · rw [rm p (by omega) h3]
        · have : p % 3 = 1 := by
            unfold ess at hp
            rw [if_neg h1, if_neg h3] at hp
            simpa using hp
          have e : p = 46 + 3 * ((p - 46) / 3) := by omega
          rw [e, rk]
  · have r4 := rc 4 (by decide)
    have r16 := rc 16 (by decide)
    have r17 := rc 17 (by decide)
    have r18 := rc 18 (by decide)
    have r19 := rc 19 (by decide)
    have r20 := rc 20 (by decide)
    have r32 := rm 32 (by decide) (by decide)
    have r34 := rm 34 (by decide) (by decide)
    have r36 := rm 36 (by decide) (by decide)
    have r38 := rm 38 (by decide) (by decide)
    have r41 := rm 41 (by decide) (by decide)
    have r43 := rm 43 (by decide) (by decide)
    have d3 := r27 24 (by decide)
    have d4 := r27 25 (by decide)
    have d8 := r27 39 (by decide)
    have d9 := r27 45 (by decide)
    have TP := And.intro T (And.intro P L)
    unfold Told PastR PastP SV rowC rowM at TP ⊢
    simp only [r4, r16, r17, r18, r19, r20, r32, r34, r36, r38, r41, r43, d3, d4, d8, d9]
    exact TP
  · intro k hk
    rw [rk, rm 29 (by decide) (by decide), rm 30 (by decide) (by decide)]
    exact hl k hk
  · rw [rc 13 (by decide)]; exact hi
  · rw [rc 13 (by decide), r27 31 (by decide)]; exact eh
  · intro h1
    show C.2 0 = m.2 27
    rw [gc6 0 (by decide), gm4 h1, hx h1]
theorem AgC_ag (gC : AgC S C) (gM : AgM a S m) : AgC (mg C m) C ∧ AgM a (mg C m) m := by
  obtain ⟨gc1, gc2, gc3, gc4, gc6⟩ := gC
  obtain ⟨gm1, gm2, gm3, gm4⟩ := gM
  refine ⟨⟨fun p hp => (mg_c (by omega)).symm, fun k => (mg_c (by omega)).symm, ?_, ?_, fun p hp => (if_neg hp).symm⟩, ⟨fun p h1 h2 => (mg_m (by omega) h2).symm, fun k _ => by rw [mg_m (by omega) (by omega)], fun k => ?_, fun _ => rfl⟩⟩
  · rw [mg_m (by omega) (by omega), gm1 29 (by decide) (by decide), gc3]
  · rw [mg_m (by omega) (by omega), gm1 30 (by decide) (by decide), gc4]
  · rw [mg_c (by omega), gc2, gm3]
def mStep (a : Int32) (q : Sg) : Option Sg := calv (f_X11_remember q) (fun q => f_X11_goMonth 38 q a)
theorem run_v (hDm : DrM N D) (hDc : DrC N D) (ha : a = 0 ∨ a = 1) (h4 : nl ≤ 4) (hS : StB nl ln V nc ne a B M S) (gC : AgC S C) (gS : AgM a S S) : ∀ n, B + n ≤ 40000 → ∃ C', itO (fun q => f_X10_liveMonth nl ln q a) n C = some C' ∧ Fr cS C C' ∧ ∀ m, AgM a S m → ∃ m', itO (mStep a) n m = some m' ∧ Fr mS m m' ∧ StB nl ln V nc ne a (B + n) (M + n) (mg C' m') ∧ AgC (mg C' m') C' ∧ AgM a (mg C' m') m' := by
  intro n
  induction n with
  | zero =>
    intro _
    refine ⟨C, rfl, Fr.rf, fun m gM => ⟨m, rfl, Fr.rf, StB_ag hS gC gM, (AgC_ag gC gM).1, (AgC_ag gC gM).2⟩⟩
  | succ n ih =>
    intro hB
    obtain ⟨C1, e1, f1, k1⟩ := ih (by omega)
    have one : ∀ m1, StB nl ln V nc ne a (B + n) (M + n) (mg C1 m1) → AgC (mg C1 m1) C1 → AgM a (mg C1 m1) m1 → ∃ C' m', f_X10_liveMonth nl ln C1 a = some C' ∧ mStep a m1 = some m' ∧ StB nl ln V nc ne a (B + (n + 1)) (M + (n + 1)) (mg C' m') ∧ AgC (mg C' m') C' ∧ AgM a (mg C' m') m' ∧ Fr cS C1 C' ∧ Fr mS m1 m' := by
      intro m1 s1 s2 s3
      obtain ⟨R, ⟨A, nx, T, P, L⟩, hl, hi, eh, hx, hM⟩ := s1
      obtain ⟨C', m', x1, x2, x3, x4, x5, x6, x7, x8, x9, x10, x11, x12⟩ := step_v (V := V) hDm hDc ha (by omega) R T P L hM hl h4 hi eh hx s2 s3
      exact ⟨C', m', x1, x2, ⟨x3, x4, x5, x6, x7, x8, by omega⟩, x9, x10, x11, x12⟩
    obtain ⟨m0, y1, y2, y3, y4, y5⟩ := k1 S gS
    obtain ⟨C2, _, z1, _, _, _, _, z6, _⟩ := one m0 y3 y4 y5
    refine ⟨C2, by show (itO _ n C).bind _ = _; rw [e1]; exact z1, f1.tr z6, fun m gM => ?_⟩
    obtain ⟨m1, y1, y2, y3, y4, y5⟩ := k1 m gM
    obtain ⟨C3, m3, z1', z2, z3, z4, z5, z6, z7⟩ := one m1 y3 y4 y5
    have : C3 = C2 := Option.some.inj (z1'.symm.trans z1)
    subst this
    exact ⟨m3, by show (itO _ n m).bind _ = _; rw [y1]; exact z2, y2.tr z7, z3, z4, z5⟩
theorem sixty_cases (a : Int32) : a < 1 ∨ (¬ a < 1 ∧ ¬ a ≤ 60) ∨ ∃ n, 1 ≤ n ∧ n ≤ 60 ∧ a = nI n := by
  by_cases h : a < 1
  · exact Or.inl h
  · by_cases h2 : a ≤ 60
    · obtain ⟨j, j1, j2⟩ := nI_of (x := a) (fun z => h (by
        rw [Int32.lt_iff_toInt_lt] at z ⊢
        exact Int.lt_trans z (by decide)))
      refine Or.inr (Or.inr ⟨j, ?_, ?_, j2⟩)
      · rw [j2] at h
        rcases Nat.eq_zero_or_pos j with z | z
        · subst z; exact absurd (show nI 0 < 1 by decide) h
        · exact z
      · rw [j2] at h2
        exact (nI_leI (b := 60) j1 (by decide)).mp h2
    · exact Or.inr (Or.inl ⟨h, h2⟩)
theorem in60_no {b : Int32} (hb : 1 ≤ b) (h : a < 1 ∨ (¬ a < 1 ∧ ¬ a ≤ b)) : f_X11_isIn m a.toInt64 1 b.toInt64 = some (0, m) := by
  rw [isIn_v (lo' := 1) (lo := 1) (hi := b) rfl rfl]
  rcases h with h | ⟨h, h'⟩
  · rw [if_pos h]
  · rw [if_neg h, if_pos (Int32.not_le.mp h')]
theorem in60_yes {k : Nat} (hk : k < 2 ^ 31) (h1 : 1 ≤ n) (h2 : n ≤ k) : f_X11_isIn m (nI n).toInt64 1 (nI k).toInt64 = some (1, m) := by
  rw [isIn_v (lo' := 1) (lo := 1) (hi := nI k) rfl rfl, if_neg (show ¬ nI n < 1 from nI_nlt (b := 1) h1 (by omega)), if_neg (nI_nlt h2 hk)]
theorem loopC (hn : n < 1000000) (h : itO (fun q => f_X10_liveMonth nl ln q 0) n m = some m') {ρ : Type} {K : Sg → Option ρ} : lpk (f_X10_months_L25 (nI n) nl ln) (m, 0) K = K m' := by
  refine lpk_it (fun q i hi => ?_) (fun q => ?_) hn h
  · simp only [f_X10_months_L25, if_neg (ix_lt hi (show n < 2 ^ 31 by omega)), bnd_eq, nI_1]
  · simp only [f_X10_months_L25, if_pos (nI_le (Nat.le_refl n) (show n < 2 ^ 31 by omega))]
theorem loopCf (hn : n < 1000000) (h : itO (fun q => f_X10_liveMonth nl ln q 1) n m = some m') {ρ : Type} {K : Sg → Option ρ} : lpk (f_X10_fevers_L31 (nI n) nl ln) (m, 0) K = K m' := by
  refine lpk_it (fun q i hi => ?_) (fun q => ?_) hn h
  · simp only [f_X10_fevers_L31, if_neg (ix_lt hi (show n < 2 ^ 31 by omega)), bnd_eq, nI_1]
  · simp only [f_X10_fevers_L31, if_pos (nI_le (Nat.le_refl n) (show n < 2 ^ 31 by omega))]
theorem calv_calv {o : Option Sg} {F : Sg → Option Sg} {ρ : Type} {K : Sg → Option ρ} : calv (calv o F) K = calv o (fun q => calv (F q) K) := by
  cases o <;> rfl
theorem loopM (hn : n < 1000000) (h : itO (mStep a) n m = some m') {ρ : Type} {K : Sg → Option ρ} : lpk (f_X11_goMonths_L23 (nI n) a) (m, 0) K = K m' := by
  refine lpk_it (fun q i hi => ?_) (fun q => ?_) hn h
  · simp only [f_X11_goMonths_L23, if_neg (ix_lt hi (show n < 2 ^ 31 by omega)), bnd_eq, nI_1, mStep, calv_calv]
  · simp only [f_X11_goMonths_L23, if_pos (nI_le (Nat.le_refl n) (show n < 2 ^ 31 by omega))]
/-- what stands at the end of both runs -/
theorem run_end (hDm : DrM N D) (hDc : DrC N D) (ha : a = 0 ∨ a = 1) (h4 : nl ≤ 4) (hS : StB nl ln V nc ne a B M S) (gC : AgC S C) (gS : AgM a S S) (hB : B + 60 ≤ 40000) (hn : n ≤ 60) : ∃ C', itO (fun q => f_X10_liveMonth nl ln q a) n C = some C' ∧ ∀ q : Sg, (∀ p, p ≠ 27 → q.1 p = C'.1 p) → (∀ k, k ≠ 0 → q.1 27 k = C'.1 27 k) → (a = 1 → q.2 27 = S.2 27) → (∀ p, 27 ≤ p → p < 45 → C.1 p = S.1 p) → ∃ m', itO (mStep a) n q = some m' ∧ m'.1 38 60 = C'.1 4 97 ∧ Rel nl ln (B + 60) m' := by
  obtain ⟨C', c1, c2, c3⟩ := run_v hDm hDc ha h4 hS gC gS n (by omega)
  refine ⟨C', c1, fun q h1 h2 h3 h5 => ?_⟩
  have cm : ∀ p, 27 ≤ p → p < 45 → C'.1 p = S.1 p := by
    intro p hp hp'
    rw [← h5 p hp hp']
    funext k
    refine c2.1 p k ?_
    unfold cS
    simp
    omega
  have cc : ∀ k, C'.1 (46 + 3 * k) = S.1 (46 + 3 * k) := by
    intro k
    rw [← gC.2.1 k]
    funext i
    refine c2.1 _ i ?_
    unfold cS
    simp
    omega
  have ag : AgM a S q := ⟨fun p hp hp' => by rw [h1 p (by omega), cm p (by omega) hp'], fun k hk => by rw [h2 k hk, cm 27 (by decide) (by decide)], fun k => by rw [h1 _ (by omega), cc], h3⟩
  obtain ⟨m', d1, d2, d3, d4, d5⟩ := c3 q ag
  have e4 : C'.1 4 = (mg C' m').1 4 := (mg_c (by omega)).symm
  have e38 : m'.1 38 = (mg C' m').1 38 := (mg_m (by omega) (by omega)).symm
  refine ⟨m', d1, ?_, Rel_mono (Rel_eq d3.1 ?_) (show B + n ≤ B + 60 by omega)⟩
  · obtain ⟨_, ⟨A, nx, T, _, _⟩, _⟩ := d3
    rw [e4, e38]
    exact T.2.1.2.1.2.2.1
  · intro p k hp
    by_cases z : 27 ≤ p ∧ p < 45
    · rw [mg_m z.1 z.2]
    · rw [mg_c (by omega), d2.1 p k ?_, h1 p (by omega)]
      unfold mS
      simp
      omega
theorem q_months (hB : B + 60 ≤ 40000) (R : Rel nl ln B m) : QQ nl ln (B + 60) (f_X10_months nl ln m a1) (fun m1 => f_X11_months m1 a1) := by
  obtain ⟨N, D, hDm, hDc⟩ := dr_both
  rcases Rel_cases R with ⟨u, H⟩ | ⟨nc, ne, M, A, nx, T, H, hM, L, P⟩
  · refine QQ_mono (QQ_q R (r := -1) (m1 := m) (m2 := wr m 27 0 0) ?_ Fr.rf ?_ (fr_thr m 0)) (by omega)
    · simp only [f_X10_months, told_v H.2.2.1 (by decide), cal_eq, ↓reduceIte]
    · simp only [f_X11_months, bnd_eq, f_X11_goMonths, show (wr m 27 0 0).1 27 24 = 0 from u.2.2.2.2.2.1, ↓reduceIte, cal_eq]
  · have h0 : ¬ nc = 0 := by have := T.2.1.1.1.1; omega
    have hn8 := H.2.2.2.2.2.1
    have n24 : ∀ q : Sg, q.1 27 24 = nI nc → ¬ q.1 27 24 = 0 := fun q hq => by rw [hq]; exact nI_ne0 (by omega) (by omega)
    rcases sixty_cases a1 with h | h | ⟨n, n1, n2, h⟩
    · refine QQ_mono (QQ_q R (r := -1) (m1 := m) (m2 := wr m 27 0 0) ?_ Fr.rf ?_ (fr_thr m 0)) (by omega)
      · simp only [f_X10_months, told_v H.2.2.1 hn8, cal_eq, if_neg h0, n10, ↓reduceIte, if_pos h]
      · simp only [f_X11_months, bnd_eq, f_X11_goMonths, if_neg (n24 (wr m 27 0 0) H.1), show f_X11_isIn (wr m 27 0 0) a1.toInt64 1 60 = some (0, wr m 27 0 0) from in60_no (b := 60) (by decide) (Or.inl h), ↓reduceIte, cal_eq]
    · refine QQ_mono (QQ_q R (r := -1) (m1 := m) (m2 := wr m 27 0 0) ?_ Fr.rf ?_ (fr_thr m 0)) (by omega)
      · simp only [f_X10_months, told_v H.2.2.1 hn8, cal_eq, if_neg h0, n10, ↓reduceIte, if_neg h.1, if_neg h.2]
      · simp only [f_X11_months, bnd_eq, f_X11_goMonths, if_neg (n24 (wr m 27 0 0) H.1), show f_X11_isIn (wr m 27 0 0) a1.toInt64 1 60 = some (0, wr m 27 0 0) from in60_no (b := 60) (by decide) (Or.inr h), ↓reduceIte, cal_eq]
    · subst h
      obtain ⟨V, hl, h4, hi, eh⟩ := Rel_LR R
      have sb : StB nl ln V nc ne 0 B M m := ⟨R, ⟨A, nx, T, P, L⟩, hl, hi, eh, fun h => absurd h (by decide), hM⟩
      have gC : AgC m m := ⟨fun _ _ => rfl, fun _ => rfl, rfl, rfl, fun _ _ => rfl⟩
      have gM : AgM 0 m m := ⟨fun _ _ _ => rfl, fun _ _ => rfl, fun _ => rfl, fun _ => rfl⟩
      obtain ⟨C', c1, c2⟩ := run_end hDm hDc (Or.inl rfl) h4 sb gC gM hB n2
      obtain ⟨m', d1, d2, d3⟩ := c2 (wr C' 27 0 0) (fun p hp => wr_ne hp) (fun k hk => by rw [wr_at, pk_un hk]) (fun h => absurd h (by decide)) (fun _ _ _ => rfl)
      have e24 : (wr C' 27 0 0).1 27 24 = nI nc := by
        have : Fr cS m C' := by
          obtain ⟨C2, x1, x2, _⟩ := run_v hDm hDc (Or.inl rfl) h4 sb gC gM n (by omega)
          rw [c1] at x1
          cases x1
          exact x2
        rw [wr_at, pk_un (by decide), this.1 27 24 rfl, H.1]
      refine ⟨C'.1 4 97, C', m', ?_, ?_, d3⟩
      · simp only [f_X10_months, told_v H.2.2.1 hn8, cal_eq, if_neg h0, n10, ↓reduceIte, if_neg (show ¬ nI n < 1 from nI_nlt (b := 1) n1 (by omega)), if_pos (show nI n ≤ 60 from nI_le (b := 60) n2 (by decide)), loopC (by omega) c1, cell97]
      · simp only [f_X11_months, bnd_eq, f_X11_goMonths, if_neg (n24 (wr C' 27 0 0) e24), show f_X11_isIn (wr C' 27 0 0) (nI n).toInt64 1 60 = some (1, wr C' 27 0 0) from in60_yes (k := 60) (by decide) n1 n2, n10, ↓reduceIte, cal_eq, loopM (by omega) d1, d2]
theorem Rel_wrl {p : Nat} {x : Int64} (R : Rel nl ln B m) : Rel nl ln B (wrl m p x) := Rel_eq R (fun _ _ _ => rfl)
theorem q_fevers (hB : B + 60 ≤ 40000) (R : Rel nl ln B m) : QQ nl ln (B + 60) (f_X10_fevers nl ln m a1 X) (fun m1 => f_X11_fevers m1 a1 X) := by
  obtain ⟨N, D, hDm, hDc⟩ := dr_both
  have R0 : Rel nl ln (B + 60) (wrl (wr m 27 0 0) 27 X) := Rel_mono (Rel_wrl (Rel_fr R (fr_thr m 0))) (by omega)
  rcases Rel_cases R with ⟨u, H⟩ | ⟨nc, ne, M, A, nx, T, H, hM, L, P⟩
  · refine ⟨-1, m, wrl (wr m 27 0 0) 27 X, ?_, ?_, R0⟩
    · simp only [f_X10_fevers, told_v H.2.2.1 (by decide), cal_eq, ↓reduceIte]
    · simp only [f_X11_fevers, bnd_eq, f_X11_goMonths, show (wrl (wr m 27 0 0) 27 X).1 27 24 = 0 from u.2.2.2.2.2.1, ↓reduceIte, cal_eq]
  · have h0 : ¬ nc = 0 := by have := T.2.1.1.1.1; omega
    have hn8 := H.2.2.2.2.2.1
    have n24 : ∀ q : Sg, q.1 27 24 = nI nc → ¬ q.1 27 24 = 0 := fun q hq => by rw [hq]; exact nI_ne0 (by omega) (by omega)
    rcases sixty_cases a1 with h | h | ⟨n, n1, n2, h⟩
    · refine ⟨-1, m, wrl (wr m 27 0 0) 27 X, ?_, ?_, R0⟩
      · simp only [f_X10_fevers, told_v H.2.2.1 hn8, cal_eq, if_neg h0, n10, ↓reduceIte, if_pos h]
      · simp only [f_X11_fevers, bnd_eq, f_X11_goMonths, if_neg (n24 (wrl (wr m 27 0 0) 27 X) H.1), show f_X11_isIn (wrl (wr m 27 0 0) 27 X) a1.toInt64 1 60 = some (0, wrl (wr m 27 0 0) 27 X) from in60_no (b := 60) (by decide) (Or.inl h), ↓reduceIte, cal_eq]
    · refine ⟨-1, m, wrl (wr m 27 0 0) 27 X, ?_, ?_, R0⟩
      · simp only [f_X10_fevers, told_v H.2.2.1 hn8, cal_eq, if_neg h0, n10, ↓reduceIte, if_neg h.1, if_neg h.2]
      · simp only [f_X11_fevers, bnd_eq, f_X11_goMonths, if_neg (n24 (wrl (wr m 27 0 0) 27 X) H.1), show f_X11_isIn (wrl (wr m 27 0 0) 27 X) a1.toInt64 1 60 = some (0, wrl (wr m 27 0 0) 27 X) from in60_no (b := 60) (by decide) (Or.inr h), ↓reduceIte, cal_eq]
    · subst h
      obtain ⟨V, hl, h4, hi, eh⟩ := Rel_LR R
      let S : Sg := wrl (wrl m 0 X) 27 X
      have sb : StB nl ln V nc ne 1 B M S := ⟨Rel_eq R (fun _ _ _ => rfl), ⟨A, nx, T, P, L⟩, hl, hi, eh, fun _ => rfl, hM⟩
      have gC : AgC S (wrl m 0 X) := ⟨fun _ _ => rfl, fun _ => rfl, rfl, rfl, fun p hp => by
        show (wrl m 0 X).2 p = va_up (wrl m 0 X).2 27 X p
        simp [va_up, hp]⟩
      have gM : AgM 1 S S := ⟨fun _ _ _ => rfl, fun _ _ => rfl, fun _ => rfl, fun _ => rfl⟩
      obtain ⟨C', c1, c2⟩ := run_end (C := wrl m 0 X) hDm hDc (Or.inr rfl) h4 sb gC gM hB n2
      obtain ⟨m', d1, d2, d3⟩ := c2 (wrl (wr C' 27 0 0) 27 X) (fun p hp => wr_ne hp) (fun k hk => by rw [wrl_1, wr_at, pk_un hk]) (fun h => by rw [wrl_2]; exact wrl_2.symm) (fun _ _ _ => rfl)
      have e24 : (wrl (wr C' 27 0 0) 27 X).1 27 24 = nI nc := by
        have : Fr cS (wrl m 0 X) C' := by
          obtain ⟨C2, x1, x2, _⟩ := run_v (C := wrl m 0 X) hDm hDc (Or.inr rfl) h4 sb gC gM n (by omega)
          rw [c1] at x1
          cases x1
          exact x2
        rw [wrl_1, wr_at, pk_un (by decide), this.1 27 24 rfl]
        exact H.1
      refine ⟨C'.1 4 97, C', m', ?_, ?_, d3⟩
      · simp only [f_X10_fevers, told_v H.2.2.1 hn8, cal_eq, bnd_eq, if_neg h0, n10, ↓reduceIte, if_neg (show ¬ nI n < 1 from nI_nlt (b := 1) n1 (by omega)), if_pos (show nI n ≤ 60 from nI_le (b := 60) n2 (by decide)), loopCf (by omega) c1, cell97]
      · simp only [f_X11_fevers, bnd_eq, f_X11_goMonths, if_neg (n24 (wrl (wr C' 27 0 0) 27 X) e24), show f_X11_isIn (wrl (wr C' 27 0 0) 27 X) (nI n).toInt64 1 60 = some (1, wrl (wr C' 27 0 0) 27 X) from in60_yes (k := 60) (by decide) n1 n2, n10, ↓reduceIte, cal_eq, loopM (by omega) d1, d2]
end
