/-! plan: the pupil's months, step by step -/
section
variable {nl B B' : Nat} {ln : Nat → Nat} {V : Nat → (Nat → Int32) → Int32} {m m1 m2 m' : Sg} {j w u : Nat} {a a1 a2 a3 a4 r law x mo : Int32} {f f' f0 F G K g g' : Nat → Int32} {nc ne c d e t M n i s l y h L q : Nat} {ts : List Nat}
theorem hd_in (h1 : 1 ≤ s) (h2 : s < 10) (h : hdN s L i < L) : s * hdN s L i ≤ i ∧ i < s * (hdN s L i + 1) := by
  unfold hdN at *
  split at h
  · omega
  · next z =>
    rw [if_neg z]
    rcases (show s = 1 ∨ s = 2 ∨ s = 3 ∨ s = 4 ∨ s = 5 ∨ s = 6 ∨ s = 7 ∨ s = 8 ∨ s = 9 by omega) with e | e | e | e | e | e | e | e | e <;> subst e <;> omega
theorem hd_le : hdN s L i ≤ L := by
  unfold hdN
  split <;> omega
theorem hd_s (h1 : 1 ≤ s) (h2 : s < 10) : hdN s L (i + 1) = if hdN s L i < L ∧ i + 1 = s * (hdN s L i + 1) then hdN s L i + 1 else hdN s L i := by
  unfold hdN
  rcases (show s = 1 ∨ s = 2 ∨ s = 3 ∨ s = 4 ∨ s = 5 ∨ s = 6 ∨ s = 7 ∨ s = 8 ∨ s = 9 by omega) with e | e | e | e | e | e | e | e | e <;> subst e <;> · split <;> split <;> split <;> omega
theorem rt_end (k w b : Int32) : (k ||| b) &&& ((w &&& (b ^^^ (-1))) ^^^ (-1)) = (k &&& (w ^^^ (-1))) ||| b := by
  apply i32_ext
  intro t ht
  rw [b0_and ht, b0_or ht, b0_not ht, b0_and ht, b0_not ht, b0_or ht, b0_and ht, b0_not ht]
  generalize b0 k t = P
  generalize b0 w t = Q
  generalize b0 b t = R
  by_cases h1 : P <;> by_cases h2 : Q <;> by_cases h3 : R <;> simp [h1, h2, h3]
def MI (f0 : Nat → Int32) (nc ne B c s : Nat) (ts : List Nat) (i : Nat) (F : Nat → Int32) (y : Nat) : Prop := EP c (km f0 nc ne i) F ∧ rt F c = RtH f0 c ts (hdN s ts.length i) ∧ (hdN s ts.length i < ts.length → kd F c 6 = nI (tA ts (hdN s ts.length i)) ∧ kd F c 7 = nI (s * (hdN s ts.length i + 1) - i) ∧ y = hdN s ts.length i + 1) ∧ (¬ hdN s ts.length i < ts.length → kd F c 6 = -1 ∧ kd F c 7 = 0 ∧ y = ts.length) ∧ F 98 = rlK f0 nc ne c s ts i ∧ WF F nc ne (B + i)
/-- what is fixed of a plan -/
def PB (f0 : Nat → Int32) (nc ne B c s : Nat) (ts : List Nat) : Prop := WF f0 nc ne B ∧ B ≤ 40000 ∧ c < nc ∧ kd f0 c 6 = -1 ∧ kd f0 c 7 = 0 ∧ kd f0 c 4 = nI s ∧ 1 ≤ s ∧ s < 10 ∧ ts.length ≤ 3 ∧ ∀ j, j < ts.length → tA ts j < 9
theorem asK_m1 (hf : WF f nc ne B) : asK f nc ne c M = -1 ↔ trK f nc ne M = -1 := by
  unfold asK
  constructor
  · intro h
    by_cases q : trK f nc ne M = -1
    · exact q
    · rw [if_neg q] at h
      exfalso
      obtain ⟨e, he, h2⟩ : ∃ e, e < ne ∧ trK f nc ne M = nI e := by
        rcases trW_I (f := km f nc ne M) (a := 0) (n := ne) with z | z
        · exact absurd z q
        · exact z
      have hn4 := hf.2.1
      rw [h2, nI_clamp (by omega)] at h
      obtain ⟨k, k1, k2⟩ := ((WF_km hf M).2.2.2.2.2.1 e he).2
      have ak : ∃ n, n < 512 ∧ ask (km f nc ne M) e = nI n := by
        unfold ask
        rw [k2]
        refine and_lt _ ?_
        have : 2 ^ k ≤ 2 ^ 9 := Nat.pow_le_pow_right (by decide) (by omega)
        omega
      obtain ⟨n, n1, n2⟩ := ak
      rw [n2] at h
      unfold bst at h
      split at h
      · obtain ⟨n', _, e'⟩ := and_lt (a := n) 341 n1
        rw [e'] at h
        exact nI_m1 (by omega) h
      · split at h
        · obtain ⟨n', _, e'⟩ := and_lt (a := n) 73 n1
          rw [e'] at h
          exact nI_m1 (by omega) h
        · exact nI_m1 (by omega) h
  · intro h
    rw [if_pos h]
theorem age_v (hf : WF f nc ne B) (hd : d < nc) : ∃ p, p ≤ 99 + B ∧ kd f d 0 = nI p ∧ ∀ M, kd (km f nc ne M) d 0 = nI (p + M) := by
  obtain ⟨p, p1, p2⟩ := (hf.2.2.2.2.1 d hd).1
  refine ⟨p, p1, p2, fun M => ?_⟩
  rw [km_age hf.1.2 hf.2.1 hd M, p2, nI_add]
/-- the ruler behind a month, by what was foreseen -/
theorem rul_K (hf : WF f0 nc ne B) (hB : B ≤ 40000) (hc : c < nc) (hM : M ≤ 100) (hE : EP c (km f0 nc ne M) G) (hr : isI (G 98) nc) : rbV G (G 98) (clT G (trW G 0 ne) nc) 0 = rbV f0 (G 98) (cmb f0 nc ne c M (rt G c)) (nI M) := by
  have hn8 := hf.1.2
  have hn4 := hf.2.1
  have hc8 : c < 8 := by omega
  have ag : ∀ d, d < nc → ∃ p, p ≤ 99 + B ∧ kd f0 d 0 = nI p ∧ kd G d 0 = nI (p + M) := by
    intro d hd
    obtain ⟨p, p1, p2, p3⟩ := age_v hf hd
    exact ⟨p, p1, p2, by rw [EP_age hE, p3]⟩
  have g92 : G 92 = f0 92 := by rw [EP_hi hE hc8 (by decide) (by decide), km_s hn8 hn4 M 92 rfl]
  have g5 : kd G c 5 = kd f0 c 5 := by
    have e1 : kd G c 5 = kd (km f0 nc ne M) c 5 := hE _ (by omega) (by omega) (by omega) (by omega) (by omega)
    rw [e1]
    refine km_s hn8 hn4 M _ ?_
    unfold stc
    rw [show (10 * c + 5) % 10 = 5 by omega, decide_eq_true (show 10 * c + 5 < 80 by omega)]; rfl
  obtain ⟨g, g1, g2⟩ := hf.2.2.2.2.2.2.1
  have clE : clT G (trW G 0 ne) nc = cmb f0 nc ne c M (rt G c) := by
    have etr : trW G 0 ne = trK f0 nc ne M := EP_tr hE hc8 hn4
    rw [etr]
    unfold clT cmb
    by_cases q : trK f0 nc ne M = -1
    · have q2 := (asK_m1 (c := c) hf).mpr q
      have mf : mayB f0 nc ne c M (rt G c) = false := by unfold mayB; rw [decide_eq_true q2]; rfl
      rw [if_pos q, mf, if_neg (by decide)]
      unfold clK
      rw [if_pos q]
    · have q2 : ¬ asK f0 nc ne c M = -1 := fun z => q ((asK_m1 (c := c) hf).mp z)
      obtain ⟨e, he, h2⟩ : ∃ e, e < ne ∧ trK f0 nc ne M = nI e := by
        rcases trW_I (f := km f0 nc ne M) (a := 0) (n := ne) with z | z
        · exact absurd z q
        · exact z
      have ea : ask G e = ask (km f0 nc ne M) e := EP_ask hE hc8 (by omega)
      have eas : asK f0 nc ne c M = bst (ask (km f0 nc ne M) e) (kd f0 c 5) := by unfold asK; rw [if_neg q, h2, nI_clamp (by omega)]
      have ecl : clK f0 nc ne c M = clM (km f0 nc ne M) (ask (km f0 nc ne M) e) (nI c) nc := by unfold clK; rw [if_neg q, h2, nI_clamp (by omega)]
      rw [if_neg q, h2, nI_clamp (by omega), ea]
      have cc := cl_cmb (f := G) (a := ask (km f0 nc ne M) e) hc8 (nc - (c + 1)) (by omega)
      rw [show c + 1 + (nc - (c + 1)) = nc by omega, EP_cl hE hc8 nc hn8, ← ecl] at cc
      rw [cc]
      have eps : psB G c (ask (km f0 nc ne M) e) = mayB f0 nc ne c M (rt G c) := by
        unfold psB mayB
        obtain ⟨p, p1, p2, p3⟩ := ag c hc
        have l1 : lck G c (ask (km f0 nc ne M) e) = asK f0 nc ne c M &&& (rt G c ^^^ (-1)) := by
          unfold lck rt
          rw [not_right, eas, g5]
        have l2 : G 92 ≤ kd G c 0 ↔ f0 92 - kd f0 c 0 ≤ nI M := by
          rw [g92, g2, p2, p3, Int32.le_iff_toInt_le, Int32.le_iff_toInt_le, pk_sub_toInt (by omega) (by omega), nI_toInt (by omega), nI_toInt (by omega), nI_toInt (by omega)]
          omega
        rw [l1, decide_eq_false q2]
        have : decide (G 92 ≤ kd G c 0) = decide (f0 92 - kd f0 c 0 ≤ nI M) := by
          by_cases z : G 92 ≤ kd G c 0
          · rw [decide_eq_true z, decide_eq_true (l2.mp z)]
          · rw [decide_eq_false z, decide_eq_false (fun y => z (l2.mpr y))]
        rw [this]
        simp [Bool.and_comm]
      rw [eps]
      have clI : isI (clK f0 nc ne c M) nc := by rw [ecl]; exact clM_I
      have ecm : cmZ G c (clK f0 nc ne c M) = if clK f0 nc ne c M = -1 then nI c else if gfB f0 c (clK f0 nc ne c M).toNatClampNeg = true then nI c else clK f0 nc ne c M := by
        unfold cmZ
        rcases clI with z | ⟨d, hd, z⟩
        · rw [z]; simp
        · rw [z, if_neg (n1e (show d < 9 by omega)), if_neg (n1e (show d < 9 by omega)), nI_clamp (by omega)]
          have : gfB G c d = gfB f0 c d := by
            obtain ⟨p, p1, p2, p3⟩ := ag c hc
            obtain ⟨p', p1', p2', p3'⟩ := ag d hd
            have i1 := gfB_iff (f := G) (c := c) (d := d)
            have i2 := gfB_iff (f := f0) (c := c) (d := d)
            rw [p3, p3', nI_toInt (by omega), nI_toInt (by omega)] at i1
            rw [p2, p2', nI_toInt (by omega), nI_toInt (by omega)] at i2
            cases y1 : gfB G c d <;> cases y2 : gfB f0 c d
            · rfl
            · rw [y1] at i1; rw [y2] at i2
              have := i2.mp rfl
              have := i1.mpr (by omega)
              cases this
            · rw [y1] at i1; rw [y2] at i2
              have := i1.mp rfl
              have := i2.mpr (by omega)
              cases this
            · rfl
          rw [this]
      rw [ecm]
  rw [clE]
  have cI : isI (cmb f0 nc ne c M (rt G c)) nc := by rw [← clE]; exact clT_I
  generalize cmb f0 nc ne c M (rt G c) = z at *
  unfold rbV
  rcases hr with h | ⟨r, hr, h⟩
  · rw [h]; simp
  · rw [h]
    obtain ⟨p, p1, p2, p3⟩ := ag r hr
    have r1 : ¬ nI r = -1 := n1e (by omega)
    rw [if_neg r1, if_neg r1, nI_clamp (by omega), g92, p3, p2, Int32.add_zero, nI_add]
    split
    · rfl
    · rcases cI with h | ⟨d, hd, h⟩
      · rw [h]; simp
      · rw [h]
        obtain ⟨p', p1', p2', p3'⟩ := ag d hd
        have d1 : ¬ nI d = -1 := n1e (by omega)
        rw [if_neg d1, if_neg d1, nI_clamp (by omega), p3', p2']
        by_cases y : p ≤ p'
        · rw [if_pos (nI_le (by omega) (by omega)), if_pos (nI_le y (by omega))]
        · rw [if_neg (nI_ge (by omega) (by omega)), if_neg (nI_ge (by omega) (by omega))]
theorem EP_of (h : EP c f f') (hg : ∀ k, k ≠ 10 * c + 6 → k ≠ 10 * c + 7 → g k = f' k) : EP c f g := fun k h1 h2 h6 h7 h98 => by rw [hg k h6 h7, h k h1 h2 h6 h7 h98]
theorem MI_step (hP : PB f0 nc ne B c s ts) (h : MI f0 nc ne B c s ts i F y) (hi : i < 24) (hy : ∀ j, j < ts.length → tA ts j < 9) : MI f0 nc ne B c s ts (i + 1) (mth (bmP F nc ne c ts y) nc ne) (nxY F c ts y) := by
  obtain ⟨hf, hB, hc, h6, h7, h4s, s1, s9, hL, hT⟩ := hP
  obtain ⟨e1, e2, e3, e4, e5, e6⟩ := h
  have hn8 := hf.1.2
  have hn4 := hf.2.1
  have hc8 : c < 8 := by omega
  have eb : EP c (km f0 nc ne (i + 1)) (bmo F nc ne) := EP_bmo e1 hn8 hn4 hc8
  have F4 : kd F c 4 = nI s := by
    have z1 : kd F c 4 = kd (km f0 nc ne i) c 4 := e1 _ (by omega) (by omega) (by omega) (by omega) (by omega)
    rw [z1, ← h4s]
    refine km_s hn8 hn4 i _ ?_
    unfold stc
    rw [show (10 * c + 4) % 10 = 4 by omega, decide_eq_true (show 10 * c + 4 < 80 by omega)]; rfl
  have bk : ∀ w, w < 10 → kd (bmo F nc ne) c w = bmV F c w := fun w hw => by rw [bmo_kd hn8 hn4 hc8 hw, if_pos hc]
  have hds := hd_s (L := ts.length) (i := i) s1 s9
  -- the row ahead of the ruler
  have main : ∃ G, bmP F nc ne c ts y = G ∧ EP c (km f0 nc ne (i + 1)) G ∧ rt G c = RtH f0 c ts (hdN s ts.length (i + 1)) ∧ (hdN s ts.length (i + 1) < ts.length → kd G c 6 = nI (tA ts (hdN s ts.length (i + 1))) ∧ kd G c 7 = nI (s * (hdN s ts.length (i + 1) + 1) - (i + 1)) ∧ nxY F c ts y = hdN s ts.length (i + 1) + 1) ∧ (¬ hdN s ts.length (i + 1) < ts.length → kd G c 6 = -1 ∧ kd G c 7 = 0 ∧ nxY F c ts y = ts.length) ∧ G 98 = rlK f0 nc ne c s ts i ∧ WF G nc ne (B + i + 1) := by
    have b98 : bmo F nc ne 98 = rlK f0 nc ne c s ts i := by rw [bmo_hi hn8 hn4 (by decide) (fun q _ => by omega) (by decide), e5]
    have wb := WF_bmo e6
    by_cases q : hdN s ts.length i < ts.length
    · obtain ⟨k6, k7, ky⟩ := e3 q
      obtain ⟨r1, r2⟩ := hd_in s1 s9 q
      have n6 : ¬ kd F c 6 = -1 := by rw [k6]; exact n1e (hT _ q)
      by_cases q1 : i + 1 = s * (hdN s ts.length i + 1)
      · have hd1 : hdN s ts.length (i + 1) = hdN s ts.length i + 1 := by rw [hds, if_pos ⟨q, q1⟩]
        have k71 : kd F c 7 = nI 1 := by rw [k7]; congr 1; omega
        have l0 : kd F c 7 - 1 ≤ 0 := by rw [k71]; decide
        have v1 : bmV F c 1 = kd F c 1 ||| tn (kd F c 6) := by
          show ln1 F c = _
          unfold ln1; rw [if_neg n6, if_pos l0]
        have v2 : bmV F c 2 = kd F c 2 &&& (tn (kd F c 6) ^^^ (-1)) := by
          show ln2 F c = _
          unfold ln2; rw [if_neg n6, if_pos l0]
        have rtb : kd (bmo F nc ne) c 1 &&& (kd (bmo F nc ne) c 2 ^^^ (-1)) = RtH f0 c ts (hdN s ts.length (i + 1)) := by
          rw [bk 1 (by decide), bk 2 (by decide), v1, v2, rt_end, hd1, RtH, ← e2, k6]; rfl
        rw [hd1] at rtb ⊢
        by_cases q2 : hdN s ts.length i + 1 < ts.length
        · have nx : nxt F c ts y = true := by
            unfold nxt
            rw [decide_eq_false n6, decide_eq_true l0, decide_eq_true (show y < ts.length by omega)]; rfl
          have eP : bmP F nc ne c ts y = bgL (bmo F nc ne) c (nI (tA ts y)) := by unfold bmP; rw [if_pos nx]
          have eY : nxY F c ts y = y + 1 := by unfold nxY; rw [if_pos nx]
          have ko : ∀ k, k ≠ 10 * c + 6 → k ≠ 10 * c + 7 → bgL (bmo F nc ne) c (nI (tA ts y)) k = bmo F nc ne k := fun k a b => by unfold bgL; rw [pk_un b, pk_un a]
          refine ⟨_, eP, EP_of eb ko, ?_, fun _ => ⟨?_, ?_, ?_⟩, fun z => absurd q2 z, ?_, WF_bgL wb hc (hT y (by omega))⟩
          · unfold rt
            have z1 : kd (bgL (bmo F nc ne) c (nI (tA ts y))) c 1 = kd (bmo F nc ne) c 1 := ko _ (by omega) (by omega)
            have z2 : kd (bgL (bmo F nc ne) c (nI (tA ts y))) c 2 = kd (bmo F nc ne) c 2 := ko _ (by omega) (by omega)
            rw [z1, z2]; exact rtb
          · have : kd (bgL (bmo F nc ne) c (nI (tA ts y))) c 6 = nI (tA ts y) := by unfold kd bgL; rw [pk_un (by omega), pk_us]
            rw [this, ky]
          · have : kd (bgL (bmo F nc ne) c (nI (tA ts y))) c 7 = kd (bmo F nc ne) c 4 := by unfold bgL; exact pk_us
            rw [this, bk 4 (by decide)]
            show kd F c 4 = _
            rw [F4, q1]
            congr 1
            rw [Nat.mul_add s (hdN s ts.length i + 1) 1]; omega
          · rw [eY, ky]
          · rw [ko 98 (by omega) (by omega), b98]
        · have nx : ¬ nxt F c ts y = true := by
            unfold nxt
            rw [decide_eq_false (show ¬ y < ts.length by omega)]; simp
          have eP : bmP F nc ne c ts y = bmo F nc ne := by unfold bmP; rw [if_neg nx]
          have eY : nxY F c ts y = y := by unfold nxY; rw [if_neg nx]
          refine ⟨_, eP, eb, rtb, fun z => absurd z q2, fun _ => ⟨?_, ?_, ?_⟩, b98, wb⟩
          · rw [bk 6 (by decide)]
            show ln6 F c = _
            unfold ln6; rw [if_neg n6, if_pos l0]
          · rw [bk 7 (by decide)]
            show ln7 F c = _
            unfold ln7; rw [if_neg n6, if_pos l0]
          · rw [eY]; omega
      · have hd1 : hdN s ts.length (i + 1) = hdN s ts.length i := by rw [hds, if_neg (fun z => q1 z.2)]
        have hq9 : s * (hdN s ts.length i + 1) - i ≤ 9 := by
          have : s * (hdN s ts.length i + 1) = s * hdN s ts.length i + s := Nat.mul_succ _ _
          omega
        have l0 : ¬ kd F c 7 - 1 ≤ 0 := by
          rw [k7]
          intro z
          have := (tg1 (k := s * (hdN s ts.length i + 1) - i) (by omega) (by omega)).mp z
          omega
        have nx : ¬ nxt F c ts y = true := by
          unfold nxt
          rw [decide_eq_false l0]; simp
        have eP : bmP F nc ne c ts y = bmo F nc ne := by unfold bmP; rw [if_neg nx]
        have eY : nxY F c ts y = y := by unfold nxY; rw [if_neg nx]
        rw [hd1]
        refine ⟨_, eP, eb, ?_, fun _ => ⟨?_, ?_, ?_⟩, fun z => absurd q z, b98, wb⟩
        · unfold rt
          rw [bk 1 (by decide), bk 2 (by decide)]
          show ln1 F c &&& (ln2 F c ^^^ (-1)) = _
          unfold ln1 ln2
          rw [if_neg n6, if_neg l0, if_neg n6, if_neg l0]; exact e2
        · rw [bk 6 (by decide)]
          show ln6 F c = _
          unfold ln6; rw [if_neg n6, if_neg l0, k6]
        · rw [bk 7 (by decide)]
          show ln7 F c = _
          unfold ln7
          rw [if_neg n6, if_neg l0, k7, show (1 : Int32) = nI 1 from rfl, pk_sub (by omega)]
          congr 1
        · rw [eY, ky]
    · obtain ⟨k6, k7, ky⟩ := e4 q
      have hd1 : hdN s ts.length (i + 1) = hdN s ts.length i := by rw [hds, if_neg (fun z => q z.1)]
      have nx : ¬ nxt F c ts y = true := by
        unfold nxt
        rw [decide_eq_true k6]; simp
      have eP : bmP F nc ne c ts y = bmo F nc ne := by unfold bmP; rw [if_neg nx]
      have eY : nxY F c ts y = y := by unfold nxY; rw [if_neg nx]
      rw [hd1]
      refine ⟨_, eP, eb, ?_, fun z => absurd z q, fun _ => ⟨?_, ?_, ?_⟩, b98, wb⟩
      · unfold rt
        rw [bk 1 (by decide), bk 2 (by decide)]
        show ln1 F c &&& (ln2 F c ^^^ (-1)) = _
        unfold ln1 ln2
        rw [if_pos k6, if_pos k6]; exact e2
      · rw [bk 6 (by decide)]
        show ln6 F c = _
        unfold ln6; rw [if_pos k6]
      · rw [bk 7 (by decide)]
        show ln7 F c = _
        unfold ln7; rw [if_pos k6, k7]
      · rw [eY, ky]
  obtain ⟨G, g0, g1, g2, g3, g4, g5, g6⟩ := main
  rw [g0]
  have k98 : ∀ w, w < 8 → kd (mth G nc ne) c w = kd G c w := fun w hw => pk_un (by omega)
  refine ⟨fun k a1 a2 a6 a7 a98 => ?_, ?_, fun z => ?_, fun z => ?_, ?_, WF_crn g6⟩
  · show upd G 98 _ k = _
    rw [pk_un a98]; exact g1 k a1 a2 a6 a7 a98
  · unfold rt
    rw [k98 1 (by decide), k98 2 (by decide)]; exact g2
  · rw [k98 6 (by decide), k98 7 (by decide)]; exact g3 z
  · rw [k98 6 (by decide), k98 7 (by decide)]; exact g4 z
  · show upd G 98 _ 98 = _
    rw [pk_us, rul_K hf hB hc (by omega) g1 g6.2.2.2.2.2.2.2.2.2.2, g5, g2]; rfl
end
