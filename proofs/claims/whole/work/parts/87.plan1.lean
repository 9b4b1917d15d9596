/-! plan: a month of the model with a pupil -/
section
variable {nl B B' : Nat} {ln : Nat → Nat} {V : Nat → (Nat → Int32) → Int32} {m m1 m2 m' : Sg} {j w u : Nat} {a a1 a2 a3 a4 r law x mo : Int32} {f f' f1 f2 g g' : Nat → Int32} {nc ne c d e t M n i s l y : Nat} {ts : List Nat}
def enD (f : Nat → Int32) (c : Nat) : Prop := ¬ kd f c 6 = -1 ∧ kd f c 7 - 1 ≤ 0
def tA (ts : List Nat) (j : Nat) : Nat := ts.getD j 0
/-- the row ahead of the ruler; the next of the row of tens begins -/
def nxt (f : Nat → Int32) (c : Nat) (ts : List Nat) (y : Nat) : Bool := !decide (kd f c 6 = -1) && (decide (kd f c 7 - 1 ≤ 0) && decide (y < ts.length))
def bmP (f : Nat → Int32) (nc ne c : Nat) (ts : List Nat) (y : Nat) : Nat → Int32 := if nxt f c ts y = true then bgL (bmo f nc ne) c (nI (tA ts y)) else bmo f nc ne
def nxY (f : Nat → Int32) (c : Nat) (ts : List Nat) (y : Nat) : Nat := if nxt f c ts y = true then y + 1 else y
def PR (m : Sg) (c : Nat) (ts : List Nat) (y : Nat) : Prop := m.1 27 34 = nI c ∧ m.1 27 35 = nI y ∧ m.1 27 36 = nI ts.length ∧ (∀ j, j < ts.length → m.1 40 j = nI (tA ts j) ∧ tA ts j < 9) ∧ ts.length ≤ 3 ∧ y ≤ ts.length
def lnP (f : Nat → Int32) (c : Nat) (ts : List Nat) (y : Nat) (v : Nat) : Int32 := if nxt f c ts y = true then (if v = 3 then nI (tA ts y) else if v = 4 then kd f c 4 else lnT f c v) else lnT f c v
theorem learnsP (hw : w ≠ 27) (hw2 : w ≠ 32) (hw3 : w ≠ 40) (hc : c < 8) (hp : PR m c ts y) (h1 : m.1 w (7 * c + 1) = kd f c 1) (h2 : m.1 w (7 * c + 2) = kd f c 2) (h3 : m.1 w (7 * c + 3) = kd f c 6) (h4 : m.1 w (7 * c + 4) = kd f c 7) (h32 : m.1 32 (6 * c + 4) = kd f c 4) (hq : kd f c 6 = -1 ∧ kd f c 7 = 0 ∨ (∃ a, a < 9 ∧ kd f c 6 = nI a) ∧ ∃ a, 1 ≤ a ∧ a < 10 ∧ kd f c 7 = nI a) :
    ∃ g', f_X11_learns w m (nI c) = some (stq m w g' (nI (nxY f c ts y))) ∧ (∀ v, 1 ≤ v → v ≤ 4 → g' (7 * c + v) = lnP f c ts y v) ∧ ∀ k, k < 7 * c + 1 ∨ 7 * c + 4 < k → g' k = m.1 w k := by
  obtain ⟨p1, p2, p3, p4, p5, p6⟩ := hp
  by_cases q : nxt f c ts y = true
  · have q' := q
    unfold nxt at q'
    simp at q'
    obtain ⟨n6, l0, ly⟩ := q'
    have e1 : nxY f c ts y = y + 1 := by unfold nxY; rw [if_pos q]
    have hle : ¬ m.1 27 36 ≤ m.1 27 35 := by rw [p2, p3]; exact nI_ge ly (by omega)
    rw [learns_e hw hc (by rw [h3]; exact n6) (by rw [h4]; exact l0), if_pos p1.symm, if_neg hle]
    have f1 : (wrr m w (lnE (m.1 w) c)).1 27 35 = nI y := by rw [wrr_ne hw.symm]; exact p2
    have f2 : (wrr m w (lnE (m.1 w) c)).1 40 y = nI (tA ts y) := by rw [wrr_ne hw3.symm]; exact (p4 y ly).1
    have b1 : f_X11_begins w (wrr m w (lnE (m.1 w) c)) (nI c) = some (stq m w (upd (upd (lnE (m.1 w) c) (7 * c + 3) (nI (tA ts y))) (7 * c + 4) (kd f c 4)) (nI (y + 1))) := by
      have g32 : ∀ z, (wr (wrr m w (lnE (m.1 w) c)) w (7 * c + 3) z).1 32 (6 * c + 4) = kd f c 4 := fun z => by rw [wr_ne hw2.symm, wrr_ne hw2.symm, h32]
      have g35 : ∀ z z2, (wr (wr (wrr m w (lnE (m.1 w) c)) w (7 * c + 3) z) w (7 * c + 4) z2).1 27 35 = nI y := fun z z2 => by rw [wr_ne hw.symm, wr_ne hw.symm, f1]
      simp only [f_X11_begins, f1, in_nI (show y < 3 by omega) (show 3 < 2 ^ 31 by decide), ↓reduceIte, i7_3 hc, t7_3 hc, nI_clamp (show y < 2 ^ 31 by omega), f2, bnd_eq, i6_4 hc, t6_4 hc, i7_4 hc, t7_4 hc, g32, g35, nI_1]
      rw [wr_wr, wr_wr]
      rfl
    rw [b1, calv_eq, e1]
    refine ⟨_, rfl, ?_, ?_⟩
    · intro v v1 v4
      unfold lnP
      rw [if_pos q]
      rcases (show v = 1 ∨ v = 2 ∨ v = 3 ∨ v = 4 by omega) with h | h | h | h <;> subst h
      · rw [if_neg (by decide), if_neg (by decide), pk_un (by omega), pk_un (by omega)]
        unfold lnE lnT ln1
        rw [if_pos rfl, if_neg n6, if_pos l0, pk_un (by omega), pk_un (by omega), pk_us, h1, h3]
      · rw [if_neg (by decide), if_neg (by decide), pk_un (by omega), pk_un (by omega)]
        unfold lnE lnT ln2
        rw [if_neg (by decide), if_pos rfl, if_neg n6, if_pos l0, pk_un (by omega), pk_us, h2, h3]
      · rw [if_pos rfl, pk_un (by omega), pk_us]
      · rw [if_neg (by decide), if_pos rfl, pk_us]
    · intro k hk
      unfold lnE
      rw [pk_un (by omega), pk_un (by omega), pk_un (by omega), pk_un (by omega), pk_un (by omega), pk_un (by omega)]
  · have e1 : nxY f c ts y = y := by unfold nxY; rw [if_neg q]
    have eP : ∀ v, lnP f c ts y v = lnT f c v := fun v => by unfold lnP; rw [if_neg q]
    have same : ∀ g', wrr m w g' = stq m w g' (nI (nxY f c ts y)) := fun g' => by rw [e1, ← p2]; exact wrr_stq hw
    simp only [eP]
    simp only [← same]
    rcases hq with ⟨q6, q7⟩ | ⟨⟨t, t1, t2⟩, ⟨k, k0, k1, k2⟩⟩
    · refine ⟨m.1 w, by rw [wrr_id]; exact learns_n hw hc (by rw [h3, q6]), ?_, fun _ _ => rfl⟩
      intro v v1 v4
      unfold lnT ln1 ln2 ln6 ln7
      rcases (show v = 1 ∨ v = 2 ∨ v = 3 ∨ v = 4 by omega) with h | h | h | h <;> subst h <;> simp [q6, h1, h2, h3, h4]
    · have n6 : ¬ kd f c 6 = -1 := by rw [t2]; exact nI_m1 (by omega)
      by_cases z : k = 1
      · subst z
        have l0 : kd f c 7 - 1 ≤ 0 := by rw [k2]; decide
        have ly : ¬ y < ts.length := by
          intro z
          apply q
          unfold nxt
          simp [n6, l0, z]
        have hle : m.1 27 36 ≤ m.1 27 35 := by rw [p2, p3]; exact nI_le (by omega) (by omega)
        refine ⟨lnE (m.1 w) c, by rw [learns_e hw hc (by rw [h3]; exact n6) (by rw [h4]; exact l0), if_pos p1.symm, if_pos hle], ?_, ?_⟩
        · intro v v1 v4
          unfold lnT ln1 ln2 ln6 ln7 lnE
          rcases (show v = 1 ∨ v = 2 ∨ v = 3 ∨ v = 4 by omega) with h | h | h | h <;> subst h
          · simp only [↓reduceIte]; rw [if_neg n6, if_pos l0, pk_un (by omega), pk_un (by omega), pk_us, h1, h3]
          · simp only [↓reduceIte]; rw [if_neg (by decide), if_neg n6, if_pos l0, pk_un (by omega), pk_us, h2, h3]
          · simp only [↓reduceIte]; rw [if_neg (by decide), if_neg (by decide), if_neg n6, if_pos l0, pk_us]
          · rw [if_neg (by decide), if_neg (by decide), if_neg (by decide), if_neg n6, if_pos l0, pk_un (by omega), pk_un (by omega), pk_un (by omega), pk_us, h4, k2]; rfl
        · intro k hk
          unfold lnE
          rw [pk_un (by omega), pk_un (by omega), pk_un (by omega), pk_un (by omega)]
      · have l0 : ¬ kd f c 7 - 1 ≤ 0 := by rw [k2]; exact fun q => z ((tg1 k0 k1).mp q)
        refine ⟨upd (m.1 w) (7 * c + 4) (m.1 w (7 * c + 4) - 1), by rw [learns_go hw hc (by rw [h3]; exact n6) (by rw [h4]; exact l0)]; rfl, ?_, ?_⟩
        · intro v v1 v4
          unfold lnT ln1 ln2 ln6 ln7
          rcases (show v = 1 ∨ v = 2 ∨ v = 3 ∨ v = 4 by omega) with h | h | h | h <;> subst h
          · simp only [↓reduceIte]; rw [if_neg n6, if_neg l0, pk_un (by omega), h1]
          · simp only [↓reduceIte]; rw [if_neg (by decide), if_neg n6, if_neg l0, pk_un (by omega), h2]
          · simp only [↓reduceIte]; rw [if_neg (by decide), if_neg (by decide), if_neg n6, if_neg l0, pk_un (by omega), h3]
          · rw [if_neg (by decide), if_neg (by decide), if_neg (by decide), if_neg n6, if_neg l0, pk_us, h4]
        · intro k hk
          rw [pk_un (by omega)]
theorem frontP (hv : CV (m.1 39) f) (hs : SV m f nc ne) (hf : WF f nc ne B) (hc : c < nc) (hp : PR m c ts y) : ∃ g3, f_X11_goMonth 39 m a1 = lpk (f_X11_goMonth_L123 39 a1) (stq m 39 g3 (nI (nxY f c ts y)), 0) (fun m30 => gmB 39 m30) ∧ CV g3 (bmP f nc ne c ts y) ∧ ∀ k, 61 ≤ k → g3 k = m.1 39 k := by
  have w27 : (39 : Nat) ≠ 27 := by decide
  have w34 : (39 : Nat) ≠ 34 := by decide
  have hn8 := hf.1.2
  have hn4 := hf.2.1
  have e60 : m.1 39 60 = f 97 := hv.2.2.1
  have hC := hs.2.2.2.2.2.1
  have hE := hs.2.2.2.2.2.2
  let g0 : Nat → Int32 := upd (m.1 39) 60 (f 97 + 1)
  have k0 : ∀ k, k ≠ 60 → g0 k = m.1 39 k := fun k hk => pk_un hk
  obtain ⟨m1, x1, g1, rfl, a1', b1⟩ := L10_v (m := wrr m 39 g0) (w := 39) (nc := nc) (by rw [wrr_ne w27.symm]; exact hC) hn8 w27
  rw [wrr_wrr, wrr_at] at *
  obtain ⟨m2, x2, g2, rfl, a2', b2⟩ := L38_v (m := wrr m 39 g1) (w := 39) (ne := ne) (f := f) (mo := f 97 + 1) (by rw [wrr_ne w27.symm]; exact hE) hn4 w27 w34 (fun e he => by rw [wrr_ne w34.symm]; exact (hs.2.1 e he).2) (by rw [wrr_at, b1 60 (by omega)]; exact pk_us) (fun e he => by
    rw [wrr_at, b1 _ (by omega), k0 _ (by omega)]
    exact ⟨hv.2.1 e (by omega), (hf.2.2.2.2.2.1 e he).2⟩)
  rw [wrr_wrr, wrr_at] at *
  have g2k : ∀ k, k < 56 → k % 7 ≠ 0 → g2 k = m.1 39 k := fun k h1 h2 => by rw [b2 k (by omega), b1 k (by omega), k0 k (by omega)]
  have y35 : m.1 27 35 = nI y := hp.2.1
  obtain ⟨m3, x3, g3, rfl, a3', b3⟩ := L101_v (m := m) (w := 39) (nc := nc) (Y := fun i => if c < i then nI (nxY f c ts y) else nI y) (T := fun i v => if i = c then lnP f c ts y v else lnT f i v) (g0 := g2) hC hn8 w27 (fun i hi g hg => by
    have hi8 : i < 8 := by omega
    obtain ⟨q1, q2, q3, q4, q5, q6⟩ := hv.1 i hi8
    by_cases z : i = c
    · subst z
      have ey : (if i < i then nI (nxY f i ts y) else nI y) = nI y := if_neg (by omega)
      have ey2 : (if i < i + 1 then nI (nxY f i ts y) else nI y) = nI (nxY f i ts y) := if_pos (by omega)
      rw [ey, ey2]
      have gg : ∀ v, 1 ≤ v → v ≤ 4 → (stq m 39 g (nI y)).1 39 (7 * i + v) = m.1 39 (7 * i + v) := fun v v1 v4 => by rw [stq_w w27, hg v v1 v4, g2k _ (by omega) (by omega)]
      have pr : PR (stq m 39 g (nI y)) i ts y := by
        obtain ⟨p1, p2, p3, p4, p5, p6⟩ := hp
        refine ⟨by rw [stq_27 w27 (by decide)]; exact p1, stq_35, by rw [stq_27 w27 (by decide)]; exact p3, fun j hj => ?_, p5, p6⟩
        rw [stq_p (by decide) (by decide)]; exact p4 j hj
      obtain ⟨g', p1, p2, p3⟩ := learnsP (m := stq m 39 g (nI y)) (w := 39) (c := i) (f := f) w27 (by decide) (by decide) hi8 pr (by rw [gg 1 (by decide) (by decide)]; exact q2) (by rw [gg 2 (by decide) (by decide)]; exact q3) (by rw [gg 3 (by decide) (by decide)]; exact q4) (by rw [gg 4 (by decide) (by decide)]; exact q5) (by rw [stq_p (by decide) (by decide)]; exact (hs.1 i hi).2.1) (hf.2.2.2.2.1 i hi).2.2.2.2.2.2.1
      refine ⟨g', ?_, fun v v1 v4 => by rw [if_pos rfl]; exact p2 v v1 v4, fun k hk => by rw [p3 k hk, stq_w w27]⟩
      rw [p1]
      unfold stq
      rw [wr_comm (by decide), wrr_wrr, wr_wr2]
    · have ey : (if c < i + 1 then nI (nxY f c ts y) else nI y) = (if c < i then nI (nxY f c ts y) else nI y) := by
        by_cases z2 : c < i
        · rw [if_pos z2, if_pos (by omega)]
        · rw [if_neg z2, if_neg (by omega)]
      rw [ey]
      generalize (if c < i then nI (nxY f c ts y) else nI y) = Yv
      have gg : ∀ v, 1 ≤ v → v ≤ 4 → (stq m 39 g Yv).1 39 (7 * i + v) = m.1 39 (7 * i + v) := fun v v1 v4 => by rw [stq_w w27, hg v v1 v4, g2k _ (by omega) (by omega)]
      obtain ⟨g', p1, p2, p3⟩ := learns_v (m := stq m 39 g Yv) (w := 39) (c := i) (f := f) w27 hi8 (by rw [stq_27 w27 (by decide), hp.1]; exact fun y => z ((nI_eq (by omega) (by omega)).mp y)) (by rw [gg 1 (by decide) (by decide)]; exact q2) (by rw [gg 2 (by decide) (by decide)]; exact q3) (by rw [gg 3 (by decide) (by decide)]; exact q4) (by rw [gg 4 (by decide) (by decide)]; exact q5) (hf.2.2.2.2.1 i hi).2.2.2.2.2.2.1
      exact ⟨g', by rw [p1, stq_wrr w27], fun v v1 v4 => by rw [if_neg z]; exact p2 v v1 v4, fun k hk => by rw [p3 k hk, stq_w w27]⟩)
  have eY0 : stq m 39 g2 (if c < 0 then nI (nxY f c ts y) else nI y) = wrr m 39 g2 := by rw [if_neg (by omega), ← y35]; exact (wrr_stq w27).symm
  have eYn : (if c < nc then nI (nxY f c ts y) else nI y) = nI (nxY f c ts y) := if_pos hc
  simp only [eY0, eYn] at x3
  refine ⟨g3, ?_, ?_, ?_⟩
  · rw [goMonth_eq, e60, show wr m 39 60 (f 97 + 1) = wrr m 39 g0 from rfl, lpk_of x1, lpk_of x2, lpk_of x3]
  · have c4 : ∀ d, d < 8 → ∀ w, w < 10 → kd (bmP f nc ne c ts y) d w = if d = c ∧ nxt f c ts y = true then (if w = 6 then nI (tA ts y) else if w = 7 then kd f c 4 else if d < nc then bmV f d w else kd f d w) else (if d < nc then bmV f d w else kd f d w) := by
      intro d hd w hw
      unfold bmP
      by_cases q : nxt f c ts y = true
      · rw [if_pos q]
        unfold bgL
        have k4 : kd (bmo f nc ne) c 4 = kd f c 4 := by rw [bmo_kd hn8 hn4 (by omega) (by decide), if_pos hc]; rfl
        by_cases z : d = c
        · subst z
          rw [if_pos ⟨rfl, q⟩, k4]
          by_cases w7 : w = 7
          · subst w7; rw [if_neg (by decide), if_pos rfl]; exact pk_us
          · by_cases w6 : w = 6
            · subst w6; rw [if_pos rfl]; unfold kd; rw [pk_un (by omega), pk_us]
            · rw [if_neg w6, if_neg w7]
              have : kd (upd (upd (bmo f nc ne) (10 * d + 6) (nI (tA ts y))) (10 * d + 7) (kd f d 4)) d w = kd (bmo f nc ne) d w := by
                unfold kd; rw [pk_un (by omega), pk_un (by omega)]
              rw [this, bmo_kd hn8 hn4 hd hw]
        · rw [if_neg (fun y => z y.1)]
          have : kd (upd (upd (bmo f nc ne) (10 * c + 6) (nI (tA ts y))) (10 * c + 7) (kd (bmo f nc ne) c 4)) d w = kd (bmo f nc ne) d w := by
            unfold kd; rw [pk_un (by omega), pk_un (by omega)]
          rw [this, bmo_kd hn8 hn4 hd hw]
      · rw [if_neg q, if_neg (fun y => q y.2), bmo_kd hn8 hn4 hd hw]
    have bhi : ∀ k, 80 ≤ k → bmP f nc ne c ts y k = bmo f nc ne k := by
      intro k hk
      unfold bmP bgL
      split
      · rw [pk_un (by omega), pk_un (by omega)]
      · rfl
    refine ⟨fun d hd => ?_, fun e he => ?_, ?_, ?_⟩
    · obtain ⟨q1, q2, q3, q4, q5, q6⟩ := hv.1 d hd
      rw [c4 d hd 0 (by decide), c4 d hd 1 (by decide), c4 d hd 2 (by decide), c4 d hd 6 (by decide), c4 d hd 7 (by decide), c4 d hd 8 (by decide)]
      rw [a3' d hd 1 (by decide) (by decide), a3' d hd 2 (by decide) (by decide), a3' d hd 3 (by decide) (by decide), a3' d hd 4 (by decide) (by decide), g2k _ (by omega) (by omega), g2k _ (by omega) (by omega), g2k _ (by omega) (by omega), g2k _ (by omega) (by omega), b3 (7 * d + 5) (by omega), g2k _ (by omega) (by omega), b3 (7 * d + 0) (by omega), b2 (7 * d + 0) (by omega)]
      have z0 : g1 (7 * d + 0) = if d < nc then kd f d 0 + 1 else kd f d 0 := by
        have := a1' d hd
        rw [k0 _ (by omega)] at this
        rw [show 7 * d + 0 = 7 * d from rfl, this, ← q1]; rfl
      rw [z0, q2, q3, q4, q5, q6]
      by_cases z : d = c
      · subst z
        simp only [if_pos hc]
        unfold lnP
        by_cases q : nxt f d ts y = true
        · refine ⟨?_, ?_, ?_, ?_, ?_, ?_⟩ <;> simp [q, lnT, bmV]
        · simp only [q, and_false, ↓reduceIte, Bool.false_eq_true]
          exact ⟨rfl, rfl, rfl, rfl, rfl, rfl⟩
      · simp only [z, false_and, ↓reduceIte]
        by_cases z2 : d < nc
        · simp only [if_pos z2]; exact ⟨rfl, rfl, rfl, rfl, rfl, rfl⟩
        · simp only [if_neg z2]; exact ⟨trivial, trivial, trivial, trivial, trivial, trivial⟩
    · have o : od (bmP f nc ne c ts y) e 2 = od (bmo f nc ne) e 2 := bhi _ (by omega)
      rw [o, bmo_od hn8 hn4 he, b3 _ (by omega), a2' e he, b1 _ (by omega), k0 _ (by omega), hv.2.1 e he]
    · rw [bhi 97 (by omega), bmo_97 hn8 hn4, b3 _ (by omega), b2 _ (by omega), b1 _ (by omega)]; exact pk_us
    · rw [bhi 98 (by omega), bmo_hi hn8 hn4 (by decide) (fun q _ => by omega) (by decide), b3 _ (by omega), b2 _ (by omega), b1 _ (by omega), k0 _ (by omega), hv.2.2.2]
  · intro k hk
    rw [b3 _ (by omega), b2 _ (by omega), b1 _ (by omega), k0 _ (by omega)]
theorem WF_bgL (hf : WF f nc ne B) (hc : c < nc) (ht : t < 9) : WF (bgL f c (nI t)) nc ne B := by
  obtain ⟨h1, h2, h3, h4, h5, h6, h7, h8, h9, h10, h11⟩ := hf
  have ko : ∀ k, k ≠ 10 * c + 6 → k ≠ 10 * c + 7 → bgL f c (nI t) k = f k := fun k a b => by unfold bgL; rw [pk_un b, pk_un a]
  have hi : ∀ k, 80 ≤ k → bgL f c (nI t) k = f k := fun k hk => ko k (by omega) (by omega)
  refine ⟨h1, h2, ?_, ?_, ?_, ?_, ?_, ?_, ?_, ?_, ?_⟩
  · rw [hi 95 (by omega)]; exact h3
  · rw [hi 96 (by omega)]; exact h4
  · intro c' hc'
    have kw : ∀ w, w < 10 → w ≠ 6 → w ≠ 7 → kd (bgL f c (nI t)) c' w = kd f c' w := fun w hw w1 w2 => ko _ (by omega) (by omega)
    obtain ⟨d0, d1, d2, d3, d4, d5, d6, d8⟩ := h5 c' hc'
    unfold wfC
    rw [kw 0 (by decide) (by decide) (by decide), kw 1 (by decide) (by decide) (by decide), kw 2 (by decide) (by decide) (by decide), kw 3 (by decide) (by decide) (by decide), kw 4 (by decide) (by decide) (by decide), kw 5 (by decide) (by decide) (by decide), kw 8 (by decide) (by decide) (by decide)]
    by_cases q : c' = c
    · subst q
      have k6 : kd (bgL f c' (nI t)) c' 6 = nI t := by unfold kd bgL; rw [pk_un (by omega), pk_us]
      have k7 : kd (bgL f c' (nI t)) c' 7 = kd f c' 4 := by unfold bgL; exact pk_us
      rw [k6, k7]
      exact ⟨d0, d1, d2, d3, d4, d5, Or.inr ⟨⟨t, ht, rfl⟩, d4⟩, d8⟩
    · have k6 : kd (bgL f c (nI t)) c' 6 = kd f c' 6 := ko _ (by omega) (by omega)
      have k7 : kd (bgL f c (nI t)) c' 7 = kd f c' 7 := ko _ (by omega) (by omega)
      rw [k6, k7]
      exact ⟨d0, d1, d2, d3, d4, d5, d6, d8⟩
  · intro e he
    have := h6 e he
    unfold wfE at this ⊢
    have o : ∀ w, od (bgL f c (nI t)) e w = od f e w := fun w => hi _ (by omega)
    rw [o 1, o 2]
    exact this
  · rw [hi 92 (by omega)]; exact h7
  · rw [hi 93 (by omega)]; exact h8
  · rw [hi 94 (by omega)]; exact h9
  · rw [hi 97 (by omega)]; exact h10
  · rw [hi 98 (by omega)]; exact h11
theorem StE_bgL {t : Int32} (hc : c < 8) : StE f (bgL f c t) := by
  intro k hk
  unfold bgL
  rw [pk_un, pk_un] <;> · intro z; subst z; unfold stc at hk; simp at hk; omega
def TP (nl : Nat) (ln : Nat → Nat) (V : Nat → (Nat → Int32) → Int32) (nc ne B : Nat) (m : Sg) (f : Nat → Int32) (c : Nat) (ts : List Nat) (y : Nat) : Prop := CV (m.1 39) f ∧ SV m f nc ne ∧ WF f nc ne B ∧ LR nl ln V m ∧ nl ≤ 4 ∧ isI (m.1 27 31) nl ∧ (∃ n, n ≤ 60 ∧ m.1 39 63 = nI n) ∧ PR m c ts y
theorem TP_go (h : TP nl ln V nc ne B m f c ts y) (hc : c < nc) : ∃ m', f_X11_goMonth 39 m 0 = some m' ∧ TP nl ln V nc ne (B + 1) m' (mth (bmP f nc ne c ts y) nc ne) c ts (nxY f c ts y) ∧ Fr tS m m' := by
  obtain ⟨hv, hs, hf, hl, h4, hi, ⟨n, n1, n2⟩, hp⟩ := h
  have hn8 := hf.1.2
  have hn4 := hf.2.1
  have hc8 : c < 8 := by omega
  obtain ⟨g3, e3, c3, k3⟩ := frontP (a1 := 0) hv hs hf hc hp
  have wfP : WF (bmP f nc ne c ts y) nc ne (B + 1) := by
    unfold bmP
    split
    · next q =>
      have ly : y < ts.length := by unfold nxt at q; simp at q; exact q.2.2
      exact WF_bgL (WF_bmo hf) hc (hp.2.2.2.1 y ly).2
    · exact WF_bmo hf
  have stP : StE f (bmP f nc ne c ts y) := by
    unfold bmP
    split
    · exact fun k hk => by rw [StE_bgL hc8 k hk, StE_bmo hn8 hn4 k hk]
    · exact StE_bmo hn8 hn4
  let m3 := stq m 39 g3 (nI (nxY f c ts y))
  have w27 : (39 : Nat) ≠ 27 := by decide
  have r39 : m3.1 39 = g3 := stq_w w27
  have rp : ∀ p, p ≠ 39 → p ≠ 27 → m3.1 p = m.1 p := fun p a b => stq_p a b
  have r27 : ∀ k, k ≠ 35 → m3.1 27 k = m.1 27 k := fun k a => stq_27 w27 a
  have sv3 : SV m3 (bmP f nc ne c ts y) nc ne := SV_st hs stP hn8 hn4 (rp 32 (by decide) (by decide)) (rp 34 (by decide) (by decide)) (rp 36 (by decide) (by decide)) (r27 24 (by decide)) (r27 25 (by decide))
  have lr3 : LR nl ln V m3 := fun k hk => by rw [rp (46 + 3 * k) (by omega) (by omega), rp 29 (by decide) (by decide), rp 30 (by decide) (by decide)]; exact hl k hk
  obtain ⟨m', g', p1, p2, p3, p4, p5, p6, p7, p8⟩ := gmB_v (m := m3) (w := 39) (f := bmP f nc ne c ts y) (n := n) (Or.inr rfl) (by rw [r39]; exact c3) sv3 wfP lr3 h4 (by rw [r27 31 (by decide)]; exact hi) (by rw [r39, k3 63 (by decide)]; exact n2) n1
  have d1 : f_X11_goMonth 39 m 0 = some m' := by rw [e3, L123_0 (show m3.1 27 24 = nI nc by rw [r27 24 (by decide)]; exact hs.2.2.2.2.2.1) hn8]; exact p1
  have fr : Fr tS m m' := fr_X11_goMonth (S := tS) (fun _ => rfl) rfl rfl rfl rfl rfl rfl rfl rfl rfl rfl rfl (fun _ => rfl) d1
  have y' : m'.1 27 35 = nI (nxY f c ts y) := by
    rw [p8]; exact stq_35
  have mf : WF (mth (bmP f nc ne c ts y) nc ne) nc ne (B + 1) := WF_crn wfP
  have st : StE f (mth (bmP f nc ne c ts y) nc ne) := StE_98 stP
  refine ⟨m', d1, ⟨?_, ?_, mf, ?_, h4, ?_, ?_, ?_⟩, fr⟩
  · rw [p2]
    exact CV_6 p3 (fun k hk _ => wrG_lo (by omega))
  · refine SV_st hs st hn8 hn4 ?_ ?_ ?_ ?_ ?_
    · exact funext fun k => fr.1 32 k rfl
    · exact funext fun k => fr.1 34 k rfl
    · exact funext fun k => fr.1 36 k rfl
    · exact fr.1 27 24 rfl
    · exact fr.1 27 25 rfl
  · intro k hk
    have r29 : m'.1 29 = m.1 29 := funext fun k => fr.1 29 k rfl
    have r30 : m'.1 30 = m.1 30 := funext fun k => fr.1 30 k rfl
    have rc : m'.1 (46 + 3 * k) = m.1 (46 + 3 * k) := funext fun q => fr.1 _ q (by unfold tS; simp; omega)
    rw [r29, r30, rc]
    exact hl k hk
  · rw [fr.1 27 31 rfl]; exact hi
  · obtain ⟨q, q1, q2⟩ := wrG_63 (g := g') (e := trW (bmP f nc ne c ts y) 0 ne) (p := pdV V (m3.1 27 31) (crn (bmP f nc ne c ts y) (trW (bmP f nc ne c ts y) 0 ne) nc)) n1
    exact ⟨q, q1, by rw [p2]; exact q2⟩
  · obtain ⟨a1, a2, a3, a4, a5, a6⟩ := hp
    refine ⟨by rw [fr.1 27 34 rfl]; exact a1, y', by rw [fr.1 27 36 rfl]; exact a3, fun j hj => ?_, a5, ?_⟩
    · rw [fr.1 40 j rfl]; exact a4 j hj
    · unfold nxY
      split
      · next q => unfold nxt at q; simp at q; exact q.2.2
      · exact a6
end
