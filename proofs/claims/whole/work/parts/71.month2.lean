/-! a month: the model's row, what comes ahead of the ruler -/
section
variable {nl B B' : Nat} {ln : Nat → Nat} {m m1 m2 m' : Sg} {j w u : Nat} {a a1 a2 a3 r s law x mo y : Int32} {f f' g g' lg lg' : Nat → Int32} {nc ne c e t M M' A nx n : Nat}
theorem lpO_inv {σ χ : Type} {step : σ → Option (χ ⊕ σ)} (I : Nat → σ → Prop) (E : χ → Prop) (n : Nat) (s0 : σ) (h0 : I 0 s0) (hs : ∀ i s, i < n → I i s → ∃ s', step s = some (.inr s') ∧ I (i + 1) s') (he : ∀ s, I n s → ∃ x, step s = some (.inl x) ∧ E x) (hn : n < 1000000) : ∃ x, lpO step fu s0 = some x ∧ E x := by
  have key : ∀ k i s fuel, i + k = n → k < fuel → I i s → ∃ x, lpO step fuel s = some x ∧ E x := by
    intro k
    induction k with
    | zero =>
      intro i s fuel hi hk hI
      cases fuel with
      | zero => omega
      | succ fuel =>
        obtain ⟨x, x1, x2⟩ := he s (by rw [show n = i by omega]; exact hI)
        exact ⟨x, by rw [lpO, x1], x2⟩
    | succ k ih =>
      intro i s fuel hi hk hI
      cases fuel with
      | zero => omega
      | succ fuel =>
        obtain ⟨s', s1, s2⟩ := hs i s (by omega) hI
        obtain ⟨x, x1, x2⟩ := ih (i + 1) s' fuel (by omega) (by omega) s2
        exact ⟨x, by rw [lpO, s1]; exact x1, x2⟩
  exact key n 0 s0 fu (by omega) hn h0
theorem i7z {c : Nat} (hc : c < 8) : inr (7 * nI c + 0) 244 = true := i7_0 hc
theorem L10_v (hC : m.1 27 24 = nI nc) (hn : nc ≤ 8) (hw : w ≠ 27) : ∃ m', lpO (f_X11_goMonth_L10 w) fu (m, 0) = some m' ∧ ∃ g', m' = wrr m w g' ∧ (∀ c, c < 8 → g' (7 * c) = if c < nc then m.1 w (7 * c) + 1 else m.1 w (7 * c)) ∧ ∀ k, k % 7 ≠ 0 ∨ 56 ≤ k → g' k = m.1 w k := by
  refine lpO_inv (fun i s => ∃ g', s = (wrr m w g', nI i) ∧ (∀ c, c < 8 → g' (7 * c) = if c < i then m.1 w (7 * c) + 1 else m.1 w (7 * c)) ∧ ∀ k, k % 7 ≠ 0 ∨ 56 ≤ k → g' k = m.1 w k) _ nc (m, 0) ?_ ?_ ?_ (by omega)
  · exact ⟨m.1 w, by rw [wrr_id]; rfl, fun c _ => by rw [if_neg (by omega)], fun _ _ => rfl⟩
  · rintro i s hi ⟨g', rfl, h1, h2⟩
    have hi8 : i < 8 := by omega
    refine ⟨(wrr m w (upd g' (7 * i) (g' (7 * i) + 1)), nI (i + 1)), ?_, _, rfl, ?_, ?_⟩
    · simp only [f_X11_goMonth_L10, wrr_ne hw.symm, hC, if_neg (ix_lt hi (show nc < 2 ^ 31 by omega)), i7_0 hi8, t7_0 hi8, ↓reduceIte, bnd_eq, nI_1, wrr_at, wr_wr]
      rfl
    · intro c hc
      by_cases q : c = i
      · subst q; rw [pk_us, if_pos (by omega), h1 c hc, if_neg (by omega)]
      · rw [pk_un (by omega), h1 c hc]
        by_cases z : c < i
        · rw [if_pos z, if_pos (by omega)]
        · rw [if_neg z, if_neg (by omega)]
    · intro k hk
      rw [pk_un (by omega), h2 k hk]
  · rintro s ⟨g', rfl, h1, h2⟩
    refine ⟨wrr m w g', ?_, g', rfl, h1, h2⟩
    simp only [f_X11_goMonth_L10, wrr_ne hw.symm, hC, if_pos (nI_le (Nat.le_refl nc) (show nc < 2 ^ 31 by omega))]
theorem hob_v {k : Nat} (hk : k < 10) : ∃ h : Int32, f_J6_highestOneBit_0f7a4 m (nI (2 ^ k - 1)) = some (h, m) ∧ nI (2 ^ k - 1) &&& (h ^^^ (-1 : Int32)) = nI (2 ^ k - 1) >>> ((1 : Int32) &&& 31) := by
  rcases (show k = 0 ∨ k = 1 ∨ k = 2 ∨ k = 3 ∨ k = 4 ∨ k = 5 ∨ k = 6 ∨ k = 7 ∨ k = 8 ∨ k = 9 by omega) with h | h | h | h | h | h | h | h | h | h <;> subst h
  · refine ⟨0, ?_, by decide⟩
    simp only [f_J6_highestOneBit_0f7a4, f_J6_numberOfLeadingZeros_0f7a4, bnd_eq]
    repeat (first | rw [if_pos (by decide)] | rw [if_neg (by decide)])
    rw [cal_eq]
    exact congrArg (fun z => some (z, m)) (by decide)
  · refine ⟨1, ?_, by decide⟩
    simp only [f_J6_highestOneBit_0f7a4, f_J6_numberOfLeadingZeros_0f7a4, bnd_eq]
    repeat (first | rw [if_pos (by decide)] | rw [if_neg (by decide)])
    rw [cal_eq]
    exact congrArg (fun z => some (z, m)) (by decide)
  · refine ⟨2, ?_, by decide⟩
    simp only [f_J6_highestOneBit_0f7a4, f_J6_numberOfLeadingZeros_0f7a4, bnd_eq]
    repeat (first | rw [if_pos (by decide)] | rw [if_neg (by decide)])
    rw [cal_eq]
    exact congrArg (fun z => some (z, m)) (by decide)
  · refine ⟨4, ?_, by decide⟩
    simp only [f_J6_highestOneBit_0f7a4, f_J6_numberOfLeadingZeros_0f7a4, bnd_eq]
    repeat (first | rw [if_pos (by decide)] | rw [if_neg (by decide)])
    rw [cal_eq]
    exact congrArg (fun z => some (z, m)) (by decide)
  · refine ⟨8, ?_, by decide⟩
    simp only [f_J6_highestOneBit_0f7a4, f_J6_numberOfLeadingZeros_0f7a4, bnd_eq]
    repeat (first | rw [if_pos (by decide)] | rw [if_neg (by decide)])
    rw [cal_eq]
    exact congrArg (fun z => some (z, m)) (by decide)
  · refine ⟨16, ?_, by decide⟩
    simp only [f_J6_highestOneBit_0f7a4, f_J6_numberOfLeadingZeros_0f7a4, bnd_eq]
    repeat (first | rw [if_pos (by decide)] | rw [if_neg (by decide)])
    rw [cal_eq]
    exact congrArg (fun z => some (z, m)) (by decide)
  · refine ⟨32, ?_, by decide⟩
    simp only [f_J6_highestOneBit_0f7a4, f_J6_numberOfLeadingZeros_0f7a4, bnd_eq]
    repeat (first | rw [if_pos (by decide)] | rw [if_neg (by decide)])
    rw [cal_eq]
    exact congrArg (fun z => some (z, m)) (by decide)
  · refine ⟨64, ?_, by decide⟩
    simp only [f_J6_highestOneBit_0f7a4, f_J6_numberOfLeadingZeros_0f7a4, bnd_eq]
    repeat (first | rw [if_pos (by decide)] | rw [if_neg (by decide)])
    rw [cal_eq]
    exact congrArg (fun z => some (z, m)) (by decide)
  · refine ⟨128, ?_, by decide⟩
    simp only [f_J6_highestOneBit_0f7a4, f_J6_numberOfLeadingZeros_0f7a4, bnd_eq]
    repeat (first | rw [if_pos (by decide)] | rw [if_neg (by decide)])
    rw [cal_eq]
    exact congrArg (fun z => some (z, m)) (by decide)
  · refine ⟨256, ?_, by decide⟩
    simp only [f_J6_highestOneBit_0f7a4, f_J6_numberOfLeadingZeros_0f7a4, bnd_eq]
    repeat (first | rw [if_pos (by decide)] | rw [if_neg (by decide)])
    rw [cal_eq]
    exact congrArg (fun z => some (z, m)) (by decide)
theorem L38_v (hE : m.1 27 25 = nI ne) (hn : ne ≤ 4) (hw : w ≠ 27) (hw2 : w ≠ 34) (h34 : ∀ e, e < ne → m.1 34 (3 * e + 1) = od f e 1) (h60 : m.1 w 60 = mo) (hk : ∀ e, e < ne → m.1 w (56 + e) = od f e 2 ∧ ∃ k, k < 10 ∧ od f e 2 = nI (2 ^ k - 1)) : ∃ m', lpO (f_X11_goMonth_L38 w) fu (m, 0) = some m' ∧ ∃ g', m' = wrr m w g' ∧ (∀ e, e < 4 → g' (56 + e) = if e < ne then elV f mo e else m.1 w (56 + e)) ∧ ∀ k, k < 56 ∨ 60 ≤ k → g' k = m.1 w k := by
  refine lpO_inv (fun i s => ∃ g', s = (wrr m w g', nI i) ∧ (∀ e, e < 4 → g' (56 + e) = if e < i then elV f mo e else m.1 w (56 + e)) ∧ ∀ k, k < 56 ∨ 60 ≤ k → g' k = m.1 w k) _ ne (m, 0) ?_ ?_ ?_ (by omega)
  · exact ⟨m.1 w, by rw [wrr_id]; rfl, fun c _ => by rw [if_neg (by omega)], fun _ _ => rfl⟩
  · rintro i s hi ⟨g', rfl, h1, h2⟩
    have hi4 : i < 4 := by omega
    obtain ⟨k1, k, k2, k3⟩ := hk i hi
    have g56 : g' (56 + i) = od f i 2 := by rw [h1 i hi4, if_neg (by omega), k1]
    have g60 : g' 60 = mo := by rw [h2 60 (by omega), h60]
    obtain ⟨hb, hb1, hb2⟩ := hob_v (m := wrr m w g') k2
    have st : f_X11_goMonth_L38 w (wrr m w g', nI i) = some (.inr (wrr m w (upd g' (56 + i) (elV f mo i)), nI (i + 1))) := by
      simp only [f_X11_goMonth_L38, wrr_ne hw.symm, hE, if_neg (ix_lt hi (show ne < 2 ^ 31 by omega)), i3_1 hi4, t3_1 hi4, wrr_ne hw2.symm, h34 i hi, i56 hi4, t56 hi4, ↓reduceIte, bnd_eq, nI_1, wrr_at, wr_wr, g56, g60]
      have same : upd g' (56 + i) (od f i 2) = g' := by
        funext q
        by_cases z : q = 56 + i
        · rw [z, pk_us, g56]
        · rw [pk_un z]
      unfold elV
      by_cases q1 : od f i 1 ≤ 0
      · rw [if_pos q1, if_pos q1, same]
      · have q0 : ¬ od f i 1 = 0 := fun z => q1 (by rw [z]; exact Int32.le_refl 0)
        rw [if_neg q1, if_neg q1, decide_eq_false q0, if_pos (show (!false) = true from rfl)]
        by_cases q2 : mo - mo / od f i 1 * od f i 1 = 0
        · rw [if_pos q2, if_pos q2, k3, hb1, cal_eq, hb2, wr_wr]
        · rw [if_neg q2, if_neg q2, same]
    refine ⟨_, st, _, rfl, ?_, ?_⟩
    · intro e he
      by_cases q : e = i
      · subst q; rw [pk_us, if_pos (by omega)]
      · rw [pk_un (by omega), h1 e he]
        by_cases z : e < i
        · rw [if_pos z, if_pos (by omega)]
        · rw [if_neg z, if_neg (by omega)]
    · intro q hq
      rw [pk_un (by omega), h2 q hq]
  · rintro s ⟨g', rfl, h1, h2⟩
    refine ⟨wrr m w g', ?_, g', rfl, h1, h2⟩
    simp only [f_X11_goMonth_L38, wrr_ne hw.symm, hE, if_pos (nI_le (Nat.le_refl ne) (show ne < 2 ^ 31 by omega))]
/-- the row and the number of the next ten -/
def stq (m : Sg) (w : Nat) (g : Nat → Int32) (y : Int32) : Sg := wr (wrr m w g) 27 35 y
theorem stq_w (hw : w ≠ 27) : (stq m w g y).1 w = g := by unfold stq; rw [wr_ne hw, wrr_at]
theorem stq_p {p : Nat} (h : p ≠ w) (h2 : p ≠ 27) : (stq m w g y).1 p = m.1 p := by unfold stq; rw [wr_ne h2, wrr_ne h]
theorem stq_27 {k : Nat} (hw : w ≠ 27) (h : k ≠ 35) : (stq m w g y).1 27 k = m.1 27 k := by unfold stq; rw [wr_at, pk_un h, wrr_ne hw.symm]
theorem stq_35 : (stq m w g y).1 27 35 = y := by unfold stq; rw [wr_at, pk_us]
theorem stq_wr {k : Nat} (hw : w ≠ 27) : wr (stq m w g y) w k x = stq m w (upd g k x) y := by
  unfold stq
  rw [wr_wrr, wr_ne hw, wrr_at, wr_comm hw.symm, wrr_wrr]
theorem stq_wrr (hw : w ≠ 27) : wrr (stq m w g y) w g' = stq m w g' y := by
  unfold stq
  rw [wr_comm hw.symm, wrr_wrr]
theorem stq_same (hw : w ≠ 27) : stq m w (m.1 w) (m.1 27 35) = m := by
  unfold stq
  rw [wrr_id, wr_same]
theorem wrr_stq (hw : w ≠ 27) : wrr m w g = stq m w g (m.1 27 35) := by
  unfold stq
  have : (wrr m w g).1 27 35 = m.1 27 35 := by rw [wrr_ne hw.symm]
  rw [← this, wr_same]
theorem L101_v {Y : Nat → Int32} {T : Nat → Nat → Int32} {g0 : Nat → Int32} (hC : m.1 27 24 = nI nc) (hn : nc ≤ 8) (hw : w ≠ 27)
    (hs : ∀ i, i < nc → ∀ g, (∀ v, 1 ≤ v → v ≤ 4 → g (7 * i + v) = g0 (7 * i + v)) → ∃ g', f_X11_learns w (stq m w g (Y i)) (nI i) = some (stq m w g' (Y (i + 1))) ∧ (∀ v, 1 ≤ v → v ≤ 4 → g' (7 * i + v) = T i v) ∧ ∀ k, k < 7 * i + 1 ∨ 7 * i + 4 < k → g' k = g k) :
    ∃ m', lpO (f_X11_goMonth_L101 w) fu (stq m w g0 (Y 0), 0) = some m' ∧ ∃ g', m' = stq m w g' (Y nc) ∧ (∀ c, c < 8 → ∀ v, 1 ≤ v → v ≤ 4 → g' (7 * c + v) = if c < nc then T c v else g0 (7 * c + v)) ∧ ∀ k, k % 7 = 0 ∨ 4 < k % 7 ∨ 56 ≤ k → g' k = g0 k := by
  refine lpO_inv (fun i s => ∃ g', s = (stq m w g' (Y i), nI i) ∧ (∀ c, c < 8 → ∀ v, 1 ≤ v → v ≤ 4 → g' (7 * c + v) = if c < i then T c v else g0 (7 * c + v)) ∧ ∀ k, k % 7 = 0 ∨ 4 < k % 7 ∨ 56 ≤ k → g' k = g0 k) _ nc (stq m w g0 (Y 0), 0) ?_ ?_ ?_ (by omega)
  · exact ⟨g0, rfl, fun c _ v _ _ => by rw [if_neg (by omega)], fun _ _ => rfl⟩
  · rintro i s hi ⟨g', rfl, h1, h2⟩
    obtain ⟨g2, e1, e2, e3⟩ := hs i hi g' (fun v v1 v4 => by rw [h1 i (by omega) v v1 v4, if_neg (by omega)])
    refine ⟨(stq m w g2 (Y (i + 1)), nI (i + 1)), ?_, g2, rfl, ?_, ?_⟩
    · simp only [f_X11_goMonth_L101, stq_27 hw (show 24 ≠ 35 by decide), hC, if_neg (ix_lt hi (show nc < 2 ^ 31 by omega)), e1, calv_eq, bnd_eq, nI_1]
    · intro c hc v v1 v4
      by_cases q : c = i
      · subst q; rw [e2 v v1 v4, if_pos (by omega)]
      · rw [e3 _ (by omega), h1 c hc v v1 v4]
        by_cases z : c < i
        · rw [if_pos z, if_pos (by omega)]
        · rw [if_neg z, if_neg (by omega)]
    · intro k hk
      rw [e3 k (by omega), h2 k hk]
  · rintro s ⟨g', rfl, h1, h2⟩
    refine ⟨stq m w g' (Y nc), ?_, g', rfl, h1, h2⟩
    simp only [f_X11_goMonth_L101, stq_27 hw (show 24 ≠ 35 by decide), hC, if_pos (nI_le (Nat.le_refl nc) (show nc < 2 ^ 31 by omega))]
/-- what a lesson leaves -/
def lnT (f : Nat → Int32) (c v : Nat) : Int32 := if v = 1 then ln1 f c else if v = 2 then ln2 f c else if v = 3 then ln6 f c else ln7 f c
theorem x7_1 {x : Int32} {c : Nat} (h : x = 7 * nI c) (hc : c < 8) : inr (x + 1) 244 = true ∧ (x + 1).toNatClampNeg = 7 * c + 1 := by subst h; exact ⟨i7_1 hc, t7_1 hc⟩
theorem learns_n (hw : w ≠ 27) (hc : c < 8) (h6 : m.1 w (7 * c + 3) = -1) : f_X11_learns w m (nI c) = some m := by
  simp only [f_X11_learns, bnd_eq, i7_3 hc, t7_3 hc, h6, ↓reduceIte]
theorem learns_go (hw : w ≠ 27) (hc : c < 8) (h6 : ¬ m.1 w (7 * c + 3) = -1) (h7 : ¬ m.1 w (7 * c + 4) - 1 ≤ 0) : f_X11_learns w m (nI c) = some (wr m w (7 * c + 4) (m.1 w (7 * c + 4) - 1)) := by
  have e : (wr m w (7 * c + 4) (m.1 w (7 * c + 4) - 1)).1 w (7 * c + 4) = m.1 w (7 * c + 4) - 1 := by rw [wr_at, pk_us]
  simp only [f_X11_learns, bnd_eq, i7_3 hc, t7_3 hc, i7_4 hc, t7_4 hc, if_neg h6, ↓reduceIte, e, if_neg h7]
/-- behind the last month of a lesson -/
def lnE (g : Nat → Int32) (c : Nat) : Nat → Int32 := upd (upd (upd (upd g (7 * c + 4) (g (7 * c + 4) - 1)) (7 * c + 1) (g (7 * c + 1) ||| tn (g (7 * c + 3)))) (7 * c + 2) (g (7 * c + 2) &&& (tn (g (7 * c + 3)) ^^^ (-1)))) (7 * c + 3) (-1)
theorem learns_e (hw : w ≠ 27) (hc : c < 8) (h6 : ¬ m.1 w (7 * c + 3) = -1) (h7 : m.1 w (7 * c + 4) - 1 ≤ 0) : f_X11_learns w m (nI c) = (if nI c = m.1 27 34 then (if m.1 27 36 ≤ m.1 27 35 then some (wrr m w (lnE (m.1 w) c)) else calv (f_X11_begins w (wrr m w (lnE (m.1 w) c)) (nI c)) (fun m6 => some m6)) else some (wrr m w (lnE (m.1 w) c))) := by
  have e4 : (wr m w (7 * c + 4) (m.1 w (7 * c + 4) - 1)).1 w (7 * c + 4) = m.1 w (7 * c + 4) - 1 := by rw [wr_at, pk_us]
  have e3 : ∀ y, (wr m w (7 * c + 4) y).1 w (7 * c + 3) = m.1 w (7 * c + 3) := fun y => by rw [wr_at, pk_un (by omega)]
  have e1 : ∀ y, (wr m w (7 * c + 4) y).1 w (7 * c + 1) = m.1 w (7 * c + 1) := fun y => by rw [wr_at, pk_un (by omega)]
  have e32 : ∀ y z, (wr (wr m w (7 * c + 4) y) w (7 * c + 1) z).1 w (7 * c + 3) = m.1 w (7 * c + 3) := fun y z => by rw [wr_at, pk_un (by omega), e3]
  have e22 : ∀ y z, (wr (wr m w (7 * c + 4) y) w (7 * c + 1) z).1 w (7 * c + 2) = m.1 w (7 * c + 2) := fun y z => by rw [wr_at, pk_un (by omega), wr_at, pk_un (by omega)]
  have fin : ∀ y z v, wr (wr (wr (wr m w (7 * c + 4) y) w (7 * c + 1) z) w (7 * c + 2) v) w (7 * c + 3) (-1) = wrr m w (upd (upd (upd (upd (m.1 w) (7 * c + 4) y) (7 * c + 1) z) (7 * c + 2) v) (7 * c + 3) (-1)) := by
    intro y z v
    rw [wr_wrr m, wr_wr, wr_wr, wr_wr]
  simp only [f_X11_learns, bnd_eq, i7_1 hc, t7_1 hc, i7_2 hc, t7_2 hc, i7_3 hc, t7_3 hc, i7_4 hc, t7_4 hc, if_neg h6, ↓reduceIte, e4, if_pos h7, e3, e1, e32, e22, fin, wrr_ne hw.symm]
  rfl
theorem tg1 {k : Nat} (k0 : 1 ≤ k) (k1 : k < 10) : nI k - 1 ≤ 0 ↔ k = 1 := by
  rw [show (1 : Int32) = nI 1 from rfl, pk_sub k0]
  constructor
  · intro h
    by_cases z : k = 1
    · exact z
    · exact absurd h (nI_nle (by omega) (by omega))
  · intro h; subst h; decide
/-- a month of a lesson of one who has no row -/
theorem learns_v (hw : w ≠ 27) (hc : c < 8) (hp : ¬ nI c = m.1 27 34) (h1 : m.1 w (7 * c + 1) = kd f c 1) (h2 : m.1 w (7 * c + 2) = kd f c 2) (h3 : m.1 w (7 * c + 3) = kd f c 6) (h4 : m.1 w (7 * c + 4) = kd f c 7) (hq : kd f c 6 = -1 ∧ kd f c 7 = 0 ∨ (∃ a, a < 9 ∧ kd f c 6 = nI a) ∧ ∃ a, 1 ≤ a ∧ a < 10 ∧ kd f c 7 = nI a) :
    ∃ g', f_X11_learns w m (nI c) = some (wrr m w g') ∧ (∀ v, 1 ≤ v → v ≤ 4 → g' (7 * c + v) = lnT f c v) ∧ ∀ k, k < 7 * c + 1 ∨ 7 * c + 4 < k → g' k = m.1 w k := by
  rcases hq with ⟨q6, q7⟩ | ⟨⟨t, t1, t2⟩, ⟨k, k0, k1, k2⟩⟩
  · refine ⟨m.1 w, by rw [wrr_id]; exact learns_n hw hc (by rw [h3, q6]), ?_, fun _ _ => rfl⟩
    intro v v1 v4
    unfold lnT ln1 ln2 ln6 ln7
    rcases (show v = 1 ∨ v = 2 ∨ v = 3 ∨ v = 4 by omega) with h | h | h | h <;> subst h <;> simp [q6, h1, h2, h3, h4]
  · have n6 : ¬ kd f c 6 = -1 := by rw [t2]; exact nI_m1 (by omega)
    by_cases z : k = 1
    · subst z
      have l0 : kd f c 7 - 1 ≤ 0 := by rw [k2]; decide
      refine ⟨lnE (m.1 w) c, by rw [learns_e hw hc (by rw [h3]; exact n6) (by rw [h4]; exact l0), if_neg hp], ?_, ?_⟩
      · intro v v1 v4
        unfold lnT ln1 ln2 ln6 ln7 lnE
        rcases (show v = 1 ∨ v = 2 ∨ v = 3 ∨ v = 4 by omega) with h | h | h | h <;> subst h
        · simp only [↓reduceIte]; rw [if_neg n6, if_pos l0, pk_un (by omega), pk_un (by omega), pk_us, h1, h3]
        · simp only [↓reduceIte]; rw [if_neg (by decide), if_neg n6, if_pos l0, pk_un (by omega), pk_us, h2, h3]
        · simp only [↓reduceIte]; rw [if_neg (by decide), if_neg (by decide), if_neg n6, if_pos l0, pk_us]
        · rw [if_neg (by decide), if_neg (by decide), if_neg (by decide), if_neg n6, if_pos l0, pk_un (by omega), pk_un (by omega), pk_un (by omega), pk_us, h4, k2]; rfl
      · intro k hk
        unfold lnE
        rw [pk_un (by omega), pk_un (by omega), pk_un (by omega), pk_un (by omega)]
    · have l0 : ¬ kd f c 7 - 1 ≤ 0 := by rw [k2]; exact fun q => z ((tg1 k0 k1).mp q)
      refine ⟨upd (m.1 w) (7 * c + 4) (m.1 w (7 * c + 4) - 1), by rw [learns_go hw hc (by rw [h3]; exact n6) (by rw [h4]; exact l0)]; rfl, ?_, ?_⟩
      · intro v v1 v4
        unfold lnT ln1 ln2 ln6 ln7
        rcases (show v = 1 ∨ v = 2 ∨ v = 3 ∨ v = 4 by omega) with h | h | h | h <;> subst h
        · simp only [↓reduceIte]; rw [if_neg n6, if_neg l0, pk_un (by omega), h1]
        · simp only [↓reduceIte]; rw [if_neg (by decide), if_neg n6, if_neg l0, pk_un (by omega), h2]
        · simp only [↓reduceIte]; rw [if_neg (by decide), if_neg (by decide), if_neg n6, if_neg l0, pk_un (by omega), h3]
        · rw [if_neg (by decide), if_neg (by decide), if_neg (by decide), if_neg n6, if_neg l0, pk_us, h4]
      · intro k hk
        rw [pk_un (by omega)]
end
