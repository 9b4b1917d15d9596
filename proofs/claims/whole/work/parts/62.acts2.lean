/-! acts by hand: teach, wrong, keep, buy -/
section
variable {nl B B' : Nat} {ln : Nat → Nat} {V : Nat → (Nat → Int32) → Int32} {m m1 m2 m4 : Sg} {j w : Nat} {a a1 a2 a3 r s law x : Int32} {f f' g g' lg lg' : Nat → Int32} {nc ne c e t M M' A nx : Nat}
theorem rmC_p {p : Nat} (h1 : p ≠ 16) (h2 : p ≠ 17) : (rmC m nx A).1 p = m.1 p := by
  unfold rmC; rw [wr_ne h1, wr_ne h1, wrr_ne h2]
theorem rmC_17 : (rmC m nx A).1 17 = va_cpy (m.1 4) (m.1 17) 0 (100 * nx) 100 := by
  unfold rmC; rw [wr_ne (by decide), wr_ne (by decide), wrr_at]
theorem rmC_16 {k : Nat} : (rmC m nx A).1 16 k = if k = 5 then nI (mn (A + 1) 40) else if k = 4 then nI ((nx + 1) % 40) else m.1 16 k := by
  unfold rmC
  rw [wr_at]
  by_cases h : k = 5
  · rw [h, pk_us, if_pos rfl]
  · rw [pk_un h, if_neg h, wr_at]
    by_cases h2 : k = 4
    · rw [h2, pk_us, if_pos rfl]
    · rw [pk_un h2, if_neg h2, wrr_ne (by decide)]
theorem rmM_p {p : Nat} (h1 : p ≠ 27) (h2 : p ≠ 41) : (rmM m A).1 p = m.1 p := by
  unfold rmM; rw [wr_ne h1, wrr_ne h2]
theorem rmM_41 : (rmM m A).1 41 = unR (m.1 41) (m.1 38) A := by
  unfold rmM; rw [wr_ne (by decide), wrr_at]
theorem rmM_27 {k : Nat} : (rmM m A).1 27 k = if k = 39 then nI (mn (A + 1) 40) else m.1 27 k := by
  unfold rmM
  rw [wr_at]
  by_cases h : k = 39
  · rw [h, pk_us, if_pos rfl]
  · rw [pk_un h, if_neg h, wrr_ne (by decide)]
/-- the component behind an act, and both behind it -/
def acC (m : Sg) (nx A : Nat) (f' : Nat → Int32) : Sg := wrr (rmC m nx A) 4 f'
def acT (m : Sg) (nx A : Nat) (f' : Nat → Int32) : Sg := wr (acC m nx A f') 27 0 0
def acM (m : Sg) (nx A : Nat) (f' g' : Nat → Int32) : Sg := wrr (rmM (acT m nx A f') A) 38 g'
theorem acC_p {p : Nat} (h1 : p ≠ 16) (h2 : p ≠ 17) (h3 : p ≠ 4) : (acC m nx A f').1 p = m.1 p := by
  unfold acC; rw [wrr_ne h3, rmC_p h1 h2]
theorem acC_4 : (acC m nx A f').1 4 = f' := wrr_at
theorem acC_16 {k : Nat} : (acC m nx A f').1 16 k = if k = 5 then nI (mn (A + 1) 40) else if k = 4 then nI ((nx + 1) % 40) else m.1 16 k := by
  unfold acC; rw [wrr_ne (by decide), rmC_16]
theorem acT_p {p : Nat} (h : p ≠ 27) : (acT m nx A f').1 p = (acC m nx A f').1 p := wr_ne h
theorem acT_27 {k : Nat} (h : k ≠ 0) : (acT m nx A f').1 27 k = m.1 27 k := by
  unfold acT; rw [wr_at, pk_un h, acC_p (by decide) (by decide) (by decide)]
theorem acT_38 : (acT m nx A f').1 38 = m.1 38 := by rw [acT_p (by decide), acC_p (by decide) (by decide) (by decide)]
theorem acT_32 : (acT m nx A f').1 32 = m.1 32 := by rw [acT_p (by decide), acC_p (by decide) (by decide) (by decide)]
theorem acT_36 : (acT m nx A f').1 36 = m.1 36 := by rw [acT_p (by decide), acC_p (by decide) (by decide) (by decide)]
theorem acM_p {p : Nat} (h1 : p ≠ 38) (h2 : p ≠ 27) (h3 : p ≠ 41) : (acM m nx A f' g').1 p = (acC m nx A f').1 p := by
  unfold acM; rw [wrr_ne h1, rmM_p h2 h3, acT_p h2]
theorem acM_27 {k : Nat} (h : k ≠ 0) (h2 : k ≠ 39) : (acM m nx A f' g').1 27 k = m.1 27 k := by
  unfold acM; rw [wrr_ne (by decide), rmM_27, if_neg h2, acT_27 h]
theorem acM_39 : (acM m nx A f' g').1 27 39 = nI (mn (A + 1) 40) := by
  unfold acM; rw [wrr_ne (by decide), rmM_27, if_pos rfl]
theorem acM_41 : (acM m nx A f' g').1 41 = unR (m.1 41) (m.1 38) A := by
  unfold acM; rw [wrr_ne (by decide), rmM_41, acT_38, acT_p (by decide), acC_p (by decide) (by decide) (by decide)]
theorem acM_38 : (acM m nx A f' g').1 38 = g' := wrr_at
theorem acM_q {p : Nat} (h1 : p ≠ 38) (h2 : p ≠ 27) (h3 : p ≠ 41) (h4 : p ≠ 16) (h5 : p ≠ 17) (h6 : p ≠ 4) : (acM m nx A f' g').1 p = m.1 p := by
  rw [acM_p h1 h2 h3, acC_p h4 h5 h6]
theorem acM_TL : TL m (acM m nx A f' g') := by
  have q : ∀ p, p ≠ 38 → p ≠ 27 → p ≠ 41 → p ≠ 16 → p ≠ 17 → p ≠ 4 → (acM m nx A f' g').1 p = m.1 p := fun p h1 h2 h3 h4 h5 h6 => acM_q h1 h2 h3 h4 h5 h6
  refine ⟨?_, ?_, ?_, ?_, ?_, ?_, ?_, ?_, ?_, ?_, ?_, ?_, ?_, ?_⟩
  · rw [q 0 (by decide) (by decide) (by decide) (by decide) (by decide) (by decide)]
  · rw [q 1 (by decide) (by decide) (by decide) (by decide) (by decide) (by decide)]
  · rw [q 2 (by decide) (by decide) (by decide) (by decide) (by decide) (by decide)]
  · rw [q 13 (by decide) (by decide) (by decide) (by decide) (by decide) (by decide)]
  · rw [q 13 (by decide) (by decide) (by decide) (by decide) (by decide) (by decide)]
  · exact acM_27 (by decide) (by decide)
  · exact acM_27 (by decide) (by decide)
  · exact acM_27 (by decide) (by decide)
  · exact acM_27 (by decide) (by decide)
  · exact acM_27 (by decide) (by decide)
  · rw [q 28 (by decide) (by decide) (by decide) (by decide) (by decide) (by decide)]
  · rw [q 29 (by decide) (by decide) (by decide) (by decide) (by decide) (by decide)]
  · rw [q 30 (by decide) (by decide) (by decide) (by decide) (by decide) (by decide)]
  · intro k
    rw [q (46 + 3 * k) (by omega) (by omega) (by omega) (by omega) (by omega) (by omega)]
theorem acM_Rel (R : Rel nl ln B m) (T : Told m nc ne B) (P : PastP m nc ne B M A nx) (L : LG (m.1 4) (m.1 38) (m.1 18) M) (hMB : M ≤ B) (F : FR f' g' nc ne B) (hst : StE (m.1 4) f') (L' : LG f' g' (m.1 18) M) : Rel nl ln B (acM m nx A f' g') := by
  have q : ∀ p, p ≠ 38 → p ≠ 27 → p ≠ 41 → p ≠ 16 → p ≠ 17 → p ≠ 4 → (acM m nx A f' g').1 p = m.1 p := fun p h1 h2 h3 h4 h5 h6 => acM_q h1 h2 h3 h4 h5 h6
  have e4 : (acM m nx A f' g').1 4 = f' := by rw [acM_p (by decide) (by decide) (by decide), acC_4]
  refine act_Rel R T P L hMB acM_TL (by rw [e4, acM_38]; exact F) (by rw [e4]; exact hst) (by rw [e4, acM_38]; exact L') ?_ acM_41 ?_ ?_ acM_39 ?_ (acM_27 (by decide) (by decide)) ?_ ?_ ?_ ?_ ?_ ?_ ?_ (acM_27 (by decide) (by decide)) (acM_27 (by decide) (by decide))
  · rw [acM_p (by decide) (by decide) (by decide)]; unfold acC; rw [wrr_ne (by decide), rmC_17]
  · rw [acM_p (by decide) (by decide) (by decide), acC_16, if_neg (by decide), if_pos rfl]
  · rw [acM_p (by decide) (by decide) (by decide), acC_16, if_pos rfl]
  · rw [acM_p (by decide) (by decide) (by decide), acC_16, if_neg (by decide), if_neg (by decide)]
  · rw [q 19 (by decide) (by decide) (by decide) (by decide) (by decide) (by decide)]
  · rw [q 43 (by decide) (by decide) (by decide) (by decide) (by decide) (by decide)]
  · rw [q 20 (by decide) (by decide) (by decide) (by decide) (by decide) (by decide)]
  · rw [q 18 (by decide) (by decide) (by decide) (by decide) (by decide) (by decide)]
  · rw [q 32 (by decide) (by decide) (by decide) (by decide) (by decide) (by decide)]
  · rw [q 34 (by decide) (by decide) (by decide) (by decide) (by decide) (by decide)]
  · rw [q 36 (by decide) (by decide) (by decide) (by decide) (by decide) (by decide)]
/-- one child's cells change -/
theorem FR_child (F : FR f g nc ne B) (hc : c < nc) (hf : ∀ k, k < 10 * c ∨ 10 * c + 10 ≤ k → k ≠ 99 → f' k = f k) (hg : ∀ k, k < 7 * c ∨ 7 * c + 7 ≤ k → k ≠ 62 → g' k = g k)
    (h0 : g' (7 * c + 0) = kd f' c 0) (h1 : g' (7 * c + 1) = kd f' c 1) (h2 : g' (7 * c + 2) = kd f' c 2) (h3 : g' (7 * c + 3) = kd f' c 6) (h4 : g' (7 * c + 4) = kd f' c 7) (h5 : g' (7 * c + 5) = kd f' c 8) (h6 : g' (7 * c + 6) = kd f' c 9) (hw : wfC f' c B) (h99 : g' 62 = f' 99) (h99' : ∃ t, t ≤ 90 * B ∧ f' 99 = nI t) : FR f' g' nc ne B := by
  obtain ⟨⟨⟨w0, w1⟩, w2, w3, w4, w5, w6, w7, w8, w9, w10, w11⟩, V1, V2, V3, V4⟩ := F
  have k8 : ∀ c', c' < 8 → c' ≠ c → ∀ w, w < 10 → kd f' c' w = kd f c' w := fun c' hc' hn w hw => hf _ (by omega) (by omega)
  have g8 : ∀ c', c' < 8 → c' ≠ c → ∀ w, w < 7 → g' (7 * c' + w) = g (7 * c' + w) := fun c' hc' hn w hw => hg _ (by omega) (by omega)
  have o4 : ∀ e, e < 4 → ∀ w, w < 3 → od f' e w = od f e w := fun e he w hw => hf _ (by omega) (by omega)
  have fx : ∀ k, 92 ≤ k → k ≠ 99 → f' k = f k := fun k hk hk' => hf k (by omega) hk'
  refine ⟨⟨⟨w0, w1⟩, w2, ?_, ?_, ?_, ?_, ?_, ?_, ?_, ?_, ?_⟩, ⟨?_, ?_, ?_, ?_⟩, ?_, h99, h99'⟩
  · rw [fx 95 (by decide) (by decide)]; exact w3
  · rw [fx 96 (by decide) (by decide)]; exact w4
  · intro c' hc'
    by_cases q : c' = c
    · rw [q]; exact hw
    · have := w5 c' hc'
      unfold wfC at this ⊢
      have hc8 : c' < 8 := by omega
      rw [k8 c' hc8 q 0 (by decide), k8 c' hc8 q 1 (by decide), k8 c' hc8 q 2 (by decide), k8 c' hc8 q 3 (by decide), k8 c' hc8 q 4 (by decide), k8 c' hc8 q 5 (by decide), k8 c' hc8 q 6 (by decide), k8 c' hc8 q 7 (by decide), k8 c' hc8 q 8 (by decide)]
      exact this
  · intro e he
    have := w6 e he
    unfold wfE at this ⊢
    rw [o4 e (by omega) 1 (by decide), o4 e (by omega) 2 (by decide)]
    exact this
  · rw [fx 92 (by decide) (by decide)]; exact w7
  · rw [fx 93 (by decide) (by decide)]; exact w8
  · rw [fx 94 (by decide) (by decide)]; exact w9
  · rw [fx 97 (by decide) (by decide)]; exact w10
  · rw [fx 98 (by decide) (by decide)]; exact w11
  · intro c' hc'
    by_cases q : c' = c
    · rw [q]; exact ⟨h0, h1, h2, h3, h4, h5⟩
    · have := V1.1 c' hc'
      rw [k8 c' hc' q 0 (by decide), k8 c' hc' q 1 (by decide), k8 c' hc' q 2 (by decide), k8 c' hc' q 6 (by decide), k8 c' hc' q 7 (by decide), k8 c' hc' q 8 (by decide), g8 c' hc' q 0 (by decide), g8 c' hc' q 1 (by decide), g8 c' hc' q 2 (by decide), g8 c' hc' q 3 (by decide), g8 c' hc' q 4 (by decide), g8 c' hc' q 5 (by decide)]
      exact this
  · intro e he
    rw [o4 e he 2 (by decide), hg _ (by omega) (by omega)]; exact V1.2.1 e he
  · rw [fx 97 (by decide) (by decide), hg 60 (by omega) (by decide)]; exact V1.2.2.1
  · rw [fx 98 (by decide) (by decide), hg 61 (by omega) (by decide)]; exact V1.2.2.2
  · intro c' hc'
    by_cases q : c' = c
    · rw [q]; exact h6
    · rw [k8 c' hc' q 9 (by decide), g8 c' hc' q 6 (by decide)]; exact V2 c' hc'
theorem LG_child (L : LG f g lg M) (h97 : f' 97 = f 97) (hg : ∀ k, 63 ≤ k → g' k = g k) : LG f' g' lg M := by
  refine ⟨by rw [h97]; exact L.1, by rw [hg 63 (by decide)]; exact L.2.1, fun i hi w hw => ?_⟩
  rw [hg _ (by omega)]; exact L.2.2 i hi w hw
theorem StE_child (hf : ∀ k, k < 10 * c ∨ 10 * c + 10 ≤ k → k ≠ 99 → f' k = f k) (hc : c < 8) (h3 : kd f' c 3 = kd f c 3) (h4 : kd f' c 4 = kd f c 4) (h5 : kd f' c 5 = kd f c 5) : StE f f' := by
  intro k hk
  have k99 : k ≠ 99 := by intro e; subst e; exact absurd hk (by decide)
  by_cases q : k < 10 * c ∨ 10 * c + 10 ≤ k
  · exact hf k q k99
  · have h80 : k < 80 := by omega
    have : k % 10 = 3 ∨ k % 10 = 4 ∨ k % 10 = 5 := by
      unfold stc at hk
      simp at hk
      omega
    rcases this with h | h | h
    · have e : k = 10 * c + 3 := by omega
      rw [e]; exact h3
    · have e : k = 10 * c + 4 := by omega
      rw [e]; exact h4
    · have e : k = 10 * c + 5 := by omega
      rw [e]; exact h5
theorem hct_no (hC : m.1 4 95 = nI nc) (h : a1 < 0 ∨ ¬ a1 < 0 ∧ nI nc ≤ a1) : f_X10_hasChildAndTen m a1 a2 = some (0, m) := by
  simp only [f_X10_hasChildAndTen, hC_no hC h, cal_eq, ↓reduceIte]
theorem hct_no2 (hC : m.1 4 95 = nI nc) (hc : c < nc) (hn : nc ≤ 8) (h : a2 < 0 ∨ ¬ a2 < 0 ∧ nI 9 ≤ a2) : f_X10_hasChildAndTen m (nI c) a2 = some (0, m) := by
  simp only [f_X10_hasChildAndTen, hC_yes hC hc hn, cal_eq, n10, ↓reduceIte]
  rcases h with h | ⟨h, h'⟩
  · rw [if_pos h]
  · rw [if_neg h, if_pos (show (9 : Int32) ≤ a2 from h')]
theorem hct_yes (hC : m.1 4 95 = nI nc) (hc : c < nc) (hn : nc ≤ 8) (ht : t < 9) : f_X10_hasChildAndTen m (nI c) (nI t) = some (1, m) := by
  simp only [f_X10_hasChildAndTen, hC_yes hC hc hn, cal_eq, n10, ↓reduceIte, if_neg (nI_pos (show t < 2 ^ 31 by omega)), if_neg (show ¬ (9 : Int32) ≤ nI t from ix_lt (n := 9) ht (by decide))]
theorem ten_no (h : a < 0 ∨ ¬ a < 0 ∧ nI 9 ≤ a) : f_X11_isTen m a = some (0, m) := by
  simp only [f_X11_isTen, in8_no h, cal_eq]; rfl
theorem ten_yes (ht : t < 9) : f_X11_isTen m (nI t) = some (1, m) := by
  simp only [f_X11_isTen, in8_yes ht, cal_eq]; rfl
theorem Rel_cases (R : Rel nl ln B m) : (Untold m ∧ HM m (m.1 4) 0 0 B) ∨ ∃ nc ne M A nx, Told m nc ne B ∧ HM m (m.1 4) nc ne B ∧ M ≤ B ∧ LG (m.1 4) (m.1 38) (m.1 18) M ∧ PastP m nc ne B M A nx := by
  rcases R.2.2.2.2 with u | ⟨nc, ne, t⟩
  · exact Or.inl ⟨u, u.2.2.2.2.2.1, u.2.2.2.2.2.2.1, u.1, u.2.1, by decide, by decide, fun _ => rfl, fun h => absurd h (by decide)⟩
  · obtain ⟨M, M1, M2, A, nx, P⟩ := t.2.2
    exact Or.inr ⟨nc, ne, M, A, nx, t, ⟨t.1.2.2.2.2.2.1, t.1.2.2.2.2.2.2, t.2.1.1.2.2.1, t.2.1.1.2.2.2.1, t.2.1.1.2.1, t.2.1.1.1.2, fun h => absurd t.2.1.1.1.1 (by omega), fun _ => ⟨t.2.1.2.1, t.1, t.2.1.1⟩⟩, M1, M2, P⟩
/-- acts of a child and a ten -/
theorem q_act {o : Option (Int32 × Sg)} {F : Sg → Option (Int32 × Sg)} (R : Rel nl ln B m)
    (h0 : ∀ nc ne, HM m (m.1 4) nc ne B → (a1 < 0 ∨ ¬ a1 < 0 ∧ nI nc ≤ a1) → o = some (-1, m) ∧ F m = some (-1, wr m 27 0 0))
    (h1 : ∀ nc ne c, HM m (m.1 4) nc ne B → c < nc → a1 = nI c → (a2 < 0 ∨ ¬ a2 < 0 ∧ nI 9 ≤ a2) → o = some (-1, m) ∧ F m = some (-1, wr m 27 0 0))
    (h2 : ∀ nc ne c t M A nx, Told m nc ne B → HM m (m.1 4) nc ne B → M ≤ B → LG (m.1 4) (m.1 38) (m.1 18) M → PastP m nc ne B M A nx → c < nc → t < 9 → a1 = nI c → a2 = nI t → QQ nl ln B o F) : QQ nl ln B o F := by
  rcases Rel_cases R with ⟨u, H⟩ | ⟨nc, ne, M, A, nx, T, H, hM, L, P⟩
  · rcases ch_cases a1 (show 0 ≤ 8 by decide) with h | ⟨c, hc, h⟩
    · obtain ⟨x1, x2⟩ := h0 0 0 H h
      exact QQ_q R x1 Fr.rf x2 (fr_thr m 0)
    · exact absurd hc (by omega)
  · rcases ch_cases a1 H.2.2.2.2.2.1 with h | ⟨c, hc, h⟩
    · obtain ⟨x1, x2⟩ := h0 nc ne H h
      exact QQ_q R x1 Fr.rf x2 (fr_thr m 0)
    · rcases hund_cases a2 (n := 9) (by decide) with h' | ⟨t, ht, h'⟩
      · obtain ⟨x1, x2⟩ := h1 nc ne c H hc h h'
        exact QQ_q R x1 Fr.rf x2 (fr_thr m 0)
      · exact h2 nc ne c t M A nx T H hM L P hc ht h h'
theorem tn_v (ht : t < 9) : tn (nI t) = nI (2 ^ t) := sh1 t ht
theorem or_nI {a b k : Nat} (ha : a < 2 ^ k) (hb : b < 2 ^ k) (hk : k ≤ 31) : ∃ n, n < 2 ^ k ∧ nI a ||| nI b = nI n := by
  refine ⟨a ||| b, Nat.or_lt_two_pow ha hb, ?_⟩
  have p : 2 ^ k ≤ 2 ^ 31 := Nat.pow_le_pow_right (by decide) hk
  apply Int32.toBitVec_inj.mp
  apply BitVec.eq_of_toNat_eq
  rw [Int32.toBitVec_or, BitVec.toNat_or, pk_tn (by omega), pk_tn (by omega), pk_tn (by have := Nat.or_lt_two_pow ha hb; omega)]
theorem or_tn {a : Nat} (ha : a < 512) (ht : t < 9) : ∃ n, n < 512 ∧ nI a ||| tn (nI t) = nI n := by
  rw [tn_v ht]
  exact or_nI (k := 9) ha (by have := Nat.pow_lt_pow_right (show 1 < 2 by decide) ht; omega) (by decide)
theorem and_lt {a : Nat} (y : Int32) (h : a < 512) : ∃ n, n < 512 ∧ nI a &&& y = nI n := by
  obtain ⟨n, n1, n2⟩ := and_nI (a := a) y (by omega)
  exact ⟨n, by omega, n2⟩
theorem clr_or (x y : Int32) : (x &&& (y ^^^ (-1))) ||| y = x ||| y := by
  apply i32_ext
  intro t ht
  rw [b0_or ht, b0_and ht, b0_not ht, b0_or ht]
  generalize b0 x t = P
  generalize b0 y t = Q
  by_cases h1 : P <;> by_cases h2 : Q <;> simp [h1, h2]
end
