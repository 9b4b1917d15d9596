/-! acts are remembered -/
section
variable {nl B B' : Nat} {ln : Nat → Nat} {V : Nat → (Nat → Int32) → Int32} {m m1 m2 : Sg} {j w : Nat} {a a1 a2 r s law x : Int32} {f f' g g' lg lg' : Nat → Int32} {nc ne c e M : Nat}
theorem kd_c (hf : ∀ k, k < 100 → f' k = f k) (hc : c < 8) (hw : w < 10) : kd f' c w = kd f c w := hf _ (by omega)
theorem od_c (hf : ∀ k, k < 100 → f' k = f k) (he : e < 4) (hw : w < 3) : od f' e w = od f e w := hf _ (by omega)
theorem WF_congr (hf : ∀ k, k < 100 → f' k = f k) (h : WF f nc ne B) : WF f' nc ne B := by
  obtain ⟨h1, h2, h3, h4, h5, h6, h7, h8, h9, h10, h11⟩ := h
  refine ⟨h1, h2, ?_, ?_, ?_, ?_, ?_, ?_, ?_, ?_, ?_⟩
  · rw [hf 95 (by decide)]; exact h3
  · rw [hf 96 (by decide)]; exact h4
  · intro c hc
    have hc8 : c < 8 := by omega
    have := h5 c hc
    unfold wfC at this ⊢
    rw [kd_c hf hc8 (by decide), kd_c hf hc8 (by decide), kd_c hf hc8 (by decide), kd_c hf hc8 (by decide), kd_c hf hc8 (by decide), kd_c hf hc8 (by decide), kd_c hf hc8 (by decide), kd_c hf hc8 (by decide), kd_c hf hc8 (by decide)]
    exact this
  · intro e he
    have he4 : e < 4 := by omega
    have := h6 e he
    unfold wfE at this ⊢
    rw [od_c hf he4 (by decide), od_c hf he4 (by decide)]
    exact this
  · rw [hf 92 (by decide)]; exact h7
  · rw [hf 93 (by decide)]; exact h8
  · rw [hf 94 (by decide)]; exact h9
  · rw [hf 97 (by decide)]; exact h10
  · rw [hf 98 (by decide)]; exact h11
theorem CV_congr (hf : ∀ k, k < 100 → f' k = f k) (hg : ∀ k, k < 244 → g' k = g k) (h : CV g f) : CV g' f' := by
  refine ⟨fun c hc => ?_, fun e he => ?_, ?_, ?_⟩
  · have := h.1 c hc
    rw [hg _ (by omega), hg _ (by omega), hg _ (by omega), hg _ (by omega), hg _ (by omega), hg _ (by omega), kd_c hf hc (by decide), kd_c hf hc (by decide), kd_c hf hc (by decide), kd_c hf hc (by decide), kd_c hf hc (by decide), kd_c hf hc (by decide)]
    exact this
  · rw [hg _ (by omega), od_c hf he (by decide)]; exact h.2.1 e he
  · rw [hg _ (by decide), hf _ (by decide)]; exact h.2.2.1
  · rw [hg _ (by decide), hf _ (by decide)]; exact h.2.2.2
theorem FR_congr (hf : ∀ k, k < 100 → f' k = f k) (hg : ∀ k, k < 244 → g' k = g k) (h : FR f g nc ne B) : FR f' g' nc ne B := by
  refine ⟨WF_congr hf h.1, CV_congr hf hg h.2.1, fun c hc => ?_, ?_, ?_⟩
  · rw [hg _ (by omega), kd_c hf hc (by decide)]; exact h.2.2.1 c hc
  · rw [hg _ (by decide), hf _ (by decide)]; exact h.2.2.2.1
  · rw [hf _ (by decide)]; exact h.2.2.2.2
theorem LG_congr (hf : ∀ k, k < 100 → f' k = f k) (hg : ∀ k, k < 244 → g' k = g k) (hl : ∀ i, i < mn M 60 → ∀ w, w < 3 → lg' ((M - i) % 100 * 3 + w) = lg ((M - i) % 100 * 3 + w)) (h : LG f g lg M) : LG f' g' lg' M := by
  have hq : mn M 60 ≤ 60 := by unfold mn; split <;> omega
  refine ⟨?_, ?_, fun i hi w hw => ?_⟩
  · rw [hf _ (by decide)]; exact h.1
  · rw [hg _ (by decide)]; exact h.2.1
  · rw [hg _ (by omega), hl i hi w hw]; exact h.2.2 i hi w hw
theorem stc_lt {k : Nat} (h : stc k = true) : k < 100 := by
  unfold stc at h
  simp at h
  omega
theorem WF_mono (h : WF f nc ne B) (hb : B ≤ B') : WF f nc ne B' := by
  obtain ⟨h1, h2, h3, h4, h5, h6, h7, h8, h9, ⟨a, h10, h10'⟩, h11⟩ := h
  refine ⟨h1, h2, h3, h4, fun c hc => ?_, h6, h7, h8, h9, ⟨a, by omega, h10'⟩, h11⟩
  obtain ⟨⟨b, b1, b2⟩, r⟩ := h5 c hc
  exact ⟨⟨b, by omega, b2⟩, r⟩
theorem FR_mono (h : FR f g nc ne B) (hb : B ≤ B') : FR f g nc ne B' := by
  obtain ⟨h1, h2, h3, h4, ⟨t, t1, t2⟩⟩ := h
  exact ⟨WF_mono h1 hb, h2, h3, h4, ⟨t, Nat.le_trans t1 (Nat.mul_le_mul_left 90 hb), t2⟩⟩
def PastP (m : Sg) (nc ne B M A nx : Nat) : Prop := A ≤ 40 ∧ nx < 40 ∧ m.1 16 5 = nI A ∧ m.1 27 39 = nI A ∧ m.1 16 4 = nI nx ∧ (∃ Ms : Nat → Nat, (Ms 0 = M ∧ ∀ i, Ms (i + 1) ≤ Ms i ∧ Ms i ≤ Ms (i + 1) + 1) ∧ ∀ i, 1 ≤ i → i ≤ A → FR (rowC m nx i) (rowM m A i) nc ne B ∧ StE (m.1 4) (rowC m nx i) ∧ LG (rowC m nx i) (rowM m A i) (m.1 18) (Ms i)) ∧ m.1 16 6 = m.1 27 45 ∧ (m.1 16 6 = 0 ∨ m.1 16 6 = 1 ∧ FR (m.1 19) (m.1 43) nc ne B ∧ StE (m.1 4) (m.1 19) ∧ ∃ Mi, Mi ≤ B ∧ LG (m.1 19) (m.1 43) (m.1 20) Mi)
/-- the component's act -/
def rmC (m : Sg) (nx A : Nat) : Sg := wr (wr (wrr m 17 (va_cpy (m.1 4) (m.1 17) 0 (100 * nx) 100)) 16 4 (nI ((nx + 1) % 40))) 16 5 (nI (mn (A + 1) 40))
theorem cpk_v {a b n k l : Nat} (ha : a + k ≤ n) (hb : b + k ≤ l) (hn : n < 2 ^ 30) (hl : l < 2 ^ 30) : cpk (nI a) (nI b) (nI k) n l = true := by
  unfold cpk
  simp only [nI_clamp (show a < 2 ^ 31 by omega), nI_clamp (show b < 2 ^ 31 by omega), nI_clamp (show k < 2 ^ 31 by omega), decide_eq_false (nI_pos (show a < 2 ^ 31 by omega)), decide_eq_false (nI_pos (show b < 2 ^ 31 by omega)), decide_eq_false (nI_pos (show k < 2 ^ 31 by omega)), decide_eq_true ha, decide_eq_true hb]
  rfl
theorem remC_v {A nx : Nat} (h1 : m.1 16 4 = nI nx) (h2 : m.1 16 5 = nI A) (hx : nx < 40) (hA : A ≤ 40) : f_X7_remember m = some (rmC m nx A) := by
  have e1 : m.1 16 4 * 100 = nI (100 * nx) := by rw [h1, show (100 : Int32) = nI 100 from rfl, pk_mul, Nat.mul_comm]
  have e2 : f_X0_copyTo 4 17 4000 m (nI (100 * nx)) = some (wrr m 17 (va_cpy (m.1 4) (m.1 17) 0 (100 * nx) 100)) := by
    have c1 : ¬ ((Int32.ofNat 4000) - 100) < nI (100 * nx) := nI_nlt (a := 3900) (b := 100 * nx) (by omega) (by decide)
    have c2 : cpk 0 (nI (100 * nx)) 100 100 4000 = true := cpk_v (a := 0) (k := 100) (by decide) (by omega) (by decide) (by decide)
    simp only [f_X0_copyTo, if_neg (nI_pos (show 100 * nx < 2 ^ 31 by omega)), if_neg c1, c2, ↓reduceIte, bnd_eq, nI_clamp (show 100 * nx < 2 ^ 31 by omega)]
    rfl
  unfold f_X7_remember
  rw [e1, e2]
  simp only [calv_eq, bnd_eq, wrr_ne (show 16 ≠ 17 by decide), h1, nI_1]
  rw [show (40 : Int32) = nI 40 from rfl, pk_rem (show nx + 1 < 2 ^ 31 by omega) (by decide) (by decide)]
  simp only [wr_at, wrr_ne (show 16 ≠ 17 by decide), pk_un (show 5 ≠ 4 by decide), h2, nI_1]
  unfold rmC mn
  by_cases q : A + 1 ≤ 40
  · rw [if_pos q, if_neg (nI_nlt q (by decide))]
  · rw [if_neg q, if_pos (nI_lt (by omega) (by omega))]
/-- the model's act -/
def unR (U now : Nat → Int32) (A : Nat) : Nat → Int32 := if A = 40 then (fun k => if k < 9516 then U (k + 244) else if k < 9760 then now (k - 9516) else U k) else (fun k => if 244 * A ≤ k ∧ k < 244 * A + 244 then now (k - 244 * A) else U k)
def rmM (m : Sg) (A : Nat) : Sg := wr (wrr m 41 (unR (m.1 41) (m.1 38) A)) 27 39 (nI (mn (A + 1) 40))
theorem wr_wr2 {k : Nat} {x y : Int32} : wr (wr m j k x) j k y = wr m j k y := by
  unfold wr
  congr 1
  funext q
  simp only [va_up]
  split
  · next h =>
    subst h
    funext i
    simp only [↓reduceIte]
    by_cases z : i = k
    · subst z; rw [pk_us, pk_us]
    · rw [pk_un z, pk_un z, pk_un z]
  · rfl
theorem wr_comm {p q k : Nat} {x : Int32} {f : Nat → Int32} (h : p ≠ q) : wrr (wr m p k x) q f = wr (wrr m q f) p k x := by
  unfold wr wrr
  congr 1
  funext i
  simp only [va_up]
  by_cases h1 : i = q
  · subst h1
    rw [if_pos rfl, if_neg (fun z => h z.symm), if_pos rfl]
  · rw [if_neg h1]
    by_cases h2 : i = p
    · subst h2
      rw [if_pos rfl, if_pos rfl, if_neg h]
    · rw [if_neg h2, if_neg h2, if_neg h1]
theorem wr_same {k : Nat} : wr m j k (m.1 j k) = m := by
  unfold wr
  have : va_up m.1 j (upd (m.1 j) k (m.1 j k)) = m.1 := by
    funext q
    simp only [va_up]
    split
    · next h =>
      subst h
      funext i
      by_cases z : i = k
      · subst z; rw [pk_us]
      · rw [pk_un z]
    · rfl
  rw [this]
theorem remM1 {A : Nat} (hA : A < 40) (h : m.1 27 39 = nI A) {K : Sg → Option Sg} : lpk (f_X11_remember_L52) (m, 0) K = K (wrr m 41 (fun k => if 244 * A ≤ k ∧ k < 244 * A + 244 then m.1 38 (k - 244 * A) else m.1 41 k)) := by
  rw [show (m, (0 : Int32)) = (fun i => (wrr m 41 (fun k => if 244 * A ≤ k ∧ k < 244 * A + i then m.1 38 (k - 244 * A) else m.1 41 k), nI i)) 0 from by
    have : (fun k => if 244 * A ≤ k ∧ k < 244 * A + 0 then m.1 38 (k - 244 * A) else m.1 41 k) = m.1 41 := by
      funext k; rw [if_neg (by omega)]
    simp only [this, wrr_id]; rfl, lpk_seq (S := fun i => (wrr m 41 (fun k => if 244 * A ≤ k ∧ k < 244 * A + i then m.1 38 (k - 244 * A) else m.1 41 k), nI i)) (x := wrr m 41 (fun k => if 244 * A ≤ k ∧ k < 244 * A + 244 then m.1 38 (k - 244 * A) else m.1 41 k)) 244 ?_ ?_ (by decide)]
  · intro i hi
    have e1 : (244 : Int32) * nI A + nI i = nI (244 * A + i) := by rw [show (244 : Int32) = nI 244 from rfl, pk_mul, nI_add]
    simp only [f_X11_remember_L52, if_neg (show ¬ (244 : Int32) ≤ nI i from ix_lt (n := 244) hi (by decide)), in_nI hi (show 244 < 2 ^ 31 by decide), ↓reduceIte, wrr_ne (show 27 ≠ 41 by decide), wrr_ne (show 38 ≠ 41 by decide), h, e1, in_nI (show 244 * A + i < 9760 by omega) (show 9760 < 2 ^ 31 by decide), nI_clamp (show 244 * A + i < 2 ^ 31 by omega), nI_clamp (show i < 2 ^ 31 by omega), bnd_eq, nI_1, wr_wr]
    congr 4
    funext k
    by_cases z : k = 244 * A + i
    · subst z; rw [pk_us, if_pos (by omega), show 244 * A + i - 244 * A = i by omega]
    · rw [pk_un z]
      by_cases y : 244 * A ≤ k ∧ k < 244 * A + i
      · rw [if_pos y, if_pos (by omega)]
      · rw [if_neg y, if_neg (by omega)]
  · rfl
theorem remM_v {A : Nat} (hA : A ≤ 40) (h : m.1 27 39 = nI A) : f_X11_remember m = some (rmM m A) := by
  unfold f_X11_remember rmM unR
  simp only [bnd_eq]
  by_cases q : A = 40
  · subst q
    rw [if_pos (show m.1 27 39 = 40 from h), if_pos rfl]
    rw [show (m, (0 : Int32)) = (fun i => (wrr m 41 (fun k => if k < i then m.1 41 (k + 244) else m.1 41 k), nI i)) 0 from by
      have : (fun k => if k < 0 then m.1 41 (k + 244) else m.1 41 k) = m.1 41 := by
        funext k; rw [if_neg (by omega)]
      simp only [this, wrr_id]; rfl, lpk_seq (S := fun i => (wrr m 41 (fun k => if k < i then m.1 41 (k + 244) else m.1 41 k), nI i)) (x := wrr m 41 (fun k => if k < 9516 then m.1 41 (k + 244) else m.1 41 k)) 9516 ?_ ?_ (by decide)]
    · generalize hm' : wr (wrr m 41 (fun k => if k < 9516 then m.1 41 (k + 244) else m.1 41 k)) 27 39 ((wrr m 41 (fun k => if k < 9516 then m.1 41 (k + 244) else m.1 41 k)).1 27 39 - 1) = m'
      have e39 : m'.1 27 39 = nI 39 := by
        rw [← hm', wr_at, pk_us, wrr_ne (show 27 ≠ 41 by decide), h]; rfl
      have e41 : m'.1 41 = (fun k => if k < 9516 then m.1 41 (k + 244) else m.1 41 k) := by
        rw [← hm', wr_ne (show 41 ≠ 27 by decide), wrr_at]
      have e38 : m'.1 38 = m.1 38 := by
        rw [← hm', wr_ne (show 38 ≠ 27 by decide), wrr_ne (show 38 ≠ 41 by decide)]
      rw [remM1 (by decide) e39, e38, e41]
      simp only [wrr_ne (show 27 ≠ 41 by decide), e39, nI_1]
      rw [← hm', wr_comm (by decide), wrr_wrr, wr_wr2]
      congr 3
      funext k
      by_cases y : k < 9516
      · rw [if_neg (by omega), if_pos y, if_pos y]
      · rw [if_neg y, if_neg y]
        by_cases z : k < 9760
        · rw [if_pos (by omega), if_pos z]
        · rw [if_neg (by omega), if_neg z]
    · intro i hi
      have e1 : nI i + 244 = nI (i + 244) := nI_add i 244
      simp only [f_X11_remember_L11, if_neg (show ¬ (9516 : Int32) ≤ nI i from ix_lt (n := 9516) hi (by decide)), e1, in_nI (show i + 244 < 9760 by omega) (show 9760 < 2 ^ 31 by decide), in_nI (show i < 9760 by omega) (show 9760 < 2 ^ 31 by decide), ↓reduceIte, nI_clamp (show i + 244 < 2 ^ 31 by omega), nI_clamp (show i < 2 ^ 31 by omega), bnd_eq, nI_1, wrr_at, wr_wr]
      congr 4
      funext k
      by_cases z : k = i
      · subst z; rw [pk_us, if_neg (by omega), if_pos (by omega)]
      · rw [pk_un z]
        by_cases y : k < i
        · rw [if_pos y, if_pos (by omega)]
        · rw [if_neg y, if_neg (by omega)]
    · rfl
  · rw [if_neg (show ¬ m.1 27 39 = 40 from fun z => q (by rw [h] at z; exact (nI_eq (a := A) (b := 40) (by omega) (by decide)).mp z)), if_neg q, remM1 (by omega) h]
    simp only [wrr_ne (show 27 ≠ 41 by decide), h, nI_1]
    rw [show mn (A + 1) 40 = A + 1 by unfold mn; rw [if_pos (by omega)]]
end
