/-! acts: what stands behind one -/
section
variable {nl B B' : Nat} {ln : Nat → Nat} {V : Nat → (Nat → Int32) → Int32} {m m1 m2 m' : Sg} {j w : Nat} {a a1 a2 r s law x : Int32} {f f' g g' lg lg' : Nat → Int32} {nc ne c e M M' A nx : Nat}
theorem StE_tr {f0 f1 f2 : Nat → Int32} (h : StE f0 f1) (k : StE f0 f2) : StE f1 f2 := fun q hq => (k q hq).trans (h q hq).symm
theorem chn_le {Ms : Nat → Nat} (h : ∀ i, Ms (i + 1) ≤ Ms i ∧ Ms i ≤ Ms (i + 1) + 1) : ∀ i, Ms i ≤ Ms 0 ∧ Ms 0 ≤ Ms i + i
  | 0 => ⟨Nat.le_refl _, Nat.le_refl _⟩
  | i + 1 => by
    have := chn_le h i
    have := h i
    omega
/-- acts behind a new one -/
theorem Past_push (P : PastP m nc ne B M A nx) (F : FR (m.1 4) (m.1 38) nc ne B) (L : LG (m.1 4) (m.1 38) (m.1 18) M) (hMB : M ≤ B) (hB : B ≤ B')
    (e17 : m'.1 17 = va_cpy (m.1 4) (m.1 17) 0 (100 * nx) 100) (e41 : m'.1 41 = unR (m.1 41) (m.1 38) A) (e164 : m'.1 16 4 = nI ((nx + 1) % 40)) (e165 : m'.1 16 5 = nI (mn (A + 1) 40)) (e39 : m'.1 27 39 = nI (mn (A + 1) 40))
    (e166 : m'.1 16 6 = m.1 16 6) (e45 : m'.1 27 45 = m.1 27 45) (e19 : m'.1 19 = m.1 19) (e43 : m'.1 43 = m.1 43) (e20 : m'.1 20 = m.1 20) (hst : StE (m.1 4) (m'.1 4)) (hM : M ≤ M') (hM' : M' ≤ M + 1)
    (hl : ∀ x, x ≤ M → M' < x + 100 → ∀ w, w < 3 → m'.1 18 (x % 100 * 3 + w) = m.1 18 (x % 100 * 3 + w)) : PastP m' nc ne B' M' (mn (A + 1) 40) ((nx + 1) % 40) := by
  obtain ⟨p1, p2, p3, p4, p5, p6, p7, p8⟩ := P
  have hA1 : mn (A + 1) 40 ≤ 40 ∧ mn (A + 1) 40 ≤ A + 1 := by unfold mn; split <;> omega
  obtain ⟨Ms, ⟨m0, ch⟩, p6⟩ := p6
  have cl := chn_le ch
  refine ⟨hA1.1, by omega, e165, e39, e164, ⟨fun i => match i with | 0 => M' | i + 1 => Ms i, ⟨rfl, fun i => ?_⟩, ?_⟩, by rw [e166, e45, p7], ?_⟩
  · cases i with
    | zero => simp only; rw [m0]; exact ⟨hM, hM'⟩
    | succ i => exact ch i
  · intro i i1 i2
    by_cases q : i = 1
    · subst q
      have hf : ∀ k, k < 100 → rowC m' ((nx + 1) % 40) 1 k = m.1 4 k := by
        intro k hk
        unfold rowC
        rw [e17, show ((nx + 1) % 40 + 40 - 1) % 40 = nx by omega, pk_cpy_in (by omega) (by omega)]
        exact congrArg (m.1 4) (by omega)
      have hg : ∀ k, k < 244 → rowM m' (mn (A + 1) 40) 1 k = m.1 38 k := by
        intro k hk
        unfold rowM
        rw [e41]
        unfold unR
        by_cases z : A = 40
        · subst z
          have : mn (40 + 1) 40 = 40 := by decide
          rw [this, if_pos rfl]
          rw [if_neg (by omega), if_pos (by omega)]
          exact congrArg (m.1 38) (by omega)
        · have : mn (A + 1) 40 = A + 1 := by unfold mn; rw [if_pos (by omega)]
          rw [this, if_neg z]
          rw [if_pos (by omega)]
          exact congrArg (m.1 38) (by omega)
      refine ⟨FR_mono (FR_congr hf hg F) hB, fun k hk => ?_, ?_⟩
      · rw [hf k (stc_lt hk), hst k hk]
      · show LG _ _ _ (Ms 0)
        rw [m0]
        refine LG_congr hf hg (fun i hi w hw => hl (M - i) (by omega) ?_ w hw) L
        have : i < 60 := by unfold mn at hi; split at hi <;> omega
        omega
    · obtain ⟨k, hk⟩ : ∃ k, i = k + 1 := ⟨i - 1, by omega⟩
      subst hk
      obtain ⟨h1, h2, h5⟩ := p6 k (by omega) (by omega)
      obtain ⟨h3, h4⟩ := cl k
      rw [m0] at h3 h4
      have hf : ∀ q, q < 100 → rowC m' ((nx + 1) % 40) (k + 1) q = rowC m nx k q := by
        intro q hq
        unfold rowC
        have hi' : k + 1 ≤ 40 := by omega
        have hi'' : 1 ≤ k := by omega
        rw [e17, pk_cpy_out (by omega)]
        exact congrArg (m.1 17) (by omega)
      have hg : ∀ q, q < 244 → rowM m' (mn (A + 1) 40) (k + 1) q = rowM m A k q := by
        intro q hq
        unfold rowM
        rw [e41]
        unfold unR
        by_cases z : A = 40
        · subst z
          have : mn (40 + 1) 40 = 40 := by decide
          rw [this, if_pos rfl]
          rw [if_pos (by omega)]
          exact congrArg (m.1 41) (by omega)
        · have : mn (A + 1) 40 = A + 1 := by unfold mn; rw [if_pos (by omega)]
          rw [this, if_neg z]
          rw [if_neg (by omega)]
          exact congrArg (m.1 41) (by omega)
      refine ⟨FR_mono (FR_congr hf hg h1) hB, fun q hq => ?_, ?_⟩
      · rw [hf q (stc_lt hq), h2 q hq, hst q hq]
      · show LG _ _ _ (Ms k)
        refine LG_congr hf hg (fun q hq w hw => hl (Ms k - q) (by omega) ?_ w hw) h5
        have : q < 60 := by unfold mn at hq; split at hq <;> omega
        omega
  · rw [e166, e19, e43, e20]
    rcases p8 with h | ⟨h1, h2, h3, Mi, h4, h5⟩
    · exact Or.inl h
    · exact Or.inr ⟨h1, FR_mono h2 hB, StE_tr hst h3, Mi, by omega, h5⟩
theorem SV_st (h : SV m f nc ne) (hst : StE f f') (hn : nc ≤ 8) (hE : ne ≤ 4) (e32 : m'.1 32 = m.1 32) (e34 : m'.1 34 = m.1 34) (e36 : m'.1 36 = m.1 36) (e24 : m'.1 27 24 = m.1 27 24) (e25 : m'.1 27 25 = m.1 27 25) : SV m' f' nc ne := by
  refine ⟨fun c hc => ?_, fun e he => ?_, ?_, ?_, ?_, ?_, ?_⟩
  · obtain ⟨h1, h2, h3⟩ := h.1 c hc
    rw [e32, h1, h2, h3]
    have s : ∀ w, w = 3 ∨ w = 4 ∨ w = 5 → kd f' c w = kd f c w := by
      intro w hw
      refine hst _ ?_
      unfold stc
      rw [show (10 * c + w) % 10 = w by omega, decide_eq_true (show 10 * c + w < 80 by omega)]
      rcases hw with z | z | z <;> subst z <;> rfl
    exact ⟨(s 3 (by simp)).symm, (s 4 (by simp)).symm, (s 5 (by simp)).symm⟩
  · obtain ⟨h1, h2⟩ := h.2.1 e he
    rw [e34, h1, h2]
    have s : ∀ w, w = 0 ∨ w = 1 → od f' e w = od f e w := by
      intro w hw
      refine hst _ ?_
      unfold stc
      rw [show 80 + 3 * e + w - 80 = 3 * e + w by omega, show (3 * e + w) % 3 = w by omega, decide_eq_true (show 80 ≤ 80 + 3 * e + w by omega), decide_eq_true (show 80 + 3 * e + w < 92 by omega)]
      rcases hw with z | z <;> subst z <;> simp
    exact ⟨(s 0 (by simp)).symm, (s 1 (by simp)).symm⟩
  · rw [e36, h.2.2.1, hst 92 rfl]
  · rw [e36, h.2.2.2.1, hst 93 rfl]
  · rw [e36, h.2.2.2.2.1, hst 94 rfl]
  · rw [e24, h.2.2.2.2.2.1]
  · rw [e25, h.2.2.2.2.2.2]
/-- cells of tape, laws and fever -/
def TL (m m' : Sg) : Prop := m'.1 0 9 = m.1 0 9 ∧ m'.1 1 1 = m.1 1 1 ∧ m'.1 2 = m.1 2 ∧ m'.1 13 2 = m.1 13 2 ∧ m'.1 13 3 = m.1 13 3 ∧ m'.1 27 6 = m.1 27 6 ∧ m'.1 27 7 = m.1 27 7 ∧ m'.1 27 31 = m.1 27 31 ∧ m'.1 27 32 = m.1 27 32 ∧ m'.1 27 34 = m.1 27 34 ∧ m'.1 28 = m.1 28 ∧ m'.1 29 = m.1 29 ∧ m'.1 30 = m.1 30 ∧ ∀ k, m'.1 (46 + 3 * k) = m.1 (46 + 3 * k)
theorem TL_tr (h : TL m m1) (k : TL m1 m2) : TL m m2 := by
  obtain ⟨a1, a2, a3, a4, a5, a6, a7, a8, a9, a10, a11, a12, a13, a14⟩ := h
  obtain ⟨b1, b2, b3, b4, b5, b6, b7, b8, b9, b10, b11, b12, b13, b14⟩ := k
  exact ⟨b1.trans a1, b2.trans a2, b3.trans a3, b4.trans a4, b5.trans a5, b6.trans a6, b7.trans a7, b8.trans a8, b9.trans a9, b10.trans a10, b11.trans a11, b12.trans a12, b13.trans a13, fun k => (b14 k).trans (a14 k)⟩
theorem Rel_TL (R : Rel nl ln B m) (h : TL m m') (hc : Untold m' ∨ ∃ nc ne, Told m' nc ne B') : Rel nl ln B' m' := by
  obtain ⟨c1, c2, r2, c3, c4, d1, d2, d5, d6, d7, r28, r29, r30, rc⟩ := h
  obtain ⟨R1, R2, R3, R4, _⟩ := R
  refine ⟨?_, ?_, ?_, ?_, hc⟩
  · unfold TapeR at R1 ⊢
    rw [c2, d1, r2, r28]; exact R1
  · obtain ⟨V, v⟩ := R2
    refine ⟨V, ?_⟩
    unfold LawR at v ⊢
    rw [c3, d2, c4, d5, r29, r30]
    simp only [rc]
    exact v
  · rw [d6, c1]; exact R3
  · rw [d7]; exact R4
/-- an act of one call: the county's row becomes f', the model's g' -/
theorem act_Rel (R : Rel nl ln B m) (T : Told m nc ne B) (P : PastP m nc ne B M A nx) (L : LG (m.1 4) (m.1 38) (m.1 18) M) (hMB : M ≤ B) (tl : TL m m') (F : FR (m'.1 4) (m'.1 38) nc ne B) (hst : StE (m.1 4) (m'.1 4)) (L' : LG (m'.1 4) (m'.1 38) (m.1 18) M)
    (e17 : m'.1 17 = va_cpy (m.1 4) (m.1 17) 0 (100 * nx) 100) (e41 : m'.1 41 = unR (m.1 41) (m.1 38) A) (e164 : m'.1 16 4 = nI ((nx + 1) % 40)) (e165 : m'.1 16 5 = nI (mn (A + 1) 40)) (e39 : m'.1 27 39 = nI (mn (A + 1) 40))
    (e166 : m'.1 16 6 = m.1 16 6) (e45 : m'.1 27 45 = m.1 27 45) (e19 : m'.1 19 = m.1 19) (e43 : m'.1 43 = m.1 43) (e20 : m'.1 20 = m.1 20) (e18 : m'.1 18 = m.1 18) (e32 : m'.1 32 = m.1 32) (e34 : m'.1 34 = m.1 34) (e36 : m'.1 36 = m.1 36) (e24 : m'.1 27 24 = m.1 27 24) (e25 : m'.1 27 25 = m.1 27 25) : Rel nl ln B m' := by
  refine Rel_TL R tl (Or.inr ⟨nc, ne, SV_st T.1 hst T.2.1.1.1.2 T.2.1.1.2.1 e32 e34 e36 e24 e25, F, M, hMB, by rw [e18]; exact L', mn (A + 1) 40, (nx + 1) % 40, ?_⟩)
  exact Past_push P T.2.1 L hMB (Nat.le_refl B) e17 e41 e164 e165 e39 e166 e45 e19 e43 e20 hst (Nat.le_refl M) (by omega) (fun x _ _ w _ => by rw [e18])
end
