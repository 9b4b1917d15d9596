/-! texts of counties: the whole -/
section
variable {nl B B' : Nat} {ln : Nat → Nat} {m m1 m2 m' mc mm mc0 mm0 : Sg} {j w u : Nat} {a a1 a2 a3 a4 r x c lo hi s : Int32} {L p q k i n off b N t t1 t2 t3 cnt base nc ne e ru : Nat} {tx : Nat → Int32} {z : Bool} {F F' R S U R' S' U' g : Nat → Int32}
theorem lpO_up {σ χ : Type} {step : σ → Option (χ ⊕ σ)} {x : χ} : ∀ n s, lpO step n s = some x → lpO step (n + 1) s = some x
  | 0, s, h => by cases h
  | n + 1, s, h => by
    rw [lpO] at h ⊢
    cases e : step s with
    | none => rw [e] at h; cases h
    | some v =>
      rw [e] at h
      cases v with
      | inl y => exact h
      | inr s' => exact lpO_up n s' h
/-- both after a clause and the model's look -/
def RLp (tx : Nat → Int32) (L : Nat) (s t : Sg × Int32) : Prop := Tx tx L s.1 ∧ Mx tx L false 0 t.1 ∧ ∃ n x, s.2 = nI x ∧ x ≤ n ∧ n ≤ 14 ∧
  ((∃ p, chr tx L (sk tx L p) = 59 ∧ t.2 = 1 ∧ s.1.1 8 1 = nI p ∧ s.1.1 8 2 = -1 ∧ p ≤ L ∧ CR tx L n (sk tx L p + 1) (wr s.1 8 1 (nI (sk tx L p + 1))) t.1) ∨ (∃ p, ¬ chr tx L (sk tx L p) = 59 ∧ t.2 = 0 ∧ s.1.1 8 1 = nI p ∧ s.1.1 8 2 = -1 ∧ p ≤ L ∧ CR tx L n (sk tx L p) (wr s.1 8 1 (nI (sk tx L p))) t.1) ∨ (CW s.1 t.1 ∧ t.2 = 0))
theorem CR_mv (h : CR tx L n p mc mm) (hq : q ≤ L) : CR tx L n q (wr mc 8 1 (nI q)) (wr mm 27 10 (nI q)) := by
  obtain ⟨nc, ne, ru, h1, h2, h3, h4, h5, h6, h7, h8, h9, h10, h11, K⟩ := h
  refine ⟨nc, ne, ru, by rw [wr_at, pk_us], by rw [wr_at, pk_un (by decide)]; exact h2, hq, by rw [wr_at, pk_us], by rw [wr_at, pk_un (by decide)]; exact h5, by rw [wr_at, pk_un (by decide)]; exact h6, by rw [wr_at, pk_un (by decide)]; exact h7, by rw [wr_at, pk_un (by decide)]; exact h8, by rw [wr_ne (by decide)]; exact h9, h10, h11, ?_⟩
  rw [wr_ne (by decide), wr_ne (by decide), wr_ne (by decide), wr_ne (by decide)]
  exact K
theorem CR_n (h : CR tx L n p mc mm) : n ≤ 13 := by
  obtain ⟨nc, ne, ru, h1, h2, h3, h4, h5, h6, h7, h8, h9, h10, h11, K⟩ := h
  have := K.1
  have := K.2.1
  omega
/-- the model's round: a clause, a look -/
theorem after_v (hb : Bt tx L) (T : Tx tx L mc) (M : Mx tx L false 0 mm) (h : CR tx L n p mc mm) (hx : N ≤ n + 1) : ∃ mc' t', f_X1_readClause mc = some mc' ∧ f_X11_readCounty_L55 (mm, 1) = some (.inr t') ∧ RLp tx L (mc', nI N) t' := by
  obtain ⟨mc', mm', e1, e2, T', M', h'⟩ := clause_v hb T M h
  have h5 : mm.1 27 11 = -1 := by obtain ⟨nc, ne, ru, h1, h2, h3, h4, h5, _⟩ := h; exact h5
  rcases h' with ⟨p', h'⟩ | W
  · have hn := CR_n h'
    have h0 := h'
    obtain ⟨nc, ne, ru, k1, k2, k3, k4, k5, k6, k7, k8, k9, k10, k11, K⟩ := h'
    have lk := look_v hb M' k4 k3
    have le := sk_le (tx := tx) k3
    by_cases y : chr tx L (sk tx L p') = 59
    · have sl : sk tx L p' < L := by
        unfold chr at y
        rcases Nat.lt_or_ge (sk tx L p') L with z | z
        · exact z
        · rw [if_neg (by omega)] at y; exact absurd y (by decide)
      refine ⟨mc', (wr mm' 27 10 (nI (sk tx L p' + 1)), 1), e1, ?_, T', Mx_wr M' (by decide) (by decide) (by decide), n + 1, N, rfl, hx, by omega, Or.inl ⟨p', y, rfl, k1, k2, k3, CR_mv h0 (by omega)⟩⟩
      simp only [f_X11_readCounty_L55, n10, ↓reduceIte, h5, e2, calv_eq, bnd_eq, k5, lk, cal_eq, y, wr_at, pk_us, nI_1, wr_wr2]
    · refine ⟨mc', (wr mm' 27 10 (nI (sk tx L p')), 0), e1, ?_, T', Mx_wr M' (by decide) (by decide) (by decide), n + 1, N, rfl, hx, by omega, Or.inr (Or.inl ⟨p', y, rfl, k1, k2, k3, CR_mv h0 le⟩)⟩
      simp only [f_X11_readCounty_L55, n10, ↓reduceIte, h5, e2, calv_eq, bnd_eq, k5, lk, cal_eq, if_neg y]
  · have W' := W
    obtain ⟨e, w1, w2, w3⟩ := W
    have hn := CR_n h
    refine ⟨mc', (mm', 0), e1, ?_, T', M', n + 1, N, rfl, hx, by omega, Or.inr (Or.inr ⟨W', rfl⟩)⟩
    simp only [f_X11_readCounty_L55, n10, ↓reduceIte, h5, e2, calv_eq, bnd_eq, w2, if_neg (show ¬ nI e = -1 from nI_m1 w3)]
/-- both at the end of the clauses -/
def QL (tx : Nat → Int32) (L : Nat) (mc mm : Sg) : Prop := Tx tx L mc ∧ Mx tx L false 0 mm ∧ ((∃ n p, CR tx L n p mc mm ∧ sk tx L p = p) ∨ CW mc mm)
theorem sk_sk : sk tx L (sk tx L p) = sk tx L p := sk_id sk_end
theorem takes_v (T : Tx tx L m) (h1 : i ≠ 1) (h2 : i ≠ 2) (hp : m.1 i 1 = nI p) (hL : p ≤ L) (hf : m.1 i 2 = -1) : f_X2_takes i m a = (if chr tx L (sk tx L p) = a then some (1, wr m i 1 (nI (sk tx L p + 1))) else some (0, wr m i 1 (nI (sk tx L p)))) := by
  unfold f_X2_takes f_X2_step
  rw [peek_v T h1 h2 hp hL hf, cal_eq]
  by_cases y : chr tx L (sk tx L p) = a
  · rw [if_pos y, if_pos y, bnd_eq, calv_eq, wr_at, pk_us, nI_1, wr_wr2]
  · rw [if_neg y, if_neg y]
theorem loop_v (hb : Bt tx L) : ∀ s t, RLp tx L s t → (∃ x y, f_X1_read_L52 s = some (.inl x) ∧ f_X11_readCounty_L55 t = some (.inl y) ∧ QL tx L x y) ∨ (∃ s' t', f_X1_read_L52 s = some (.inr s') ∧ f_X11_readCounty_L55 t = some (.inr t') ∧ RLp tx L s' t' ∧ 20 - s'.2.toNatClampNeg < 20 - s.2.toNatClampNeg) := by
  rintro ⟨mc, xc⟩ ⟨mm, fl⟩ ⟨T, M, n, x, hx, xn, n14, h⟩
  dsimp only at T M hx h
  subst hx
  have n240 : ¬ (240 : Int32) ≤ nI x := ix_lt (n := 240) (by omega) (by decide)
  rcases h with ⟨p, y, rfl, h1, h2, h3, C⟩ | ⟨p, y, rfl, h1, h2, h3, C⟩ | ⟨W, rfl⟩
  · right
    have n13 := CR_n C
    obtain ⟨mc', t', e1, e2, e3⟩ := after_v (N := x + 1) hb (Tx_wr T (by decide) (by decide)) M C (by omega)
    refine ⟨(mc', nI (x + 1)), t', ?_, e2, e3, ?_⟩
    · simp only [f_X1_read_L52, if_neg n240, takes_v T (show 8 ≠ 1 by decide) (show 8 ≠ 2 by decide) h1 h3 h2, y, ↓reduceIte, cal_eq, n10, e1, calv_eq, bnd_eq, nI_1]
    · dsimp only
      rw [nI_clamp (by omega), nI_clamp (by omega)]; omega
  · left
    refine ⟨_, mm, ?_, by simp only [f_X11_readCounty_L55, ↓reduceIte], Tx_wr (i := 8) (k := 1) (v := nI (sk tx L p)) T (by decide) (by decide), M, Or.inl ⟨n, sk tx L p, C, sk_sk⟩⟩
    simp only [f_X1_read_L52, if_neg n240, takes_v T (show 8 ≠ 1 by decide) (show 8 ≠ 2 by decide) h1 h3 h2, if_neg y, ↓reduceIte, cal_eq]
  · left
    obtain ⟨e, w1, w2, w3⟩ := W
    have nf : ¬ mc.1 8 2 = -1 := by rw [w1]; exact nI_m1 w3
    refine ⟨mc, mm, ?_, by simp only [f_X11_readCounty_L55, ↓reduceIte], T, M, Or.inr ⟨e, w1, w2, w3⟩⟩
    simp only [f_X1_read_L52, if_neg n240, f_X2_takes, peek_f nf, cal_eq, if_neg (show ¬ (-1 : Int32) = 59 by decide), ↓reduceIte]
/-- after reading: wrong at one place, or a county -/
def EC (mc mm : Sg) : Prop := (∃ e, mc.1 8 2 = nI e ∧ mm.1 27 11 = nI e ∧ e < 2 ^ 31) ∨ (mc.1 8 2 = -1 ∧ mm.1 27 11 = -1 ∧ ∃ nc ne, 0 < nc ∧ mm.1 27 26 = nI nc ∧ mm.1 27 27 = nI ne ∧ KR (mc.1 6) (mm.1 33) (mm.1 35) (mm.1 37) nc ne)
theorem end_v (hb : Bt tx L) (Q : QL tx L mc mm) : ∃ mc' mm', (calv (f_X2_needsEnd 8 mc) (fun m16 => cal (f_X0_children 6 m16) (fun x18 m17 => bnd (fun (m19 : Sg) => cal (f_X2_wrongAt 8 m19) (fun x22 m21 => some (x22, m21))) (fun (k20 : Sg → Option (Int32 × Sg)) =>
  (if x18 = 0 then calv (f_X2_fail 8 m17) (fun m23 => k20 m23) else
  k20 m17))))) = some (mc'.1 8 2, mc') ∧ (if (mm.1 27 11) = (-1) then cal (f_X11_look mm) (fun x29 m28 => bnd (fun (m30 : Sg) => cal (f_X11_fails m30) (fun x33 m32 => some m32)) (fun (k31 : Sg → Option (Sg)) =>
  (if x29 = (-1) then (if (m28.1 27 26) = 0 then k31 m28 else
  some m28) else
  k31 m28))) else
  some mm) = some mm' ∧ EC mc' mm' := by
  obtain ⟨T, M, Q⟩ := Q
  rcases Q with ⟨n, p, C, sp⟩ | W
  · obtain ⟨nc, ne, ru, k1, k2, k3, k4, k5, k6, k7, k8, k9, k10, k11, K⟩ := C
    have l240 := T.1
    have n8 := K.1
    have pk := peek_v T (show 8 ≠ 1 by decide) (show 8 ≠ 2 by decide) k1 k3 k2
    have lk := look_v hb M k4 k3
    rw [sp, ← k1, wr_same] at pk
    rw [sp, ← k4, wr_same] at lk
    have e95 := K.2.2.1
    have fv := fail_v (i := 8) k2
    have mfv := mfail_v k5
    have w82 : (wr mc 8 2 (mc.1 8 1)).1 8 2 = nI p := by rw [wr_at, pk_us, k1]
    have w6 : (wr mc 8 2 (mc.1 8 1)).1 6 = mc.1 6 := wr_ne (by decide)
    have nf : ¬ (wr mc 8 2 (mc.1 8 1)).1 8 2 = -1 := by rw [w82]; exact nI_m1 (by omega)
    have E1 : EC (wr mc 8 2 (mc.1 8 1)) (wr mm 27 11 (mm.1 27 10)) := Or.inl ⟨p, w82, by rw [wr_at, pk_us, k4], by omega⟩
    simp only [if_pos k5, f_X2_needsEnd, pk, lk, cal_eq, bnd_eq, f_X0_children, f_X2_wrongAt, k6, mfv]
    by_cases y : chr tx L p = -1
    · simp only [if_pos y, calv_eq, e95, fv]
      by_cases y2 : nc = 0
      · subst y2
        simp only [if_pos (show nI 0 = 0 from rfl)]
        exact ⟨_, _, rfl, rfl, E1⟩
      · simp only [if_neg (show ¬ nI nc = 0 from nI_ne0 (by omega) (by omega))]
        exact ⟨_, _, rfl, rfl, Or.inr ⟨k2, k5, nc, ne, by omega, k6, k7, K⟩⟩
    · simp only [if_neg y, fv, calv_eq, w6, e95, fail_f nf, ite_self]
      exact ⟨_, _, rfl, rfl, E1⟩
  · obtain ⟨e, w1, w2, w3⟩ := W
    have nf : ¬ mc.1 8 2 = -1 := by rw [w1]; exact nI_m1 w3
    refine ⟨mc, mm, ?_, by rw [if_neg (by rw [w2]; exact nI_m1 w3)], Or.inl ⟨e, w1, w2, w3⟩⟩
    simp only [f_X2_needsEnd, peek_f nf, cal_eq, ↓reduceIte, calv_eq, f_X0_children, bnd_eq, f_X2_wrongAt, fail_f nf, ite_self]
end
