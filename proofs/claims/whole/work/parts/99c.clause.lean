/-! texts of counties: a clause's items, whole -/
section
variable {nl B B' : Nat} {ln : Nat → Nat} {m m1 m2 m' mc mm mc0 mm0 : Sg} {j w u : Nat} {a a1 a2 a3 a4 r x c lo hi s : Int32} {L p q k i n off b N t t1 t2 t3 cnt base : Nat} {tx : Nat → Int32} {z : Bool}
theorem usual_v (ht : tabN t ≤ 6) : ∃ m', f_X1_useUsual t m = some m' ∧ Fr s9 m m' ∧ m'.1 8 = m.1 8 ∧ ∀ j, j < tabN t → m'.1 9 j = tab t j := by
  suffices key : ∃ x, lpO (f_X1_useUsual_L2 t) fu (m, 0) = some x ∧ (Fr s9 m x ∧ x.1 8 = m.1 8 ∧ ∀ j, j < tabN t → x.1 9 j = tab t j) by
    obtain ⟨x, x1, x2⟩ := key
    exact ⟨x, by unfold f_X1_useUsual; rw [lpk_of x1], x2⟩
  refine lpO_inv (step := f_X1_useUsual_L2 t) (fun i st => ∃ q, st = (q, nI i) ∧ Fr s9 m q ∧ q.1 8 = m.1 8 ∧ ∀ j, j < i → q.1 9 j = tab t j) _ (tabN t) (m, 0) ⟨m, rfl, Fr.rf, rfl, fun j hj => absurd hj (by omega)⟩ ?_ ?_ (by omega)
  · rintro i st hi ⟨q, rfl, q1, q2, q3⟩
    refine ⟨(wr q 9 i (tab t i), nI (i + 1)), ?_, _, rfl, q1.tr (Fr.w1 rfl), by rw [wr_ne (by decide)]; exact q2, fun j hj => ?_⟩
    · simp only [f_X1_useUsual_L2, if_neg (show ¬ (Int32.ofNat (tabN t)) ≤ nI i from ix_lt hi (by omega)), if_neg (show ¬ (6 : Int32) ≤ nI i from ix_lt (n := 6) (by omega) (by decide)), in_nI hi (show tabN t < 2 ^ 31 by omega), in_nI (show i < 6 by omega) (show 6 < 2 ^ 31 by decide), ↓reduceIte, nI_clamp (show i < 2 ^ 31 by omega), bnd_eq, nI_1]
    · rw [wr_at]
      by_cases e : j = i
      · subst e; rw [pk_us]
      · rw [pk_un e]; exact q3 j (by omega)
  · rintro st ⟨q, rfl, q1⟩
    refine ⟨q, ?_, q1⟩
    simp only [f_X1_useUsual_L2, if_pos (show (Int32.ofNat (tabN t)) ≤ nI (tabN t) from nI_le (Nat.le_refl _) (by omega))]
theorem mUsual_v (hK : KK k t1 t2 t3 a1) (M : Mx tx L false 0 m) (hw : w = 33 ∨ w = 35 ∨ w = 37) (hn : base + strN k ≤ n) (hn48 : n ≤ 48) : ∃ m', lpO (f_X11_readItems_L3 w n k a1 (nI base)) fu (m, 0) = some m' ∧ (Mx tx L false 0 m' ∧ Fr (sW w) m m' ∧ m'.1 27 = m.1 27 ∧ (∀ j, j < strN k → m'.1 w (base + j) = tab t3 j) ∧ ∀ j, j < base ∨ base + strN k ≤ j → m'.1 w j = m.1 w j) := by
  obtain ⟨k5, k0, kt1, kt2, kt3, kf, kr⟩ := hK
  have h6 := str6 k
  have w27 : (27 : Nat) ≠ w := by omega
  refine lpO_inv (step := f_X11_readItems_L3 w n k a1 (nI base)) (fun i st => ∃ q, st = (q, nI i) ∧ Mx tx L false 0 q ∧ Fr (sW w) m q ∧ q.1 27 = m.1 27 ∧ (∀ j, j < i → q.1 w (base + j) = tab t3 j) ∧ ∀ j, j < base ∨ base + strN k ≤ j → q.1 w j = m.1 w j) _ (strN k) (m, 0) ⟨m, rfl, M, Fr.rf, rfl, fun j hj => absurd hj (by omega), fun _ _ => rfl⟩ ?_ ?_ (by omega)
  · rintro i st hi ⟨q, rfl, q0, q1, q2, q3, q4⟩
    refine ⟨(wr q w (base + i) (tab t3 i), nI (i + 1)), ?_, _, rfl, Mx_w q0 hw, q1.tr (Fr.w1 (by simp [sW])), by rw [wr_ne w27]; exact q2, fun j hj => ?_, fun j hj => ?_⟩
    · simp only [f_X11_readItems_L3, len_v, cal_eq, if_neg (ix_lt hi (show strN k < 2 ^ 31 by omega)), (kf _ i hi).2.2, nI_add, in_nI (show base + i < n by omega) (show n < 2 ^ 31 by omega), ↓reduceIte, nI_clamp (show base + i < 2 ^ 31 by omega), bnd_eq, nI_1]
    · rw [wr_at]
      by_cases e : j = i
      · subst e; rw [pk_us]
      · rw [pk_un (by omega)]; exact q3 j (by omega)
    · rw [wr_at, pk_un (by omega)]; exact q4 j hj
  · rintro st ⟨q, rfl, q1⟩
    refine ⟨q, ?_, q1⟩
    simp only [f_X11_readItems_L3, len_v, cal_eq, if_pos (nI_le (Nat.le_refl (strN k)) (show strN k < 2 ^ 31 by omega))]
theorem s9_Tx (T : Tx tx L m) (f : Fr s9 m m') : Tx tx L m' := ⟨T.1, by rw [f.1 1 1 rfl]; exact T.2.1, fun k hk => by rw [f.1 2 k rfl]; exact T.2.2 k hk⟩
def eCl : Sg ⊕ Sg ⊕ Sg → Option Sg := fun x => match x with
  | .inl m6 => some m6
  | .inr (.inl m7) => calv (f_X2_fail 8 m7) (fun m31 => some m31)
  | .inr (.inr m8) => some m8
def eMd : Sg ⊕ Sg → Option Sg := fun y => match y with
  | .inl m19 => cal (f_X11_fails m19) (fun _ m35 => some m35)
  | .inr m20 => some m20
theorem items_v (hb : Bt tx L) (hK : KK k t1 t2 t3 a1) (hw : w = 33 ∨ w = 35 ∨ w = 37) (hn : base + strN k ≤ n) (hn48 : n ≤ 48) (T : Tx tx L mc) (M : Mx tx L false 0 mm) (h1 : mc.1 8 1 = nI p) (h2 : mc.1 8 2 = -1) (hp : p < L) (h3 : mm.1 27 10 = nI (p + 1)) (h4 : mm.1 27 11 = -1) : ∃ mc' mm', f_X1_readItems k t1 t2 t3 mc = some mc' ∧ f_X11_readItems w n k mm a1 (nI base) = some mm' ∧ OI tx L k t1 t2 w base mc mm mc' mm' := by
  have hK' := hK
  obtain ⟨k5, k0, kt1, kt2, kt3, kf, kr⟩ := hK
  have h6 := str6 k
  have l240 := T.1
  have w27 : (27 : Nat) ≠ w := by omega
  have T1 : Tx tx L (wr mc 8 1 (nI (p + 1))) := Tx_wr T (by decide) (by decide)
  obtain ⟨c2, x1, x2, x3, x4⟩ := usual_v (t := t3) (m := wr mc 8 1 (nI (p + 1))) (by omega)
  obtain ⟨m3, y1, y2, y3, y4, y5, y6⟩ := mUsual_v hK' M hw hn hn48
  have lk := look_v hb y2 (show m3.1 27 10 = nI (p + 1) by rw [y4]; exact h3) (show p + 1 ≤ L by omega)
  have r0 : RI tx L k t1 t2 w base mc mm (c2, 0, 0) (wr m3 27 10 (nI (sk tx L (p + 1))), 0, spt k (chr tx L (sk tx L (p + 1)))) := by
    refine ⟨rfl, ⟨0, rfl, Nat.zero_le _⟩, s9_Tx T1 x2, Mx_wr y2 (by decide) (by decide) (by decide), Fr.tr (m1 := wr mc 8 1 (nI (p + 1))) (Fr.w1 rfl) x2, y3.tr (Fr.w1 (by simp [sW])), Or.inl ⟨p + 1, ?_, ?_, by omega, ?_, ?_, rfl, fun i hi => ?_, fun j hj => ?_⟩⟩
    · rw [x3, wr_at, pk_us]
    · rw [x3, wr_at, pk_un (by decide)]; exact h2
    · rw [wr_at, pk_us]
    · rw [wr_at, pk_un (by decide), y4]; exact h4
    · dsimp only
      rw [x4 i (by omega), wr_ne (Ne.symm w27), y5 i hi]
      exact ⟨rfl, kr i hi⟩
    · dsimp only
      rw [wr_ne (Ne.symm w27)]; exact y6 j hj
  obtain ⟨x, y, l1, l2, Q⟩ := lpO_sim (Q := QI tx L k t1 t2 w base mc mm) (μ := fun s => 8 - s.2.2.toNatClampNeg) (fun s t h => sim_step hb hK' hw hn hn48 s t h) fu _ _ (show 8 - _ < 1000000 by omega) r0
  have ec : f_X1_readItems k t1 t2 t3 mc = eCl x := by
    unfold f_X1_readItems f_X2_step
    rw [bnd_eq, calv_eq, h1, nI_1, x1, calv_eq, lpk_of l1]
    rfl
  have em : f_X11_readItems w n k mm a1 (nI base) = eMd y := by
    unfold f_X11_readItems
    rw [lpk_of y1, lk, cal_eq, mspot_v k5, cal_eq, lpk_of l2]
    rfl
  match x, y, Q with
  | .inl xc, .inr ym, Q => exact ⟨xc, ym, ec, em, Q⟩
  | .inr (.inl xc), .inl ym, ⟨Q, Q2⟩ =>
    obtain ⟨q1, q2, q3, q4, q5⟩ := Q
    rcases q5 with ⟨e, e1, e2, e3, e4, e5, _⟩ | ⟨e, e1, e2, e3⟩
    · refine ⟨wr xc 8 2 (nI e), wr ym 27 11 (nI e), ?_, ?_, Tx_wr q1 (by decide) (by decide), Mx_wr q2 (by decide) (by decide) (by decide), q3.tr (Fr.w1 rfl), q4.tr (Fr.w1 (by simp [sW])), Or.inr ⟨e, by rw [wr_at, pk_us], by rw [wr_at, pk_us], by omega⟩⟩
      · rw [ec]
        show calv (f_X2_fail 8 xc) _ = _
        rw [fail_v e2, calv_eq, e1]
      · rw [em]
        unfold eMd
        dsimp only
        rw [mfail_v e5, cal_eq, e4]
    · rw [e1] at Q2
      exact absurd Q2 (nI_m1 e3)
end
