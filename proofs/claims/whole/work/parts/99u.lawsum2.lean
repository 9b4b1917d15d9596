/-! laws' texts: a term, a sum -/
section
variable {nl B B' : Nat} {ln : Nat → Nat} {m m1 m2 m' mc mm mc0 mm0 mc1 mm1 mc2 mm2 : Sg} {j w u : Nat} {a a1 a2 a3 a4 r x c v v1 v2 op : Int32} {L p q k k1 k2 i n off b N t P d f g p' n' : Nat} {tx lt F G : Nat → Int32} {z : Bool} {s s1 s2 : List Int32}
theorem lgc_0 {y : Int64} (h : lg_cmp y 0 = 0) : y = 0 := by
  unfold lg_cmp at h
  split at h
  · exact absurd h (by decide)
  · split at h
    · next e => exact e
    · exact absurd h (by decide)
theorem n240 (h : i < 240) : ¬ (240 : Int32) ≤ nI i := ix_lt (n := 240) h (by decide)
theorem term_s (hb : Bt tx L) (hd : d ≤ 6) (ih : d < 6 → SumIH tx L z off f g (d + 1)) (T : Tx tx L mc) (M : Mx tx L z off mm) (S : LSt L d p n mc mm) : ∃ v mc' mm', rec6 (f + 2) 5 mc (nI d) 0 = some (0, mc') ∧ rec11 (g + 2) 1 mm 0 0 = some (v, mm') ∧ PO L (l6m (mm.1 31)) (14 - 2 * d) d p n mc mm v mc' mm' := by
  obtain ⟨v1, mc1, mm1, e1, e2, fc, fm, h⟩ := atom_s hb hd ih T M S
  have h' : (∃ p1, 0 ≤ p1 ∧ PW L (l6m (mm.1 31)) (14 - 2 * d) d p n mc p1 v1 mc1 mm1) ∨ LWb mc1 mm1 := by
    rcases h with ⟨p1, s, h1, h2, h3, h4, h5, h6⟩ | h
    · exact .inl ⟨p1, by omega, s, h1, h2, h3, h4, h5, EV_mono h6 (by omega)⟩
    · exact .inr h
  obtain ⟨mc', mm', v', z1, z2, z3, z4⟩ := bin_s (cS := f_X6_readTerm_L7 (rec6 (f + 1)) (nI d)) (mS := f_X11_term_L5 (rec11 (g + 1))) (RC := fun m => rec6 (f + 1) 6 m (nI d) 0) (RM := fun m => rec11 (g + 1) 0 m 0 0) (Q := fun _ => True) (isOp := fun c => c = 42 ∨ c = 47) (k := 14 - 2 * d) (k2 := 13 - 2 * d) T M S.2.2.2.2.2.2.2 (by omega)
    (fun mc mm p n T M S => by
      obtain ⟨v, mc', mm', a1, a2, a3⟩ := atom_s hb hd ih T M S
      exact ⟨0, v, mc', mm', a1, a2, trivial, a3⟩)
    (fun c hc => by
      rcases hc with rfl | rfl
      · exact ⟨42, by decide, rfl, by decide, by decide, by decide, by decide⟩
      · exact ⟨47, by decide, rfl, by decide, by decide, by decide, by decide⟩)
    (fun _ _ _ _ _ _ => trivial)
    (fun m => by
      simp only [f_X6_readTerm_L7, if_pos (show (240 : Int32) ≤ nI 240 by decide)])
    (fun m i hi hf => by
      simp only [f_X6_readTerm_L7, if_neg (n240 hi), feither_b hf (show ¬ (-1 : Int32) = 42 by decide) (show ¬ (-1 : Int32) = 47 by decide), cal_eq, ↓reduceIte])
    (fun m v hf => by
      simp only [f_X11_term_L5, if_neg hf])
    (fun m i q hi T hp hL hf no => by
      simp only [f_X6_readTerm_L7, if_neg (n240 hi), either_v T hp hL hf, if_neg no, cal_eq, ↓reduceIte])
    (fun m i q r m2 m3 hi T hp hL hf o hr hw => by
      have pk := peek_v (i := 11) (m := wr m 11 1 (nI (sk tx L q))) (Tx_wr T (by decide) (by decide)) (by decide) (by decide) (by rw [wr_at, pk_us]) (sk_le (tx := tx) hL) (by rw [wr_at, pk_un (by decide)]; exact hf)
      rw [sk_sk, wr_wr2] at pk
      have st : f_X2_step 11 (wr m 11 1 (nI (sk tx L q))) = some (wr m 11 1 (nI (sk tx L q + 1))) := by
        unfold f_X2_step
        rw [wr_at, pk_us, nI_1, wr_wr2, bnd_eq]
      have hr : rec6 (f + 1) 6 (wr m 11 1 (nI (sk tx L q + 1))) (nI d) 0 = some (r, m2) := hr
      have hr' : rv (rec6 (f + 1) 6 (wr m 11 1 (nI (sk tx L q + 1))) (nI d) 0) = some m2 := by rw [hr]; rfl
      simp only [f_X6_readTerm_L7, if_neg (n240 hi), either_v T hp hL hf, if_pos o, cal_eq, if_neg n10, pk, st, calv_eq, hr', hw, bnd_eq, nI_1])
    (fun m v q M hp hL hf no => by
      have l2 := look_v (m := wr m 27 10 (nI (sk tx L q))) hb (Mx_wr M (by decide) (by decide) (by decide)) (by rw [wr_at, pk_us]) (sk_le (tx := tx) hL)
      rw [sk_sk, wr_wr2] at l2
      simp only [f_X11_term_L5, if_pos hf, look_v hb M hp hL, cal_eq, bnd_eq, if_neg (fun e => no (.inl e)), l2, if_neg (fun e => no (.inr e))])
    (fun m v q x m2 M hp hL hf o hr _ _ => by
      have l2 := look_v (m := wr m 27 10 (nI (sk tx L q))) hb (Mx_wr M (by decide) (by decide) (by decide)) (by rw [wr_at, pk_us]) (sk_le (tx := tx) hL)
      rw [sk_sk, wr_wr2] at l2
      have d1 : (wr m 27 10 (nI (sk tx L q))).1 27 10 = nI (sk tx L q) := by rw [wr_at, pk_us]
      have hr : rec11 (g + 1) 0 (wr m 27 10 (nI (sk tx L q + 1))) 0 0 = some (x, m2) := hr
      rcases o with e | e
      · have rk : reck v (chr tx L (sk tx L q)) x = hld (v.toInt64 * x.toInt64) := by
          rw [e]; unfold reck; rw [if_neg (by decide), if_pos rfl]
        rw [rk]
        simp only [f_X11_term_L5, if_pos hf, look_v hb M hp hL, cal_eq, bnd_eq, if_pos e, l2, d1, nI_1, wr_wr2, hr, if_neg n10, f_X11_within]
        rfl
      · have e42 : ¬ chr tx L (sk tx L q) = 42 := by rw [e]; decide
        have rk : reck v (chr tx L (sk tx L q)) x = (if x = 0 then 0 else hld (v.toInt64 / x.toInt64)) := by
          rw [e]; unfold reck; rw [if_neg (by decide), if_neg (by decide), if_neg (by decide), if_neg (by decide), if_pos rfl]
        rw [rk]
        simp only [f_X11_term_L5, if_pos hf, look_v hb M hp hL, cal_eq, bnd_eq, if_neg e42, if_pos e, l2, d1, nI_1, wr_wr2, hr, ↓reduceIte, f_X11_within]
        by_cases y : x = 0
        · subst y
          rfl
        · have y' : ¬ x.toInt64 = 0 := fun h => y (i64_0.mp h)
          have hd : (!(decide (x.toInt64 = 0))) = true := by simp [y']
          have lc : ¬ lg_cmp x.toInt64 0 = 0 := fun h => y' (lgc_0 h)
          rw [if_neg lc, if_pos hd, if_neg y]
          rfl)
    fu mc1 mm1 v1 0 (by decide) (by decide) fc fm trivial h'
  refine ⟨v', mc', mm', ?_, ?_, z4⟩
  · show ri (f_X6_readTerm (rec6 (f + 1)) mc (nI d)) = _
    unfold f_X6_readTerm
    rw [e1]
    show ri (calv (some mc1) _) = _
    have z1 : lpO (f_X6_readTerm_L7 (rec6 (f + 1)) (nI d)) fu (mc1, 0) = some mc' := z1
    rw [calv_eq, lpk_of z1]
    rfl
  · show f_X11_term (rec11 (g + 1)) mm = _
    unfold f_X11_term
    rw [e2, cal_eq, lpk_of z2]
theorem sum_s (hb : Bt tx L) (hd : d ≤ 6) (ih : d < 6 → SumIH tx L z off f g (d + 1)) (T : Tx tx L mc) (M : Mx tx L z off mm) (S : LSt L d p n mc mm) : ∃ v mc' mm', rec6 (f + 3) 4 mc (nI d) 0 = some (0, mc') ∧ rec11 (g + 3) 2 mm 0 0 = some (v, mm') ∧ PO L (l6m (mm.1 31)) (15 - 2 * d) d p n mc mm v mc' mm' := by
  obtain ⟨v1, mc1, mm1, e1, e2, fc, fm, h⟩ := term_s hb hd ih T M S
  have h' : (∃ p1, 0 ≤ p1 ∧ PW L (l6m (mm.1 31)) (15 - 2 * d) d p n mc p1 v1 mc1 mm1) ∨ LWb mc1 mm1 := by
    rcases h with ⟨p1, s, h1, h2, h3, h4, h5, h6⟩ | h
    · exact .inl ⟨p1, by omega, s, h1, h2, h3, h4, h5, EV_mono h6 (by omega)⟩
    · exact .inr h
  obtain ⟨mc', mm', v', z1, z2, z3, z4⟩ := bin_s (cS := f_X6_readSum_L7 (rec6 (f + 2)) (nI d)) (mS := f_X11_sum_L5 (rec11 (g + 2))) (RC := fun m => rec6 (f + 2) 5 m (nI d) 0) (RM := fun m => rec11 (g + 2) 1 m 0 0) (Q := fun _ => True) (isOp := fun c => c = 43 ∨ c = 45) (k := 15 - 2 * d) (k2 := 14 - 2 * d) T M S.2.2.2.2.2.2.2 (by omega)
    (fun mc mm p n T M S => by
      obtain ⟨v, mc', mm', a1, a2, a3⟩ := term_s hb hd ih T M S
      exact ⟨0, v, mc', mm', a1, a2, trivial, a3⟩)
    (fun c hc => by
      rcases hc with rfl | rfl
      · exact ⟨43, by decide, rfl, by decide, by decide, by decide, by decide⟩
      · exact ⟨45, by decide, rfl, by decide, by decide, by decide, by decide⟩)
    (fun _ _ _ _ _ _ => trivial)
    (fun m => by
      simp only [f_X6_readSum_L7, if_pos (show (240 : Int32) ≤ nI 240 by decide)])
    (fun m i hi hf => by
      simp only [f_X6_readSum_L7, if_neg (n240 hi), feither_b hf (show ¬ (-1 : Int32) = 43 by decide) (show ¬ (-1 : Int32) = 45 by decide), cal_eq, ↓reduceIte])
    (fun m v hf => by
      simp only [f_X11_sum_L5, if_neg hf])
    (fun m i q hi T hp hL hf no => by
      simp only [f_X6_readSum_L7, if_neg (n240 hi), either_v T hp hL hf, if_neg no, cal_eq, ↓reduceIte])
    (fun m i q r m2 m3 hi T hp hL hf o hr hw => by
      have pk := peek_v (i := 11) (m := wr m 11 1 (nI (sk tx L q))) (Tx_wr T (by decide) (by decide)) (by decide) (by decide) (by rw [wr_at, pk_us]) (sk_le (tx := tx) hL) (by rw [wr_at, pk_un (by decide)]; exact hf)
      rw [sk_sk, wr_wr2] at pk
      have st : f_X2_step 11 (wr m 11 1 (nI (sk tx L q))) = some (wr m 11 1 (nI (sk tx L q + 1))) := by
        unfold f_X2_step
        rw [wr_at, pk_us, nI_1, wr_wr2, bnd_eq]
      have hr : rec6 (f + 2) 5 (wr m 11 1 (nI (sk tx L q + 1))) (nI d) 0 = some (r, m2) := hr
      have hr' : rv (rec6 (f + 2) 5 (wr m 11 1 (nI (sk tx L q + 1))) (nI d) 0) = some m2 := by rw [hr]; rfl
      simp only [f_X6_readSum_L7, if_neg (n240 hi), either_v T hp hL hf, if_pos o, cal_eq, if_neg n10, pk, st, calv_eq, hr', hw, bnd_eq, nI_1])
    (fun m v q M hp hL hf no => by
      have l2 := look_v (m := wr m 27 10 (nI (sk tx L q))) hb (Mx_wr M (by decide) (by decide) (by decide)) (by rw [wr_at, pk_us]) (sk_le (tx := tx) hL)
      rw [sk_sk, wr_wr2] at l2
      simp only [f_X11_sum_L5, if_pos hf, look_v hb M hp hL, cal_eq, bnd_eq, if_neg (fun e => no (.inl e)), l2, if_neg (fun e => no (.inr e))])
    (fun m v q x m2 M hp hL hf o hr _ _ => by
      have l2 := look_v (m := wr m 27 10 (nI (sk tx L q))) hb (Mx_wr M (by decide) (by decide) (by decide)) (by rw [wr_at, pk_us]) (sk_le (tx := tx) hL)
      rw [sk_sk, wr_wr2] at l2
      have d1 : (wr m 27 10 (nI (sk tx L q))).1 27 10 = nI (sk tx L q) := by rw [wr_at, pk_us]
      have hr : rec11 (g + 2) 1 (wr m 27 10 (nI (sk tx L q + 1))) 0 0 = some (x, m2) := hr
      rcases o with e | e
      · have rk : reck v (chr tx L (sk tx L q)) x = hld (v.toInt64 + x.toInt64) := by
          rw [e]; unfold reck; rw [if_neg (by decide), if_neg (by decide), if_pos rfl]
        rw [rk]
        simp only [f_X11_sum_L5, if_pos hf, look_v hb M hp hL, cal_eq, bnd_eq, if_pos e, l2, d1, nI_1, wr_wr2, hr, if_neg n10, f_X11_within]
        rfl
      · have e42 : ¬ chr tx L (sk tx L q) = 43 := by rw [e]; decide
        have rk : reck v (chr tx L (sk tx L q)) x = hld (v.toInt64 - x.toInt64) := by
          rw [e]; unfold reck; rw [if_neg (by decide), if_neg (by decide), if_neg (by decide), if_pos rfl]
        rw [rk]
        simp only [f_X11_sum_L5, if_pos hf, look_v hb M hp hL, cal_eq, bnd_eq, if_neg e42, if_pos e, l2, d1, nI_1, wr_wr2, hr, ↓reduceIte, f_X11_within]
        rfl)
    fu mc1 mm1 v1 0 (by decide) (by decide) fc fm trivial h'
  refine ⟨v', mc', mm', ?_, ?_, z4⟩
  · show ri (f_X6_readSum (rec6 (f + 2)) mc (nI d)) = _
    unfold f_X6_readSum
    rw [e1]
    show ri (calv (some mc1) _) = _
    have z1 : lpO (f_X6_readSum_L7 (rec6 (f + 2)) (nI d)) fu (mc1, 0) = some mc' := z1
    rw [calv_eq, lpk_of z1]
    rfl
  · show f_X11_sum (rec11 (g + 2)) mm = _
    unfold f_X11_sum
    rw [e2, cal_eq, lpk_of z2]
theorem sum_all (hb : Bt tx L) : ∀ e d f g, d + e = 6 → 3 * e + 3 ≤ f → 3 * e + 3 ≤ g → SumIH tx L z off f g d
  | 0, d, f, g, hd, hf, hg => by
    obtain ⟨f, rfl⟩ : ∃ f', f = f' + 3 := ⟨f - 3, by omega⟩
    obtain ⟨g, rfl⟩ : ∃ g', g = g' + 3 := ⟨g - 3, by omega⟩
    exact fun mc mm p n T M S => sum_s hb (by omega) (fun h => absurd h (by omega)) T M S
  | e + 1, d, f, g, hd, hf, hg => by
    obtain ⟨f, rfl⟩ : ∃ f', f = f' + 3 := ⟨f - 3, by omega⟩
    obtain ⟨g, rfl⟩ : ∃ g', g = g' + 3 := ⟨g - 3, by omega⟩
    exact fun mc mm p n T M S => sum_s hb (by omega) (fun h => sum_all hb e (d + 1) f g (by omega) (by omega) (by omega)) T M S
end
