/-! laws' texts: conditions -/
section
variable {nl B B' : Nat} {ln : Nat → Nat} {m m1 m2 m' mc mm mc0 mm0 mc1 mm1 mc2 mm2 : Sg} {j w u : Nat} {a a1 a2 a3 a4 r x c v v1 v2 op : Int32} {L p q k k1 k2 i n off b N t P d f g p' n' p1 : Nat} {tx lt F G : Nat → Int32} {z : Bool} {s s1 s2 : List Int32} {R : Nat → Sg → Int32 → Int32 → Option (Int32 × Sg)}
/-- a truth is read by both: which of the component's, which of the model's, how deep a stack -/
def TrS (tx : Nat → Int32) (L : Nat) (z : Bool) (off : Nat) (f g w u d k : Nat) : Prop := ∀ (mc mm : Sg) p n, Tx tx L mc → Mx tx L z off mm → LSt L d p n mc mm → ∃ r v mc' mm', rec6 f w mc (nI d) 0 = some (r, mc') ∧ rec11 g u mm 0 0 = some (v, mm') ∧ bo v ∧ (mm'.1 27 11 = -1 → r = 1) ∧ PO L (l6m (mm.1 31)) k d p n mc mm v mc' mm'
theorem part_l (hb : Bt tx L) (ih : TrS tx L z off f g 2 4 d (16 - 2 * d)) (hd : d ≤ 6) (T : Tx tx L mc) (M : Mx tx L z off mm) (hnp : n ≤ p) (fc : Fr sK mc mc1) (fm : Fr sL mm mm1) (hv : bo v1) (hr : mm1.1 27 11 = -1 → r = 1) (h : (∃ p1, PW L (l6m (mm.1 31)) (16 - 2 * d) d p n mc p1 v1 mc1 mm1) ∨ LWb mc1 mm1) : ∃ r' v' mc' mm', (if r = 0 then some (0, mc1) else lpk (f_X6_readTruth_L13 (rec6 f) (nI d)) (mc1, 0) (fun m5 => some ((1 : Int32), m5))) = some (r', mc') ∧ lpk (f_X11_part_L18 (rec11 g)) (mm1, v1) (fun ((m6, x7) : Sg × Int32) => if isB x7 = true then some (x7, m6) else none) = some (v', mm') ∧ bo v' ∧ (mm'.1 27 11 = -1 → r' = 1) ∧ PO L (l6m (mm.1 31)) (17 - 2 * d) d p n mc mm v' mc' mm' := by
  have h' : (∃ p1, 0 ≤ p1 ∧ PW L (l6m (mm.1 31)) (17 - 2 * d) d p n mc p1 v1 mc1 mm1) ∨ LWb mc1 mm1 := by
    rcases h with ⟨p1, h⟩ | h
    · exact .inl ⟨p1, by omega, PW_base h (Nat.le_refl _) (fun _ => rfl) (by omega)⟩
    · exact .inr h
  obtain ⟨mc', mm', v', z1, z2, z3, z4⟩ := bin_s (cS := f_X6_readTruth_L13 (rec6 f) (nI d)) (mS := f_X11_part_L18 (rec11 g)) (RC := fun m => rec6 f 2 m (nI d) 0) (RM := fun m => rec11 g 4 m 0 0) (Q := bo) (isOp := fun c => c = 38) (k := 17 - 2 * d) (k2 := 16 - 2 * d) T M hnp (by omega)
    (fun mc mm p n T M S => by
      obtain ⟨r, v, mc', mm', a1, a2, a3, a4, a5⟩ := ih mc mm p n T M S
      exact ⟨r, v, mc', mm', a1, a2, a3, a5⟩)
    (fun c hc => by
      subst hc
      exact ⟨38, by decide, rfl, by decide, by decide, by decide, by decide⟩)
    (fun c v1 v2 hc h1 h2 => by
      subst hc
      rcases h1 with rfl | rfl <;> rcases h2 with rfl | rfl <;> first | exact .inl rfl | exact .inr rfl)
    (fun m => by
      simp only [f_X6_readTruth_L13, if_pos (show (240 : Int32) ≤ nI 240 by decide)])
    (fun m i hi hf => by
      simp only [f_X6_readTruth_L13, if_neg (n240 hi), ftakes_b hf (show ¬ (-1 : Int32) = 38 by decide), cal_eq, ↓reduceIte])
    (fun m v hf => by
      simp only [f_X11_part_L18, if_neg hf])
    (fun m i q hi T hp hL hf no => by
      simp only [f_X6_readTruth_L13, if_neg (n240 hi), takes_v T (show 11 ≠ 1 by decide) (show 11 ≠ 2 by decide) hp hL hf, if_neg no, cal_eq, ↓reduceIte])
    (fun m i q r m2 m3 hi T hp hL hf o hr hw => by
      have hr : rec6 f 2 (wr m 11 1 (nI (sk tx L q + 1))) (nI d) 0 = some (r, m2) := hr
      rw [o] at hw
      simp only [f_X6_readTruth_L13, if_neg (n240 hi), takes_v T (show 11 ≠ 1 by decide) (show 11 ≠ 2 by decide) hp hL hf, if_pos o, cal_eq, if_neg n10, hr, hw, calv_eq, bnd_eq, nI_1])
    (fun m v q M hp hL hf no => by
      simp only [f_X11_part_L18, if_pos hf, look_v hb M hp hL, cal_eq, if_neg no])
    (fun m v q x m2 M hp hL hf o hr h1 h2 => by
      have d1 : (wr m 27 10 (nI (sk tx L q))).1 27 10 = nI (sk tx L q) := by rw [wr_at, pk_us]
      have hr : rec11 g 4 (wr m 27 10 (nI (sk tx L q + 1))) 0 0 = some (x, m2) := hr
      rw [o]
      simp only [f_X11_part_L18, if_pos hf, look_v hb M hp hL, cal_eq, bnd_eq, if_pos o, d1, nI_1, wr_wr2, hr]
      rcases h1 with rfl | rfl <;> rcases h2 with rfl | rfl <;> rfl)
    fu mc1 mm1 v1 0 (by decide) (by decide) fc fm hv h'
  have z1 : lpO (f_X6_readTruth_L13 (rec6 f) (nI d)) fu (mc1, 0) = some mc' := z1
  have em : lpk (f_X11_part_L18 (rec11 g)) (mm1, v1) (fun ((m6, x7) : Sg × Int32) => if isB x7 = true then some (x7, m6) else none) = some (v', mm') := by
    rw [lpk_of z2]
    dsimp only
    rw [if_pos (bo_isB z3)]
  by_cases y : r = 0
  · rcases h with ⟨p1, h⟩ | h
    · obtain ⟨s1, h1, h2, _⟩ := h
      exact absurd ((hr h2.2.2.2.2.1).symm.trans y) n10
    · have st : lpO (f_X11_part_L18 (rec11 g)) fu (mm1, v1) = some (mm1, v1) := by
        show lpO _ (999999 + 1) _ = _
        rw [lpO]
        simp only [f_X11_part_L18, if_neg (LWb_m h)]
      refine ⟨0, v1, mc1, mm1, by rw [if_pos y], ?_, hv, fun e => absurd e (LWb_m h), fc, fm, .inr h⟩
      rw [lpk_of st]
      dsimp only
      rw [if_pos (bo_isB hv)]
  · exact ⟨1, v', mc', mm', by rw [if_neg y, lpk_of z1], em, z3, fun _ => rfl, z4⟩
theorem cond_l (hb : Bt tx L) (ih : TrS tx L z off f g 1 5 d (17 - 2 * d)) (hd : d ≤ 6) (T : Tx tx L mc) (M : Mx tx L z off mm) (hnp : n ≤ p) (fc : Fr sK mc mc1) (fm : Fr sL mm mm1) (hv : bo v1) (hr : mm1.1 27 11 = -1 → r = 1) (h : (∃ p1, PW L (l6m (mm.1 31)) (17 - 2 * d) d p n mc p1 v1 mc1 mm1) ∨ LWb mc1 mm1) : ∃ r' v' mc' mm', (if r = 0 then some (0, mc1) else lpk (f_X6_readCondition_L13 (rec6 f) (nI d)) (mc1, 0) (fun m5 => some ((1 : Int32), m5))) = some (r', mc') ∧ lpk (f_X11_condition_L7 (rec11 g)) (mm1, v1) (fun ((m6, x7) : Sg × Int32) => if isB x7 = true then some (x7, m6) else none) = some (v', mm') ∧ bo v' ∧ (mm'.1 27 11 = -1 → r' = 1) ∧ PO L (l6m (mm.1 31)) (18 - 2 * d) d p n mc mm v' mc' mm' := by
  have h' : (∃ p1, 0 ≤ p1 ∧ PW L (l6m (mm.1 31)) (18 - 2 * d) d p n mc p1 v1 mc1 mm1) ∨ LWb mc1 mm1 := by
    rcases h with ⟨p1, h⟩ | h
    · exact .inl ⟨p1, by omega, PW_base h (Nat.le_refl _) (fun _ => rfl) (by omega)⟩
    · exact .inr h
  obtain ⟨mc', mm', v', z1, z2, z3, z4⟩ := bin_s (cS := f_X6_readCondition_L13 (rec6 f) (nI d)) (mS := f_X11_condition_L7 (rec11 g)) (RC := fun m => rec6 f 1 m (nI d) 0) (RM := fun m => rec11 g 5 m 0 0) (Q := bo) (isOp := fun c => c = 124) (k := 18 - 2 * d) (k2 := 17 - 2 * d) T M hnp (by omega)
    (fun mc mm p n T M S => by
      obtain ⟨r, v, mc', mm', a1, a2, a3, a4, a5⟩ := ih mc mm p n T M S
      exact ⟨r, v, mc', mm', a1, a2, a3, a5⟩)
    (fun c hc => by
      subst hc
      exact ⟨124, by decide, rfl, by decide, by decide, by decide, by decide⟩)
    (fun c v1 v2 hc h1 h2 => by
      subst hc
      rcases h1 with rfl | rfl <;> rcases h2 with rfl | rfl <;> first | exact .inl rfl | exact .inr rfl)
    (fun m => by
      simp only [f_X6_readCondition_L13, if_pos (show (240 : Int32) ≤ nI 240 by decide)])
    (fun m i hi hf => by
      simp only [f_X6_readCondition_L13, if_neg (n240 hi), ftakes_b hf (show ¬ (-1 : Int32) = 124 by decide), cal_eq, ↓reduceIte])
    (fun m v hf => by
      simp only [f_X11_condition_L7, if_neg hf])
    (fun m i q hi T hp hL hf no => by
      simp only [f_X6_readCondition_L13, if_neg (n240 hi), takes_v T (show 11 ≠ 1 by decide) (show 11 ≠ 2 by decide) hp hL hf, if_neg no, cal_eq, ↓reduceIte])
    (fun m i q r m2 m3 hi T hp hL hf o hr hw => by
      have hr : rec6 f 1 (wr m 11 1 (nI (sk tx L q + 1))) (nI d) 0 = some (r, m2) := hr
      rw [o] at hw
      simp only [f_X6_readCondition_L13, if_neg (n240 hi), takes_v T (show 11 ≠ 1 by decide) (show 11 ≠ 2 by decide) hp hL hf, if_pos o, cal_eq, if_neg n10, hr, hw, calv_eq, bnd_eq, nI_1])
    (fun m v q M hp hL hf no => by
      simp only [f_X11_condition_L7, if_pos hf, look_v hb M hp hL, cal_eq, if_neg no])
    (fun m v q x m2 M hp hL hf o hr h1 h2 => by
      have d1 : (wr m 27 10 (nI (sk tx L q))).1 27 10 = nI (sk tx L q) := by rw [wr_at, pk_us]
      have hr : rec11 g 5 (wr m 27 10 (nI (sk tx L q + 1))) 0 0 = some (x, m2) := hr
      rw [o]
      simp only [f_X11_condition_L7, if_pos hf, look_v hb M hp hL, cal_eq, bnd_eq, if_pos o, d1, nI_1, wr_wr2, hr]
      rcases h1 with rfl | rfl <;> rcases h2 with rfl | rfl <;> rfl)
    fu mc1 mm1 v1 0 (by decide) (by decide) fc fm hv h'
  have z1 : lpO (f_X6_readCondition_L13 (rec6 f) (nI d)) fu (mc1, 0) = some mc' := z1
  have em : lpk (f_X11_condition_L7 (rec11 g)) (mm1, v1) (fun ((m6, x7) : Sg × Int32) => if isB x7 = true then some (x7, m6) else none) = some (v', mm') := by
    rw [lpk_of z2]
    dsimp only
    rw [if_pos (bo_isB z3)]
  by_cases y : r = 0
  · rcases h with ⟨p1, h⟩ | h
    · obtain ⟨s1, h1, h2, _⟩ := h
      exact absurd ((hr h2.2.2.2.2.1).symm.trans y) n10
    · have st : lpO (f_X11_condition_L7 (rec11 g)) fu (mm1, v1) = some (mm1, v1) := by
        show lpO _ (999999 + 1) _ = _
        rw [lpO]
        simp only [f_X11_condition_L7, if_neg (LWb_m h)]
      refine ⟨0, v1, mc1, mm1, by rw [if_pos y], ?_, hv, fun e => absurd e (LWb_m h), fc, fm, .inr h⟩
      rw [lpk_of st]
      dsimp only
      rw [if_pos (bo_isB hv)]
  · exact ⟨1, v', mc', mm', by rw [if_neg y, lpk_of z1], em, z3, fun _ => rfl, z4⟩
theorem part_s (hb : Bt tx L) (ih : TrS tx L z off f g 2 4 d (16 - 2 * d)) (hd : d ≤ 6) : TrS tx L z off (f + 1) (g + 1) 1 5 d (17 - 2 * d) := by
  intro mc mm p n T M S
  obtain ⟨r, v, mc1, mm1, e1, e2, e3, e4, fc, fm, e5⟩ := ih mc mm p n T M S
  obtain ⟨r', v', mc', mm', z1, z2, z3⟩ := part_l hb ih hd T M S.2.2.2.2.2.2.2 fc fm e3 e4 e5
  refine ⟨r', v', mc', mm', ?_, ?_, z3⟩
  · show f_X6_readTruth (rec6 f) mc (nI d) 0 = _
    unfold f_X6_readTruth
    rw [e1, cal_eq]
    exact z1
  · show f_X11_part (rec11 g) mm 0 0 = _
    unfold f_X11_part
    rw [bnd_eq, if_pos rfl, e2, cal_eq]
    exact z2
theorem cond_s (hb : Bt tx L) (ih : TrS tx L z off f g 2 4 d (16 - 2 * d)) (hd : d ≤ 6) : TrS tx L z off (f + 2) (g + 2) 0 6 d (18 - 2 * d) := by
  intro mc mm p n T M S
  have ip := part_s hb ih hd
  obtain ⟨r, v, mc1, mm1, e1, e2, e3, e4, fc, fm, e5⟩ := ip mc mm p n T M S
  obtain ⟨r', v', mc', mm', z1, z2, z3⟩ := cond_l hb ip hd T M S.2.2.2.2.2.2.2 fc fm e3 e4 e5
  refine ⟨r', v', mc', mm', ?_, ?_, z3⟩
  · show f_X6_readCondition (rec6 (f + 1)) mc (nI d) 0 = _
    unfold f_X6_readCondition
    rw [e1, cal_eq]
    exact z1
  · show f_X11_condition (rec11 (g + 1)) mm 0 0 = _
    unfold f_X11_condition
    rw [e2, cal_eq]
    exact z2
end
