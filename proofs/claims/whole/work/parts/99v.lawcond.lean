/-! laws' texts: comparing -/
section
variable {nl B B' : Nat} {ln : Nat → Nat} {m m1 m2 m' mc mm mc0 mm0 mc1 mm1 mc2 mm2 : Sg} {j w u : Nat} {a a1 a2 a3 a4 r x c v v1 v2 op : Int32} {L p q k k1 k2 i n off b N t P d f g p' n' p1 : Nat} {tx lt F G : Nat → Int32} {z : Bool} {s s1 s2 : List Int32} {R : Nat → Sg → Int32 → Int32 → Option (Int32 × Sg)}
def bo (v : Int32) : Prop := v = 0 ∨ v = 1
theorem bo_isB (h : bo v) : isB v = true := by rcases h with rfl | rfl <;> rfl
def sg3 (c : Int32) : Prop := c = 61 ∨ c = 60 ∨ c = 62
/-- a comparing, once its first sum is read -/
def cTl (R : Nat → Sg → Int32 → Int32 → Option (Int32 × Sg)) (a1 a2 : Int32) (m8 : Sg) : Option (Int32 × Sg) := cal (f_X2_peek 11 m8) (fun x10 m9 => bnd (fun (m11 : Sg) => calv (f_X2_step 11 m11) (fun m13 => calv (rv (R 4 m13 a1 0)) (fun m14 => calv (f_X6_writeSign m14 x10) (fun m15 => some (1, m15))))) (fun (k12 : Sg → Option (Int32 × Sg)) =>
  (if x10 = 61 then k12 m9 else
  (if x10 = 60 then k12 m9 else
  (if x10 = 62 then k12 m9 else
  (if a2 = 0 then calv (f_X2_fail 11 m9) (fun m16 => some (0, m16)) else
  some (0, m9)))))))
def mTl (R : Nat → Sg → Int32 → Int32 → Option (Int32 × Sg)) (m1 : Sg) (x2 : Int32) : Option (Int32 × Sg) := (if (m1.1 27 11) = (-1) then cal (f_X11_look m1) (fun x5 m4 => cal (f_X11_isSign m4 x5) (fun x7 m6 => (if x7 = 0 then cal (f_X11_fails m6) (fun x12 m11 => if isB x12 = true then some (x12, m11) else none) else
  bnd (wr m6 27 10 ((m6.1 27 10) + 1)) (fun m8 => cal (R 2 m8 0 0) (fun x10 m9 => (if x5 = 61 then (if x2 = x10 then some (1, m9) else
  some (0, m9)) else
  (if x5 = 60 then (if x10 ≤ x2 then some (0, m9) else
  some (1, m9)) else
  (if x2 ≤ x10 then some (0, m9) else
  some (1, m9))))))))) else
  some (0, m1))
theorem cmp_0 : f_X11_compares R m 0 a = cal (R 2 m 0 0) (fun x m => mTl R m x) := by
  unfold f_X11_compares mTl
  rw [bnd_eq, if_pos rfl]
theorem cmp_1 : f_X11_compares R m 1 a = mTl R m a := by
  unfold f_X11_compares mTl
  rw [bnd_eq, if_neg n10]
theorem isSign_y (h : sg3 c) : f_X11_isSign m c = some (1, m) := by
  unfold f_X11_isSign
  rw [bnd_eq]
  rcases h with rfl | rfl | rfl <;> rfl
theorem isSign_n (h : ¬ sg3 c) : f_X11_isSign m c = some (0, m) := by
  unfold f_X11_isSign
  rw [bnd_eq, if_neg (fun e => h (.inl e)), if_neg (fun e => h (.inr (.inl e))), if_neg (fun e => h (.inr (.inr e)))]
theorem rk61 : reck a 61 c = if a = c then 1 else 0 := by
  unfold reck; rw [if_neg (by decide), if_neg (by decide), if_neg (by decide), if_neg (by decide), if_neg (by decide), if_neg (by decide), if_pos rfl]
theorem rk60 : reck a 60 c = if c ≤ a then 0 else 1 := by
  unfold reck; rw [if_neg (by decide), if_neg (by decide), if_neg (by decide), if_neg (by decide), if_neg (by decide), if_pos rfl]
theorem rk62 : reck a 62 c = if a ≤ c then 0 else 1 := by
  unfold reck; rw [if_neg (by decide), if_neg (by decide), if_neg (by decide), if_neg (by decide), if_neg (by decide), if_neg (by decide), if_neg (by decide), if_pos rfl]
theorem cmp_y (hb : Bt tx L) (ih : SumIH tx L z off f g d) (hd : d ≤ 6) (T : Tx tx L mc) (M : Mx tx L z off mm) (hnp : n ≤ p) (fc : Fr sK mc mc1) (fm : Fr sL mm mm1) (h : PW L (l6m (mm.1 31)) (15 - 2 * d) d p n mc p1 v1 mc1 mm1) (sg : sg3 (chr tx L (sk tx L p1))) : ∃ v' mc' mm', cTl (rec6 f) (nI d) a2 mc1 = some (1, mc') ∧ mTl (rec11 g) mm1 v1 = some (v', mm') ∧ bo v' ∧ PO L (l6m (mm.1 31)) (16 - 2 * d) d p n mc mm v' mc' mm' := by
  have l240 := T.1
  have T1 := sK_Tx T fc
  have M1 := sL_Mx M fm
  obtain ⟨s1, h1, ⟨t1, t2, t3, t4, t5, t6, t7, t8⟩, h3, h4, h5, h6⟩ := h
  have qge := sk_ge (tx := tx) (L := L) (p := p1)
  have eP := peek_v T1 (i := 11) (by decide) (by decide) t1 t3 t2
  have eL := look_v hb M1 t4 t3
  generalize sk tx L p1 = q at *
  obtain ⟨b, b1, b2, b3, b4, b5, b6⟩ : ∃ b, b < 256 ∧ chr tx L q = nI b ∧ b ≠ 59 ∧ b ≠ 63 ∧ b ≠ 33 ∧ spt 1 (nI b) = -1 := by
    rcases sg with e | e | e
    · exact ⟨61, by decide, e, by decide, by decide, by decide, by decide⟩
    · exact ⟨60, by decide, e, by decide, by decide, by decide, by decide⟩
    · exact ⟨62, by decide, e, by decide, by decide, by decide, by decide⟩
  have qL : q < L := chr_m1 (by rw [b2]; exact nI_m1 (by omega))
  obtain ⟨v, mc3, mm3, r1, r2, g1, g2, g3⟩ := ih (wr mc1 11 1 (nI (q + 1))) (wr mm1 27 10 (nI (q + 1))) (q + 1) (n + s1.length) (Tx_wr T1 (by decide) (by decide)) (Mx_wr M1 (by decide) (by decide) (by decide)) ⟨by rw [wr_at, pk_us], by rw [wr_at, pk_un (by decide)]; exact t2, by omega, by rw [wr_at, pk_us], by rw [wr_at, pk_un (by decide)]; exact t5, by rw [wr_at, pk_un (by decide)]; exact t6, by rw [wr_ne (by decide)]; exact t7, by omega⟩
  have e31 : (wr mm1 27 10 (nI (q + 1))).1 31 = mm.1 31 := by
    rw [wr_ne (by decide)]
    exact funext fun i => fm.1 31 i rfl
  rw [e31] at g3
  have fm3 : Fr sL mm mm3 := (fm.tr (Fr.w1 rfl)).tr g2
  have fc3 : Fr sK mc mc3 := (fc.tr (Fr.w1 rfl)).tr g1
  have em : mTl (rec11 g) mm1 v1 = some (reck v1 (chr tx L q) v, mm3) := by
    have d1 : (wr mm1 27 10 (nI q)).1 27 10 = nI q := by rw [wr_at, pk_us]
    unfold mTl
    rw [if_pos t5, eL, cal_eq, isSign_y sg, cal_eq, if_neg n10, d1, nI_1, wr_wr2, bnd_eq, r2, cal_eq]
    rcases sg with e | e | e
    · rw [e, rk61, if_pos rfl]
      by_cases y : v1 = v
      · rw [if_pos y, if_pos y]
      · rw [if_neg y, if_neg y]
    · rw [e, rk60, if_neg (by decide), if_pos rfl]
      by_cases y : v ≤ v1
      · rw [if_pos y, if_pos y]
      · rw [if_neg y, if_neg y]
    · rw [e, rk62, if_neg (by decide), if_neg (by decide)]
      by_cases y : v1 ≤ v
      · rw [if_pos y, if_pos y]
      · rw [if_neg y, if_neg y]
  have eb : bo (reck v1 (chr tx L q) v) := by
    rcases sg with e | e | e
    · rw [e, rk61]
      split
      · exact .inr rfl
      · exact .inl rfl
    · rw [e, rk60]
      split
      · exact .inl rfl
      · exact .inr rfl
    · rw [e, rk62]
      split
      · exact .inl rfl
      · exact .inr rfl
  have ec : ∀ m4, f_X6_writeSign mc3 (chr tx L q) = some m4 → cTl (rec6 f) (nI d) a2 mc1 = some (1, m4) := by
    intro m4 hw
    have key : calv (f_X2_step 11 (wr mc1 11 1 (nI q))) (fun m13 => calv (rv (rec6 f 4 m13 (nI d) 0)) (fun m14 => calv (f_X6_writeSign m14 (chr tx L q)) (fun m15 => some ((1 : Int32), m15)))) = some (1, m4) := by
      have st : f_X2_step 11 (wr mc1 11 1 (nI q)) = some (wr mc1 11 1 (nI (q + 1))) := by
        unfold f_X2_step
        rw [wr_at, pk_us, nI_1, wr_wr2, bnd_eq]
      rw [st, calv_eq, r1]
      show calv (some mc3) _ = _
      rw [calv_eq, hw, calv_eq]
    unfold cTl
    rw [eP, cal_eq, bnd_eq]
    dsimp only
    rw [key]
    rcases sg with e | e | e
    · rw [if_pos e]
    · rw [if_pos e]
      split <;> rfl
    · rw [if_pos e]
      split
      · rfl
      · split <;> rfl
  rcases g3 with ⟨p3, s2, a1', a2', a3', a4', a5', a6'⟩ | hb3
  · obtain ⟨w1, w2⟩ := bin_w (mc := mc) (mc2 := wr mc1 11 1 (nI (q + 1))) (k := 16 - 2 * d) h1 qge h3 h4 h5 (EV_mono h6 (by omega)) (show 15 - 2 * d + 1 ≤ 16 - 2 * d by omega) b1 b3 b4 b5 b6 (wr_ne (by decide)) a1' a2' a3' a4' a5' a6' hnp l240
    rw [← b2] at w1 w2
    exact ⟨_, _, mm3, ec _ w1, em, eb, fc3.tr fr_w12, fm3, .inl ⟨p3, w2⟩⟩
  · obtain ⟨mc4, w1, w2⟩ := fws_b (a := chr tx L q) (LWb_FL hb3)
    exact ⟨_, mc4, mm3, ec _ w1, em, eb, fc3.tr w2.1, fm3, .inr (LWb_FO hb3 w2)⟩
/-- no sign where one must stand -/
theorem cTl_n (T : Tx tx L m) (hp : m.1 11 1 = nI p) (hL : p ≤ L) (hf : m.1 11 2 = -1) (sg : ¬ sg3 (chr tx L (sk tx L p))) : cTl R a1 a2 m = some (0, if a2 = 0 then wr (wr m 11 1 (nI (sk tx L p))) 11 2 (nI (sk tx L p)) else wr m 11 1 (nI (sk tx L p))) := by
  unfold cTl
  rw [peek_v T (by decide) (by decide) hp hL hf, cal_eq, bnd_eq, if_neg (fun e => sg (.inl e)), if_neg (fun e => sg (.inr (.inl e))), if_neg (fun e => sg (.inr (.inr e)))]
  by_cases y : a2 = 0
  · rw [if_pos y, if_pos y, fail_v (by rw [wr_at, pk_un (by decide)]; exact hf), calv_eq, wr_at, pk_us]
  · rw [if_neg y, if_neg y]
theorem mTl_n (hb : Bt tx L) (M : Mx tx L z off m) (hp : m.1 27 10 = nI p) (hL : p ≤ L) (hf : m.1 27 11 = -1) (sg : ¬ sg3 (chr tx L (sk tx L p))) : mTl R m x = some (0, wr (wr m 27 10 (nI (sk tx L p))) 27 11 (nI (sk tx L p))) := by
  unfold mTl
  rw [if_pos hf, look_v hb M hp hL, cal_eq, isSign_n sg, cal_eq, if_pos rfl, mfail_v (by rw [wr_at, pk_un (by decide)]; exact hf), cal_eq, if_pos (by decide), wr_at, pk_us]
theorem cTl_b (h : FL m) : cTl R a1 a2 m = some (0, m) := by
  unfold cTl
  rw [peek_f h.1, cal_eq, bnd_eq, if_neg (by decide), if_neg (by decide), if_neg (by decide), fail_f h.1, calv_eq]
  split <;> rfl
theorem mTl_b (hf : ¬ m.1 27 11 = -1) : mTl R m x = some (0, m) := by
  unfold mTl
  rw [if_neg hf]
/-- from a piece after blanks to a piece -/
theorem PW_base (h : PW L lt k d q n mc1 p' v m mm) (hp : p ≤ q) (e : ∀ i, mc1.1 12 i = mc.1 12 i) (hk : k ≤ k2) : PW L lt k2 d p n mc p' v m mm := by
  obtain ⟨s1, h1, h2, h3, h4, h5, h6⟩ := h
  exact ⟨s1, by omega, h2, h3, fun i hi => (h4 i hi).trans (e i), h5, EV_mono h6 hk⟩
end
