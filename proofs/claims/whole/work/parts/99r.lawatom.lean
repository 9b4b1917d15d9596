/-! laws' texts: an atom, what both need -/
section
variable {nl B B' : Nat} {ln : Nat → Nat} {m m1 m2 m' mc mm mc0 mm0 mc1 mm1 mc2 mm2 : Sg} {j w u : Nat} {a a1 a2 a3 a4 r x c v v1 v2 op : Int32} {L p q k k1 k2 i n off b N t P d f g p' n' : Nat} {tx lt F G : Nat → Int32} {z : Bool} {s s1 s2 : List Int32}
def LSt (L d p n : Nat) (mc mm : Sg) : Prop := mc.1 11 1 = nI p ∧ mc.1 11 2 = -1 ∧ p ≤ L ∧ mm.1 27 10 = nI p ∧ mm.1 27 11 = -1 ∧ mm.1 27 12 = nI d ∧ mc.1 10 2 = nI n ∧ n ≤ p
def LWb (mc mm : Sg) : Prop := ∃ e, e < 2 ^ 31 ∧ mc.1 11 2 = nI e ∧ mm.1 27 11 = nI e ∧ ∃ n, n ≤ 240 ∧ mc.1 10 2 = nI n
/-- a piece worth v has been read, up to p' -/
def PW (L : Nat) (lt : Nat → Int32) (k d p n : Nat) (mc : Sg) (p' : Nat) (v : Int32) (mc' mm' : Sg) : Prop := ∃ s : List Int32, s.length + p ≤ p' ∧ LSt L d p' (n + s.length) mc' mm' ∧ At (mc'.1 12) n s ∧ (∀ i, i < n → mc'.1 12 i = mc.1 12 i) ∧ (∀ c, c ∈ s → CO c) ∧ EV lt s v k
/-- both have read a piece worth v: well, or wrong at one place -/
def PO (L : Nat) (lt : Nat → Int32) (k d p n : Nat) (mc mm : Sg) (v : Int32) (mc' mm' : Sg) : Prop := Fr sK mc mc' ∧ Fr sL mm mm' ∧ ((∃ p', PW L lt k d p n mc p' v mc' mm') ∨ LWb mc' mm')
theorem LWb_FL (h : LWb mc mm) : FL mc := by
  obtain ⟨e, e1, e2, e3, n⟩ := h
  exact ⟨by rw [e2]; exact nI_m1 e1, n⟩
theorem LWb_m (h : LWb mc mm) : ¬ mm.1 27 11 = -1 := by
  obtain ⟨e, e1, e2, e3, n⟩ := h
  rw [e3]; exact nI_m1 e1
theorem LWb_FO (h : LWb mc mm) (k : FO mc mc1) : LWb mc1 mm := by
  obtain ⟨e, e1, e2, e3, n⟩ := h
  exact ⟨e, e1, k.2.1.trans e2, e3, k.2.2⟩
theorem At_app (h1 : At F n s1) (h2 : At F (n + s1.length) s2) : At F n (s1 ++ s2) := fun i hi => by
  rcases Nat.lt_or_ge i s1.length with y | y
  · rw [h1 i y, gd_l y]
  · obtain ⟨j, rfl⟩ : ∃ j, i = s1.length + j := ⟨i - s1.length, by omega⟩
    rw [List.length_append] at hi
    rw [gd_r, ← Nat.add_assoc, h2 j (by omega)]
theorem At_eq (h : At F n s) (e : ∀ i, i < n + s.length → G i = F i) : At G n s := fun i hi => by rw [e _ (by omega), h i hi]
theorem At_w : At (upd F n c) n [c] := fun i hi => by
  have : i = 0 := by simp only [List.length_cons, List.length_nil] at hi; omega
  subst this
  show upd F n c n = _
  rw [pk_us]; rfl
theorem LSt_w (h : LSt L d p n mc mm) (hn : n + 1 ≤ p) : LSt L d p (n + 1) (wr (wr mc 12 n c) 10 2 (nI (n + 1))) mm := by
  obtain ⟨h1, h2, h3, h4, h5, h6, h7, h8⟩ := h
  exact ⟨by rw [wr_ne (by decide), wr_ne (by decide)]; exact h1, by rw [wr_ne (by decide), wr_ne (by decide)]; exact h2, h3, h4, h5, h6, by rw [wr_at, pk_us], hn⟩
theorem w12 : (wr (wr mc 12 n c) 10 2 r).1 12 = upd (mc.1 12) n c := by rw [wr_ne (by decide), wr_at]
theorem fr_w12 : Fr sK mc (wr (wr mc 12 n c) 10 2 r) := Fr.tr (m1 := wr mc 12 n c) (Fr.w1 rfl) (Fr.w1 rfl)
theorem needs_v (T : Tx tx L m) (hp : m.1 11 1 = nI p) (hL : p ≤ L) (hf : m.1 11 2 = -1) : f_X2_needs 11 m a = (if chr tx L (sk tx L p) = a then some (wr m 11 1 (nI (sk tx L p + 1))) else some (wr (wr m 11 1 (nI (sk tx L p))) 11 2 (nI (sk tx L p)))) := by
  unfold f_X2_needs f_X2_step
  rw [peek_v T (by decide) (by decide) hp hL hf, cal_eq]
  by_cases y : chr tx L (sk tx L p) = a
  · rw [if_pos y, if_pos y, bnd_eq, calv_eq, wr_at, pk_us, nI_1, wr_wr2]
  · rw [if_neg y, if_neg y, fail_v (by rw [wr_at, pk_un (by decide)]; exact hf), calv_eq, wr_at, pk_us]
theorem mtakes_v (hb : Bt tx L) (M : Mx tx L z off m) (hp : m.1 27 10 = nI p) (hL : p ≤ L) (hf : m.1 27 11 = -1) : f_X11_takes m a = (if chr tx L (sk tx L p) = a then some (1, wr m 27 10 (nI (sk tx L p + 1))) else some (0, wr (wr m 27 10 (nI (sk tx L p))) 27 11 (nI (sk tx L p)))) := by
  unfold f_X11_takes
  rw [bnd_eq, if_pos hf, look_v hb M hp hL, cal_eq]
  by_cases y : chr tx L (sk tx L p) = a
  · rw [if_pos y, if_pos y, bnd_eq, wr_at, pk_us, nI_1, wr_wr2]
  · rw [if_neg y, if_neg y]
    dsimp only
    rw [mfail_v (by rw [wr_at, pk_un (by decide)]; exact hf), cal_eq, if_pos (by decide), wr_at, pk_us]
theorem mtakes_f (hf : ¬ m.1 27 11 = -1) : f_X11_takes m a = some (0, m) := by
  unfold f_X11_takes
  rw [bnd_eq, if_neg hf]
  dsimp only
  rw [mfail_f hf, cal_eq, if_pos (by decide)]
theorem l6m_let (hi : i < 6) (h : spt 1 (nI b) = nI i) (hb : b < 256) : b < 128 ∧ l6m F i = F b := by
  rcases spt_cases 1 (nI b) with y | ⟨i', i1, i2, i3⟩
  · rw [y] at h; exact absurd h.symm (nI_m1 (by omega))
  · have e : i' = i := by
      rw [i2] at h
      exact (nI_eq (by have : strN 1 ≤ 6 := str6 1; omega) (by omega)).mp h
    subst e
    have t0 : strB 1 0 = nI 99 := by decide
    have t1 : strB 1 1 = nI 97 := by decide
    have t2 : strB 1 2 = nI 107 := by decide
    have t3 : strB 1 3 = nI 110 := by decide
    have t4 : strB 1 4 = nI 109 := by decide
    have t5 : strB 1 5 = nI 119 := by decide
    rcases lt6 hi with e | e | e | e | e | e <;> subst e
    · rw [t0] at i3
      have : b = 99 := ((nI_eq (a := 99) (by decide) (by omega)).mp i3).symm
      subst this; exact ⟨by decide, rfl⟩
    · rw [t1] at i3
      have : b = 97 := ((nI_eq (a := 97) (by decide) (by omega)).mp i3).symm
      subst this; exact ⟨by decide, rfl⟩
    · rw [t2] at i3
      have : b = 107 := ((nI_eq (a := 107) (by decide) (by omega)).mp i3).symm
      subst this; exact ⟨by decide, rfl⟩
    · rw [t3] at i3
      have : b = 110 := ((nI_eq (a := 110) (by decide) (by omega)).mp i3).symm
      subst this; exact ⟨by decide, rfl⟩
    · rw [t4] at i3
      have : b = 109 := ((nI_eq (a := 109) (by decide) (by omega)).mp i3).symm
      subst this; exact ⟨by decide, rfl⟩
    · rw [t5] at i3
      have : b = 119 := ((nI_eq (a := 119) (by decide) (by omega)).mp i3).symm
      subst this; exact ⟨by decide, rfl⟩
theorem nI_sb (h : k ≤ n) : nI n - nI k = nI (n - k) := by
  obtain ⟨d, rfl⟩ : ∃ d, n = d + k := ⟨n - k, by omega⟩
  rw [← nI_add, Int32.add_sub_cancel, show d + k - k = d by omega]
theorem dig_b (hb : Bt tx L) (h : dig (chr tx L p) = true) : ∃ b, b < 10 ∧ chr tx L p = nI (b + 48) := by
  have pl := dig_lt h
  obtain ⟨b, b1, b2, b3⟩ := hb p pl
  have ec : chr tx L p = nI b := by unfold chr; rw [if_pos pl, b3]
  rw [ec] at h ⊢
  have hd := dig_iff.mp h
  have h1 : 48 ≤ b := by
    rcases Nat.lt_or_ge b 48 with y | y
    · exact absurd (nI_lt (b := 48) y (by decide)) hd.1
    · exact y
  have h2 : b ≤ 57 := by
    rcases Nat.lt_or_ge 57 b with y | y
    · exact absurd (nI_lt (a := 57) y (by omega)) hd.2
    · exact y
  exact ⟨b - 48, by omega, by rw [show b - 48 + 48 = b by omega]⟩
theorem nmF_val (hb : Bt tx L) : ∀ n p k, ∃ k', (nmF tx L n p (nI k)).1 = nI k' ∧ k' + 1 ≤ (k + 1) * 10 ^ n
  | 0, p, k => ⟨k, rfl, by rw [Nat.pow_zero]; omega⟩
  | n + 1, p, k => by
    by_cases y : dig (chr tx L p) = true
    · obtain ⟨b, b1, b2⟩ := dig_b hb y
      have e : nI k * 10 + chr tx L p - 48 = nI (k * 10 + b) := by
        rw [b2, show (10 : Int32) = nI 10 from rfl, show (48 : Int32) = nI 48 from rfl, pk_mul, nI_add, nI_sb (by omega), show k * 10 + (b + 48) - 48 = k * 10 + b by omega]
      have eE : nmF tx L (n + 1) p (nI k) = nmF tx L n (p + 1) (nI (k * 10 + b)) := by rw [nmF, if_pos y, e]
      rw [eE]
      obtain ⟨k', e1, e2⟩ := nmF_val hb n (p + 1) (k * 10 + b)
      have e3 : (k + 1) * 10 ^ (n + 1) = ((k + 1) * 10) * 10 ^ n := by rw [Nat.pow_succ, Nat.mul_comm (10 ^ n) 10, Nat.mul_assoc]
      refine ⟨k', e1, Nat.le_trans e2 ?_⟩
      rw [e3]
      exact Nat.mul_le_mul_right _ (by omega)
    · have eE : nmF tx L (n + 1) p (nI k) = (nI k, p) := by rw [nmF, if_neg y]
      rw [eE]
      exact ⟨k, rfl, Nat.le_mul_of_pos_right _ (Nat.pow_pos (by decide))⟩
theorem nmF_adv (h : dig (chr tx L p) = true) (hn : 0 < n) : p + 1 ≤ (nmF tx L n p x).2 ∧ (nmF tx L n p x).2 ≤ L := by
  obtain ⟨n, rfl⟩ : ∃ n', n = n' + 1 := ⟨n - 1, by omega⟩
  rw [nmF, if_pos h]
  exact nmF_le _ _ _ (dig_lt h)
theorem gd_v (hd : d < 6) (h : m.1 11 1 = nI q) : f_X6_goesDeeper m (nI d) = some (1, wr m 11 1 (nI (q + 1))) := by
  unfold f_X6_goesDeeper f_X2_step
  rw [if_pos (show nI d < 6 from nI_lt (b := 6) hd (by decide)), bnd_eq, calv_eq, h, nI_1]
theorem gd_f (h1 : m.1 11 2 = -1) (h : m.1 11 1 = nI q) : f_X6_goesDeeper m (nI 6) = some (0, wr m 11 2 (nI q)) := by
  unfold f_X6_goesDeeper
  rw [if_neg (by decide), fail_v h1, calv_eq, h]
theorem gi_v (hd : d < 6) (h : m.1 27 12 = nI d) (h2 : m.1 27 10 = nI q) : f_X11_goesIn m = some (1, wr (wr m 27 12 (nI (d + 1))) 27 10 (nI (q + 1))) := by
  unfold f_X11_goesIn
  rw [h, if_neg (show ¬ nI d = 6 from fun e => by have := (nI_eq (b := 6) (by omega) (by decide)).mp e; omega), nI_1, bnd_eq, wr_at, pk_un (by decide), h2, nI_1, bnd_eq]
theorem gi_f (h : m.1 27 12 = nI 6) (h1 : m.1 27 11 = -1) (h2 : m.1 27 10 = nI q) : f_X11_goesIn m = some (0, wr m 27 11 (nI q)) := by
  unfold f_X11_goesIn
  rw [h, if_pos (by decide), mfail_v h1, cal_eq, if_pos (by decide), h2]
end
