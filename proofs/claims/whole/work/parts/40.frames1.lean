/-! what a mirror leaves alone -/
/-- outside S the cells are as they were (the long of a place: index 1000000) -/
def Fr (S : Nat → Nat → Bool) (m m1 : Sg) : Prop := (∀ p k, S p k = false → m1.1 p k = m.1 p k) ∧ ∀ p, S p 1000000 = false → m1.2 p = m.2 p
theorem Fr.rf {S : Nat → Nat → Bool} {m : Sg} : Fr S m m := ⟨fun _ _ _ => rfl, fun _ _ => rfl⟩
theorem Fr.tr {S : Nat → Nat → Bool} {m m1 m2 : Sg} (h : Fr S m m1) (k : Fr S m1 m2) : Fr S m m2 := ⟨fun p q hp => (k.1 p q hp).trans (h.1 p q hp), fun p hp => (k.2 p hp).trans (h.2 p hp)⟩
theorem Fr.w1 {S : Nat → Nat → Bool} {m : Sg} {p k : Nat} {v : Int32} (h : S p k = true) : Fr S m (wr m p k v) := ⟨fun q i hq => by
  by_cases e : q = p
  · subst e
    have e2 : i ≠ k := fun e2 => by rw [e2, h] at hq; cases hq
    simp [wr, va_up, pk_un e2]
  · simp [wr, va_up, e], fun _ _ => rfl⟩
theorem Fr.w2 {S : Nat → Nat → Bool} {m : Sg} {p : Nat} {f : Nat → Int32} (h : ∀ k, S p k = true) : Fr S m (wrr m p f) := ⟨fun q i hq => by
  have e : q ≠ p := fun e => by rw [e, h] at hq; cases hq
  simp [wrr, va_up, e], fun _ _ => rfl⟩
theorem Fr.w3 {S : Nat → Nat → Bool} {m : Sg} {p : Nat} {x : Int64} (h : S p 1000000 = true) : Fr S m (wrl m p x) := ⟨fun _ _ _ => rfl, fun q hq => by
  have e : q ≠ p := fun e => by rw [e, h] at hq; cases hq
  simp [wrl, va_up, e]⟩
theorem fr_if {ρ : Type} {c P : Prop} {hh : Decidable c} {A B o : Option ρ} (hm : @ite (Option ρ) c hh A B = o) (k1 : A = o → P) (k2 : B = o → P) : P := by
  by_cases q : c
  · rw [if_pos q] at hm; exact k1 hm
  · rw [if_neg q] at hm; exact k2 hm
theorem fr_fi {ρ : Type} {c P : Prop} {hh : Decidable c} {A B o : Option ρ} (hm : @ite (Option ρ) c hh B A = o) (k1 : A = o → P) (k2 : B = o → P) : P := fr_if hm k2 k1
theorem fr_n {ρ : Type} {P : Prop} {b : Bool} {A : Option ρ} {o : ρ} (hm : (if b = true then A else none) = some o) (k : A = some o → P) : P := k (ifn hm).2
theorem fr_b {α ρ : Type} {P : Prop} {x : α} {K : α → Option ρ} {o : Option ρ} (hm : bnd x K = o) (k : ∀ x, K x = o → P) : P := k x hm
theorem fr_wr {ρ : Type} {S : Nat → Nat → Bool} {m mm : Sg} {p k : Nat} {v : Int32} {K : Sg → Option ρ} {o : Option ρ} (hm : bnd (wr m p k v) K = o) (hp : S p k = true) (kk : ∀ m1, K m1 = o → Fr S m1 mm) : Fr S m mm := (Fr.w1 hp).tr (kk _ hm)
theorem fr_wrl {ρ : Type} {S : Nat → Nat → Bool} {m mm : Sg} {p : Nat} {v : Int64} {K : Sg → Option ρ} {o : Option ρ} (hm : bnd (wrl m p v) K = o) (hp : S p 1000000 = true) (kk : ∀ m1, K m1 = o → Fr S m1 mm) : Fr S m mm := (Fr.w3 hp).tr (kk _ hm)
theorem fr_st {ρ : Type} {S : Nat → Nat → Bool} {m mm : Sg} {p k : Nat} {b : Bool} {v : Int32} {K : Sg → Option ρ} {o : ρ} (hm : (if b = true then bnd (wr m p k v) K else none) = some o) (hp : S p k = true) (kk : ∀ m1, K m1 = some o → Fr S m1 mm) : Fr S m mm := fr_wr (ifn hm).2 hp kk
theorem fr_cp {ρ : Type} {S : Nat → Nat → Bool} {m mm : Sg} {p : Nat} {b : Bool} {f : Nat → Int32} {K : Sg → Option ρ} {o : ρ} (hm : (if b = true then bnd (wrr m p f) K else none) = some o) (hp : ∀ k, S p k = true) (kk : ∀ m1, K m1 = some o → Fr S m1 mm) : Fr S m mm := (Fr.w2 hp).tr (kk _ (ifn hm).2)
theorem fr_cal {α ρ : Type} {S : Nat → Nat → Bool} {m mm : Sg} {o : Option (α × Sg)} {K : α → Sg → Option ρ} {z : ρ} (hm : cal o K = some z) (hc : ∀ r m1, o = some (r, m1) → Fr S m m1) (kk : ∀ r m1, K r m1 = some z → Fr S m1 mm) : Fr S m mm := by
  obtain ⟨r, m1, h1, h2⟩ := cal_some hm
  exact (hc r m1 h1).tr (kk r m1 h2)
theorem fr_calv {ρ : Type} {S : Nat → Nat → Bool} {m mm : Sg} {o : Option Sg} {K : Sg → Option ρ} {z : ρ} (hm : calv o K = some z) (hc : ∀ m1, o = some m1 → Fr S m m1) (kk : ∀ m1, K m1 = some z → Fr S m1 mm) : Fr S m mm := by
  obtain ⟨m1, h1, h2⟩ := calv_some hm
  exact (hc m1 h1).tr (kk m1 h2)
theorem fr_ret {α : Type} {S : Nat → Nat → Bool} {r r0 : α} {m0 mm : Sg} (hm : some (r0, m0) = some (r, mm)) : Fr S m0 mm := by cases hm; exact Fr.rf
theorem fr_retz {α : Type} {S : Nat → Nat → Bool} {b : Bool} {r r0 : α} {m0 mm : Sg} (hm : (if b = true then some (r0, m0) else none) = some (r, mm)) : Fr S m0 mm := fr_ret (ifn hm).2
theorem fr_retv {S : Nat → Nat → Bool} {m0 mm : Sg} (hm : some m0 = some mm) : Fr S m0 mm := by cases hm; exact Fr.rf
theorem fr_two {P : Prop} (h1 : P) (_ : Nat → P) : P := h1
theorem rv_fr {S : Nat → Nat → Bool} {m m1 : Sg} {o : Option (Int32 × Sg)} (hc : ∀ r m1, o = some (r, m1) → Fr S m m1) (h : rv o = some m1) : Fr S m m1 := by
  cases o with
  | none => cases h
  | some q => cases h; exact hc q.1 q.2 rfl
theorem ri_fr {S : Nat → Nat → Bool} {m m1 : Sg} {r : Int32} {o : Option Sg} (hc : ∀ m1, o = some m1 → Fr S m m1) (h : ri o = some (r, m1)) : Fr S m m1 := by
  cases o with
  | none => cases h
  | some q => cases h; exact hc _ rfl
set_option maxRecDepth 4000 in
theorem fr_X0_cell {S : Nat → Nat → Bool} {m mm : Sg} {r : Int32} {j : Nat} {a1 : Int32} (hm : f_X0_cell j m a1 = some (r, mm)) : Fr S m mm := by
  unfold f_X0_cell at hm
  refine fr_if hm (fun hm => ?_) (fun hm => ?_)
  · skip
    exact fr_ret hm
  · skip
    refine fr_if hm (fun hm => ?_) (fun hm => ?_)
    · skip
      exact fr_ret hm
    · skip
      refine fr_n hm (fun hm => ?_)
      exact fr_ret hm
set_option maxRecDepth 4000 in
theorem fr_X0_put {S : Nat → Nat → Bool} {m mm : Sg} {j : Nat} {a1 : Int32} {a2 : Int32} (s_j : ∀ k, S j k = true) (hm : f_X0_put j m a1 a2 = some mm) : Fr S m mm := by
  unfold f_X0_put at hm
  refine fr_if hm (fun hm => ?_) (fun hm => ?_)
  · exact fr_retv hm
  · skip
    refine fr_if hm (fun hm => ?_) (fun hm => ?_)
    · exact fr_retv hm
    · skip
      refine fr_st hm (by first | assumption | exact s_j _) (fun m1 hm => ?_)
      exact fr_retv hm
set_option maxRecDepth 4000 in
theorem fr_X0_kid {S : Nat → Nat → Bool} {m mm : Sg} {r : Int32} {j : Nat} {a1 : Int32} {a2 : Int32} (hm : f_X0_kid j m a1 a2 = some (r, mm)) : Fr S m mm := by
  unfold f_X0_kid at hm
  refine fr_b hm (fun x1 hm => ?_)
  refine fr_if hm (fun hm => ?_) (fun hm => ?_)
  · skip
    exact fr_ret hm
  · skip
    refine fr_if hm (fun hm => ?_) (fun hm => ?_)
    · skip
      exact fr_ret hm
    · skip
      refine fr_n hm (fun hm => ?_)
      exact fr_ret hm
set_option maxRecDepth 4000 in
theorem fr_X0_putKid {S : Nat → Nat → Bool} {m mm : Sg} {j : Nat} {a1 : Int32} {a2 : Int32} {a3 : Int32} (s_j : ∀ k, S j k = true) (hm : f_X0_putKid j m a1 a2 a3 = some mm) : Fr S m mm := by
  unfold f_X0_putKid at hm
  refine fr_b hm (fun x1 hm => ?_)
  refine fr_if hm (fun hm => ?_) (fun hm => ?_)
  · exact fr_retv hm
  · skip
    refine fr_if hm (fun hm => ?_) (fun hm => ?_)
    · exact fr_retv hm
    · skip
      refine fr_st hm (by first | assumption | exact s_j _) (fun m2 hm => ?_)
      exact fr_retv hm
set_option maxRecDepth 4000 in
theorem fr_X0_old {S : Nat → Nat → Bool} {m mm : Sg} {r : Int32} {j : Nat} {a1 : Int32} {a2 : Int32} (hm : f_X0_old j m a1 a2 = some (r, mm)) : Fr S m mm := by
  unfold f_X0_old at hm
  refine fr_b hm (fun x1 hm => ?_)
  refine fr_if hm (fun hm => ?_) (fun hm => ?_)
  · skip
    exact fr_ret hm
  · skip
    refine fr_if hm (fun hm => ?_) (fun hm => ?_)
    · skip
      exact fr_ret hm
    · skip
      refine fr_n hm (fun hm => ?_)
      exact fr_ret hm
set_option maxRecDepth 4000 in
theorem fr_X0_putOld {S : Nat → Nat → Bool} {m mm : Sg} {j : Nat} {a1 : Int32} {a2 : Int32} {a3 : Int32} (s_j : ∀ k, S j k = true) (hm : f_X0_putOld j m a1 a2 a3 = some mm) : Fr S m mm := by
  unfold f_X0_putOld at hm
  refine fr_b hm (fun x1 hm => ?_)
  refine fr_if hm (fun hm => ?_) (fun hm => ?_)
  · exact fr_retv hm
  · skip
    refine fr_if hm (fun hm => ?_) (fun hm => ?_)
    · exact fr_retv hm
    · skip
      refine fr_st hm (by first | assumption | exact s_j _) (fun m2 hm => ?_)
      exact fr_retv hm
set_option maxRecDepth 4000 in
theorem fr_X0_children {S : Nat → Nat → Bool} {m mm : Sg} {r : Int32} {j : Nat} (hm : f_X0_children j m  = some (r, mm)) : Fr S m mm := by
  unfold f_X0_children at hm
  exact fr_ret hm
set_option maxRecDepth 4000 in
theorem fr_X0_elders {S : Nat → Nat → Bool} {m mm : Sg} {r : Int32} {j : Nat} (hm : f_X0_elders j m  = some (r, mm)) : Fr S m mm := by
  unfold f_X0_elders at hm
  exact fr_ret hm
set_option maxRecDepth 4000 in
theorem fr_X0_ruler {S : Nat → Nat → Bool} {m mm : Sg} {r : Int32} {j : Nat} (hm : f_X0_ruler j m  = some (r, mm)) : Fr S m mm := by
  unfold f_X0_ruler at hm
  exact fr_ret hm
set_option maxRecDepth 4000 in
theorem fr_X0_become {S : Nat → Nat → Bool} {m mm : Sg} {j : Nat} {jo : Nat} (s_j : ∀ k, S j k = true) (hm : f_X0_become j jo m  = some mm) : Fr S m mm := by
  unfold f_X0_become at hm
  refine fr_cp hm (by first | assumption | exact s_j _) (fun m1 hm => ?_)
  exact fr_retv hm
set_option maxRecDepth 4000 in
theorem fr_X0_copyTo {S : Nat → Nat → Bool} {m mm : Sg} {j : Nat} {w : Nat} {n : Nat} {a1 : Int32} (s_w : ∀ k, S w k = true) (hm : f_X0_copyTo j w n m a1 = some mm) : Fr S m mm := by
  unfold f_X0_copyTo at hm
  refine fr_if hm (fun hm => ?_) (fun hm => ?_)
  · exact fr_retv hm
  · skip
    refine fr_if hm (fun hm => ?_) (fun hm => ?_)
    · exact fr_retv hm
    · skip
      refine fr_cp hm (by first | assumption | exact s_w _) (fun m1 hm => ?_)
      exact fr_retv hm
set_option maxRecDepth 4000 in
theorem fr_X0_copyFrom {S : Nat → Nat → Bool} {m mm : Sg} {j : Nat} {w : Nat} {n : Nat} {a1 : Int32} (s_j : ∀ k, S j k = true) (hm : f_X0_copyFrom j w n m a1 = some mm) : Fr S m mm := by
  unfold f_X0_copyFrom at hm
  refine fr_if hm (fun hm => ?_) (fun hm => ?_)
  · exact fr_retv hm
  · skip
    refine fr_if hm (fun hm => ?_) (fun hm => ?_)
    · exact fr_retv hm
    · skip
      refine fr_cp hm (by first | assumption | exact s_j _) (fun m1 hm => ?_)
      exact fr_retv hm
set_option maxRecDepth 4000 in
theorem fr_X0_clear {S : Nat → Nat → Bool} {m mm : Sg} {j : Nat} (s_j : ∀ k, S j k = true) (hm : f_X0_clear j m  = some mm) : Fr S m mm := by
  unfold f_X0_clear at hm
  refine g_lp (I := fun (s : Sg × Int32) => Fr S s.1 mm) (E := fun (s : Sg) => Fr S s mm) hm ?_ ?_
  · rintro m3 hm
    (try dsimp only at hm)
    (try dsimp only)
    refine fr_wr hm (by first | assumption | exact s_j _) (fun m8 hm => ?_)
    exact fr_retv hm
  · rintro ⟨m1, x2⟩ o hm hx5 hi4
    (try dsimp only [f_X0_clear_L2] at hm)
    (try dsimp only)
    refine fr_if hm (fun hm => ?_) (fun hm => ?_)
    · skip
      cases hm
      exact hx5 _ rfl
    · skip
      refine fr_st hm (by first | assumption | exact s_j _) (fun m6 hm => ?_)
      refine fr_b hm (fun x7 hm => ?_)
      cases hm
      exact hi4 _ rfl
set_option maxRecDepth 4000 in
theorem fr_X0_setRule {S : Nat → Nat → Bool} {m mm : Sg} {j : Nat} {a1 : Int32} {a2 : Int32} {a3 : Int32} (s_j : ∀ k, S j k = true) (hm : f_X0_setRule j m a1 a2 a3 = some mm) : Fr S m mm := by
  unfold f_X0_setRule at hm
  refine fr_wr hm (by first | assumption | exact s_j _) (fun m1 hm => ?_)
  refine fr_wr hm (by first | assumption | exact s_j _) (fun m2 hm => ?_)
  refine fr_wr hm (by first | assumption | exact s_j _) (fun m3 hm => ?_)
  exact fr_retv hm
set_option maxRecDepth 4000 in
theorem fr_X0_fromBelow {S : Nat → Nat → Bool} {m mm : Sg} {r : Int32} {a1 : Int32} (hm : f_X0_fromBelow  m a1 = some (r, mm)) : Fr S m mm := by
  unfold f_X0_fromBelow at hm
  exact fr_ret hm
set_option maxRecDepth 4000 in
theorem fr_X0_isTold {S : Nat → Nat → Bool} {m mm : Sg} {r : Int32} {j : Nat} (hm : f_X0_isTold j m  = some (r, mm)) : Fr S m mm := by
  unfold f_X0_isTold at hm
  refine fr_if hm (fun hm => ?_) (fun hm => ?_)
  · skip
    exact fr_ret hm
  · skip
    exact fr_ret hm
set_option maxRecDepth 4000 in
theorem fr_X0_hasChild {S : Nat → Nat → Bool} {m mm : Sg} {r : Int32} {j : Nat} {a1 : Int32} (hm : f_X0_hasChild j m a1 = some (r, mm)) : Fr S m mm := by
  unfold f_X0_hasChild at hm
  refine fr_if hm (fun hm => ?_) (fun hm => ?_)
  · skip
    exact fr_ret hm
  · skip
    refine fr_if hm (fun hm => ?_) (fun hm => ?_)
    · skip
      exact fr_ret hm
    · skip
      exact fr_ret hm
set_option maxRecDepth 4000 in
theorem fr_X0_hasElder {S : Nat → Nat → Bool} {m mm : Sg} {r : Int32} {j : Nat} {a1 : Int32} (hm : f_X0_hasElder j m a1 = some (r, mm)) : Fr S m mm := by
  unfold f_X0_hasElder at hm
  refine fr_if hm (fun hm => ?_) (fun hm => ?_)
  · skip
    exact fr_ret hm
  · skip
    refine fr_if hm (fun hm => ?_) (fun hm => ?_)
    · skip
      exact fr_ret hm
    · skip
      exact fr_ret hm
set_option maxRecDepth 4000 in
theorem fr_X0_isNursery {S : Nat → Nat → Bool} {m mm : Sg} {r : Int32} {a1 : Int32} (hm : f_X0_isNursery  m a1 = some (r, mm)) : Fr S m mm := by
  unfold f_X0_isNursery at hm
  refine fr_if hm (fun hm => ?_) (fun hm => ?_)
  · skip
    exact fr_ret hm
  · skip
    refine fr_if hm (fun hm => ?_) (fun hm => ?_)
    · skip
      exact fr_ret hm
    · skip
      exact fr_ret hm
set_option maxRecDepth 4000 in
theorem fr_X0_isOfNursery {S : Nat → Nat → Bool} {m mm : Sg} {r : Int32} {j : Nat} {a1 : Int32} {a2 : Int32} (hm : f_X0_isOfNursery j m a1 a2 = some (r, mm)) : Fr S m mm := by
  unfold f_X0_isOfNursery at hm
  refine fr_cal hm (fun _ _ h => fr_X0_hasChild h) (fun x2 m1 hm => ?_)
  refine fr_if hm (fun hm => ?_) (fun hm => ?_)
  · skip
    exact fr_ret hm
  · skip
    refine fr_cal hm (fun _ _ h => fr_X0_kid h) (fun x4 m3 hm => ?_)
    refine fr_fi hm (fun hm => ?_) (fun hm => ?_)
    · skip
      exact fr_ret hm
    · skip
      exact fr_ret hm
set_option maxRecDepth 4000 in
theorem fr_X0_isBelowGrowing {S : Nat → Nat → Bool} {m mm : Sg} {r : Int32} {j : Nat} {a1 : Int32} (hm : f_X0_isBelowGrowing j m a1 = some (r, mm)) : Fr S m mm := by
  unfold f_X0_isBelowGrowing at hm
  refine fr_cal hm (fun _ _ h => fr_X0_kid h) (fun x2 m1 hm => ?_)
  refine fr_if hm (fun hm => ?_) (fun hm => ?_)
  · skip
    exact fr_ret hm
  · skip
    exact fr_ret hm
set_option maxRecDepth 4000 in
theorem fr_X0_isYounger {S : Nat → Nat → Bool} {m mm : Sg} {r : Int32} {j : Nat} {a1 : Int32} {a2 : Int32} (hm : f_X0_isYounger j m a1 a2 = some (r, mm)) : Fr S m mm := by
  unfold f_X0_isYounger at hm
  refine fr_cal hm (fun _ _ h => fr_X0_kid h) (fun x2 m1 hm => ?_)
  refine fr_cal hm (fun _ _ h => fr_X0_kid h) (fun x4 m3 hm => ?_)
  refine fr_if hm (fun hm => ?_) (fun hm => ?_)
  · skip
    exact fr_ret hm
  · skip
    exact fr_ret hm
set_option maxRecDepth 4000 in
theorem fr_X0_goesFirst {S : Nat → Nat → Bool} {m mm : Sg} {r : Int32} {j : Nat} {a1 : Int32} {a2 : Int32} (hm : f_X0_goesFirst j m a1 a2 = some (r, mm)) : Fr S m mm := by
  unfold f_X0_goesFirst at hm
  refine fr_cal hm (fun _ _ h => fr_X0_isYounger h) (fun x2 m1 hm => ?_)
  refine g_jn (J := fun (s : Sg) => Fr S s mm) hm ?_ ?_
  · intro m3 hm
    exact fr_ret hm
  · intro k4 hk4 hm
    refine fr_fi hm (fun hm => ?_) (fun hm => ?_)
    · skip
      exact hk4 _ hm
    · skip
      refine fr_cal hm (fun _ _ h => fr_X0_kid h) (fun x6 m5 hm => ?_)
      refine fr_cal hm (fun _ _ h => fr_X0_kid h) (fun x8 m7 hm => ?_)
      refine fr_fi hm (fun hm => ?_) (fun hm => ?_)
      · skip
        exact fr_ret hm
      · skip
        refine fr_if hm (fun hm => ?_) (fun hm => ?_)
        · skip
          exact fr_ret hm
        · skip
          exact hk4 _ hm
set_option maxRecDepth 4000 in
theorem fr_X0_bit {S : Nat → Nat → Bool} {m mm : Sg} {r : Int32} {j : Nat} {a1 : Int32} {a2 : Int32} {a3 : Int32} (hm : f_X0_bit j m a1 a2 a3 = some (r, mm)) : Fr S m mm := by
  unfold f_X0_bit at hm
  refine fr_cal hm (fun _ _ h => fr_X0_kid h) (fun x2 m1 hm => ?_)
  refine fr_if hm (fun hm => ?_) (fun hm => ?_)
  · skip
    exact fr_ret hm
  · skip
    exact fr_ret hm
set_option maxRecDepth 4000 in
theorem fr_X0_setBit {S : Nat → Nat → Bool} {m mm : Sg} {j : Nat} {a1 : Int32} {a2 : Int32} {a3 : Int32} {a4 : Int32} (s_j : ∀ k, S j k = true) (hm : f_X0_setBit j m a1 a2 a3 a4 = some mm) : Fr S m mm := by
  unfold f_X0_setBit at hm
  refine fr_cal hm (fun _ _ h => fr_X0_kid h) (fun x2 m1 hm => ?_)
  refine fr_b hm (fun x3 hm => ?_)
  refine g_jn (J := fun (s : Sg × Int32) => Fr S s.1 mm) hm ?_ ?_
  · rintro ⟨m4, x5⟩ hm
    (try dsimp only at hm)
    (try dsimp only)
    refine fr_calv hm (fun _ h => fr_X0_putKid (by first | assumption | exact s_j _) h) (fun m7 hm => ?_)
    exact fr_retv hm
  · intro k6 hk6 hm
    refine fr_if hm (fun hm => ?_) (fun hm => ?_)
    · skip
      exact hk6 _ hm
    · skip
      exact hk6 _ hm
set_option maxRecDepth 4000 in
theorem fr_X0_rightOf {S : Nat → Nat → Bool} {m mm : Sg} {r : Int32} {j : Nat} {a1 : Int32} (hm : f_X0_rightOf j m a1 = some (r, mm)) : Fr S m mm := by
  unfold f_X0_rightOf at hm
  refine fr_cal hm (fun _ _ h => fr_X0_kid h) (fun x2 m1 hm => ?_)
  refine fr_cal hm (fun _ _ h => fr_X0_kid h) (fun x4 m3 hm => ?_)
  exact fr_ret hm
set_option maxRecDepth 4000 in
theorem fr_X0_isRight {S : Nat → Nat → Bool} {m mm : Sg} {r : Int32} {j : Nat} {a1 : Int32} {a2 : Int32} (hm : f_X0_isRight j m a1 a2 = some (r, mm)) : Fr S m mm := by
  unfold f_X0_isRight at hm
  refine fr_cal hm (fun _ _ h => fr_X0_rightOf h) (fun x2 m1 hm => ?_)
  refine fr_if hm (fun hm => ?_) (fun hm => ?_)
  · skip
    exact fr_ret hm
  · skip
    exact fr_ret hm
set_option maxRecDepth 4000 in
theorem fr_X0_makeRight {S : Nat → Nat → Bool} {m mm : Sg} {j : Nat} {a1 : Int32} {a2 : Int32} (s_j : ∀ k, S j k = true) (hm : f_X0_makeRight j m a1 a2 = some mm) : Fr S m mm := by
  unfold f_X0_makeRight at hm
  refine fr_cal hm (fun _ _ h => fr_X0_kid h) (fun x2 m1 hm => ?_)
  refine fr_calv hm (fun _ h => fr_X0_putKid (by first | assumption | exact s_j _) h) (fun m3 hm => ?_)
  refine fr_cal hm (fun _ _ h => fr_X0_kid h) (fun x5 m4 hm => ?_)
  refine fr_calv hm (fun _ h => fr_X0_putKid (by first | assumption | exact s_j _) h) (fun m6 hm => ?_)
  exact fr_retv hm
set_option maxRecDepth 4000 in
theorem fr_X0_lowestTen {S : Nat → Nat → Bool} {m mm : Sg} {r : Int32} {a1 : Int32} (hm : f_X0_lowestTen  m a1 = some (r, mm)) : Fr S m mm := by
  unfold f_X0_lowestTen at hm
  refine g_lp (I := fun (s : Sg × Int32) => Fr S s.1 mm) (E := fun (x : (Sg × Int32) ⊕ (Sg)) => match x with | .inl (m3, x4) => Fr S m3 mm | .inr m5 => Fr S m5 mm) hm ?_ ?_
  · rintro (⟨m3, x4⟩ | m5) hm
    · (try dsimp only at hm)
      (try dsimp only)
      exact fr_ret hm
    · (try dsimp only at hm)
      (try dsimp only)
      exact fr_ret hm
  · rintro ⟨m1, x2⟩ o hm hx7 hi6
    (try dsimp only [f_X0_lowestTen_L2] at hm)
    (try dsimp only)
    refine fr_if hm (fun hm => ?_) (fun hm => ?_)
    · skip
      cases hm
      exact hx7 _ rfl
    · skip
      refine fr_if hm (fun hm => ?_) (fun hm => ?_)
      · refine fr_b hm (fun x8 hm => ?_)
        cases hm
        exact hi6 _ rfl
      · skip
        cases hm
        exact hx7 _ rfl
set_option maxRecDepth 4000 in
theorem fr_X0_lowestNotRight {S : Nat → Nat → Bool} {m mm : Sg} {r : Int32} {j : Nat} {a1 : Int32} (hm : f_X0_lowestNotRight j m a1 = some (r, mm)) : Fr S m mm := by
  unfold f_X0_lowestNotRight at hm
  refine fr_cal hm (fun _ _ h => fr_X0_rightOf h) (fun x2 m1 hm => ?_)
  refine fr_cal hm (fun _ _ h => fr_X0_lowestTen h) (fun x4 m3 hm => ?_)
  exact fr_ret hm
set_option maxRecDepth 4000 in
theorem fr_X0_countOf {S : Nat → Nat → Bool} {m mm : Sg} {r : Int32} {j : Nat} {a1 : Int32} (hm : f_X0_countOf j m a1 = some (r, mm)) : Fr S m mm := by
  unfold f_X0_countOf at hm
  refine fr_cal hm (fun _ _ h => fr_X0_lowestNotRight h) (fun x2 m1 hm => ?_)
  refine g_jn (J := fun (s : Sg × Int32) => Fr S s.1 mm) hm ?_ ?_
  · rintro ⟨m3, x4⟩ hm
    (try dsimp only at hm)
    (try dsimp only)
    exact fr_ret hm
  · intro k5 hk5 hm
    refine fr_fi hm (fun hm => ?_) (fun hm => ?_)
    · skip
      exact hk5 _ hm
    · skip
      exact hk5 _ hm
set_option maxRecDepth 4000 in
theorem fr_X0_beginLesson {S : Nat → Nat → Bool} {m mm : Sg} {j : Nat} {a1 : Int32} {a2 : Int32} (s_j : ∀ k, S j k = true) (hm : f_X0_beginLesson j m a1 a2 = some mm) : Fr S m mm := by
  unfold f_X0_beginLesson at hm
  refine fr_calv hm (fun _ h => fr_X0_putKid (by first | assumption | exact s_j _) h) (fun m1 hm => ?_)
  refine fr_cal hm (fun _ _ h => fr_X0_kid h) (fun x3 m2 hm => ?_)
  refine fr_calv hm (fun _ h => fr_X0_putKid (by first | assumption | exact s_j _) h) (fun m4 hm => ?_)
  exact fr_retv hm
set_option maxRecDepth 4000 in
theorem fr_X0_endLesson {S : Nat → Nat → Bool} {m mm : Sg} {j : Nat} {a1 : Int32} (s_j : ∀ k, S j k = true) (hm : f_X0_endLesson j m a1 = some mm) : Fr S m mm := by
  unfold f_X0_endLesson at hm
  refine fr_calv hm (fun _ h => fr_X0_putKid (by first | assumption | exact s_j _) h) (fun m1 hm => ?_)
  refine fr_calv hm (fun _ h => fr_X0_putKid (by first | assumption | exact s_j _) h) (fun m2 hm => ?_)
  exact fr_retv hm
set_option maxRecDepth 4000 in
theorem fr_X0_setKept {S : Nat → Nat → Bool} {m mm : Sg} {j : Nat} {a1 : Int32} {a2 : Int32} {a3 : Int32} (s_j : ∀ k, S j k = true) (hm : f_X0_setKept j m a1 a2 a3 = some mm) : Fr S m mm := by
  unfold f_X0_setKept at hm
  refine fr_calv hm (fun _ h => fr_X0_setBit (by first | assumption | exact s_j _) h) (fun m1 hm => ?_)
  refine fr_if hm (fun hm => ?_) (fun hm => ?_)
  · exact fr_retv hm
  · skip
    refine fr_cal hm (fun _ _ h => fr_X0_kid h) (fun x3 m2 hm => ?_)
    refine fr_fi hm (fun hm => ?_) (fun hm => ?_)
    · exact fr_retv hm
    · skip
      refine fr_calv hm (fun _ h => fr_X0_endLesson (by first | assumption | exact s_j _) h) (fun m4 hm => ?_)
      exact fr_retv hm
set_option maxRecDepth 4000 in
theorem fr_X0_triedTens {S : Nat → Nat → Bool} {m mm : Sg} {r : Int32} {j : Nat} (hm : f_X0_triedTens j m  = some (r, mm)) : Fr S m mm := by
  unfold f_X0_triedTens at hm
  exact fr_ret hm
set_option maxRecDepth 4000 in
theorem fr_X0_askedBy {S : Nat → Nat → Bool} {m mm : Sg} {r : Int32} {j : Nat} {a1 : Int32} (hm : f_X0_askedBy j m a1 = some (r, mm)) : Fr S m mm := by
  unfold f_X0_askedBy at hm
  refine fr_cal hm (fun _ _ h => fr_X0_old h) (fun x2 m1 hm => ?_)
  refine fr_cal hm (fun _ _ h => fr_X0_triedTens h) (fun x4 m3 hm => ?_)
  exact fr_ret hm
set_option maxRecDepth 4000 in
theorem fr_X0_byStep {S : Nat → Nat → Bool} {m mm : Sg} {r : Int32} {a1 : Int32} {a2 : Int32} (hm : f_X0_byStep  m a1 a2 = some (r, mm)) : Fr S m mm := by
  unfold f_X0_byStep at hm
  refine fr_fi hm (fun hm => ?_) (fun hm => ?_)
  · skip
    refine fr_fi hm (fun hm => ?_) (fun hm => ?_)
    · skip
      exact fr_ret hm
    · skip
      exact fr_ret hm
  · skip
    exact fr_ret hm
set_option maxRecDepth 4000 in
theorem fr_X0_askedOf {S : Nat → Nat → Bool} {m mm : Sg} {r : Int32} {j : Nat} {a1 : Int32} {a2 : Int32} (hm : f_X0_askedOf j m a1 a2 = some (r, mm)) : Fr S m mm := by
  unfold f_X0_askedOf at hm
  refine fr_cal hm (fun _ _ h => fr_X0_kid h) (fun x2 m1 hm => ?_)
  refine fr_cal hm (fun _ _ h => fr_X0_byStep h) (fun x4 m3 hm => ?_)
  exact fr_ret hm
set_option maxRecDepth 4000 in
theorem fr_X0_lacks {S : Nat → Nat → Bool} {m mm : Sg} {r : Int32} {j : Nat} {a1 : Int32} {a2 : Int32} (hm : f_X0_lacks j m a1 a2 = some (r, mm)) : Fr S m mm := by
  unfold f_X0_lacks at hm
  refine fr_cal hm (fun _ _ h => fr_X0_kid h) (fun x2 m1 hm => ?_)
  refine fr_cal hm (fun _ _ h => fr_X0_byStep h) (fun x4 m3 hm => ?_)
  refine fr_cal hm (fun _ _ h => fr_X0_kid h) (fun x6 m5 hm => ?_)
  refine fr_cal hm (fun _ _ h => fr_X0_kid h) (fun x8 m7 hm => ?_)
  exact fr_ret hm
set_option maxRecDepth 4000 in
theorem fr_X0_wants {S : Nat → Nat → Bool} {m mm : Sg} {r : Int32} {j : Nat} {a1 : Int32} {a2 : Int32} (hm : f_X0_wants j m a1 a2 = some (r, mm)) : Fr S m mm := by
  unfold f_X0_wants at hm
  refine fr_cal hm (fun _ _ h => fr_X0_askedBy h) (fun x2 m1 hm => ?_)
  refine fr_cal hm (fun _ _ h => fr_X0_lacks h) (fun x4 m3 hm => ?_)
  exact fr_ret hm
set_option maxRecDepth 4000 in
theorem fr_X0_stands {S : Nat → Nat → Bool} {m mm : Sg} {r : Int32} {j : Nat} {a1 : Int32} {a2 : Int32} (hm : f_X0_stands j m a1 a2 = some (r, mm)) : Fr S m mm := by
  unfold f_X0_stands at hm
  refine fr_cal hm (fun _ _ h => fr_X0_wants h) (fun x2 m1 hm => ?_)
  refine fr_fi hm (fun hm => ?_) (fun hm => ?_)
  · skip
    exact fr_ret hm
  · skip
    exact fr_ret hm
set_option maxRecDepth 4000 in
theorem fr_X0_trierWithout {S : Nat → Nat → Bool} {m mm : Sg} {r : Int32} {j : Nat} {a1 : Int32} (hm : f_X0_trierWithout j m a1 = some (r, mm)) : Fr S m mm := by
  unfold f_X0_trierWithout at hm
  refine g_lp (I := fun (s : Sg × Int32 × Int32) => Fr S s.1 mm) (E := fun (s : Sg × Int32) => Fr S s.1 mm) hm ?_ ?_
  · rintro ⟨m4, x5⟩ hm
    (try dsimp only at hm)
    (try dsimp only)
    exact fr_ret hm
  · rintro ⟨m1, x2, x3⟩ o hm hx7 hi6
    (try dsimp only [f_X0_trierWithout_L4] at hm)
    (try dsimp only)
    refine fr_if hm (fun hm => ?_) (fun hm => ?_)
    · skip
      cases hm
      exact hx7 _ rfl
    · skip
      refine g_jn (J := fun (s : Sg × Int32) => Fr S s.1 mm) hm ?_ ?_
      · rintro ⟨m8, x9⟩ hm
        (try dsimp only at hm)
        (try dsimp only)
        refine g_jn (J := fun (s : Sg × Int32) => Fr S s.1 mm) hm ?_ ?_
        · rintro ⟨m11, x12⟩ hm
          (try dsimp only at hm)
          (try dsimp only)
          refine fr_b hm (fun x14 hm => ?_)
          cases hm
          exact hi6 _ rfl
        · intro k13 hk13 hm
          refine fr_if hm (fun hm => ?_) (fun hm => ?_)
          · skip
            exact hk13 _ hm
          · skip
            refine g_jn (J := fun (s : Sg) => Fr S s mm) hm ?_ ?_
            · intro m15 hm
              exact hk13 _ hm
            · intro k16 hk16 hm
              refine fr_if hm (fun hm => ?_) (fun hm => ?_)
              · skip
                exact hk16 _ hm
              · skip
                refine fr_cal hm (fun _ _ h => fr_X0_old h) (fun x18 m17 hm => ?_)
                refine fr_cal hm (fun _ _ h => fr_X0_old h) (fun x20 m19 hm => ?_)
                refine fr_if hm (fun hm => ?_) (fun hm => ?_)
                · skip
                  exact hk13 _ hm
                · skip
                  exact hk16 _ hm
      · intro k10 hk10 hm
        refine g_jn (J := fun (s : Sg) => Fr S s mm) hm ?_ ?_
        · intro m21 hm
          exact hk10 _ hm
        · intro k22 hk22 hm
          refine fr_fi hm (fun hm => ?_) (fun hm => ?_)
          · exact hk22 _ hm
          · skip
            refine fr_cal hm (fun _ _ h => fr_X0_askedBy h) (fun x24 m23 hm => ?_)
            refine fr_if hm (fun hm => ?_) (fun hm => ?_)
            · exact hk22 _ hm
            · skip
              exact hk10 _ hm
set_option maxRecDepth 4000 in
theorem fr_X0_goOnWithLesson {S : Nat → Nat → Bool} {m mm : Sg} {j : Nat} {a1 : Int32} (s_j : ∀ k, S j k = true) (hm : f_X0_goOnWithLesson j m a1 = some mm) : Fr S m mm := by
  unfold f_X0_goOnWithLesson at hm
  refine fr_cal hm (fun _ _ h => fr_X0_kid h) (fun x2 m1 hm => ?_)
  refine fr_b hm (fun x3 hm => ?_)
  refine fr_if hm (fun hm => ?_) (fun hm => ?_)
  · skip
    refine fr_cal hm (fun _ _ h => fr_X0_kid h) (fun x5 m4 hm => ?_)
    refine fr_calv hm (fun _ h => fr_X0_makeRight (by first | assumption | exact s_j _) h) (fun m6 hm => ?_)
    refine fr_calv hm (fun _ h => fr_X0_endLesson (by first | assumption | exact s_j _) h) (fun m7 hm => ?_)
    exact fr_retv hm
  · skip
    refine fr_calv hm (fun _ h => fr_X0_putKid (by first | assumption | exact s_j _) h) (fun m8 hm => ?_)
    exact fr_retv hm
set_option maxRecDepth 4000 in
theorem fr_X0_claimant {S : Nat → Nat → Bool} {m mm : Sg} {r : Int32} {j : Nat} {a1 : Int32} {a2 : Int32} (hm : f_X0_claimant j m a1 a2 = some (r, mm)) : Fr S m mm := by
  unfold f_X0_claimant at hm
  refine g_lp (I := fun (s : Sg × Int32 × Int32) => Fr S s.1 mm) (E := fun (s : Sg × Int32) => Fr S s.1 mm) hm ?_ ?_
  · rintro ⟨m4, x5⟩ hm
    (try dsimp only at hm)
    (try dsimp only)
    exact fr_ret hm
  · rintro ⟨m1, x2, x3⟩ o hm hx7 hi6
    (try dsimp only [f_X0_claimant_L5] at hm)
    (try dsimp only)
    refine fr_if hm (fun hm => ?_) (fun hm => ?_)
    · skip
      cases hm
      exact hx7 _ rfl
    · skip
      refine g_jn (J := fun (s : Sg × Int32) => Fr S s.1 mm) hm ?_ ?_
      · rintro ⟨m8, x9⟩ hm
        (try dsimp only at hm)
        (try dsimp only)
        refine g_jn (J := fun (s : Sg × Int32) => Fr S s.1 mm) hm ?_ ?_
        · rintro ⟨m11, x12⟩ hm
          (try dsimp only at hm)
          (try dsimp only)
          refine fr_b hm (fun x14 hm => ?_)
          cases hm
          exact hi6 _ rfl
        · intro k13 hk13 hm
          refine fr_if hm (fun hm => ?_) (fun hm => ?_)
          · skip
            exact hk13 _ hm
          · skip
            refine g_jn (J := fun (s : Sg) => Fr S s mm) hm ?_ ?_
            · intro m15 hm
              exact hk13 _ hm
            · intro k16 hk16 hm
              refine fr_if hm (fun hm => ?_) (fun hm => ?_)
              · skip
                exact hk16 _ hm
              · skip
                refine fr_cal hm (fun _ _ h => fr_X0_isYounger h) (fun x18 m17 hm => ?_)
                refine fr_if hm (fun hm => ?_) (fun hm => ?_)
                · skip
                  exact hk13 _ hm
                · skip
                  exact hk16 _ hm
      · intro k10 hk10 hm
        refine g_jn (J := fun (s : Sg) => Fr S s mm) hm ?_ ?_
        · intro m19 hm
          exact hk10 _ hm
        · intro k20 hk20 hm
          refine fr_if hm (fun hm => ?_) (fun hm => ?_)
          · exact hk20 _ hm
          · skip
            refine fr_cal hm (fun _ _ h => fr_X0_isBelowGrowing h) (fun x22 m21 hm => ?_)
            refine fr_if hm (fun hm => ?_) (fun hm => ?_)
            · exact hk20 _ hm
            · skip
              refine fr_cal hm (fun _ _ h => fr_X0_lacks h) (fun x24 m23 hm => ?_)
              refine fr_fi hm (fun hm => ?_) (fun hm => ?_)
              · exact hk20 _ hm
              · skip
                exact hk10 _ hm
set_option maxRecDepth 4000 in
theorem fr_X0_rulerBehind {S : Nat → Nat → Bool} {m mm : Sg} {r : Int32} {j : Nat} {a1 : Int32} {a2 : Int32} {a3 : Int32} (hm : f_X0_rulerBehind j m a1 a2 a3 = some (r, mm)) : Fr S m mm := by
  unfold f_X0_rulerBehind at hm
  refine g_jn (J := fun (s : Sg × Int32) => Fr S s.1 mm) hm ?_ ?_
  · rintro ⟨m1, x2⟩ hm
    (try dsimp only at hm)
    (try dsimp only)
    refine fr_if hm (fun hm => ?_) (fun hm => ?_)
    · skip
      exact fr_ret hm
    · skip
      refine fr_if hm (fun hm => ?_) (fun hm => ?_)
      · skip
        exact fr_ret hm
      · skip
        refine fr_cal hm (fun _ _ h => fr_X0_isYounger h) (fun x5 m4 hm => ?_)
        refine fr_fi hm (fun hm => ?_) (fun hm => ?_)
        · skip
          exact fr_ret hm
        · skip
          exact fr_ret hm
  · intro k3 hk3 hm
    refine g_jn (J := fun (s : Sg) => Fr S s mm) hm ?_ ?_
    · intro m6 hm
      exact hk3 _ hm
    · intro k7 hk7 hm
      refine fr_if hm (fun hm => ?_) (fun hm => ?_)
      · skip
        exact hk7 _ hm
      · skip
        refine fr_cal hm (fun _ _ h => fr_X0_kid h) (fun x9 m8 hm => ?_)
        refine fr_if hm (fun hm => ?_) (fun hm => ?_)
        · skip
          exact hk7 _ hm
        · skip
          exact hk3 _ hm
set_option maxRecDepth 4000 in
theorem fr_X0_crown {S : Nat → Nat → Bool} {m mm : Sg} {j : Nat} {a1 : Int32} (s_j : ∀ k, S j k = true) (hm : f_X0_crown j m a1 = some mm) : Fr S m mm := by
  unfold f_X0_crown at hm
  refine g_jn (J := fun (s : Sg × Int32) => Fr S s.1 mm) hm ?_ ?_
  · rintro ⟨m1, x2⟩ hm
    (try dsimp only at hm)
    (try dsimp only)
    refine fr_cal hm (fun _ _ h => fr_X0_rulerBehind h) (fun x5 m4 hm => ?_)
    refine fr_wr hm (by first | assumption | exact s_j _) (fun m6 hm => ?_)
    exact fr_retv hm
  · intro k3 hk3 hm
    refine fr_fi hm (fun hm => ?_) (fun hm => ?_)
    · skip
      refine fr_cal hm (fun _ _ h => fr_X0_askedBy h) (fun x8 m7 hm => ?_)
      refine fr_cal hm (fun _ _ h => fr_X0_claimant h) (fun x10 m9 hm => ?_)
      exact hk3 _ hm
    · skip
      exact hk3 _ hm
set_option maxRecDepth 4000 in
theorem fr_X0_reignAndTake {S : Nat → Nat → Bool} {m mm : Sg} {j : Nat} {a1 : Int32} (s_j : ∀ k, S j k = true) (hm : f_X0_reignAndTake j m a1 = some mm) : Fr S m mm := by
  unfold f_X0_reignAndTake at hm
  refine fr_b hm (fun x1 hm => ?_)
  refine g_jn (J := fun (s : Sg) => Fr S s mm) hm ?_ ?_
  · intro m2 hm
    refine fr_wr hm (by first | assumption | exact s_j _) (fun m4 hm => ?_)
    exact fr_retv hm
  · intro k3 hk3 hm
    refine fr_if hm (fun hm => ?_) (fun hm => ?_)
    · skip
      exact hk3 _ hm
    · skip
      refine fr_cal hm (fun _ _ h => fr_X0_kid h) (fun x6 m5 hm => ?_)
      refine fr_calv hm (fun _ h => fr_X0_putKid (by first | assumption | exact s_j _) h) (fun m7 hm => ?_)
      exact hk3 _ hm
set_option maxRecDepth 4000 in
theorem fr_J6_numberOfLeadingZeros_0f7a4 {S : Nat → Nat → Bool} {m mm : Sg} {r : Int32} {a1 : Int32} (hm : f_J6_numberOfLeadingZeros_0f7a4  m a1 = some (r, mm)) : Fr S m mm := by
  unfold f_J6_numberOfLeadingZeros_0f7a4 at hm
  refine fr_if hm (fun hm => ?_) (fun hm => ?_)
  · skip
    refine g_jn (J := fun (s : Sg × Int32 × Int32) => Fr S s.1 mm) hm ?_ ?_
    · rintro ⟨m1, x2, x3⟩ hm
      (try dsimp only at hm)
      (try dsimp only)
      refine g_jn (J := fun (s : Sg × Int32 × Int32) => Fr S s.1 mm) hm ?_ ?_
      · rintro ⟨m5, x6, x7⟩ hm
        (try dsimp only at hm)
        (try dsimp only)
        refine g_jn (J := fun (s : Sg × Int32 × Int32) => Fr S s.1 mm) hm ?_ ?_
        · rintro ⟨m9, x10, x11⟩ hm
          (try dsimp only at hm)
          (try dsimp only)
          refine g_jn (J := fun (s : Sg × Int32 × Int32) => Fr S s.1 mm) hm ?_ ?_
          · rintro ⟨m13, x14, x15⟩ hm
            (try dsimp only at hm)
            (try dsimp only)
            exact fr_ret hm
          · intro k16 hk16 hm
            refine fr_if hm (fun hm => ?_) (fun hm => ?_)
            · exact hk16 _ hm
            · refine fr_b hm (fun x17 hm => ?_)
              refine fr_b hm (fun x18 hm => ?_)
              exact hk16 _ hm
        · intro k12 hk12 hm
          refine fr_if hm (fun hm => ?_) (fun hm => ?_)
          · exact hk12 _ hm
          · refine fr_b hm (fun x19 hm => ?_)
            refine fr_b hm (fun x20 hm => ?_)
            exact hk12 _ hm
      · intro k8 hk8 hm
        refine fr_if hm (fun hm => ?_) (fun hm => ?_)
        · exact hk8 _ hm
        · refine fr_b hm (fun x21 hm => ?_)
          refine fr_b hm (fun x22 hm => ?_)
          exact hk8 _ hm
    · intro k4 hk4 hm
      refine fr_if hm (fun hm => ?_) (fun hm => ?_)
      · exact hk4 _ hm
      · refine fr_b hm (fun x23 hm => ?_)
        refine fr_b hm (fun x24 hm => ?_)
        exact hk4 _ hm
  · skip
    refine fr_fi hm (fun hm => ?_) (fun hm => ?_)
    · skip
      exact fr_ret hm
    · skip
      exact fr_ret hm
set_option maxRecDepth 4000 in
theorem fr_J6_bitCount_0f7a4 {S : Nat → Nat → Bool} {m mm : Sg} {r : Int32} {a1 : Int32} (hm : f_J6_bitCount_0f7a4  m a1 = some (r, mm)) : Fr S m mm := by
  unfold f_J6_bitCount_0f7a4 at hm
  refine fr_b hm (fun x1 hm => ?_)
  refine fr_b hm (fun x2 hm => ?_)
  refine fr_b hm (fun x3 hm => ?_)
  refine fr_b hm (fun x4 hm => ?_)
  refine fr_b hm (fun x5 hm => ?_)
  exact fr_ret hm
set_option maxRecDepth 4000 in
theorem fr_X0_addChild {S : Nat → Nat → Bool} {m mm : Sg} {j : Nat} {w : Nat} {n : Nat} (s_j : ∀ k, S j k = true) (hm : f_X0_addChild j w n m  = some mm) : Fr S m mm := by
  unfold f_X0_addChild at hm
  refine fr_b hm (fun x1 hm => ?_)
  refine fr_if hm (fun hm => ?_) (fun hm => ?_)
  · exact fr_retv hm
  · skip
    refine fr_if hm (fun hm => ?_) (fun hm => ?_)
    · skip
      refine fr_n hm (fun hm => ?_)
      refine fr_calv hm (fun _ h => fr_X0_putKid (by first | assumption | exact s_j _) h) (fun m2 hm => ?_)
      refine fr_n hm (fun hm => ?_)
      refine fr_cal hm (fun _ _ h => fr_X0_fromBelow h) (fun x4 m3 hm => ?_)
      refine fr_calv hm (fun _ h => fr_X0_putKid (by first | assumption | exact s_j _) h) (fun m5 hm => ?_)
      refine fr_n hm (fun hm => ?_)
      refine g_jn (J := fun (s : Sg × Int32) => Fr S s.1 mm) hm ?_ ?_
      · rintro ⟨m6, x7⟩ hm
        (try dsimp only at hm)
        (try dsimp only)
        refine fr_calv hm (fun _ h => fr_X0_putKid (by first | assumption | exact s_j _) h) (fun m9 hm => ?_)
        refine fr_n hm (fun hm => ?_)
        refine fr_calv hm (fun _ h => fr_X0_putKid (by first | assumption | exact s_j _) h) (fun m10 hm => ?_)
        refine fr_n hm (fun hm => ?_)
        refine fr_calv hm (fun _ h => fr_X0_putKid (by first | assumption | exact s_j _) h) (fun m11 hm => ?_)
        refine fr_n hm (fun hm => ?_)
        refine fr_calv hm (fun _ h => fr_X0_putKid (by first | assumption | exact s_j _) h) (fun m12 hm => ?_)
        refine fr_calv hm (fun _ h => fr_X0_putKid (by first | assumption | exact s_j _) h) (fun m13 hm => ?_)
        refine fr_wr hm (by first | assumption | exact s_j _) (fun m14 hm => ?_)
        exact fr_retv hm
      · intro k8 hk8 hm
        refine fr_if hm (fun hm => ?_) (fun hm => ?_)
        · skip
          exact hk8 _ hm
        · skip
          refine fr_n hm (fun hm => ?_)
          exact hk8 _ hm
    · exact fr_retv hm
set_option maxRecDepth 4000 in
theorem fr_X0_addElder {S : Nat → Nat → Bool} {m mm : Sg} {j : Nat} {a1 : Int32} {a2 : Int32} {a3 : Int32} (s_j : ∀ k, S j k = true) (hm : f_X0_addElder j m a1 a2 a3 = some mm) : Fr S m mm := by
  unfold f_X0_addElder at hm
  refine fr_b hm (fun x1 hm => ?_)
  refine fr_if hm (fun hm => ?_) (fun hm => ?_)
  · skip
    refine fr_calv hm (fun _ h => fr_X0_putOld (by first | assumption | exact s_j _) h) (fun m2 hm => ?_)
    refine fr_calv hm (fun _ h => fr_X0_putOld (by first | assumption | exact s_j _) h) (fun m3 hm => ?_)
    refine fr_cal hm (fun _ _ h => fr_X0_fromBelow h) (fun x5 m4 hm => ?_)
    refine fr_calv hm (fun _ h => fr_X0_putOld (by first | assumption | exact s_j _) h) (fun m6 hm => ?_)
    refine fr_wr hm (by first | assumption | exact s_j _) (fun m7 hm => ?_)
    exact fr_retv hm
  · exact fr_retv hm
set_option maxRecDepth 4000 in
theorem fr_X0_trier {S : Nat → Nat → Bool} {m mm : Sg} {r : Int32} {j : Nat} (hm : f_X0_trier j m  = some (r, mm)) : Fr S m mm := by
  unfold f_X0_trier at hm
  refine fr_cal hm (fun _ _ h => fr_X0_trierWithout h) (fun x2 m1 hm => ?_)
  exact fr_ret hm
set_option maxRecDepth 4000 in
theorem fr_X0_plumsToStand {S : Nat → Nat → Bool} {m mm : Sg} {r : Int32} {j : Nat} {a1 : Int32} {a2 : Int32} (hm : f_X0_plumsToStand j m a1 a2 = some (r, mm)) : Fr S m mm := by
  unfold f_X0_plumsToStand at hm
  refine fr_cal hm (fun _ _ h => fr_X0_wants h) (fun x2 m1 hm => ?_)
  refine fr_cal hm (fun _ _ h => fr_J6_bitCount_0f7a4 h) (fun x4 m3 hm => ?_)
  exact fr_ret hm
set_option maxRecDepth 4000 in
theorem fr_X0_plumsToRule {S : Nat → Nat → Bool} {m mm : Sg} {r : Int32} {j : Nat} {a1 : Int32} {a2 : Int32} (hm : f_X0_plumsToRule j m a1 a2 = some (r, mm)) : Fr S m mm := by
  unfold f_X0_plumsToRule at hm
  refine fr_fi hm (fun hm => ?_) (fun hm => ?_)
  · skip
    refine fr_cal hm (fun _ _ h => fr_X0_plumsToStand h) (fun x2 m1 hm => ?_)
    exact fr_ret hm
  · skip
    exact fr_ret hm
set_option maxRecDepth 4000 in
theorem fr_X0_monthsToStand {S : Nat → Nat → Bool} {m mm : Sg} {r : Int32} {j : Nat} {a1 : Int32} {a2 : Int32} (hm : f_X0_monthsToStand j m a1 a2 = some (r, mm)) : Fr S m mm := by
  unfold f_X0_monthsToStand at hm
  refine fr_cal hm (fun _ _ h => fr_X0_wants h) (fun x2 m1 hm => ?_)
  refine fr_fi hm (fun hm => ?_) (fun hm => ?_)
  · skip
    refine fr_cal hm (fun _ _ h => fr_X0_kid h) (fun x4 m3 hm => ?_)
    refine g_jn (J := fun (s : Sg × Int32) => Fr S s.1 mm) hm ?_ ?_
    · rintro ⟨m5, x6⟩ hm
      (try dsimp only at hm)
      (try dsimp only)
      refine fr_cal hm (fun _ _ h => fr_X0_kid h) (fun x9 m8 hm => ?_)
      refine fr_cal hm (fun _ _ h => fr_X0_kid h) (fun x11 m10 hm => ?_)
      refine fr_cal hm (fun _ _ h => fr_J6_bitCount_0f7a4 h) (fun x13 m12 hm => ?_)
      exact fr_ret hm
    · intro k7 hk7 hm
      refine fr_fi hm (fun hm => ?_) (fun hm => ?_)
      · skip
        exact hk7 _ hm
      · skip
        exact hk7 _ hm
  · skip
    exact fr_ret hm
set_option maxRecDepth 4000 in
theorem fr_X0_beginMonth {S : Nat → Nat → Bool} {m mm : Sg} {j : Nat} (s_j : ∀ k, S j k = true) (hm : f_X0_beginMonth j m  = some mm) : Fr S m mm := by
  unfold f_X0_beginMonth at hm
  refine fr_b hm (fun x1 hm => ?_)
  refine fr_wr hm (by first | assumption | exact s_j _) (fun m2 hm => ?_)
  refine g_lp (I := fun (s : Sg × Int32) => Fr S s.1 mm) (E := fun (s : Sg) => Fr S s mm) hm ?_ ?_
  · rintro m5 hm
    (try dsimp only at hm)
    (try dsimp only)
    refine g_lp (I := fun (s : Sg × Int32) => Fr S s.1 mm) (E := fun (s : Sg) => Fr S s mm) hm ?_ ?_
    · rintro m18 hm
      (try dsimp only at hm)
      (try dsimp only)
      exact fr_retv hm
    · rintro ⟨m16, x17⟩ o hm hx20 hi19
      (try dsimp only [f_X0_beginMonth_L70] at hm)
      (try dsimp only)
      refine fr_if hm (fun hm => ?_) (fun hm => ?_)
      · skip
        cases hm
        exact hx20 _ rfl
      · skip
        refine fr_cal hm (fun _ _ h => fr_X0_kid h) (fun x22 m21 hm => ?_)
        refine fr_calv hm (fun _ h => fr_X0_putKid (by first | assumption | exact s_j _) h) (fun m23 hm => ?_)
        refine fr_cal hm (fun _ _ h => fr_X0_kid h) (fun x25 m24 hm => ?_)
        refine g_jn (J := fun (s : Sg) => Fr S s mm) hm ?_ ?_
        · intro m26 hm
          refine fr_b hm (fun x28 hm => ?_)
          cases hm
          exact hi19 _ rfl
        · intro k27 hk27 hm
          refine fr_if hm (fun hm => ?_) (fun hm => ?_)
          · exact hk27 _ hm
          · skip
            refine fr_calv hm (fun _ h => fr_X0_goOnWithLesson (by first | assumption | exact s_j _) h) (fun m29 hm => ?_)
            exact hk27 _ hm
  · rintro ⟨m3, x4⟩ o hm hx7 hi6
    (try dsimp only [f_X0_beginMonth_L20] at hm)
    (try dsimp only)
    refine fr_if hm (fun hm => ?_) (fun hm => ?_)
    · skip
      cases hm
      exact hx7 _ rfl
    · skip
      refine fr_cal hm (fun _ _ h => fr_X0_old h) (fun x9 m8 hm => ?_)
      refine g_jn (J := fun (s : Sg) => Fr S s mm) hm ?_ ?_
      · intro m10 hm
        refine fr_b hm (fun x12 hm => ?_)
        cases hm
        exact hi6 _ rfl
      · intro k11 hk11 hm
        refine fr_if hm (fun hm => ?_) (fun hm => ?_)
        · skip
          exact hk11 _ hm
        · skip
          refine fr_n hm (fun hm => ?_)
          refine fr_fi hm (fun hm => ?_) (fun hm => ?_)
          · skip
            exact hk11 _ hm
          · skip
            refine fr_cal hm (fun _ _ h => fr_X0_old h) (fun x14 m13 hm => ?_)
            refine fr_calv hm (fun _ h => fr_X0_putOld (by first | assumption | exact s_j _) h) (fun m15 hm => ?_)
            exact hk11 _ hm
set_option maxRecDepth 4000 in
theorem fr_J6_highestOneBit_0f7a4 {S : Nat → Nat → Bool} {m mm : Sg} {r : Int32} {a1 : Int32} (hm : f_J6_highestOneBit_0f7a4  m a1 = some (r, mm)) : Fr S m mm := by
  unfold f_J6_highestOneBit_0f7a4 at hm
  refine fr_cal hm (fun _ _ h => fr_J6_numberOfLeadingZeros_0f7a4 h) (fun x2 m1 hm => ?_)
  exact fr_ret hm
set_option maxRecDepth 4000 in
theorem fr_J3_checkIndex_8e157 {S : Nat → Nat → Bool} {m mm : Sg} {r : Int32} {a1 : Int32} {a2 : Int32} (hm : f_J3_checkIndex_8e157  m a1 a2 = some (r, mm)) : Fr S m mm := by
  unfold f_J3_checkIndex_8e157 at hm
  refine g_jn (J := fun (s : Sg) => Fr S s mm) hm ?_ ?_
  · intro m1 hm
    cases hm
  · intro k2 hk2 hm
    refine fr_if hm (fun hm => ?_) (fun hm => ?_)
    · exact hk2 _ hm
    · skip
      refine fr_if hm (fun hm => ?_) (fun hm => ?_)
      · skip
        exact fr_ret hm
      · exact hk2 _ hm
set_option maxRecDepth 4000 in
theorem fr_J1_canEncode_9a6ad {S : Nat → Nat → Bool} {m mm : Sg} {r : Int32} {a1 : Int32} (hm : f_J1_canEncode_9a6ad  m a1 = some (r, mm)) : Fr S m mm := by
  unfold f_J1_canEncode_9a6ad at hm
  refine fr_if hm (fun hm => ?_) (fun hm => ?_)
  · skip
    exact fr_ret hm
  · skip
    refine fr_if hm (fun hm => ?_) (fun hm => ?_)
    · skip
      exact fr_ret hm
    · skip
      exact fr_ret hm
set_option maxRecDepth 4000 in
theorem fr_J1_indexOfChar_4cfef {S : Nat → Nat → Bool} {m mm : Sg} {r : Int32} {k : Nat} {a1 : Int32} {a2 : Int32} {a3 : Int32} (hm : f_J1_indexOfChar_4cfef k m a1 a2 a3 = some (r, mm)) : Fr S m mm := by
  unfold f_J1_indexOfChar_4cfef at hm
  refine fr_b hm (fun x1 hm => ?_)
  refine g_lp (I := fun (s : Sg × Int32) => Fr S s.1 mm) (E := fun (x : (Sg × Int32) ⊕ (Sg)) => match x with | .inl (m4, x5) => Fr S m4 mm | .inr m6 => Fr S m6 mm) hm ?_ ?_
  · rintro (⟨m4, x5⟩ | m6) hm
    · (try dsimp only at hm)
      (try dsimp only)
      exact fr_ret hm
    · (try dsimp only at hm)
      (try dsimp only)
      exact fr_ret hm
  · rintro ⟨m2, x3⟩ o hm hx8 hi7
    (try dsimp only [f_J1_indexOfChar_4cfef_L7] at hm)
    (try dsimp only)
    refine fr_if hm (fun hm => ?_) (fun hm => ?_)
    · skip
      cases hm
      exact hx8 _ rfl
    · skip
      refine fr_n hm (fun hm => ?_)
      refine fr_fi hm (fun hm => ?_) (fun hm => ?_)
      · refine fr_b hm (fun x9 hm => ?_)
        cases hm
        exact hi7 _ rfl
      · skip
        cases hm
        exact hx8 _ rfl
set_option maxRecDepth 4000 in
theorem fr_J0_coder_7d493 {S : Nat → Nat → Bool} {m mm : Sg} {r : Int32} {k : Nat} (hm : f_J0_coder_7d493 k m  = some (r, mm)) : Fr S m mm := by
  unfold f_J0_coder_7d493 at hm
  exact fr_ret hm
set_option maxRecDepth 4000 in
theorem fr_J0_isLatin1_aae02 {S : Nat → Nat → Bool} {m mm : Sg} {r : Int32} {k : Nat} (hm : f_J0_isLatin1_aae02 k m  = some (r, mm)) : Fr S m mm := by
  unfold f_J0_isLatin1_aae02 at hm
  exact fr_ret hm
set_option maxRecDepth 4000 in
theorem fr_J0_checkIndex_df160 {S : Nat → Nat → Bool} {m mm : Sg} {a1 : Int32} {a2 : Int32} (hm : f_J0_checkIndex_df160  m a1 a2 = some mm) : Fr S m mm := by
  unfold f_J0_checkIndex_df160 at hm
  refine fr_two ?_ (fun tt => ?_)
  · refine fr_cal hm (fun _ _ h => fr_J3_checkIndex_8e157 h) (fun x2 m1 hm => ?_)
    exact fr_retv hm
  · refine fr_cal hm (fun _ _ h => fr_J3_checkIndex_8e157 h) (fun x2 m1 hm => ?_)
    exact fr_retv hm
set_option maxRecDepth 4000 in
theorem fr_J1_charAt_3b067 {S : Nat → Nat → Bool} {m mm : Sg} {r : Int32} {k : Nat} {a1 : Int32} (hm : f_J1_charAt_3b067 k m a1 = some (r, mm)) : Fr S m mm := by
  unfold f_J1_charAt_3b067 at hm
  refine fr_calv hm (fun _ h => fr_J0_checkIndex_df160 h) (fun m1 hm => ?_)
  refine fr_n hm (fun hm => ?_)
  exact fr_retz hm
set_option maxRecDepth 4000 in
theorem fr_J1_indexOf_4cfef {S : Nat → Nat → Bool} {m mm : Sg} {r : Int32} {k : Nat} {a1 : Int32} {a2 : Int32} {a3 : Int32} (hm : f_J1_indexOf_4cfef k m a1 a2 a3 = some (r, mm)) : Fr S m mm := by
  unfold f_J1_indexOf_4cfef at hm
  refine fr_cal hm (fun _ _ h => fr_J1_canEncode_9a6ad h) (fun x2 m1 hm => ?_)
  refine fr_fi hm (fun hm => ?_) (fun hm => ?_)
  · skip
    refine fr_b hm (fun x3 hm => ?_)
    refine fr_b hm (fun x4 hm => ?_)
    refine fr_if hm (fun hm => ?_) (fun hm => ?_)
    · skip
      refine fr_cal hm (fun _ _ h => fr_J1_indexOfChar_4cfef h) (fun x6 m5 hm => ?_)
      exact fr_ret hm
    · skip
      exact fr_ret hm
  · skip
    exact fr_ret hm
set_option maxRecDepth 4000 in
theorem fr_J0_length_8abf5 {S : Nat → Nat → Bool} {m mm : Sg} {r : Int32} {k : Nat} (hm : f_J0_length_8abf5 k m  = some (r, mm)) : Fr S m mm := by
  unfold f_J0_length_8abf5 at hm
  refine fr_cal hm (fun _ _ h => fr_J0_coder_7d493 h) (fun x2 m1 hm => ?_)
  exact fr_ret hm
set_option maxRecDepth 4000 in
theorem fr_J0_charAt_5068e {S : Nat → Nat → Bool} {m mm : Sg} {r : Int32} {k : Nat} {a1 : Int32} (hm : f_J0_charAt_5068e k m a1 = some (r, mm)) : Fr S m mm := by
  unfold f_J0_charAt_5068e at hm
  refine fr_cal hm (fun _ _ h => fr_J0_isLatin1_aae02 h) (fun x2 m1 hm => ?_)
  refine fr_if hm (fun hm => ?_) (fun hm => ?_)
  · cases hm
  · skip
    refine fr_cal hm (fun _ _ h => fr_J1_charAt_3b067 h) (fun x4 m3 hm => ?_)
    exact fr_retz hm
set_option maxRecDepth 4000 in
theorem fr_J0_indexOf_7cf53 {S : Nat → Nat → Bool} {m mm : Sg} {r : Int32} {k : Nat} {a1 : Int32} {a2 : Int32} (hm : f_J0_indexOf_7cf53 k m a1 a2 = some (r, mm)) : Fr S m mm := by
  unfold f_J0_indexOf_7cf53 at hm
  refine fr_cal hm (fun _ _ h => fr_J0_isLatin1_aae02 h) (fun x2 m1 hm => ?_)
  refine fr_if hm (fun hm => ?_) (fun hm => ?_)
  · skip
    refine fr_cal hm (fun _ _ h => fr_J0_length_8abf5 h) (fun x4 m3 hm => ?_)
    cases hm
  · skip
    refine fr_cal hm (fun _ _ h => fr_J0_length_8abf5 h) (fun x6 m5 hm => ?_)
    refine fr_cal hm (fun _ _ h => fr_J1_indexOf_4cfef h) (fun x8 m7 hm => ?_)
    exact fr_ret hm
set_option maxRecDepth 4000 in
theorem fr_J0_indexOf_0f7a4 {S : Nat → Nat → Bool} {m mm : Sg} {r : Int32} {k : Nat} {a1 : Int32} (hm : f_J0_indexOf_0f7a4 k m a1 = some (r, mm)) : Fr S m mm := by
  unfold f_J0_indexOf_0f7a4 at hm
  refine fr_cal hm (fun _ _ h => fr_J0_indexOf_7cf53 h) (fun x2 m1 hm => ?_)
  exact fr_ret hm
set_option maxRecDepth 4000 in
theorem fr_X9_filled {S : Nat → Nat → Bool} {m mm : Sg} {r : Int32} {a1 : Int32} (hm : f_X9_filled  m a1 = some (r, mm)) : Fr S m mm := by
  unfold f_X9_filled at hm
  refine g_lp (I := fun (s : Sg × Int32 × Int32) => Fr S s.1 mm) (E := fun (s : Sg × Int32) => Fr S s.1 mm) hm ?_ ?_
  · rintro ⟨m4, x5⟩ hm
    (try dsimp only at hm)
    (try dsimp only)
    exact fr_ret hm
  · rintro ⟨m1, x2, x3⟩ o hm hx7 hi6
    (try dsimp only [f_X9_filled_L5] at hm)
    (try dsimp only)
    refine fr_if hm (fun hm => ?_) (fun hm => ?_)
    · skip
      cases hm
      exact hx7 _ rfl
    · skip
      refine g_jn (J := fun (s : Sg × Int32) => Fr S s.1 mm) hm ?_ ?_
      · rintro ⟨m8, x9⟩ hm
        (try dsimp only at hm)
        (try dsimp only)
        refine fr_b hm (fun x11 hm => ?_)
        cases hm
        exact hi6 _ rfl
      · intro k10 hk10 hm
        refine fr_if hm (fun hm => ?_) (fun hm => ?_)
        · exact hk10 _ hm
        · refine fr_b hm (fun x12 hm => ?_)
          exact hk10 _ hm
set_option maxRecDepth 4000 in
theorem fr_X9_add {S : Nat → Nat → Bool} {m mm : Sg} {a1 : Int32} (s_1_1 : S 1 1 = true) (s_2 : ∀ k, S 2 k = true) (hm : f_X9_add  m a1 = some mm) : Fr S m mm := by
  unfold f_X9_add at hm
  refine g_lp (I := fun (s : Sg × Int32) => Fr S s.1 mm) (E := fun (s : Sg) => Fr S s mm) hm ?_ ?_
  · rintro m3 hm
    (try dsimp only at hm)
    (try dsimp only)
    exact fr_retv hm
  · rintro ⟨m1, x2⟩ o hm hx5 hi4
    (try dsimp only [f_X9_add_L3] at hm)
    (try dsimp only)
    refine fr_if hm (fun hm => ?_) (fun hm => ?_)
    · skip
      cases hm
      exact hx5 _ rfl
    · skip
      refine fr_b hm (fun x6 hm => ?_)
      refine g_jn (J := fun (s : Sg) => Fr S s mm) hm ?_ ?_
      · intro m7 hm
        refine fr_b hm (fun x9 hm => ?_)
        cases hm
        exact hi4 _ rfl
      · intro k8 hk8 hm
        refine fr_if hm (fun hm => ?_) (fun hm => ?_)
        · skip
          exact hk8 _ hm
        · skip
          refine fr_if hm (fun hm => ?_) (fun hm => ?_)
          · skip
            exact hk8 _ hm
          · skip
            refine fr_st hm (by first | assumption | exact s_2 _) (fun m10 hm => ?_)
            refine fr_wr hm (by first | assumption | exact s_2 _) (fun m11 hm => ?_)
            exact hk8 _ hm
set_option maxRecDepth 4000 in
theorem fr_X9_cut {S : Nat → Nat → Bool} {m mm : Sg} {a1 : Int32} (s_1_1 : S 1 1 = true) (hm : f_X9_cut  m a1 = some mm) : Fr S m mm := by
  unfold f_X9_cut at hm
  refine fr_wr hm (by first | assumption) (fun m1 hm => ?_)
  exact fr_retv hm
set_option maxRecDepth 4000 in
theorem fr_X9_size {S : Nat → Nat → Bool} {m mm : Sg} {r : Int32} (hm : f_X9_size  m  = some (r, mm)) : Fr S m mm := by
  unfold f_X9_size at hm
  exact fr_ret hm
set_option maxRecDepth 4000 in
theorem fr_X9_at {S : Nat → Nat → Bool} {m mm : Sg} {r : Int32} {a1 : Int32} (hm : f_X9_at  m a1 = some (r, mm)) : Fr S m mm := by
  unfold f_X9_at at hm
  refine fr_if hm (fun hm => ?_) (fun hm => ?_)
  · skip
    exact fr_ret hm
  · skip
    refine fr_if hm (fun hm => ?_) (fun hm => ?_)
    · skip
      exact fr_ret hm
    · skip
      refine fr_if hm (fun hm => ?_) (fun hm => ?_)
      · skip
        exact fr_ret hm
      · skip
        refine fr_n hm (fun hm => ?_)
        exact fr_ret hm
set_option maxRecDepth 4000 in
theorem fr_X2_begin {S : Nat → Nat → Bool} {m mm : Sg} {i : Nat} (s_i_1 : S i 1 = true) (s_i_2 : S i 2 = true) (hm : f_X2_begin i m  = some mm) : Fr S m mm := by
  unfold f_X2_begin at hm
  refine fr_wr hm (by first | assumption) (fun m1 hm => ?_)
  refine fr_wr hm (by first | assumption) (fun m2 hm => ?_)
  exact fr_retv hm
set_option maxRecDepth 4000 in
theorem fr_X2_wrongAt {S : Nat → Nat → Bool} {m mm : Sg} {r : Int32} {i : Nat} (hm : f_X2_wrongAt i m  = some (r, mm)) : Fr S m mm := by
  unfold f_X2_wrongAt at hm
  exact fr_ret hm
set_option maxRecDepth 4000 in
theorem fr_X2_hasFailed {S : Nat → Nat → Bool} {m mm : Sg} {r : Int32} {i : Nat} (hm : f_X2_hasFailed i m  = some (r, mm)) : Fr S m mm := by
  unfold f_X2_hasFailed at hm
  refine fr_if hm (fun hm => ?_) (fun hm => ?_)
  · skip
    exact fr_ret hm
  · skip
    exact fr_ret hm
set_option maxRecDepth 4000 in
theorem fr_X2_failAt {S : Nat → Nat → Bool} {m mm : Sg} {i : Nat} {a1 : Int32} (s_i_2 : S i 2 = true) (hm : f_X2_failAt i m a1 = some mm) : Fr S m mm := by
  unfold f_X2_failAt at hm
  refine fr_fi hm (fun hm => ?_) (fun hm => ?_)
  · exact fr_retv hm
  · skip
    refine fr_wr hm (by first | assumption) (fun m1 hm => ?_)
    exact fr_retv hm
set_option maxRecDepth 4000 in
theorem fr_X2_fail {S : Nat → Nat → Bool} {m mm : Sg} {i : Nat} (s_i_2 : S i 2 = true) (hm : f_X2_fail i m  = some mm) : Fr S m mm := by
  unfold f_X2_fail at hm
  refine fr_calv hm (fun _ h => fr_X2_failAt (by first | assumption) h) (fun m1 hm => ?_)
  exact fr_retv hm
set_option maxRecDepth 4000 in
theorem fr_X2_failAtLastDigit {S : Nat → Nat → Bool} {m mm : Sg} {i : Nat} (s_i_2 : S i 2 = true) (hm : f_X2_failAtLastDigit i m  = some mm) : Fr S m mm := by
  unfold f_X2_failAtLastDigit at hm
  refine fr_calv hm (fun _ h => fr_X2_failAt (by first | assumption) h) (fun m1 hm => ?_)
  exact fr_retv hm
set_option maxRecDepth 4000 in
theorem fr_X2_peek {S : Nat → Nat → Bool} {m mm : Sg} {r : Int32} {i : Nat} (s_i_1 : S i 1 = true) (hm : f_X2_peek i m  = some (r, mm)) : Fr S m mm := by
  unfold f_X2_peek at hm
  refine fr_cal hm (fun _ _ h => fr_X2_hasFailed h) (fun x2 m1 hm => ?_)
  refine fr_if hm (fun hm => ?_) (fun hm => ?_)
  · refine g_lp (I := fun (s : Sg) => Fr S s mm) (E := fun (s : Sg) => Fr S s mm) hm ?_ ?_
    · rintro m4 hm
      (try dsimp only at hm)
      (try dsimp only)
      refine fr_cal hm (fun _ _ h => fr_X9_at h) (fun x13 m12 hm => ?_)
      exact fr_ret hm
    · rintro m3 o hm hx6 hi5
      (try dsimp only [f_X2_peek_L9] at hm)
      (try dsimp only)
      refine fr_cal hm (fun _ _ h => fr_X9_size h) (fun x8 m7 hm => ?_)
      refine fr_if hm (fun hm => ?_) (fun hm => ?_)
      · cases hm
        exact hx6 _ rfl
      · skip
        refine fr_cal hm (fun _ _ h => fr_X9_at h) (fun x10 m9 hm => ?_)
        refine fr_fi hm (fun hm => ?_) (fun hm => ?_)
        · cases hm
          exact hx6 _ rfl
        · skip
          refine fr_wr hm (by first | assumption) (fun m11 hm => ?_)
          cases hm
          exact hi5 _ rfl
  · skip
    exact fr_ret hm
set_option maxRecDepth 4000 in
theorem fr_X2_step {S : Nat → Nat → Bool} {m mm : Sg} {i : Nat} (s_i_1 : S i 1 = true) (hm : f_X2_step i m  = some mm) : Fr S m mm := by
  unfold f_X2_step at hm
  refine fr_wr hm (by first | assumption) (fun m1 hm => ?_)
  exact fr_retv hm
set_option maxRecDepth 4000 in
theorem fr_X2_takes {S : Nat → Nat → Bool} {m mm : Sg} {r : Int32} {i : Nat} {a1 : Int32} (s_i_1 : S i 1 = true) (hm : f_X2_takes i m a1 = some (r, mm)) : Fr S m mm := by
  unfold f_X2_takes at hm
  refine fr_cal hm (fun _ _ h => fr_X2_peek (by first | assumption) h) (fun x2 m1 hm => ?_)
  refine fr_if hm (fun hm => ?_) (fun hm => ?_)
  · skip
    refine fr_calv hm (fun _ h => fr_X2_step (by first | assumption) h) (fun m3 hm => ?_)
    exact fr_ret hm
  · skip
    exact fr_ret hm
set_option maxRecDepth 4000 in
theorem fr_X2_needs {S : Nat → Nat → Bool} {m mm : Sg} {i : Nat} {a1 : Int32} (s_i_1 : S i 1 = true) (s_i_2 : S i 2 = true) (hm : f_X2_needs i m a1 = some mm) : Fr S m mm := by
  unfold f_X2_needs at hm
  refine fr_cal hm (fun _ _ h => fr_X2_peek (by first | assumption) h) (fun x2 m1 hm => ?_)
  refine fr_fi hm (fun hm => ?_) (fun hm => ?_)
  · skip
    refine fr_calv hm (fun _ h => fr_X2_fail (by first | assumption) h) (fun m3 hm => ?_)
    exact fr_retv hm
  · skip
    refine fr_calv hm (fun _ h => fr_X2_step (by first | assumption) h) (fun m4 hm => ?_)
    exact fr_retv hm
set_option maxRecDepth 4000 in
theorem fr_X2_needsEnd {S : Nat → Nat → Bool} {m mm : Sg} {i : Nat} (s_i_1 : S i 1 = true) (s_i_2 : S i 2 = true) (hm : f_X2_needsEnd i m  = some mm) : Fr S m mm := by
  unfold f_X2_needsEnd at hm
  refine fr_cal hm (fun _ _ h => fr_X2_peek (by first | assumption) h) (fun x2 m1 hm => ?_)
  refine fr_if hm (fun hm => ?_) (fun hm => ?_)
  · exact fr_retv hm
  · skip
    refine fr_calv hm (fun _ h => fr_X2_fail (by first | assumption) h) (fun m3 hm => ?_)
    exact fr_retv hm
set_option maxRecDepth 4000 in
theorem fr_X2_isDigit {S : Nat → Nat → Bool} {m mm : Sg} {r : Int32} {a1 : Int32} (hm : f_X2_isDigit  m a1 = some (r, mm)) : Fr S m mm := by
  unfold f_X2_isDigit at hm
  refine fr_if hm (fun hm => ?_) (fun hm => ?_)
  · skip
    exact fr_ret hm
  · skip
    refine fr_if hm (fun hm => ?_) (fun hm => ?_)
    · skip
      exact fr_ret hm
    · skip
      exact fr_ret hm
set_option maxRecDepth 4000 in
theorem fr_X2_number {S : Nat → Nat → Bool} {m mm : Sg} {r : Int32} {i : Nat} {a1 : Int32} (s_i_1 : S i 1 = true) (s_i_2 : S i 2 = true) (hm : f_X2_number i m a1 = some (r, mm)) : Fr S m mm := by
  unfold f_X2_number at hm
  refine fr_cal hm (fun _ _ h => fr_X2_peek (by first | assumption) h) (fun x2 m1 hm => ?_)
  refine fr_cal hm (fun _ _ h => fr_X2_isDigit h) (fun x4 m3 hm => ?_)
  refine fr_fi hm (fun hm => ?_) (fun hm => ?_)
  · skip
    refine g_lp (I := fun (s : Sg × Int32 × Int32) => Fr S s.1 mm) (E := fun (s : Sg × Int32) => Fr S s.1 mm) hm ?_ ?_
    · rintro ⟨m8, x9⟩ hm
      (try dsimp only at hm)
      (try dsimp only)
      refine fr_cal hm (fun _ _ h => fr_X9_at h) (fun x22 m21 hm => ?_)
      refine fr_cal hm (fun _ _ h => fr_X2_isDigit h) (fun x24 m23 hm => ?_)
      refine fr_if hm (fun hm => ?_) (fun hm => ?_)
      · skip
        exact fr_ret hm
      · skip
        refine fr_calv hm (fun _ h => fr_X2_fail (by first | assumption) h) (fun m25 hm => ?_)
        exact fr_ret hm
    · rintro ⟨m5, x6, x7⟩ o hm hx11 hi10
      (try dsimp only [f_X2_number_L20] at hm)
      (try dsimp only)
      refine fr_if hm (fun hm => ?_) (fun hm => ?_)
      · skip
        cases hm
        exact hx11 _ rfl
      · skip
        refine fr_cal hm (fun _ _ h => fr_X9_at h) (fun x13 m12 hm => ?_)
        refine fr_cal hm (fun _ _ h => fr_X2_isDigit h) (fun x15 m14 hm => ?_)
        refine fr_if hm (fun hm => ?_) (fun hm => ?_)
        · skip
          cases hm
          exact hx11 _ rfl
        · skip
          refine fr_cal hm (fun _ _ h => fr_X9_at h) (fun x17 m16 hm => ?_)
          refine fr_b hm (fun x18 hm => ?_)
          refine fr_wr hm (by first | assumption) (fun m19 hm => ?_)
          refine fr_b hm (fun x20 hm => ?_)
          cases hm
          exact hi10 _ rfl
  · skip
    refine fr_calv hm (fun _ h => fr_X2_fail (by first | assumption) h) (fun m26 hm => ?_)
    exact fr_ret hm
set_option maxRecDepth 4000 in
theorem fr_X7_forgetAll {S : Nat → Nat → Bool} {m mm : Sg} (s_16_5 : S 16 5 = true) (s_16_6 : S 16 6 = true) (hm : f_X7_forgetAll  m  = some mm) : Fr S m mm := by
  unfold f_X7_forgetAll at hm
  refine fr_wr hm (by first | assumption) (fun m1 hm => ?_)
  refine fr_wr hm (by first | assumption) (fun m2 hm => ?_)
  exact fr_retv hm
set_option maxRecDepth 4000 in
theorem fr_X7_acts {S : Nat → Nat → Bool} {m mm : Sg} {r : Int32} (hm : f_X7_acts  m  = some (r, mm)) : Fr S m mm := by
  unfold f_X7_acts at hm
  exact fr_ret hm
set_option maxRecDepth 4000 in
theorem fr_X7_remember {S : Nat → Nat → Bool} {m mm : Sg} (s_16_4 : S 16 4 = true) (s_16_5 : S 16 5 = true) (s_17 : ∀ k, S 17 k = true) (hm : f_X7_remember  m  = some mm) : Fr S m mm := by
  unfold f_X7_remember at hm
  refine fr_calv hm (fun _ h => fr_X0_copyTo (by first | assumption | exact s_17 _) h) (fun m1 hm => ?_)
  refine fr_wr hm (by first | assumption | exact s_17 _) (fun m2 hm => ?_)
  refine fr_wr hm (by first | assumption | exact s_17 _) (fun m3 hm => ?_)
  exact fr_retv hm
set_option maxRecDepth 4000 in
theorem fr_X7_recall {S : Nat → Nat → Bool} {m mm : Sg} (s_4 : ∀ k, S 4 k = true) (s_16_4 : S 16 4 = true) (s_16_5 : S 16 5 = true) (hm : f_X7_recall  m  = some mm) : Fr S m mm := by
  unfold f_X7_recall at hm
  refine fr_wr hm (by first | assumption | exact s_4 _) (fun m1 hm => ?_)
  refine fr_wr hm (by first | assumption | exact s_4 _) (fun m2 hm => ?_)
  refine fr_calv hm (fun _ h => fr_X0_copyFrom (by first | assumption | exact s_4 _) h) (fun m3 hm => ?_)
  exact fr_retv hm
set_option maxRecDepth 4000 in
theorem fr_X7_logLength {S : Nat → Nat → Bool} {m mm : Sg} {r : Int32} (hm : f_X7_logLength  m  = some (r, mm)) : Fr S m mm := by
  unfold f_X7_logLength at hm
  refine fr_cal hm (fun _ _ h => fr_X0_cell h) (fun x2 m1 hm => ?_)
  exact fr_ret hm
set_option maxRecDepth 4000 in
theorem fr_X7_rowOf {S : Nat → Nat → Bool} {m mm : Sg} {r : Int32} {a1 : Int32} (hm : f_X7_rowOf  m a1 = some (r, mm)) : Fr S m mm := by
  unfold f_X7_rowOf at hm
  exact fr_ret hm
set_option maxRecDepth 4000 in
theorem fr_X7_paint {S : Nat → Nat → Bool} {m mm : Sg} (s_16_6 : S 16 6 = true) (s_19 : ∀ k, S 19 k = true) (s_20 : ∀ k, S 20 k = true) (hm : f_X7_paint  m  = some mm) : Fr S m mm := by
  unfold f_X7_paint at hm
  refine fr_calv hm (fun _ h => fr_X0_copyTo (by first | assumption | exact s_19 _ | exact s_20 _) h) (fun m1 hm => ?_)
  refine fr_cp hm (by first | assumption | exact s_19 _ | exact s_20 _) (fun m2 hm => ?_)
  refine fr_wr hm (by first | assumption | exact s_19 _ | exact s_20 _) (fun m3 hm => ?_)
  exact fr_retv hm
set_option maxRecDepth 4000 in
theorem fr_X7_hasImage {S : Nat → Nat → Bool} {m mm : Sg} {r : Int32} (hm : f_X7_hasImage  m  = some (r, mm)) : Fr S m mm := by
  unfold f_X7_hasImage at hm
  exact fr_retz hm
set_option maxRecDepth 4000 in
theorem fr_X7_restore {S : Nat → Nat → Bool} {m mm : Sg} (s_4 : ∀ k, S 4 k = true) (s_16_5 : S 16 5 = true) (s_18 : ∀ k, S 18 k = true) (hm : f_X7_restore  m  = some mm) : Fr S m mm := by
  unfold f_X7_restore at hm
  refine fr_calv hm (fun _ h => fr_X0_copyFrom (by first | assumption | exact s_4 _ | exact s_18 _) h) (fun m1 hm => ?_)
  refine fr_cp hm (by first | assumption | exact s_4 _ | exact s_18 _) (fun m2 hm => ?_)
  refine fr_wr hm (by first | assumption | exact s_4 _ | exact s_18 _) (fun m3 hm => ?_)
  exact fr_retv hm
set_option maxRecDepth 4000 in
theorem fr_X7_write {S : Nat → Nat → Bool} {m mm : Sg} {a1 : Int32} {a2 : Int32} (s_18 : ∀ k, S 18 k = true) (hm : f_X7_write  m a1 a2 = some mm) : Fr S m mm := by
  unfold f_X7_write at hm
  refine fr_cal hm (fun _ _ h => fr_X0_cell h) (fun x2 m1 hm => ?_)
  refine fr_cal hm (fun _ _ h => fr_X7_rowOf h) (fun x4 m3 hm => ?_)
  refine fr_if hm (fun hm => ?_) (fun hm => ?_)
  · exact fr_retv hm
  · skip
    refine fr_if hm (fun hm => ?_) (fun hm => ?_)
    · exact fr_retv hm
    · skip
      refine fr_cal hm (fun _ _ h => fr_X0_ruler h) (fun x6 m5 hm => ?_)
      refine fr_st hm (by first | assumption | exact s_18 _) (fun m7 hm => ?_)
      refine fr_st hm (by first | assumption | exact s_18 _) (fun m8 hm => ?_)
      refine fr_st hm (by first | assumption | exact s_18 _) (fun m9 hm => ?_)
      exact fr_retv hm
set_option maxRecDepth 4000 in
theorem fr_X7_logged {S : Nat → Nat → Bool} {m mm : Sg} {r : Int32} {a1 : Int32} {a2 : Int32} (hm : f_X7_logged  m a1 a2 = some (r, mm)) : Fr S m mm := by
  unfold f_X7_logged at hm
  refine fr_cal hm (fun _ _ h => fr_X7_rowOf h) (fun x2 m1 hm => ?_)
  refine fr_b hm (fun x3 hm => ?_)
  refine fr_if hm (fun hm => ?_) (fun hm => ?_)
  · skip
    exact fr_ret hm
  · skip
    refine fr_if hm (fun hm => ?_) (fun hm => ?_)
    · skip
      exact fr_ret hm
    · skip
      refine fr_n hm (fun hm => ?_)
      exact fr_ret hm
set_option maxRecDepth 4000 in
theorem fr_X8_mayRule {S : Nat → Nat → Bool} {m mm : Sg} {r : Int32} {a1 : Int32} (hm : f_X8_mayRule  m a1 = some (r, mm)) : Fr S m mm := by
  unfold f_X8_mayRule at hm
  refine fr_cal hm (fun _ _ h => fr_X0_ruler h) (fun x2 m1 hm => ?_)
  refine g_jn (J := fun (s : Sg × Int32) => Fr S s.1 mm) hm ?_ ?_
  · rintro ⟨m3, x4⟩ hm
    (try dsimp only at hm)
    (try dsimp only)
    refine fr_if hm (fun hm => ?_) (fun hm => ?_)
    · skip
      exact fr_ret hm
    · skip
      refine fr_cal hm (fun _ _ h => fr_X0_isBelowGrowing h) (fun x7 m6 hm => ?_)
      refine fr_if hm (fun hm => ?_) (fun hm => ?_)
      · skip
        exact fr_ret hm
      · skip
        exact fr_ret hm
  · intro k5 hk5 hm
    refine g_jn (J := fun (s : Sg) => Fr S s mm) hm ?_ ?_
    · intro m8 hm
      exact hk5 _ hm
    · intro k9 hk9 hm
      refine fr_if hm (fun hm => ?_) (fun hm => ?_)
      · skip
        exact hk9 _ hm
      · skip
        refine fr_if hm (fun hm => ?_) (fun hm => ?_)
        · skip
          exact hk9 _ hm
        · skip
          refine fr_cal hm (fun _ _ h => fr_X0_isYounger h) (fun x11 m10 hm => ?_)
          refine fr_if hm (fun hm => ?_) (fun hm => ?_)
          · skip
            exact hk5 _ hm
          · skip
            exact hk9 _ hm
set_option maxRecDepth 4000 in
theorem fr_X8_mindedBy {S : Nat → Nat → Bool} {m mm : Sg} {r : Int32} {a1 : Int32} (hm : f_X8_mindedBy  m a1 = some (r, mm)) : Fr S m mm := by
  unfold f_X8_mindedBy at hm
  refine g_lp (I := fun (s : Sg × Int32 × Int32) => Fr S s.1 mm) (E := fun (s : Sg × Int32) => Fr S s.1 mm) hm ?_ ?_
  · rintro ⟨m4, x5⟩ hm
    (try dsimp only at hm)
    (try dsimp only)
    exact fr_ret hm
  · rintro ⟨m1, x2, x3⟩ o hm hx7 hi6
    (try dsimp only [f_X8_mindedBy_L4] at hm)
    (try dsimp only)
    refine fr_cal hm (fun _ _ h => fr_X0_elders h) (fun x9 m8 hm => ?_)
    refine fr_if hm (fun hm => ?_) (fun hm => ?_)
    · skip
      cases hm
      exact hx7 _ rfl
    · skip
      refine g_jn (J := fun (s : Sg × Int32) => Fr S s.1 mm) hm ?_ ?_
      · rintro ⟨m10, x11⟩ hm
        (try dsimp only at hm)
        (try dsimp only)
        refine fr_b hm (fun x13 hm => ?_)
        cases hm
        exact hi6 _ rfl
      · intro k12 hk12 hm
        refine fr_if hm (fun hm => ?_) (fun hm => ?_)
        · exact hk12 _ hm
        · skip
          refine fr_cal hm (fun _ _ h => fr_X0_old h) (fun x15 m14 hm => ?_)
          refine fr_b hm (fun x16 hm => ?_)
          exact hk12 _ hm
set_option maxRecDepth 4000 in
theorem fr_X8_unknownToElders {S : Nat → Nat → Bool} {m mm : Sg} {r : Int32} (hm : f_X8_unknownToElders  m  = some (r, mm)) : Fr S m mm := by
  unfold f_X8_unknownToElders at hm
  refine fr_cal hm (fun _ _ h => fr_X0_triedTens h) (fun x2 m1 hm => ?_)
  refine fr_cal hm (fun _ _ h => fr_X0_elders h) (fun x4 m3 hm => ?_)
  refine fr_cal hm (fun _ _ h => fr_X8_mindedBy h) (fun x6 m5 hm => ?_)
  exact fr_ret hm
set_option maxRecDepth 4000 in
theorem fr_X8_chainedWith {S : Nat → Nat → Bool} {m mm : Sg} {r : Int32} {a1 : Int32} (hm : f_X8_chainedWith  m a1 = some (r, mm)) : Fr S m mm := by
  unfold f_X8_chainedWith at hm
  refine fr_b hm (fun x1 hm => ?_)
  refine g_lp (I := fun (s : Sg × Int32 × Int32) => Fr S s.1 mm) (E := fun (s : Sg × Int32) => Fr S s.1 mm) hm ?_ ?_
  · rintro ⟨m5, x6⟩ hm
    (try dsimp only at hm)
    (try dsimp only)
    exact fr_ret hm
  · rintro ⟨m2, x3, x4⟩ o hm hx8 hi7
    (try dsimp only [f_X8_chainedWith_L6] at hm)
    (try dsimp only)
    refine fr_cal hm (fun _ _ h => fr_X0_children h) (fun x10 m9 hm => ?_)
    refine fr_if hm (fun hm => ?_) (fun hm => ?_)
    · skip
      cases hm
      exact hx8 _ rfl
    · skip
      refine fr_cal hm (fun _ _ h => fr_X0_isYounger h) (fun x12 m11 hm => ?_)
      refine g_jn (J := fun (s : Sg × Int32) => Fr S s.1 mm) hm ?_ ?_
      · rintro ⟨m13, x14⟩ hm
        (try dsimp only at hm)
        (try dsimp only)
        refine fr_cal hm (fun _ _ h => fr_X0_isYounger h) (fun x17 m16 hm => ?_)
        refine g_jn (J := fun (s : Sg × Int32) => Fr S s.1 mm) hm ?_ ?_
        · rintro ⟨m18, x19⟩ hm
          (try dsimp only at hm)
          (try dsimp only)
          refine g_jn (J := fun (s : Sg × Int32) => Fr S s.1 mm) hm ?_ ?_
          · rintro ⟨m21, x22⟩ hm
            (try dsimp only at hm)
            (try dsimp only)
            refine fr_b hm (fun x24 hm => ?_)
            cases hm
            exact hi7 _ rfl
          · intro k23 hk23 hm
            refine g_jn (J := fun (s : Sg) => Fr S s mm) hm ?_ ?_
            · intro m25 hm
              refine fr_b hm (fun x27 hm => ?_)
              exact hk23 _ hm
            · intro k26 hk26 hm
              refine fr_fi hm (fun hm => ?_) (fun hm => ?_)
              · skip
                exact hk26 _ hm
              · skip
                refine fr_if hm (fun hm => ?_) (fun hm => ?_)
                · skip
                  exact hk23 _ hm
                · skip
                  exact hk26 _ hm
        · intro k20 hk20 hm
          refine g_jn (J := fun (s : Sg) => Fr S s mm) hm ?_ ?_
          · intro m28 hm
            exact hk20 _ hm
          · intro k29 hk29 hm
            refine fr_if hm (fun hm => ?_) (fun hm => ?_)
            · exact hk29 _ hm
            · skip
              refine fr_cal hm (fun _ _ h => fr_X0_countOf h) (fun x31 m30 hm => ?_)
              refine fr_cal hm (fun _ _ h => fr_X0_countOf h) (fun x33 m32 hm => ?_)
              refine fr_if hm (fun hm => ?_) (fun hm => ?_)
              · exact hk29 _ hm
              · skip
                exact hk20 _ hm
      · intro k15 hk15 hm
        refine g_jn (J := fun (s : Sg) => Fr S s mm) hm ?_ ?_
        · intro m34 hm
          exact hk15 _ hm
        · intro k35 hk35 hm
          refine fr_if hm (fun hm => ?_) (fun hm => ?_)
          · exact hk35 _ hm
          · skip
            refine fr_cal hm (fun _ _ h => fr_X0_countOf h) (fun x37 m36 hm => ?_)
            refine fr_cal hm (fun _ _ h => fr_X0_countOf h) (fun x39 m38 hm => ?_)
            refine fr_if hm (fun hm => ?_) (fun hm => ?_)
            · exact hk35 _ hm
            · skip
              exact hk15 _ hm
set_option maxRecDepth 4000 in
theorem fr_X8_isChain {S : Nat → Nat → Bool} {m mm : Sg} {r : Int32} {a1 : Int32} (hm : f_X8_isChain  m a1 = some (r, mm)) : Fr S m mm := by
  unfold f_X8_isChain at hm
  refine g_lp (I := fun (s : Sg × Int32) => Fr S s.1 mm) (E := fun (x : (Sg) ⊕ (Sg)) => match x with | .inl m3 => Fr S m3 mm | .inr m4 => Fr S m4 mm) hm ?_ ?_
  · rintro (m3 | m4) hm
    · (try dsimp only at hm)
      (try dsimp only)
      exact fr_ret hm
    · (try dsimp only at hm)
      (try dsimp only)
      exact fr_ret hm
  · rintro ⟨m1, x2⟩ o hm hx6 hi5
    (try dsimp only [f_X8_isChain_L2] at hm)
    (try dsimp only)
    refine fr_if hm (fun hm => ?_) (fun hm => ?_)
    · skip
      cases hm
      exact hx6 _ rfl
    · skip
      refine g_jn (J := fun (s : Sg) => Fr S s mm) hm ?_ ?_
      · intro m7 hm
        refine fr_b hm (fun x9 hm => ?_)
        cases hm
        exact hi5 _ rfl
      · intro k8 hk8 hm
        refine fr_if hm (fun hm => ?_) (fun hm => ?_)
        · exact hk8 _ hm
        · skip
          refine fr_n hm (fun hm => ?_)
          refine fr_if hm (fun hm => ?_) (fun hm => ?_)
          · exact hk8 _ hm
          · skip
            cases hm
            exact hx6 _ rfl
set_option maxRecDepth 4000 in
theorem fr_X8_onlyByTheirSteps {S : Nat → Nat → Bool} {m mm : Sg} {r : Int32} {a1 : Int32} (hm : f_X8_onlyByTheirSteps  m a1 = some (r, mm)) : Fr S m mm := by
  unfold f_X8_onlyByTheirSteps at hm
  refine g_lp (I := fun (s : Sg × Int32 × Int32) => Fr S s.1 mm) (E := fun (s : Sg × Int32) => Fr S s.1 mm) hm ?_ ?_
  · rintro ⟨m4, x5⟩ hm
    (try dsimp only at hm)
    (try dsimp only)
    exact fr_ret hm
  · rintro ⟨m1, x2, x3⟩ o hm hx7 hi6
    (try dsimp only [f_X8_onlyByTheirSteps_L4] at hm)
    (try dsimp only)
    refine fr_cal hm (fun _ _ h => fr_X0_children h) (fun x9 m8 hm => ?_)
    refine fr_if hm (fun hm => ?_) (fun hm => ?_)
    · skip
      cases hm
      exact hx7 _ rfl
    · skip
      refine fr_cal hm (fun _ _ h => fr_X0_askedBy h) (fun x11 m10 hm => ?_)
      refine fr_cal hm (fun _ _ h => fr_X0_rightOf h) (fun x13 m12 hm => ?_)
      refine g_jn (J := fun (s : Sg × Int32) => Fr S s.1 mm) hm ?_ ?_
      · rintro ⟨m14, x15⟩ hm
        (try dsimp only at hm)
        (try dsimp only)
        refine fr_cal hm (fun _ _ h => fr_X0_stands h) (fun x18 m17 hm => ?_)
        refine g_jn (J := fun (s : Sg × Int32) => Fr S s.1 mm) hm ?_ ?_
        · rintro ⟨m19, x20⟩ hm
          (try dsimp only at hm)
          (try dsimp only)
          refine fr_b hm (fun x22 hm => ?_)
          cases hm
          exact hi6 _ rfl
        · intro k21 hk21 hm
          refine fr_if hm (fun hm => ?_) (fun hm => ?_)
          · skip
            exact hk21 _ hm
          · skip
            refine fr_fi hm (fun hm => ?_) (fun hm => ?_)
            · skip
              exact hk21 _ hm
            · skip
              refine fr_b hm (fun x23 hm => ?_)
              exact hk21 _ hm
      · intro k16 hk16 hm
        refine fr_fi hm (fun hm => ?_) (fun hm => ?_)
        · skip
          exact hk16 _ hm
        · skip
          exact hk16 _ hm
set_option maxRecDepth 4000 in
theorem fr_X8_standingFevered {S : Nat → Nat → Bool} {m mm : Sg} {r : Int32} {a1 : Int32} (hm : f_X8_standingFevered  m a1 = some (r, mm)) : Fr S m mm := by
  unfold f_X8_standingFevered at hm
  refine g_lp (I := fun (s : Sg × Int32 × Int32) => Fr S s.1 mm) (E := fun (s : Sg × Int32) => Fr S s.1 mm) hm ?_ ?_
  · rintro ⟨m4, x5⟩ hm
    (try dsimp only at hm)
    (try dsimp only)
    exact fr_ret hm
  · rintro ⟨m1, x2, x3⟩ o hm hx7 hi6
    (try dsimp only [f_X8_standingFevered_L4] at hm)
    (try dsimp only)
    refine fr_cal hm (fun _ _ h => fr_X0_children h) (fun x9 m8 hm => ?_)
    refine fr_if hm (fun hm => ?_) (fun hm => ?_)
    · skip
      cases hm
      exact hx7 _ rfl
    · skip
      refine fr_cal hm (fun _ _ h => fr_X0_rightOf h) (fun x11 m10 hm => ?_)
      refine fr_b hm (fun x12 hm => ?_)
      refine fr_cal hm (fun _ _ h => fr_X0_askedBy h) (fun x14 m13 hm => ?_)
      refine fr_cal hm (fun _ _ h => fr_X0_askedOf h) (fun x16 m15 hm => ?_)
      refine g_jn (J := fun (s : Sg × Int32) => Fr S s.1 mm) hm ?_ ?_
      · rintro ⟨m17, x18⟩ hm
        (try dsimp only at hm)
        (try dsimp only)
        refine fr_b hm (fun x20 hm => ?_)
        cases hm
        exact hi6 _ rfl
      · intro k19 hk19 hm
        refine fr_fi hm (fun hm => ?_) (fun hm => ?_)
        · skip
          exact hk19 _ hm
        · skip
          refine fr_b hm (fun x21 hm => ?_)
          exact hk19 _ hm
set_option maxRecDepth 4000 in
theorem fr_X8_youngerStanding {S : Nat → Nat → Bool} {m mm : Sg} {r : Int32} {a1 : Int32} {a2 : Int32} (hm : f_X8_youngerStanding  m a1 a2 = some (r, mm)) : Fr S m mm := by
  unfold f_X8_youngerStanding at hm
  refine g_lp (I := fun (s : Sg × Int32 × Int32) => Fr S s.1 mm) (E := fun (s : Sg × Int32) => Fr S s.1 mm) hm ?_ ?_
  · rintro ⟨m4, x5⟩ hm
    (try dsimp only at hm)
    (try dsimp only)
    exact fr_ret hm
  · rintro ⟨m1, x2, x3⟩ o hm hx7 hi6
    (try dsimp only [f_X8_youngerStanding_L5] at hm)
    (try dsimp only)
    refine fr_cal hm (fun _ _ h => fr_X0_children h) (fun x9 m8 hm => ?_)
    refine fr_if hm (fun hm => ?_) (fun hm => ?_)
    · skip
      cases hm
      exact hx7 _ rfl
    · skip
      refine fr_cal hm (fun _ _ h => fr_X0_isYounger h) (fun x11 m10 hm => ?_)
      refine g_jn (J := fun (s : Sg × Int32) => Fr S s.1 mm) hm ?_ ?_
      · rintro ⟨m12, x13⟩ hm
        (try dsimp only at hm)
        (try dsimp only)
        refine fr_b hm (fun x15 hm => ?_)
        cases hm
        exact hi6 _ rfl
      · intro k14 hk14 hm
        refine fr_if hm (fun hm => ?_) (fun hm => ?_)
        · exact hk14 _ hm
        · skip
          refine fr_cal hm (fun _ _ h => fr_X0_isBelowGrowing h) (fun x17 m16 hm => ?_)
          refine fr_if hm (fun hm => ?_) (fun hm => ?_)
          · exact hk14 _ hm
          · skip
            refine fr_cal hm (fun _ _ h => fr_X0_stands h) (fun x19 m18 hm => ?_)
            refine fr_if hm (fun hm => ?_) (fun hm => ?_)
            · exact hk14 _ hm
            · skip
              refine fr_b hm (fun x20 hm => ?_)
              exact hk14 _ hm
set_option maxRecDepth 4000 in
theorem fr_X8_rightInNursery {S : Nat → Nat → Bool} {m mm : Sg} {r : Int32} {a1 : Int32} (hm : f_X8_rightInNursery  m a1 = some (r, mm)) : Fr S m mm := by
  unfold f_X8_rightInNursery at hm
  refine g_lp (I := fun (s : Sg × Int32 × Int32) => Fr S s.1 mm) (E := fun (s : Sg × Int32) => Fr S s.1 mm) hm ?_ ?_
  · rintro ⟨m4, x5⟩ hm
    (try dsimp only at hm)
    (try dsimp only)
    exact fr_ret hm
  · rintro ⟨m1, x2, x3⟩ o hm hx7 hi6
    (try dsimp only [f_X8_rightInNursery_L4] at hm)
    (try dsimp only)
    refine fr_cal hm (fun _ _ h => fr_X0_children h) (fun x9 m8 hm => ?_)
    refine fr_if hm (fun hm => ?_) (fun hm => ?_)
    · skip
      cases hm
      exact hx7 _ rfl
    · skip
      refine fr_cal hm (fun _ _ h => fr_X0_isOfNursery h) (fun x11 m10 hm => ?_)
      refine g_jn (J := fun (s : Sg × Int32) => Fr S s.1 mm) hm ?_ ?_
      · rintro ⟨m12, x13⟩ hm
        (try dsimp only at hm)
        (try dsimp only)
        refine fr_b hm (fun x15 hm => ?_)
        cases hm
        exact hi6 _ rfl
      · intro k14 hk14 hm
        refine fr_if hm (fun hm => ?_) (fun hm => ?_)
        · exact hk14 _ hm
        · skip
          refine fr_cal hm (fun _ _ h => fr_X0_rightOf h) (fun x17 m16 hm => ?_)
          refine fr_b hm (fun x18 hm => ?_)
          exact hk14 _ hm
set_option maxRecDepth 4000 in
theorem fr_X8_eldersSatisfied {S : Nat → Nat → Bool} {m mm : Sg} {r : Int32} {a1 : Int32} (hm : f_X8_eldersSatisfied  m a1 = some (r, mm)) : Fr S m mm := by
  unfold f_X8_eldersSatisfied at hm
  refine g_lp (I := fun (s : Sg × Int32 × Int32) => Fr S s.1 mm) (E := fun (s : Sg × Int32) => Fr S s.1 mm) hm ?_ ?_
  · rintro ⟨m4, x5⟩ hm
    (try dsimp only at hm)
    (try dsimp only)
    exact fr_ret hm
  · rintro ⟨m1, x2, x3⟩ o hm hx7 hi6
    (try dsimp only [f_X8_eldersSatisfied_L4] at hm)
    (try dsimp only)
    refine fr_cal hm (fun _ _ h => fr_X0_elders h) (fun x9 m8 hm => ?_)
    refine fr_if hm (fun hm => ?_) (fun hm => ?_)
    · skip
      cases hm
      exact hx7 _ rfl
    · skip
      refine fr_cal hm (fun _ _ h => fr_X0_stands h) (fun x11 m10 hm => ?_)
      refine g_jn (J := fun (s : Sg × Int32) => Fr S s.1 mm) hm ?_ ?_
      · rintro ⟨m12, x13⟩ hm
        (try dsimp only at hm)
        (try dsimp only)
        refine fr_b hm (fun x15 hm => ?_)
        cases hm
        exact hi6 _ rfl
      · intro k14 hk14 hm
        refine fr_if hm (fun hm => ?_) (fun hm => ?_)
        · exact hk14 _ hm
        · skip
          refine fr_b hm (fun x16 hm => ?_)
          exact hk14 _ hm
set_option maxRecDepth 4000 in
theorem fr_X8_fewestAbsent {S : Nat → Nat → Bool} {m mm : Sg} {r : Int32} {a1 : Int32} (hm : f_X8_fewestAbsent  m a1 = some (r, mm)) : Fr S m mm := by
  unfold f_X8_fewestAbsent at hm
  refine g_lp (I := fun (s : Sg × Int32 × Int32) => Fr S s.1 mm) (E := fun (s : Sg × Int32) => Fr S s.1 mm) hm ?_ ?_
  · rintro ⟨m4, x5⟩ hm
    (try dsimp only at hm)
    (try dsimp only)
    exact fr_ret hm
  · rintro ⟨m1, x2, x3⟩ o hm hx7 hi6
    (try dsimp only [f_X8_fewestAbsent_L4] at hm)
    (try dsimp only)
    refine fr_cal hm (fun _ _ h => fr_X0_elders h) (fun x9 m8 hm => ?_)
    refine fr_if hm (fun hm => ?_) (fun hm => ?_)
    · skip
      cases hm
      exact hx7 _ rfl
    · skip
      refine fr_cal hm (fun _ _ h => fr_X0_trierWithout h) (fun x11 m10 hm => ?_)
      refine g_jn (J := fun (s : Sg × Int32) => Fr S s.1 mm) hm ?_ ?_
      · rintro ⟨m12, x13⟩ hm
        (try dsimp only at hm)
        (try dsimp only)
        refine g_jn (J := fun (s : Sg × Int32) => Fr S s.1 mm) hm ?_ ?_
        · rintro ⟨m15, x16⟩ hm
          (try dsimp only at hm)
          (try dsimp only)
          refine fr_b hm (fun x18 hm => ?_)
          cases hm
          exact hi6 _ rfl
        · intro k17 hk17 hm
          refine fr_if hm (fun hm => ?_) (fun hm => ?_)
          · skip
            exact hk17 _ hm
          · skip
            refine g_jn (J := fun (s : Sg) => Fr S s mm) hm ?_ ?_
            · intro m19 hm
              exact hk17 _ hm
            · intro k20 hk20 hm
              refine fr_if hm (fun hm => ?_) (fun hm => ?_)
              · skip
                exact hk20 _ hm
              · skip
                refine fr_cal hm (fun _ _ h => fr_J6_bitCount_0f7a4 h) (fun x22 m21 hm => ?_)
                refine fr_cal hm (fun _ _ h => fr_J6_bitCount_0f7a4 h) (fun x24 m23 hm => ?_)
                refine fr_if hm (fun hm => ?_) (fun hm => ?_)
                · skip
                  exact hk17 _ hm
                · skip
                  exact hk20 _ hm
      · intro k14 hk14 hm
        refine g_jn (J := fun (s : Sg) => Fr S s mm) hm ?_ ?_
        · intro m25 hm
          exact hk14 _ hm
        · intro k26 hk26 hm
          refine fr_if hm (fun hm => ?_) (fun hm => ?_)
          · skip
            exact hk26 _ hm
          · skip
            refine fr_cal hm (fun _ _ h => fr_X0_stands h) (fun x28 m27 hm => ?_)
            refine fr_if hm (fun hm => ?_) (fun hm => ?_)
            · skip
              exact hk26 _ hm
            · skip
              exact hk14 _ hm
set_option maxRecDepth 4000 in
theorem fr_X8_inOrderOfAge {S : Nat → Nat → Bool} {m mm : Sg} {r : Int32} {a1 : Int32} (hm : f_X8_inOrderOfAge  m a1 = some (r, mm)) : Fr S m mm := by
  unfold f_X8_inOrderOfAge at hm
  refine g_lp (I := fun (s : Sg × Int32) => Fr S s.1 mm) (E := fun (x : (Sg × Int32) ⊕ (Sg)) => match x with | .inl (m3, x4) => Fr S m3 mm | .inr m5 => Fr S m5 mm) hm ?_ ?_
  · rintro (⟨m3, x4⟩ | m5) hm
    · (try dsimp only at hm)
      (try dsimp only)
      exact fr_ret hm
    · (try dsimp only at hm)
      (try dsimp only)
      exact fr_ret hm
  · rintro ⟨m1, x2⟩ o hm hx7 hi6
    (try dsimp only [f_X8_inOrderOfAge_L2] at hm)
    (try dsimp only)
    refine fr_cal hm (fun _ _ h => fr_X0_children h) (fun x9 m8 hm => ?_)
    refine fr_if hm (fun hm => ?_) (fun hm => ?_)
    · skip
      cases hm
      exact hx7 _ rfl
    · skip
      refine g_lp (I := fun (s : Sg × Int32 × Int32) => Fr S s.1 mm) (E := fun (s : Sg × Int32) => Fr S s.1 mm) hm ?_ ?_
      · rintro ⟨m13, x14⟩ hm
        (try dsimp only at hm)
        (try dsimp only)
        refine fr_fi hm (fun hm => ?_) (fun hm => ?_)
        · refine fr_b hm (fun x26 hm => ?_)
          cases hm
          exact hi6 _ rfl
        · skip
          cases hm
          exact hx7 _ rfl
      · rintro ⟨m10, x11, x12⟩ o hm hx16 hi15
        (try dsimp only [f_X8_inOrderOfAge_L18] at hm)
        (try dsimp only)
        refine fr_cal hm (fun _ _ h => fr_X0_children h) (fun x18 m17 hm => ?_)
        refine fr_if hm (fun hm => ?_) (fun hm => ?_)
        · skip
          cases hm
          exact hx16 _ rfl
        · skip
          refine fr_cal hm (fun _ _ h => fr_X0_goesFirst h) (fun x20 m19 hm => ?_)
          refine g_jn (J := fun (s : Sg × Int32) => Fr S s.1 mm) hm ?_ ?_
          · rintro ⟨m21, x22⟩ hm
            (try dsimp only at hm)
            (try dsimp only)
            refine fr_b hm (fun x24 hm => ?_)
            refine fr_b hm (fun x25 hm => ?_)
            cases hm
            exact hi15 _ rfl
          · intro k23 hk23 hm
            refine fr_if hm (fun hm => ?_) (fun hm => ?_)
            · skip
              exact hk23 _ hm
            · skip
              exact hk23 _ hm
set_option maxRecDepth 4000 in
theorem fr_X8_cheapest {S : Nat → Nat → Bool} {m mm : Sg} {r : Int32} {a1 : Int32} {a2 : Int32} (hm : f_X8_cheapest  m a1 a2 = some (r, mm)) : Fr S m mm := by
  unfold f_X8_cheapest at hm
  refine g_lp (I := fun (s : Sg × Int32 × Int32) => Fr S s.1 mm) (E := fun (s : Sg × Int32) => Fr S s.1 mm) hm ?_ ?_
  · rintro ⟨m4, x5⟩ hm
    (try dsimp only at hm)
    (try dsimp only)
    exact fr_ret hm
  · rintro ⟨m1, x2, x3⟩ o hm hx7 hi6
    (try dsimp only [f_X8_cheapest_L5] at hm)
    (try dsimp only)
    refine fr_cal hm (fun _ _ h => fr_X0_children h) (fun x9 m8 hm => ?_)
    refine fr_if hm (fun hm => ?_) (fun hm => ?_)
    · skip
      cases hm
      exact hx7 _ rfl
    · skip
      refine fr_cal hm (fun _ _ h => fr_X0_isOfNursery h) (fun x11 m10 hm => ?_)
      refine g_jn (J := fun (s : Sg × Int32) => Fr S s.1 mm) hm ?_ ?_
      · rintro ⟨m12, x13⟩ hm
        (try dsimp only at hm)
        (try dsimp only)
        refine fr_b hm (fun x15 hm => ?_)
        cases hm
        exact hi6 _ rfl
      · intro k14 hk14 hm
        refine fr_if hm (fun hm => ?_) (fun hm => ?_)
        · exact hk14 _ hm
        · skip
          refine fr_cal hm (fun _ _ h => fr_X8_mayRule h) (fun x17 m16 hm => ?_)
          refine fr_if hm (fun hm => ?_) (fun hm => ?_)
          · exact hk14 _ hm
          · skip
            refine g_jn (J := fun (s : Sg) => Fr S s mm) hm ?_ ?_
            · intro m18 hm
              exact hk14 _ hm
            · intro k19 hk19 hm
              refine fr_if hm (fun hm => ?_) (fun hm => ?_)
              · skip
                exact hk19 _ hm
              · skip
                refine fr_cal hm (fun _ _ h => fr_X0_plumsToRule h) (fun x21 m20 hm => ?_)
                refine fr_cal hm (fun _ _ h => fr_X0_plumsToRule h) (fun x23 m22 hm => ?_)
                refine fr_if hm (fun hm => ?_) (fun hm => ?_)
                · exact hk14 _ hm
                · skip
                  exact hk19 _ hm
set_option maxRecDepth 4000 in
theorem fr_X8_couldHaveTaught {S : Nat → Nat → Bool} {m mm : Sg} {r : Int32} {a1 : Int32} {a2 : Int32} (hm : f_X8_couldHaveTaught  m a1 a2 = some (r, mm)) : Fr S m mm := by
  unfold f_X8_couldHaveTaught at hm
  refine fr_cal hm (fun _ _ h => fr_X8_mindedBy h) (fun x2 m1 hm => ?_)
  refine fr_cal hm (fun _ _ h => fr_X0_rightOf h) (fun x4 m3 hm => ?_)
  refine fr_fi hm (fun hm => ?_) (fun hm => ?_)
  · skip
    exact fr_ret hm
  · skip
    refine fr_cal hm (fun _ _ h => fr_X0_kid h) (fun x6 m5 hm => ?_)
    refine fr_fi hm (fun hm => ?_) (fun hm => ?_)
    · skip
      exact fr_ret hm
    · skip
      exact fr_ret hm
set_option maxRecDepth 4000 in
theorem fr_X8_longestChain {S : Nat → Nat → Bool} {m mm : Sg} {r : Int32} (s_22 : ∀ k, S 22 k = true) (hm : f_X8_longestChain  m  = some (r, mm)) : Fr S m mm := by
  unfold f_X8_longestChain at hm
  refine g_lp (I := fun (s : Sg × Int32) => Fr S s.1 mm) (E := fun (s : Sg) => Fr S s mm) hm ?_ ?_
  · rintro m3 hm
    (try dsimp only at hm)
    (try dsimp only)
    refine g_lp (I := fun (s : Sg × Int32 × Int32) => Fr S s.1 mm) (E := fun (s : Sg × Int32) => Fr S s.1 mm) hm ?_ ?_
    · rintro ⟨m15, x16⟩ hm
      (try dsimp only at hm)
      (try dsimp only)
      exact fr_ret hm
    · rintro ⟨m12, x13, x14⟩ o hm hx18 hi17
      (try dsimp only [f_X8_longestChain_L43] at hm)
      (try dsimp only)
      refine fr_cal hm (fun _ _ h => fr_X0_children h) (fun x20 m19 hm => ?_)
      refine fr_if hm (fun hm => ?_) (fun hm => ?_)
      · skip
        cases hm
        exact hx18 _ rfl
      · skip
        refine fr_cal hm (fun _ _ h => fr_J6_bitCount_0f7a4 h) (fun x22 m21 hm => ?_)
        refine fr_cal hm (fun _ _ h => fr_J6_bitCount_0f7a4 h) (fun x24 m23 hm => ?_)
        refine g_jn (J := fun (s : Sg × Int32) => Fr S s.1 mm) hm ?_ ?_
        · rintro ⟨m25, x26⟩ hm
          (try dsimp only at hm)
          (try dsimp only)
          refine fr_b hm (fun x28 hm => ?_)
          cases hm
          exact hi17 _ rfl
        · intro k27 hk27 hm
          refine fr_if hm (fun hm => ?_) (fun hm => ?_)
          · exact hk27 _ hm
          · skip
            refine fr_cal hm (fun _ _ h => fr_X8_isChain h) (fun x30 m29 hm => ?_)
            refine fr_if hm (fun hm => ?_) (fun hm => ?_)
            · exact hk27 _ hm
            · skip
              exact hk27 _ hm
  · rintro ⟨m1, x2⟩ o hm hx5 hi4
    (try dsimp only [f_X8_longestChain_L2] at hm)
    (try dsimp only)
    refine fr_cal hm (fun _ _ h => fr_X0_children h) (fun x7 m6 hm => ?_)
    refine fr_if hm (fun hm => ?_) (fun hm => ?_)
    · skip
      cases hm
      exact hx5 _ rfl
    · skip
      refine fr_if hm (fun hm => ?_) (fun hm => ?_)
      · skip
        cases hm
        exact hx5 _ rfl
      · skip
        refine fr_cal hm (fun _ _ h => fr_X8_chainedWith h) (fun x9 m8 hm => ?_)
        refine fr_st hm (by first | assumption | exact s_22 _) (fun m10 hm => ?_)
        refine fr_b hm (fun x11 hm => ?_)
        cases hm
        exact hi4 _ rfl
set_option maxRecDepth 4000 in
theorem fr_X8_teachersAt {S : Nat → Nat → Bool} {m mm : Sg} {r : Int32} {a1 : Int32} {a2 : Int32} (hm : f_X8_teachersAt  m a1 a2 = some (r, mm)) : Fr S m mm := by
  unfold f_X8_teachersAt at hm
  refine g_lp (I := fun (s : Sg × Int32 × Int32) => Fr S s.1 mm) (E := fun (x : (Sg × Int32) ⊕ (Sg × Int32)) => match x with | .inl (m4, x5) => Fr S m4 mm | .inr (m6, x7) => Fr S m6 mm) hm ?_ ?_
  · rintro (⟨m4, x5⟩ | ⟨m6, x7⟩) hm
    · (try dsimp only at hm)
      (try dsimp only)
      exact fr_ret hm
    · (try dsimp only at hm)
      (try dsimp only)
      refine fr_fi hm (fun hm => ?_) (fun hm => ?_)
      · skip
        exact fr_ret hm
      · skip
        exact fr_ret hm
  · rintro ⟨m1, x2, x3⟩ o hm hx9 hi8
    (try dsimp only [f_X8_teachersAt_L5] at hm)
    (try dsimp only)
    refine fr_cal hm (fun _ _ h => fr_X0_elders h) (fun x11 m10 hm => ?_)
    refine fr_if hm (fun hm => ?_) (fun hm => ?_)
    · skip
      cases hm
      exact hx9 _ rfl
    · skip
      refine fr_cal hm (fun _ _ h => fr_X8_couldHaveTaught h) (fun x13 m12 hm => ?_)
      refine g_jn (J := fun (s : Sg × Int32) => Fr S s.1 mm) hm ?_ ?_
      · rintro ⟨m14, x15⟩ hm
        (try dsimp only at hm)
        (try dsimp only)
        refine fr_b hm (fun x17 hm => ?_)
        cases hm
        exact hi8 _ rfl
      · intro k16 hk16 hm
        refine fr_if hm (fun hm => ?_) (fun hm => ?_)
        · exact hk16 _ hm
        · skip
          refine fr_fi hm (fun hm => ?_) (fun hm => ?_)
          · refine fr_b hm (fun x18 hm => ?_)
            exact hk16 _ hm
          · skip
            cases hm
            exact hx9 _ rfl
set_option maxRecDepth 4000 in
theorem fr_X4_endOfClause {S : Nat → Nat → Bool} {m mm : Sg} {r : Int32} {P : Nat} {n : Nat} {a1 : Int32} (hm : f_X4_endOfClause P n m a1 = some (r, mm)) : Fr S m mm := by
  unfold f_X4_endOfClause at hm
  refine g_lp (I := fun (s : Sg × Int32) => Fr S s.1 mm) (E := fun (x : (Sg × Int32) ⊕ (Sg)) => match x with | .inl (m3, x4) => Fr S m3 mm | .inr m5 => Fr S m5 mm) hm ?_ ?_
  · rintro (⟨m3, x4⟩ | m5) hm
    · (try dsimp only at hm)
      (try dsimp only)
      exact fr_ret hm
    · (try dsimp only at hm)
      (try dsimp only)
      exact fr_ret hm
  · rintro ⟨m1, x2⟩ o hm hx7 hi6
    (try dsimp only [f_X4_endOfClause_L2] at hm)
    (try dsimp only)
    refine fr_if hm (fun hm => ?_) (fun hm => ?_)
    · skip
      cases hm
      exact hx7 _ rfl
    · skip
      refine fr_n hm (fun hm => ?_)
      refine fr_fi hm (fun hm => ?_) (fun hm => ?_)
      · refine fr_b hm (fun x8 hm => ?_)
        cases hm
        exact hi6 _ rfl
      · skip
        cases hm
        exact hx7 _ rfl
set_option maxRecDepth 4000 in
theorem fr_X4_push {S : Nat → Nat → Bool} {m mm : Sg} {P : Nat} {n : Nat} {a1 : Int32} (s_P_2 : S P 2 = true) (s_P2 : ∀ k, S (P + 2) k = true) (hm : f_X4_push P n m a1 = some mm) : Fr S m mm := by
  unfold f_X4_push at hm
  refine fr_if hm (fun hm => ?_) (fun hm => ?_)
  · exact fr_retv hm
  · skip
    refine fr_st hm (by first | assumption | exact s_P2 _) (fun m1 hm => ?_)
    refine fr_wr hm (by first | assumption | exact s_P2 _) (fun m2 hm => ?_)
    exact fr_retv hm
set_option maxRecDepth 4000 in
theorem fr_X4_pop {S : Nat → Nat → Bool} {m mm : Sg} {r : Int32} {P : Nat} {n : Nat} (s_P_2 : S P 2 = true) (hm : f_X4_pop P n m  = some (r, mm)) : Fr S m mm := by
  unfold f_X4_pop at hm
  refine fr_if hm (fun hm => ?_) (fun hm => ?_)
  · skip
    exact fr_ret hm
  · skip
    refine fr_if hm (fun hm => ?_) (fun hm => ?_)
    · skip
      refine fr_wr hm (by first | assumption) (fun m1 hm => ?_)
      refine fr_n hm (fun hm => ?_)
      exact fr_ret hm
    · skip
      exact fr_ret hm
set_option maxRecDepth 4000 in
theorem fr_X4_held {S : Nat → Nat → Bool} {m mm : Sg} {r : Int32} {a1 : Int64} (hm : f_X4_held  m a1 = some (r, mm)) : Fr S m mm := by
  unfold f_X4_held at hm
  exact fr_ret hm
set_option maxRecDepth 4000 in
theorem fr_X4_reckon {S : Nat → Nat → Bool} {m mm : Sg} {r : Int32} {a1 : Int32} {a2 : Int32} {a3 : Int32} (hm : f_X4_reckon  m a1 a2 a3 = some (r, mm)) : Fr S m mm := by
  unfold f_X4_reckon at hm
  refine fr_if hm (fun hm => ?_) (fun hm => ?_)
  · skip
    exact fr_ret hm
  · refine fr_if hm (fun hm => ?_) (fun hm => ?_)
    · skip
      refine fr_cal hm (fun _ _ h => fr_X4_held h) (fun x2 m1 hm => ?_)
      exact fr_ret hm
    · refine fr_if hm (fun hm => ?_) (fun hm => ?_)
      · skip
        refine fr_cal hm (fun _ _ h => fr_X4_held h) (fun x4 m3 hm => ?_)
        exact fr_ret hm
      · refine fr_if hm (fun hm => ?_) (fun hm => ?_)
        · skip
          refine fr_cal hm (fun _ _ h => fr_X4_held h) (fun x6 m5 hm => ?_)
          exact fr_ret hm
        · refine fr_if hm (fun hm => ?_) (fun hm => ?_)
          · skip
            refine fr_fi hm (fun hm => ?_) (fun hm => ?_)
            · skip
              refine fr_n hm (fun hm => ?_)
              refine fr_cal hm (fun _ _ h => fr_X4_held h) (fun x8 m7 hm => ?_)
              exact fr_ret hm
            · skip
              exact fr_ret hm
          · refine fr_if hm (fun hm => ?_) (fun hm => ?_)
            · skip
              refine fr_if hm (fun hm => ?_) (fun hm => ?_)
              · skip
                exact fr_ret hm
              · skip
                exact fr_ret hm
            · refine fr_if hm (fun hm => ?_) (fun hm => ?_)
              · skip
                refine fr_fi hm (fun hm => ?_) (fun hm => ?_)
                · skip
                  exact fr_ret hm
                · skip
                  exact fr_ret hm
              · refine fr_if hm (fun hm => ?_) (fun hm => ?_)
                · skip
                  refine fr_if hm (fun hm => ?_) (fun hm => ?_)
                  · skip
                    exact fr_ret hm
                  · skip
                    exact fr_ret hm
                · refine fr_if hm (fun hm => ?_) (fun hm => ?_)
                  · skip
                    exact fr_ret hm
                  · skip
                    exact fr_ret hm
set_option maxRecDepth 4000 in
theorem fr_X4_worth {S : Nat → Nat → Bool} {m mm : Sg} {r : Int32} {P : Nat} {n : Nat} (s_P_2 : S P 2 = true) (s_P2 : ∀ k, S (P + 2) k = true) (hm : f_X4_worth P n m  = some (r, mm)) : Fr S m mm := by
  unfold f_X4_worth at hm
  refine fr_wr hm (by first | assumption | exact s_P2 _) (fun m1 hm => ?_)
  refine g_lp (I := fun (s : Sg × Int32) => Fr S s.1 mm) (E := fun (x : (Sg) ⊕ (Sg)) => match x with | .inl m4 => Fr S m4 mm | .inr m5 => Fr S m5 mm) hm ?_ ?_
  · rintro (m4 | m5) hm
    · (try dsimp only at hm)
      (try dsimp only)
      refine fr_cal hm (fun _ _ h => fr_X4_pop (by first | assumption | exact s_P2 _) h) (fun x40 m39 hm => ?_)
      exact fr_ret hm
    · (try dsimp only at hm)
      (try dsimp only)
      exact fr_ret hm
  · rintro ⟨m2, x3⟩ o hm hx7 hi6
    (try dsimp only [f_X4_worth_L7] at hm)
    (try dsimp only)
    refine fr_if hm (fun hm => ?_) (fun hm => ?_)
    · skip
      cases hm
      exact hx7 _ rfl
    · skip
      refine fr_n hm (fun hm => ?_)
      refine fr_b hm (fun x8 hm => ?_)
      refine fr_fi hm (fun hm => ?_) (fun hm => ?_)
      · skip
        refine g_jn (J := fun (s : Sg × Int32) => Fr S s.1 mm) hm ?_ ?_
        · rintro ⟨m9, x10⟩ hm
          (try dsimp only at hm)
          (try dsimp only)
          refine g_jn (J := fun (s : Sg × Int32) => Fr S s.1 mm) hm ?_ ?_
          · rintro ⟨m12, x13⟩ hm
            (try dsimp only at hm)
            (try dsimp only)
            refine fr_b hm (fun x15 hm => ?_)
            cases hm
            exact hi6 _ rfl
          · intro k14 hk14 hm
            refine fr_if hm (fun hm => ?_) (fun hm => ?_)
            · skip
              refine g_jn (J := fun (s : Sg) => Fr S s mm) hm ?_ ?_
              · intro m16 hm
                refine fr_fi hm (fun hm => ?_) (fun hm => ?_)
                · skip
                  refine fr_fi hm (fun hm => ?_) (fun hm => ?_)
                  · skip
                    refine fr_cal hm (fun _ _ h => fr_X4_pop (by first | assumption | exact s_P2 _) h) (fun x19 m18 hm => ?_)
                    refine fr_cal hm (fun _ _ h => fr_X4_pop (by first | assumption | exact s_P2 _) h) (fun x21 m20 hm => ?_)
                    refine fr_cal hm (fun _ _ h => fr_X4_reckon h) (fun x23 m22 hm => ?_)
                    refine fr_calv hm (fun _ h => fr_X4_push (by first | assumption | exact s_P2 _) (by first | assumption | exact s_P2 _) h) (fun m24 hm => ?_)
                    exact hk14 _ hm
                  · skip
                    refine fr_cal hm (fun _ _ h => fr_X4_pop (by first | assumption | exact s_P2 _) h) (fun x26 m25 hm => ?_)
                    refine fr_calv hm (fun _ h => fr_X4_push (by first | assumption | exact s_P2 _) (by first | assumption | exact s_P2 _) h) (fun m27 hm => ?_)
                    exact hk14 _ hm
                · skip
                  refine fr_cal hm (fun _ _ h => fr_X4_pop (by first | assumption | exact s_P2 _) h) (fun x29 m28 hm => ?_)
                  refine g_jn (J := fun (s : Sg × Int32) => Fr S s.1 mm) hm ?_ ?_
                  · rintro ⟨m30, x31⟩ hm
                    (try dsimp only at hm)
                    (try dsimp only)
                    exact hk14 _ hm
                  · intro k32 hk32 hm
                    refine fr_fi hm (fun hm => ?_) (fun hm => ?_)
                    · skip
                      exact hk32 _ hm
                    · skip
                      refine fr_cal hm (fun _ _ h => fr_X4_endOfClause h) (fun x34 m33 hm => ?_)
                      exact hk32 _ hm
              · intro k17 hk17 hm
                refine fr_if hm (fun hm => ?_) (fun hm => ?_)
                · skip
                  exact hk17 _ hm
                · skip
                  refine fr_if hm (fun hm => ?_) (fun hm => ?_)
                  · skip
                    exact hk17 _ hm
                  · skip
                    refine fr_n hm (fun hm => ?_)
                    refine fr_calv hm (fun _ h => fr_X4_push (by first | assumption | exact s_P2 _) (by first | assumption | exact s_P2 _) h) (fun m35 hm => ?_)
                    exact hk14 _ hm
            · skip
              refine fr_n hm (fun hm => ?_)
              refine fr_calv hm (fun _ h => fr_X4_push (by first | assumption | exact s_P2 _) (by first | assumption | exact s_P2 _) h) (fun m36 hm => ?_)
              exact hk14 _ hm
        · intro k11 hk11 hm
          refine fr_if hm (fun hm => ?_) (fun hm => ?_)
          · skip
            refine fr_cal hm (fun _ _ h => fr_J0_indexOf_0f7a4 h) (fun x38 m37 hm => ?_)
            exact hk11 _ hm
          · skip
            exact hk11 _ hm
      · skip
        cases hm
        exact hx7 _ rfl
set_option maxRecDepth 4000 in
theorem fr_X5_size {S : Nat → Nat → Bool} {m mm : Sg} {r : Int32} (hm : f_X5_size  m  = some (r, mm)) : Fr S m mm := by
  unfold f_X5_size at hm
  exact fr_ret hm
set_option maxRecDepth 4000 in
theorem fr_X5_holding {S : Nat → Nat → Bool} {m mm : Sg} {r : Int32} (hm : f_X5_holding  m  = some (r, mm)) : Fr S m mm := by
  unfold f_X5_holding at hm
  exact fr_ret hm
set_option maxRecDepth 4000 in
theorem fr_X5_hasRoom {S : Nat → Nat → Bool} {m mm : Sg} {r : Int32} (hm : f_X5_hasRoom  m  = some (r, mm)) : Fr S m mm := by
  unfold f_X5_hasRoom at hm
  refine fr_if hm (fun hm => ?_) (fun hm => ?_)
  · skip
    exact fr_ret hm
  · skip
    exact fr_ret hm
set_option maxRecDepth 4000 in
theorem fr_X5_letHold {S : Nat → Nat → Bool} {m mm : Sg} {r : Int32} {a1 : Int32} (s_13_3 : S 13 3 = true) (hm : f_X5_letHold  m a1 = some (r, mm)) : Fr S m mm := by
  unfold f_X5_letHold at hm
  refine fr_if hm (fun hm => ?_) (fun hm => ?_)
  · skip
    exact fr_ret hm
  · skip
    refine fr_if hm (fun hm => ?_) (fun hm => ?_)
    · skip
      refine fr_wr hm (by first | assumption) (fun m1 hm => ?_)
      exact fr_ret hm
    · skip
      exact fr_ret hm
set_option maxRecDepth 4000 in
theorem fr_X5_setLetters {S : Nat → Nat → Bool} {m mm : Sg} {jc : Nat} {a1 : Int32} {a2 : Int32} {a3 : Int32} (s_15 : ∀ k, S 15 k = true) (hm : f_X5_setLetters jc m a1 a2 a3 = some mm) : Fr S m mm := by
  unfold f_X5_setLetters at hm
  refine fr_wr hm (by first | assumption | exact s_15 _) (fun m1 hm => ?_)
  refine fr_cal hm (fun _ _ h => fr_X0_kid h) (fun x3 m2 hm => ?_)
  refine fr_wr hm (by first | assumption | exact s_15 _) (fun m4 hm => ?_)
  refine fr_wr hm (by first | assumption | exact s_15 _) (fun m5 hm => ?_)
  refine fr_cal hm (fun _ _ h => fr_X0_kid h) (fun x7 m6 hm => ?_)
  refine fr_wr hm (by first | assumption | exact s_15 _) (fun m8 hm => ?_)
  refine fr_cal hm (fun _ _ h => fr_X0_cell h) (fun x10 m9 hm => ?_)
  refine fr_wr hm (by first | assumption | exact s_15 _) (fun m11 hm => ?_)
  exact fr_retv hm
set_option maxRecDepth 4000 in
theorem fr_X5_taxBy {S : Nat → Nat → Bool} {m mm : Sg} {r : Int32} {a1 : Int32} {a2 : Int32} {nl : Nat} {ln : Nat → Nat} (hL : ∀ p k, 45 ≤ p → p % 3 ≠ 1 → S p k = true) (hm : f_X5_taxBy nl ln  m a1 a2 = some (r, mm)) : Fr S m mm := by
  unfold f_X5_taxBy at hm
  refine fr_if hm (fun hm => ?_) (fun hm => ?_)
  · skip
    exact fr_ret hm
  · skip
    refine fr_if hm (fun hm => ?_) (fun hm => ?_)
    · skip
      exact fr_ret hm
    · skip
      refine fr_n hm (fun hm => fr_if hm (fun hm => ?_) (fun hm => ?_))
      · skip
        refine fr_n hm (fun hm => fr_if hm (fun hm => ?_) (fun hm => ?_))
        · skip
          refine fr_cal hm (fun _ _ h => fr_X4_worth (by first | assumption | exact fun k => hL _ k (by omega) (by omega) | exact hL _ _ (by omega) (by omega)) (by first | assumption | exact fun k => hL _ k (by omega) (by omega) | exact hL _ _ (by omega) (by omega)) h) (fun x4 m3 hm => ?_)
          exact fr_ret hm
        · cases hm
      · skip
        exact fr_ret hm
set_option maxRecDepth 4000 in
theorem fr_X5_taxOf {S : Nat → Nat → Bool} {m mm : Sg} {r : Int32} {jc : Nat} {a1 : Int32} {a2 : Int32} {nl : Nat} {ln : Nat → Nat} (s_15 : ∀ k, S 15 k = true) (hL : ∀ p k, 45 ≤ p → p % 3 ≠ 1 → S p k = true) (hm : f_X5_taxOf nl ln jc m a1 a2 = some (r, mm)) : Fr S m mm := by
  unfold f_X5_taxOf at hm
  refine fr_cal hm (fun _ _ h => fr_X0_rightOf h) (fun x2 m1 hm => ?_)
  refine fr_cal hm (fun _ _ h => fr_X0_countOf h) (fun x4 m3 hm => ?_)
  refine fr_cal hm (fun _ _ h => fr_J6_bitCount_0f7a4 h) (fun x6 m5 hm => ?_)
  refine fr_calv hm (fun _ h => fr_X5_setLetters (by first | assumption | exact s_15 _ | exact fun k => hL _ k (by omega) (by omega) | exact hL _ _ (by omega) (by omega)) h) (fun m7 hm => ?_)
  refine fr_cal hm (fun _ _ h => fr_X0_kid h) (fun x9 m8 hm => ?_)
  refine fr_cal hm (fun _ _ h => fr_J6_bitCount_0f7a4 h) (fun x11 m10 hm => ?_)
  refine fr_wr hm (by first | assumption | exact s_15 _ | exact fun k => hL _ k (by omega) (by omega) | exact hL _ _ (by omega) (by omega)) (fun m12 hm => ?_)
  refine fr_cal hm (fun _ _ h => fr_X5_taxBy (by first | assumption | exact s_15 _ | exact fun k => hL _ k (by omega) (by omega) | exact hL _ _ (by omega) (by omega)) h) (fun x14 m13 hm => ?_)
  exact fr_ret hm
set_option maxRecDepth 4000 in
theorem fr_X5_taxAtCount {S : Nat → Nat → Bool} {m mm : Sg} {r : Int32} {a1 : Int32} {a2 : Int32} {nl : Nat} {ln : Nat → Nat} (s_15 : ∀ k, S 15 k = true) (hL : ∀ p k, 45 ≤ p → p % 3 ≠ 1 → S p k = true) (hm : f_X5_taxAtCount nl ln  m a1 a2 = some (r, mm)) : Fr S m mm := by
  unfold f_X5_taxAtCount at hm
  refine fr_calv hm (fun _ h => fr_X5_setLetters (by first | assumption | exact s_15 _ | exact fun k => hL _ k (by omega) (by omega) | exact hL _ _ (by omega) (by omega)) h) (fun m1 hm => ?_)
  refine fr_wr hm (by first | assumption | exact s_15 _ | exact fun k => hL _ k (by omega) (by omega) | exact hL _ _ (by omega) (by omega)) (fun m2 hm => ?_)
  refine fr_cal hm (fun _ _ h => fr_X5_taxBy (by first | assumption | exact s_15 _ | exact fun k => hL _ k (by omega) (by omega) | exact hL _ _ (by omega) (by omega)) h) (fun x4 m3 hm => ?_)
  exact fr_ret hm
