/-! what a mirror leaves alone -/
def Fr (S : Nat → Bool) (m m1 : Sg) : Prop := ∀ p, S p = false → m1.1 p = m.1 p ∧ m1.2 p = m.2 p
def SC (p : Nat) : Bool := decide (p < 27) || decide (45 ≤ p)
def SM (p : Nat) : Bool := decide (27 ≤ p) && decide (p < 44)
theorem Fr.rf {S : Nat → Bool} {m : Sg} : Fr S m m := fun _ _ => ⟨rfl, rfl⟩
theorem Fr.tr {S : Nat → Bool} {m m1 m2 : Sg} (h : Fr S m m1) (k : Fr S m1 m2) : Fr S m m2 := fun p hp => ⟨(k p hp).1.trans (h p hp).1, (k p hp).2.trans (h p hp).2⟩
theorem Fr.wr {S : Nat → Bool} {m : Sg} {p k : Nat} {v : Int32} (h : S p = true) : Fr S m (wr m p k v) := fun q hq => ⟨by
  have e : q ≠ p := fun e => by rw [e, h] at hq; cases hq
  simp [_root_.Jvm.Pilot.CCountRuleLaw_law_r3789_680f7d.wr, va_up, e], rfl⟩
theorem Fr.wrr {S : Nat → Bool} {m : Sg} {p : Nat} {f : Nat → Int32} (h : S p = true) : Fr S m (wrr m p f) := fun q hq => ⟨by
  have e : q ≠ p := fun e => by rw [e, h] at hq; cases hq
  simp [_root_.Jvm.Pilot.CCountRuleLaw_law_r3789_680f7d.wrr, va_up, e], rfl⟩
theorem Fr.wrl {S : Nat → Bool} {m : Sg} {p : Nat} {x : Int64} (h : S p = true) : Fr S m (wrl m p x) := fun q hq => ⟨rfl, by
  have e : q ≠ p := fun e => by rw [e, h] at hq; cases hq
  simp [_root_.Jvm.Pilot.CCountRuleLaw_law_r3789_680f7d.wrl, va_up, e]⟩
theorem fr_if {ρ : Type} {c P : Prop} {hh : Decidable c} {A B o : Option ρ} (hm : @ite (Option ρ) c hh A B = o) (k1 : A = o → P) (k2 : B = o → P) : P := by
  by_cases q : c
  · rw [if_pos q] at hm; exact k1 hm
  · rw [if_neg q] at hm; exact k2 hm
theorem fr_fi {ρ : Type} {c P : Prop} {hh : Decidable c} {A B o : Option ρ} (hm : @ite (Option ρ) c hh B A = o) (k1 : A = o → P) (k2 : B = o → P) : P := fr_if hm k2 k1
theorem fr_n {ρ : Type} {P : Prop} {b : Bool} {A : Option ρ} {o : ρ} (hm : (if b = true then A else none) = some o) (k : A = some o → P) : P := k (ifn hm).2
theorem fr_b {α ρ : Type} {P : Prop} {x : α} {K : α → Option ρ} {o : Option ρ} (hm : bnd x K = o) (k : ∀ x, K x = o → P) : P := k x hm
theorem fr_wr {ρ : Type} {S : Nat → Bool} {m mm : Sg} {p k : Nat} {v : Int32} {K : Sg → Option ρ} {o : Option ρ} (hm : bnd (wr m p k v) K = o) (hp : S p = true) (kk : ∀ m1, K m1 = o → Fr S m1 mm) : Fr S m mm := (Fr.wr hp).tr (kk _ hm)
theorem fr_wrl {ρ : Type} {S : Nat → Bool} {m mm : Sg} {p : Nat} {v : Int64} {K : Sg → Option ρ} {o : Option ρ} (hm : bnd (wrl m p v) K = o) (hp : S p = true) (kk : ∀ m1, K m1 = o → Fr S m1 mm) : Fr S m mm := (Fr.wrl hp).tr (kk _ hm)
theorem fr_st {ρ : Type} {S : Nat → Bool} {m mm : Sg} {p k : Nat} {b : Bool} {v : Int32} {K : Sg → Option ρ} {o : ρ} (hm : (if b = true then bnd (wr m p k v) K else none) = some o) (hp : S p = true) (kk : ∀ m1, K m1 = some o → Fr S m1 mm) : Fr S m mm := fr_wr (ifn hm).2 hp kk
theorem fr_cp {ρ : Type} {S : Nat → Bool} {m mm : Sg} {p : Nat} {b : Bool} {f : Nat → Int32} {K : Sg → Option ρ} {o : ρ} (hm : (if b = true then bnd (wrr m p f) K else none) = some o) (hp : S p = true) (kk : ∀ m1, K m1 = some o → Fr S m1 mm) : Fr S m mm := (Fr.wrr hp).tr (kk _ (ifn hm).2)
theorem fr_cal {α ρ : Type} {S : Nat → Bool} {m mm : Sg} {o : Option (α × Sg)} {K : α → Sg → Option ρ} {z : ρ} (hm : cal o K = some z) (hc : ∀ r m1, o = some (r, m1) → Fr S m m1) (kk : ∀ r m1, K r m1 = some z → Fr S m1 mm) : Fr S m mm := by
  obtain ⟨r, m1, h1, h2⟩ := cal_some hm
  exact (hc r m1 h1).tr (kk r m1 h2)
theorem fr_calv {ρ : Type} {S : Nat → Bool} {m mm : Sg} {o : Option Sg} {K : Sg → Option ρ} {z : ρ} (hm : calv o K = some z) (hc : ∀ m1, o = some m1 → Fr S m m1) (kk : ∀ m1, K m1 = some z → Fr S m1 mm) : Fr S m mm := by
  obtain ⟨m1, h1, h2⟩ := calv_some hm
  exact (hc m1 h1).tr (kk m1 h2)
theorem fr_ret {α : Type} {S : Nat → Bool} {r r0 : α} {m0 mm : Sg} (hm : some (r0, m0) = some (r, mm)) : Fr S m0 mm := by cases hm; exact Fr.rf
theorem fr_retz {α : Type} {S : Nat → Bool} {b : Bool} {r r0 : α} {m0 mm : Sg} (hm : (if b = true then some (r0, m0) else none) = some (r, mm)) : Fr S m0 mm := fr_ret (ifn hm).2
theorem fr_retv {S : Nat → Bool} {m0 mm : Sg} (hm : some m0 = some mm) : Fr S m0 mm := by cases hm; exact Fr.rf
theorem fr_two {P : Prop} (h1 : P) (_ : Nat → P) : P := h1
theorem rv_fr {S : Nat → Bool} {m m1 : Sg} {o : Option (Int32 × Sg)} (hc : ∀ r m1, o = some (r, m1) → Fr S m m1) (h : rv o = some m1) : Fr S m m1 := by
  cases o with
  | none => cases h
  | some q => cases h; exact hc q.1 q.2 rfl
theorem ri_fr {S : Nat → Bool} {m m1 : Sg} {r : Int32} {o : Option Sg} (hc : ∀ m1, o = some m1 → Fr S m m1) (h : ri o = some (r, m1)) : Fr S m m1 := by
  cases o with
  | none => cases h
  | some q => cases h; exact hc _ rfl
set_option maxRecDepth 4000 in
theorem fr_X0_cell {m mm : Sg} {r : Int32} {j : Nat} {i : Nat} {a1 : Int32} (h_j : SC j = true) (hm : f_X0_cell j m a1 = some (r, mm)) : Fr SC m mm := by
  unfold f_X0_cell at hm
  skip
  refine fr_if hm (fun hm => ?_) (fun hm => ?_)
  · skip
    exact fr_ret hm
  · skip
    skip
    skip
    skip
    refine fr_if hm (fun hm => ?_) (fun hm => ?_)
    · skip
      exact fr_ret hm
    · skip
      skip
      skip
      refine fr_n hm (fun hm => ?_)
      skip
      exact fr_ret hm
set_option maxRecDepth 4000 in
theorem fr_X0_put {m mm : Sg} {j : Nat} {i : Nat} {a1 : Int32} {a2 : Int32} (h_j : SC j = true) (hm : f_X0_put j m a1 a2 = some mm) : Fr SC m mm := by
  unfold f_X0_put at hm
  skip
  refine fr_if hm (fun hm => ?_) (fun hm => ?_)
  · exact fr_retv hm
  · skip
    skip
    skip
    skip
    refine fr_if hm (fun hm => ?_) (fun hm => ?_)
    · exact fr_retv hm
    · skip
      skip
      skip
      skip
      refine fr_st hm (by first | rfl | assumption | (simp [SC]; done) | (simp [SC]; omega)) (fun m1 hm => ?_)
      exact fr_retv hm
set_option maxRecDepth 4000 in
theorem fr_X0_kid {m mm : Sg} {r : Int32} {j : Nat} {i : Nat} {a1 : Int32} {a2 : Int32} (h_j : SC j = true) (hm : f_X0_kid j m a1 a2 = some (r, mm)) : Fr SC m mm := by
  unfold f_X0_kid at hm
  skip
  skip
  skip
  skip
  skip
  refine fr_b hm (fun x1 hm => ?_)
  skip
  refine fr_if hm (fun hm => ?_) (fun hm => ?_)
  · skip
    exact fr_ret hm
  · skip
    skip
    skip
    skip
    refine fr_if hm (fun hm => ?_) (fun hm => ?_)
    · skip
      exact fr_ret hm
    · skip
      skip
      skip
      refine fr_n hm (fun hm => ?_)
      skip
      exact fr_ret hm
set_option maxRecDepth 4000 in
theorem fr_X0_putKid {m mm : Sg} {j : Nat} {i : Nat} {a1 : Int32} {a2 : Int32} {a3 : Int32} (h_j : SC j = true) (hm : f_X0_putKid j m a1 a2 a3 = some mm) : Fr SC m mm := by
  unfold f_X0_putKid at hm
  skip
  skip
  skip
  skip
  skip
  refine fr_b hm (fun x1 hm => ?_)
  skip
  refine fr_if hm (fun hm => ?_) (fun hm => ?_)
  · exact fr_retv hm
  · skip
    skip
    skip
    skip
    refine fr_if hm (fun hm => ?_) (fun hm => ?_)
    · exact fr_retv hm
    · skip
      skip
      skip
      skip
      refine fr_st hm (by first | rfl | assumption | (simp [SC]; done) | (simp [SC]; omega)) (fun m2 hm => ?_)
      exact fr_retv hm
set_option maxRecDepth 4000 in
theorem fr_X0_old {m mm : Sg} {r : Int32} {j : Nat} {i : Nat} {a1 : Int32} {a2 : Int32} (h_j : SC j = true) (hm : f_X0_old j m a1 a2 = some (r, mm)) : Fr SC m mm := by
  unfold f_X0_old at hm
  skip
  skip
  skip
  skip
  skip
  skip
  skip
  refine fr_b hm (fun x1 hm => ?_)
  skip
  refine fr_if hm (fun hm => ?_) (fun hm => ?_)
  · skip
    exact fr_ret hm
  · skip
    skip
    skip
    skip
    refine fr_if hm (fun hm => ?_) (fun hm => ?_)
    · skip
      exact fr_ret hm
    · skip
      skip
      skip
      refine fr_n hm (fun hm => ?_)
      skip
      exact fr_ret hm
set_option maxRecDepth 4000 in
theorem fr_X0_putOld {m mm : Sg} {j : Nat} {i : Nat} {a1 : Int32} {a2 : Int32} {a3 : Int32} (h_j : SC j = true) (hm : f_X0_putOld j m a1 a2 a3 = some mm) : Fr SC m mm := by
  unfold f_X0_putOld at hm
  skip
  skip
  skip
  skip
  skip
  skip
  skip
  refine fr_b hm (fun x1 hm => ?_)
  skip
  refine fr_if hm (fun hm => ?_) (fun hm => ?_)
  · exact fr_retv hm
  · skip
    skip
    skip
    skip
    refine fr_if hm (fun hm => ?_) (fun hm => ?_)
    · exact fr_retv hm
    · skip
      skip
      skip
      skip
      refine fr_st hm (by first | rfl | assumption | (simp [SC]; done) | (simp [SC]; omega)) (fun m2 hm => ?_)
      exact fr_retv hm
set_option maxRecDepth 4000 in
theorem fr_X0_children {m mm : Sg} {r : Int32} {j : Nat} {i : Nat} (h_j : SC j = true) (hm : f_X0_children j m  = some (r, mm)) : Fr SC m mm := by
  unfold f_X0_children at hm
  skip
  skip
  skip
  skip
  exact fr_ret hm
set_option maxRecDepth 4000 in
theorem fr_X0_elders {m mm : Sg} {r : Int32} {j : Nat} {i : Nat} (h_j : SC j = true) (hm : f_X0_elders j m  = some (r, mm)) : Fr SC m mm := by
  unfold f_X0_elders at hm
  skip
  skip
  skip
  skip
  exact fr_ret hm
set_option maxRecDepth 4000 in
theorem fr_X0_ruler {m mm : Sg} {r : Int32} {j : Nat} {i : Nat} (h_j : SC j = true) (hm : f_X0_ruler j m  = some (r, mm)) : Fr SC m mm := by
  unfold f_X0_ruler at hm
  skip
  skip
  skip
  skip
  exact fr_ret hm
set_option maxRecDepth 4000 in
theorem fr_X0_become {m mm : Sg} {j : Nat} {jo : Nat} {i : Nat} {io : Nat} (h_j : SC j = true) (h_jo : SC jo = true) (hm : f_X0_become j jo m  = some mm) : Fr SC m mm := by
  unfold f_X0_become at hm
  skip
  skip
  skip
  skip
  skip
  skip
  skip
  refine fr_cp hm (by first | rfl | assumption | (simp [SC]; done) | (simp [SC]; omega)) (fun m1 hm => ?_)
  exact fr_retv hm
set_option maxRecDepth 4000 in
theorem fr_X0_copyTo {m mm : Sg} {j : Nat} {w : Nat} {n : Nat} {i : Nat} {a1 : Int32} (h_j : SC j = true) (h_w : SC w = true) (hm : f_X0_copyTo j w n m a1 = some mm) : Fr SC m mm := by
  unfold f_X0_copyTo at hm
  skip
  refine fr_if hm (fun hm => ?_) (fun hm => ?_)
  · exact fr_retv hm
  · skip
    skip
    skip
    skip
    skip
    refine fr_if hm (fun hm => ?_) (fun hm => ?_)
    · exact fr_retv hm
    · skip
      skip
      skip
      skip
      skip
      skip
      refine fr_cp hm (by first | rfl | assumption | (simp [SC]; done) | (simp [SC]; omega)) (fun m1 hm => ?_)
      exact fr_retv hm
set_option maxRecDepth 4000 in
theorem fr_X0_copyFrom {m mm : Sg} {j : Nat} {w : Nat} {n : Nat} {i : Nat} {a1 : Int32} (h_j : SC j = true) (h_w : SC w = true) (hm : f_X0_copyFrom j w n m a1 = some mm) : Fr SC m mm := by
  unfold f_X0_copyFrom at hm
  skip
  refine fr_if hm (fun hm => ?_) (fun hm => ?_)
  · exact fr_retv hm
  · skip
    skip
    skip
    skip
    skip
    refine fr_if hm (fun hm => ?_) (fun hm => ?_)
    · exact fr_retv hm
    · skip
      skip
      skip
      skip
      skip
      skip
      refine fr_cp hm (by first | rfl | assumption | (simp [SC]; done) | (simp [SC]; omega)) (fun m1 hm => ?_)
      exact fr_retv hm
set_option maxRecDepth 4000 in
theorem fr_X0_clear {m mm : Sg} {j : Nat} {i : Nat} (h_j : SC j = true) (hm : f_X0_clear j m  = some mm) : Fr SC m mm := by
  unfold f_X0_clear at hm
  skip
  skip
  refine g_lp (I := fun (s : Sg × Int32) => Fr SC s.1 mm) (E := fun (s : Sg) => Fr SC s mm) hm ?_ ?_
  · rintro m3 hm
    (try dsimp only at hm)
    (try dsimp only)
    skip
    skip
    skip
    skip
    refine fr_wr hm (by first | rfl | assumption | (simp [SC]; done) | (simp [SC]; omega)) (fun m8 hm => ?_)
    exact fr_retv hm
  · rintro ⟨m1, x2⟩ o hm hx5 hi4
    (try dsimp only [f_X0_clear_L2] at hm)
    (try dsimp only)
    skip
    skip
    skip
    skip
    refine fr_if hm (fun hm => ?_) (fun hm => ?_)
    · skip
      cases hm
      exact hx5 _ rfl
    · skip
      skip
      skip
      skip
      refine fr_st hm (by first | rfl | assumption | (simp [SC]; done) | (simp [SC]; omega)) (fun m6 hm => ?_)
      refine fr_b hm (fun x7 hm => ?_)
      skip
      cases hm
      exact hi4 _ rfl
set_option maxRecDepth 4000 in
theorem fr_X0_setRule {m mm : Sg} {j : Nat} {i : Nat} {a1 : Int32} {a2 : Int32} {a3 : Int32} (h_j : SC j = true) (hm : f_X0_setRule j m a1 a2 a3 = some mm) : Fr SC m mm := by
  unfold f_X0_setRule at hm
  skip
  skip
  skip
  skip
  refine fr_wr hm (by first | rfl | assumption | (simp [SC]; done) | (simp [SC]; omega)) (fun m1 hm => ?_)
  skip
  skip
  skip
  skip
  refine fr_wr hm (by first | rfl | assumption | (simp [SC]; done) | (simp [SC]; omega)) (fun m2 hm => ?_)
  skip
  skip
  skip
  skip
  refine fr_wr hm (by first | rfl | assumption | (simp [SC]; done) | (simp [SC]; omega)) (fun m3 hm => ?_)
  exact fr_retv hm
set_option maxRecDepth 4000 in
theorem fr_X0_fromBelow {m mm : Sg} {r : Int32} {a1 : Int32} (hm : f_X0_fromBelow  m a1 = some (r, mm)) : Fr SC m mm := by
  unfold f_X0_fromBelow at hm
  skip
  skip
  skip
  skip
  skip
  exact fr_ret hm
set_option maxRecDepth 4000 in
theorem fr_X0_isTold {m mm : Sg} {r : Int32} {j : Nat} {i : Nat} (h_j : SC j = true) (hm : f_X0_isTold j m  = some (r, mm)) : Fr SC m mm := by
  unfold f_X0_isTold at hm
  skip
  skip
  skip
  skip
  refine fr_if hm (fun hm => ?_) (fun hm => ?_)
  · skip
    exact fr_ret hm
  · skip
    skip
    exact fr_ret hm
set_option maxRecDepth 4000 in
theorem fr_X0_hasChild {m mm : Sg} {r : Int32} {j : Nat} {i : Nat} {a1 : Int32} (h_j : SC j = true) (hm : f_X0_hasChild j m a1 = some (r, mm)) : Fr SC m mm := by
  unfold f_X0_hasChild at hm
  skip
  refine fr_if hm (fun hm => ?_) (fun hm => ?_)
  · skip
    exact fr_ret hm
  · skip
    skip
    skip
    skip
    skip
    refine fr_if hm (fun hm => ?_) (fun hm => ?_)
    · skip
      exact fr_ret hm
    · skip
      skip
      exact fr_ret hm
set_option maxRecDepth 4000 in
theorem fr_X0_hasElder {m mm : Sg} {r : Int32} {j : Nat} {i : Nat} {a1 : Int32} (h_j : SC j = true) (hm : f_X0_hasElder j m a1 = some (r, mm)) : Fr SC m mm := by
  unfold f_X0_hasElder at hm
  skip
  refine fr_if hm (fun hm => ?_) (fun hm => ?_)
  · skip
    exact fr_ret hm
  · skip
    skip
    skip
    skip
    skip
    refine fr_if hm (fun hm => ?_) (fun hm => ?_)
    · skip
      exact fr_ret hm
    · skip
      skip
      exact fr_ret hm
set_option maxRecDepth 4000 in
theorem fr_X0_isNursery {m mm : Sg} {r : Int32} {a1 : Int32} (hm : f_X0_isNursery  m a1 = some (r, mm)) : Fr SC m mm := by
  unfold f_X0_isNursery at hm
  skip
  refine fr_if hm (fun hm => ?_) (fun hm => ?_)
  · skip
    exact fr_ret hm
  · skip
    skip
    refine fr_if hm (fun hm => ?_) (fun hm => ?_)
    · skip
      exact fr_ret hm
    · skip
      skip
      exact fr_ret hm
set_option maxRecDepth 4000 in
theorem fr_X0_isOfNursery {m mm : Sg} {r : Int32} {j : Nat} {i : Nat} {a1 : Int32} {a2 : Int32} (h_j : SC j = true) (hm : f_X0_isOfNursery j m a1 a2 = some (r, mm)) : Fr SC m mm := by
  unfold f_X0_isOfNursery at hm
  skip
  skip
  refine fr_cal hm (fun _ _ h => fr_X0_hasChild (by first | rfl | assumption | (simp [SC]; done) | (simp [SC]; omega)) h) (fun x2 m1 hm => ?_)
  refine fr_if hm (fun hm => ?_) (fun hm => ?_)
  · skip
    exact fr_ret hm
  · skip
    skip
    skip
    refine fr_cal hm (fun _ _ h => fr_X0_kid (by first | rfl | assumption | (simp [SC]; done) | (simp [SC]; omega)) h) (fun x4 m3 hm => ?_)
    skip
    refine fr_fi hm (fun hm => ?_) (fun hm => ?_)
    · skip
      exact fr_ret hm
    · skip
      skip
      exact fr_ret hm
set_option maxRecDepth 4000 in
theorem fr_X0_isBelowGrowing {m mm : Sg} {r : Int32} {j : Nat} {i : Nat} {a1 : Int32} (h_j : SC j = true) (hm : f_X0_isBelowGrowing j m a1 = some (r, mm)) : Fr SC m mm := by
  unfold f_X0_isBelowGrowing at hm
  skip
  skip
  skip
  refine fr_cal hm (fun _ _ h => fr_X0_kid (by first | rfl | assumption | (simp [SC]; done) | (simp [SC]; omega)) h) (fun x2 m1 hm => ?_)
  skip
  skip
  skip
  skip
  refine fr_if hm (fun hm => ?_) (fun hm => ?_)
  · skip
    exact fr_ret hm
  · skip
    skip
    exact fr_ret hm
set_option maxRecDepth 4000 in
theorem fr_X0_isYounger {m mm : Sg} {r : Int32} {j : Nat} {i : Nat} {a1 : Int32} {a2 : Int32} (h_j : SC j = true) (hm : f_X0_isYounger j m a1 a2 = some (r, mm)) : Fr SC m mm := by
  unfold f_X0_isYounger at hm
  skip
  skip
  skip
  refine fr_cal hm (fun _ _ h => fr_X0_kid (by first | rfl | assumption | (simp [SC]; done) | (simp [SC]; omega)) h) (fun x2 m1 hm => ?_)
  skip
  skip
  skip
  refine fr_cal hm (fun _ _ h => fr_X0_kid (by first | rfl | assumption | (simp [SC]; done) | (simp [SC]; omega)) h) (fun x4 m3 hm => ?_)
  refine fr_if hm (fun hm => ?_) (fun hm => ?_)
  · skip
    exact fr_ret hm
  · skip
    skip
    exact fr_ret hm
set_option maxRecDepth 4000 in
theorem fr_X0_goesFirst {m mm : Sg} {r : Int32} {j : Nat} {i : Nat} {a1 : Int32} {a2 : Int32} (h_j : SC j = true) (hm : f_X0_goesFirst j m a1 a2 = some (r, mm)) : Fr SC m mm := by
  unfold f_X0_goesFirst at hm
  skip
  skip
  skip
  refine fr_cal hm (fun _ _ h => fr_X0_isYounger (by first | rfl | assumption | (simp [SC]; done) | (simp [SC]; omega)) h) (fun x2 m1 hm => ?_)
  refine g_jn (J := fun (s : Sg) => Fr SC s mm) hm ?_ ?_
  · intro m3 hm
    skip
    skip
    exact fr_ret hm
  · intro k4 hk4 hm
    refine fr_fi hm (fun hm => ?_) (fun hm => ?_)
    · skip
      exact hk4 _ hm
    · skip
      skip
      skip
      refine fr_cal hm (fun _ _ h => fr_X0_kid (by first | rfl | assumption | (simp [SC]; done) | (simp [SC]; omega)) h) (fun x6 m5 hm => ?_)
      skip
      skip
      skip
      refine fr_cal hm (fun _ _ h => fr_X0_kid (by first | rfl | assumption | (simp [SC]; done) | (simp [SC]; omega)) h) (fun x8 m7 hm => ?_)
      refine fr_fi hm (fun hm => ?_) (fun hm => ?_)
      · skip
        exact fr_ret hm
      · skip
        skip
        refine fr_if hm (fun hm => ?_) (fun hm => ?_)
        · skip
          exact fr_ret hm
        · skip
          exact hk4 _ hm
set_option maxRecDepth 4000 in
theorem fr_X0_bit {m mm : Sg} {r : Int32} {j : Nat} {i : Nat} {a1 : Int32} {a2 : Int32} {a3 : Int32} (h_j : SC j = true) (hm : f_X0_bit j m a1 a2 a3 = some (r, mm)) : Fr SC m mm := by
  unfold f_X0_bit at hm
  skip
  skip
  skip
  refine fr_cal hm (fun _ _ h => fr_X0_kid (by first | rfl | assumption | (simp [SC]; done) | (simp [SC]; omega)) h) (fun x2 m1 hm => ?_)
  skip
  skip
  skip
  skip
  refine fr_if hm (fun hm => ?_) (fun hm => ?_)
  · skip
    exact fr_ret hm
  · skip
    skip
    exact fr_ret hm
set_option maxRecDepth 4000 in
theorem fr_X0_setBit {m mm : Sg} {j : Nat} {i : Nat} {a1 : Int32} {a2 : Int32} {a3 : Int32} {a4 : Int32} (h_j : SC j = true) (hm : f_X0_setBit j m a1 a2 a3 a4 = some mm) : Fr SC m mm := by
  unfold f_X0_setBit at hm
  skip
  skip
  skip
  refine fr_cal hm (fun _ _ h => fr_X0_kid (by first | rfl | assumption | (simp [SC]; done) | (simp [SC]; omega)) h) (fun x2 m1 hm => ?_)
  skip
  skip
  skip
  skip
  skip
  skip
  refine fr_b hm (fun x3 hm => ?_)
  skip
  skip
  skip
  skip
  refine g_jn (J := fun (s : Sg × Int32) => Fr SC s.1 mm) hm ?_ ?_
  · rintro ⟨m4, x5⟩ hm
    (try dsimp only at hm)
    (try dsimp only)
    refine fr_calv hm (fun _ h => fr_X0_putKid (by first | rfl | assumption | (simp [SC]; done) | (simp [SC]; omega)) h) (fun m7 hm => ?_)
    exact fr_retv hm
  · intro k6 hk6 hm
    refine fr_if hm (fun hm => ?_) (fun hm => ?_)
    · skip
      skip
      exact hk6 _ hm
    · skip
      skip
      skip
      skip
      skip
      skip
      skip
      exact hk6 _ hm
set_option maxRecDepth 4000 in
theorem fr_X0_rightOf {m mm : Sg} {r : Int32} {j : Nat} {i : Nat} {a1 : Int32} (h_j : SC j = true) (hm : f_X0_rightOf j m a1 = some (r, mm)) : Fr SC m mm := by
  unfold f_X0_rightOf at hm
  skip
  skip
  skip
  refine fr_cal hm (fun _ _ h => fr_X0_kid (by first | rfl | assumption | (simp [SC]; done) | (simp [SC]; omega)) h) (fun x2 m1 hm => ?_)
  skip
  skip
  skip
  refine fr_cal hm (fun _ _ h => fr_X0_kid (by first | rfl | assumption | (simp [SC]; done) | (simp [SC]; omega)) h) (fun x4 m3 hm => ?_)
  skip
  skip
  skip
  exact fr_ret hm
set_option maxRecDepth 4000 in
theorem fr_X0_isRight {m mm : Sg} {r : Int32} {j : Nat} {i : Nat} {a1 : Int32} {a2 : Int32} (h_j : SC j = true) (hm : f_X0_isRight j m a1 a2 = some (r, mm)) : Fr SC m mm := by
  unfold f_X0_isRight at hm
  skip
  skip
  refine fr_cal hm (fun _ _ h => fr_X0_rightOf (by first | rfl | assumption | (simp [SC]; done) | (simp [SC]; omega)) h) (fun x2 m1 hm => ?_)
  skip
  skip
  skip
  skip
  refine fr_if hm (fun hm => ?_) (fun hm => ?_)
  · skip
    exact fr_ret hm
  · skip
    skip
    exact fr_ret hm
set_option maxRecDepth 4000 in
theorem fr_X0_makeRight {m mm : Sg} {j : Nat} {i : Nat} {a1 : Int32} {a2 : Int32} (h_j : SC j = true) (hm : f_X0_makeRight j m a1 a2 = some mm) : Fr SC m mm := by
  unfold f_X0_makeRight at hm
  skip
  skip
  skip
  skip
  skip
  skip
  refine fr_cal hm (fun _ _ h => fr_X0_kid (by first | rfl | assumption | (simp [SC]; done) | (simp [SC]; omega)) h) (fun x2 m1 hm => ?_)
  skip
  skip
  skip
  skip
  refine fr_calv hm (fun _ h => fr_X0_putKid (by first | rfl | assumption | (simp [SC]; done) | (simp [SC]; omega)) h) (fun m3 hm => ?_)
  skip
  skip
  skip
  skip
  skip
  skip
  refine fr_cal hm (fun _ _ h => fr_X0_kid (by first | rfl | assumption | (simp [SC]; done) | (simp [SC]; omega)) h) (fun x5 m4 hm => ?_)
  skip
  skip
  skip
  skip
  skip
  skip
  refine fr_calv hm (fun _ h => fr_X0_putKid (by first | rfl | assumption | (simp [SC]; done) | (simp [SC]; omega)) h) (fun m6 hm => ?_)
  exact fr_retv hm
set_option maxRecDepth 4000 in
theorem fr_X0_lowestTen {m mm : Sg} {r : Int32} {a1 : Int32} (hm : f_X0_lowestTen  m a1 = some (r, mm)) : Fr SC m mm := by
  unfold f_X0_lowestTen at hm
  skip
  skip
  refine g_lp (I := fun (s : Sg × Int32) => Fr SC s.1 mm) (E := fun (x : (Sg × Int32) ⊕ (Sg)) => match x with | .inl (m3, x4) => Fr SC m3 mm | .inr m5 => Fr SC m5 mm) hm ?_ ?_
  · rintro (⟨m3, x4⟩ | m5) hm
    · (try dsimp only at hm)
      (try dsimp only)
      skip
      exact fr_ret hm
    · (try dsimp only at hm)
      (try dsimp only)
      skip
      exact fr_ret hm
  · rintro ⟨m1, x2⟩ o hm hx7 hi6
    (try dsimp only [f_X0_lowestTen_L2] at hm)
    (try dsimp only)
    skip
    skip
    refine fr_if hm (fun hm => ?_) (fun hm => ?_)
    · skip
      cases hm
      exact hx7 _ rfl
    · skip
      skip
      skip
      skip
      skip
      refine fr_if hm (fun hm => ?_) (fun hm => ?_)
      · refine fr_b hm (fun x8 hm => ?_)
        skip
        cases hm
        exact hi6 _ rfl
      · skip
        cases hm
        exact hx7 _ rfl
set_option maxRecDepth 4000 in
theorem fr_X0_lowestNotRight {m mm : Sg} {r : Int32} {j : Nat} {i : Nat} {a1 : Int32} (h_j : SC j = true) (hm : f_X0_lowestNotRight j m a1 = some (r, mm)) : Fr SC m mm := by
  unfold f_X0_lowestNotRight at hm
  skip
  skip
  refine fr_cal hm (fun _ _ h => fr_X0_rightOf (by first | rfl | assumption | (simp [SC]; done) | (simp [SC]; omega)) h) (fun x2 m1 hm => ?_)
  skip
  skip
  refine fr_cal hm (fun _ _ h => fr_X0_lowestTen h) (fun x4 m3 hm => ?_)
  exact fr_ret hm
set_option maxRecDepth 4000 in
theorem fr_X0_countOf {m mm : Sg} {r : Int32} {j : Nat} {i : Nat} {a1 : Int32} (h_j : SC j = true) (hm : f_X0_countOf j m a1 = some (r, mm)) : Fr SC m mm := by
  unfold f_X0_countOf at hm
  skip
  skip
  refine fr_cal hm (fun _ _ h => fr_X0_lowestNotRight (by first | rfl | assumption | (simp [SC]; done) | (simp [SC]; omega)) h) (fun x2 m1 hm => ?_)
  skip
  skip
  skip
  skip
  refine g_jn (J := fun (s : Sg × Int32) => Fr SC s.1 mm) hm ?_ ?_
  · rintro ⟨m3, x4⟩ hm
    (try dsimp only at hm)
    (try dsimp only)
    skip
    exact fr_ret hm
  · intro k5 hk5 hm
    refine fr_fi hm (fun hm => ?_) (fun hm => ?_)
    · skip
      skip
      exact hk5 _ hm
    · skip
      skip
      skip
      exact hk5 _ hm
set_option maxRecDepth 4000 in
theorem fr_X0_beginLesson {m mm : Sg} {j : Nat} {i : Nat} {a1 : Int32} {a2 : Int32} (h_j : SC j = true) (hm : f_X0_beginLesson j m a1 a2 = some mm) : Fr SC m mm := by
  unfold f_X0_beginLesson at hm
  skip
  skip
  skip
  skip
  refine fr_calv hm (fun _ h => fr_X0_putKid (by first | rfl | assumption | (simp [SC]; done) | (simp [SC]; omega)) h) (fun m1 hm => ?_)
  skip
  skip
  skip
  skip
  skip
  skip
  refine fr_cal hm (fun _ _ h => fr_X0_kid (by first | rfl | assumption | (simp [SC]; done) | (simp [SC]; omega)) h) (fun x3 m2 hm => ?_)
  refine fr_calv hm (fun _ h => fr_X0_putKid (by first | rfl | assumption | (simp [SC]; done) | (simp [SC]; omega)) h) (fun m4 hm => ?_)
  exact fr_retv hm
set_option maxRecDepth 4000 in
theorem fr_X0_endLesson {m mm : Sg} {j : Nat} {i : Nat} {a1 : Int32} (h_j : SC j = true) (hm : f_X0_endLesson j m a1 = some mm) : Fr SC m mm := by
  unfold f_X0_endLesson at hm
  skip
  skip
  skip
  skip
  refine fr_calv hm (fun _ h => fr_X0_putKid (by first | rfl | assumption | (simp [SC]; done) | (simp [SC]; omega)) h) (fun m1 hm => ?_)
  skip
  skip
  skip
  skip
  refine fr_calv hm (fun _ h => fr_X0_putKid (by first | rfl | assumption | (simp [SC]; done) | (simp [SC]; omega)) h) (fun m2 hm => ?_)
  exact fr_retv hm
set_option maxRecDepth 4000 in
theorem fr_X0_setKept {m mm : Sg} {j : Nat} {i : Nat} {a1 : Int32} {a2 : Int32} {a3 : Int32} (h_j : SC j = true) (hm : f_X0_setKept j m a1 a2 a3 = some mm) : Fr SC m mm := by
  unfold f_X0_setKept at hm
  skip
  skip
  skip
  skip
  skip
  refine fr_calv hm (fun _ h => fr_X0_setBit (by first | rfl | assumption | (simp [SC]; done) | (simp [SC]; omega)) h) (fun m1 hm => ?_)
  skip
  refine fr_if hm (fun hm => ?_) (fun hm => ?_)
  · exact fr_retv hm
  · skip
    skip
    skip
    refine fr_cal hm (fun _ _ h => fr_X0_kid (by first | rfl | assumption | (simp [SC]; done) | (simp [SC]; omega)) h) (fun x3 m2 hm => ?_)
    skip
    refine fr_fi hm (fun hm => ?_) (fun hm => ?_)
    · exact fr_retv hm
    · skip
      skip
      refine fr_calv hm (fun _ h => fr_X0_endLesson (by first | rfl | assumption | (simp [SC]; done) | (simp [SC]; omega)) h) (fun m4 hm => ?_)
      exact fr_retv hm
set_option maxRecDepth 4000 in
theorem fr_X0_triedTens {m mm : Sg} {r : Int32} {j : Nat} {i : Nat} (h_j : SC j = true) (hm : f_X0_triedTens j m  = some (r, mm)) : Fr SC m mm := by
  unfold f_X0_triedTens at hm
  skip
  skip
  skip
  skip
  skip
  skip
  skip
  skip
  exact fr_ret hm
set_option maxRecDepth 4000 in
theorem fr_X0_askedBy {m mm : Sg} {r : Int32} {j : Nat} {i : Nat} {a1 : Int32} (h_j : SC j = true) (hm : f_X0_askedBy j m a1 = some (r, mm)) : Fr SC m mm := by
  unfold f_X0_askedBy at hm
  skip
  skip
  skip
  refine fr_cal hm (fun _ _ h => fr_X0_old (by first | rfl | assumption | (simp [SC]; done) | (simp [SC]; omega)) h) (fun x2 m1 hm => ?_)
  skip
  refine fr_cal hm (fun _ _ h => fr_X0_triedTens (by first | rfl | assumption | (simp [SC]; done) | (simp [SC]; omega)) h) (fun x4 m3 hm => ?_)
  skip
  exact fr_ret hm
set_option maxRecDepth 4000 in
theorem fr_X0_byStep {m mm : Sg} {r : Int32} {a1 : Int32} {a2 : Int32} (hm : f_X0_byStep  m a1 a2 = some (r, mm)) : Fr SC m mm := by
  unfold f_X0_byStep at hm
  skip
  skip
  refine fr_fi hm (fun hm => ?_) (fun hm => ?_)
  · skip
    skip
    refine fr_fi hm (fun hm => ?_) (fun hm => ?_)
    · skip
      exact fr_ret hm
    · skip
      skip
      skip
      skip
      exact fr_ret hm
  · skip
    skip
    skip
    exact fr_ret hm
set_option maxRecDepth 4000 in
theorem fr_X0_askedOf {m mm : Sg} {r : Int32} {j : Nat} {i : Nat} {a1 : Int32} {a2 : Int32} (h_j : SC j = true) (hm : f_X0_askedOf j m a1 a2 = some (r, mm)) : Fr SC m mm := by
  unfold f_X0_askedOf at hm
  skip
  skip
  skip
  skip
  refine fr_cal hm (fun _ _ h => fr_X0_kid (by first | rfl | assumption | (simp [SC]; done) | (simp [SC]; omega)) h) (fun x2 m1 hm => ?_)
  refine fr_cal hm (fun _ _ h => fr_X0_byStep h) (fun x4 m3 hm => ?_)
  exact fr_ret hm
set_option maxRecDepth 4000 in
theorem fr_X0_lacks {m mm : Sg} {r : Int32} {j : Nat} {i : Nat} {a1 : Int32} {a2 : Int32} (h_j : SC j = true) (hm : f_X0_lacks j m a1 a2 = some (r, mm)) : Fr SC m mm := by
  unfold f_X0_lacks at hm
  skip
  skip
  skip
  skip
  refine fr_cal hm (fun _ _ h => fr_X0_kid (by first | rfl | assumption | (simp [SC]; done) | (simp [SC]; omega)) h) (fun x2 m1 hm => ?_)
  refine fr_cal hm (fun _ _ h => fr_X0_byStep h) (fun x4 m3 hm => ?_)
  skip
  skip
  skip
  refine fr_cal hm (fun _ _ h => fr_X0_kid (by first | rfl | assumption | (simp [SC]; done) | (simp [SC]; omega)) h) (fun x6 m5 hm => ?_)
  skip
  skip
  skip
  skip
  skip
  refine fr_cal hm (fun _ _ h => fr_X0_kid (by first | rfl | assumption | (simp [SC]; done) | (simp [SC]; omega)) h) (fun x8 m7 hm => ?_)
  skip
  skip
  exact fr_ret hm
set_option maxRecDepth 4000 in
theorem fr_X0_wants {m mm : Sg} {r : Int32} {j : Nat} {i : Nat} {a1 : Int32} {a2 : Int32} (h_j : SC j = true) (hm : f_X0_wants j m a1 a2 = some (r, mm)) : Fr SC m mm := by
  unfold f_X0_wants at hm
  skip
  skip
  skip
  skip
  refine fr_cal hm (fun _ _ h => fr_X0_askedBy (by first | rfl | assumption | (simp [SC]; done) | (simp [SC]; omega)) h) (fun x2 m1 hm => ?_)
  refine fr_cal hm (fun _ _ h => fr_X0_lacks (by first | rfl | assumption | (simp [SC]; done) | (simp [SC]; omega)) h) (fun x4 m3 hm => ?_)
  exact fr_ret hm
set_option maxRecDepth 4000 in
theorem fr_X0_stands {m mm : Sg} {r : Int32} {j : Nat} {i : Nat} {a1 : Int32} {a2 : Int32} (h_j : SC j = true) (hm : f_X0_stands j m a1 a2 = some (r, mm)) : Fr SC m mm := by
  unfold f_X0_stands at hm
  skip
  skip
  skip
  refine fr_cal hm (fun _ _ h => fr_X0_wants (by first | rfl | assumption | (simp [SC]; done) | (simp [SC]; omega)) h) (fun x2 m1 hm => ?_)
  refine fr_fi hm (fun hm => ?_) (fun hm => ?_)
  · skip
    exact fr_ret hm
  · skip
    skip
    exact fr_ret hm
set_option maxRecDepth 4000 in
theorem fr_X0_trierWithout {m mm : Sg} {r : Int32} {j : Nat} {i : Nat} {a1 : Int32} (h_j : SC j = true) (hm : f_X0_trierWithout j m a1 = some (r, mm)) : Fr SC m mm := by
  unfold f_X0_trierWithout at hm
  skip
  skip
  skip
  skip
  refine g_lp (I := fun (s : Sg × Int32 × Int32) => Fr SC s.1 mm) (E := fun (s : Sg × Int32) => Fr SC s.1 mm) hm ?_ ?_
  · rintro ⟨m4, x5⟩ hm
    (try dsimp only at hm)
    (try dsimp only)
    skip
    exact fr_ret hm
  · rintro ⟨m1, x2, x3⟩ o hm hx7 hi6
    (try dsimp only [f_X0_trierWithout_L4] at hm)
    (try dsimp only)
    skip
    skip
    skip
    skip
    skip
    refine fr_if hm (fun hm => ?_) (fun hm => ?_)
    · skip
      cases hm
      exact hx7 _ rfl
    · skip
      skip
      skip
      skip
      skip
      refine g_jn (J := fun (s : Sg × Int32) => Fr SC s.1 mm) hm ?_ ?_
      · rintro ⟨m8, x9⟩ hm
        (try dsimp only at hm)
        (try dsimp only)
        skip
        skip
        refine g_jn (J := fun (s : Sg × Int32) => Fr SC s.1 mm) hm ?_ ?_
        · rintro ⟨m11, x12⟩ hm
          (try dsimp only at hm)
          (try dsimp only)
          refine fr_b hm (fun x14 hm => ?_)
          skip
          cases hm
          exact hi6 _ rfl
        · intro k13 hk13 hm
          refine fr_if hm (fun hm => ?_) (fun hm => ?_)
          · skip
            exact hk13 _ hm
          · skip
            skip
            refine g_jn (J := fun (s : Sg) => Fr SC s mm) hm ?_ ?_
            · intro m15 hm
              skip
              skip
              exact hk13 _ hm
            · intro k16 hk16 hm
              refine fr_if hm (fun hm => ?_) (fun hm => ?_)
              · skip
                exact hk16 _ hm
              · skip
                skip
                skip
                refine fr_cal hm (fun _ _ h => fr_X0_old (by first | rfl | assumption | (simp [SC]; done) | (simp [SC]; omega)) h) (fun x18 m17 hm => ?_)
                skip
                skip
                skip
                refine fr_cal hm (fun _ _ h => fr_X0_old (by first | rfl | assumption | (simp [SC]; done) | (simp [SC]; omega)) h) (fun x20 m19 hm => ?_)
                refine fr_if hm (fun hm => ?_) (fun hm => ?_)
                · skip
                  exact hk13 _ hm
                · skip
                  exact hk16 _ hm
      · intro k10 hk10 hm
        refine g_jn (J := fun (s : Sg) => Fr SC s mm) hm ?_ ?_
        · intro m21 hm
          skip
          exact hk10 _ hm
        · intro k22 hk22 hm
          refine fr_fi hm (fun hm => ?_) (fun hm => ?_)
          · exact hk22 _ hm
          · skip
            skip
            refine fr_cal hm (fun _ _ h => fr_X0_askedBy (by first | rfl | assumption | (simp [SC]; done) | (simp [SC]; omega)) h) (fun x24 m23 hm => ?_)
            refine fr_if hm (fun hm => ?_) (fun hm => ?_)
            · exact hk22 _ hm
            · skip
              skip
              exact hk10 _ hm
set_option maxRecDepth 4000 in
theorem fr_X0_goOnWithLesson {m mm : Sg} {j : Nat} {i : Nat} {a1 : Int32} (h_j : SC j = true) (hm : f_X0_goOnWithLesson j m a1 = some mm) : Fr SC m mm := by
  unfold f_X0_goOnWithLesson at hm
  skip
  skip
  skip
  refine fr_cal hm (fun _ _ h => fr_X0_kid (by first | rfl | assumption | (simp [SC]; done) | (simp [SC]; omega)) h) (fun x2 m1 hm => ?_)
  skip
  skip
  refine fr_b hm (fun x3 hm => ?_)
  skip
  refine fr_if hm (fun hm => ?_) (fun hm => ?_)
  · skip
    skip
    skip
    skip
    skip
    refine fr_cal hm (fun _ _ h => fr_X0_kid (by first | rfl | assumption | (simp [SC]; done) | (simp [SC]; omega)) h) (fun x5 m4 hm => ?_)
    refine fr_calv hm (fun _ h => fr_X0_makeRight (by first | rfl | assumption | (simp [SC]; done) | (simp [SC]; omega)) h) (fun m6 hm => ?_)
    skip
    skip
    refine fr_calv hm (fun _ h => fr_X0_endLesson (by first | rfl | assumption | (simp [SC]; done) | (simp [SC]; omega)) h) (fun m7 hm => ?_)
    exact fr_retv hm
  · skip
    skip
    skip
    skip
    refine fr_calv hm (fun _ h => fr_X0_putKid (by first | rfl | assumption | (simp [SC]; done) | (simp [SC]; omega)) h) (fun m8 hm => ?_)
    skip
    exact fr_retv hm
set_option maxRecDepth 4000 in
theorem fr_X0_claimant {m mm : Sg} {r : Int32} {j : Nat} {i : Nat} {a1 : Int32} {a2 : Int32} (h_j : SC j = true) (hm : f_X0_claimant j m a1 a2 = some (r, mm)) : Fr SC m mm := by
  unfold f_X0_claimant at hm
  skip
  skip
  skip
  skip
  refine g_lp (I := fun (s : Sg × Int32 × Int32) => Fr SC s.1 mm) (E := fun (s : Sg × Int32) => Fr SC s.1 mm) hm ?_ ?_
  · rintro ⟨m4, x5⟩ hm
    (try dsimp only at hm)
    (try dsimp only)
    skip
    exact fr_ret hm
  · rintro ⟨m1, x2, x3⟩ o hm hx7 hi6
    (try dsimp only [f_X0_claimant_L5] at hm)
    (try dsimp only)
    skip
    skip
    skip
    skip
    skip
    refine fr_if hm (fun hm => ?_) (fun hm => ?_)
    · skip
      cases hm
      exact hx7 _ rfl
    · skip
      skip
      refine g_jn (J := fun (s : Sg × Int32) => Fr SC s.1 mm) hm ?_ ?_
      · rintro ⟨m8, x9⟩ hm
        (try dsimp only at hm)
        (try dsimp only)
        skip
        skip
        refine g_jn (J := fun (s : Sg × Int32) => Fr SC s.1 mm) hm ?_ ?_
        · rintro ⟨m11, x12⟩ hm
          (try dsimp only at hm)
          (try dsimp only)
          refine fr_b hm (fun x14 hm => ?_)
          skip
          cases hm
          exact hi6 _ rfl
        · intro k13 hk13 hm
          refine fr_if hm (fun hm => ?_) (fun hm => ?_)
          · skip
            exact hk13 _ hm
          · skip
            skip
            refine g_jn (J := fun (s : Sg) => Fr SC s mm) hm ?_ ?_
            · intro m15 hm
              skip
              skip
              exact hk13 _ hm
            · intro k16 hk16 hm
              refine fr_if hm (fun hm => ?_) (fun hm => ?_)
              · skip
                exact hk16 _ hm
              · skip
                skip
                skip
                refine fr_cal hm (fun _ _ h => fr_X0_isYounger (by first | rfl | assumption | (simp [SC]; done) | (simp [SC]; omega)) h) (fun x18 m17 hm => ?_)
                refine fr_if hm (fun hm => ?_) (fun hm => ?_)
                · skip
                  exact hk13 _ hm
                · skip
                  exact hk16 _ hm
      · intro k10 hk10 hm
        refine g_jn (J := fun (s : Sg) => Fr SC s mm) hm ?_ ?_
        · intro m19 hm
          skip
          exact hk10 _ hm
        · intro k20 hk20 hm
          refine fr_if hm (fun hm => ?_) (fun hm => ?_)
          · exact hk20 _ hm
          · skip
            skip
            refine fr_cal hm (fun _ _ h => fr_X0_isBelowGrowing (by first | rfl | assumption | (simp [SC]; done) | (simp [SC]; omega)) h) (fun x22 m21 hm => ?_)
            refine fr_if hm (fun hm => ?_) (fun hm => ?_)
            · exact hk20 _ hm
            · skip
              skip
              skip
              refine fr_cal hm (fun _ _ h => fr_X0_lacks (by first | rfl | assumption | (simp [SC]; done) | (simp [SC]; omega)) h) (fun x24 m23 hm => ?_)
              refine fr_fi hm (fun hm => ?_) (fun hm => ?_)
              · exact hk20 _ hm
              · skip
                skip
                exact hk10 _ hm
set_option maxRecDepth 4000 in
theorem fr_X0_rulerBehind {m mm : Sg} {r : Int32} {j : Nat} {i : Nat} {a1 : Int32} {a2 : Int32} {a3 : Int32} (h_j : SC j = true) (hm : f_X0_rulerBehind j m a1 a2 a3 = some (r, mm)) : Fr SC m mm := by
  unfold f_X0_rulerBehind at hm
  skip
  skip
  refine g_jn (J := fun (s : Sg × Int32) => Fr SC s.1 mm) hm ?_ ?_
  · rintro ⟨m1, x2⟩ hm
    (try dsimp only at hm)
    (try dsimp only)
    skip
    skip
    refine fr_if hm (fun hm => ?_) (fun hm => ?_)
    · skip
      exact fr_ret hm
    · skip
      skip
      refine fr_if hm (fun hm => ?_) (fun hm => ?_)
      · skip
        exact fr_ret hm
      · skip
        skip
        skip
        refine fr_cal hm (fun _ _ h => fr_X0_isYounger (by first | rfl | assumption | (simp [SC]; done) | (simp [SC]; omega)) h) (fun x5 m4 hm => ?_)
        refine fr_fi hm (fun hm => ?_) (fun hm => ?_)
        · skip
          exact fr_ret hm
        · skip
          exact fr_ret hm
  · intro k3 hk3 hm
    refine g_jn (J := fun (s : Sg) => Fr SC s mm) hm ?_ ?_
    · intro m6 hm
      skip
      exact hk3 _ hm
    · intro k7 hk7 hm
      refine fr_if hm (fun hm => ?_) (fun hm => ?_)
      · skip
        exact hk7 _ hm
      · skip
        skip
        skip
        refine fr_cal hm (fun _ _ h => fr_X0_kid (by first | rfl | assumption | (simp [SC]; done) | (simp [SC]; omega)) h) (fun x9 m8 hm => ?_)
        skip
        skip
        skip
        skip
        skip
        skip
        refine fr_if hm (fun hm => ?_) (fun hm => ?_)
        · skip
          exact hk7 _ hm
        · skip
          skip
          skip
          exact hk3 _ hm
set_option maxRecDepth 4000 in
theorem fr_X0_crown {m mm : Sg} {j : Nat} {i : Nat} {a1 : Int32} (h_j : SC j = true) (hm : f_X0_crown j m a1 = some mm) : Fr SC m mm := by
  unfold f_X0_crown at hm
  skip
  skip
  refine g_jn (J := fun (s : Sg × Int32) => Fr SC s.1 mm) hm ?_ ?_
  · rintro ⟨m1, x2⟩ hm
    (try dsimp only at hm)
    (try dsimp only)
    skip
    skip
    skip
    skip
    skip
    skip
    skip
    skip
    skip
    skip
    skip
    refine fr_cal hm (fun _ _ h => fr_X0_rulerBehind (by first | rfl | assumption | (simp [SC]; done) | (simp [SC]; omega)) h) (fun x5 m4 hm => ?_)
    refine fr_wr hm (by first | rfl | assumption | (simp [SC]; done) | (simp [SC]; omega)) (fun m6 hm => ?_)
    exact fr_retv hm
  · intro k3 hk3 hm
    refine fr_fi hm (fun hm => ?_) (fun hm => ?_)
    · skip
      skip
      skip
      refine fr_cal hm (fun _ _ h => fr_X0_askedBy (by first | rfl | assumption | (simp [SC]; done) | (simp [SC]; omega)) h) (fun x8 m7 hm => ?_)
      skip
      refine fr_cal hm (fun _ _ h => fr_X0_claimant (by first | rfl | assumption | (simp [SC]; done) | (simp [SC]; omega)) h) (fun x10 m9 hm => ?_)
      skip
      exact hk3 _ hm
    · skip
      skip
      skip
      exact hk3 _ hm
set_option maxRecDepth 4000 in
theorem fr_X0_reignAndTake {m mm : Sg} {j : Nat} {i : Nat} {a1 : Int32} (h_j : SC j = true) (hm : f_X0_reignAndTake j m a1 = some mm) : Fr SC m mm := by
  unfold f_X0_reignAndTake at hm
  skip
  skip
  skip
  skip
  refine fr_b hm (fun x1 hm => ?_)
  skip
  skip
  refine g_jn (J := fun (s : Sg) => Fr SC s mm) hm ?_ ?_
  · intro m2 hm
    skip
    skip
    skip
    skip
    skip
    skip
    skip
    refine fr_wr hm (by first | rfl | assumption | (simp [SC]; done) | (simp [SC]; omega)) (fun m4 hm => ?_)
    exact fr_retv hm
  · intro k3 hk3 hm
    refine fr_if hm (fun hm => ?_) (fun hm => ?_)
    · skip
      exact hk3 _ hm
    · skip
      skip
      skip
      skip
      skip
      skip
      refine fr_cal hm (fun _ _ h => fr_X0_kid (by first | rfl | assumption | (simp [SC]; done) | (simp [SC]; omega)) h) (fun x6 m5 hm => ?_)
      skip
      skip
      refine fr_calv hm (fun _ h => fr_X0_putKid (by first | rfl | assumption | (simp [SC]; done) | (simp [SC]; omega)) h) (fun m7 hm => ?_)
      skip
      exact hk3 _ hm
set_option maxRecDepth 4000 in
theorem fr_J6_numberOfLeadingZeros_0f7a4 {S : Nat → Bool} {m mm : Sg} {r : Int32} {a1 : Int32} (hm : f_J6_numberOfLeadingZeros_0f7a4  m a1 = some (r, mm)) : Fr S m mm := by
  unfold f_J6_numberOfLeadingZeros_0f7a4 at hm
  skip
  refine fr_if hm (fun hm => ?_) (fun hm => ?_)
  · skip
    skip
    skip
    skip
    refine g_jn (J := fun (s : Sg × Int32 × Int32) => Fr S s.1 mm) hm ?_ ?_
    · rintro ⟨m1, x2, x3⟩ hm
      (try dsimp only at hm)
      (try dsimp only)
      skip
      skip
      refine g_jn (J := fun (s : Sg × Int32 × Int32) => Fr S s.1 mm) hm ?_ ?_
      · rintro ⟨m5, x6, x7⟩ hm
        (try dsimp only at hm)
        (try dsimp only)
        skip
        skip
        refine g_jn (J := fun (s : Sg × Int32 × Int32) => Fr S s.1 mm) hm ?_ ?_
        · rintro ⟨m9, x10, x11⟩ hm
          (try dsimp only at hm)
          (try dsimp only)
          skip
          skip
          refine g_jn (J := fun (s : Sg × Int32 × Int32) => Fr S s.1 mm) hm ?_ ?_
          · rintro ⟨m13, x14, x15⟩ hm
            (try dsimp only at hm)
            (try dsimp only)
            skip
            skip
            skip
            skip
            skip
            exact fr_ret hm
          · intro k16 hk16 hm
            refine fr_if hm (fun hm => ?_) (fun hm => ?_)
            · exact hk16 _ hm
            · refine fr_b hm (fun x17 hm => ?_)
              skip
              skip
              skip
              refine fr_b hm (fun x18 hm => ?_)
              exact hk16 _ hm
        · intro k12 hk12 hm
          refine fr_if hm (fun hm => ?_) (fun hm => ?_)
          · exact hk12 _ hm
          · refine fr_b hm (fun x19 hm => ?_)
            skip
            skip
            skip
            refine fr_b hm (fun x20 hm => ?_)
            exact hk12 _ hm
      · intro k8 hk8 hm
        refine fr_if hm (fun hm => ?_) (fun hm => ?_)
        · exact hk8 _ hm
        · refine fr_b hm (fun x21 hm => ?_)
          skip
          skip
          skip
          refine fr_b hm (fun x22 hm => ?_)
          exact hk8 _ hm
    · intro k4 hk4 hm
      refine fr_if hm (fun hm => ?_) (fun hm => ?_)
      · exact hk4 _ hm
      · refine fr_b hm (fun x23 hm => ?_)
        skip
        skip
        skip
        refine fr_b hm (fun x24 hm => ?_)
        exact hk4 _ hm
  · skip
    refine fr_fi hm (fun hm => ?_) (fun hm => ?_)
    · skip
      exact fr_ret hm
    · skip
      skip
      exact fr_ret hm
set_option maxRecDepth 4000 in
theorem fr_J6_bitCount_0f7a4 {S : Nat → Bool} {m mm : Sg} {r : Int32} {a1 : Int32} (hm : f_J6_bitCount_0f7a4  m a1 = some (r, mm)) : Fr S m mm := by
  unfold f_J6_bitCount_0f7a4 at hm
  skip
  skip
  skip
  skip
  skip
  skip
  skip
  refine fr_b hm (fun x1 hm => ?_)
  skip
  skip
  skip
  skip
  skip
  skip
  skip
  skip
  skip
  refine fr_b hm (fun x2 hm => ?_)
  skip
  skip
  skip
  skip
  skip
  skip
  skip
  refine fr_b hm (fun x3 hm => ?_)
  skip
  skip
  skip
  skip
  skip
  refine fr_b hm (fun x4 hm => ?_)
  skip
  skip
  skip
  skip
  skip
  refine fr_b hm (fun x5 hm => ?_)
  skip
  skip
  skip
  exact fr_ret hm
set_option maxRecDepth 4000 in
theorem fr_X0_addChild {m mm : Sg} {j : Nat} {w : Nat} {n : Nat} {i : Nat} (h_j : SC j = true) (h_w : SC w = true) (hm : f_X0_addChild j w n m  = some mm) : Fr SC m mm := by
  unfold f_X0_addChild at hm
  skip
  skip
  skip
  skip
  refine fr_b hm (fun x1 hm => ?_)
  skip
  skip
  refine fr_if hm (fun hm => ?_) (fun hm => ?_)
  · exact fr_retv hm
  · skip
    skip
    skip
    refine fr_if hm (fun hm => ?_) (fun hm => ?_)
    · skip
      skip
      skip
      skip
      skip
      refine fr_n hm (fun hm => ?_)
      refine fr_calv hm (fun _ h => fr_X0_putKid (by first | rfl | assumption | (simp [SC]; done) | (simp [SC]; omega)) h) (fun m2 hm => ?_)
      skip
      skip
      skip
      skip
      skip
      refine fr_n hm (fun hm => ?_)
      refine fr_cal hm (fun _ _ h => fr_X0_fromBelow h) (fun x4 m3 hm => ?_)
      refine fr_calv hm (fun _ h => fr_X0_putKid (by first | rfl | assumption | (simp [SC]; done) | (simp [SC]; omega)) h) (fun m5 hm => ?_)
      skip
      skip
      skip
      skip
      skip
      refine fr_n hm (fun hm => ?_)
      skip
      refine g_jn (J := fun (s : Sg × Int32) => Fr SC s.1 mm) hm ?_ ?_
      · rintro ⟨m6, x7⟩ hm
        (try dsimp only at hm)
        (try dsimp only)
        refine fr_calv hm (fun _ h => fr_X0_putKid (by first | rfl | assumption | (simp [SC]; done) | (simp [SC]; omega)) h) (fun m9 hm => ?_)
        skip
        skip
        skip
        skip
        skip
        refine fr_n hm (fun hm => ?_)
        refine fr_calv hm (fun _ h => fr_X0_putKid (by first | rfl | assumption | (simp [SC]; done) | (simp [SC]; omega)) h) (fun m10 hm => ?_)
        skip
        skip
        skip
        skip
        skip
        refine fr_n hm (fun hm => ?_)
        refine fr_calv hm (fun _ h => fr_X0_putKid (by first | rfl | assumption | (simp [SC]; done) | (simp [SC]; omega)) h) (fun m11 hm => ?_)
        skip
        skip
        skip
        skip
        skip
        refine fr_n hm (fun hm => ?_)
        refine fr_calv hm (fun _ h => fr_X0_putKid (by first | rfl | assumption | (simp [SC]; done) | (simp [SC]; omega)) h) (fun m12 hm => ?_)
        skip
        skip
        skip
        skip
        refine fr_calv hm (fun _ h => fr_X0_putKid (by first | rfl | assumption | (simp [SC]; done) | (simp [SC]; omega)) h) (fun m13 hm => ?_)
        skip
        skip
        skip
        skip
        skip
        skip
        refine fr_wr hm (by first | rfl | assumption | (simp [SC]; done) | (simp [SC]; omega)) (fun m14 hm => ?_)
        exact fr_retv hm
      · intro k8 hk8 hm
        refine fr_if hm (fun hm => ?_) (fun hm => ?_)
        · skip
          exact hk8 _ hm
        · skip
          skip
          skip
          refine fr_n hm (fun hm => ?_)
          skip
          skip
          exact hk8 _ hm
    · exact fr_retv hm
set_option maxRecDepth 4000 in
theorem fr_X0_addElder {m mm : Sg} {j : Nat} {i : Nat} {a1 : Int32} {a2 : Int32} {a3 : Int32} (h_j : SC j = true) (hm : f_X0_addElder j m a1 a2 a3 = some mm) : Fr SC m mm := by
  unfold f_X0_addElder at hm
  skip
  skip
  skip
  skip
  refine fr_b hm (fun x1 hm => ?_)
  skip
  skip
  refine fr_if hm (fun hm => ?_) (fun hm => ?_)
  · skip
    skip
    skip
    skip
    refine fr_calv hm (fun _ h => fr_X0_putOld (by first | rfl | assumption | (simp [SC]; done) | (simp [SC]; omega)) h) (fun m2 hm => ?_)
    skip
    skip
    skip
    skip
    refine fr_calv hm (fun _ h => fr_X0_putOld (by first | rfl | assumption | (simp [SC]; done) | (simp [SC]; omega)) h) (fun m3 hm => ?_)
    skip
    skip
    skip
    skip
    refine fr_cal hm (fun _ _ h => fr_X0_fromBelow h) (fun x5 m4 hm => ?_)
    refine fr_calv hm (fun _ h => fr_X0_putOld (by first | rfl | assumption | (simp [SC]; done) | (simp [SC]; omega)) h) (fun m6 hm => ?_)
    skip
    skip
    skip
    skip
    skip
    skip
    refine fr_wr hm (by first | rfl | assumption | (simp [SC]; done) | (simp [SC]; omega)) (fun m7 hm => ?_)
    exact fr_retv hm
  · exact fr_retv hm
set_option maxRecDepth 4000 in
theorem fr_X0_trier {m mm : Sg} {r : Int32} {j : Nat} {i : Nat} (h_j : SC j = true) (hm : f_X0_trier j m  = some (r, mm)) : Fr SC m mm := by
  unfold f_X0_trier at hm
  skip
  skip
  refine fr_cal hm (fun _ _ h => fr_X0_trierWithout (by first | rfl | assumption | (simp [SC]; done) | (simp [SC]; omega)) h) (fun x2 m1 hm => ?_)
  exact fr_ret hm
set_option maxRecDepth 4000 in
theorem fr_X0_plumsToStand {m mm : Sg} {r : Int32} {j : Nat} {i : Nat} {a1 : Int32} {a2 : Int32} (h_j : SC j = true) (hm : f_X0_plumsToStand j m a1 a2 = some (r, mm)) : Fr SC m mm := by
  unfold f_X0_plumsToStand at hm
  skip
  skip
  skip
  skip
  skip
  skip
  skip
  refine fr_cal hm (fun _ _ h => fr_X0_wants (by first | rfl | assumption | (simp [SC]; done) | (simp [SC]; omega)) h) (fun x2 m1 hm => ?_)
  refine fr_cal hm (fun _ _ h => fr_J6_bitCount_0f7a4 h) (fun x4 m3 hm => ?_)
  skip
  exact fr_ret hm
set_option maxRecDepth 4000 in
theorem fr_X0_plumsToRule {m mm : Sg} {r : Int32} {j : Nat} {i : Nat} {a1 : Int32} {a2 : Int32} (h_j : SC j = true) (hm : f_X0_plumsToRule j m a1 a2 = some (r, mm)) : Fr SC m mm := by
  unfold f_X0_plumsToRule at hm
  skip
  skip
  skip
  skip
  skip
  refine fr_fi hm (fun hm => ?_) (fun hm => ?_)
  · skip
    skip
    skip
    refine fr_cal hm (fun _ _ h => fr_X0_plumsToStand (by first | rfl | assumption | (simp [SC]; done) | (simp [SC]; omega)) h) (fun x2 m1 hm => ?_)
    exact fr_ret hm
  · skip
    skip
    exact fr_ret hm
set_option maxRecDepth 4000 in
theorem fr_X0_monthsToStand {m mm : Sg} {r : Int32} {j : Nat} {i : Nat} {a1 : Int32} {a2 : Int32} (h_j : SC j = true) (hm : f_X0_monthsToStand j m a1 a2 = some (r, mm)) : Fr SC m mm := by
  unfold f_X0_monthsToStand at hm
  skip
  skip
  skip
  refine fr_cal hm (fun _ _ h => fr_X0_wants (by first | rfl | assumption | (simp [SC]; done) | (simp [SC]; omega)) h) (fun x2 m1 hm => ?_)
  skip
  skip
  refine fr_fi hm (fun hm => ?_) (fun hm => ?_)
  · skip
    skip
    skip
    refine fr_cal hm (fun _ _ h => fr_X0_kid (by first | rfl | assumption | (simp [SC]; done) | (simp [SC]; omega)) h) (fun x4 m3 hm => ?_)
    skip
    skip
    skip
    refine g_jn (J := fun (s : Sg × Int32) => Fr SC s.1 mm) hm ?_ ?_
    · rintro ⟨m5, x6⟩ hm
      (try dsimp only at hm)
      (try dsimp only)
      skip
      skip
      skip
      skip
      refine fr_cal hm (fun _ _ h => fr_X0_kid (by first | rfl | assumption | (simp [SC]; done) | (simp [SC]; omega)) h) (fun x9 m8 hm => ?_)
      skip
      skip
      skip
      refine fr_cal hm (fun _ _ h => fr_X0_kid (by first | rfl | assumption | (simp [SC]; done) | (simp [SC]; omega)) h) (fun x11 m10 hm => ?_)
      skip
      refine fr_cal hm (fun _ _ h => fr_J6_bitCount_0f7a4 h) (fun x13 m12 hm => ?_)
      skip
      skip
      exact fr_ret hm
    · intro k7 hk7 hm
      refine fr_fi hm (fun hm => ?_) (fun hm => ?_)
      · skip
        skip
        skip
        skip
        skip
        skip
        skip
        skip
        exact hk7 _ hm
      · skip
        skip
        skip
        exact hk7 _ hm
  · skip
    exact fr_ret hm
set_option maxRecDepth 4000 in
theorem fr_X0_beginMonth {m mm : Sg} {j : Nat} {i : Nat} (h_j : SC j = true) (hm : f_X0_beginMonth j m  = some mm) : Fr SC m mm := by
  unfold f_X0_beginMonth at hm
  skip
  skip
  skip
  skip
  skip
  skip
  refine fr_b hm (fun x1 hm => ?_)
  skip
  skip
  skip
  skip
  refine fr_wr hm (by first | rfl | assumption | (simp [SC]; done) | (simp [SC]; omega)) (fun m2 hm => ?_)
  skip
  skip
  refine g_lp (I := fun (s : Sg × Int32) => Fr SC s.1 mm) (E := fun (s : Sg) => Fr SC s mm) hm ?_ ?_
  · rintro m5 hm
    (try dsimp only at hm)
    (try dsimp only)
    skip
    skip
    refine g_lp (I := fun (s : Sg × Int32) => Fr SC s.1 mm) (E := fun (s : Sg) => Fr SC s mm) hm ?_ ?_
    · rintro m18 hm
      (try dsimp only at hm)
      (try dsimp only)
      exact fr_retv hm
    · rintro ⟨m16, x17⟩ o hm hx20 hi19
      (try dsimp only [f_X0_beginMonth_L70] at hm)
      (try dsimp only)
      skip
      skip
      skip
      skip
      skip
      refine fr_if hm (fun hm => ?_) (fun hm => ?_)
      · skip
        cases hm
        exact hx20 _ rfl
      · skip
        skip
        skip
        skip
        skip
        skip
        refine fr_cal hm (fun _ _ h => fr_X0_kid (by first | rfl | assumption | (simp [SC]; done) | (simp [SC]; omega)) h) (fun x22 m21 hm => ?_)
        skip
        skip
        refine fr_calv hm (fun _ h => fr_X0_putKid (by first | rfl | assumption | (simp [SC]; done) | (simp [SC]; omega)) h) (fun m23 hm => ?_)
        skip
        skip
        skip
        refine fr_cal hm (fun _ _ h => fr_X0_kid (by first | rfl | assumption | (simp [SC]; done) | (simp [SC]; omega)) h) (fun x25 m24 hm => ?_)
        skip
        refine g_jn (J := fun (s : Sg) => Fr SC s mm) hm ?_ ?_
        · intro m26 hm
          refine fr_b hm (fun x28 hm => ?_)
          skip
          cases hm
          exact hi19 _ rfl
        · intro k27 hk27 hm
          refine fr_if hm (fun hm => ?_) (fun hm => ?_)
          · exact hk27 _ hm
          · skip
            skip
            refine fr_calv hm (fun _ h => fr_X0_goOnWithLesson (by first | rfl | assumption | (simp [SC]; done) | (simp [SC]; omega)) h) (fun m29 hm => ?_)
            exact hk27 _ hm
  · rintro ⟨m3, x4⟩ o hm hx7 hi6
    (try dsimp only [f_X0_beginMonth_L20] at hm)
    (try dsimp only)
    skip
    skip
    skip
    skip
    skip
    refine fr_if hm (fun hm => ?_) (fun hm => ?_)
    · skip
      cases hm
      exact hx7 _ rfl
    · skip
      skip
      skip
      refine fr_cal hm (fun _ _ h => fr_X0_old (by first | rfl | assumption | (simp [SC]; done) | (simp [SC]; omega)) h) (fun x9 m8 hm => ?_)
      skip
      skip
      refine g_jn (J := fun (s : Sg) => Fr SC s mm) hm ?_ ?_
      · intro m10 hm
        refine fr_b hm (fun x12 hm => ?_)
        skip
        cases hm
        exact hi6 _ rfl
      · intro k11 hk11 hm
        refine fr_if hm (fun hm => ?_) (fun hm => ?_)
        · skip
          exact hk11 _ hm
        · skip
          skip
          refine fr_n hm (fun hm => ?_)
          refine fr_fi hm (fun hm => ?_) (fun hm => ?_)
          · skip
            exact hk11 _ hm
          · skip
            skip
            skip
            skip
            skip
            skip
            refine fr_cal hm (fun _ _ h => fr_X0_old (by first | rfl | assumption | (simp [SC]; done) | (simp [SC]; omega)) h) (fun x14 m13 hm => ?_)
            skip
            skip
            refine fr_calv hm (fun _ h => fr_X0_putOld (by first | rfl | assumption | (simp [SC]; done) | (simp [SC]; omega)) h) (fun m15 hm => ?_)
            skip
            exact hk11 _ hm
set_option maxRecDepth 4000 in
theorem fr_J6_highestOneBit_0f7a4 {S : Nat → Bool} {m mm : Sg} {r : Int32} {a1 : Int32} (hm : f_J6_highestOneBit_0f7a4  m a1 = some (r, mm)) : Fr S m mm := by
  unfold f_J6_highestOneBit_0f7a4 at hm
  skip
  skip
  skip
  refine fr_cal hm (fun _ _ h => fr_J6_numberOfLeadingZeros_0f7a4 h) (fun x2 m1 hm => ?_)
  skip
  skip
  exact fr_ret hm
set_option maxRecDepth 4000 in
theorem fr_J3_checkIndex_8e157 {S : Nat → Bool} {m mm : Sg} {r : Int32} {a1 : Int32} {a2 : Int32} {tt : Nat} (hm : f_J3_checkIndex_8e157  m a1 a2 = some (r, mm)) : Fr S m mm := by
  unfold f_J3_checkIndex_8e157 at hm
  skip
  refine g_jn (J := fun (s : Sg) => Fr S s mm) hm ?_ ?_
  · intro m1 hm
    cases hm
  · intro k2 hk2 hm
    refine fr_if hm (fun hm => ?_) (fun hm => ?_)
    · exact hk2 _ hm
    · skip
      skip
      refine fr_if hm (fun hm => ?_) (fun hm => ?_)
      · skip
        exact fr_ret hm
      · exact hk2 _ hm
set_option maxRecDepth 4000 in
theorem fr_J1_canEncode_9a6ad {S : Nat → Bool} {m mm : Sg} {r : Int32} {a1 : Int32} (hm : f_J1_canEncode_9a6ad  m a1 = some (r, mm)) : Fr S m mm := by
  unfold f_J1_canEncode_9a6ad at hm
  skip
  refine fr_if hm (fun hm => ?_) (fun hm => ?_)
  · skip
    exact fr_ret hm
  · skip
    skip
    refine fr_if hm (fun hm => ?_) (fun hm => ?_)
    · skip
      exact fr_ret hm
    · skip
      skip
      exact fr_ret hm
set_option maxRecDepth 4000 in
theorem fr_J1_indexOfChar_4cfef {S : Nat → Bool} {m mm : Sg} {r : Int32} {k : Nat} {a1 : Int32} {a2 : Int32} {a3 : Int32} (hm : f_J1_indexOfChar_4cfef k m a1 a2 a3 = some (r, mm)) : Fr S m mm := by
  unfold f_J1_indexOfChar_4cfef at hm
  skip
  skip
  refine fr_b hm (fun x1 hm => ?_)
  skip
  skip
  skip
  refine g_lp (I := fun (s : Sg × Int32) => Fr S s.1 mm) (E := fun (x : (Sg × Int32) ⊕ (Sg)) => match x with | .inl (m4, x5) => Fr S m4 mm | .inr m6 => Fr S m6 mm) hm ?_ ?_
  · rintro (⟨m4, x5⟩ | m6) hm
    · (try dsimp only at hm)
      (try dsimp only)
      skip
      exact fr_ret hm
    · (try dsimp only at hm)
      (try dsimp only)
      skip
      exact fr_ret hm
  · rintro ⟨m2, x3⟩ o hm hx8 hi7
    (try dsimp only [f_J1_indexOfChar_4cfef_L7] at hm)
    (try dsimp only)
    skip
    skip
    refine fr_if hm (fun hm => ?_) (fun hm => ?_)
    · skip
      cases hm
      exact hx8 _ rfl
    · skip
      skip
      refine fr_n hm (fun hm => ?_)
      skip
      refine fr_fi hm (fun hm => ?_) (fun hm => ?_)
      · refine fr_b hm (fun x9 hm => ?_)
        skip
        cases hm
        exact hi7 _ rfl
      · skip
        cases hm
        exact hx8 _ rfl
set_option maxRecDepth 4000 in
theorem fr_J0_coder_7d493 {S : Nat → Bool} {m mm : Sg} {r : Int32} {k : Nat} (hm : f_J0_coder_7d493 k m  = some (r, mm)) : Fr S m mm := by
  unfold f_J0_coder_7d493 at hm
  skip
  skip
  skip
  skip
  skip
  exact fr_ret hm
set_option maxRecDepth 4000 in
theorem fr_J0_isLatin1_aae02 {S : Nat → Bool} {m mm : Sg} {r : Int32} {k : Nat} (hm : f_J0_isLatin1_aae02 k m  = some (r, mm)) : Fr S m mm := by
  unfold f_J0_isLatin1_aae02 at hm
  skip
  skip
  skip
  skip
  skip
  skip
  skip
  exact fr_ret hm
set_option maxRecDepth 4000 in
theorem fr_J0_checkIndex_df160 {S : Nat → Bool} {m mm : Sg} {a1 : Int32} {a2 : Int32} (hm : f_J0_checkIndex_df160  m a1 a2 = some mm) : Fr S m mm := by
  unfold f_J0_checkIndex_df160 at hm
  skip
  skip
  refine fr_two ?_ (fun tt => ?_)
  · refine fr_cal hm (fun _ _ h => fr_J3_checkIndex_8e157 h) (fun x2 m1 hm => ?_)
    skip
    exact fr_retv hm
  · refine fr_cal hm (fun _ _ h => fr_J3_checkIndex_8e157 h) (fun x2 m1 hm => ?_)
    skip
    exact fr_retv hm
set_option maxRecDepth 4000 in
theorem fr_J1_charAt_3b067 {S : Nat → Bool} {m mm : Sg} {r : Int32} {k : Nat} {a1 : Int32} (hm : f_J1_charAt_3b067 k m a1 = some (r, mm)) : Fr S m mm := by
  unfold f_J1_charAt_3b067 at hm
  skip
  skip
  skip
  refine fr_calv hm (fun _ h => fr_J0_checkIndex_df160 h) (fun m1 hm => ?_)
  skip
  skip
  refine fr_n hm (fun hm => ?_)
  skip
  skip
  skip
  exact fr_retz hm
set_option maxRecDepth 4000 in
theorem fr_J1_indexOf_4cfef {S : Nat → Bool} {m mm : Sg} {r : Int32} {k : Nat} {a1 : Int32} {a2 : Int32} {a3 : Int32} (hm : f_J1_indexOf_4cfef k m a1 a2 a3 = some (r, mm)) : Fr S m mm := by
  unfold f_J1_indexOf_4cfef at hm
  skip
  refine fr_cal hm (fun _ _ h => fr_J1_canEncode_9a6ad h) (fun x2 m1 hm => ?_)
  refine fr_fi hm (fun hm => ?_) (fun hm => ?_)
  · skip
    skip
    skip
    refine fr_b hm (fun x3 hm => ?_)
    skip
    skip
    skip
    skip
    refine fr_b hm (fun x4 hm => ?_)
    skip
    skip
    refine fr_if hm (fun hm => ?_) (fun hm => ?_)
    · skip
      skip
      skip
      skip
      refine fr_cal hm (fun _ _ h => fr_J1_indexOfChar_4cfef h) (fun x6 m5 hm => ?_)
      exact fr_ret hm
    · skip
      exact fr_ret hm
  · skip
    exact fr_ret hm
set_option maxRecDepth 4000 in
theorem fr_J0_length_8abf5 {S : Nat → Bool} {m mm : Sg} {r : Int32} {k : Nat} (hm : f_J0_length_8abf5 k m  = some (r, mm)) : Fr S m mm := by
  unfold f_J0_length_8abf5 at hm
  skip
  skip
  skip
  skip
  refine fr_cal hm (fun _ _ h => fr_J0_coder_7d493 h) (fun x2 m1 hm => ?_)
  skip
  exact fr_ret hm
set_option maxRecDepth 4000 in
theorem fr_J0_charAt_5068e {S : Nat → Bool} {m mm : Sg} {r : Int32} {k : Nat} {a1 : Int32} (hm : f_J0_charAt_5068e k m a1 = some (r, mm)) : Fr S m mm := by
  unfold f_J0_charAt_5068e at hm
  skip
  refine fr_cal hm (fun _ _ h => fr_J0_isLatin1_aae02 h) (fun x2 m1 hm => ?_)
  refine fr_if hm (fun hm => ?_) (fun hm => ?_)
  · cases hm
  · skip
    skip
    skip
    refine fr_cal hm (fun _ _ h => fr_J1_charAt_3b067 h) (fun x4 m3 hm => ?_)
    exact fr_retz hm
set_option maxRecDepth 4000 in
theorem fr_J0_indexOf_7cf53 {S : Nat → Bool} {m mm : Sg} {r : Int32} {k : Nat} {a1 : Int32} {a2 : Int32} (hm : f_J0_indexOf_7cf53 k m a1 a2 = some (r, mm)) : Fr S m mm := by
  unfold f_J0_indexOf_7cf53 at hm
  skip
  refine fr_cal hm (fun _ _ h => fr_J0_isLatin1_aae02 h) (fun x2 m1 hm => ?_)
  refine fr_if hm (fun hm => ?_) (fun hm => ?_)
  · skip
    skip
    skip
    skip
    skip
    refine fr_cal hm (fun _ _ h => fr_J0_length_8abf5 h) (fun x4 m3 hm => ?_)
    cases hm
  · skip
    skip
    skip
    skip
    skip
    refine fr_cal hm (fun _ _ h => fr_J0_length_8abf5 h) (fun x6 m5 hm => ?_)
    refine fr_cal hm (fun _ _ h => fr_J1_indexOf_4cfef h) (fun x8 m7 hm => ?_)
    skip
    exact fr_ret hm
set_option maxRecDepth 4000 in
theorem fr_J0_indexOf_0f7a4 {S : Nat → Bool} {m mm : Sg} {r : Int32} {k : Nat} {a1 : Int32} (hm : f_J0_indexOf_0f7a4 k m a1 = some (r, mm)) : Fr S m mm := by
  unfold f_J0_indexOf_0f7a4 at hm
  skip
  skip
  skip
  refine fr_cal hm (fun _ _ h => fr_J0_indexOf_7cf53 h) (fun x2 m1 hm => ?_)
  exact fr_ret hm
set_option maxRecDepth 4000 in
theorem fr_X9_filled {m mm : Sg} {r : Int32} {a1 : Int32} (hm : f_X9_filled  m a1 = some (r, mm)) : Fr SC m mm := by
  unfold f_X9_filled at hm
  skip
  skip
  skip
  skip
  refine g_lp (I := fun (s : Sg × Int32 × Int32) => Fr SC s.1 mm) (E := fun (s : Sg × Int32) => Fr SC s.1 mm) hm ?_ ?_
  · rintro ⟨m4, x5⟩ hm
    (try dsimp only at hm)
    (try dsimp only)
    skip
    exact fr_ret hm
  · rintro ⟨m1, x2, x3⟩ o hm hx7 hi6
    (try dsimp only [f_X9_filled_L5] at hm)
    (try dsimp only)
    skip
    refine fr_if hm (fun hm => ?_) (fun hm => ?_)
    · skip
      cases hm
      exact hx7 _ rfl
    · skip
      skip
      skip
      skip
      skip
      refine g_jn (J := fun (s : Sg × Int32) => Fr SC s.1 mm) hm ?_ ?_
      · rintro ⟨m8, x9⟩ hm
        (try dsimp only at hm)
        (try dsimp only)
        refine fr_b hm (fun x11 hm => ?_)
        skip
        cases hm
        exact hi6 _ rfl
      · intro k10 hk10 hm
        refine fr_if hm (fun hm => ?_) (fun hm => ?_)
        · exact hk10 _ hm
        · refine fr_b hm (fun x12 hm => ?_)
          exact hk10 _ hm
set_option maxRecDepth 4000 in
theorem fr_X9_add {m mm : Sg} {a1 : Int32} (hm : f_X9_add  m a1 = some mm) : Fr SC m mm := by
  unfold f_X9_add at hm
  skip
  skip
  refine g_lp (I := fun (s : Sg × Int32) => Fr SC s.1 mm) (E := fun (s : Sg) => Fr SC s mm) hm ?_ ?_
  · rintro m3 hm
    (try dsimp only at hm)
    (try dsimp only)
    exact fr_retv hm
  · rintro ⟨m1, x2⟩ o hm hx5 hi4
    (try dsimp only [f_X9_add_L3] at hm)
    (try dsimp only)
    skip
    refine fr_if hm (fun hm => ?_) (fun hm => ?_)
    · skip
      cases hm
      exact hx5 _ rfl
    · skip
      skip
      skip
      skip
      skip
      refine fr_b hm (fun x6 hm => ?_)
      skip
      refine g_jn (J := fun (s : Sg) => Fr SC s mm) hm ?_ ?_
      · intro m7 hm
        refine fr_b hm (fun x9 hm => ?_)
        skip
        cases hm
        exact hi4 _ rfl
      · intro k8 hk8 hm
        refine fr_if hm (fun hm => ?_) (fun hm => ?_)
        · skip
          exact hk8 _ hm
        · skip
          skip
          skip
          skip
          skip
          refine fr_if hm (fun hm => ?_) (fun hm => ?_)
          · skip
            exact hk8 _ hm
          · skip
            skip
            skip
            skip
            skip
            refine fr_st hm (by first | rfl | assumption | (simp [SC]; done) | (simp [SC]; omega)) (fun m10 hm => ?_)
            skip
            skip
            skip
            skip
            skip
            refine fr_wr hm (by first | rfl | assumption | (simp [SC]; done) | (simp [SC]; omega)) (fun m11 hm => ?_)
            skip
            exact hk8 _ hm
set_option maxRecDepth 4000 in
theorem fr_X9_cut {m mm : Sg} {a1 : Int32} (hm : f_X9_cut  m a1 = some mm) : Fr SC m mm := by
  unfold f_X9_cut at hm
  skip
  skip
  refine fr_wr hm (by first | rfl | assumption | (simp [SC]; done) | (simp [SC]; omega)) (fun m1 hm => ?_)
  exact fr_retv hm
set_option maxRecDepth 4000 in
theorem fr_X9_size {m mm : Sg} {r : Int32} (hm : f_X9_size  m  = some (r, mm)) : Fr SC m mm := by
  unfold f_X9_size at hm
  skip
  skip
  exact fr_ret hm
set_option maxRecDepth 4000 in
theorem fr_X9_at {m mm : Sg} {r : Int32} {a1 : Int32} (hm : f_X9_at  m a1 = some (r, mm)) : Fr SC m mm := by
  unfold f_X9_at at hm
  skip
  refine fr_if hm (fun hm => ?_) (fun hm => ?_)
  · skip
    exact fr_ret hm
  · skip
    skip
    skip
    refine fr_if hm (fun hm => ?_) (fun hm => ?_)
    · skip
      exact fr_ret hm
    · skip
      skip
      skip
      skip
      refine fr_if hm (fun hm => ?_) (fun hm => ?_)
      · skip
        exact fr_ret hm
      · skip
        skip
        skip
        refine fr_n hm (fun hm => ?_)
        skip
        exact fr_ret hm
set_option maxRecDepth 4000 in
theorem fr_X2_begin {m mm : Sg} {i : Nat} (h_i : SC i = true) (hm : f_X2_begin i m  = some mm) : Fr SC m mm := by
  unfold f_X2_begin at hm
  skip
  skip
  refine fr_wr hm (by first | rfl | assumption | (simp [SC]; done) | (simp [SC]; omega)) (fun m1 hm => ?_)
  skip
  skip
  refine fr_wr hm (by first | rfl | assumption | (simp [SC]; done) | (simp [SC]; omega)) (fun m2 hm => ?_)
  exact fr_retv hm
set_option maxRecDepth 4000 in
theorem fr_X2_wrongAt {m mm : Sg} {r : Int32} {i : Nat} (h_i : SC i = true) (hm : f_X2_wrongAt i m  = some (r, mm)) : Fr SC m mm := by
  unfold f_X2_wrongAt at hm
  skip
  skip
  exact fr_ret hm
set_option maxRecDepth 4000 in
theorem fr_X2_hasFailed {m mm : Sg} {r : Int32} {i : Nat} (h_i : SC i = true) (hm : f_X2_hasFailed i m  = some (r, mm)) : Fr SC m mm := by
  unfold f_X2_hasFailed at hm
  skip
  skip
  skip
  refine fr_if hm (fun hm => ?_) (fun hm => ?_)
  · skip
    exact fr_ret hm
  · skip
    skip
    exact fr_ret hm
set_option maxRecDepth 4000 in
theorem fr_X2_failAt {m mm : Sg} {i : Nat} {a1 : Int32} (h_i : SC i = true) (hm : f_X2_failAt i m a1 = some mm) : Fr SC m mm := by
  unfold f_X2_failAt at hm
  skip
  skip
  skip
  refine fr_fi hm (fun hm => ?_) (fun hm => ?_)
  · exact fr_retv hm
  · skip
    skip
    refine fr_wr hm (by first | rfl | assumption | (simp [SC]; done) | (simp [SC]; omega)) (fun m1 hm => ?_)
    exact fr_retv hm
set_option maxRecDepth 4000 in
theorem fr_X2_fail {m mm : Sg} {i : Nat} (h_i : SC i = true) (hm : f_X2_fail i m  = some mm) : Fr SC m mm := by
  unfold f_X2_fail at hm
  skip
  skip
  skip
  refine fr_calv hm (fun _ h => fr_X2_failAt (by first | rfl | assumption | (simp [SC]; done) | (simp [SC]; omega)) h) (fun m1 hm => ?_)
  exact fr_retv hm
set_option maxRecDepth 4000 in
theorem fr_X2_failAtLastDigit {m mm : Sg} {i : Nat} (h_i : SC i = true) (hm : f_X2_failAtLastDigit i m  = some mm) : Fr SC m mm := by
  unfold f_X2_failAtLastDigit at hm
  skip
  skip
  skip
  skip
  skip
  refine fr_calv hm (fun _ h => fr_X2_failAt (by first | rfl | assumption | (simp [SC]; done) | (simp [SC]; omega)) h) (fun m1 hm => ?_)
  exact fr_retv hm
set_option maxRecDepth 4000 in
theorem fr_X2_peek {m mm : Sg} {r : Int32} {i : Nat} (h_i : SC i = true) (hm : f_X2_peek i m  = some (r, mm)) : Fr SC m mm := by
  unfold f_X2_peek at hm
  skip
  refine fr_cal hm (fun _ _ h => fr_X2_hasFailed (by first | rfl | assumption | (simp [SC]; done) | (simp [SC]; omega)) h) (fun x2 m1 hm => ?_)
  refine fr_if hm (fun hm => ?_) (fun hm => ?_)
  · refine g_lp (I := fun (s : Sg) => Fr SC s mm) (E := fun (s : Sg) => Fr SC s mm) hm ?_ ?_
    · rintro m4 hm
      (try dsimp only at hm)
      (try dsimp only)
      skip
      skip
      skip
      skip
      refine fr_cal hm (fun _ _ h => fr_X9_at h) (fun x13 m12 hm => ?_)
      exact fr_ret hm
    · rintro m3 o hm hx6 hi5
      (try dsimp only [f_X2_peek_L9] at hm)
      (try dsimp only)
      skip
      skip
      skip
      skip
      refine fr_cal hm (fun _ _ h => fr_X9_size h) (fun x8 m7 hm => ?_)
      refine fr_if hm (fun hm => ?_) (fun hm => ?_)
      · cases hm
        exact hx6 _ rfl
      · skip
        skip
        skip
        skip
        refine fr_cal hm (fun _ _ h => fr_X9_at h) (fun x10 m9 hm => ?_)
        skip
        refine fr_fi hm (fun hm => ?_) (fun hm => ?_)
        · cases hm
          exact hx6 _ rfl
        · skip
          skip
          skip
          skip
          skip
          refine fr_wr hm (by first | rfl | assumption | (simp [SC]; done) | (simp [SC]; omega)) (fun m11 hm => ?_)
          skip
          cases hm
          exact hi5 _ rfl
  · skip
    exact fr_ret hm
set_option maxRecDepth 4000 in
theorem fr_X2_step {m mm : Sg} {i : Nat} (h_i : SC i = true) (hm : f_X2_step i m  = some mm) : Fr SC m mm := by
  unfold f_X2_step at hm
  skip
  skip
  skip
  skip
  skip
  refine fr_wr hm (by first | rfl | assumption | (simp [SC]; done) | (simp [SC]; omega)) (fun m1 hm => ?_)
  exact fr_retv hm
set_option maxRecDepth 4000 in
theorem fr_X2_takes {m mm : Sg} {r : Int32} {i : Nat} {a1 : Int32} (h_i : SC i = true) (hm : f_X2_takes i m a1 = some (r, mm)) : Fr SC m mm := by
  unfold f_X2_takes at hm
  skip
  refine fr_cal hm (fun _ _ h => fr_X2_peek (by first | rfl | assumption | (simp [SC]; done) | (simp [SC]; omega)) h) (fun x2 m1 hm => ?_)
  skip
  refine fr_if hm (fun hm => ?_) (fun hm => ?_)
  · skip
    refine fr_calv hm (fun _ h => fr_X2_step (by first | rfl | assumption | (simp [SC]; done) | (simp [SC]; omega)) h) (fun m3 hm => ?_)
    skip
    exact fr_ret hm
  · skip
    exact fr_ret hm
set_option maxRecDepth 4000 in
theorem fr_X2_needs {m mm : Sg} {i : Nat} {a1 : Int32} (h_i : SC i = true) (hm : f_X2_needs i m a1 = some mm) : Fr SC m mm := by
  unfold f_X2_needs at hm
  skip
  refine fr_cal hm (fun _ _ h => fr_X2_peek (by first | rfl | assumption | (simp [SC]; done) | (simp [SC]; omega)) h) (fun x2 m1 hm => ?_)
  skip
  refine fr_fi hm (fun hm => ?_) (fun hm => ?_)
  · skip
    refine fr_calv hm (fun _ h => fr_X2_fail (by first | rfl | assumption | (simp [SC]; done) | (simp [SC]; omega)) h) (fun m3 hm => ?_)
    exact fr_retv hm
  · skip
    refine fr_calv hm (fun _ h => fr_X2_step (by first | rfl | assumption | (simp [SC]; done) | (simp [SC]; omega)) h) (fun m4 hm => ?_)
    skip
    exact fr_retv hm
set_option maxRecDepth 4000 in
theorem fr_X2_needsEnd {m mm : Sg} {i : Nat} (h_i : SC i = true) (hm : f_X2_needsEnd i m  = some mm) : Fr SC m mm := by
  unfold f_X2_needsEnd at hm
  skip
  refine fr_cal hm (fun _ _ h => fr_X2_peek (by first | rfl | assumption | (simp [SC]; done) | (simp [SC]; omega)) h) (fun x2 m1 hm => ?_)
  skip
  refine fr_if hm (fun hm => ?_) (fun hm => ?_)
  · exact fr_retv hm
  · skip
    refine fr_calv hm (fun _ h => fr_X2_fail (by first | rfl | assumption | (simp [SC]; done) | (simp [SC]; omega)) h) (fun m3 hm => ?_)
    exact fr_retv hm
set_option maxRecDepth 4000 in
theorem fr_X2_isDigit {m mm : Sg} {r : Int32} {a1 : Int32} (hm : f_X2_isDigit  m a1 = some (r, mm)) : Fr SC m mm := by
  unfold f_X2_isDigit at hm
  skip
  skip
  refine fr_if hm (fun hm => ?_) (fun hm => ?_)
  · skip
    exact fr_ret hm
  · skip
    skip
    refine fr_if hm (fun hm => ?_) (fun hm => ?_)
    · skip
      exact fr_ret hm
    · skip
      skip
      exact fr_ret hm
set_option maxRecDepth 4000 in
theorem fr_X2_number {m mm : Sg} {r : Int32} {i : Nat} {a1 : Int32} (h_i : SC i = true) (hm : f_X2_number i m a1 = some (r, mm)) : Fr SC m mm := by
  unfold f_X2_number at hm
  skip
  refine fr_cal hm (fun _ _ h => fr_X2_peek (by first | rfl | assumption | (simp [SC]; done) | (simp [SC]; omega)) h) (fun x2 m1 hm => ?_)
  refine fr_cal hm (fun _ _ h => fr_X2_isDigit h) (fun x4 m3 hm => ?_)
  refine fr_fi hm (fun hm => ?_) (fun hm => ?_)
  · skip
    skip
    skip
    skip
    refine g_lp (I := fun (s : Sg × Int32 × Int32) => Fr SC s.1 mm) (E := fun (s : Sg × Int32) => Fr SC s.1 mm) hm ?_ ?_
    · rintro ⟨m8, x9⟩ hm
      (try dsimp only at hm)
      (try dsimp only)
      skip
      skip
      skip
      skip
      refine fr_cal hm (fun _ _ h => fr_X9_at h) (fun x22 m21 hm => ?_)
      refine fr_cal hm (fun _ _ h => fr_X2_isDigit h) (fun x24 m23 hm => ?_)
      refine fr_if hm (fun hm => ?_) (fun hm => ?_)
      · skip
        exact fr_ret hm
      · skip
        refine fr_calv hm (fun _ h => fr_X2_fail (by first | rfl | assumption | (simp [SC]; done) | (simp [SC]; omega)) h) (fun m25 hm => ?_)
        skip
        exact fr_ret hm
    · rintro ⟨m5, x6, x7⟩ o hm hx11 hi10
      (try dsimp only [f_X2_number_L20] at hm)
      (try dsimp only)
      skip
      skip
      refine fr_if hm (fun hm => ?_) (fun hm => ?_)
      · skip
        cases hm
        exact hx11 _ rfl
      · skip
        skip
        skip
        skip
        refine fr_cal hm (fun _ _ h => fr_X9_at h) (fun x13 m12 hm => ?_)
        refine fr_cal hm (fun _ _ h => fr_X2_isDigit h) (fun x15 m14 hm => ?_)
        refine fr_if hm (fun hm => ?_) (fun hm => ?_)
        · skip
          cases hm
          exact hx11 _ rfl
        · skip
          skip
          skip
          skip
          skip
          skip
          skip
          refine fr_cal hm (fun _ _ h => fr_X9_at h) (fun x17 m16 hm => ?_)
          skip
          skip
          skip
          refine fr_b hm (fun x18 hm => ?_)
          skip
          skip
          skip
          skip
          skip
          refine fr_wr hm (by first | rfl | assumption | (simp [SC]; done) | (simp [SC]; omega)) (fun m19 hm => ?_)
          refine fr_b hm (fun x20 hm => ?_)
          skip
          cases hm
          exact hi10 _ rfl
  · skip
    refine fr_calv hm (fun _ h => fr_X2_fail (by first | rfl | assumption | (simp [SC]; done) | (simp [SC]; omega)) h) (fun m26 hm => ?_)
    skip
    exact fr_ret hm
set_option maxRecDepth 4000 in
theorem fr_X7_forgetAll {m mm : Sg} (hm : f_X7_forgetAll  m  = some mm) : Fr SC m mm := by
  unfold f_X7_forgetAll at hm
  skip
  skip
  refine fr_wr hm (by first | rfl | assumption | (simp [SC]; done) | (simp [SC]; omega)) (fun m1 hm => ?_)
  skip
  skip
  refine fr_wr hm (by first | rfl | assumption | (simp [SC]; done) | (simp [SC]; omega)) (fun m2 hm => ?_)
  exact fr_retv hm
set_option maxRecDepth 4000 in
theorem fr_X7_acts {m mm : Sg} {r : Int32} (hm : f_X7_acts  m  = some (r, mm)) : Fr SC m mm := by
  unfold f_X7_acts at hm
  skip
  skip
  exact fr_ret hm
set_option maxRecDepth 4000 in
theorem fr_X7_remember {m mm : Sg} (hm : f_X7_remember  m  = some mm) : Fr SC m mm := by
  unfold f_X7_remember at hm
  skip
  skip
  skip
  skip
  skip
  skip
  skip
  refine fr_calv hm (fun _ h => fr_X0_copyTo (by first | rfl | assumption | (simp [SC]; done) | (simp [SC]; omega)) (by first | rfl | assumption | (simp [SC]; done) | (simp [SC]; omega)) h) (fun m1 hm => ?_)
  skip
  skip
  skip
  skip
  skip
  skip
  skip
  refine fr_wr hm (by first | rfl | assumption | (simp [SC]; done) | (simp [SC]; omega)) (fun m2 hm => ?_)
  skip
  skip
  skip
  skip
  skip
  skip
  skip
  refine fr_wr hm (by first | rfl | assumption | (simp [SC]; done) | (simp [SC]; omega)) (fun m3 hm => ?_)
  exact fr_retv hm
set_option maxRecDepth 4000 in
theorem fr_X7_recall {m mm : Sg} (hm : f_X7_recall  m  = some mm) : Fr SC m mm := by
  unfold f_X7_recall at hm
  skip
  skip
  skip
  skip
  skip
  skip
  skip
  skip
  skip
  refine fr_wr hm (by first | rfl | assumption | (simp [SC]; done) | (simp [SC]; omega)) (fun m1 hm => ?_)
  skip
  skip
  skip
  skip
  skip
  refine fr_wr hm (by first | rfl | assumption | (simp [SC]; done) | (simp [SC]; omega)) (fun m2 hm => ?_)
  skip
  skip
  skip
  skip
  skip
  skip
  skip
  refine fr_calv hm (fun _ h => fr_X0_copyFrom (by first | rfl | assumption | (simp [SC]; done) | (simp [SC]; omega)) (by first | rfl | assumption | (simp [SC]; done) | (simp [SC]; omega)) h) (fun m3 hm => ?_)
  exact fr_retv hm
set_option maxRecDepth 4000 in
theorem fr_X7_logLength {m mm : Sg} {r : Int32} (hm : f_X7_logLength  m  = some (r, mm)) : Fr SC m mm := by
  unfold f_X7_logLength at hm
  skip
  skip
  refine fr_cal hm (fun _ _ h => fr_X0_cell (by first | rfl | assumption | (simp [SC]; done) | (simp [SC]; omega)) h) (fun x2 m1 hm => ?_)
  skip
  skip
  exact fr_ret hm
set_option maxRecDepth 4000 in
theorem fr_X7_rowOf {m mm : Sg} {r : Int32} {a1 : Int32} (hm : f_X7_rowOf  m a1 = some (r, mm)) : Fr SC m mm := by
  unfold f_X7_rowOf at hm
  skip
  skip
  skip
  skip
  skip
  exact fr_ret hm
set_option maxRecDepth 4000 in
theorem fr_X7_paint {m mm : Sg} (hm : f_X7_paint  m  = some mm) : Fr SC m mm := by
  unfold f_X7_paint at hm
  skip
  skip
  skip
  skip
  refine fr_calv hm (fun _ h => fr_X0_copyTo (by first | rfl | assumption | (simp [SC]; done) | (simp [SC]; omega)) (by first | rfl | assumption | (simp [SC]; done) | (simp [SC]; omega)) h) (fun m1 hm => ?_)
  skip
  skip
  skip
  skip
  skip
  skip
  skip
  refine fr_cp hm (by first | rfl | assumption | (simp [SC]; done) | (simp [SC]; omega)) (fun m2 hm => ?_)
  skip
  skip
  refine fr_wr hm (by first | rfl | assumption | (simp [SC]; done) | (simp [SC]; omega)) (fun m3 hm => ?_)
  exact fr_retv hm
set_option maxRecDepth 4000 in
theorem fr_X7_hasImage {m mm : Sg} {r : Int32} (hm : f_X7_hasImage  m  = some (r, mm)) : Fr SC m mm := by
  unfold f_X7_hasImage at hm
  skip
  skip
  exact fr_retz hm
set_option maxRecDepth 4000 in
theorem fr_X7_restore {m mm : Sg} (hm : f_X7_restore  m  = some mm) : Fr SC m mm := by
  unfold f_X7_restore at hm
  skip
  skip
  skip
  skip
  refine fr_calv hm (fun _ h => fr_X0_copyFrom (by first | rfl | assumption | (simp [SC]; done) | (simp [SC]; omega)) (by first | rfl | assumption | (simp [SC]; done) | (simp [SC]; omega)) h) (fun m1 hm => ?_)
  skip
  skip
  skip
  skip
  skip
  skip
  skip
  refine fr_cp hm (by first | rfl | assumption | (simp [SC]; done) | (simp [SC]; omega)) (fun m2 hm => ?_)
  skip
  skip
  refine fr_wr hm (by first | rfl | assumption | (simp [SC]; done) | (simp [SC]; omega)) (fun m3 hm => ?_)
  exact fr_retv hm
set_option maxRecDepth 4000 in
theorem fr_X7_write {m mm : Sg} {a1 : Int32} {a2 : Int32} (hm : f_X7_write  m a1 a2 = some mm) : Fr SC m mm := by
  unfold f_X7_write at hm
  skip
  skip
  refine fr_cal hm (fun _ _ h => fr_X0_cell (by first | rfl | assumption | (simp [SC]; done) | (simp [SC]; omega)) h) (fun x2 m1 hm => ?_)
  refine fr_cal hm (fun _ _ h => fr_X7_rowOf h) (fun x4 m3 hm => ?_)
  skip
  skip
  refine fr_if hm (fun hm => ?_) (fun hm => ?_)
  · exact fr_retv hm
  · skip
    skip
    skip
    skip
    skip
    skip
    refine fr_if hm (fun hm => ?_) (fun hm => ?_)
    · exact fr_retv hm
    · skip
      skip
      skip
      skip
      refine fr_cal hm (fun _ _ h => fr_X0_ruler (by first | rfl | assumption | (simp [SC]; done) | (simp [SC]; omega)) h) (fun x6 m5 hm => ?_)
      refine fr_st hm (by first | rfl | assumption | (simp [SC]; done) | (simp [SC]; omega)) (fun m7 hm => ?_)
      skip
      skip
      skip
      skip
      skip
      skip
      refine fr_st hm (by first | rfl | assumption | (simp [SC]; done) | (simp [SC]; omega)) (fun m8 hm => ?_)
      skip
      skip
      skip
      skip
      skip
      skip
      refine fr_st hm (by first | rfl | assumption | (simp [SC]; done) | (simp [SC]; omega)) (fun m9 hm => ?_)
      exact fr_retv hm
set_option maxRecDepth 4000 in
theorem fr_X7_logged {m mm : Sg} {r : Int32} {a1 : Int32} {a2 : Int32} (hm : f_X7_logged  m a1 a2 = some (r, mm)) : Fr SC m mm := by
  unfold f_X7_logged at hm
  skip
  refine fr_cal hm (fun _ _ h => fr_X7_rowOf h) (fun x2 m1 hm => ?_)
  skip
  skip
  refine fr_b hm (fun x3 hm => ?_)
  skip
  refine fr_if hm (fun hm => ?_) (fun hm => ?_)
  · skip
    exact fr_ret hm
  · skip
    skip
    skip
    skip
    refine fr_if hm (fun hm => ?_) (fun hm => ?_)
    · skip
      exact fr_ret hm
    · skip
      skip
      skip
      refine fr_n hm (fun hm => ?_)
      skip
      exact fr_ret hm
set_option maxRecDepth 4000 in
theorem fr_X8_mayRule {m mm : Sg} {r : Int32} {a1 : Int32} (hm : f_X8_mayRule  m a1 = some (r, mm)) : Fr SC m mm := by
  unfold f_X8_mayRule at hm
  skip
  skip
  refine fr_cal hm (fun _ _ h => fr_X0_ruler (by first | rfl | assumption | (simp [SC]; done) | (simp [SC]; omega)) h) (fun x2 m1 hm => ?_)
  skip
  skip
  skip
  refine g_jn (J := fun (s : Sg × Int32) => Fr SC s.1 mm) hm ?_ ?_
  · rintro ⟨m3, x4⟩ hm
    (try dsimp only at hm)
    (try dsimp only)
    skip
    skip
    refine fr_if hm (fun hm => ?_) (fun hm => ?_)
    · skip
      exact fr_ret hm
    · skip
      skip
      skip
      refine fr_cal hm (fun _ _ h => fr_X0_isBelowGrowing (by first | rfl | assumption | (simp [SC]; done) | (simp [SC]; omega)) h) (fun x7 m6 hm => ?_)
      refine fr_if hm (fun hm => ?_) (fun hm => ?_)
      · skip
        exact fr_ret hm
      · skip
        skip
        exact fr_ret hm
  · intro k5 hk5 hm
    refine g_jn (J := fun (s : Sg) => Fr SC s mm) hm ?_ ?_
    · intro m8 hm
      skip
      skip
      exact hk5 _ hm
    · intro k9 hk9 hm
      refine fr_if hm (fun hm => ?_) (fun hm => ?_)
      · skip
        exact hk9 _ hm
      · skip
        skip
        refine fr_if hm (fun hm => ?_) (fun hm => ?_)
        · skip
          exact hk9 _ hm
        · skip
          skip
          skip
          skip
          refine fr_cal hm (fun _ _ h => fr_X0_isYounger (by first | rfl | assumption | (simp [SC]; done) | (simp [SC]; omega)) h) (fun x11 m10 hm => ?_)
          refine fr_if hm (fun hm => ?_) (fun hm => ?_)
          · skip
            skip
            exact hk5 _ hm
          · skip
            exact hk9 _ hm
set_option maxRecDepth 4000 in
theorem fr_X8_mindedBy {m mm : Sg} {r : Int32} {a1 : Int32} (hm : f_X8_mindedBy  m a1 = some (r, mm)) : Fr SC m mm := by
  unfold f_X8_mindedBy at hm
  skip
  skip
  skip
  skip
  refine g_lp (I := fun (s : Sg × Int32 × Int32) => Fr SC s.1 mm) (E := fun (s : Sg × Int32) => Fr SC s.1 mm) hm ?_ ?_
  · rintro ⟨m4, x5⟩ hm
    (try dsimp only at hm)
    (try dsimp only)
    skip
    exact fr_ret hm
  · rintro ⟨m1, x2, x3⟩ o hm hx7 hi6
    (try dsimp only [f_X8_mindedBy_L4] at hm)
    (try dsimp only)
    skip
    skip
    skip
    refine fr_cal hm (fun _ _ h => fr_X0_elders (by first | rfl | assumption | (simp [SC]; done) | (simp [SC]; omega)) h) (fun x9 m8 hm => ?_)
    refine fr_if hm (fun hm => ?_) (fun hm => ?_)
    · skip
      cases hm
      exact hx7 _ rfl
    · skip
      skip
      skip
      skip
      skip
      refine g_jn (J := fun (s : Sg × Int32) => Fr SC s.1 mm) hm ?_ ?_
      · rintro ⟨m10, x11⟩ hm
        (try dsimp only at hm)
        (try dsimp only)
        refine fr_b hm (fun x13 hm => ?_)
        skip
        cases hm
        exact hi6 _ rfl
      · intro k12 hk12 hm
        refine fr_if hm (fun hm => ?_) (fun hm => ?_)
        · exact hk12 _ hm
        · skip
          skip
          skip
          skip
          skip
          refine fr_cal hm (fun _ _ h => fr_X0_old (by first | rfl | assumption | (simp [SC]; done) | (simp [SC]; omega)) h) (fun x15 m14 hm => ?_)
          skip
          refine fr_b hm (fun x16 hm => ?_)
          exact hk12 _ hm
set_option maxRecDepth 4000 in
theorem fr_X8_unknownToElders {m mm : Sg} {r : Int32} (hm : f_X8_unknownToElders  m  = some (r, mm)) : Fr SC m mm := by
  unfold f_X8_unknownToElders at hm
  skip
  skip
  refine fr_cal hm (fun _ _ h => fr_X0_triedTens (by first | rfl | assumption | (simp [SC]; done) | (simp [SC]; omega)) h) (fun x2 m1 hm => ?_)
  skip
  skip
  skip
  skip
  refine fr_cal hm (fun _ _ h => fr_X0_elders (by first | rfl | assumption | (simp [SC]; done) | (simp [SC]; omega)) h) (fun x4 m3 hm => ?_)
  skip
  skip
  skip
  refine fr_cal hm (fun _ _ h => fr_X8_mindedBy h) (fun x6 m5 hm => ?_)
  skip
  skip
  skip
  exact fr_ret hm
set_option maxRecDepth 4000 in
theorem fr_X8_chainedWith {m mm : Sg} {r : Int32} {a1 : Int32} (hm : f_X8_chainedWith  m a1 = some (r, mm)) : Fr SC m mm := by
  unfold f_X8_chainedWith at hm
  skip
  skip
  skip
  refine fr_b hm (fun x1 hm => ?_)
  skip
  skip
  refine g_lp (I := fun (s : Sg × Int32 × Int32) => Fr SC s.1 mm) (E := fun (s : Sg × Int32) => Fr SC s.1 mm) hm ?_ ?_
  · rintro ⟨m5, x6⟩ hm
    (try dsimp only at hm)
    (try dsimp only)
    skip
    exact fr_ret hm
  · rintro ⟨m2, x3, x4⟩ o hm hx8 hi7
    (try dsimp only [f_X8_chainedWith_L6] at hm)
    (try dsimp only)
    skip
    skip
    skip
    refine fr_cal hm (fun _ _ h => fr_X0_children (by first | rfl | assumption | (simp [SC]; done) | (simp [SC]; omega)) h) (fun x10 m9 hm => ?_)
    refine fr_if hm (fun hm => ?_) (fun hm => ?_)
    · skip
      cases hm
      exact hx8 _ rfl
    · skip
      skip
      skip
      skip
      refine fr_cal hm (fun _ _ h => fr_X0_isYounger (by first | rfl | assumption | (simp [SC]; done) | (simp [SC]; omega)) h) (fun x12 m11 hm => ?_)
      refine g_jn (J := fun (s : Sg × Int32) => Fr SC s.1 mm) hm ?_ ?_
      · rintro ⟨m13, x14⟩ hm
        (try dsimp only at hm)
        (try dsimp only)
        skip
        skip
        skip
        skip
        skip
        refine fr_cal hm (fun _ _ h => fr_X0_isYounger (by first | rfl | assumption | (simp [SC]; done) | (simp [SC]; omega)) h) (fun x17 m16 hm => ?_)
        refine g_jn (J := fun (s : Sg × Int32) => Fr SC s.1 mm) hm ?_ ?_
        · rintro ⟨m18, x19⟩ hm
          (try dsimp only at hm)
          (try dsimp only)
          skip
          skip
          refine g_jn (J := fun (s : Sg × Int32) => Fr SC s.1 mm) hm ?_ ?_
          · rintro ⟨m21, x22⟩ hm
            (try dsimp only at hm)
            (try dsimp only)
            refine fr_b hm (fun x24 hm => ?_)
            skip
            cases hm
            exact hi7 _ rfl
          · intro k23 hk23 hm
            refine g_jn (J := fun (s : Sg) => Fr SC s mm) hm ?_ ?_
            · intro m25 hm
              skip
              skip
              skip
              skip
              skip
              refine fr_b hm (fun x27 hm => ?_)
              exact hk23 _ hm
            · intro k26 hk26 hm
              refine fr_fi hm (fun hm => ?_) (fun hm => ?_)
              · skip
                exact hk26 _ hm
              · skip
                refine fr_if hm (fun hm => ?_) (fun hm => ?_)
                · skip
                  exact hk23 _ hm
                · skip
                  exact hk26 _ hm
        · intro k20 hk20 hm
          refine g_jn (J := fun (s : Sg) => Fr SC s mm) hm ?_ ?_
          · intro m28 hm
            skip
            exact hk20 _ hm
          · intro k29 hk29 hm
            refine fr_if hm (fun hm => ?_) (fun hm => ?_)
            · exact hk29 _ hm
            · skip
              skip
              skip
              refine fr_cal hm (fun _ _ h => fr_X0_countOf (by first | rfl | assumption | (simp [SC]; done) | (simp [SC]; omega)) h) (fun x31 m30 hm => ?_)
              skip
              skip
              skip
              refine fr_cal hm (fun _ _ h => fr_X0_countOf (by first | rfl | assumption | (simp [SC]; done) | (simp [SC]; omega)) h) (fun x33 m32 hm => ?_)
              refine fr_if hm (fun hm => ?_) (fun hm => ?_)
              · exact hk29 _ hm
              · skip
                skip
                exact hk20 _ hm
      · intro k15 hk15 hm
        refine g_jn (J := fun (s : Sg) => Fr SC s mm) hm ?_ ?_
        · intro m34 hm
          skip
          exact hk15 _ hm
        · intro k35 hk35 hm
          refine fr_if hm (fun hm => ?_) (fun hm => ?_)
          · exact hk35 _ hm
          · skip
            skip
            skip
            refine fr_cal hm (fun _ _ h => fr_X0_countOf (by first | rfl | assumption | (simp [SC]; done) | (simp [SC]; omega)) h) (fun x37 m36 hm => ?_)
            skip
            skip
            skip
            refine fr_cal hm (fun _ _ h => fr_X0_countOf (by first | rfl | assumption | (simp [SC]; done) | (simp [SC]; omega)) h) (fun x39 m38 hm => ?_)
            refine fr_if hm (fun hm => ?_) (fun hm => ?_)
            · exact hk35 _ hm
            · skip
              skip
              exact hk15 _ hm
set_option maxRecDepth 4000 in
theorem fr_X8_isChain {m mm : Sg} {r : Int32} {a1 : Int32} (hm : f_X8_isChain  m a1 = some (r, mm)) : Fr SC m mm := by
  unfold f_X8_isChain at hm
  skip
  skip
  refine g_lp (I := fun (s : Sg × Int32) => Fr SC s.1 mm) (E := fun (x : (Sg) ⊕ (Sg)) => match x with | .inl m3 => Fr SC m3 mm | .inr m4 => Fr SC m4 mm) hm ?_ ?_
  · rintro (m3 | m4) hm
    · (try dsimp only at hm)
      (try dsimp only)
      skip
      exact fr_ret hm
    · (try dsimp only at hm)
      (try dsimp only)
      skip
      exact fr_ret hm
  · rintro ⟨m1, x2⟩ o hm hx6 hi5
    (try dsimp only [f_X8_isChain_L2] at hm)
    (try dsimp only)
    skip
    skip
    skip
    skip
    refine fr_if hm (fun hm => ?_) (fun hm => ?_)
    · skip
      cases hm
      exact hx6 _ rfl
    · skip
      skip
      skip
      skip
      skip
      refine g_jn (J := fun (s : Sg) => Fr SC s mm) hm ?_ ?_
      · intro m7 hm
        refine fr_b hm (fun x9 hm => ?_)
        skip
        cases hm
        exact hi5 _ rfl
      · intro k8 hk8 hm
        refine fr_if hm (fun hm => ?_) (fun hm => ?_)
        · exact hk8 _ hm
        · skip
          skip
          skip
          skip
          refine fr_n hm (fun hm => ?_)
          skip
          skip
          skip
          refine fr_if hm (fun hm => ?_) (fun hm => ?_)
          · exact hk8 _ hm
          · skip
            cases hm
            exact hx6 _ rfl
set_option maxRecDepth 4000 in
theorem fr_X8_onlyByTheirSteps {m mm : Sg} {r : Int32} {a1 : Int32} (hm : f_X8_onlyByTheirSteps  m a1 = some (r, mm)) : Fr SC m mm := by
  unfold f_X8_onlyByTheirSteps at hm
  skip
  skip
  skip
  skip
  refine g_lp (I := fun (s : Sg × Int32 × Int32) => Fr SC s.1 mm) (E := fun (s : Sg × Int32) => Fr SC s.1 mm) hm ?_ ?_
  · rintro ⟨m4, x5⟩ hm
    (try dsimp only at hm)
    (try dsimp only)
    skip
    exact fr_ret hm
  · rintro ⟨m1, x2, x3⟩ o hm hx7 hi6
    (try dsimp only [f_X8_onlyByTheirSteps_L4] at hm)
    (try dsimp only)
    skip
    skip
    skip
    refine fr_cal hm (fun _ _ h => fr_X0_children (by first | rfl | assumption | (simp [SC]; done) | (simp [SC]; omega)) h) (fun x9 m8 hm => ?_)
    refine fr_if hm (fun hm => ?_) (fun hm => ?_)
    · skip
      cases hm
      exact hx7 _ rfl
    · skip
      skip
      skip
      refine fr_cal hm (fun _ _ h => fr_X0_askedBy (by first | rfl | assumption | (simp [SC]; done) | (simp [SC]; omega)) h) (fun x11 m10 hm => ?_)
      skip
      skip
      skip
      refine fr_cal hm (fun _ _ h => fr_X0_rightOf (by first | rfl | assumption | (simp [SC]; done) | (simp [SC]; omega)) h) (fun x13 m12 hm => ?_)
      skip
      skip
      skip
      refine g_jn (J := fun (s : Sg × Int32) => Fr SC s.1 mm) hm ?_ ?_
      · rintro ⟨m14, x15⟩ hm
        (try dsimp only at hm)
        (try dsimp only)
        skip
        skip
        skip
        skip
        skip
        refine fr_cal hm (fun _ _ h => fr_X0_stands (by first | rfl | assumption | (simp [SC]; done) | (simp [SC]; omega)) h) (fun x18 m17 hm => ?_)
        refine g_jn (J := fun (s : Sg × Int32) => Fr SC s.1 mm) hm ?_ ?_
        · rintro ⟨m19, x20⟩ hm
          (try dsimp only at hm)
          (try dsimp only)
          refine fr_b hm (fun x22 hm => ?_)
          skip
          cases hm
          exact hi6 _ rfl
        · intro k21 hk21 hm
          refine fr_if hm (fun hm => ?_) (fun hm => ?_)
          · skip
            exact hk21 _ hm
          · skip
            refine fr_fi hm (fun hm => ?_) (fun hm => ?_)
            · skip
              exact hk21 _ hm
            · skip
              skip
              skip
              skip
              skip
              refine fr_b hm (fun x23 hm => ?_)
              skip
              exact hk21 _ hm
      · intro k16 hk16 hm
        refine fr_fi hm (fun hm => ?_) (fun hm => ?_)
        · skip
          exact hk16 _ hm
        · skip
          skip
          exact hk16 _ hm
set_option maxRecDepth 4000 in
theorem fr_X8_standingFevered {m mm : Sg} {r : Int32} {a1 : Int32} (hm : f_X8_standingFevered  m a1 = some (r, mm)) : Fr SC m mm := by
  unfold f_X8_standingFevered at hm
  skip
  skip
  skip
  skip
  refine g_lp (I := fun (s : Sg × Int32 × Int32) => Fr SC s.1 mm) (E := fun (s : Sg × Int32) => Fr SC s.1 mm) hm ?_ ?_
  · rintro ⟨m4, x5⟩ hm
    (try dsimp only at hm)
    (try dsimp only)
    skip
    exact fr_ret hm
  · rintro ⟨m1, x2, x3⟩ o hm hx7 hi6
    (try dsimp only [f_X8_standingFevered_L4] at hm)
    (try dsimp only)
    skip
    skip
    skip
    refine fr_cal hm (fun _ _ h => fr_X0_children (by first | rfl | assumption | (simp [SC]; done) | (simp [SC]; omega)) h) (fun x9 m8 hm => ?_)
    refine fr_if hm (fun hm => ?_) (fun hm => ?_)
    · skip
      cases hm
      exact hx7 _ rfl
    · skip
      skip
      skip
      refine fr_cal hm (fun _ _ h => fr_X0_rightOf (by first | rfl | assumption | (simp [SC]; done) | (simp [SC]; omega)) h) (fun x11 m10 hm => ?_)
      skip
      skip
      refine fr_b hm (fun x12 hm => ?_)
      skip
      skip
      skip
      skip
      skip
      skip
      refine fr_cal hm (fun _ _ h => fr_X0_askedBy (by first | rfl | assumption | (simp [SC]; done) | (simp [SC]; omega)) h) (fun x14 m13 hm => ?_)
      refine fr_cal hm (fun _ _ h => fr_X0_askedOf (by first | rfl | assumption | (simp [SC]; done) | (simp [SC]; omega)) h) (fun x16 m15 hm => ?_)
      skip
      skip
      skip
      skip
      refine g_jn (J := fun (s : Sg × Int32) => Fr SC s.1 mm) hm ?_ ?_
      · rintro ⟨m17, x18⟩ hm
        (try dsimp only at hm)
        (try dsimp only)
        refine fr_b hm (fun x20 hm => ?_)
        skip
        cases hm
        exact hi6 _ rfl
      · intro k19 hk19 hm
        refine fr_fi hm (fun hm => ?_) (fun hm => ?_)
        · skip
          exact hk19 _ hm
        · skip
          skip
          skip
          skip
          skip
          refine fr_b hm (fun x21 hm => ?_)
          skip
          exact hk19 _ hm
set_option maxRecDepth 4000 in
theorem fr_X8_youngerStanding {m mm : Sg} {r : Int32} {a1 : Int32} {a2 : Int32} (hm : f_X8_youngerStanding  m a1 a2 = some (r, mm)) : Fr SC m mm := by
  unfold f_X8_youngerStanding at hm
  skip
  skip
  skip
  skip
  refine g_lp (I := fun (s : Sg × Int32 × Int32) => Fr SC s.1 mm) (E := fun (s : Sg × Int32) => Fr SC s.1 mm) hm ?_ ?_
  · rintro ⟨m4, x5⟩ hm
    (try dsimp only at hm)
    (try dsimp only)
    skip
    exact fr_ret hm
  · rintro ⟨m1, x2, x3⟩ o hm hx7 hi6
    (try dsimp only [f_X8_youngerStanding_L5] at hm)
    (try dsimp only)
    skip
    skip
    skip
    refine fr_cal hm (fun _ _ h => fr_X0_children (by first | rfl | assumption | (simp [SC]; done) | (simp [SC]; omega)) h) (fun x9 m8 hm => ?_)
    refine fr_if hm (fun hm => ?_) (fun hm => ?_)
    · skip
      cases hm
      exact hx7 _ rfl
    · skip
      skip
      skip
      skip
      refine fr_cal hm (fun _ _ h => fr_X0_isYounger (by first | rfl | assumption | (simp [SC]; done) | (simp [SC]; omega)) h) (fun x11 m10 hm => ?_)
      refine g_jn (J := fun (s : Sg × Int32) => Fr SC s.1 mm) hm ?_ ?_
      · rintro ⟨m12, x13⟩ hm
        (try dsimp only at hm)
        (try dsimp only)
        refine fr_b hm (fun x15 hm => ?_)
        skip
        cases hm
        exact hi6 _ rfl
      · intro k14 hk14 hm
        refine fr_if hm (fun hm => ?_) (fun hm => ?_)
        · exact hk14 _ hm
        · skip
          skip
          skip
          refine fr_cal hm (fun _ _ h => fr_X0_isBelowGrowing (by first | rfl | assumption | (simp [SC]; done) | (simp [SC]; omega)) h) (fun x17 m16 hm => ?_)
          refine fr_if hm (fun hm => ?_) (fun hm => ?_)
          · exact hk14 _ hm
          · skip
            skip
            skip
            skip
            refine fr_cal hm (fun _ _ h => fr_X0_stands (by first | rfl | assumption | (simp [SC]; done) | (simp [SC]; omega)) h) (fun x19 m18 hm => ?_)
            refine fr_if hm (fun hm => ?_) (fun hm => ?_)
            · exact hk14 _ hm
            · skip
              skip
              skip
              skip
              skip
              refine fr_b hm (fun x20 hm => ?_)
              exact hk14 _ hm
set_option maxRecDepth 4000 in
theorem fr_X8_rightInNursery {m mm : Sg} {r : Int32} {a1 : Int32} (hm : f_X8_rightInNursery  m a1 = some (r, mm)) : Fr SC m mm := by
  unfold f_X8_rightInNursery at hm
  skip
  skip
  skip
  skip
  refine g_lp (I := fun (s : Sg × Int32 × Int32) => Fr SC s.1 mm) (E := fun (s : Sg × Int32) => Fr SC s.1 mm) hm ?_ ?_
  · rintro ⟨m4, x5⟩ hm
    (try dsimp only at hm)
    (try dsimp only)
    skip
    exact fr_ret hm
  · rintro ⟨m1, x2, x3⟩ o hm hx7 hi6
    (try dsimp only [f_X8_rightInNursery_L4] at hm)
    (try dsimp only)
    skip
    skip
    skip
    refine fr_cal hm (fun _ _ h => fr_X0_children (by first | rfl | assumption | (simp [SC]; done) | (simp [SC]; omega)) h) (fun x9 m8 hm => ?_)
    refine fr_if hm (fun hm => ?_) (fun hm => ?_)
    · skip
      cases hm
      exact hx7 _ rfl
    · skip
      skip
      skip
      skip
      refine fr_cal hm (fun _ _ h => fr_X0_isOfNursery (by first | rfl | assumption | (simp [SC]; done) | (simp [SC]; omega)) h) (fun x11 m10 hm => ?_)
      refine g_jn (J := fun (s : Sg × Int32) => Fr SC s.1 mm) hm ?_ ?_
      · rintro ⟨m12, x13⟩ hm
        (try dsimp only at hm)
        (try dsimp only)
        refine fr_b hm (fun x15 hm => ?_)
        skip
        cases hm
        exact hi6 _ rfl
      · intro k14 hk14 hm
        refine fr_if hm (fun hm => ?_) (fun hm => ?_)
        · exact hk14 _ hm
        · skip
          skip
          skip
          skip
          refine fr_cal hm (fun _ _ h => fr_X0_rightOf (by first | rfl | assumption | (simp [SC]; done) | (simp [SC]; omega)) h) (fun x17 m16 hm => ?_)
          skip
          refine fr_b hm (fun x18 hm => ?_)
          exact hk14 _ hm
set_option maxRecDepth 4000 in
theorem fr_X8_eldersSatisfied {m mm : Sg} {r : Int32} {a1 : Int32} (hm : f_X8_eldersSatisfied  m a1 = some (r, mm)) : Fr SC m mm := by
  unfold f_X8_eldersSatisfied at hm
  skip
  skip
  skip
  skip
  refine g_lp (I := fun (s : Sg × Int32 × Int32) => Fr SC s.1 mm) (E := fun (s : Sg × Int32) => Fr SC s.1 mm) hm ?_ ?_
  · rintro ⟨m4, x5⟩ hm
    (try dsimp only at hm)
    (try dsimp only)
    skip
    exact fr_ret hm
  · rintro ⟨m1, x2, x3⟩ o hm hx7 hi6
    (try dsimp only [f_X8_eldersSatisfied_L4] at hm)
    (try dsimp only)
    skip
    skip
    skip
    refine fr_cal hm (fun _ _ h => fr_X0_elders (by first | rfl | assumption | (simp [SC]; done) | (simp [SC]; omega)) h) (fun x9 m8 hm => ?_)
    refine fr_if hm (fun hm => ?_) (fun hm => ?_)
    · skip
      cases hm
      exact hx7 _ rfl
    · skip
      skip
      skip
      skip
      refine fr_cal hm (fun _ _ h => fr_X0_stands (by first | rfl | assumption | (simp [SC]; done) | (simp [SC]; omega)) h) (fun x11 m10 hm => ?_)
      refine g_jn (J := fun (s : Sg × Int32) => Fr SC s.1 mm) hm ?_ ?_
      · rintro ⟨m12, x13⟩ hm
        (try dsimp only at hm)
        (try dsimp only)
        refine fr_b hm (fun x15 hm => ?_)
        skip
        cases hm
        exact hi6 _ rfl
      · intro k14 hk14 hm
        refine fr_if hm (fun hm => ?_) (fun hm => ?_)
        · exact hk14 _ hm
        · skip
          skip
          skip
          skip
          skip
          refine fr_b hm (fun x16 hm => ?_)
          exact hk14 _ hm
set_option maxRecDepth 4000 in
theorem fr_X8_fewestAbsent {m mm : Sg} {r : Int32} {a1 : Int32} (hm : f_X8_fewestAbsent  m a1 = some (r, mm)) : Fr SC m mm := by
  unfold f_X8_fewestAbsent at hm
  skip
  skip
  skip
  skip
  refine g_lp (I := fun (s : Sg × Int32 × Int32) => Fr SC s.1 mm) (E := fun (s : Sg × Int32) => Fr SC s.1 mm) hm ?_ ?_
  · rintro ⟨m4, x5⟩ hm
    (try dsimp only at hm)
    (try dsimp only)
    skip
    exact fr_ret hm
  · rintro ⟨m1, x2, x3⟩ o hm hx7 hi6
    (try dsimp only [f_X8_fewestAbsent_L4] at hm)
    (try dsimp only)
    skip
    skip
    skip
    skip
    refine fr_cal hm (fun _ _ h => fr_X0_elders (by first | rfl | assumption | (simp [SC]; done) | (simp [SC]; omega)) h) (fun x9 m8 hm => ?_)
    skip
    refine fr_if hm (fun hm => ?_) (fun hm => ?_)
    · skip
      cases hm
      exact hx7 _ rfl
    · skip
      skip
      skip
      refine fr_cal hm (fun _ _ h => fr_X0_trierWithout (by first | rfl | assumption | (simp [SC]; done) | (simp [SC]; omega)) h) (fun x11 m10 hm => ?_)
      skip
      skip
      skip
      refine g_jn (J := fun (s : Sg × Int32) => Fr SC s.1 mm) hm ?_ ?_
      · rintro ⟨m12, x13⟩ hm
        (try dsimp only at hm)
        (try dsimp only)
        skip
        skip
        refine g_jn (J := fun (s : Sg × Int32) => Fr SC s.1 mm) hm ?_ ?_
        · rintro ⟨m15, x16⟩ hm
          (try dsimp only at hm)
          (try dsimp only)
          refine fr_b hm (fun x18 hm => ?_)
          skip
          cases hm
          exact hi6 _ rfl
        · intro k17 hk17 hm
          refine fr_if hm (fun hm => ?_) (fun hm => ?_)
          · skip
            exact hk17 _ hm
          · skip
            skip
            refine g_jn (J := fun (s : Sg) => Fr SC s mm) hm ?_ ?_
            · intro m19 hm
              skip
              skip
              exact hk17 _ hm
            · intro k20 hk20 hm
              refine fr_if hm (fun hm => ?_) (fun hm => ?_)
              · skip
                exact hk20 _ hm
              · skip
                refine fr_cal hm (fun _ _ h => fr_J6_bitCount_0f7a4 h) (fun x22 m21 hm => ?_)
                skip
                refine fr_cal hm (fun _ _ h => fr_J6_bitCount_0f7a4 h) (fun x24 m23 hm => ?_)
                refine fr_if hm (fun hm => ?_) (fun hm => ?_)
                · skip
                  exact hk17 _ hm
                · skip
                  exact hk20 _ hm
      · intro k14 hk14 hm
        refine g_jn (J := fun (s : Sg) => Fr SC s mm) hm ?_ ?_
        · intro m25 hm
          skip
          exact hk14 _ hm
        · intro k26 hk26 hm
          refine fr_if hm (fun hm => ?_) (fun hm => ?_)
          · skip
            exact hk26 _ hm
          · skip
            skip
            skip
            skip
            refine fr_cal hm (fun _ _ h => fr_X0_stands (by first | rfl | assumption | (simp [SC]; done) | (simp [SC]; omega)) h) (fun x28 m27 hm => ?_)
            refine fr_if hm (fun hm => ?_) (fun hm => ?_)
            · skip
              exact hk26 _ hm
            · skip
              skip
              skip
              exact hk14 _ hm
set_option maxRecDepth 4000 in
theorem fr_X8_inOrderOfAge {m mm : Sg} {r : Int32} {a1 : Int32} (hm : f_X8_inOrderOfAge  m a1 = some (r, mm)) : Fr SC m mm := by
  unfold f_X8_inOrderOfAge at hm
  skip
  skip
  refine g_lp (I := fun (s : Sg × Int32) => Fr SC s.1 mm) (E := fun (x : (Sg × Int32) ⊕ (Sg)) => match x with | .inl (m3, x4) => Fr SC m3 mm | .inr m5 => Fr SC m5 mm) hm ?_ ?_
  · rintro (⟨m3, x4⟩ | m5) hm
    · (try dsimp only at hm)
      (try dsimp only)
      skip
      exact fr_ret hm
    · (try dsimp only at hm)
      (try dsimp only)
      skip
      exact fr_ret hm
  · rintro ⟨m1, x2⟩ o hm hx7 hi6
    (try dsimp only [f_X8_inOrderOfAge_L2] at hm)
    (try dsimp only)
    skip
    skip
    skip
    refine fr_cal hm (fun _ _ h => fr_X0_children (by first | rfl | assumption | (simp [SC]; done) | (simp [SC]; omega)) h) (fun x9 m8 hm => ?_)
    refine fr_if hm (fun hm => ?_) (fun hm => ?_)
    · skip
      cases hm
      exact hx7 _ rfl
    · skip
      skip
      skip
      skip
      refine g_lp (I := fun (s : Sg × Int32 × Int32) => Fr SC s.1 mm) (E := fun (s : Sg × Int32) => Fr SC s.1 mm) hm ?_ ?_
      · rintro ⟨m13, x14⟩ hm
        (try dsimp only at hm)
        (try dsimp only)
        skip
        skip
        refine fr_fi hm (fun hm => ?_) (fun hm => ?_)
        · refine fr_b hm (fun x26 hm => ?_)
          skip
          skip
          cases hm
          exact hi6 _ rfl
        · skip
          cases hm
          exact hx7 _ rfl
      · rintro ⟨m10, x11, x12⟩ o hm hx16 hi15
        (try dsimp only [f_X8_inOrderOfAge_L18] at hm)
        (try dsimp only)
        skip
        skip
        skip
        refine fr_cal hm (fun _ _ h => fr_X0_children (by first | rfl | assumption | (simp [SC]; done) | (simp [SC]; omega)) h) (fun x18 m17 hm => ?_)
        refine fr_if hm (fun hm => ?_) (fun hm => ?_)
        · skip
          cases hm
          exact hx16 _ rfl
        · skip
          skip
          skip
          skip
          skip
          refine fr_cal hm (fun _ _ h => fr_X0_goesFirst (by first | rfl | assumption | (simp [SC]; done) | (simp [SC]; omega)) h) (fun x20 m19 hm => ?_)
          refine g_jn (J := fun (s : Sg × Int32) => Fr SC s.1 mm) hm ?_ ?_
          · rintro ⟨m21, x22⟩ hm
            (try dsimp only at hm)
            (try dsimp only)
            skip
            refine fr_b hm (fun x24 hm => ?_)
            refine fr_b hm (fun x25 hm => ?_)
            skip
            cases hm
            exact hi15 _ rfl
          · intro k23 hk23 hm
            refine fr_if hm (fun hm => ?_) (fun hm => ?_)
            · skip
              skip
              exact hk23 _ hm
            · skip
              skip
              skip
              exact hk23 _ hm
set_option maxRecDepth 4000 in
theorem fr_X8_cheapest {m mm : Sg} {r : Int32} {a1 : Int32} {a2 : Int32} (hm : f_X8_cheapest  m a1 a2 = some (r, mm)) : Fr SC m mm := by
  unfold f_X8_cheapest at hm
  skip
  skip
  skip
  skip
  refine g_lp (I := fun (s : Sg × Int32 × Int32) => Fr SC s.1 mm) (E := fun (s : Sg × Int32) => Fr SC s.1 mm) hm ?_ ?_
  · rintro ⟨m4, x5⟩ hm
    (try dsimp only at hm)
    (try dsimp only)
    skip
    exact fr_ret hm
  · rintro ⟨m1, x2, x3⟩ o hm hx7 hi6
    (try dsimp only [f_X8_cheapest_L5] at hm)
    (try dsimp only)
    skip
    skip
    skip
    refine fr_cal hm (fun _ _ h => fr_X0_children (by first | rfl | assumption | (simp [SC]; done) | (simp [SC]; omega)) h) (fun x9 m8 hm => ?_)
    refine fr_if hm (fun hm => ?_) (fun hm => ?_)
    · skip
      cases hm
      exact hx7 _ rfl
    · skip
      skip
      skip
      skip
      refine fr_cal hm (fun _ _ h => fr_X0_isOfNursery (by first | rfl | assumption | (simp [SC]; done) | (simp [SC]; omega)) h) (fun x11 m10 hm => ?_)
      refine g_jn (J := fun (s : Sg × Int32) => Fr SC s.1 mm) hm ?_ ?_
      · rintro ⟨m12, x13⟩ hm
        (try dsimp only at hm)
        (try dsimp only)
        refine fr_b hm (fun x15 hm => ?_)
        skip
        cases hm
        exact hi6 _ rfl
      · intro k14 hk14 hm
        refine fr_if hm (fun hm => ?_) (fun hm => ?_)
        · exact hk14 _ hm
        · skip
          skip
          refine fr_cal hm (fun _ _ h => fr_X8_mayRule h) (fun x17 m16 hm => ?_)
          refine fr_if hm (fun hm => ?_) (fun hm => ?_)
          · exact hk14 _ hm
          · skip
            skip
            refine g_jn (J := fun (s : Sg) => Fr SC s mm) hm ?_ ?_
            · intro m18 hm
              skip
              skip
              exact hk14 _ hm
            · intro k19 hk19 hm
              refine fr_if hm (fun hm => ?_) (fun hm => ?_)
              · skip
                exact hk19 _ hm
              · skip
                skip
                skip
                skip
                refine fr_cal hm (fun _ _ h => fr_X0_plumsToRule (by first | rfl | assumption | (simp [SC]; done) | (simp [SC]; omega)) h) (fun x21 m20 hm => ?_)
                skip
                skip
                skip
                skip
                refine fr_cal hm (fun _ _ h => fr_X0_plumsToRule (by first | rfl | assumption | (simp [SC]; done) | (simp [SC]; omega)) h) (fun x23 m22 hm => ?_)
                refine fr_if hm (fun hm => ?_) (fun hm => ?_)
                · exact hk14 _ hm
                · skip
                  exact hk19 _ hm
set_option maxRecDepth 4000 in
theorem fr_X8_couldHaveTaught {m mm : Sg} {r : Int32} {a1 : Int32} {a2 : Int32} (hm : f_X8_couldHaveTaught  m a1 a2 = some (r, mm)) : Fr SC m mm := by
  unfold f_X8_couldHaveTaught at hm
  skip
  skip
  refine fr_cal hm (fun _ _ h => fr_X8_mindedBy h) (fun x2 m1 hm => ?_)
  skip
  skip
  skip
  skip
  refine fr_cal hm (fun _ _ h => fr_X0_rightOf (by first | rfl | assumption | (simp [SC]; done) | (simp [SC]; omega)) h) (fun x4 m3 hm => ?_)
  skip
  skip
  skip
  skip
  refine fr_fi hm (fun hm => ?_) (fun hm => ?_)
  · skip
    exact fr_ret hm
  · skip
    skip
    skip
    skip
    refine fr_cal hm (fun _ _ h => fr_X0_kid (by first | rfl | assumption | (simp [SC]; done) | (simp [SC]; omega)) h) (fun x6 m5 hm => ?_)
    skip
    skip
    refine fr_fi hm (fun hm => ?_) (fun hm => ?_)
    · skip
      exact fr_ret hm
    · skip
      skip
      exact fr_ret hm
set_option maxRecDepth 4000 in
theorem fr_X8_longestChain {m mm : Sg} {r : Int32} (hm : f_X8_longestChain  m  = some (r, mm)) : Fr SC m mm := by
  unfold f_X8_longestChain at hm
  skip
  skip
  refine g_lp (I := fun (s : Sg × Int32) => Fr SC s.1 mm) (E := fun (s : Sg) => Fr SC s mm) hm ?_ ?_
  · rintro m3 hm
    (try dsimp only at hm)
    (try dsimp only)
    skip
    skip
    skip
    skip
    refine g_lp (I := fun (s : Sg × Int32 × Int32) => Fr SC s.1 mm) (E := fun (s : Sg × Int32) => Fr SC s.1 mm) hm ?_ ?_
    · rintro ⟨m15, x16⟩ hm
      (try dsimp only at hm)
      (try dsimp only)
      skip
      exact fr_ret hm
    · rintro ⟨m12, x13, x14⟩ o hm hx18 hi17
      (try dsimp only [f_X8_longestChain_L43] at hm)
      (try dsimp only)
      skip
      skip
      skip
      skip
      refine fr_cal hm (fun _ _ h => fr_X0_children (by first | rfl | assumption | (simp [SC]; done) | (simp [SC]; omega)) h) (fun x20 m19 hm => ?_)
      skip
      refine fr_if hm (fun hm => ?_) (fun hm => ?_)
      · skip
        cases hm
        exact hx18 _ rfl
      · skip
        refine fr_cal hm (fun _ _ h => fr_J6_bitCount_0f7a4 h) (fun x22 m21 hm => ?_)
        skip
        refine fr_cal hm (fun _ _ h => fr_J6_bitCount_0f7a4 h) (fun x24 m23 hm => ?_)
        refine g_jn (J := fun (s : Sg × Int32) => Fr SC s.1 mm) hm ?_ ?_
        · rintro ⟨m25, x26⟩ hm
          (try dsimp only at hm)
          (try dsimp only)
          refine fr_b hm (fun x28 hm => ?_)
          skip
          cases hm
          exact hi17 _ rfl
        · intro k27 hk27 hm
          refine fr_if hm (fun hm => ?_) (fun hm => ?_)
          · exact hk27 _ hm
          · skip
            skip
            refine fr_cal hm (fun _ _ h => fr_X8_isChain h) (fun x30 m29 hm => ?_)
            refine fr_if hm (fun hm => ?_) (fun hm => ?_)
            · exact hk27 _ hm
            · skip
              skip
              exact hk27 _ hm
  · rintro ⟨m1, x2⟩ o hm hx5 hi4
    (try dsimp only [f_X8_longestChain_L2] at hm)
    (try dsimp only)
    skip
    skip
    skip
    refine fr_cal hm (fun _ _ h => fr_X0_children (by first | rfl | assumption | (simp [SC]; done) | (simp [SC]; omega)) h) (fun x7 m6 hm => ?_)
    refine fr_if hm (fun hm => ?_) (fun hm => ?_)
    · skip
      cases hm
      exact hx5 _ rfl
    · skip
      skip
      skip
      skip
      refine fr_if hm (fun hm => ?_) (fun hm => ?_)
      · skip
        cases hm
        exact hx5 _ rfl
      · skip
        skip
        skip
        skip
        skip
        refine fr_cal hm (fun _ _ h => fr_X8_chainedWith h) (fun x9 m8 hm => ?_)
        refine fr_st hm (by first | rfl | assumption | (simp [SC]; done) | (simp [SC]; omega)) (fun m10 hm => ?_)
        refine fr_b hm (fun x11 hm => ?_)
        skip
        cases hm
        exact hi4 _ rfl
set_option maxRecDepth 4000 in
theorem fr_X8_teachersAt {m mm : Sg} {r : Int32} {a1 : Int32} {a2 : Int32} (hm : f_X8_teachersAt  m a1 a2 = some (r, mm)) : Fr SC m mm := by
  unfold f_X8_teachersAt at hm
  skip
  skip
  skip
  skip
  refine g_lp (I := fun (s : Sg × Int32 × Int32) => Fr SC s.1 mm) (E := fun (x : (Sg × Int32) ⊕ (Sg × Int32)) => match x with | .inl (m4, x5) => Fr SC m4 mm | .inr (m6, x7) => Fr SC m6 mm) hm ?_ ?_
  · rintro (⟨m4, x5⟩ | ⟨m6, x7⟩) hm
    · (try dsimp only at hm)
      (try dsimp only)
      skip
      exact fr_ret hm
    · (try dsimp only at hm)
      (try dsimp only)
      skip
      skip
      refine fr_fi hm (fun hm => ?_) (fun hm => ?_)
      · skip
        exact fr_ret hm
      · skip
        skip
        exact fr_ret hm
  · rintro ⟨m1, x2, x3⟩ o hm hx9 hi8
    (try dsimp only [f_X8_teachersAt_L5] at hm)
    (try dsimp only)
    skip
    skip
    skip
    skip
    refine fr_cal hm (fun _ _ h => fr_X0_elders (by first | rfl | assumption | (simp [SC]; done) | (simp [SC]; omega)) h) (fun x11 m10 hm => ?_)
    skip
    refine fr_if hm (fun hm => ?_) (fun hm => ?_)
    · skip
      cases hm
      exact hx9 _ rfl
    · skip
      skip
      skip
      refine fr_cal hm (fun _ _ h => fr_X8_couldHaveTaught h) (fun x13 m12 hm => ?_)
      refine g_jn (J := fun (s : Sg × Int32) => Fr SC s.1 mm) hm ?_ ?_
      · rintro ⟨m14, x15⟩ hm
        (try dsimp only at hm)
        (try dsimp only)
        refine fr_b hm (fun x17 hm => ?_)
        skip
        cases hm
        exact hi8 _ rfl
      · intro k16 hk16 hm
        refine fr_if hm (fun hm => ?_) (fun hm => ?_)
        · exact hk16 _ hm
        · skip
          skip
          refine fr_fi hm (fun hm => ?_) (fun hm => ?_)
          · refine fr_b hm (fun x18 hm => ?_)
            exact hk16 _ hm
          · skip
            cases hm
            exact hx9 _ rfl
set_option maxRecDepth 4000 in
theorem fr_X4_endOfClause {m mm : Sg} {r : Int32} {P : Nat} {n : Nat} {a1 : Int32} (h_P : SC P = true) (h_P1 : SC (P + 1) = true) (h_P2 : SC (P + 2) = true) (hm : f_X4_endOfClause P n m a1 = some (r, mm)) : Fr SC m mm := by
  unfold f_X4_endOfClause at hm
  skip
  skip
  skip
  refine g_lp (I := fun (s : Sg × Int32) => Fr SC s.1 mm) (E := fun (x : (Sg × Int32) ⊕ (Sg)) => match x with | .inl (m3, x4) => Fr SC m3 mm | .inr m5 => Fr SC m5 mm) hm ?_ ?_
  · rintro (⟨m3, x4⟩ | m5) hm
    · (try dsimp only at hm)
      (try dsimp only)
      skip
      exact fr_ret hm
    · (try dsimp only at hm)
      (try dsimp only)
      skip
      skip
      skip
      exact fr_ret hm
  · rintro ⟨m1, x2⟩ o hm hx7 hi6
    (try dsimp only [f_X4_endOfClause_L2] at hm)
    (try dsimp only)
    skip
    skip
    skip
    skip
    refine fr_if hm (fun hm => ?_) (fun hm => ?_)
    · skip
      cases hm
      exact hx7 _ rfl
    · skip
      skip
      skip
      refine fr_n hm (fun hm => ?_)
      skip
      refine fr_fi hm (fun hm => ?_) (fun hm => ?_)
      · refine fr_b hm (fun x8 hm => ?_)
        skip
        cases hm
        exact hi6 _ rfl
      · skip
        cases hm
        exact hx7 _ rfl
set_option maxRecDepth 4000 in
theorem fr_X4_push {m mm : Sg} {P : Nat} {n : Nat} {a1 : Int32} (h_P : SC P = true) (h_P1 : SC (P + 1) = true) (h_P2 : SC (P + 2) = true) (hm : f_X4_push P n m a1 = some mm) : Fr SC m mm := by
  unfold f_X4_push at hm
  skip
  skip
  skip
  skip
  skip
  refine fr_if hm (fun hm => ?_) (fun hm => ?_)
  · exact fr_retv hm
  · skip
    skip
    skip
    skip
    skip
    refine fr_st hm (by first | rfl | assumption | (simp [SC]; done) | (simp [SC]; omega)) (fun m1 hm => ?_)
    skip
    skip
    skip
    skip
    skip
    refine fr_wr hm (by first | rfl | assumption | (simp [SC]; done) | (simp [SC]; omega)) (fun m2 hm => ?_)
    exact fr_retv hm
set_option maxRecDepth 4000 in
theorem fr_X4_pop {m mm : Sg} {r : Int32} {P : Nat} {n : Nat} (h_P : SC P = true) (h_P1 : SC (P + 1) = true) (h_P2 : SC (P + 2) = true) (hm : f_X4_pop P n m  = some (r, mm)) : Fr SC m mm := by
  unfold f_X4_pop at hm
  skip
  skip
  refine fr_if hm (fun hm => ?_) (fun hm => ?_)
  · skip
    exact fr_ret hm
  · skip
    skip
    skip
    skip
    skip
    refine fr_if hm (fun hm => ?_) (fun hm => ?_)
    · skip
      skip
      skip
      skip
      skip
      refine fr_wr hm (by first | rfl | assumption | (simp [SC]; done) | (simp [SC]; omega)) (fun m1 hm => ?_)
      skip
      skip
      skip
      skip
      refine fr_n hm (fun hm => ?_)
      exact fr_ret hm
    · skip
      exact fr_ret hm
set_option maxRecDepth 4000 in
theorem fr_X4_held {m mm : Sg} {r : Int32} {a1 : Int64} (hm : f_X4_held  m a1 = some (r, mm)) : Fr SC m mm := by
  unfold f_X4_held at hm
  skip
  skip
  skip
  skip
  skip
  skip
  exact fr_ret hm
set_option maxRecDepth 4000 in
theorem fr_X4_reckon {m mm : Sg} {r : Int32} {a1 : Int32} {a2 : Int32} {a3 : Int32} (hm : f_X4_reckon  m a1 a2 a3 = some (r, mm)) : Fr SC m mm := by
  unfold f_X4_reckon at hm
  skip
  refine fr_if hm (fun hm => ?_) (fun hm => ?_)
  · skip
    skip
    skip
    exact fr_ret hm
  · refine fr_if hm (fun hm => ?_) (fun hm => ?_)
    · skip
      skip
      skip
      skip
      skip
      refine fr_cal hm (fun _ _ h => fr_X4_held h) (fun x2 m1 hm => ?_)
      exact fr_ret hm
    · refine fr_if hm (fun hm => ?_) (fun hm => ?_)
      · skip
        skip
        skip
        skip
        skip
        refine fr_cal hm (fun _ _ h => fr_X4_held h) (fun x4 m3 hm => ?_)
        exact fr_ret hm
      · refine fr_if hm (fun hm => ?_) (fun hm => ?_)
        · skip
          skip
          skip
          skip
          skip
          refine fr_cal hm (fun _ _ h => fr_X4_held h) (fun x6 m5 hm => ?_)
          exact fr_ret hm
        · refine fr_if hm (fun hm => ?_) (fun hm => ?_)
          · skip
            refine fr_fi hm (fun hm => ?_) (fun hm => ?_)
            · skip
              skip
              skip
              skip
              refine fr_n hm (fun hm => ?_)
              refine fr_cal hm (fun _ _ h => fr_X4_held h) (fun x8 m7 hm => ?_)
              exact fr_ret hm
            · skip
              skip
              exact fr_ret hm
          · refine fr_if hm (fun hm => ?_) (fun hm => ?_)
            · skip
              skip
              refine fr_if hm (fun hm => ?_) (fun hm => ?_)
              · skip
                exact fr_ret hm
              · skip
                skip
                exact fr_ret hm
            · refine fr_if hm (fun hm => ?_) (fun hm => ?_)
              · skip
                skip
                refine fr_fi hm (fun hm => ?_) (fun hm => ?_)
                · skip
                  exact fr_ret hm
                · skip
                  skip
                  exact fr_ret hm
              · refine fr_if hm (fun hm => ?_) (fun hm => ?_)
                · skip
                  skip
                  refine fr_if hm (fun hm => ?_) (fun hm => ?_)
                  · skip
                    exact fr_ret hm
                  · skip
                    skip
                    exact fr_ret hm
                · refine fr_if hm (fun hm => ?_) (fun hm => ?_)
                  · skip
                    skip
                    skip
                    exact fr_ret hm
                  · skip
                    skip
                    exact fr_ret hm
set_option maxRecDepth 4000 in
theorem fr_X4_worth {m mm : Sg} {r : Int32} {P : Nat} {n : Nat} (h_P : SC P = true) (h_P1 : SC (P + 1) = true) (h_P2 : SC (P + 2) = true) (hm : f_X4_worth P n m  = some (r, mm)) : Fr SC m mm := by
  unfold f_X4_worth at hm
  skip
  skip
  refine fr_wr hm (by first | rfl | assumption | (simp [SC]; done) | (simp [SC]; omega)) (fun m1 hm => ?_)
  skip
  skip
  refine g_lp (I := fun (s : Sg × Int32) => Fr SC s.1 mm) (E := fun (x : (Sg) ⊕ (Sg)) => match x with | .inl m4 => Fr SC m4 mm | .inr m5 => Fr SC m5 mm) hm ?_ ?_
  · rintro (m4 | m5) hm
    · (try dsimp only at hm)
      (try dsimp only)
      skip
      refine fr_cal hm (fun _ _ h => fr_X4_pop (by first | rfl | assumption | (simp [SC]; done) | (simp [SC]; omega)) (by first | rfl | assumption | (simp [SC]; done) | (simp [SC]; omega)) (by first | rfl | assumption | (simp [SC]; done) | (simp [SC]; omega)) h) (fun x40 m39 hm => ?_)
      exact fr_ret hm
    · (try dsimp only at hm)
      (try dsimp only)
      skip
      exact fr_ret hm
  · rintro ⟨m2, x3⟩ o hm hx7 hi6
    (try dsimp only [f_X4_worth_L7] at hm)
    (try dsimp only)
    skip
    skip
    skip
    skip
    refine fr_if hm (fun hm => ?_) (fun hm => ?_)
    · skip
      cases hm
      exact hx7 _ rfl
    · skip
      skip
      skip
      refine fr_n hm (fun hm => ?_)
      skip
      skip
      refine fr_b hm (fun x8 hm => ?_)
      skip
      skip
      refine fr_fi hm (fun hm => ?_) (fun hm => ?_)
      · skip
        refine g_jn (J := fun (s : Sg × Int32) => Fr SC s.1 mm) hm ?_ ?_
        · rintro ⟨m9, x10⟩ hm
          (try dsimp only at hm)
          (try dsimp only)
          skip
          skip
          refine g_jn (J := fun (s : Sg × Int32) => Fr SC s.1 mm) hm ?_ ?_
          · rintro ⟨m12, x13⟩ hm
            (try dsimp only at hm)
            (try dsimp only)
            refine fr_b hm (fun x15 hm => ?_)
            skip
            cases hm
            exact hi6 _ rfl
          · intro k14 hk14 hm
            refine fr_if hm (fun hm => ?_) (fun hm => ?_)
            · skip
              refine g_jn (J := fun (s : Sg) => Fr SC s mm) hm ?_ ?_
              · intro m16 hm
                skip
                skip
                refine fr_fi hm (fun hm => ?_) (fun hm => ?_)
                · skip
                  skip
                  refine fr_fi hm (fun hm => ?_) (fun hm => ?_)
                  · skip
                    refine fr_cal hm (fun _ _ h => fr_X4_pop (by first | rfl | assumption | (simp [SC]; done) | (simp [SC]; omega)) (by first | rfl | assumption | (simp [SC]; done) | (simp [SC]; omega)) (by first | rfl | assumption | (simp [SC]; done) | (simp [SC]; omega)) h) (fun x19 m18 hm => ?_)
                    skip
                    skip
                    skip
                    refine fr_cal hm (fun _ _ h => fr_X4_pop (by first | rfl | assumption | (simp [SC]; done) | (simp [SC]; omega)) (by first | rfl | assumption | (simp [SC]; done) | (simp [SC]; omega)) (by first | rfl | assumption | (simp [SC]; done) | (simp [SC]; omega)) h) (fun x21 m20 hm => ?_)
                    skip
                    skip
                    refine fr_cal hm (fun _ _ h => fr_X4_reckon h) (fun x23 m22 hm => ?_)
                    refine fr_calv hm (fun _ h => fr_X4_push (by first | rfl | assumption | (simp [SC]; done) | (simp [SC]; omega)) (by first | rfl | assumption | (simp [SC]; done) | (simp [SC]; omega)) (by first | rfl | assumption | (simp [SC]; done) | (simp [SC]; omega)) h) (fun m24 hm => ?_)
                    skip
                    exact hk14 _ hm
                  · skip
                    skip
                    skip
                    refine fr_cal hm (fun _ _ h => fr_X4_pop (by first | rfl | assumption | (simp [SC]; done) | (simp [SC]; omega)) (by first | rfl | assumption | (simp [SC]; done) | (simp [SC]; omega)) (by first | rfl | assumption | (simp [SC]; done) | (simp [SC]; omega)) h) (fun x26 m25 hm => ?_)
                    skip
                    refine fr_calv hm (fun _ h => fr_X4_push (by first | rfl | assumption | (simp [SC]; done) | (simp [SC]; omega)) (by first | rfl | assumption | (simp [SC]; done) | (simp [SC]; omega)) (by first | rfl | assumption | (simp [SC]; done) | (simp [SC]; omega)) h) (fun m27 hm => ?_)
                    skip
                    skip
                    exact hk14 _ hm
                · skip
                  refine fr_cal hm (fun _ _ h => fr_X4_pop (by first | rfl | assumption | (simp [SC]; done) | (simp [SC]; omega)) (by first | rfl | assumption | (simp [SC]; done) | (simp [SC]; omega)) (by first | rfl | assumption | (simp [SC]; done) | (simp [SC]; omega)) h) (fun x29 m28 hm => ?_)
                  refine g_jn (J := fun (s : Sg × Int32) => Fr SC s.1 mm) hm ?_ ?_
                  · rintro ⟨m30, x31⟩ hm
                    (try dsimp only at hm)
                    (try dsimp only)
                    skip
                    skip
                    exact hk14 _ hm
                  · intro k32 hk32 hm
                    refine fr_fi hm (fun hm => ?_) (fun hm => ?_)
                    · skip
                      skip
                      exact hk32 _ hm
                    · skip
                      skip
                      refine fr_cal hm (fun _ _ h => fr_X4_endOfClause (by first | rfl | assumption | (simp [SC]; done) | (simp [SC]; omega)) (by first | rfl | assumption | (simp [SC]; done) | (simp [SC]; omega)) (by first | rfl | assumption | (simp [SC]; done) | (simp [SC]; omega)) h) (fun x34 m33 hm => ?_)
                      skip
                      skip
                      exact hk32 _ hm
              · intro k17 hk17 hm
                refine fr_if hm (fun hm => ?_) (fun hm => ?_)
                · skip
                  exact hk17 _ hm
                · skip
                  skip
                  skip
                  refine fr_if hm (fun hm => ?_) (fun hm => ?_)
                  · skip
                    exact hk17 _ hm
                  · skip
                    skip
                    skip
                    refine fr_n hm (fun hm => ?_)
                    refine fr_calv hm (fun _ h => fr_X4_push (by first | rfl | assumption | (simp [SC]; done) | (simp [SC]; omega)) (by first | rfl | assumption | (simp [SC]; done) | (simp [SC]; omega)) (by first | rfl | assumption | (simp [SC]; done) | (simp [SC]; omega)) h) (fun m35 hm => ?_)
                    skip
                    skip
                    exact hk14 _ hm
            · skip
              skip
              skip
              skip
              refine fr_n hm (fun hm => ?_)
              refine fr_calv hm (fun _ h => fr_X4_push (by first | rfl | assumption | (simp [SC]; done) | (simp [SC]; omega)) (by first | rfl | assumption | (simp [SC]; done) | (simp [SC]; omega)) (by first | rfl | assumption | (simp [SC]; done) | (simp [SC]; omega)) h) (fun m36 hm => ?_)
              skip
              skip
              exact hk14 _ hm
        · intro k11 hk11 hm
          refine fr_if hm (fun hm => ?_) (fun hm => ?_)
          · skip
            skip
            skip
            refine fr_cal hm (fun _ _ h => fr_J0_indexOf_0f7a4 h) (fun x38 m37 hm => ?_)
            exact hk11 _ hm
          · skip
            skip
            exact hk11 _ hm
      · skip
        cases hm
        exact hx7 _ rfl
set_option maxRecDepth 4000 in
theorem fr_X5_size {m mm : Sg} {r : Int32} (hm : f_X5_size  m  = some (r, mm)) : Fr SC m mm := by
  unfold f_X5_size at hm
  skip
  skip
  exact fr_ret hm
set_option maxRecDepth 4000 in
theorem fr_X5_holding {m mm : Sg} {r : Int32} (hm : f_X5_holding  m  = some (r, mm)) : Fr SC m mm := by
  unfold f_X5_holding at hm
  skip
  skip
  exact fr_ret hm
set_option maxRecDepth 4000 in
theorem fr_X5_hasRoom {m mm : Sg} {r : Int32} (hm : f_X5_hasRoom  m  = some (r, mm)) : Fr SC m mm := by
  unfold f_X5_hasRoom at hm
  skip
  skip
  skip
  refine fr_if hm (fun hm => ?_) (fun hm => ?_)
  · skip
    exact fr_ret hm
  · skip
    skip
    exact fr_ret hm
set_option maxRecDepth 4000 in
theorem fr_X5_letHold {m mm : Sg} {r : Int32} {a1 : Int32} (hm : f_X5_letHold  m a1 = some (r, mm)) : Fr SC m mm := by
  unfold f_X5_letHold at hm
  skip
  skip
  refine fr_if hm (fun hm => ?_) (fun hm => ?_)
  · skip
    exact fr_ret hm
  · skip
    skip
    skip
    refine fr_if hm (fun hm => ?_) (fun hm => ?_)
    · skip
      skip
      refine fr_wr hm (by first | rfl | assumption | (simp [SC]; done) | (simp [SC]; omega)) (fun m1 hm => ?_)
      skip
      exact fr_ret hm
    · skip
      exact fr_ret hm
set_option maxRecDepth 4000 in
theorem fr_X5_setLetters {m mm : Sg} {jc : Nat} {ic : Nat} {a1 : Int32} {a2 : Int32} {a3 : Int32} (h_jc : SC jc = true) (hm : f_X5_setLetters jc m a1 a2 a3 = some mm) : Fr SC m mm := by
  unfold f_X5_setLetters at hm
  skip
  skip
  skip
  skip
  refine fr_wr hm (by first | rfl | assumption | (simp [SC]; done) | (simp [SC]; omega)) (fun m1 hm => ?_)
  skip
  skip
  skip
  skip
  skip
  skip
  refine fr_cal hm (fun _ _ h => fr_X0_kid (by first | rfl | assumption | (simp [SC]; done) | (simp [SC]; omega)) h) (fun x3 m2 hm => ?_)
  refine fr_wr hm (by first | rfl | assumption | (simp [SC]; done) | (simp [SC]; omega)) (fun m4 hm => ?_)
  skip
  skip
  skip
  skip
  refine fr_wr hm (by first | rfl | assumption | (simp [SC]; done) | (simp [SC]; omega)) (fun m5 hm => ?_)
  skip
  skip
  skip
  skip
  skip
  skip
  refine fr_cal hm (fun _ _ h => fr_X0_kid (by first | rfl | assumption | (simp [SC]; done) | (simp [SC]; omega)) h) (fun x7 m6 hm => ?_)
  refine fr_wr hm (by first | rfl | assumption | (simp [SC]; done) | (simp [SC]; omega)) (fun m8 hm => ?_)
  skip
  skip
  skip
  skip
  skip
  refine fr_cal hm (fun _ _ h => fr_X0_cell (by first | rfl | assumption | (simp [SC]; done) | (simp [SC]; omega)) h) (fun x10 m9 hm => ?_)
  refine fr_wr hm (by first | rfl | assumption | (simp [SC]; done) | (simp [SC]; omega)) (fun m11 hm => ?_)
  exact fr_retv hm
set_option maxRecDepth 4000 in
theorem fr_X5_taxBy {m mm : Sg} {r : Int32} {a1 : Int32} {a2 : Int32} {nl : Nat} {ln : Nat → Nat} (hm : f_X5_taxBy nl ln  m a1 a2 = some (r, mm)) : Fr SC m mm := by
  unfold f_X5_taxBy at hm
  skip
  refine fr_if hm (fun hm => ?_) (fun hm => ?_)
  · skip
    exact fr_ret hm
  · skip
    skip
    skip
    skip
    refine fr_if hm (fun hm => ?_) (fun hm => ?_)
    · skip
      exact fr_ret hm
    · skip
      skip
      skip
      refine fr_n hm (fun hm => fr_if hm (fun hm => ?_) (fun hm => ?_))
      · skip
        skip
        skip
        skip
        skip
        skip
        refine fr_n hm (fun hm => fr_if hm (fun hm => ?_) (fun hm => ?_))
        · skip
          skip
          refine fr_cal hm (fun _ _ h => fr_X4_worth (by first | rfl | assumption | (simp [SC]; done) | (simp [SC]; omega)) (by first | rfl | assumption | (simp [SC]; done) | (simp [SC]; omega)) (by first | rfl | assumption | (simp [SC]; done) | (simp [SC]; omega)) h) (fun x4 m3 hm => ?_)
          skip
          skip
          exact fr_ret hm
        · cases hm
      · skip
        skip
        exact fr_ret hm
set_option maxRecDepth 4000 in
theorem fr_X5_taxOf {m mm : Sg} {r : Int32} {jc : Nat} {ic : Nat} {a1 : Int32} {a2 : Int32} {nl : Nat} {ln : Nat → Nat} (h_jc : SC jc = true) (hm : f_X5_taxOf nl ln jc m a1 a2 = some (r, mm)) : Fr SC m mm := by
  unfold f_X5_taxOf at hm
  skip
  skip
  refine fr_cal hm (fun _ _ h => fr_X0_rightOf (by first | rfl | assumption | (simp [SC]; done) | (simp [SC]; omega)) h) (fun x2 m1 hm => ?_)
  skip
  skip
  skip
  refine fr_cal hm (fun _ _ h => fr_X0_countOf (by first | rfl | assumption | (simp [SC]; done) | (simp [SC]; omega)) h) (fun x4 m3 hm => ?_)
  skip
  skip
  skip
  skip
  skip
  skip
  refine fr_cal hm (fun _ _ h => fr_J6_bitCount_0f7a4 h) (fun x6 m5 hm => ?_)
  refine fr_calv hm (fun _ h => fr_X5_setLetters (by first | rfl | assumption | (simp [SC]; done) | (simp [SC]; omega)) h) (fun m7 hm => ?_)
  skip
  skip
  skip
  skip
  skip
  skip
  refine fr_cal hm (fun _ _ h => fr_X0_kid (by first | rfl | assumption | (simp [SC]; done) | (simp [SC]; omega)) h) (fun x9 m8 hm => ?_)
  refine fr_cal hm (fun _ _ h => fr_J6_bitCount_0f7a4 h) (fun x11 m10 hm => ?_)
  refine fr_wr hm (by first | rfl | assumption | (simp [SC]; done) | (simp [SC]; omega)) (fun m12 hm => ?_)
  skip
  skip
  skip
  refine fr_cal hm (fun _ _ h => fr_X5_taxBy h) (fun x14 m13 hm => ?_)
  exact fr_ret hm
set_option maxRecDepth 4000 in
theorem fr_X5_taxAtCount {m mm : Sg} {r : Int32} {a1 : Int32} {a2 : Int32} {nl : Nat} {ln : Nat → Nat} (hm : f_X5_taxAtCount nl ln  m a1 a2 = some (r, mm)) : Fr SC m mm := by
  unfold f_X5_taxAtCount at hm
  skip
  skip
  skip
  skip
  skip
  skip
  skip
  refine fr_calv hm (fun _ h => fr_X5_setLetters (by first | rfl | assumption | (simp [SC]; done) | (simp [SC]; omega)) h) (fun m1 hm => ?_)
  skip
  skip
  skip
  skip
  refine fr_wr hm (by first | rfl | assumption | (simp [SC]; done) | (simp [SC]; omega)) (fun m2 hm => ?_)
  skip
  skip
  skip
  skip
  skip
  skip
  refine fr_cal hm (fun _ _ h => fr_X5_taxBy h) (fun x4 m3 hm => ?_)
  exact fr_ret hm
set_option maxRecDepth 4000 in
theorem fr_X6_length {m mm : Sg} {r : Int32} (hm : f_X6_length  m  = some (r, mm)) : Fr SC m mm := by
  unfold f_X6_length at hm
  skip
  skip
  exact fr_ret hm
set_option maxRecDepth 4000 in
theorem fr_X6_codeAt {m mm : Sg} {r : Int32} {a1 : Int32} (hm : f_X6_codeAt  m a1 = some (r, mm)) : Fr SC m mm := by
  unfold f_X6_codeAt at hm
  skip
  refine fr_if hm (fun hm => ?_) (fun hm => ?_)
  · skip
    exact fr_ret hm
  · skip
    skip
    skip
    skip
    refine fr_if hm (fun hm => ?_) (fun hm => ?_)
    · skip
      exact fr_ret hm
    · skip
      skip
      skip
      refine fr_n hm (fun hm => ?_)
      skip
      exact fr_ret hm
set_option maxRecDepth 4000 in
theorem fr_X6_write {m mm : Sg} {a1 : Int32} (hm : f_X6_write  m a1 = some mm) : Fr SC m mm := by
  unfold f_X6_write at hm
  skip
  skip
  skip
  skip
  skip
  refine fr_if hm (fun hm => ?_) (fun hm => ?_)
  · exact fr_retv hm
  · skip
    skip
    skip
    skip
    skip
    refine fr_st hm (by first | rfl | assumption | (simp [SC]; done) | (simp [SC]; omega)) (fun m1 hm => ?_)
    skip
    skip
    skip
    skip
    skip
    refine fr_wr hm (by first | rfl | assumption | (simp [SC]; done) | (simp [SC]; omega)) (fun m2 hm => ?_)
    exact fr_retv hm
set_option maxRecDepth 4000 in
theorem fr_X6_writeSign {m mm : Sg} {a1 : Int32} (hm : f_X6_writeSign  m a1 = some mm) : Fr SC m mm := by
  unfold f_X6_writeSign at hm
  skip
  skip
  skip
  skip
  refine fr_calv hm (fun _ h => fr_X6_write h) (fun m1 hm => ?_)
  exact fr_retv hm
set_option maxRecDepth 4000 in
theorem fr_X6_goesDeeper {m mm : Sg} {r : Int32} {a1 : Int32} (hm : f_X6_goesDeeper  m a1 = some (r, mm)) : Fr SC m mm := by
  unfold f_X6_goesDeeper at hm
  skip
  skip
  refine fr_if hm (fun hm => ?_) (fun hm => ?_)
  · skip
    skip
    refine fr_calv hm (fun _ h => fr_X2_step (by first | rfl | assumption | (simp [SC]; done) | (simp [SC]; omega)) h) (fun m1 hm => ?_)
    skip
    exact fr_ret hm
  · skip
    skip
    refine fr_calv hm (fun _ h => fr_X2_fail (by first | rfl | assumption | (simp [SC]; done) | (simp [SC]; omega)) h) (fun m2 hm => ?_)
    skip
    exact fr_ret hm
set_option maxRecDepth 4000 in
theorem fr_X6_isEither {m mm : Sg} {r : Int32} {a1 : Int32} {a2 : Int32} (hm : f_X6_isEither  m a1 a2 = some (r, mm)) : Fr SC m mm := by
  unfold f_X6_isEither at hm
  skip
  skip
  refine fr_cal hm (fun _ _ h => fr_X2_peek (by first | rfl | assumption | (simp [SC]; done) | (simp [SC]; omega)) h) (fun x2 m1 hm => ?_)
  skip
  skip
  skip
  refine g_jn (J := fun (s : Sg) => Fr SC s mm) hm ?_ ?_
  · intro m3 hm
    skip
    skip
    exact fr_ret hm
  · intro k4 hk4 hm
    refine fr_if hm (fun hm => ?_) (fun hm => ?_)
    · skip
      exact hk4 _ hm
    · skip
      skip
      refine fr_fi hm (fun hm => ?_) (fun hm => ?_)
      · skip
        exact fr_ret hm
      · skip
        exact hk4 _ hm
set_option maxRecDepth 4000 in
theorem fr_X6_readCondition {m mm : Sg} {r : Int32} {a1 : Int32} {a2 : Int32} {R : Nat → Sg → Int32 → Int32 → Option (Int32 × Sg)} (hR : ∀ t m a b r m1, R t m a b = some (r, m1) → Fr SC m m1) (hm : f_X6_readCondition R  m a1 a2 = some (r, mm)) : Fr SC m mm := by
  unfold f_X6_readCondition at hm
  skip
  skip
  skip
  refine fr_cal hm (fun _ _ h => hR _ _ _ _ _ _ h) (fun x2 m1 hm => ?_)
  refine fr_fi hm (fun hm => ?_) (fun hm => ?_)
  · skip
    skip
    skip
    refine g_lp (I := fun (s : Sg × Int32) => Fr SC s.1 mm) (E := fun (s : Sg) => Fr SC s mm) hm ?_ ?_
    · rintro m5 hm
      (try dsimp only at hm)
      (try dsimp only)
      skip
      exact fr_ret hm
    · rintro ⟨m3, x4⟩ o hm hx7 hi6
      (try dsimp only [f_X6_readCondition_L13] at hm)
      (try dsimp only)
      skip
      skip
      refine fr_if hm (fun hm => ?_) (fun hm => ?_)
      · skip
        cases hm
        exact hx7 _ rfl
      · skip
        skip
        skip
        refine fr_cal hm (fun _ _ h => fr_X2_takes (by first | rfl | assumption | (simp [SC]; done) | (simp [SC]; omega)) h) (fun x9 m8 hm => ?_)
        refine fr_if hm (fun hm => ?_) (fun hm => ?_)
        · skip
          cases hm
          exact hx7 _ rfl
        · skip
          skip
          skip
          refine fr_cal hm (fun _ _ h => hR _ _ _ _ _ _ h) (fun x11 m10 hm => ?_)
          skip
          skip
          skip
          refine fr_calv hm (fun _ h => fr_X6_writeSign h) (fun m12 hm => ?_)
          refine fr_b hm (fun x13 hm => ?_)
          skip
          cases hm
          exact hi6 _ rfl
  · skip
    exact fr_ret hm
set_option maxRecDepth 4000 in
theorem fr_X6_readTruth {m mm : Sg} {r : Int32} {a1 : Int32} {a2 : Int32} {R : Nat → Sg → Int32 → Int32 → Option (Int32 × Sg)} (hR : ∀ t m a b r m1, R t m a b = some (r, m1) → Fr SC m m1) (hm : f_X6_readTruth R  m a1 a2 = some (r, mm)) : Fr SC m mm := by
  unfold f_X6_readTruth at hm
  skip
  skip
  skip
  refine fr_cal hm (fun _ _ h => hR _ _ _ _ _ _ h) (fun x2 m1 hm => ?_)
  refine fr_fi hm (fun hm => ?_) (fun hm => ?_)
  · skip
    skip
    skip
    refine g_lp (I := fun (s : Sg × Int32) => Fr SC s.1 mm) (E := fun (s : Sg) => Fr SC s mm) hm ?_ ?_
    · rintro m5 hm
      (try dsimp only at hm)
      (try dsimp only)
      skip
      exact fr_ret hm
    · rintro ⟨m3, x4⟩ o hm hx7 hi6
      (try dsimp only [f_X6_readTruth_L13] at hm)
      (try dsimp only)
      skip
      skip
      refine fr_if hm (fun hm => ?_) (fun hm => ?_)
      · skip
        cases hm
        exact hx7 _ rfl
      · skip
        skip
        skip
        refine fr_cal hm (fun _ _ h => fr_X2_takes (by first | rfl | assumption | (simp [SC]; done) | (simp [SC]; omega)) h) (fun x9 m8 hm => ?_)
        refine fr_if hm (fun hm => ?_) (fun hm => ?_)
        · skip
          cases hm
          exact hx7 _ rfl
        · skip
          skip
          skip
          refine fr_cal hm (fun _ _ h => hR _ _ _ _ _ _ h) (fun x11 m10 hm => ?_)
          skip
          skip
          skip
          refine fr_calv hm (fun _ h => fr_X6_writeSign h) (fun m12 hm => ?_)
          refine fr_b hm (fun x13 hm => ?_)
          skip
          cases hm
          exact hi6 _ rfl
  · skip
    exact fr_ret hm
set_option maxRecDepth 4000 in
theorem fr_X6_readUnit {m mm : Sg} {r : Int32} {a1 : Int32} {a2 : Int32} {R : Nat → Sg → Int32 → Int32 → Option (Int32 × Sg)} (hR : ∀ t m a b r m1, R t m a b = some (r, m1) → Fr SC m m1) (hm : f_X6_readUnit R  m a1 a2 = some (r, mm)) : Fr SC m mm := by
  unfold f_X6_readUnit at hm
  skip
  skip
  refine fr_cal hm (fun _ _ h => fr_X2_peek (by first | rfl | assumption | (simp [SC]; done) | (simp [SC]; omega)) h) (fun x2 m1 hm => ?_)
  skip
  skip
  skip
  refine g_jn (J := fun (s : Sg) => Fr SC s mm) hm ?_ ?_
  · intro m3 hm
    skip
    skip
    refine fr_cal hm (fun _ _ h => fr_X6_goesDeeper h) (fun x6 m5 hm => ?_)
    refine fr_if hm (fun hm => ?_) (fun hm => ?_)
    · skip
      exact fr_ret hm
    · skip
      skip
      skip
      skip
      skip
      refine fr_calv hm (fun _ h => rv_fr (fun _ _ h => hR _ _ _ _ _ _ h) h) (fun m7 hm => ?_)
      skip
      exact fr_ret hm
  · intro k4 hk4 hm
    refine fr_if hm (fun hm => ?_) (fun hm => ?_)
    · skip
      exact hk4 _ hm
    · skip
      skip
      refine fr_fi hm (fun hm => ?_) (fun hm => ?_)
      · skip
        skip
        refine fr_calv hm (fun _ h => rv_fr (fun _ _ h => hR _ _ _ _ _ _ h) h) (fun m8 hm => ?_)
        skip
        skip
        refine fr_cal hm (fun _ _ h => fr_X2_peek (by first | rfl | assumption | (simp [SC]; done) | (simp [SC]; omega)) h) (fun x10 m9 hm => ?_)
        skip
        skip
        skip
        refine g_jn (J := fun (s : Sg) => Fr SC s mm) hm ?_ ?_
        · intro m11 hm
          skip
          skip
          refine fr_calv hm (fun _ h => fr_X2_step (by first | rfl | assumption | (simp [SC]; done) | (simp [SC]; omega)) h) (fun m13 hm => ?_)
          skip
          skip
          refine fr_calv hm (fun _ h => rv_fr (fun _ _ h => hR _ _ _ _ _ _ h) h) (fun m14 hm => ?_)
          skip
          skip
          refine fr_calv hm (fun _ h => fr_X6_writeSign h) (fun m15 hm => ?_)
          skip
          exact fr_ret hm
        · intro k12 hk12 hm
          refine fr_if hm (fun hm => ?_) (fun hm => ?_)
          · skip
            exact hk12 _ hm
          · skip
            skip
            refine fr_if hm (fun hm => ?_) (fun hm => ?_)
            · skip
              exact hk12 _ hm
            · skip
              skip
              refine fr_fi hm (fun hm => ?_) (fun hm => ?_)
              · skip
                refine fr_fi hm (fun hm => ?_) (fun hm => ?_)
                · skip
                  exact fr_ret hm
                · skip
                  skip
                  refine fr_calv hm (fun _ h => fr_X2_fail (by first | rfl | assumption | (simp [SC]; done) | (simp [SC]; omega)) h) (fun m16 hm => ?_)
                  skip
                  exact fr_ret hm
              · skip
                exact hk12 _ hm
      · skip
        exact hk4 _ hm
set_option maxRecDepth 4000 in
theorem fr_X6_readInnerUnit {m mm : Sg} {a1 : Int32} {a2 : Int32} {R : Nat → Sg → Int32 → Int32 → Option (Int32 × Sg)} (hR : ∀ t m a b r m1, R t m a b = some (r, m1) → Fr SC m m1) (hm : f_X6_readInnerUnit R  m a1 a2 = some mm) : Fr SC m mm := by
  unfold f_X6_readInnerUnit at hm
  skip
  skip
  refine fr_fi hm (fun hm => ?_) (fun hm => ?_)
  · skip
    skip
    skip
    refine fr_cal hm (fun _ _ h => hR _ _ _ _ _ _ h) (fun x2 m1 hm => ?_)
    skip
    skip
    skip
    skip
    refine fr_calv hm (fun _ h => fr_X2_needs (by first | rfl | assumption | (simp [SC]; done) | (simp [SC]; omega)) h) (fun m3 hm => ?_)
    exact fr_retv hm
  · skip
    skip
    skip
    refine fr_cal hm (fun _ _ h => hR _ _ _ _ _ _ h) (fun x5 m4 hm => ?_)
    skip
    skip
    skip
    refine fr_calv hm (fun _ h => fr_X6_writeSign h) (fun m6 hm => ?_)
    skip
    exact fr_retv hm
set_option maxRecDepth 4000 in
theorem fr_X6_readSum {m mm : Sg} {a1 : Int32} {R : Nat → Sg → Int32 → Int32 → Option (Int32 × Sg)} (hR : ∀ t m a b r m1, R t m a b = some (r, m1) → Fr SC m m1) (hm : f_X6_readSum R  m a1 = some mm) : Fr SC m mm := by
  unfold f_X6_readSum at hm
  skip
  skip
  refine fr_calv hm (fun _ h => rv_fr (fun _ _ h => hR _ _ _ _ _ _ h) h) (fun m1 hm => ?_)
  skip
  skip
  refine g_lp (I := fun (s : Sg × Int32) => Fr SC s.1 mm) (E := fun (s : Sg) => Fr SC s mm) hm ?_ ?_
  · rintro m4 hm
    (try dsimp only at hm)
    (try dsimp only)
    exact fr_retv hm
  · rintro ⟨m2, x3⟩ o hm hx6 hi5
    (try dsimp only [f_X6_readSum_L7] at hm)
    (try dsimp only)
    skip
    skip
    refine fr_if hm (fun hm => ?_) (fun hm => ?_)
    · skip
      cases hm
      exact hx6 _ rfl
    · skip
      skip
      skip
      refine fr_cal hm (fun _ _ h => fr_X6_isEither h) (fun x8 m7 hm => ?_)
      refine fr_if hm (fun hm => ?_) (fun hm => ?_)
      · skip
        cases hm
        exact hx6 _ rfl
      · skip
        skip
        refine fr_cal hm (fun _ _ h => fr_X2_peek (by first | rfl | assumption | (simp [SC]; done) | (simp [SC]; omega)) h) (fun x10 m9 hm => ?_)
        skip
        skip
        skip
        refine fr_calv hm (fun _ h => fr_X2_step (by first | rfl | assumption | (simp [SC]; done) | (simp [SC]; omega)) h) (fun m11 hm => ?_)
        skip
        skip
        refine fr_calv hm (fun _ h => rv_fr (fun _ _ h => hR _ _ _ _ _ _ h) h) (fun m12 hm => ?_)
        skip
        skip
        refine fr_calv hm (fun _ h => fr_X6_writeSign h) (fun m13 hm => ?_)
        refine fr_b hm (fun x14 hm => ?_)
        skip
        skip
        cases hm
        exact hi5 _ rfl
set_option maxRecDepth 4000 in
theorem fr_X6_readTerm {m mm : Sg} {a1 : Int32} {R : Nat → Sg → Int32 → Int32 → Option (Int32 × Sg)} (hR : ∀ t m a b r m1, R t m a b = some (r, m1) → Fr SC m m1) (hm : f_X6_readTerm R  m a1 = some mm) : Fr SC m mm := by
  unfold f_X6_readTerm at hm
  skip
  skip
  refine fr_calv hm (fun _ h => rv_fr (fun _ _ h => hR _ _ _ _ _ _ h) h) (fun m1 hm => ?_)
  skip
  skip
  refine g_lp (I := fun (s : Sg × Int32) => Fr SC s.1 mm) (E := fun (s : Sg) => Fr SC s mm) hm ?_ ?_
  · rintro m4 hm
    (try dsimp only at hm)
    (try dsimp only)
    exact fr_retv hm
  · rintro ⟨m2, x3⟩ o hm hx6 hi5
    (try dsimp only [f_X6_readTerm_L7] at hm)
    (try dsimp only)
    skip
    skip
    refine fr_if hm (fun hm => ?_) (fun hm => ?_)
    · skip
      cases hm
      exact hx6 _ rfl
    · skip
      skip
      skip
      refine fr_cal hm (fun _ _ h => fr_X6_isEither h) (fun x8 m7 hm => ?_)
      refine fr_if hm (fun hm => ?_) (fun hm => ?_)
      · skip
        cases hm
        exact hx6 _ rfl
      · skip
        skip
        refine fr_cal hm (fun _ _ h => fr_X2_peek (by first | rfl | assumption | (simp [SC]; done) | (simp [SC]; omega)) h) (fun x10 m9 hm => ?_)
        skip
        skip
        skip
        refine fr_calv hm (fun _ h => fr_X2_step (by first | rfl | assumption | (simp [SC]; done) | (simp [SC]; omega)) h) (fun m11 hm => ?_)
        skip
        skip
        refine fr_calv hm (fun _ h => rv_fr (fun _ _ h => hR _ _ _ _ _ _ h) h) (fun m12 hm => ?_)
        skip
        skip
        refine fr_calv hm (fun _ h => fr_X6_writeSign h) (fun m13 hm => ?_)
        refine fr_b hm (fun x14 hm => ?_)
        skip
        skip
        cases hm
        exact hi5 _ rfl
set_option maxRecDepth 4000 in
theorem fr_X6_readAtom {m mm : Sg} {a1 : Int32} {R : Nat → Sg → Int32 → Int32 → Option (Int32 × Sg)} (hR : ∀ t m a b r m1, R t m a b = some (r, m1) → Fr SC m m1) (hm : f_X6_readAtom R  m a1 = some mm) : Fr SC m mm := by
  unfold f_X6_readAtom at hm
  skip
  skip
  refine fr_cal hm (fun _ _ h => fr_X2_peek (by first | rfl | assumption | (simp [SC]; done) | (simp [SC]; omega)) h) (fun x2 m1 hm => ?_)
  skip
  skip
  skip
  refine fr_fi hm (fun hm => ?_) (fun hm => ?_)
  · skip
    refine g_jn (J := fun (s : Sg) => Fr SC s mm) hm ?_ ?_
    · intro m3 hm
      skip
      skip
      skip
      skip
      refine fr_cal hm (fun _ _ h => fr_X2_number (by first | rfl | assumption | (simp [SC]; done) | (simp [SC]; omega)) h) (fun x6 m5 hm => ?_)
      refine fr_calv hm (fun _ h => fr_X6_write h) (fun m7 hm => ?_)
      exact fr_retv hm
    · intro k4 hk4 hm
      refine fr_if hm (fun hm => ?_) (fun hm => ?_)
      · skip
        exact hk4 _ hm
      · skip
        skip
        skip
        refine fr_cal hm (fun _ _ h => fr_J0_indexOf_0f7a4 h) (fun x9 m8 hm => ?_)
        refine fr_if hm (fun hm => ?_) (fun hm => ?_)
        · skip
          exact hk4 _ hm
        · skip
          skip
          refine fr_calv hm (fun _ h => fr_X2_step (by first | rfl | assumption | (simp [SC]; done) | (simp [SC]; omega)) h) (fun m10 hm => ?_)
          skip
          skip
          refine fr_calv hm (fun _ h => fr_X6_writeSign h) (fun m11 hm => ?_)
          skip
          exact fr_retv hm
  · skip
    skip
    refine fr_cal hm (fun _ _ h => fr_X6_goesDeeper h) (fun x13 m12 hm => ?_)
    refine fr_if hm (fun hm => ?_) (fun hm => ?_)
    · exact fr_retv hm
    · skip
      skip
      skip
      skip
      refine fr_calv hm (fun _ h => rv_fr (fun _ _ h => hR _ _ _ _ _ _ h) h) (fun m14 hm => ?_)
      skip
      skip
      skip
      refine fr_calv hm (fun _ h => fr_X2_needs (by first | rfl | assumption | (simp [SC]; done) | (simp [SC]; omega)) h) (fun m15 hm => ?_)
      skip
      exact fr_retv hm
theorem frec6 : ∀ (n t : Nat) (m : Sg) (a b r : Int32) (m1 : Sg), rec6 n t m a b = some (r, m1) → Fr SC m m1
  | 0, t, m, a, b, r, m1, h => by cases h
  | n + 1, 0, m, a, b, r, m1, h => fr_X6_readCondition (frec6 n) h
  | n + 1, 1, m, a, b, r, m1, h => fr_X6_readTruth (frec6 n) h
  | n + 1, 2, m, a, b, r, m1, h => fr_X6_readUnit (frec6 n) h
  | n + 1, 3, m, a, b, r, m1, h => ri_fr (fun _ h => fr_X6_readInnerUnit (frec6 n) h) h
  | n + 1, 4, m, a, b, r, m1, h => ri_fr (fun _ h => fr_X6_readSum (frec6 n) h) h
  | n + 1, 5, m, a, b, r, m1, h => ri_fr (fun _ h => fr_X6_readTerm (frec6 n) h) h
  | n + 1, 6, m, a, b, r, m1, h => ri_fr (fun _ h => fr_X6_readAtom (frec6 n) h) h
  | n + 1, t + 7, m, a, b, r, m1, h => by cases h
set_option maxRecDepth 4000 in
theorem fr_X6_readClause {m mm : Sg} (hm : f_X6_readClause  m  = some mm) : Fr SC m mm := by
  unfold f_X6_readClause at hm
  skip
  skip
  skip
  refine fr_calv hm (fun _ h => fr_X2_needs (by first | rfl | assumption | (simp [SC]; done) | (simp [SC]; omega)) h) (fun m1 hm => ?_)
  skip
  skip
  skip
  refine fr_calv hm (fun _ h => fr_X2_needs (by first | rfl | assumption | (simp [SC]; done) | (simp [SC]; omega)) h) (fun m2 hm => ?_)
  skip
  skip
  skip
  refine fr_cal hm (fun _ _ h => frec6 64 _ _ _ _ _ _ h) (fun x4 m3 hm => ?_)
  refine g_jn (J := fun (s : Sg) => Fr SC s mm) hm ?_ ?_
  · intro m5 hm
    skip
    skip
    refine fr_calv hm (fun _ h => fr_X6_writeSign h) (fun m7 hm => ?_)
    exact fr_retv hm
  · intro k6 hk6 hm
    refine fr_if hm (fun hm => ?_) (fun hm => ?_)
    · exact hk6 _ hm
    · skip
      skip
      skip
      refine fr_calv hm (fun _ h => fr_X2_needs (by first | rfl | assumption | (simp [SC]; done) | (simp [SC]; omega)) h) (fun m8 hm => ?_)
      skip
      skip
      refine fr_calv hm (fun _ h => fr_X6_writeSign h) (fun m9 hm => ?_)
      skip
      skip
      refine fr_calv hm (fun _ h => rv_fr (fun _ _ h => frec6 64 _ _ _ _ _ _ h) h) (fun m10 hm => ?_)
      exact hk6 _ hm
set_option maxRecDepth 4000 in
theorem fr_X6_read {m mm : Sg} {r : Int32} (hm : f_X6_read  m  = some (r, mm)) : Fr SC m mm := by
  unfold f_X6_read at hm
  skip
  skip
  refine fr_calv hm (fun _ h => fr_X2_begin (by first | rfl | assumption | (simp [SC]; done) | (simp [SC]; omega)) h) (fun m1 hm => ?_)
  skip
  skip
  refine fr_wr hm (by first | rfl | assumption | (simp [SC]; done) | (simp [SC]; omega)) (fun m2 hm => ?_)
  skip
  refine fr_calv hm (fun _ h => fr_X6_readClause h) (fun m3 hm => ?_)
  skip
  skip
  refine g_lp (I := fun (s : Sg × Int32) => Fr SC s.1 mm) (E := fun (s : Sg) => Fr SC s mm) hm ?_ ?_
  · rintro m6 hm
    (try dsimp only at hm)
    (try dsimp only)
    skip
    skip
    refine fr_calv hm (fun _ h => fr_X2_needsEnd (by first | rfl | assumption | (simp [SC]; done) | (simp [SC]; omega)) h) (fun m13 hm => ?_)
    skip
    skip
    refine fr_cal hm (fun _ _ h => fr_X2_wrongAt (by first | rfl | assumption | (simp [SC]; done) | (simp [SC]; omega)) h) (fun x15 m14 hm => ?_)
    exact fr_ret hm
  · rintro ⟨m4, x5⟩ o hm hx8 hi7
    (try dsimp only [f_X6_read_L18] at hm)
    (try dsimp only)
    skip
    skip
    refine fr_if hm (fun hm => ?_) (fun hm => ?_)
    · skip
      cases hm
      exact hx8 _ rfl
    · skip
      skip
      skip
      refine fr_cal hm (fun _ _ h => fr_X2_takes (by first | rfl | assumption | (simp [SC]; done) | (simp [SC]; omega)) h) (fun x10 m9 hm => ?_)
      refine fr_if hm (fun hm => ?_) (fun hm => ?_)
      · skip
        cases hm
        exact hx8 _ rfl
      · skip
        refine fr_calv hm (fun _ h => fr_X6_readClause h) (fun m11 hm => ?_)
        refine fr_b hm (fun x12 hm => ?_)
        skip
        cases hm
        exact hi7 _ rfl
set_option maxRecDepth 4000 in
theorem fr_X1_useUsual {m mm : Sg} {t : Nat} (hm : f_X1_useUsual t m  = some mm) : Fr SC m mm := by
  unfold f_X1_useUsual at hm
  skip
  skip
  refine g_lp (I := fun (s : Sg × Int32) => Fr SC s.1 mm) (E := fun (s : Sg) => Fr SC s mm) hm ?_ ?_
  · rintro m3 hm
    (try dsimp only at hm)
    (try dsimp only)
    exact fr_retv hm
  · rintro ⟨m1, x2⟩ o hm hx5 hi4
    (try dsimp only [f_X1_useUsual_L2] at hm)
    (try dsimp only)
    skip
    skip
    skip
    refine fr_if hm (fun hm => ?_) (fun hm => ?_)
    · skip
      cases hm
      exact hx5 _ rfl
    · skip
      skip
      skip
      skip
      refine fr_if hm (fun hm => ?_) (fun hm => ?_)
      · skip
        cases hm
        exact hx5 _ rfl
      · skip
        skip
        skip
        skip
        skip
        refine fr_n hm (fun hm => ?_)
        refine fr_st hm (by first | rfl | assumption | (simp [SC]; done) | (simp [SC]; omega)) (fun m6 hm => ?_)
        refine fr_b hm (fun x7 hm => ?_)
        skip
        cases hm
        exact hi4 _ rfl
set_option maxRecDepth 4000 in
theorem fr_X1_readItems {m mm : Sg} {k : Nat} {t1 : Nat} {t2 : Nat} {t3 : Nat} (hm : f_X1_readItems k t1 t2 t3 m  = some mm) : Fr SC m mm := by
  unfold f_X1_readItems at hm
  skip
  skip
  refine fr_calv hm (fun _ h => fr_X2_step (by first | rfl | assumption | (simp [SC]; done) | (simp [SC]; omega)) h) (fun m1 hm => ?_)
  skip
  skip
  refine fr_calv hm (fun _ h => fr_X1_useUsual h) (fun m2 hm => ?_)
  skip
  skip
  skip
  skip
  skip
  refine g_lp (I := fun (s : Sg × Int32 × Int32) => Fr SC s.1 mm) (E := fun (x : (Sg) ⊕ (Sg) ⊕ (Sg)) => match x with | .inl m6 => Fr SC m6 mm | .inr (.inl m7) => Fr SC m7 mm | .inr (.inr m8) => Fr SC m8 mm) hm ?_ ?_
  · rintro (m6 | m7 | m8) hm
    · (try dsimp only at hm)
      (try dsimp only)
      exact fr_retv hm
    · (try dsimp only at hm)
      (try dsimp only)
      skip
      skip
      refine fr_calv hm (fun _ h => fr_X2_fail (by first | rfl | assumption | (simp [SC]; done) | (simp [SC]; omega)) h) (fun m31 hm => ?_)
      exact fr_retv hm
    · (try dsimp only at hm)
      (try dsimp only)
      exact fr_retv hm
  · rintro ⟨m3, x4, x5⟩ o hm hx10 hi9
    (try dsimp only [f_X1_readItems_L19] at hm)
    (try dsimp only)
    skip
    skip
    refine fr_cal hm (fun _ _ h => fr_J0_length_8abf5 h) (fun x12 m11 hm => ?_)
    refine fr_if hm (fun hm => ?_) (fun hm => ?_)
    · skip
      cases hm
      exact hx10 _ rfl
    · skip
      skip
      refine fr_cal hm (fun _ _ h => fr_X2_peek (by first | rfl | assumption | (simp [SC]; done) | (simp [SC]; omega)) h) (fun x14 m13 hm => ?_)
      skip
      skip
      refine g_jn (J := fun (s : Sg × Int32) => Fr SC s.1 mm) hm ?_ ?_
      · rintro ⟨m15, x16⟩ hm
        (try dsimp only at hm)
        (try dsimp only)
        skip
        skip
        refine fr_if hm (fun hm => ?_) (fun hm => ?_)
        · skip
          cases hm
          exact hx10 _ rfl
        · skip
          skip
          skip
          skip
          refine fr_if hm (fun hm => ?_) (fun hm => ?_)
          · skip
            cases hm
            exact hx10 _ rfl
          · skip
            skip
            skip
            refine fr_if hm (fun hm => ?_) (fun hm => ?_)
            · skip
              cases hm
              exact hx10 _ rfl
            · skip
              skip
              skip
              refine fr_if hm (fun hm => ?_) (fun hm => ?_)
              · skip
                skip
                skip
                skip
                skip
                refine fr_if hm (fun hm => ?_) (fun hm => ?_)
                · skip
                  skip
                  skip
                  skip
                  skip
                  refine fr_b hm (fun x18 hm => ?_)
                  skip
                  skip
                  refine fr_calv hm (fun _ h => fr_X2_step (by first | rfl | assumption | (simp [SC]; done) | (simp [SC]; omega)) h) (fun m19 hm => ?_)
                  skip
                  skip
                  skip
                  skip
                  skip
                  skip
                  refine fr_cal hm (fun _ _ h => fr_X2_number (by first | rfl | assumption | (simp [SC]; done) | (simp [SC]; omega)) h) (fun x21 m20 hm => ?_)
                  refine fr_st hm (by first | rfl | assumption | (simp [SC]; done) | (simp [SC]; omega)) (fun m22 hm => ?_)
                  skip
                  skip
                  skip
                  refine fr_n hm (fun hm => ?_)
                  skip
                  skip
                  refine fr_n hm (fun hm => ?_)
                  refine g_jn (J := fun (s : Sg) => Fr SC s mm) hm ?_ ?_
                  · intro m23 hm
                    refine fr_b hm (fun x25 hm => ?_)
                    skip
                    cases hm
                    exact hi9 _ rfl
                  · intro k24 hk24 hm
                    refine g_jn (J := fun (s : Sg) => Fr SC s mm) hm ?_ ?_
                    · intro m26 hm
                      skip
                      skip
                      refine fr_calv hm (fun _ h => fr_X2_failAtLastDigit (by first | rfl | assumption | (simp [SC]; done) | (simp [SC]; omega)) h) (fun m28 hm => ?_)
                      exact hk24 _ hm
                    · intro k27 hk27 hm
                      refine fr_if hm (fun hm => ?_) (fun hm => ?_)
                      · skip
                        exact hk27 _ hm
                      · skip
                        skip
                        skip
                        refine fr_n hm (fun hm => ?_)
                        skip
                        skip
                        refine fr_n hm (fun hm => ?_)
                        refine fr_if hm (fun hm => ?_) (fun hm => ?_)
                        · skip
                          exact hk24 _ hm
                        · skip
                          exact hk27 _ hm
                · skip
                  cases hm
                  exact hx10 _ rfl
              · skip
                cases hm
                exact hx10 _ rfl
      · intro k17 hk17 hm
        refine fr_if hm (fun hm => ?_) (fun hm => ?_)
        · skip
          skip
          skip
          refine fr_cal hm (fun _ _ h => fr_J0_indexOf_0f7a4 h) (fun x30 m29 hm => ?_)
          skip
          exact hk17 _ hm
        · skip
          skip
          skip
          exact hk17 _ hm
set_option maxRecDepth 4000 in
theorem fr_X1_readClause {m mm : Sg} (hm : f_X1_readClause  m  = some mm) : Fr SC m mm := by
  unfold f_X1_readClause at hm
  skip
  skip
  refine fr_cal hm (fun _ _ h => fr_X2_peek (by first | rfl | assumption | (simp [SC]; done) | (simp [SC]; omega)) h) (fun x2 m1 hm => ?_)
  skip
  skip
  skip
  refine g_jn (J := fun (s : Sg) => Fr SC s mm) hm ?_ ?_
  · intro m3 hm
    skip
    skip
    refine g_jn (J := fun (s : Sg) => Fr SC s mm) hm ?_ ?_
    · intro m5 hm
      skip
      skip
      refine g_jn (J := fun (s : Sg) => Fr SC s mm) hm ?_ ?_
      · intro m7 hm
        skip
        skip
        refine fr_calv hm (fun _ h => fr_X2_fail (by first | rfl | assumption | (simp [SC]; done) | (simp [SC]; omega)) h) (fun m9 hm => ?_)
        exact fr_retv hm
      · intro k8 hk8 hm
        refine fr_fi hm (fun hm => ?_) (fun hm => ?_)
        · skip
          exact hk8 _ hm
        · skip
          skip
          refine fr_fi hm (fun hm => ?_) (fun hm => ?_)
          · skip
            exact hk8 _ hm
          · skip
            skip
            skip
            skip
            skip
            refine fr_calv hm (fun _ h => fr_X1_readItems h) (fun m10 hm => ?_)
            skip
            skip
            skip
            skip
            skip
            skip
            skip
            skip
            skip
            skip
            skip
            skip
            skip
            refine fr_calv hm (fun _ h => fr_X0_setRule (by first | rfl | assumption | (simp [SC]; done) | (simp [SC]; omega)) h) (fun m11 hm => ?_)
            skip
            skip
            refine fr_wr hm (by first | rfl | assumption | (simp [SC]; done) | (simp [SC]; omega)) (fun m12 hm => ?_)
            skip
            exact fr_retv hm
    · intro k6 hk6 hm
      refine fr_fi hm (fun hm => ?_) (fun hm => ?_)
      · exact hk6 _ hm
      · skip
        refine fr_cal hm (fun _ _ h => fr_X0_elders (by first | rfl | assumption | (simp [SC]; done) | (simp [SC]; omega)) h) (fun x14 m13 hm => ?_)
        skip
        refine fr_if hm (fun hm => ?_) (fun hm => ?_)
        · exact hk6 _ hm
        · skip
          skip
          skip
          skip
          skip
          refine fr_calv hm (fun _ h => fr_X1_readItems h) (fun m15 hm => ?_)
          skip
          skip
          skip
          skip
          skip
          skip
          skip
          skip
          skip
          skip
          skip
          skip
          skip
          refine fr_calv hm (fun _ h => fr_X0_addElder (by first | rfl | assumption | (simp [SC]; done) | (simp [SC]; omega)) h) (fun m16 hm => ?_)
          skip
          exact fr_retv hm
  · intro k4 hk4 hm
    refine fr_fi hm (fun hm => ?_) (fun hm => ?_)
    · exact hk4 _ hm
    · skip
      refine fr_cal hm (fun _ _ h => fr_X0_children (by first | rfl | assumption | (simp [SC]; done) | (simp [SC]; omega)) h) (fun x18 m17 hm => ?_)
      skip
      refine fr_if hm (fun hm => ?_) (fun hm => ?_)
      · exact hk4 _ hm
      · skip
        skip
        skip
        skip
        skip
        refine fr_calv hm (fun _ h => fr_X1_readItems h) (fun m19 hm => ?_)
        skip
        skip
        skip
        refine fr_calv hm (fun _ h => fr_X0_addChild (by first | rfl | assumption | (simp [SC]; done) | (simp [SC]; omega)) (by first | rfl | assumption | (simp [SC]; done) | (simp [SC]; omega)) h) (fun m20 hm => ?_)
        skip
        exact fr_retv hm
set_option maxRecDepth 4000 in
theorem fr_X1_read {m mm : Sg} {r : Int32} (hm : f_X1_read  m  = some (r, mm)) : Fr SC m mm := by
  unfold f_X1_read at hm
  skip
  skip
  refine fr_calv hm (fun _ h => fr_X2_begin (by first | rfl | assumption | (simp [SC]; done) | (simp [SC]; omega)) h) (fun m1 hm => ?_)
  skip
  refine fr_calv hm (fun _ h => fr_X0_clear (by first | rfl | assumption | (simp [SC]; done) | (simp [SC]; omega)) h) (fun m2 hm => ?_)
  skip
  skip
  refine fr_wr hm (by first | rfl | assumption | (simp [SC]; done) | (simp [SC]; omega)) (fun m3 hm => ?_)
  skip
  skip
  refine fr_calv hm (fun _ h => fr_X1_useUsual h) (fun m4 hm => ?_)
  skip
  skip
  skip
  skip
  skip
  skip
  skip
  skip
  skip
  skip
  skip
  skip
  skip
  refine fr_calv hm (fun _ h => fr_X0_setRule (by first | rfl | assumption | (simp [SC]; done) | (simp [SC]; omega)) h) (fun m5 hm => ?_)
  skip
  skip
  refine fr_calv hm (fun _ h => fr_X1_readClause h) (fun m6 hm => ?_)
  skip
  skip
  refine g_lp (I := fun (s : Sg × Int32) => Fr SC s.1 mm) (E := fun (s : Sg) => Fr SC s mm) hm ?_ ?_
  · rintro m9 hm
    (try dsimp only at hm)
    (try dsimp only)
    skip
    skip
    refine fr_calv hm (fun _ h => fr_X2_needsEnd (by first | rfl | assumption | (simp [SC]; done) | (simp [SC]; omega)) h) (fun m16 hm => ?_)
    skip
    refine fr_cal hm (fun _ _ h => fr_X0_children (by first | rfl | assumption | (simp [SC]; done) | (simp [SC]; omega)) h) (fun x18 m17 hm => ?_)
    refine g_jn (J := fun (s : Sg) => Fr SC s mm) hm ?_ ?_
    · intro m19 hm
      skip
      skip
      refine fr_cal hm (fun _ _ h => fr_X2_wrongAt (by first | rfl | assumption | (simp [SC]; done) | (simp [SC]; omega)) h) (fun x22 m21 hm => ?_)
      exact fr_ret hm
    · intro k20 hk20 hm
      refine fr_fi hm (fun hm => ?_) (fun hm => ?_)
      · skip
        exact hk20 _ hm
      · skip
        skip
        refine fr_calv hm (fun _ h => fr_X2_fail (by first | rfl | assumption | (simp [SC]; done) | (simp [SC]; omega)) h) (fun m23 hm => ?_)
        skip
        exact hk20 _ hm
  · rintro ⟨m7, x8⟩ o hm hx11 hi10
    (try dsimp only [f_X1_read_L52] at hm)
    (try dsimp only)
    skip
    skip
    refine fr_if hm (fun hm => ?_) (fun hm => ?_)
    · skip
      cases hm
      exact hx11 _ rfl
    · skip
      skip
      skip
      refine fr_cal hm (fun _ _ h => fr_X2_takes (by first | rfl | assumption | (simp [SC]; done) | (simp [SC]; omega)) h) (fun x13 m12 hm => ?_)
      refine fr_if hm (fun hm => ?_) (fun hm => ?_)
      · skip
        cases hm
        exact hx11 _ rfl
      · skip
        skip
        refine fr_calv hm (fun _ h => fr_X1_readClause h) (fun m14 hm => ?_)
        refine fr_b hm (fun x15 hm => ?_)
        skip
        cases hm
        exact hi10 _ rfl
set_option maxRecDepth 4000 in
theorem fr_X3_bestRow {m mm : Sg} {r : Int32} (hm : f_X3_bestRow  m  = some (r, mm)) : Fr SC m mm := by
  unfold f_X3_bestRow at hm
  skip
  skip
  exact fr_ret hm
set_option maxRecDepth 4000 in
theorem fr_X3_bestMonths {m mm : Sg} {r : Int32} (hm : f_X3_bestMonths  m  = some (r, mm)) : Fr SC m mm := by
  unfold f_X3_bestMonths at hm
  skip
  skip
  exact fr_ret hm
set_option maxRecDepth 4000 in
theorem fr_X3_bestLength {m mm : Sg} {r : Int32} (hm : f_X3_bestLength  m  = some (r, mm)) : Fr SC m mm := by
  unfold f_X3_bestLength at hm
  skip
  skip
  exact fr_ret hm
set_option maxRecDepth 4000 in
theorem fr_X3_bestLaw {m mm : Sg} {r : Int32} (hm : f_X3_bestLaw  m  = some (r, mm)) : Fr SC m mm := by
  unfold f_X3_bestLaw at hm
  skip
  skip
  exact fr_ret hm
set_option maxRecDepth 4000 in
theorem fr_X3_bestTreasury {m mm : Sg} {r : Int32} (hm : f_X3_bestTreasury  m  = some (r, mm)) : Fr SC m mm := by
  unfold f_X3_bestTreasury at hm
  skip
  skip
  exact fr_ret hm
set_option maxRecDepth 4000 in
theorem fr_X3_rulerOfNextMonth {m mm : Sg} {r : Int32} (hm : f_X3_rulerOfNextMonth  m  = some (r, mm)) : Fr SC m mm := by
  unfold f_X3_rulerOfNextMonth at hm
  skip
  skip
  refine fr_calv hm (fun _ h => fr_X0_beginMonth (by first | rfl | assumption | (simp [SC]; done) | (simp [SC]; omega)) h) (fun m1 hm => ?_)
  skip
  skip
  skip
  skip
  refine fr_cal hm (fun _ _ h => fr_X0_trier (by first | rfl | assumption | (simp [SC]; done) | (simp [SC]; omega)) h) (fun x3 m2 hm => ?_)
  refine fr_calv hm (fun _ h => fr_X0_crown (by first | rfl | assumption | (simp [SC]; done) | (simp [SC]; omega)) h) (fun m4 hm => ?_)
  skip
  skip
  refine fr_cal hm (fun _ _ h => fr_X0_ruler (by first | rfl | assumption | (simp [SC]; done) | (simp [SC]; omega)) h) (fun x6 m5 hm => ?_)
  exact fr_ret hm
set_option maxRecDepth 4000 in
theorem fr_X3_reignOfChild {m mm : Sg} {r : Int32} {a1 : Int32} {a2 : Int32} (hm : f_X3_reignOfChild  m a1 a2 = some (r, mm)) : Fr SC m mm := by
  unfold f_X3_reignOfChild at hm
  skip
  skip
  skip
  skip
  refine fr_calv hm (fun _ h => fr_X0_become (by first | rfl | assumption | (simp [SC]; done) | (simp [SC]; omega)) (by first | rfl | assumption | (simp [SC]; done) | (simp [SC]; omega)) h) (fun m1 hm => ?_)
  skip
  skip
  skip
  skip
  refine g_lp (I := fun (s : Sg × Int32 × Int32) => Fr SC s.1 mm) (E := fun (s : Sg × Int32) => Fr SC s.1 mm) hm ?_ ?_
  · rintro ⟨m5, x6⟩ hm
    (try dsimp only at hm)
    (try dsimp only)
    skip
    exact fr_ret hm
  · rintro ⟨m2, x3, x4⟩ o hm hx8 hi7
    (try dsimp only [f_X3_reignOfChild_L16] at hm)
    (try dsimp only)
    skip
    skip
    refine fr_if hm (fun hm => ?_) (fun hm => ?_)
    · skip
      cases hm
      exact hx8 _ rfl
    · skip
      skip
      refine fr_cal hm (fun _ _ h => fr_X3_rulerOfNextMonth h) (fun x10 m9 hm => ?_)
      skip
      refine g_jn (J := fun (s : Sg × Int32) => Fr SC s.1 mm) hm ?_ ?_
      · rintro ⟨m11, x12⟩ hm
        (try dsimp only at hm)
        (try dsimp only)
        skip
        refine fr_b hm (fun x14 hm => ?_)
        refine fr_b hm (fun x15 hm => ?_)
        skip
        cases hm
        exact hi7 _ rfl
      · intro k13 hk13 hm
        refine fr_fi hm (fun hm => ?_) (fun hm => ?_)
        · skip
          skip
          exact hk13 _ hm
        · skip
          skip
          skip
          exact hk13 _ hm
set_option maxRecDepth 4000 in
theorem fr_X3_reignOfNursery {m mm : Sg} {r : Int32} {a1 : Int32} {a2 : Int32} (hm : f_X3_reignOfNursery  m a1 a2 = some (r, mm)) : Fr SC m mm := by
  unfold f_X3_reignOfNursery at hm
  skip
  skip
  skip
  skip
  refine fr_calv hm (fun _ h => fr_X0_become (by first | rfl | assumption | (simp [SC]; done) | (simp [SC]; omega)) (by first | rfl | assumption | (simp [SC]; done) | (simp [SC]; omega)) h) (fun m1 hm => ?_)
  skip
  skip
  skip
  skip
  refine g_lp (I := fun (s : Sg × Int32 × Int32) => Fr SC s.1 mm) (E := fun (s : Sg × Int32) => Fr SC s.1 mm) hm ?_ ?_
  · rintro ⟨m5, x6⟩ hm
    (try dsimp only at hm)
    (try dsimp only)
    skip
    exact fr_ret hm
  · rintro ⟨m2, x3, x4⟩ o hm hx8 hi7
    (try dsimp only [f_X3_reignOfNursery_L16] at hm)
    (try dsimp only)
    skip
    skip
    refine fr_if hm (fun hm => ?_) (fun hm => ?_)
    · skip
      cases hm
      exact hx8 _ rfl
    · skip
      skip
      skip
      skip
      refine fr_cal hm (fun _ _ h => fr_X3_rulerOfNextMonth h) (fun x10 m9 hm => ?_)
      skip
      refine fr_cal hm (fun _ _ h => fr_X0_isOfNursery (by first | rfl | assumption | (simp [SC]; done) | (simp [SC]; omega)) h) (fun x12 m11 hm => ?_)
      refine g_jn (J := fun (s : Sg × Int32) => Fr SC s.1 mm) hm ?_ ?_
      · rintro ⟨m13, x14⟩ hm
        (try dsimp only at hm)
        (try dsimp only)
        skip
        refine fr_b hm (fun x16 hm => ?_)
        refine fr_b hm (fun x17 hm => ?_)
        skip
        cases hm
        exact hi7 _ rfl
      · intro k15 hk15 hm
        refine fr_if hm (fun hm => ?_) (fun hm => ?_)
        · skip
          skip
          exact hk15 _ hm
        · skip
          skip
          skip
          exact hk15 _ hm
set_option maxRecDepth 4000 in
theorem fr_X3_monthsOfTrials {m mm : Sg} {r : Int32} {a1 : Int32} (hm : f_X3_monthsOfTrials  m a1 = some (r, mm)) : Fr SC m mm := by
  unfold f_X3_monthsOfTrials at hm
  skip
  skip
  skip
  skip
  refine fr_calv hm (fun _ h => fr_X0_become (by first | rfl | assumption | (simp [SC]; done) | (simp [SC]; omega)) (by first | rfl | assumption | (simp [SC]; done) | (simp [SC]; omega)) h) (fun m1 hm => ?_)
  skip
  skip
  refine g_lp (I := fun (s : Sg × Int32) => Fr SC s.1 mm) (E := fun (x : (Sg × Int32) ⊕ (Sg)) => match x with | .inl (m4, x5) => Fr SC m4 mm | .inr m6 => Fr SC m6 mm) hm ?_ ?_
  · rintro (⟨m4, x5⟩ | m6) hm
    · (try dsimp only at hm)
      (try dsimp only)
      skip
      exact fr_ret hm
    · (try dsimp only at hm)
      (try dsimp only)
      skip
      exact fr_ret hm
  · rintro ⟨m2, x3⟩ o hm hx8 hi7
    (try dsimp only [f_X3_monthsOfTrials_L13] at hm)
    (try dsimp only)
    skip
    skip
    refine fr_if hm (fun hm => ?_) (fun hm => ?_)
    · skip
      cases hm
      exact hx8 _ rfl
    · skip
      skip
      refine fr_cal hm (fun _ _ h => fr_X0_trier (by first | rfl | assumption | (simp [SC]; done) | (simp [SC]; omega)) h) (fun x10 m9 hm => ?_)
      skip
      refine fr_fi hm (fun hm => ?_) (fun hm => ?_)
      · skip
        skip
        refine fr_calv hm (fun _ h => fr_X0_beginMonth (by first | rfl | assumption | (simp [SC]; done) | (simp [SC]; omega)) h) (fun m11 hm => ?_)
        refine fr_b hm (fun x12 hm => ?_)
        skip
        cases hm
        exact hi7 _ rfl
      · skip
        cases hm
        exact hx8 _ rfl
set_option maxRecDepth 4000 in
theorem fr_X3_tenOfRow {m mm : Sg} {r : Int32} {a1 : Int32} {a2 : Int32} {a3 : Int32} (hm : f_X3_tenOfRow  m a1 a2 a3 = some (r, mm)) : Fr SC m mm := by
  unfold f_X3_tenOfRow at hm
  skip
  skip
  skip
  skip
  skip
  refine fr_b hm (fun x1 hm => ?_)
  skip
  refine g_lp (I := fun (s : Sg × Int32 × Int32) => Fr SC s.1 mm) (E := fun (s : Sg × Int32) => Fr SC s.1 mm) hm ?_ ?_
  · rintro ⟨m5, x6⟩ hm
    (try dsimp only at hm)
    (try dsimp only)
    skip
    skip
    skip
    exact fr_ret hm
  · rintro ⟨m2, x3, x4⟩ o hm hx8 hi7
    (try dsimp only [f_X3_tenOfRow_L7] at hm)
    (try dsimp only)
    skip
    skip
    refine fr_if hm (fun hm => ?_) (fun hm => ?_)
    · skip
      cases hm
      exact hx8 _ rfl
    · skip
      skip
      skip
      refine fr_b hm (fun x9 hm => ?_)
      refine fr_b hm (fun x10 hm => ?_)
      skip
      cases hm
      exact hi7 _ rfl
set_option maxRecDepth 4000 in
theorem fr_X3_foreseeOthers {m mm : Sg} {a1 : Int32} {a2 : Int32} (hm : f_X3_foreseeOthers  m a1 a2 = some mm) : Fr SC m mm := by
  unfold f_X3_foreseeOthers at hm
  skip
  skip
  skip
  skip
  refine fr_calv hm (fun _ h => fr_X0_become (by first | rfl | assumption | (simp [SC]; done) | (simp [SC]; omega)) (by first | rfl | assumption | (simp [SC]; done) | (simp [SC]; omega)) h) (fun m1 hm => ?_)
  skip
  skip
  refine g_lp (I := fun (s : Sg × Int32) => Fr SC s.1 mm) (E := fun (s : Sg) => Fr SC s mm) hm ?_ ?_
  · rintro m4 hm
    (try dsimp only at hm)
    (try dsimp only)
    exact fr_retv hm
  · rintro ⟨m2, x3⟩ o hm hx6 hi5
    (try dsimp only [f_X3_foreseeOthers_L13] at hm)
    (try dsimp only)
    skip
    skip
    refine fr_if hm (fun hm => ?_) (fun hm => ?_)
    · skip
      cases hm
      exact hx6 _ rfl
    · skip
      skip
      skip
      skip
      refine fr_if hm (fun hm => ?_) (fun hm => ?_)
      · skip
        cases hm
        exact hx6 _ rfl
      · skip
        skip
        skip
        skip
        refine fr_if hm (fun hm => ?_) (fun hm => ?_)
        · skip
          cases hm
          exact hx6 _ rfl
        · skip
          skip
          refine fr_calv hm (fun _ h => fr_X0_beginMonth (by first | rfl | assumption | (simp [SC]; done) | (simp [SC]; omega)) h) (fun m7 hm => ?_)
          skip
          skip
          refine fr_cal hm (fun _ _ h => fr_X0_trier (by first | rfl | assumption | (simp [SC]; done) | (simp [SC]; omega)) h) (fun x9 m8 hm => ?_)
          skip
          skip
          skip
          skip
          skip
          skip
          refine g_jn (J := fun (s : Sg × Int32) => Fr SC s.1 mm) hm ?_ ?_
          · rintro ⟨m10, x11⟩ hm
            (try dsimp only at hm)
            (try dsimp only)
            refine fr_st hm (by first | rfl | assumption | (simp [SC]; done) | (simp [SC]; omega)) (fun m13 hm => ?_)
            skip
            skip
            skip
            skip
            skip
            refine g_jn (J := fun (s : Sg × Int32) => Fr SC s.1 mm) hm ?_ ?_
            · rintro ⟨m14, x15⟩ hm
              (try dsimp only at hm)
              (try dsimp only)
              refine fr_st hm (by first | rfl | assumption | (simp [SC]; done) | (simp [SC]; omega)) (fun m17 hm => ?_)
              refine fr_b hm (fun x18 hm => ?_)
              skip
              cases hm
              exact hi5 _ rfl
            · intro k16 hk16 hm
              refine fr_fi hm (fun hm => ?_) (fun hm => ?_)
              · skip
                skip
                skip
                skip
                skip
                refine fr_cal hm (fun _ _ h => fr_X0_askedBy (by first | rfl | assumption | (simp [SC]; done) | (simp [SC]; omega)) h) (fun x20 m19 hm => ?_)
                skip
                refine fr_cal hm (fun _ _ h => fr_X0_claimant (by first | rfl | assumption | (simp [SC]; done) | (simp [SC]; omega)) h) (fun x22 m21 hm => ?_)
                skip
                exact hk16 _ hm
              · skip
                skip
                skip
                exact hk16 _ hm
          · intro k12 hk12 hm
            refine fr_fi hm (fun hm => ?_) (fun hm => ?_)
            · skip
              skip
              skip
              skip
              skip
              skip
              refine fr_cal hm (fun _ _ h => fr_X0_askedBy (by first | rfl | assumption | (simp [SC]; done) | (simp [SC]; omega)) h) (fun x24 m23 hm => ?_)
              refine fr_cal hm (fun _ _ h => fr_X0_askedOf (by first | rfl | assumption | (simp [SC]; done) | (simp [SC]; omega)) h) (fun x26 m25 hm => ?_)
              exact hk12 _ hm
            · skip
              skip
              exact hk12 _ hm
set_option maxRecDepth 4000 in
theorem fr_X3_monthsByRow {m mm : Sg} {r : Int32} {a1 : Int32} {a2 : Int32} {a3 : Int32} {a4 : Int32} (hm : f_X3_monthsByRow  m a1 a2 a3 a4 = some (r, mm)) : Fr SC m mm := by
  unfold f_X3_monthsByRow at hm
  skip
  skip
  skip
  refine fr_cal hm (fun _ _ h => fr_X0_rightOf (by first | rfl | assumption | (simp [SC]; done) | (simp [SC]; omega)) h) (fun x2 m1 hm => ?_)
  skip
  skip
  skip
  skip
  skip
  refine fr_cal hm (fun _ _ h => fr_X0_kid (by first | rfl | assumption | (simp [SC]; done) | (simp [SC]; omega)) h) (fun x4 m3 hm => ?_)
  skip
  skip
  skip
  skip
  refine fr_cal hm (fun _ _ h => fr_X0_cell (by first | rfl | assumption | (simp [SC]; done) | (simp [SC]; omega)) h) (fun x6 m5 hm => ?_)
  skip
  skip
  skip
  skip
  refine fr_cal hm (fun _ _ h => fr_X0_kid (by first | rfl | assumption | (simp [SC]; done) | (simp [SC]; omega)) h) (fun x8 m7 hm => ?_)
  skip
  refine fr_b hm (fun x9 hm => ?_)
  skip
  skip
  refine fr_cal hm (fun _ _ h => fr_X0_ruler (by first | rfl | assumption | (simp [SC]; done) | (simp [SC]; omega)) h) (fun x11 m10 hm => ?_)
  skip
  skip
  skip
  skip
  skip
  skip
  skip
  refine g_lp (I := fun (s : Sg × Int32 × Int32 × Int32 × Int32 × Int32) => Fr SC s.1 mm) (E := fun (s : Sg × Int32) => Fr SC s.1 mm) hm ?_ ?_
  · rintro ⟨m18, x19⟩ hm
    (try dsimp only at hm)
    (try dsimp only)
    skip
    exact fr_ret hm
  · rintro ⟨m12, x13, x14, x15, x16, x17⟩ o hm hx21 hi20
    (try dsimp only [f_X3_monthsByRow_L60] at hm)
    (try dsimp only)
    skip
    skip
    refine fr_if hm (fun hm => ?_) (fun hm => ?_)
    · skip
      cases hm
      exact hx21 _ rfl
    · skip
      skip
      skip
      skip
      refine fr_if hm (fun hm => ?_) (fun hm => ?_)
      · skip
        cases hm
        exact hx21 _ rfl
      · skip
        skip
        skip
        skip
        refine fr_if hm (fun hm => ?_) (fun hm => ?_)
        · skip
          cases hm
          exact hx21 _ rfl
        · skip
          skip
          skip
          refine fr_b hm (fun x22 hm => ?_)
          skip
          skip
          refine g_jn (J := fun (s : Sg × Int32 × Int32) => Fr SC s.1 mm) hm ?_ ?_
          · rintro ⟨m23, x24, x25⟩ hm
            (try dsimp only at hm)
            (try dsimp only)
            skip
            skip
            skip
            refine fr_n hm (fun hm => ?_)
            refine fr_b hm (fun x27 hm => ?_)
            skip
            skip
            skip
            refine fr_n hm (fun hm => ?_)
            skip
            refine g_jn (J := fun (s : Sg × Int32) => Fr SC s.1 mm) hm ?_ ?_
            · rintro ⟨m28, x29⟩ hm
              (try dsimp only at hm)
              (try dsimp only)
              skip
              skip
              refine g_jn (J := fun (s : Sg × Int32) => Fr SC s.1 mm) hm ?_ ?_
              · rintro ⟨m31, x32⟩ hm
                (try dsimp only at hm)
                (try dsimp only)
                skip
                skip
                skip
                skip
                skip
                refine fr_cal hm (fun _ _ h => fr_X0_rulerBehind (by first | rfl | assumption | (simp [SC]; done) | (simp [SC]; omega)) h) (fun x35 m34 hm => ?_)
                skip
                skip
                skip
                skip
                refine g_jn (J := fun (s : Sg × Int32) => Fr SC s.1 mm) hm ?_ ?_
                · rintro ⟨m36, x37⟩ hm
                  (try dsimp only at hm)
                  (try dsimp only)
                  skip
                  refine fr_b hm (fun x39 hm => ?_)
                  refine fr_b hm (fun x40 hm => ?_)
                  skip
                  cases hm
                  exact hi20 _ rfl
                · intro k38 hk38 hm
                  refine fr_fi hm (fun hm => ?_) (fun hm => ?_)
                  · skip
                    skip
                    exact hk38 _ hm
                  · skip
                    skip
                    skip
                    exact hk38 _ hm
              · intro k33 hk33 hm
                refine fr_if hm (fun hm => ?_) (fun hm => ?_)
                · skip
                  exact hk33 _ hm
                · skip
                  skip
                  refine g_jn (J := fun (s : Sg) => Fr SC s mm) hm ?_ ?_
                  · intro m41 hm
                    skip
                    skip
                    exact hk33 _ hm
                  · intro k42 hk42 hm
                    refine fr_if hm (fun hm => ?_) (fun hm => ?_)
                    · skip
                      exact hk42 _ hm
                    · skip
                      skip
                      skip
                      skip
                      refine fr_cal hm (fun _ _ h => fr_X0_goesFirst (by first | rfl | assumption | (simp [SC]; done) | (simp [SC]; omega)) h) (fun x44 m43 hm => ?_)
                      refine fr_if hm (fun hm => ?_) (fun hm => ?_)
                      · skip
                        exact hk33 _ hm
                      · skip
                        exact hk42 _ hm
            · intro k30 hk30 hm
              refine g_jn (J := fun (s : Sg) => Fr SC s mm) hm ?_ ?_
              · intro m45 hm
                skip
                exact hk30 _ hm
              · intro k46 hk46 hm
                refine fr_if hm (fun hm => ?_) (fun hm => ?_)
                · exact hk46 _ hm
                · skip
                  skip
                  skip
                  refine fr_n hm (fun hm => ?_)
                  skip
                  skip
                  skip
                  skip
                  refine fr_fi hm (fun hm => ?_) (fun hm => ?_)
                  · exact hk46 _ hm
                  · skip
                    skip
                    refine fr_if hm (fun hm => ?_) (fun hm => ?_)
                    · exact hk46 _ hm
                    · skip
                      skip
                      exact hk30 _ hm
          · intro k26 hk26 hm
            refine fr_if hm (fun hm => ?_) (fun hm => ?_)
            · exact hk26 _ hm
            · skip
              skip
              skip
              skip
              skip
              skip
              refine fr_fi hm (fun hm => ?_) (fun hm => ?_)
              · exact hk26 _ hm
              · skip
                skip
                skip
                skip
                skip
                refine fr_cal hm (fun _ _ h => fr_X3_tenOfRow h) (fun x48 m47 hm => ?_)
                skip
                skip
                refine fr_b hm (fun x49 hm => ?_)
                refine fr_b hm (fun x50 hm => ?_)
                exact hk26 _ hm
set_option maxRecDepth 4000 in
theorem fr_X3_othersLearning {m mm : Sg} {r : Int32} {a1 : Int32} {a2 : Int32} (hm : f_X3_othersLearning  m a1 a2 = some (r, mm)) : Fr SC m mm := by
  unfold f_X3_othersLearning at hm
  skip
  skip
  skip
  skip
  refine g_lp (I := fun (s : Sg × Int32 × Int32) => Fr SC s.1 mm) (E := fun (s : Sg × Int32) => Fr SC s.1 mm) hm ?_ ?_
  · rintro ⟨m4, x5⟩ hm
    (try dsimp only at hm)
    (try dsimp only)
    skip
    exact fr_ret hm
  · rintro ⟨m1, x2, x3⟩ o hm hx7 hi6
    (try dsimp only [f_X3_othersLearning_L5] at hm)
    (try dsimp only)
    skip
    skip
    skip
    refine fr_cal hm (fun _ _ h => fr_X0_children (by first | rfl | assumption | (simp [SC]; done) | (simp [SC]; omega)) h) (fun x9 m8 hm => ?_)
    refine fr_if hm (fun hm => ?_) (fun hm => ?_)
    · skip
      cases hm
      exact hx7 _ rfl
    · skip
      skip
      refine g_jn (J := fun (s : Sg × Int32) => Fr SC s.1 mm) hm ?_ ?_
      · rintro ⟨m10, x11⟩ hm
        (try dsimp only at hm)
        (try dsimp only)
        refine fr_b hm (fun x13 hm => ?_)
        skip
        cases hm
        exact hi6 _ rfl
      · intro k12 hk12 hm
        refine fr_if hm (fun hm => ?_) (fun hm => ?_)
        · exact hk12 _ hm
        · skip
          skip
          skip
          skip
          refine fr_cal hm (fun _ _ h => fr_X0_kid (by first | rfl | assumption | (simp [SC]; done) | (simp [SC]; omega)) h) (fun x15 m14 hm => ?_)
          skip
          refine fr_fi hm (fun hm => ?_) (fun hm => ?_)
          · exact hk12 _ hm
          · skip
            skip
            skip
            skip
            skip
            refine fr_b hm (fun x16 hm => ?_)
            exact hk12 _ hm
set_option maxRecDepth 4000 in
theorem fr_X3_rulesAll {m mm : Sg} {r : Int32} {a1 : Int32} {a2 : Int32} {a3 : Int32} {a4 : Int32} (hm : f_X3_rulesAll  m a1 a2 a3 a4 = some (r, mm)) : Fr SC m mm := by
  unfold f_X3_rulesAll at hm
  skip
  skip
  skip
  skip
  refine fr_calv hm (fun _ h => fr_X0_become (by first | rfl | assumption | (simp [SC]; done) | (simp [SC]; omega)) (by first | rfl | assumption | (simp [SC]; done) | (simp [SC]; omega)) h) (fun m1 hm => ?_)
  skip
  skip
  refine g_lp (I := fun (s : Sg × Int32) => Fr SC s.1 mm) (E := fun (s : Sg) => Fr SC s mm) hm ?_ ?_
  · rintro m4 hm
    (try dsimp only at hm)
    (try dsimp only)
    skip
    skip
    refine g_lp (I := fun (s : Sg × Int32) => Fr SC s.1 mm) (E := fun (x : (Sg) ⊕ (Sg)) => match x with | .inl m15 => Fr SC m15 mm | .inr m16 => Fr SC m16 mm) hm ?_ ?_
    · rintro (m15 | m16) hm
      · (try dsimp only at hm)
        (try dsimp only)
        skip
        exact fr_ret hm
      · (try dsimp only at hm)
        (try dsimp only)
        skip
        exact fr_ret hm
    · rintro ⟨m13, x14⟩ o hm hx18 hi17
      (try dsimp only [f_X3_rulesAll_L55] at hm)
      (try dsimp only)
      skip
      skip
      refine fr_if hm (fun hm => ?_) (fun hm => ?_)
      · skip
        cases hm
        exact hx18 _ rfl
      · skip
        refine fr_cal hm (fun _ _ h => fr_X3_rulerOfNextMonth h) (fun x20 m19 hm => ?_)
        skip
        refine fr_if hm (fun hm => ?_) (fun hm => ?_)
        · refine fr_b hm (fun x21 hm => ?_)
          skip
          cases hm
          exact hi17 _ rfl
        · skip
          cases hm
          exact hx18 _ rfl
  · rintro ⟨m2, x3⟩ o hm hx6 hi5
    (try dsimp only [f_X3_rulesAll_L14] at hm)
    (try dsimp only)
    skip
    skip
    skip
    refine fr_cal hm (fun _ _ h => fr_X0_children (by first | rfl | assumption | (simp [SC]; done) | (simp [SC]; omega)) h) (fun x8 m7 hm => ?_)
    refine fr_if hm (fun hm => ?_) (fun hm => ?_)
    · skip
      cases hm
      exact hx6 _ rfl
    · skip
      skip
      skip
      skip
      skip
      refine g_jn (J := fun (s : Sg) => Fr SC s mm) hm ?_ ?_
      · intro m9 hm
        refine fr_b hm (fun x11 hm => ?_)
        skip
        cases hm
        exact hi5 _ rfl
      · intro k10 hk10 hm
        refine fr_if hm (fun hm => ?_) (fun hm => ?_)
        · exact hk10 _ hm
        · skip
          skip
          skip
          skip
          skip
          refine fr_calv hm (fun _ h => fr_X0_setKept (by first | rfl | assumption | (simp [SC]; done) | (simp [SC]; omega)) h) (fun m12 hm => ?_)
          exact hk10 _ hm
set_option maxRecDepth 4000 in
theorem fr_X3_teachLowest {m mm : Sg} {a1 : Int32} (hm : f_X3_teachLowest  m a1 = some mm) : Fr SC m mm := by
  unfold f_X3_teachLowest at hm
  skip
  skip
  skip
  refine fr_cal hm (fun _ _ h => fr_X0_lowestNotRight (by first | rfl | assumption | (simp [SC]; done) | (simp [SC]; omega)) h) (fun x2 m1 hm => ?_)
  skip
  skip
  skip
  refine fr_if hm (fun hm => ?_) (fun hm => ?_)
  · exact fr_retv hm
  · skip
    skip
    skip
    skip
    refine fr_calv hm (fun _ h => fr_X0_makeRight (by first | rfl | assumption | (simp [SC]; done) | (simp [SC]; omega)) h) (fun m3 hm => ?_)
    exact fr_retv hm
set_option maxRecDepth 4000 in
theorem fr_X3_placeOf {m mm : Sg} {r : Int32} {a1 : Int32} {a2 : Int32} (hm : f_X3_placeOf  m a1 a2 = some (r, mm)) : Fr SC m mm := by
  unfold f_X3_placeOf at hm
  skip
  skip
  skip
  skip
  skip
  exact fr_ret hm
set_option maxRecDepth 4000 in
theorem fr_X3_weighed {m mm : Sg} {r : Int32} {a1 : Int32} {a2 : Int32} (hm : f_X3_weighed  m a1 a2 = some (r, mm)) : Fr SC m mm := by
  unfold f_X3_weighed at hm
  skip
  skip
  refine fr_cal hm (fun _ _ h => fr_X3_placeOf h) (fun x2 m1 hm => ?_)
  skip
  skip
  refine fr_if hm (fun hm => ?_) (fun hm => ?_)
  · skip
    exact fr_ret hm
  · skip
    skip
    skip
    skip
    refine fr_if hm (fun hm => ?_) (fun hm => ?_)
    · skip
      exact fr_ret hm
    · skip
      skip
      skip
      refine fr_n hm (fun hm => ?_)
      skip
      exact fr_ret hm
set_option maxRecDepth 4000 in
theorem fr_X3_isRest {m mm : Sg} {r : Int32} {a1 : Int32} {a2 : Int32} (hm : f_X3_isRest  m a1 a2 = some (r, mm)) : Fr SC m mm := by
  unfold f_X3_isRest at hm
  skip
  skip
  skip
  refine fr_cal hm (fun _ _ h => fr_X3_weighed h) (fun x2 m1 hm => ?_)
  skip
  skip
  skip
  skip
  skip
  refine fr_cal hm (fun _ _ h => fr_X0_kid (by first | rfl | assumption | (simp [SC]; done) | (simp [SC]; omega)) h) (fun x4 m3 hm => ?_)
  skip
  skip
  skip
  skip
  skip
  refine fr_cal hm (fun _ _ h => fr_X0_kid (by first | rfl | assumption | (simp [SC]; done) | (simp [SC]; omega)) h) (fun x6 m5 hm => ?_)
  skip
  skip
  skip
  refine g_lp (I := fun (s : Sg × Int32) => Fr SC s.1 mm) (E := fun (x : (Sg) ⊕ (Sg) ⊕ (Sg)) => match x with | .inl m9 => Fr SC m9 mm | .inr (.inl m10) => Fr SC m10 mm | .inr (.inr m11) => Fr SC m11 mm) hm ?_ ?_
  · rintro (m9 | m10 | m11) hm
    · (try dsimp only at hm)
      (try dsimp only)
      skip
      exact fr_ret hm
    · (try dsimp only at hm)
      (try dsimp only)
      skip
      exact fr_ret hm
    · (try dsimp only at hm)
      (try dsimp only)
      skip
      exact fr_ret hm
  · rintro ⟨m7, x8⟩ o hm hx13 hi12
    (try dsimp only [f_X3_isRest_L32] at hm)
    (try dsimp only)
    skip
    skip
    skip
    refine fr_cal hm (fun _ _ h => fr_X0_children (by first | rfl | assumption | (simp [SC]; done) | (simp [SC]; omega)) h) (fun x15 m14 hm => ?_)
    refine fr_if hm (fun hm => ?_) (fun hm => ?_)
    · skip
      cases hm
      exact hx13 _ rfl
    · skip
      skip
      skip
      skip
      refine fr_cal hm (fun _ _ h => fr_X0_isOfNursery (by first | rfl | assumption | (simp [SC]; done) | (simp [SC]; omega)) h) (fun x17 m16 hm => ?_)
      refine g_jn (J := fun (s : Sg) => Fr SC s mm) hm ?_ ?_
      · intro m18 hm
        skip
        skip
        skip
        skip
        refine fr_cal hm (fun _ _ h => fr_X0_isOfNursery (by first | rfl | assumption | (simp [SC]; done) | (simp [SC]; omega)) h) (fun x21 m20 hm => ?_)
        refine g_jn (J := fun (s : Sg) => Fr SC s mm) hm ?_ ?_
        · intro m22 hm
          refine fr_b hm (fun x24 hm => ?_)
          skip
          cases hm
          exact hi12 _ rfl
        · intro k23 hk23 hm
          refine fr_if hm (fun hm => ?_) (fun hm => ?_)
          · exact hk23 _ hm
          · skip
            skip
            skip
            refine fr_cal hm (fun _ _ h => fr_X3_weighed h) (fun x26 m25 hm => ?_)
            skip
            refine fr_if hm (fun hm => ?_) (fun hm => ?_)
            · exact hk23 _ hm
            · skip
              cases hm
              exact hx13 _ rfl
      · intro k19 hk19 hm
        refine fr_if hm (fun hm => ?_) (fun hm => ?_)
        · exact hk19 _ hm
        · skip
          skip
          skip
          refine fr_cal hm (fun _ _ h => fr_X3_weighed h) (fun x28 m27 hm => ?_)
          skip
          refine fr_if hm (fun hm => ?_) (fun hm => ?_)
          · exact hk19 _ hm
          · skip
            cases hm
            exact hx13 _ rfl
set_option maxRecDepth 4000 in
theorem fr_X3_goOn {m mm : Sg} {a1 : Int32} {a2 : Int32} {nl : Nat} {ln : Nat → Nat} (hm : f_X3_goOn nl ln  m a1 a2 = some mm) : Fr SC m mm := by
  unfold f_X3_goOn at hm
  skip
  skip
  skip
  skip
  refine fr_calv hm (fun _ h => fr_X0_become (by first | rfl | assumption | (simp [SC]; done) | (simp [SC]; omega)) (by first | rfl | assumption | (simp [SC]; done) | (simp [SC]; omega)) h) (fun m1 hm => ?_)
  skip
  skip
  refine g_lp (I := fun (s : Sg × Int32) => Fr SC s.1 mm) (E := fun (s : Sg) => Fr SC s mm) hm ?_ ?_
  · rintro m4 hm
    (try dsimp only at hm)
    (try dsimp only)
    exact fr_retv hm
  · rintro ⟨m2, x3⟩ o hm hx6 hi5
    (try dsimp only [f_X3_goOn_L13] at hm)
    (try dsimp only)
    skip
    skip
    refine fr_if hm (fun hm => ?_) (fun hm => ?_)
    · skip
      cases hm
      exact hx6 _ rfl
    · skip
      refine fr_cal hm (fun _ _ h => fr_X3_rulerOfNextMonth h) (fun x8 m7 hm => ?_)
      skip
      skip
      skip
      refine fr_cal hm (fun _ _ h => fr_X0_ruler (by first | rfl | assumption | (simp [SC]; done) | (simp [SC]; omega)) h) (fun x10 m9 hm => ?_)
      skip
      skip
      skip
      skip
      skip
      refine g_jn (J := fun (s : Sg × Int32) => Fr SC s.1 mm) hm ?_ ?_
      · rintro ⟨m11, x12⟩ hm
        (try dsimp only at hm)
        (try dsimp only)
        refine fr_calv hm (fun _ h => fr_X0_reignAndTake (by first | rfl | assumption | (simp [SC]; done) | (simp [SC]; omega)) h) (fun m14 hm => ?_)
        refine fr_b hm (fun x15 hm => ?_)
        skip
        cases hm
        exact hi5 _ rfl
      · intro k13 hk13 hm
        refine fr_fi hm (fun hm => ?_) (fun hm => ?_)
        · skip
          skip
          skip
          skip
          skip
          skip
          refine fr_cal hm (fun _ _ h => fr_X5_taxOf (by first | rfl | assumption | (simp [SC]; done) | (simp [SC]; omega)) h) (fun x17 m16 hm => ?_)
          skip
          exact hk13 _ hm
        · skip
          skip
          skip
          exact hk13 _ hm
set_option maxRecDepth 4000 in
theorem fr_X3_seekLaw {m mm : Sg} {a1 : Int32} {nl : Nat} {ln : Nat → Nat} (hm : f_X3_seekLaw nl ln  m a1 = some mm) : Fr SC m mm := by
  unfold f_X3_seekLaw at hm
  skip
  skip
  refine fr_wr hm (by first | rfl | assumption | (simp [SC]; done) | (simp [SC]; omega)) (fun m1 hm => ?_)
  skip
  skip
  skip
  refine fr_calv hm (fun _ h => fr_X3_goOn h) (fun m2 hm => ?_)
  skip
  skip
  skip
  skip
  refine fr_cal hm (fun _ _ h => fr_X0_cell (by first | rfl | assumption | (simp [SC]; done) | (simp [SC]; omega)) h) (fun x4 m3 hm => ?_)
  refine fr_wr hm (by first | rfl | assumption | (simp [SC]; done) | (simp [SC]; omega)) (fun m5 hm => ?_)
  skip
  skip
  refine g_lp (I := fun (s : Sg × Int32) => Fr SC s.1 mm) (E := fun (s : Sg) => Fr SC s mm) hm ?_ ?_
  · rintro m8 hm
    (try dsimp only at hm)
    (try dsimp only)
    exact fr_retv hm
  · rintro ⟨m6, x7⟩ o hm hx10 hi9
    (try dsimp only [f_X3_seekLaw_L26] at hm)
    (try dsimp only)
    skip
    skip
    skip
    refine fr_cal hm (fun _ _ h => fr_X5_size h) (fun x12 m11 hm => ?_)
    refine fr_if hm (fun hm => ?_) (fun hm => ?_)
    · skip
      cases hm
      exact hx10 _ rfl
    · skip
      skip
      skip
      refine fr_calv hm (fun _ h => fr_X3_goOn h) (fun m13 hm => ?_)
      skip
      skip
      skip
      refine fr_cal hm (fun _ _ h => fr_X0_cell (by first | rfl | assumption | (simp [SC]; done) | (simp [SC]; omega)) h) (fun x15 m14 hm => ?_)
      skip
      skip
      refine g_jn (J := fun (s : Sg) => Fr SC s mm) hm ?_ ?_
      · intro m16 hm
        refine fr_b hm (fun x18 hm => ?_)
        skip
        cases hm
        exact hi9 _ rfl
      · intro k17 hk17 hm
        refine fr_if hm (fun hm => ?_) (fun hm => ?_)
        · exact hk17 _ hm
        · skip
          skip
          refine fr_wr hm (by first | rfl | assumption | (simp [SC]; done) | (simp [SC]; omega)) (fun m19 hm => ?_)
          skip
          skip
          skip
          skip
          refine fr_cal hm (fun _ _ h => fr_X0_cell (by first | rfl | assumption | (simp [SC]; done) | (simp [SC]; omega)) h) (fun x21 m20 hm => ?_)
          refine fr_wr hm (by first | rfl | assumption | (simp [SC]; done) | (simp [SC]; omega)) (fun m22 hm => ?_)
          exact hk17 _ hm
set_option maxRecDepth 4000 in
theorem fr_X3_isOfTens {m mm : Sg} {r : Int32} {a1 : Int32} {a2 : Int32} {a3 : Int32} (hm : f_X3_isOfTens  m a1 a2 a3 = some (r, mm)) : Fr SC m mm := by
  unfold f_X3_isOfTens at hm
  skip
  skip
  skip
  skip
  skip
  refine g_lp (I := fun (s : Sg × Int32 × Int32) => Fr SC s.1 mm) (E := fun (x : (Sg) ⊕ (Sg)) => match x with | .inl m4 => Fr SC m4 mm | .inr m5 => Fr SC m5 mm) hm ?_ ?_
  · rintro (m4 | m5) hm
    · (try dsimp only at hm)
      (try dsimp only)
      skip
      exact fr_ret hm
    · (try dsimp only at hm)
      (try dsimp only)
      skip
      exact fr_ret hm
  · rintro ⟨m1, x2, x3⟩ o hm hx7 hi6
    (try dsimp only [f_X3_isOfTens_L5] at hm)
    (try dsimp only)
    skip
    skip
    refine fr_if hm (fun hm => ?_) (fun hm => ?_)
    · skip
      cases hm
      exact hx7 _ rfl
    · skip
      skip
      skip
      refine fr_cal hm (fun _ _ h => fr_X3_tenOfRow h) (fun x9 m8 hm => ?_)
      skip
      skip
      skip
      skip
      skip
      skip
      refine fr_fi hm (fun hm => ?_) (fun hm => ?_)
      · skip
        skip
        skip
        skip
        skip
        skip
        skip
        refine fr_b hm (fun x10 hm => ?_)
        refine fr_b hm (fun x11 hm => ?_)
        skip
        skip
        cases hm
        exact hi6 _ rfl
      · skip
        cases hm
        exact hx7 _ rfl
set_option maxRecDepth 4000 in
theorem fr_X3_fewestKept {m mm : Sg} {r : Int32} {a1 : Int32} {a2 : Int32} {a3 : Int32} (hm : f_X3_fewestKept  m a1 a2 a3 = some (r, mm)) : Fr SC m mm := by
  unfold f_X3_fewestKept at hm
  skip
  skip
  skip
  refine fr_cal hm (fun _ _ h => fr_X3_othersLearning h) (fun x2 m1 hm => ?_)
  skip
  skip
  skip
  skip
  skip
  refine g_lp (I := fun (s : Sg × Int32 × Int32) => Fr SC s.1 mm) (E := fun (s : Sg × Int32) => Fr SC s.1 mm) hm ?_ ?_
  · rintro ⟨m6, x7⟩ hm
    (try dsimp only at hm)
    (try dsimp only)
    skip
    exact fr_ret hm
  · rintro ⟨m3, x4, x5⟩ o hm hx9 hi8
    (try dsimp only [f_X3_fewestKept_L14] at hm)
    (try dsimp only)
    skip
    skip
    refine fr_if hm (fun hm => ?_) (fun hm => ?_)
    · skip
      cases hm
      exact hx9 _ rfl
    · skip
      skip
      refine g_jn (J := fun (s : Sg × Int32) => Fr SC s.1 mm) hm ?_ ?_
      · rintro ⟨m10, x11⟩ hm
        (try dsimp only at hm)
        (try dsimp only)
        skip
        skip
        skip
        skip
        skip
        skip
        refine g_jn (J := fun (s : Sg × Int32) => Fr SC s.1 mm) hm ?_ ?_
        · rintro ⟨m13, x14⟩ hm
          (try dsimp only at hm)
          (try dsimp only)
          refine fr_b hm (fun x16 hm => ?_)
          skip
          cases hm
          exact hi8 _ rfl
        · intro k15 hk15 hm
          refine fr_fi hm (fun hm => ?_) (fun hm => ?_)
          · skip
            exact hk15 _ hm
          · skip
            refine fr_if hm (fun hm => ?_) (fun hm => ?_)
            · skip
              exact hk15 _ hm
            · skip
              skip
              skip
              skip
              skip
              refine fr_cal hm (fun _ _ h => fr_X3_rulesAll h) (fun x18 m17 hm => ?_)
              refine fr_if hm (fun hm => ?_) (fun hm => ?_)
              · skip
                exact hk15 _ hm
              · skip
                skip
                skip
                exact hk15 _ hm
      · intro k12 hk12 hm
        refine g_jn (J := fun (s : Sg) => Fr SC s mm) hm ?_ ?_
        · intro m19 hm
          skip
          skip
          exact hk12 _ hm
        · intro k20 hk20 hm
          refine fr_if hm (fun hm => ?_) (fun hm => ?_)
          · exact hk20 _ hm
          · skip
            refine fr_cal hm (fun _ _ h => fr_J6_bitCount_0f7a4 h) (fun x22 m21 hm => ?_)
            skip
            refine fr_cal hm (fun _ _ h => fr_J6_bitCount_0f7a4 h) (fun x24 m23 hm => ?_)
            refine fr_if hm (fun hm => ?_) (fun hm => ?_)
            · skip
              exact hk12 _ hm
            · exact hk20 _ hm
set_option maxRecDepth 4000 in
theorem fr_X3_gain {m mm : Sg} {r : Int32} {a1 : Int32} {a2 : Int32} (hm : f_X3_gain  m a1 a2 = some (r, mm)) : Fr SC m mm := by
  unfold f_X3_gain at hm
  skip
  skip
  skip
  skip
  refine fr_calv hm (fun _ h => fr_X0_become (by first | rfl | assumption | (simp [SC]; done) | (simp [SC]; omega)) (by first | rfl | assumption | (simp [SC]; done) | (simp [SC]; omega)) h) (fun m1 hm => ?_)
  skip
  skip
  refine fr_calv hm (fun _ h => fr_X3_teachLowest h) (fun m2 hm => ?_)
  skip
  skip
  refine fr_calv hm (fun _ h => fr_X3_teachLowest h) (fun m3 hm => ?_)
  skip
  skip
  skip
  skip
  refine fr_cal hm (fun _ _ h => fr_X0_kid (by first | rfl | assumption | (simp [SC]; done) | (simp [SC]; omega)) h) (fun x5 m4 hm => ?_)
  skip
  skip
  skip
  skip
  skip
  refine fr_cal hm (fun _ _ h => fr_X0_kid (by first | rfl | assumption | (simp [SC]; done) | (simp [SC]; omega)) h) (fun x7 m6 hm => ?_)
  skip
  skip
  skip
  skip
  skip
  skip
  refine g_lp (I := fun (s : Sg × Int32 × Int32) => Fr SC s.1 mm) (E := fun (s : Sg × Int32) => Fr SC s.1 mm) hm ?_ ?_
  · rintro ⟨m11, x12⟩ hm
    (try dsimp only at hm)
    (try dsimp only)
    skip
    exact fr_ret hm
  · rintro ⟨m8, x9, x10⟩ o hm hx14 hi13
    (try dsimp only [f_X3_gain_L48] at hm)
    (try dsimp only)
    skip
    skip
    refine fr_if hm (fun hm => ?_) (fun hm => ?_)
    · skip
      cases hm
      exact hx14 _ rfl
    · skip
      refine fr_cal hm (fun _ _ h => fr_X3_rulerOfNextMonth h) (fun x16 m15 hm => ?_)
      skip
      skip
      skip
      skip
      skip
      skip
      refine fr_cal hm (fun _ _ h => fr_X0_isOfNursery (by first | rfl | assumption | (simp [SC]; done) | (simp [SC]; omega)) h) (fun x18 m17 hm => ?_)
      refine g_jn (J := fun (s : Sg × Int32) => Fr SC s.1 mm) hm ?_ ?_
      · rintro ⟨m19, x20⟩ hm
        (try dsimp only at hm)
        (try dsimp only)
        skip
        refine fr_b hm (fun x22 hm => ?_)
        skip
        skip
        skip
        skip
        skip
        refine fr_cal hm (fun _ _ h => fr_X0_isOfNursery (by first | rfl | assumption | (simp [SC]; done) | (simp [SC]; omega)) h) (fun x24 m23 hm => ?_)
        refine g_jn (J := fun (s : Sg × Int32) => Fr SC s.1 mm) hm ?_ ?_
        · rintro ⟨m25, x26⟩ hm
          (try dsimp only at hm)
          (try dsimp only)
          skip
          refine fr_b hm (fun x28 hm => ?_)
          refine fr_b hm (fun x29 hm => ?_)
          skip
          cases hm
          exact hi13 _ rfl
        · intro k27 hk27 hm
          refine fr_if hm (fun hm => ?_) (fun hm => ?_)
          · skip
            skip
            exact hk27 _ hm
          · skip
            skip
            skip
            exact hk27 _ hm
      · intro k21 hk21 hm
        refine fr_if hm (fun hm => ?_) (fun hm => ?_)
        · skip
          skip
          exact hk21 _ hm
        · skip
          skip
          skip
          exact hk21 _ hm
set_option maxRecDepth 4000 in
theorem fr_X3_restAt {m mm : Sg} {r : Int32} {a1 : Int32} {a2 : Int32} {a3 : Int32} (hm : f_X3_restAt  m a1 a2 a3 = some (r, mm)) : Fr SC m mm := by
  unfold f_X3_restAt at hm
  skip
  skip
  skip
  skip
  refine g_lp (I := fun (s : Sg × Int32 × Int32) => Fr SC s.1 mm) (E := fun (x : (Sg × Int32 × Int32) ⊕ (Sg × Int32)) => match x with | .inl (m4, x5, x6) => Fr SC m4 mm | .inr (m7, x8) => Fr SC m7 mm) hm ?_ ?_
  · rintro (⟨m4, x5, x6⟩ | ⟨m7, x8⟩) hm
    · (try dsimp only at hm)
      (try dsimp only)
      skip
      skip
      skip
      skip
      skip
      exact fr_ret hm
    · (try dsimp only at hm)
      (try dsimp only)
      skip
      skip
      refine fr_fi hm (fun hm => ?_) (fun hm => ?_)
      · skip
        exact fr_ret hm
      · skip
        skip
        exact fr_ret hm
  · rintro ⟨m1, x2, x3⟩ o hm hx10 hi9
    (try dsimp only [f_X3_restAt_L6] at hm)
    (try dsimp only)
    skip
    skip
    skip
    refine fr_cal hm (fun _ _ h => fr_X0_children (by first | rfl | assumption | (simp [SC]; done) | (simp [SC]; omega)) h) (fun x12 m11 hm => ?_)
    refine fr_if hm (fun hm => ?_) (fun hm => ?_)
    · skip
      cases hm
      exact hx10 _ rfl
    · skip
      skip
      refine g_lp (I := fun (s : Sg × Int32 × Int32) => Fr SC s.1 mm) (E := fun (x : (Sg × Int32) ⊕ (Sg × Int32)) => match x with | .inl (m16, x17) => Fr SC m16 mm | .inr (m18, x19) => Fr SC m18 mm) hm ?_ ?_
      · rintro (⟨m16, x17⟩ | ⟨m18, x19⟩) hm
        · (try dsimp only at hm)
          (try dsimp only)
          cases hm
          exact hx10 _ rfl
        · (try dsimp only at hm)
          (try dsimp only)
          refine fr_b hm (fun x35 hm => ?_)
          skip
          cases hm
          exact hi9 _ rfl
      · rintro ⟨m13, x14, x15⟩ o hm hx21 hi20
        (try dsimp only [f_X3_restAt_L21] at hm)
        (try dsimp only)
        skip
        skip
        skip
        refine fr_cal hm (fun _ _ h => fr_X0_children (by first | rfl | assumption | (simp [SC]; done) | (simp [SC]; omega)) h) (fun x23 m22 hm => ?_)
        refine fr_if hm (fun hm => ?_) (fun hm => ?_)
        · skip
          cases hm
          exact hx21 _ rfl
        · skip
          skip
          skip
          skip
          refine fr_cal hm (fun _ _ h => fr_X0_isOfNursery (by first | rfl | assumption | (simp [SC]; done) | (simp [SC]; omega)) h) (fun x25 m24 hm => ?_)
          refine g_jn (J := fun (s : Sg × Int32) => Fr SC s.1 mm) hm ?_ ?_
          · rintro ⟨m26, x27⟩ hm
            (try dsimp only at hm)
            (try dsimp only)
            refine fr_b hm (fun x29 hm => ?_)
            skip
            cases hm
            exact hi20 _ rfl
          · intro k28 hk28 hm
            refine fr_if hm (fun hm => ?_) (fun hm => ?_)
            · exact hk28 _ hm
            · skip
              skip
              skip
              skip
              refine fr_cal hm (fun _ _ h => fr_X0_isOfNursery (by first | rfl | assumption | (simp [SC]; done) | (simp [SC]; omega)) h) (fun x31 m30 hm => ?_)
              refine fr_if hm (fun hm => ?_) (fun hm => ?_)
              · exact hk28 _ hm
              · skip
                skip
                skip
                refine fr_cal hm (fun _ _ h => fr_X3_isRest h) (fun x33 m32 hm => ?_)
                refine fr_if hm (fun hm => ?_) (fun hm => ?_)
                · exact hk28 _ hm
                · skip
                  skip
                  refine fr_fi hm (fun hm => ?_) (fun hm => ?_)
                  · refine fr_b hm (fun x34 hm => ?_)
                    exact hk28 _ hm
                  · skip
                    cases hm
                    exact hx21 _ rfl
set_option maxRecDepth 4000 in
theorem fr_X3_weighAll {m mm : Sg} {a1 : Int32} {a2 : Int32} (hm : f_X3_weighAll  m a1 a2 = some mm) : Fr SC m mm := by
  unfold f_X3_weighAll at hm
  skip
  skip
  refine g_lp (I := fun (s : Sg × Int32) => Fr SC s.1 mm) (E := fun (s : Sg) => Fr SC s mm) hm ?_ ?_
  · rintro m3 hm
    (try dsimp only at hm)
    (try dsimp only)
    exact fr_retv hm
  · rintro ⟨m1, x2⟩ o hm hx5 hi4
    (try dsimp only [f_X3_weighAll_L2] at hm)
    (try dsimp only)
    skip
    skip
    skip
    refine fr_cal hm (fun _ _ h => fr_X0_children (by first | rfl | assumption | (simp [SC]; done) | (simp [SC]; omega)) h) (fun x7 m6 hm => ?_)
    refine fr_if hm (fun hm => ?_) (fun hm => ?_)
    · skip
      cases hm
      exact hx5 _ rfl
    · skip
      skip
      refine g_lp (I := fun (s : Sg × Int32) => Fr SC s.1 mm) (E := fun (s : Sg) => Fr SC s mm) hm ?_ ?_
      · rintro m10 hm
        (try dsimp only at hm)
        (try dsimp only)
        refine fr_b hm (fun x27 hm => ?_)
        skip
        cases hm
        exact hi4 _ rfl
      · rintro ⟨m8, x9⟩ o hm hx12 hi11
        (try dsimp only [f_X3_weighAll_L16] at hm)
        (try dsimp only)
        skip
        skip
        skip
        refine fr_cal hm (fun _ _ h => fr_X0_children (by first | rfl | assumption | (simp [SC]; done) | (simp [SC]; omega)) h) (fun x14 m13 hm => ?_)
        refine fr_if hm (fun hm => ?_) (fun hm => ?_)
        · skip
          cases hm
          exact hx12 _ rfl
        · skip
          skip
          refine fr_cal hm (fun _ _ h => fr_X3_placeOf h) (fun x16 m15 hm => ?_)
          skip
          skip
          skip
          skip
          skip
          refine fr_cal hm (fun _ _ h => fr_X0_isOfNursery (by first | rfl | assumption | (simp [SC]; done) | (simp [SC]; omega)) h) (fun x18 m17 hm => ?_)
          refine g_jn (J := fun (s : Sg) => Fr SC s mm) hm ?_ ?_
          · intro m19 hm
            refine fr_b hm (fun x21 hm => ?_)
            skip
            cases hm
            exact hi11 _ rfl
          · intro k20 hk20 hm
            refine fr_if hm (fun hm => ?_) (fun hm => ?_)
            · skip
              exact hk20 _ hm
            · skip
              skip
              skip
              skip
              refine fr_cal hm (fun _ _ h => fr_X0_isOfNursery (by first | rfl | assumption | (simp [SC]; done) | (simp [SC]; omega)) h) (fun x23 m22 hm => ?_)
              refine fr_if hm (fun hm => ?_) (fun hm => ?_)
              · skip
                exact hk20 _ hm
              · skip
                skip
                skip
                skip
                refine fr_if hm (fun hm => ?_) (fun hm => ?_)
                · skip
                  exact hk20 _ hm
                · skip
                  skip
                  skip
                  skip
                  skip
                  skip
                  refine fr_cal hm (fun _ _ h => fr_X3_gain h) (fun x25 m24 hm => ?_)
                  refine fr_st hm (by first | rfl | assumption | (simp [SC]; done) | (simp [SC]; omega)) (fun m26 hm => ?_)
                  skip
                  exact hk20 _ hm
set_option maxRecDepth 4000 in
theorem fr_X3_seekRowOfLength {m mm : Sg} {a1 : Int32} {a2 : Int32} {a3 : Int32} {a4 : Int32} {a5 : Int32} (hm : f_X3_seekRowOfLength  m a1 a2 a3 a4 a5 = some mm) : Fr SC m mm := by
  unfold f_X3_seekRowOfLength at hm
  skip
  skip
  refine g_lp (I := fun (s : Sg × Int32) => Fr SC s.1 mm) (E := fun (s : Sg) => Fr SC s mm) hm ?_ ?_
  · rintro m3 hm
    (try dsimp only at hm)
    (try dsimp only)
    exact fr_retv hm
  · rintro ⟨m1, x2⟩ o hm hx5 hi4
    (try dsimp only [f_X3_seekRowOfLength_L3] at hm)
    (try dsimp only)
    skip
    skip
    refine fr_if hm (fun hm => ?_) (fun hm => ?_)
    · skip
      cases hm
      exact hx5 _ rfl
    · skip
      skip
      skip
      refine fr_if hm (fun hm => ?_) (fun hm => ?_)
      · skip
        cases hm
        exact hx5 _ rfl
      · skip
        skip
        skip
        refine fr_cal hm (fun _ _ h => fr_X3_isOfTens h) (fun x7 m6 hm => ?_)
        refine g_jn (J := fun (s : Sg) => Fr SC s mm) hm ?_ ?_
        · intro m8 hm
          refine fr_b hm (fun x10 hm => ?_)
          skip
          cases hm
          exact hi4 _ rfl
        · intro k9 hk9 hm
          refine fr_fi hm (fun hm => ?_) (fun hm => ?_)
          · skip
            skip
            skip
            skip
            skip
            refine fr_cal hm (fun _ _ h => fr_X3_monthsByRow h) (fun x12 m11 hm => ?_)
            skip
            skip
            skip
            skip
            refine fr_if hm (fun hm => ?_) (fun hm => ?_)
            · skip
              exact hk9 _ hm
            · skip
              skip
              refine fr_wr hm (by first | rfl | assumption | (simp [SC]; done) | (simp [SC]; omega)) (fun m13 hm => ?_)
              skip
              skip
              refine fr_wr hm (by first | rfl | assumption | (simp [SC]; done) | (simp [SC]; omega)) (fun m14 hm => ?_)
              skip
              skip
              refine fr_wr hm (by first | rfl | assumption | (simp [SC]; done) | (simp [SC]; omega)) (fun m15 hm => ?_)
              skip
              exact hk9 _ hm
          · skip
            exact hk9 _ hm
set_option maxRecDepth 4000 in
theorem fr_X3_seekRow {m mm : Sg} {a1 : Int32} {a2 : Int32} (hm : f_X3_seekRow  m a1 a2 = some mm) : Fr SC m mm := by
  unfold f_X3_seekRow at hm
  skip
  skip
  skip
  refine fr_calv hm (fun _ h => fr_X3_foreseeOthers h) (fun m1 hm => ?_)
  skip
  skip
  refine fr_wr hm (by first | rfl | assumption | (simp [SC]; done) | (simp [SC]; omega)) (fun m2 hm => ?_)
  skip
  skip
  refine fr_wr hm (by first | rfl | assumption | (simp [SC]; done) | (simp [SC]; omega)) (fun m3 hm => ?_)
  skip
  skip
  skip
  skip
  skip
  skip
  refine fr_cal hm (fun _ _ h => fr_X3_monthsByRow h) (fun x5 m4 hm => ?_)
  refine fr_wr hm (by first | rfl | assumption | (simp [SC]; done) | (simp [SC]; omega)) (fun m6 hm => ?_)
  skip
  skip
  skip
  skip
  refine fr_cal hm (fun _ _ h => fr_X0_rightOf (by first | rfl | assumption | (simp [SC]; done) | (simp [SC]; omega)) h) (fun x8 m7 hm => ?_)
  skip
  skip
  skip
  skip
  skip
  skip
  skip
  refine fr_cal hm (fun _ _ h => fr_X0_kid (by first | rfl | assumption | (simp [SC]; done) | (simp [SC]; omega)) h) (fun x10 m9 hm => ?_)
  skip
  skip
  skip
  refine fr_b hm (fun x11 hm => ?_)
  skip
  skip
  skip
  skip
  refine g_lp (I := fun (s : Sg × Int32 × Int32) => Fr SC s.1 mm) (E := fun (s : Sg) => Fr SC s mm) hm ?_ ?_
  · rintro m15 hm
    (try dsimp only at hm)
    (try dsimp only)
    exact fr_retv hm
  · rintro ⟨m12, x13, x14⟩ o hm hx17 hi16
    (try dsimp only [f_X3_seekRow_L62] at hm)
    (try dsimp only)
    skip
    skip
    refine fr_if hm (fun hm => ?_) (fun hm => ?_)
    · skip
      cases hm
      exact hx17 _ rfl
    · skip
      skip
      skip
      refine fr_b hm (fun x18 hm => ?_)
      skip
      skip
      skip
      skip
      skip
      refine fr_cal hm (fun _ _ h => fr_X0_kid (by first | rfl | assumption | (simp [SC]; done) | (simp [SC]; omega)) h) (fun x20 m19 hm => ?_)
      skip
      skip
      refine g_jn (J := fun (s : Sg) => Fr SC s mm) hm ?_ ?_
      · intro m21 hm
        refine fr_b hm (fun x23 hm => ?_)
        skip
        cases hm
        exact hi16 _ rfl
      · intro k22 hk22 hm
        refine fr_if hm (fun hm => ?_) (fun hm => ?_)
        · exact hk22 _ hm
        · skip
          skip
          skip
          skip
          skip
          skip
          refine fr_calv hm (fun _ h => fr_X3_seekRowOfLength h) (fun m24 hm => ?_)
          exact hk22 _ hm
set_option maxRecDepth 4000 in
theorem fr_X10_feed {m mm : Sg} {r : Int32} {a1 : Int32} {a2 : Int32} {a3 : Int32} {a4 : Int32} {a5 : Int32} (hm : f_X10_feed  m a1 a2 a3 a4 a5 = some (r, mm)) : Fr SC m mm := by
  unfold f_X10_feed at hm
  skip
  refine fr_cal hm (fun _ _ h => fr_X9_filled h) (fun x2 m1 hm => ?_)
  skip
  refine fr_cal hm (fun _ _ h => fr_X9_filled h) (fun x4 m3 hm => ?_)
  skip
  skip
  refine fr_cal hm (fun _ _ h => fr_X9_filled h) (fun x6 m5 hm => ?_)
  skip
  skip
  refine fr_cal hm (fun _ _ h => fr_X9_filled h) (fun x8 m7 hm => ?_)
  skip
  skip
  refine fr_cal hm (fun _ _ h => fr_X9_filled h) (fun x10 m9 hm => ?_)
  skip
  refine fr_b hm (fun x11 hm => ?_)
  skip
  skip
  refine fr_cal hm (fun _ _ h => fr_X9_size h) (fun x13 m12 hm => ?_)
  skip
  skip
  skip
  refine fr_if hm (fun hm => ?_) (fun hm => ?_)
  · skip
    skip
    skip
    refine fr_calv hm (fun _ h => fr_X9_add h) (fun m14 hm => ?_)
    skip
    skip
    skip
    refine fr_calv hm (fun _ h => fr_X9_add h) (fun m15 hm => ?_)
    skip
    skip
    skip
    refine fr_calv hm (fun _ h => fr_X9_add h) (fun m16 hm => ?_)
    skip
    skip
    skip
    refine fr_calv hm (fun _ h => fr_X9_add h) (fun m17 hm => ?_)
    skip
    skip
    skip
    refine fr_calv hm (fun _ h => fr_X9_add h) (fun m18 hm => ?_)
    skip
    skip
    refine fr_cal hm (fun _ _ h => fr_X9_size h) (fun x20 m19 hm => ?_)
    exact fr_ret hm
  · skip
    exact fr_ret hm
set_option maxRecDepth 4000 in
theorem fr_X10_end {m mm : Sg} {r : Int32} {a1 : Int32} (hm : f_X10_end  m a1 = some (r, mm)) : Fr SC m mm := by
  unfold f_X10_end at hm
  skip
  refine fr_if hm (fun hm => ?_) (fun hm => ?_)
  · skip
    exact fr_ret hm
  · skip
    skip
    skip
    refine fr_cal hm (fun _ _ h => fr_X9_size h) (fun x2 m1 hm => ?_)
    refine fr_if hm (fun hm => ?_) (fun hm => ?_)
    · skip
      skip
      skip
      refine fr_calv hm (fun _ h => fr_X9_cut h) (fun m3 hm => ?_)
      skip
      exact fr_ret hm
    · skip
      exact fr_ret hm
set_option maxRecDepth 4000 in
theorem fr_X10_fault {m mm : Sg} {r : Int32} {a1 : Int32} (hm : f_X10_fault  m a1 = some (r, mm)) : Fr SC m mm := by
  unfold f_X10_fault at hm
  skip
  refine fr_fi hm (fun hm => ?_) (fun hm => ?_)
  · skip
    skip
    refine fr_fi hm (fun hm => ?_) (fun hm => ?_)
    · skip
      exact fr_ret hm
    · skip
      skip
      refine fr_cal hm (fun _ _ h => fr_X6_read h) (fun x2 m1 hm => ?_)
      skip
      exact fr_ret hm
  · skip
    skip
    skip
    skip
    refine fr_cal hm (fun _ _ h => fr_X1_read h) (fun x4 m3 hm => ?_)
    exact fr_ret hm
set_option maxRecDepth 4000 in
theorem fr_X10_text {m mm : Sg} {r : Int32} {a1 : Int32} (hm : f_X10_text  m a1 = some (r, mm)) : Fr SC m mm := by
  unfold f_X10_text at hm
  skip
  refine g_jn (J := fun (s : Sg) => Fr SC s mm) hm ?_ ?_
  · intro m1 hm
    skip
    skip
    refine fr_fi hm (fun hm => ?_) (fun hm => ?_)
    · skip
      exact fr_ret hm
    · skip
      skip
      refine fr_cal hm (fun _ _ h => fr_X5_hasRoom h) (fun x4 m3 hm => ?_)
      refine fr_if hm (fun hm => ?_) (fun hm => ?_)
      · skip
        exact fr_ret hm
      · skip
        skip
        refine fr_cal hm (fun _ _ h => fr_X6_read h) (fun x6 m5 hm => ?_)
        skip
        refine fr_fi hm (fun hm => ?_) (fun hm => ?_)
        · skip
          exact fr_ret hm
        · skip
          skip
          skip
          refine fr_calv hm (fun _ h => fr_X9_cut h) (fun m7 hm => ?_)
          cases hm
  · intro k2 hk2 hm
    refine fr_fi hm (fun hm => ?_) (fun hm => ?_)
    · exact hk2 _ hm
    · skip
      skip
      skip
      skip
      refine fr_cal hm (fun _ _ h => fr_X1_read h) (fun x9 m8 hm => ?_)
      skip
      refine fr_fi hm (fun hm => ?_) (fun hm => ?_)
      · exact hk2 _ hm
      · skip
        skip
        skip
        skip
        refine fr_calv hm (fun _ h => fr_X0_become (by first | rfl | assumption | (simp [SC]; done) | (simp [SC]; omega)) (by first | rfl | assumption | (simp [SC]; done) | (simp [SC]; omega)) h) (fun m10 hm => ?_)
        skip
        skip
        refine fr_calv hm (fun _ h => fr_X7_forgetAll h) (fun m11 hm => ?_)
        skip
        skip
        skip
        refine fr_calv hm (fun _ h => fr_X9_cut h) (fun m12 hm => ?_)
        skip
        skip
        refine fr_cal hm (fun _ _ h => fr_X0_children (by first | rfl | assumption | (simp [SC]; done) | (simp [SC]; omega)) h) (fun x14 m13 hm => ?_)
        exact fr_ret hm
set_option maxRecDepth 4000 in
theorem fr_X10_child {m mm : Sg} {r : Int32} {a1 : Int32} {a2 : Int32} {nl : Nat} {ln : Nat → Nat} (hm : f_X10_child nl ln  m a1 a2 = some (r, mm)) : Fr SC m mm := by
  unfold f_X10_child at hm
  skip
  skip
  skip
  refine fr_cal hm (fun _ _ h => fr_X0_hasChild (by first | rfl | assumption | (simp [SC]; done) | (simp [SC]; omega)) h) (fun x2 m1 hm => ?_)
  refine g_jn (J := fun (s : Sg) => Fr SC s mm) hm ?_ ?_
  · intro m3 hm
    cases hm
  · intro k4 hk4 hm
    refine fr_if hm (fun hm => ?_) (fun hm => ?_)
    · skip
      exact hk4 _ hm
    · skip
      refine fr_if hm (fun hm => ?_) (fun hm => ?_)
      · skip
        exact hk4 _ hm
      · skip
        skip
        refine fr_if hm (fun hm => ?_) (fun hm => ?_)
        · skip
          skip
          refine fr_fi hm (fun hm => ?_) (fun hm => ?_)
          · skip
            skip
            refine fr_fi hm (fun hm => ?_) (fun hm => ?_)
            · skip
              skip
              skip
              skip
              refine fr_cal hm (fun _ _ h => fr_X0_kid (by first | rfl | assumption | (simp [SC]; done) | (simp [SC]; omega)) h) (fun x6 m5 hm => ?_)
              exact fr_ret hm
            · skip
              skip
              skip
              skip
              skip
              skip
              skip
              refine fr_cal hm (fun _ _ h => fr_X5_holding h) (fun x8 m7 hm => ?_)
              refine fr_cal hm (fun _ _ h => fr_X5_taxOf (by first | rfl | assumption | (simp [SC]; done) | (simp [SC]; omega)) h) (fun x10 m9 hm => ?_)
              skip
              exact fr_ret hm
          · skip
            skip
            skip
            refine fr_cal hm (fun _ _ h => fr_X0_countOf (by first | rfl | assumption | (simp [SC]; done) | (simp [SC]; omega)) h) (fun x12 m11 hm => ?_)
            exact fr_ret hm
        · skip
          exact hk4 _ hm
set_option maxRecDepth 4000 in
theorem fr_X10_elder {m mm : Sg} {r : Int32} {a1 : Int32} {a2 : Int32} (hm : f_X10_elder  m a1 a2 = some (r, mm)) : Fr SC m mm := by
  unfold f_X10_elder at hm
  skip
  skip
  skip
  refine fr_cal hm (fun _ _ h => fr_X0_hasElder (by first | rfl | assumption | (simp [SC]; done) | (simp [SC]; omega)) h) (fun x2 m1 hm => ?_)
  refine fr_if hm (fun hm => ?_) (fun hm => ?_)
  · skip
    exact fr_ret hm
  · skip
    refine fr_if hm (fun hm => ?_) (fun hm => ?_)
    · skip
      exact fr_ret hm
    · skip
      skip
      refine fr_if hm (fun hm => ?_) (fun hm => ?_)
      · skip
        exact fr_ret hm
      · skip
        skip
        skip
        skip
        refine fr_cal hm (fun _ _ h => fr_X0_old (by first | rfl | assumption | (simp [SC]; done) | (simp [SC]; omega)) h) (fun x4 m3 hm => ?_)
        skip
        exact fr_ret hm
set_option maxRecDepth 4000 in
theorem fr_X10_rule {m mm : Sg} {r : Int32} {a1 : Int32} (hm : f_X10_rule  m a1 = some (r, mm)) : Fr SC m mm := by
  unfold f_X10_rule at hm
  skip
  skip
  refine fr_cal hm (fun _ _ h => fr_X0_isTold (by first | rfl | assumption | (simp [SC]; done) | (simp [SC]; omega)) h) (fun x2 m1 hm => ?_)
  refine fr_if hm (fun hm => ?_) (fun hm => ?_)
  · skip
    exact fr_ret hm
  · skip
    refine fr_if hm (fun hm => ?_) (fun hm => ?_)
    · skip
      exact fr_ret hm
    · skip
      skip
      refine fr_if hm (fun hm => ?_) (fun hm => ?_)
      · skip
        exact fr_ret hm
      · skip
        skip
        skip
        skip
        skip
        refine fr_cal hm (fun _ _ h => fr_X0_cell (by first | rfl | assumption | (simp [SC]; done) | (simp [SC]; omega)) h) (fun x4 m3 hm => ?_)
        skip
        exact fr_ret hm
set_option maxRecDepth 4000 in
theorem fr_X10_law {m mm : Sg} {r : Int32} {a1 : Int32} (hm : f_X10_law  m a1 = some (r, mm)) : Fr SC m mm := by
  unfold f_X10_law at hm
  skip
  skip
  skip
  refine fr_cal hm (fun _ _ h => fr_X5_letHold h) (fun x2 m1 hm => ?_)
  exact fr_retz hm
set_option maxRecDepth 4000 in
theorem fr_X10_fever {m mm : Sg} {r : Int32} {a1 : Int32} (hm : f_X10_fever  m a1 = some (r, mm)) : Fr SC m mm := by
  unfold f_X10_fever at hm
  skip
  refine fr_if hm (fun hm => ?_) (fun hm => ?_)
  · skip
    exact fr_ret hm
  · skip
    skip
    refine fr_if hm (fun hm => ?_) (fun hm => ?_)
    · skip
      exact fr_ret hm
    · skip
      skip
      skip
      refine fr_fi hm (fun hm => ?_) (fun hm => ?_)
      · skip
        skip
        refine fr_wr hm (by first | rfl | assumption | (simp [SC]; done) | (simp [SC]; omega)) (fun m1 hm => ?_)
        skip
        exact fr_ret hm
      · skip
        exact fr_ret hm
set_option maxRecDepth 4000 in
theorem fr_X10_passes {m mm : Sg} {r : Int32} {a1 : Int32} {a2 : Int32} (hm : f_X10_passes  m a1 a2 = some (r, mm)) : Fr SC m mm := by
  unfold f_X10_passes at hm
  skip
  skip
  skip
  refine fr_cal hm (fun _ _ h => fr_X0_hasChild (by first | rfl | assumption | (simp [SC]; done) | (simp [SC]; omega)) h) (fun x2 m1 hm => ?_)
  refine fr_if hm (fun hm => ?_) (fun hm => ?_)
  · skip
    exact fr_ret hm
  · skip
    skip
    skip
    refine fr_cal hm (fun _ _ h => fr_X0_hasElder (by first | rfl | assumption | (simp [SC]; done) | (simp [SC]; omega)) h) (fun x4 m3 hm => ?_)
    refine fr_fi hm (fun hm => ?_) (fun hm => ?_)
    · skip
      skip
      skip
      skip
      refine fr_cal hm (fun _ _ h => fr_X0_stands (by first | rfl | assumption | (simp [SC]; done) | (simp [SC]; omega)) h) (fun x6 m5 hm => ?_)
      refine fr_if hm (fun hm => ?_) (fun hm => ?_)
      · skip
        exact fr_ret hm
      · skip
        skip
        exact fr_ret hm
    · skip
      exact fr_ret hm
set_option maxRecDepth 4000 in
theorem fr_X10_slips {m mm : Sg} {r : Int32} {a1 : Int32} {a2 : Int32} (hm : f_X10_slips  m a1 a2 = some (r, mm)) : Fr SC m mm := by
  unfold f_X10_slips at hm
  skip
  skip
  skip
  refine fr_cal hm (fun _ _ h => fr_X0_hasChild (by first | rfl | assumption | (simp [SC]; done) | (simp [SC]; omega)) h) (fun x2 m1 hm => ?_)
  refine fr_if hm (fun hm => ?_) (fun hm => ?_)
  · skip
    exact fr_ret hm
  · skip
    skip
    skip
    refine fr_cal hm (fun _ _ h => fr_X0_hasElder (by first | rfl | assumption | (simp [SC]; done) | (simp [SC]; omega)) h) (fun x4 m3 hm => ?_)
    refine fr_if hm (fun hm => ?_) (fun hm => ?_)
    · skip
      exact fr_ret hm
    · skip
      skip
      skip
      skip
      refine fr_cal hm (fun _ _ h => fr_X0_wants (by first | rfl | assumption | (simp [SC]; done) | (simp [SC]; omega)) h) (fun x6 m5 hm => ?_)
      skip
      exact fr_ret hm
set_option maxRecDepth 4000 in
theorem fr_X10_examiner {m mm : Sg} {r : Int32} (hm : f_X10_examiner  m  = some (r, mm)) : Fr SC m mm := by
  unfold f_X10_examiner at hm
  skip
  skip
  refine fr_cal hm (fun _ _ h => fr_X0_trier (by first | rfl | assumption | (simp [SC]; done) | (simp [SC]; omega)) h) (fun x2 m1 hm => ?_)
  exact fr_ret hm
set_option maxRecDepth 4000 in
theorem fr_X10_log {m mm : Sg} {r : Int32} {a1 : Int32} {a2 : Int32} (hm : f_X10_log  m a1 a2 = some (r, mm)) : Fr SC m mm := by
  unfold f_X10_log at hm
  skip
  refine fr_if hm (fun hm => ?_) (fun hm => ?_)
  · skip
    exact fr_ret hm
  · skip
    skip
    skip
    skip
    skip
    refine fr_cal hm (fun _ _ h => fr_X7_logLength h) (fun x2 m1 hm => ?_)
    refine fr_if hm (fun hm => ?_) (fun hm => ?_)
    · skip
      exact fr_ret hm
    · skip
      refine fr_if hm (fun hm => ?_) (fun hm => ?_)
      · skip
        exact fr_ret hm
      · skip
        skip
        refine fr_if hm (fun hm => ?_) (fun hm => ?_)
        · skip
          skip
          skip
          skip
          skip
          refine fr_cal hm (fun _ _ h => fr_X0_cell (by first | rfl | assumption | (simp [SC]; done) | (simp [SC]; omega)) h) (fun x4 m3 hm => ?_)
          skip
          skip
          skip
          refine fr_cal hm (fun _ _ h => fr_X7_logged h) (fun x6 m5 hm => ?_)
          exact fr_ret hm
        · skip
          exact fr_ret hm
set_option maxRecDepth 4000 in
theorem fr_X10_count {m mm : Sg} {r : Int32} {a1 : Int32} (hm : f_X10_count  m a1 = some (r, mm)) : Fr SC m mm := by
  unfold f_X10_count at hm
  skip
  refine fr_if hm (fun hm => ?_) (fun hm => ?_)
  · skip
    skip
    refine fr_cal hm (fun _ _ h => fr_X0_children (by first | rfl | assumption | (simp [SC]; done) | (simp [SC]; omega)) h) (fun x2 m1 hm => ?_)
    exact fr_ret hm
  · refine fr_if hm (fun hm => ?_) (fun hm => ?_)
    · skip
      skip
      refine fr_cal hm (fun _ _ h => fr_X0_elders (by first | rfl | assumption | (simp [SC]; done) | (simp [SC]; omega)) h) (fun x4 m3 hm => ?_)
      exact fr_ret hm
    · refine fr_if hm (fun hm => ?_) (fun hm => ?_)
      · skip
        skip
        refine fr_cal hm (fun _ _ h => fr_X5_size h) (fun x6 m5 hm => ?_)
        exact fr_ret hm
      · refine fr_if hm (fun hm => ?_) (fun hm => ?_)
        · skip
          skip
          refine fr_cal hm (fun _ _ h => fr_X9_size h) (fun x8 m7 hm => ?_)
          exact fr_ret hm
        · refine fr_if hm (fun hm => ?_) (fun hm => ?_)
          · skip
            skip
            refine fr_cal hm (fun _ _ h => fr_X5_holding h) (fun x10 m9 hm => ?_)
            exact fr_ret hm
          · refine fr_if hm (fun hm => ?_) (fun hm => ?_)
            · skip
              skip
              skip
              refine fr_cal hm (fun _ _ h => fr_X0_cell (by first | rfl | assumption | (simp [SC]; done) | (simp [SC]; omega)) h) (fun x12 m11 hm => ?_)
              exact fr_ret hm
            · refine fr_if hm (fun hm => ?_) (fun hm => ?_)
              · skip
                skip
                refine fr_cal hm (fun _ _ h => fr_X0_ruler (by first | rfl | assumption | (simp [SC]; done) | (simp [SC]; omega)) h) (fun x14 m13 hm => ?_)
                exact fr_ret hm
              · refine fr_if hm (fun hm => ?_) (fun hm => ?_)
                · skip
                  skip
                  skip
                  refine fr_cal hm (fun _ _ h => fr_X0_cell (by first | rfl | assumption | (simp [SC]; done) | (simp [SC]; omega)) h) (fun x16 m15 hm => ?_)
                  exact fr_ret hm
                · refine fr_if hm (fun hm => ?_) (fun hm => ?_)
                  · skip
                    skip
                    exact fr_ret hm
                  · refine fr_if hm (fun hm => ?_) (fun hm => ?_)
                    · skip
                      skip
                      refine fr_cal hm (fun _ _ h => fr_X0_ruler (by first | rfl | assumption | (simp [SC]; done) | (simp [SC]; omega)) h) (fun x18 m17 hm => ?_)
                      skip
                      refine fr_fi hm (fun hm => ?_) (fun hm => ?_)
                      · skip
                        skip
                        skip
                        skip
                        refine fr_cal hm (fun _ _ h => fr_X0_ruler (by first | rfl | assumption | (simp [SC]; done) | (simp [SC]; omega)) h) (fun x20 m19 hm => ?_)
                        refine fr_cal hm (fun _ _ h => fr_X0_countOf (by first | rfl | assumption | (simp [SC]; done) | (simp [SC]; omega)) h) (fun x22 m21 hm => ?_)
                        exact fr_ret hm
                      · skip
                        skip
                        exact fr_ret hm
                    · refine fr_if hm (fun hm => ?_) (fun hm => ?_)
                      · skip
                        skip
                        skip
                        skip
                        refine fr_cal hm (fun _ _ h => fr_X7_logLength h) (fun x24 m23 hm => ?_)
                        exact fr_ret hm
                      · refine fr_if hm (fun hm => ?_) (fun hm => ?_)
                        · skip
                          skip
                          refine fr_cal hm (fun _ _ h => fr_X7_acts h) (fun x26 m25 hm => ?_)
                          exact fr_ret hm
                        · skip
                          skip
                          exact fr_ret hm
set_option maxRecDepth 4000 in
theorem fr_X10_undo {m mm : Sg} {r : Int32} (hm : f_X10_undo  m  = some (r, mm)) : Fr SC m mm := by
  unfold f_X10_undo at hm
  skip
  skip
  refine fr_cal hm (fun _ _ h => fr_X7_acts h) (fun x2 m1 hm => ?_)
  refine fr_fi hm (fun hm => ?_) (fun hm => ?_)
  · skip
    skip
    skip
    skip
    refine fr_calv hm (fun _ h => fr_X7_recall h) (fun m3 hm => ?_)
    skip
    skip
    refine fr_cal hm (fun _ _ h => fr_X7_acts h) (fun x5 m4 hm => ?_)
    exact fr_ret hm
  · skip
    exact fr_ret hm
set_option maxRecDepth 4000 in
theorem fr_X10_image {m mm : Sg} {r : Int32} (hm : f_X10_image  m  = some (r, mm)) : Fr SC m mm := by
  unfold f_X10_image at hm
  skip
  skip
  refine fr_cal hm (fun _ _ h => fr_X0_isTold (by first | rfl | assumption | (simp [SC]; done) | (simp [SC]; omega)) h) (fun x2 m1 hm => ?_)
  refine fr_fi hm (fun hm => ?_) (fun hm => ?_)
  · skip
    skip
    skip
    skip
    refine fr_calv hm (fun _ h => fr_X7_paint h) (fun m3 hm => ?_)
    skip
    skip
    skip
    refine fr_cal hm (fun _ _ h => fr_X0_cell (by first | rfl | assumption | (simp [SC]; done) | (simp [SC]; omega)) h) (fun x5 m4 hm => ?_)
    exact fr_ret hm
  · skip
    exact fr_ret hm
set_option maxRecDepth 4000 in
theorem fr_X10_back {m mm : Sg} {r : Int32} (hm : f_X10_back  m  = some (r, mm)) : Fr SC m mm := by
  unfold f_X10_back at hm
  skip
  skip
  refine fr_cal hm (fun _ _ h => fr_X7_hasImage h) (fun x2 m1 hm => ?_)
  refine fr_fi hm (fun hm => ?_) (fun hm => ?_)
  · skip
    skip
    skip
    skip
    refine fr_calv hm (fun _ h => fr_X7_restore h) (fun m3 hm => ?_)
    skip
    skip
    skip
    refine fr_cal hm (fun _ _ h => fr_X0_cell (by first | rfl | assumption | (simp [SC]; done) | (simp [SC]; omega)) h) (fun x5 m4 hm => ?_)
    exact fr_ret hm
  · skip
    exact fr_ret hm
set_option maxRecDepth 4000 in
theorem fr_X10_draw {m mm : Sg} {r : Int32} {a1 : Int32} (hm : f_X10_draw  m a1 = some (r, mm)) : Fr SC m mm := by
  unfold f_X10_draw at hm
  skip
  skip
  skip
  skip
  skip
  skip
  skip
  refine fr_wrl hm (by first | rfl | assumption | (simp [SC]; done) | (simp [SC]; omega)) (fun m1 hm => ?_)
  skip
  refine fr_if hm (fun hm => ?_) (fun hm => ?_)
  · skip
    exact fr_ret hm
  · skip
    skip
    skip
    skip
    skip
    skip
    refine fr_n hm (fun hm => ?_)
    skip
    skip
    exact fr_ret hm
set_option maxRecDepth 4000 in
theorem fr_X10_plan {m mm : Sg} {r : Int32} {a1 : Int32} {a2 : Int32} {a3 : Int32} (hm : f_X10_plan  m a1 a2 a3 = some (r, mm)) : Fr SC m mm := by
  unfold f_X10_plan at hm
  skip
  skip
  skip
  refine fr_cal hm (fun _ _ h => fr_X0_hasChild (by first | rfl | assumption | (simp [SC]; done) | (simp [SC]; omega)) h) (fun x2 m1 hm => ?_)
  refine fr_if hm (fun hm => ?_) (fun hm => ?_)
  · skip
    exact fr_ret hm
  · skip
    skip
    refine fr_if hm (fun hm => ?_) (fun hm => ?_)
    · skip
      exact fr_ret hm
    · skip
      skip
      refine fr_if hm (fun hm => ?_) (fun hm => ?_)
      · skip
        exact fr_ret hm
      · skip
        refine fr_if hm (fun hm => ?_) (fun hm => ?_)
        · skip
          exact fr_ret hm
        · skip
          skip
          refine fr_if hm (fun hm => ?_) (fun hm => ?_)
          · skip
            skip
            skip
            skip
            refine fr_cal hm (fun _ _ h => fr_X0_kid (by first | rfl | assumption | (simp [SC]; done) | (simp [SC]; omega)) h) (fun x4 m3 hm => ?_)
            skip
            refine fr_if hm (fun hm => ?_) (fun hm => ?_)
            · skip
              skip
              skip
              skip
              refine fr_calv hm (fun _ h => fr_X3_seekRow h) (fun m5 hm => ?_)
              skip
              refine fr_fi hm (fun hm => ?_) (fun hm => ?_)
              · skip
                skip
                refine fr_fi hm (fun hm => ?_) (fun hm => ?_)
                · skip
                  skip
                  refine fr_cal hm (fun _ _ h => fr_X3_bestLength h) (fun x7 m6 hm => ?_)
                  exact fr_ret hm
                · skip
                  skip
                  refine fr_cal hm (fun _ _ h => fr_X3_bestMonths h) (fun x9 m8 hm => ?_)
                  skip
                  exact fr_ret hm
              · skip
                skip
                refine fr_cal hm (fun _ _ h => fr_X3_bestRow h) (fun x11 m10 hm => ?_)
                exact fr_ret hm
            · skip
              exact fr_ret hm
          · skip
            exact fr_ret hm
set_option maxRecDepth 4000 in
theorem fr_X10_late {m mm : Sg} {r : Int32} (hm : f_X10_late  m  = some (r, mm)) : Fr SC m mm := by
  unfold f_X10_late at hm
  skip
  skip
  refine fr_cal hm (fun _ _ h => fr_X0_isTold (by first | rfl | assumption | (simp [SC]; done) | (simp [SC]; omega)) h) (fun x2 m1 hm => ?_)
  refine fr_if hm (fun hm => ?_) (fun hm => ?_)
  · skip
    exact fr_ret hm
  · skip
    skip
    skip
    refine fr_cal hm (fun _ _ h => fr_X3_monthsOfTrials h) (fun x4 m3 hm => ?_)
    skip
    exact fr_ret hm
set_option maxRecDepth 4000 in
theorem fr_X10_plums {m mm : Sg} {r : Int32} {a1 : Int32} (hm : f_X10_plums  m a1 = some (r, mm)) : Fr SC m mm := by
  unfold f_X10_plums at hm
  skip
  skip
  refine fr_cal hm (fun _ _ h => fr_X0_trier (by first | rfl | assumption | (simp [SC]; done) | (simp [SC]; omega)) h) (fun x2 m1 hm => ?_)
  skip
  skip
  skip
  refine g_jn (J := fun (s : Sg) => Fr SC s mm) hm ?_ ?_
  · intro m3 hm
    skip
    skip
    exact fr_ret hm
  · intro k4 hk4 hm
    refine fr_if hm (fun hm => ?_) (fun hm => ?_)
    · skip
      exact hk4 _ hm
    · skip
      skip
      skip
      refine fr_cal hm (fun _ _ h => fr_X0_hasChild (by first | rfl | assumption | (simp [SC]; done) | (simp [SC]; omega)) h) (fun x6 m5 hm => ?_)
      refine fr_fi hm (fun hm => ?_) (fun hm => ?_)
      · skip
        skip
        skip
        skip
        refine fr_cal hm (fun _ _ h => fr_X0_plumsToStand (by first | rfl | assumption | (simp [SC]; done) | (simp [SC]; omega)) h) (fun x8 m7 hm => ?_)
        exact fr_ret hm
      · skip
        exact hk4 _ hm
set_option maxRecDepth 4000 in
theorem fr_X10_teachers {m mm : Sg} {r : Int32} {a1 : Int32} {a2 : Int32} (hm : f_X10_teachers  m a1 a2 = some (r, mm)) : Fr SC m mm := by
  unfold f_X10_teachers at hm
  skip
  skip
  skip
  refine fr_cal hm (fun _ _ h => fr_X0_hasChild (by first | rfl | assumption | (simp [SC]; done) | (simp [SC]; omega)) h) (fun x2 m1 hm => ?_)
  refine fr_if hm (fun hm => ?_) (fun hm => ?_)
  · skip
    exact fr_ret hm
  · skip
    skip
    refine fr_if hm (fun hm => ?_) (fun hm => ?_)
    · skip
      exact fr_ret hm
    · skip
      skip
      skip
      skip
      refine fr_cal hm (fun _ _ h => fr_X8_teachersAt h) (fun x4 m3 hm => ?_)
      skip
      exact fr_ret hm
set_option maxRecDepth 4000 in
theorem fr_X10_spans {m mm : Sg} {r : Int32} {a1 : Int32} {a2 : Int32} {nl : Nat} {ln : Nat → Nat} (hm : f_X10_spans nl ln  m a1 a2 = some (r, mm)) : Fr SC m mm := by
  unfold f_X10_spans at hm
  skip
  skip
  skip
  refine fr_cal hm (fun _ _ h => fr_X0_hasChild (by first | rfl | assumption | (simp [SC]; done) | (simp [SC]; omega)) h) (fun x2 m1 hm => ?_)
  refine fr_if hm (fun hm => ?_) (fun hm => ?_)
  · skip
    exact fr_ret hm
  · skip
    refine fr_if hm (fun hm => ?_) (fun hm => ?_)
    · skip
      exact fr_ret hm
    · skip
      skip
      refine fr_if hm (fun hm => ?_) (fun hm => ?_)
      · skip
        skip
        skip
        skip
        refine g_lp (I := fun (s : Sg × Int32 × Int32) => Fr SC s.1 mm) (E := fun (s : Sg × Int32) => Fr SC s.1 mm) hm ?_ ?_
        · rintro ⟨m6, x7⟩ hm
          (try dsimp only at hm)
          (try dsimp only)
          skip
          exact fr_ret hm
        · rintro ⟨m3, x4, x5⟩ o hm hx9 hi8
          (try dsimp only [f_X10_spans_L28] at hm)
          (try dsimp only)
          skip
          skip
          refine fr_if hm (fun hm => ?_) (fun hm => ?_)
          · skip
            cases hm
            exact hx9 _ rfl
          · skip
            skip
            skip
            skip
            skip
            skip
            refine fr_cal hm (fun _ _ h => fr_X5_taxAtCount h) (fun x11 m10 hm => ?_)
            skip
            refine g_jn (J := fun (s : Sg × Int32) => Fr SC s.1 mm) hm ?_ ?_
            · rintro ⟨m12, x13⟩ hm
              (try dsimp only at hm)
              (try dsimp only)
              refine fr_b hm (fun x15 hm => ?_)
              skip
              cases hm
              exact hi8 _ rfl
            · intro k14 hk14 hm
              refine fr_fi hm (fun hm => ?_) (fun hm => ?_)
              · exact hk14 _ hm
              · skip
                skip
                skip
                skip
                skip
                refine fr_b hm (fun x16 hm => ?_)
                exact hk14 _ hm
      · skip
        exact fr_ret hm
set_option maxRecDepth 4000 in
theorem fr_X10_threes {m mm : Sg} {r : Int32} (hm : f_X10_threes  m  = some (r, mm)) : Fr SC m mm := by
  unfold f_X10_threes at hm
  skip
  skip
  refine fr_cal hm (fun _ _ h => fr_X0_trier (by first | rfl | assumption | (simp [SC]; done) | (simp [SC]; omega)) h) (fun x2 m1 hm => ?_)
  skip
  skip
  skip
  refine fr_fi hm (fun hm => ?_) (fun hm => ?_)
  · skip
    skip
    skip
    refine fr_cal hm (fun _ _ h => fr_X8_onlyByTheirSteps h) (fun x4 m3 hm => ?_)
    exact fr_ret hm
  · skip
    skip
    exact fr_ret hm
set_option maxRecDepth 4000 in
theorem fr_X10_party {m mm : Sg} {r : Int32} {a1 : Int32} (hm : f_X10_party  m a1 = some (r, mm)) : Fr SC m mm := by
  unfold f_X10_party at hm
  skip
  skip
  refine fr_cal hm (fun _ _ h => fr_X0_isTold (by first | rfl | assumption | (simp [SC]; done) | (simp [SC]; omega)) h) (fun x2 m1 hm => ?_)
  refine fr_if hm (fun hm => ?_) (fun hm => ?_)
  · skip
    exact fr_ret hm
  · skip
    refine fr_cal hm (fun _ _ h => fr_X0_isNursery h) (fun x4 m3 hm => ?_)
    refine fr_if hm (fun hm => ?_) (fun hm => ?_)
    · skip
      exact fr_ret hm
    · skip
      skip
      skip
      refine fr_cal hm (fun _ _ h => fr_X8_rightInNursery h) (fun x6 m5 hm => ?_)
      skip
      exact fr_ret hm
set_option maxRecDepth 4000 in
theorem fr_X10_heir {m mm : Sg} {r : Int32} (hm : f_X10_heir  m  = some (r, mm)) : Fr SC m mm := by
  unfold f_X10_heir at hm
  skip
  skip
  refine fr_cal hm (fun _ _ h => fr_X0_trier (by first | rfl | assumption | (simp [SC]; done) | (simp [SC]; omega)) h) (fun x2 m1 hm => ?_)
  skip
  skip
  skip
  refine fr_fi hm (fun hm => ?_) (fun hm => ?_)
  · skip
    skip
    skip
    skip
    skip
    refine fr_cal hm (fun _ _ h => fr_X0_askedBy (by first | rfl | assumption | (simp [SC]; done) | (simp [SC]; omega)) h) (fun x4 m3 hm => ?_)
    skip
    skip
    refine fr_cal hm (fun _ _ h => fr_X0_ruler (by first | rfl | assumption | (simp [SC]; done) | (simp [SC]; omega)) h) (fun x6 m5 hm => ?_)
    refine fr_cal hm (fun _ _ h => fr_X0_claimant (by first | rfl | assumption | (simp [SC]; done) | (simp [SC]; omega)) h) (fun x8 m7 hm => ?_)
    exact fr_ret hm
  · skip
    skip
    exact fr_ret hm
set_option maxRecDepth 4000 in
theorem fr_X10_before {m mm : Sg} {r : Int32} {a1 : Int32} (hm : f_X10_before  m a1 = some (r, mm)) : Fr SC m mm := by
  unfold f_X10_before at hm
  skip
  skip
  skip
  refine fr_cal hm (fun _ _ h => fr_X0_hasChild (by first | rfl | assumption | (simp [SC]; done) | (simp [SC]; omega)) h) (fun x2 m1 hm => ?_)
  refine fr_if hm (fun hm => ?_) (fun hm => ?_)
  · skip
    exact fr_ret hm
  · skip
    skip
    skip
    refine fr_cal hm (fun _ _ h => fr_X8_eldersSatisfied h) (fun x4 m3 hm => ?_)
    skip
    exact fr_ret hm
set_option maxRecDepth 4000 in
theorem fr_X10_without {m mm : Sg} {r : Int32} {a1 : Int32} (hm : f_X10_without  m a1 = some (r, mm)) : Fr SC m mm := by
  unfold f_X10_without at hm
  skip
  skip
  skip
  refine fr_cal hm (fun _ _ h => fr_X0_hasChild (by first | rfl | assumption | (simp [SC]; done) | (simp [SC]; omega)) h) (fun x2 m1 hm => ?_)
  refine fr_if hm (fun hm => ?_) (fun hm => ?_)
  · skip
    exact fr_ret hm
  · skip
    skip
    skip
    refine fr_cal hm (fun _ _ h => fr_X8_fewestAbsent h) (fun x4 m3 hm => ?_)
    skip
    exact fr_ret hm
set_option maxRecDepth 4000 in
theorem fr_X10_spoil {m mm : Sg} {r : Int32} {a1 : Int32} (hm : f_X10_spoil  m a1 = some (r, mm)) : Fr SC m mm := by
  unfold f_X10_spoil at hm
  skip
  skip
  refine fr_cal hm (fun _ _ h => fr_X0_trier (by first | rfl | assumption | (simp [SC]; done) | (simp [SC]; omega)) h) (fun x2 m1 hm => ?_)
  skip
  skip
  skip
  refine fr_if hm (fun hm => ?_) (fun hm => ?_)
  · skip
    exact fr_ret hm
  · skip
    skip
    skip
    refine fr_cal hm (fun _ _ h => fr_X0_hasChild (by first | rfl | assumption | (simp [SC]; done) | (simp [SC]; omega)) h) (fun x4 m3 hm => ?_)
    refine fr_if hm (fun hm => ?_) (fun hm => ?_)
    · skip
      exact fr_ret hm
    · skip
      skip
      skip
      skip
      refine fr_cal hm (fun _ _ h => fr_X0_stands (by first | rfl | assumption | (simp [SC]; done) | (simp [SC]; omega)) h) (fun x6 m5 hm => ?_)
      refine fr_fi hm (fun hm => ?_) (fun hm => ?_)
      · skip
        skip
        skip
        skip
        skip
        skip
        refine fr_cal hm (fun _ _ h => fr_X0_askedBy (by first | rfl | assumption | (simp [SC]; done) | (simp [SC]; omega)) h) (fun x8 m7 hm => ?_)
        refine fr_cal hm (fun _ _ h => fr_X0_askedOf (by first | rfl | assumption | (simp [SC]; done) | (simp [SC]; omega)) h) (fun x10 m9 hm => ?_)
        refine fr_cal hm (fun _ _ h => fr_X0_lowestTen h) (fun x12 m11 hm => ?_)
        exact fr_ret hm
      · skip
        exact fr_ret hm
set_option maxRecDepth 4000 in
theorem fr_X10_soon {m mm : Sg} {r : Int32} {a1 : Int32} (hm : f_X10_soon  m a1 = some (r, mm)) : Fr SC m mm := by
  unfold f_X10_soon at hm
  skip
  skip
  refine fr_cal hm (fun _ _ h => fr_X0_trier (by first | rfl | assumption | (simp [SC]; done) | (simp [SC]; omega)) h) (fun x2 m1 hm => ?_)
  skip
  skip
  skip
  refine g_jn (J := fun (s : Sg) => Fr SC s mm) hm ?_ ?_
  · intro m3 hm
    skip
    skip
    exact fr_ret hm
  · intro k4 hk4 hm
    refine fr_if hm (fun hm => ?_) (fun hm => ?_)
    · skip
      exact hk4 _ hm
    · skip
      skip
      skip
      refine fr_cal hm (fun _ _ h => fr_X0_hasChild (by first | rfl | assumption | (simp [SC]; done) | (simp [SC]; omega)) h) (fun x6 m5 hm => ?_)
      refine fr_fi hm (fun hm => ?_) (fun hm => ?_)
      · skip
        skip
        skip
        skip
        refine fr_cal hm (fun _ _ h => fr_X0_monthsToStand (by first | rfl | assumption | (simp [SC]; done) | (simp [SC]; omega)) h) (fun x8 m7 hm => ?_)
        exact fr_ret hm
      · skip
        exact hk4 _ hm
set_option maxRecDepth 4000 in
theorem fr_X10_fevered {m mm : Sg} {r : Int32} (hm : f_X10_fevered  m  = some (r, mm)) : Fr SC m mm := by
  unfold f_X10_fevered at hm
  skip
  skip
  refine fr_cal hm (fun _ _ h => fr_X0_trier (by first | rfl | assumption | (simp [SC]; done) | (simp [SC]; omega)) h) (fun x2 m1 hm => ?_)
  skip
  skip
  skip
  refine fr_fi hm (fun hm => ?_) (fun hm => ?_)
  · skip
    skip
    skip
    refine fr_cal hm (fun _ _ h => fr_X8_standingFevered h) (fun x4 m3 hm => ?_)
    exact fr_ret hm
  · skip
    skip
    exact fr_ret hm
set_option maxRecDepth 4000 in
theorem fr_X10_youngest {m mm : Sg} {r : Int32} {a1 : Int32} (hm : f_X10_youngest  m a1 = some (r, mm)) : Fr SC m mm := by
  unfold f_X10_youngest at hm
  skip
  skip
  skip
  refine fr_cal hm (fun _ _ h => fr_X8_inOrderOfAge h) (fun x2 m1 hm => ?_)
  exact fr_ret hm
set_option maxRecDepth 4000 in
theorem fr_X10_rivals {m mm : Sg} {r : Int32} {a1 : Int32} (hm : f_X10_rivals  m a1 = some (r, mm)) : Fr SC m mm := by
  unfold f_X10_rivals at hm
  skip
  skip
  refine fr_cal hm (fun _ _ h => fr_X0_trier (by first | rfl | assumption | (simp [SC]; done) | (simp [SC]; omega)) h) (fun x2 m1 hm => ?_)
  skip
  skip
  skip
  refine g_jn (J := fun (s : Sg) => Fr SC s mm) hm ?_ ?_
  · intro m3 hm
    skip
    skip
    exact fr_ret hm
  · intro k4 hk4 hm
    refine fr_if hm (fun hm => ?_) (fun hm => ?_)
    · skip
      exact hk4 _ hm
    · skip
      skip
      skip
      refine fr_cal hm (fun _ _ h => fr_X0_hasChild (by first | rfl | assumption | (simp [SC]; done) | (simp [SC]; omega)) h) (fun x6 m5 hm => ?_)
      refine fr_fi hm (fun hm => ?_) (fun hm => ?_)
      · skip
        skip
        skip
        skip
        refine fr_cal hm (fun _ _ h => fr_X8_youngerStanding h) (fun x8 m7 hm => ?_)
        exact fr_ret hm
      · skip
        exact hk4 _ hm
set_option maxRecDepth 4000 in
theorem fr_X10_forgotten {m mm : Sg} {r : Int32} (hm : f_X10_forgotten  m  = some (r, mm)) : Fr SC m mm := by
  unfold f_X10_forgotten at hm
  skip
  skip
  refine fr_cal hm (fun _ _ h => fr_X0_isTold (by first | rfl | assumption | (simp [SC]; done) | (simp [SC]; omega)) h) (fun x2 m1 hm => ?_)
  refine fr_if hm (fun hm => ?_) (fun hm => ?_)
  · skip
    exact fr_ret hm
  · skip
    skip
    refine fr_cal hm (fun _ _ h => fr_X8_unknownToElders h) (fun x4 m3 hm => ?_)
    skip
    exact fr_ret hm
set_option maxRecDepth 4000 in
theorem fr_X10_hasChildAndTen {m mm : Sg} {r : Int32} {a1 : Int32} {a2 : Int32} (hm : f_X10_hasChildAndTen  m a1 a2 = some (r, mm)) : Fr SC m mm := by
  unfold f_X10_hasChildAndTen at hm
  skip
  skip
  skip
  refine fr_cal hm (fun _ _ h => fr_X0_hasChild (by first | rfl | assumption | (simp [SC]; done) | (simp [SC]; omega)) h) (fun x2 m1 hm => ?_)
  refine fr_if hm (fun hm => ?_) (fun hm => ?_)
  · skip
    exact fr_ret hm
  · skip
    refine fr_if hm (fun hm => ?_) (fun hm => ?_)
    · skip
      exact fr_ret hm
    · skip
      skip
      refine fr_if hm (fun hm => ?_) (fun hm => ?_)
      · skip
        exact fr_ret hm
      · skip
        skip
        exact fr_ret hm
set_option maxRecDepth 4000 in
theorem fr_X10_isOneOfTwo {m mm : Sg} {r : Int32} {a1 : Int32} (hm : f_X10_isOneOfTwo  m a1 = some (r, mm)) : Fr SC m mm := by
  unfold f_X10_isOneOfTwo at hm
  skip
  refine g_jn (J := fun (s : Sg) => Fr SC s mm) hm ?_ ?_
  · intro m1 hm
    skip
    skip
    exact fr_ret hm
  · intro k2 hk2 hm
    refine fr_if hm (fun hm => ?_) (fun hm => ?_)
    · skip
      exact hk2 _ hm
    · skip
      skip
      refine fr_fi hm (fun hm => ?_) (fun hm => ?_)
      · skip
        exact fr_ret hm
      · skip
        exact hk2 _ hm
set_option maxRecDepth 4000 in
theorem fr_X10_areTwoNurseries {m mm : Sg} {r : Int32} {a1 : Int32} {a2 : Int32} (hm : f_X10_areTwoNurseries  m a1 a2 = some (r, mm)) : Fr SC m mm := by
  unfold f_X10_areTwoNurseries at hm
  skip
  refine fr_cal hm (fun _ _ h => fr_X0_isNursery h) (fun x2 m1 hm => ?_)
  refine fr_if hm (fun hm => ?_) (fun hm => ?_)
  · skip
    exact fr_ret hm
  · skip
    refine fr_cal hm (fun _ _ h => fr_X0_isNursery h) (fun x4 m3 hm => ?_)
    refine fr_if hm (fun hm => ?_) (fun hm => ?_)
    · skip
      exact fr_ret hm
    · skip
      skip
      refine fr_if hm (fun hm => ?_) (fun hm => ?_)
      · skip
        exact fr_ret hm
      · skip
        skip
        exact fr_ret hm
set_option maxRecDepth 4000 in
theorem fr_X10_teach {m mm : Sg} {r : Int32} {a1 : Int32} {a2 : Int32} (hm : f_X10_teach  m a1 a2 = some (r, mm)) : Fr SC m mm := by
  unfold f_X10_teach at hm
  skip
  skip
  skip
  refine fr_cal hm (fun _ _ h => fr_X10_hasChildAndTen h) (fun x2 m1 hm => ?_)
  refine fr_if hm (fun hm => ?_) (fun hm => ?_)
  · skip
    exact fr_ret hm
  · skip
    skip
    skip
    skip
    refine fr_cal hm (fun _ _ h => fr_X0_kid (by first | rfl | assumption | (simp [SC]; done) | (simp [SC]; omega)) h) (fun x4 m3 hm => ?_)
    skip
    refine fr_if hm (fun hm => ?_) (fun hm => ?_)
    · skip
      skip
      skip
      skip
      skip
      refine fr_cal hm (fun _ _ h => fr_X0_bit (by first | rfl | assumption | (simp [SC]; done) | (simp [SC]; omega)) h) (fun x6 m5 hm => ?_)
      refine fr_fi hm (fun hm => ?_) (fun hm => ?_)
      · skip
        exact fr_ret hm
      · skip
        skip
        skip
        skip
        refine fr_cal hm (fun _ _ h => fr_X0_isRight (by first | rfl | assumption | (simp [SC]; done) | (simp [SC]; omega)) h) (fun x8 m7 hm => ?_)
        refine fr_if hm (fun hm => ?_) (fun hm => ?_)
        · skip
          skip
          skip
          skip
          refine fr_calv hm (fun _ h => fr_X7_remember h) (fun m9 hm => ?_)
          skip
          skip
          skip
          skip
          refine fr_calv hm (fun _ h => fr_X0_beginLesson (by first | rfl | assumption | (simp [SC]; done) | (simp [SC]; omega)) h) (fun m10 hm => ?_)
          skip
          skip
          refine fr_cal hm (fun _ _ h => fr_X7_acts h) (fun x12 m11 hm => ?_)
          exact fr_ret hm
        · skip
          exact fr_ret hm
    · skip
      exact fr_ret hm
set_option maxRecDepth 4000 in
theorem fr_X10_wrong {m mm : Sg} {r : Int32} {a1 : Int32} {a2 : Int32} (hm : f_X10_wrong  m a1 a2 = some (r, mm)) : Fr SC m mm := by
  unfold f_X10_wrong at hm
  skip
  skip
  skip
  refine fr_cal hm (fun _ _ h => fr_X10_hasChildAndTen h) (fun x2 m1 hm => ?_)
  refine fr_if hm (fun hm => ?_) (fun hm => ?_)
  · skip
    exact fr_ret hm
  · skip
    skip
    skip
    skip
    skip
    refine fr_cal hm (fun _ _ h => fr_X0_bit (by first | rfl | assumption | (simp [SC]; done) | (simp [SC]; omega)) h) (fun x4 m3 hm => ?_)
    refine fr_if hm (fun hm => ?_) (fun hm => ?_)
    · skip
      skip
      skip
      skip
      refine fr_calv hm (fun _ h => fr_X7_remember h) (fun m5 hm => ?_)
      skip
      skip
      skip
      skip
      skip
      skip
      refine fr_calv hm (fun _ h => fr_X0_setBit (by first | rfl | assumption | (simp [SC]; done) | (simp [SC]; omega)) h) (fun m6 hm => ?_)
      skip
      skip
      refine fr_cal hm (fun _ _ h => fr_X7_acts h) (fun x8 m7 hm => ?_)
      exact fr_ret hm
    · skip
      exact fr_ret hm
set_option maxRecDepth 4000 in
theorem fr_X10_keep {m mm : Sg} {r : Int32} {a1 : Int32} {a2 : Int32} {a3 : Int32} (hm : f_X10_keep  m a1 a2 a3 = some (r, mm)) : Fr SC m mm := by
  unfold f_X10_keep at hm
  skip
  skip
  skip
  refine fr_cal hm (fun _ _ h => fr_X10_hasChildAndTen h) (fun x2 m1 hm => ?_)
  refine fr_if hm (fun hm => ?_) (fun hm => ?_)
  · skip
    exact fr_ret hm
  · skip
    skip
    skip
    skip
    skip
    refine fr_cal hm (fun _ _ h => fr_X0_bit (by first | rfl | assumption | (simp [SC]; done) | (simp [SC]; omega)) h) (fun x4 m3 hm => ?_)
    skip
    refine fr_fi hm (fun hm => ?_) (fun hm => ?_)
    · skip
      skip
      skip
      skip
      refine fr_calv hm (fun _ h => fr_X7_remember h) (fun m5 hm => ?_)
      skip
      skip
      skip
      skip
      skip
      refine fr_calv hm (fun _ h => fr_X0_setKept (by first | rfl | assumption | (simp [SC]; done) | (simp [SC]; omega)) h) (fun m6 hm => ?_)
      skip
      skip
      refine fr_cal hm (fun _ _ h => fr_X7_acts h) (fun x8 m7 hm => ?_)
      exact fr_ret hm
    · skip
      exact fr_ret hm
set_option maxRecDepth 4000 in
theorem fr_X10_buy {m mm : Sg} {r : Int32} {a1 : Int32} {a2 : Int32} (hm : f_X10_buy  m a1 a2 = some (r, mm)) : Fr SC m mm := by
  unfold f_X10_buy at hm
  skip
  skip
  skip
  refine fr_cal hm (fun _ _ h => fr_X10_hasChildAndTen h) (fun x2 m1 hm => ?_)
  refine fr_if hm (fun hm => ?_) (fun hm => ?_)
  · skip
    exact fr_ret hm
  · skip
    skip
    skip
    skip
    refine fr_cal hm (fun _ _ h => fr_X0_isRight (by first | rfl | assumption | (simp [SC]; done) | (simp [SC]; omega)) h) (fun x4 m3 hm => ?_)
    refine fr_if hm (fun hm => ?_) (fun hm => ?_)
    · skip
      skip
      skip
      refine fr_cal hm (fun _ _ h => fr_X0_cell (by first | rfl | assumption | (simp [SC]; done) | (simp [SC]; omega)) h) (fun x6 m5 hm => ?_)
      skip
      skip
      skip
      refine fr_cal hm (fun _ _ h => fr_X0_cell (by first | rfl | assumption | (simp [SC]; done) | (simp [SC]; omega)) h) (fun x8 m7 hm => ?_)
      skip
      refine fr_b hm (fun x9 hm => ?_)
      skip
      refine fr_if hm (fun hm => ?_) (fun hm => ?_)
      · skip
        skip
        skip
        skip
        refine fr_calv hm (fun _ h => fr_X7_remember h) (fun m10 hm => ?_)
        skip
        skip
        skip
        skip
        refine fr_calv hm (fun _ h => fr_X0_put (by first | rfl | assumption | (simp [SC]; done) | (simp [SC]; omega)) h) (fun m11 hm => ?_)
        skip
        skip
        skip
        skip
        refine fr_calv hm (fun _ h => fr_X0_makeRight (by first | rfl | assumption | (simp [SC]; done) | (simp [SC]; omega)) h) (fun m12 hm => ?_)
        skip
        exact fr_ret hm
      · skip
        exact fr_ret hm
    · skip
      exact fr_ret hm
set_option maxRecDepth 4000 in
theorem fr_X10_spreadFever {m mm : Sg} (hm : f_X10_spreadFever  m  = some mm) : Fr SC m mm := by
  unfold f_X10_spreadFever at hm
  skip
  skip
  refine g_lp (I := fun (s : Sg × Int32) => Fr SC s.1 mm) (E := fun (s : Sg) => Fr SC s mm) hm ?_ ?_
  · rintro m3 hm
    (try dsimp only at hm)
    (try dsimp only)
    exact fr_retv hm
  · rintro ⟨m1, x2⟩ o hm hx5 hi4
    (try dsimp only [f_X10_spreadFever_L2] at hm)
    (try dsimp only)
    skip
    skip
    skip
    refine fr_cal hm (fun _ _ h => fr_X0_children (by first | rfl | assumption | (simp [SC]; done) | (simp [SC]; omega)) h) (fun x7 m6 hm => ?_)
    refine fr_if hm (fun hm => ?_) (fun hm => ?_)
    · skip
      cases hm
      exact hx5 _ rfl
    · skip
      skip
      refine fr_cal hm (fun _ _ h => fr_X10_draw h) (fun x9 m8 hm => ?_)
      skip
      skip
      refine g_jn (J := fun (s : Sg) => Fr SC s mm) hm ?_ ?_
      · intro m10 hm
        refine fr_b hm (fun x12 hm => ?_)
        skip
        cases hm
        exact hi4 _ rfl
      · intro k11 hk11 hm
        refine fr_if hm (fun hm => ?_) (fun hm => ?_)
        · exact hk11 _ hm
        · skip
          skip
          skip
          skip
          skip
          skip
          refine fr_calv hm (fun _ h => fr_X0_setBit (by first | rfl | assumption | (simp [SC]; done) | (simp [SC]; omega)) h) (fun m13 hm => ?_)
          exact hk11 _ hm
set_option maxRecDepth 4000 in
theorem fr_X10_ahead {m mm : Sg} {r : Int32} {a1 : Int32} {a2 : Int32} {nl : Nat} {ln : Nat → Nat} (hm : f_X10_ahead nl ln  m a1 a2 = some (r, mm)) : Fr SC m mm := by
  unfold f_X10_ahead at hm
  skip
  skip
  refine fr_cal hm (fun _ _ h => fr_X0_isTold (by first | rfl | assumption | (simp [SC]; done) | (simp [SC]; omega)) h) (fun x2 m1 hm => ?_)
  refine fr_if hm (fun hm => ?_) (fun hm => ?_)
  · skip
    exact fr_ret hm
  · skip
    refine fr_if hm (fun hm => ?_) (fun hm => ?_)
    · skip
      exact fr_ret hm
    · skip
      skip
      refine fr_if hm (fun hm => ?_) (fun hm => ?_)
      · skip
        exact fr_ret hm
      · skip
        refine fr_cal hm (fun _ _ h => fr_X10_isOneOfTwo h) (fun x4 m3 hm => ?_)
        refine fr_fi hm (fun hm => ?_) (fun hm => ?_)
        · skip
          skip
          skip
          skip
          skip
          refine fr_cal hm (fun _ _ h => fr_X5_holding h) (fun x6 m5 hm => ?_)
          refine fr_calv hm (fun _ h => fr_X3_goOn h) (fun m7 hm => ?_)
          skip
          refine fr_fi hm (fun hm => ?_) (fun hm => ?_)
          · skip
            skip
            skip
            refine fr_cal hm (fun _ _ h => fr_X0_cell (by first | rfl | assumption | (simp [SC]; done) | (simp [SC]; omega)) h) (fun x9 m8 hm => ?_)
            exact fr_ret hm
          · skip
            skip
            refine fr_cal hm (fun _ _ h => fr_X0_ruler (by first | rfl | assumption | (simp [SC]; done) | (simp [SC]; omega)) h) (fun x11 m10 hm => ?_)
            skip
            exact fr_ret hm
        · skip
          exact fr_ret hm
set_option maxRecDepth 4000 in
theorem fr_X10_reign {m mm : Sg} {r : Int32} {a1 : Int32} {a2 : Int32} {a3 : Int32} (hm : f_X10_reign  m a1 a2 a3 = some (r, mm)) : Fr SC m mm := by
  unfold f_X10_reign at hm
  skip
  skip
  refine fr_cal hm (fun _ _ h => fr_X0_isTold (by first | rfl | assumption | (simp [SC]; done) | (simp [SC]; omega)) h) (fun x2 m1 hm => ?_)
  refine fr_if hm (fun hm => ?_) (fun hm => ?_)
  · skip
    exact fr_ret hm
  · skip
    skip
    refine fr_if hm (fun hm => ?_) (fun hm => ?_)
    · skip
      exact fr_ret hm
    · skip
      skip
      refine fr_if hm (fun hm => ?_) (fun hm => ?_)
      · skip
        exact fr_ret hm
      · skip
        refine fr_cal hm (fun _ _ h => fr_X10_isOneOfTwo h) (fun x4 m3 hm => ?_)
        refine fr_fi hm (fun hm => ?_) (fun hm => ?_)
        · skip
          refine fr_fi hm (fun hm => ?_) (fun hm => ?_)
          · skip
            refine fr_cal hm (fun _ _ h => fr_X0_isNursery h) (fun x6 m5 hm => ?_)
            refine fr_if hm (fun hm => ?_) (fun hm => ?_)
            · skip
              exact fr_ret hm
            · skip
              skip
              skip
              skip
              refine fr_cal hm (fun _ _ h => fr_X3_reignOfNursery h) (fun x8 m7 hm => ?_)
              skip
              exact fr_ret hm
          · skip
            skip
            skip
            refine fr_cal hm (fun _ _ h => fr_X0_hasChild (by first | rfl | assumption | (simp [SC]; done) | (simp [SC]; omega)) h) (fun x10 m9 hm => ?_)
            refine fr_if hm (fun hm => ?_) (fun hm => ?_)
            · skip
              exact fr_ret hm
            · skip
              skip
              skip
              skip
              refine fr_cal hm (fun _ _ h => fr_X3_reignOfChild h) (fun x12 m11 hm => ?_)
              skip
              exact fr_ret hm
        · skip
          exact fr_ret hm
set_option maxRecDepth 4000 in
theorem fr_X10_keepers {m mm : Sg} {r : Int32} {a1 : Int32} {a2 : Int32} {a3 : Int32} (hm : f_X10_keepers  m a1 a2 a3 = some (r, mm)) : Fr SC m mm := by
  unfold f_X10_keepers at hm
  skip
  skip
  skip
  refine fr_cal hm (fun _ _ h => fr_X10_hasChildAndTen h) (fun x2 m1 hm => ?_)
  refine fr_if hm (fun hm => ?_) (fun hm => ?_)
  · skip
    exact fr_ret hm
  · skip
    skip
    refine fr_if hm (fun hm => ?_) (fun hm => ?_)
    · skip
      exact fr_ret hm
    · skip
      skip
      refine fr_if hm (fun hm => ?_) (fun hm => ?_)
      · skip
        skip
        skip
        skip
        skip
        refine fr_cal hm (fun _ _ h => fr_X3_fewestKept h) (fun x4 m3 hm => ?_)
        exact fr_ret hm
      · skip
        exact fr_ret hm
set_option maxRecDepth 4000 in
theorem fr_X10_duel {m mm : Sg} {r : Int32} {a1 : Int32} {a2 : Int32} {a3 : Int32} {a4 : Int32} (hm : f_X10_duel  m a1 a2 a3 a4 = some (r, mm)) : Fr SC m mm := by
  unfold f_X10_duel at hm
  skip
  skip
  refine fr_cal hm (fun _ _ h => fr_X10_areTwoNurseries h) (fun x2 m1 hm => ?_)
  refine fr_if hm (fun hm => ?_) (fun hm => ?_)
  · skip
    exact fr_ret hm
  · skip
    skip
    skip
    skip
    refine fr_cal hm (fun _ _ h => fr_X0_isOfNursery (by first | rfl | assumption | (simp [SC]; done) | (simp [SC]; omega)) h) (fun x4 m3 hm => ?_)
    refine fr_if hm (fun hm => ?_) (fun hm => ?_)
    · skip
      exact fr_ret hm
    · skip
      skip
      skip
      skip
      refine fr_cal hm (fun _ _ h => fr_X0_isOfNursery (by first | rfl | assumption | (simp [SC]; done) | (simp [SC]; omega)) h) (fun x6 m5 hm => ?_)
      refine fr_fi hm (fun hm => ?_) (fun hm => ?_)
      · skip
        skip
        skip
        skip
        refine fr_cal hm (fun _ _ h => fr_X3_gain h) (fun x8 m7 hm => ?_)
        exact fr_ret hm
      · skip
        exact fr_ret hm
set_option maxRecDepth 4000 in
theorem fr_X10_rests {m mm : Sg} {r : Int32} {a1 : Int32} {a2 : Int32} {a3 : Int32} (hm : f_X10_rests  m a1 a2 a3 = some (r, mm)) : Fr SC m mm := by
  unfold f_X10_rests at hm
  skip
  skip
  refine fr_cal hm (fun _ _ h => fr_X0_isTold (by first | rfl | assumption | (simp [SC]; done) | (simp [SC]; omega)) h) (fun x2 m1 hm => ?_)
  refine fr_if hm (fun hm => ?_) (fun hm => ?_)
  · skip
    exact fr_ret hm
  · skip
    skip
    refine fr_cal hm (fun _ _ h => fr_X10_areTwoNurseries h) (fun x4 m3 hm => ?_)
    refine fr_if hm (fun hm => ?_) (fun hm => ?_)
    · skip
      exact fr_ret hm
    · skip
      skip
      refine fr_if hm (fun hm => ?_) (fun hm => ?_)
      · skip
        skip
        skip
        skip
        refine fr_calv hm (fun _ h => fr_X3_weighAll h) (fun m5 hm => ?_)
        skip
        skip
        skip
        skip
        skip
        refine fr_cal hm (fun _ _ h => fr_X3_restAt h) (fun x7 m6 hm => ?_)
        exact fr_ret hm
      · skip
        exact fr_ret hm
set_option maxRecDepth 4000 in
theorem fr_X10_richest {m mm : Sg} {r : Int32} {a1 : Int32} {a2 : Int32} {nl : Nat} {ln : Nat → Nat} (hm : f_X10_richest nl ln  m a1 a2 = some (r, mm)) : Fr SC m mm := by
  unfold f_X10_richest at hm
  skip
  skip
  refine fr_cal hm (fun _ _ h => fr_X0_isTold (by first | rfl | assumption | (simp [SC]; done) | (simp [SC]; omega)) h) (fun x2 m1 hm => ?_)
  refine fr_if hm (fun hm => ?_) (fun hm => ?_)
  · skip
    exact fr_ret hm
  · skip
    skip
    refine fr_if hm (fun hm => ?_) (fun hm => ?_)
    · skip
      exact fr_ret hm
    · skip
      skip
      refine fr_if hm (fun hm => ?_) (fun hm => ?_)
      · skip
        exact fr_ret hm
      · skip
        refine fr_cal hm (fun _ _ h => fr_X10_isOneOfTwo h) (fun x4 m3 hm => ?_)
        refine fr_fi hm (fun hm => ?_) (fun hm => ?_)
        · skip
          skip
          skip
          refine fr_calv hm (fun _ h => fr_X3_seekLaw h) (fun m5 hm => ?_)
          skip
          refine fr_fi hm (fun hm => ?_) (fun hm => ?_)
          · skip
            skip
            refine fr_cal hm (fun _ _ h => fr_X3_bestTreasury h) (fun x7 m6 hm => ?_)
            exact fr_ret hm
          · skip
            skip
            refine fr_cal hm (fun _ _ h => fr_X3_bestLaw h) (fun x9 m8 hm => ?_)
            skip
            exact fr_ret hm
        · skip
          exact fr_ret hm
set_option maxRecDepth 4000 in
theorem fr_X10_peace {m mm : Sg} {r : Int32} {a1 : Int32} {a2 : Int32} (hm : f_X10_peace  m a1 a2 = some (r, mm)) : Fr SC m mm := by
  unfold f_X10_peace at hm
  skip
  skip
  refine fr_cal hm (fun _ _ h => fr_X0_trier (by first | rfl | assumption | (simp [SC]; done) | (simp [SC]; omega)) h) (fun x2 m1 hm => ?_)
  skip
  skip
  skip
  refine fr_if hm (fun hm => ?_) (fun hm => ?_)
  · skip
    exact fr_ret hm
  · skip
    refine fr_cal hm (fun _ _ h => fr_X0_isNursery h) (fun x4 m3 hm => ?_)
    refine fr_if hm (fun hm => ?_) (fun hm => ?_)
    · skip
      exact fr_ret hm
    · skip
      refine fr_cal hm (fun _ _ h => fr_X10_isOneOfTwo h) (fun x6 m5 hm => ?_)
      refine fr_fi hm (fun hm => ?_) (fun hm => ?_)
      · skip
        skip
        skip
        skip
        refine fr_cal hm (fun _ _ h => fr_X8_cheapest h) (fun x8 m7 hm => ?_)
        skip
        skip
        skip
        refine g_jn (J := fun (s : Sg) => Fr SC s mm) hm ?_ ?_
        · intro m9 hm
          skip
          skip
          exact fr_ret hm
        · intro k10 hk10 hm
          refine fr_if hm (fun hm => ?_) (fun hm => ?_)
          · skip
            exact hk10 _ hm
          · skip
            skip
            refine fr_fi hm (fun hm => ?_) (fun hm => ?_)
            · skip
              skip
              skip
              skip
              refine fr_cal hm (fun _ _ h => fr_X0_plumsToRule (by first | rfl | assumption | (simp [SC]; done) | (simp [SC]; omega)) h) (fun x12 m11 hm => ?_)
              exact fr_ret hm
            · skip
              exact hk10 _ hm
      · skip
        exact fr_ret hm
set_option maxRecDepth 4000 in
theorem fr_X10_chain {m mm : Sg} {r : Int32} {a1 : Int32} (hm : f_X10_chain  m a1 = some (r, mm)) : Fr SC m mm := by
  unfold f_X10_chain at hm
  skip
  skip
  refine fr_cal hm (fun _ _ h => fr_X0_isTold (by first | rfl | assumption | (simp [SC]; done) | (simp [SC]; omega)) h) (fun x2 m1 hm => ?_)
  refine fr_if hm (fun hm => ?_) (fun hm => ?_)
  · skip
    exact fr_ret hm
  · skip
    refine fr_cal hm (fun _ _ h => fr_X10_isOneOfTwo h) (fun x4 m3 hm => ?_)
    refine fr_fi hm (fun hm => ?_) (fun hm => ?_)
    · skip
      skip
      refine fr_cal hm (fun _ _ h => fr_X8_longestChain h) (fun x6 m5 hm => ?_)
      skip
      skip
      refine fr_fi hm (fun hm => ?_) (fun hm => ?_)
      · skip
        exact fr_ret hm
      · skip
        refine fr_cal hm (fun _ _ h => fr_J6_bitCount_0f7a4 h) (fun x8 m7 hm => ?_)
        skip
        exact fr_ret hm
    · skip
      exact fr_ret hm
set_option maxRecDepth 4000 in
theorem fr_X10_liveMonth {m mm : Sg} {a1 : Int32} {nl : Nat} {ln : Nat → Nat} (hm : f_X10_liveMonth nl ln  m a1 = some mm) : Fr SC m mm := by
  unfold f_X10_liveMonth at hm
  skip
  skip
  skip
  skip
  refine fr_calv hm (fun _ h => fr_X7_remember h) (fun m1 hm => ?_)
  skip
  skip
  refine fr_calv hm (fun _ h => fr_X0_beginMonth (by first | rfl | assumption | (simp [SC]; done) | (simp [SC]; omega)) h) (fun m2 hm => ?_)
  skip
  refine g_jn (J := fun (s : Sg) => Fr SC s mm) hm ?_ ?_
  · intro m3 hm
    skip
    skip
    refine fr_cal hm (fun _ _ h => fr_X0_trier (by first | rfl | assumption | (simp [SC]; done) | (simp [SC]; omega)) h) (fun x6 m5 hm => ?_)
    skip
    skip
    skip
    skip
    refine fr_calv hm (fun _ h => fr_X0_crown (by first | rfl | assumption | (simp [SC]; done) | (simp [SC]; omega)) h) (fun m7 hm => ?_)
    skip
    skip
    refine fr_cal hm (fun _ _ h => fr_X0_ruler (by first | rfl | assumption | (simp [SC]; done) | (simp [SC]; omega)) h) (fun x9 m8 hm => ?_)
    skip
    refine g_jn (J := fun (s : Sg × Int32) => Fr SC s.1 mm) hm ?_ ?_
    · rintro ⟨m10, x11⟩ hm
      (try dsimp only at hm)
      (try dsimp only)
      skip
      skip
      skip
      skip
      refine fr_calv hm (fun _ h => fr_X0_reignAndTake (by first | rfl | assumption | (simp [SC]; done) | (simp [SC]; omega)) h) (fun m13 hm => ?_)
      skip
      skip
      skip
      skip
      skip
      skip
      refine fr_calv hm (fun _ h => fr_X7_write h) (fun m14 hm => ?_)
      exact fr_retv hm
    · intro k12 hk12 hm
      refine fr_fi hm (fun hm => ?_) (fun hm => ?_)
      · skip
        skip
        skip
        skip
        skip
        skip
        refine fr_cal hm (fun _ _ h => fr_X0_ruler (by first | rfl | assumption | (simp [SC]; done) | (simp [SC]; omega)) h) (fun x16 m15 hm => ?_)
        skip
        skip
        refine fr_cal hm (fun _ _ h => fr_X5_holding h) (fun x18 m17 hm => ?_)
        refine fr_cal hm (fun _ _ h => fr_X5_taxOf (by first | rfl | assumption | (simp [SC]; done) | (simp [SC]; omega)) h) (fun x20 m19 hm => ?_)
        exact hk12 _ hm
      · skip
        skip
        exact hk12 _ hm
  · intro k4 hk4 hm
    refine fr_if hm (fun hm => ?_) (fun hm => ?_)
    · skip
      exact hk4 _ hm
    · skip
      refine fr_calv hm (fun _ h => fr_X10_spreadFever h) (fun m21 hm => ?_)
      skip
      exact hk4 _ hm
set_option maxRecDepth 4000 in
theorem fr_X10_months {m mm : Sg} {r : Int32} {a1 : Int32} {nl : Nat} {ln : Nat → Nat} (hm : f_X10_months nl ln  m a1 = some (r, mm)) : Fr SC m mm := by
  unfold f_X10_months at hm
  skip
  skip
  refine fr_cal hm (fun _ _ h => fr_X0_isTold (by first | rfl | assumption | (simp [SC]; done) | (simp [SC]; omega)) h) (fun x2 m1 hm => ?_)
  refine fr_if hm (fun hm => ?_) (fun hm => ?_)
  · skip
    exact fr_ret hm
  · skip
    skip
    refine fr_if hm (fun hm => ?_) (fun hm => ?_)
    · skip
      exact fr_ret hm
    · skip
      skip
      refine fr_if hm (fun hm => ?_) (fun hm => ?_)
      · skip
        skip
        refine g_lp (I := fun (s : Sg × Int32) => Fr SC s.1 mm) (E := fun (s : Sg) => Fr SC s mm) hm ?_ ?_
        · rintro m5 hm
          (try dsimp only at hm)
          (try dsimp only)
          skip
          skip
          skip
          refine fr_cal hm (fun _ _ h => fr_X0_cell (by first | rfl | assumption | (simp [SC]; done) | (simp [SC]; omega)) h) (fun x11 m10 hm => ?_)
          exact fr_ret hm
        · rintro ⟨m3, x4⟩ o hm hx7 hi6
          (try dsimp only [f_X10_months_L25] at hm)
          (try dsimp only)
          skip
          skip
          refine fr_if hm (fun hm => ?_) (fun hm => ?_)
          · skip
            cases hm
            exact hx7 _ rfl
          · skip
            skip
            refine fr_calv hm (fun _ h => fr_X10_liveMonth h) (fun m8 hm => ?_)
            refine fr_b hm (fun x9 hm => ?_)
            skip
            cases hm
            exact hi6 _ rfl
      · skip
        exact fr_ret hm
set_option maxRecDepth 4000 in
theorem fr_X10_fevers {m mm : Sg} {r : Int32} {a1 : Int32} {a2 : Int64} {nl : Nat} {ln : Nat → Nat} (hm : f_X10_fevers nl ln  m a1 a2 = some (r, mm)) : Fr SC m mm := by
  unfold f_X10_fevers at hm
  skip
  skip
  refine fr_cal hm (fun _ _ h => fr_X0_isTold (by first | rfl | assumption | (simp [SC]; done) | (simp [SC]; omega)) h) (fun x2 m1 hm => ?_)
  refine fr_if hm (fun hm => ?_) (fun hm => ?_)
  · skip
    exact fr_ret hm
  · skip
    skip
    refine fr_if hm (fun hm => ?_) (fun hm => ?_)
    · skip
      exact fr_ret hm
    · skip
      skip
      refine fr_if hm (fun hm => ?_) (fun hm => ?_)
      · skip
        skip
        refine fr_wrl hm (by first | rfl | assumption | (simp [SC]; done) | (simp [SC]; omega)) (fun m3 hm => ?_)
        skip
        skip
        skip
        refine g_lp (I := fun (s : Sg × Int32) => Fr SC s.1 mm) (E := fun (s : Sg) => Fr SC s mm) hm ?_ ?_
        · rintro m6 hm
          (try dsimp only at hm)
          (try dsimp only)
          skip
          skip
          skip
          refine fr_cal hm (fun _ _ h => fr_X0_cell (by first | rfl | assumption | (simp [SC]; done) | (simp [SC]; omega)) h) (fun x12 m11 hm => ?_)
          exact fr_ret hm
        · rintro ⟨m4, x5⟩ o hm hx8 hi7
          (try dsimp only [f_X10_fevers_L31] at hm)
          (try dsimp only)
          skip
          skip
          refine fr_if hm (fun hm => ?_) (fun hm => ?_)
          · skip
            cases hm
            exact hx8 _ rfl
          · skip
            skip
            refine fr_calv hm (fun _ h => fr_X10_liveMonth h) (fun m9 hm => ?_)
            refine fr_b hm (fun x10 hm => ?_)
            skip
            cases hm
            exact hi7 _ rfl
      · skip
        exact fr_ret hm
set_option maxRecDepth 4000 in
theorem fr_X11_thrown {m mm : Sg} {r : Int32} (hm : f_X11_thrown  m  = some (r, mm)) : Fr SM m mm := by
  unfold f_X11_thrown at hm
  skip
  skip
  exact fr_ret hm
set_option maxRecDepth 4000 in
theorem fr_X11_isIn {m mm : Sg} {r : Int32} {a1 : Int64} {a2 : Int64} {a3 : Int64} (hm : f_X11_isIn  m a1 a2 a3 = some (r, mm)) : Fr SM m mm := by
  unfold f_X11_isIn at hm
  skip
  skip
  skip
  refine fr_if hm (fun hm => ?_) (fun hm => ?_)
  · skip
    exact fr_ret hm
  · skip
    skip
    skip
    refine fr_if hm (fun hm => ?_) (fun hm => ?_)
    · skip
      exact fr_ret hm
    · skip
      skip
      exact fr_ret hm
set_option maxRecDepth 4000 in
theorem fr_X11_has {m mm : Sg} {r : Int32} {a1 : Int32} {a2 : Int32} (hm : f_X11_has  m a1 a2 = some (r, mm)) : Fr SM m mm := by
  unfold f_X11_has at hm
  skip
  skip
  skip
  skip
  skip
  skip
  refine fr_fi hm (fun hm => ?_) (fun hm => ?_)
  · skip
    exact fr_ret hm
  · skip
    skip
    exact fr_ret hm
set_option maxRecDepth 4000 in
theorem fr_X11_isAmong {m mm : Sg} {r : Int32} {k : Nat} {a1 : Int32} (hm : f_X11_isAmong k m a1 = some (r, mm)) : Fr SM m mm := by
  unfold f_X11_isAmong at hm
  skip
  skip
  refine g_lp (I := fun (s : Sg × Int32) => Fr SM s.1 mm) (E := fun (x : (Sg) ⊕ (Sg)) => match x with | .inl m3 => Fr SM m3 mm | .inr m4 => Fr SM m4 mm) hm ?_ ?_
  · rintro (m3 | m4) hm
    · (try dsimp only at hm)
      (try dsimp only)
      skip
      exact fr_ret hm
    · (try dsimp only at hm)
      (try dsimp only)
      skip
      exact fr_ret hm
  · rintro ⟨m1, x2⟩ o hm hx6 hi5
    (try dsimp only [f_X11_isAmong_L2] at hm)
    (try dsimp only)
    skip
    skip
    refine fr_cal hm (fun _ _ h => fr_J0_length_8abf5 h) (fun x8 m7 hm => ?_)
    refine fr_if hm (fun hm => ?_) (fun hm => ?_)
    · skip
      cases hm
      exact hx6 _ rfl
    · skip
      skip
      refine fr_cal hm (fun _ _ h => fr_J0_charAt_5068e h) (fun x10 m9 hm => ?_)
      skip
      refine fr_fi hm (fun hm => ?_) (fun hm => ?_)
      · refine fr_b hm (fun x11 hm => ?_)
        skip
        cases hm
        exact hi5 _ rfl
      · skip
        cases hm
        exact hx6 _ rfl
set_option maxRecDepth 4000 in
theorem fr_X11_bytesIn {m mm : Sg} {r : Int32} {a1 : Int32} (hm : f_X11_bytesIn  m a1 = some (r, mm)) : Fr SM m mm := by
  unfold f_X11_bytesIn at hm
  skip
  skip
  skip
  skip
  refine g_lp (I := fun (s : Sg × Int32 × Int32) => Fr SM s.1 mm) (E := fun (s : Sg × Int32) => Fr SM s.1 mm) hm ?_ ?_
  · rintro ⟨m4, x5⟩ hm
    (try dsimp only at hm)
    (try dsimp only)
    skip
    exact fr_ret hm
  · rintro ⟨m1, x2, x3⟩ o hm hx7 hi6
    (try dsimp only [f_X11_bytesIn_L5] at hm)
    (try dsimp only)
    skip
    refine fr_if hm (fun hm => ?_) (fun hm => ?_)
    · skip
      cases hm
      exact hx7 _ rfl
    · skip
      skip
      skip
      skip
      skip
      skip
      refine g_jn (J := fun (s : Sg × Int32) => Fr SM s.1 mm) hm ?_ ?_
      · rintro ⟨m8, x9⟩ hm
        (try dsimp only at hm)
        (try dsimp only)
        skip
        refine fr_b hm (fun x11 hm => ?_)
        refine fr_b hm (fun x12 hm => ?_)
        skip
        cases hm
        exact hi6 _ rfl
      · intro k10 hk10 hm
        refine fr_if hm (fun hm => ?_) (fun hm => ?_)
        · skip
          skip
          exact hk10 _ hm
        · skip
          skip
          skip
          exact hk10 _ hm
set_option maxRecDepth 4000 in
theorem fr_X11_put {m mm : Sg} {a1 : Int32} (hm : f_X11_put  m a1 = some mm) : Fr SM m mm := by
  unfold f_X11_put at hm
  skip
  skip
  refine g_lp (I := fun (s : Sg × Int32) => Fr SM s.1 mm) (E := fun (s : Sg) => Fr SM s mm) hm ?_ ?_
  · rintro m3 hm
    (try dsimp only at hm)
    (try dsimp only)
    exact fr_retv hm
  · rintro ⟨m1, x2⟩ o hm hx5 hi4
    (try dsimp only [f_X11_put_L3] at hm)
    (try dsimp only)
    skip
    refine fr_if hm (fun hm => ?_) (fun hm => ?_)
    · skip
      cases hm
      exact hx5 _ rfl
    · skip
      skip
      skip
      skip
      skip
      refine g_jn (J := fun (s : Sg) => Fr SM s mm) hm ?_ ?_
      · intro m6 hm
        refine fr_b hm (fun x8 hm => ?_)
        skip
        cases hm
        exact hi4 _ rfl
      · intro k7 hk7 hm
        refine fr_fi hm (fun hm => ?_) (fun hm => ?_)
        · skip
          skip
          skip
          skip
          skip
          skip
          skip
          skip
          refine fr_st hm (by first | rfl | assumption | (simp [SC]; done) | (simp [SC]; omega)) (fun m9 hm => ?_)
          skip
          skip
          skip
          skip
          skip
          refine fr_wr hm (by first | rfl | assumption | (simp [SC]; done) | (simp [SC]; omega)) (fun m10 hm => ?_)
          exact hk7 _ hm
        · skip
          exact hk7 _ hm
set_option maxRecDepth 4000 in
theorem fr_X11_feed {m mm : Sg} {r : Int32} {a1 : Int32} {a2 : Int32} {a3 : Int32} {a4 : Int32} {a5 : Int32} (hm : f_X11_feed  m a1 a2 a3 a4 a5 = some (r, mm)) : Fr SM m mm := by
  unfold f_X11_feed at hm
  skip
  skip
  refine fr_wr hm (by first | rfl | assumption | (simp [SC]; done) | (simp [SC]; omega)) (fun m1 hm => ?_)
  skip
  skip
  skip
  refine fr_cal hm (fun _ _ h => fr_X11_bytesIn h) (fun x3 m2 hm => ?_)
  skip
  skip
  refine fr_cal hm (fun _ _ h => fr_X11_bytesIn h) (fun x5 m4 hm => ?_)
  skip
  skip
  refine fr_cal hm (fun _ _ h => fr_X11_bytesIn h) (fun x7 m6 hm => ?_)
  skip
  skip
  refine fr_cal hm (fun _ _ h => fr_X11_bytesIn h) (fun x9 m8 hm => ?_)
  skip
  skip
  refine fr_cal hm (fun _ _ h => fr_X11_bytesIn h) (fun x11 m10 hm => ?_)
  skip
  skip
  refine fr_if hm (fun hm => ?_) (fun hm => ?_)
  · skip
    skip
    refine fr_calv hm (fun _ h => fr_X11_put h) (fun m12 hm => ?_)
    skip
    skip
    refine fr_calv hm (fun _ h => fr_X11_put h) (fun m13 hm => ?_)
    skip
    skip
    refine fr_calv hm (fun _ h => fr_X11_put h) (fun m14 hm => ?_)
    skip
    skip
    refine fr_calv hm (fun _ h => fr_X11_put h) (fun m15 hm => ?_)
    skip
    skip
    refine fr_calv hm (fun _ h => fr_X11_put h) (fun m16 hm => ?_)
    skip
    skip
    exact fr_ret hm
  · skip
    exact fr_ret hm
set_option maxRecDepth 4000 in
theorem fr_X11_end {m mm : Sg} {r : Int32} {a1 : Int32} (hm : f_X11_end  m a1 = some (r, mm)) : Fr SM m mm := by
  unfold f_X11_end at hm
  skip
  skip
  refine fr_wr hm (by first | rfl | assumption | (simp [SC]; done) | (simp [SC]; omega)) (fun m1 hm => ?_)
  skip
  refine fr_if hm (fun hm => ?_) (fun hm => ?_)
  · skip
    exact fr_ret hm
  · skip
    skip
    skip
    refine fr_if hm (fun hm => ?_) (fun hm => ?_)
    · skip
      skip
      refine fr_wr hm (by first | rfl | assumption | (simp [SC]; done) | (simp [SC]; omega)) (fun m2 hm => ?_)
      skip
      exact fr_ret hm
    · skip
      exact fr_ret hm
set_option maxRecDepth 4000 in
theorem fr_X11_look {m mm : Sg} {r : Int32} (hm : f_X11_look  m  = some (r, mm)) : Fr SM m mm := by
  unfold f_X11_look at hm
  refine g_lp (I := fun (s : Sg) => Fr SM s mm) (E := fun (s : Sg) => Fr SM s mm) hm ?_ ?_
  · rintro m2 hm
    (try dsimp only at hm)
    (try dsimp only)
    skip
    skip
    skip
    skip
    refine fr_if hm (fun hm => ?_) (fun hm => ?_)
    · skip
      exact fr_ret hm
    · skip
      skip
      skip
      skip
      skip
      skip
      skip
      refine fr_n hm (fun hm => ?_)
      skip
      skip
      skip
      exact fr_ret hm
  · rintro m1 o hm hx4 hi3
    (try dsimp only [f_X11_look_L0] at hm)
    (try dsimp only)
    skip
    skip
    skip
    skip
    refine fr_if hm (fun hm => ?_) (fun hm => ?_)
    · cases hm
      exact hx4 _ rfl
    · skip
      skip
      skip
      skip
      skip
      skip
      skip
      refine fr_n hm (fun hm => ?_)
      skip
      refine fr_fi hm (fun hm => ?_) (fun hm => ?_)
      · cases hm
        exact hx4 _ rfl
      · skip
        skip
        skip
        skip
        skip
        refine fr_wr hm (by first | rfl | assumption | (simp [SC]; done) | (simp [SC]; omega)) (fun m5 hm => ?_)
        skip
        cases hm
        exact hi3 _ rfl
set_option maxRecDepth 4000 in
theorem fr_X11_fails {m mm : Sg} {r : Int32} (hm : f_X11_fails  m  = some (r, mm)) : Fr SM m mm := by
  unfold f_X11_fails at hm
  skip
  skip
  skip
  refine fr_fi hm (fun hm => ?_) (fun hm => ?_)
  · skip
    exact fr_ret hm
  · skip
    skip
    skip
    refine fr_wr hm (by first | rfl | assumption | (simp [SC]; done) | (simp [SC]; omega)) (fun m1 hm => ?_)
    skip
    exact fr_ret hm
set_option maxRecDepth 4000 in
theorem fr_X11_goesIn {m mm : Sg} {r : Int32} (hm : f_X11_goesIn  m  = some (r, mm)) : Fr SM m mm := by
  unfold f_X11_goesIn at hm
  skip
  skip
  skip
  refine fr_fi hm (fun hm => ?_) (fun hm => ?_)
  · skip
    skip
    skip
    skip
    skip
    refine fr_wr hm (by first | rfl | assumption | (simp [SC]; done) | (simp [SC]; omega)) (fun m1 hm => ?_)
    skip
    skip
    skip
    skip
    skip
    refine fr_wr hm (by first | rfl | assumption | (simp [SC]; done) | (simp [SC]; omega)) (fun m2 hm => ?_)
    skip
    exact fr_ret hm
  · skip
    refine fr_cal hm (fun _ _ h => fr_X11_fails h) (fun x4 m3 hm => ?_)
    exact fr_retz hm
set_option maxRecDepth 4000 in
theorem fr_X11_takes {m mm : Sg} {r : Int32} {a1 : Int32} (hm : f_X11_takes  m a1 = some (r, mm)) : Fr SM m mm := by
  unfold f_X11_takes at hm
  skip
  skip
  skip
  refine g_jn (J := fun (s : Sg) => Fr SM s mm) hm ?_ ?_
  · intro m1 hm
    skip
    refine fr_cal hm (fun _ _ h => fr_X11_fails h) (fun x4 m3 hm => ?_)
    exact fr_retz hm
  · intro k2 hk2 hm
    refine fr_fi hm (fun hm => ?_) (fun hm => ?_)
    · skip
      exact hk2 _ hm
    · skip
      refine fr_cal hm (fun _ _ h => fr_X11_look h) (fun x6 m5 hm => ?_)
      skip
      refine fr_if hm (fun hm => ?_) (fun hm => ?_)
      · skip
        skip
        skip
        skip
        skip
        refine fr_wr hm (by first | rfl | assumption | (simp [SC]; done) | (simp [SC]; omega)) (fun m7 hm => ?_)
        skip
        exact fr_ret hm
      · skip
        exact hk2 _ hm
set_option maxRecDepth 4000 in
theorem fr_X11_isDigit {m mm : Sg} {r : Int32} (hm : f_X11_isDigit  m  = some (r, mm)) : Fr SM m mm := by
  unfold f_X11_isDigit at hm
  skip
  skip
  skip
  skip
  refine fr_if hm (fun hm => ?_) (fun hm => ?_)
  · skip
    exact fr_ret hm
  · skip
    skip
    skip
    skip
    skip
    skip
    skip
    refine fr_n hm (fun hm => ?_)
    skip
    refine fr_if hm (fun hm => ?_) (fun hm => ?_)
    · skip
      exact fr_ret hm
    · skip
      skip
      skip
      skip
      skip
      skip
      skip
      refine fr_n hm (fun hm => ?_)
      skip
      refine fr_if hm (fun hm => ?_) (fun hm => ?_)
      · skip
        exact fr_ret hm
      · skip
        skip
        exact fr_ret hm
set_option maxRecDepth 4000 in
theorem fr_X11_within {m mm : Sg} {r : Int32} {a1 : Int64} (hm : f_X11_within  m a1 = some (r, mm)) : Fr SM m mm := by
  unfold f_X11_within at hm
  skip
  skip
  skip
  skip
  skip
  skip
  exact fr_ret hm
set_option maxRecDepth 4000 in
theorem fr_X11_isSign {m mm : Sg} {r : Int32} {a1 : Int32} (hm : f_X11_isSign  m a1 = some (r, mm)) : Fr SM m mm := by
  unfold f_X11_isSign at hm
  skip
  skip
  refine g_jn (J := fun (s : Sg) => Fr SM s mm) hm ?_ ?_
  · intro m1 hm
    skip
    skip
    exact fr_ret hm
  · intro k2 hk2 hm
    refine fr_if hm (fun hm => ?_) (fun hm => ?_)
    · skip
      exact hk2 _ hm
    · skip
      skip
      refine fr_if hm (fun hm => ?_) (fun hm => ?_)
      · skip
        exact hk2 _ hm
      · skip
        skip
        refine fr_fi hm (fun hm => ?_) (fun hm => ?_)
        · skip
          exact fr_ret hm
        · skip
          exact hk2 _ hm
set_option maxRecDepth 4000 in
theorem fr_X11_atom {m mm : Sg} {r : Int32} {R : Nat → Sg → Int32 → Int32 → Option (Int32 × Sg)} (hR : ∀ t m a b r m1, R t m a b = some (r, m1) → Fr SM m m1) (hm : f_X11_atom R  m  = some (r, mm)) : Fr SM m mm := by
  unfold f_X11_atom at hm
  skip
  refine fr_cal hm (fun _ _ h => fr_X11_look h) (fun x2 m1 hm => ?_)
  skip
  skip
  skip
  refine fr_cal hm (fun _ _ h => fr_X11_isAmong h) (fun x4 m3 hm => ?_)
  refine fr_if hm (fun hm => ?_) (fun hm => ?_)
  · skip
    skip
    refine fr_fi hm (fun hm => ?_) (fun hm => ?_)
    · skip
      refine fr_cal hm (fun _ _ h => fr_X11_isDigit h) (fun x6 m5 hm => ?_)
      refine g_jn (J := fun (s : Sg) => Fr SM s mm) hm ?_ ?_
      · intro m7 hm
        skip
        skip
        skip
        skip
        refine g_lp (I := fun (s : Sg × Int32 × Int32) => Fr SM s.1 mm) (E := fun (x : (Sg) ⊕ (Sg × Int32)) => match x with | .inl m12 => Fr SM m12 mm | .inr (m13, x14) => Fr SM m13 mm) hm ?_ ?_
        · rintro (m12 | ⟨m13, x14⟩) hm
          · (try dsimp only at hm)
            (try dsimp only)
            skip
            refine fr_cal hm (fun _ _ h => fr_X11_fails h) (fun x23 m22 hm => ?_)
            skip
            skip
            exact fr_ret hm
          · (try dsimp only at hm)
            (try dsimp only)
            skip
            exact fr_ret hm
        · rintro ⟨m9, x10, x11⟩ o hm hx16 hi15
          (try dsimp only [f_X11_atom_L90] at hm)
          (try dsimp only)
          skip
          refine fr_cal hm (fun _ _ h => fr_X11_isDigit h) (fun x18 m17 hm => ?_)
          refine fr_if hm (fun hm => ?_) (fun hm => ?_)
          · skip
            cases hm
            exact hx16 _ rfl
          · skip
            skip
            skip
            refine fr_fi hm (fun hm => ?_) (fun hm => ?_)
            · skip
              cases hm
              exact hx16 _ rfl
            · skip
              skip
              refine fr_fi hm (fun hm => ?_) (fun hm => ?_)
              · skip
                skip
                skip
                skip
                skip
                skip
                skip
                skip
                skip
                skip
                refine fr_n hm (fun hm => ?_)
                skip
                skip
                skip
                refine fr_b hm (fun x19 hm => ?_)
                skip
                skip
                skip
                skip
                skip
                refine fr_wr hm (by first | rfl | assumption | (simp [SC]; done) | (simp [SC]; omega)) (fun m20 hm => ?_)
                refine fr_b hm (fun x21 hm => ?_)
                skip
                cases hm
                exact hi15 _ rfl
              · skip
                cases hm
                exact hx16 _ rfl
      · intro k8 hk8 hm
        refine fr_fi hm (fun hm => ?_) (fun hm => ?_)
        · skip
          exact hk8 _ hm
        · skip
          refine fr_cal hm (fun _ _ h => fr_X11_fails h) (fun x25 m24 hm => ?_)
          skip
          skip
          exact hk8 _ hm
    · skip
      refine fr_cal hm (fun _ _ h => fr_X11_goesIn h) (fun x27 m26 hm => ?_)
      refine fr_fi hm (fun hm => ?_) (fun hm => ?_)
      · skip
        refine fr_cal hm (fun _ _ h => hR _ _ _ _ _ _ h) (fun x29 m28 hm => ?_)
        skip
        skip
        skip
        refine fr_cal hm (fun _ _ h => fr_X11_takes h) (fun x31 m30 hm => ?_)
        refine fr_fi hm (fun hm => ?_) (fun hm => ?_)
        · skip
          skip
          skip
          skip
          skip
          refine fr_wr hm (by first | rfl | assumption | (simp [SC]; done) | (simp [SC]; omega)) (fun m32 hm => ?_)
          skip
          exact fr_ret hm
        · skip
          exact fr_ret hm
      · skip
        exact fr_ret hm
  · skip
    skip
    skip
    skip
    skip
    refine fr_wr hm (by first | rfl | assumption | (simp [SC]; done) | (simp [SC]; omega)) (fun m33 hm => ?_)
    skip
    skip
    skip
    refine fr_n hm (fun hm => ?_)
    exact fr_ret hm
set_option maxRecDepth 4000 in
theorem fr_X11_term {m mm : Sg} {r : Int32} {R : Nat → Sg → Int32 → Int32 → Option (Int32 × Sg)} (hR : ∀ t m a b r m1, R t m a b = some (r, m1) → Fr SM m m1) (hm : f_X11_term R  m  = some (r, mm)) : Fr SM m mm := by
  unfold f_X11_term at hm
  skip
  refine fr_cal hm (fun _ _ h => hR _ _ _ _ _ _ h) (fun x2 m1 hm => ?_)
  skip
  refine g_lp (I := fun (s : Sg × Int32) => Fr SM s.1 mm) (E := fun (s : Sg × Int32) => Fr SM s.1 mm) hm ?_ ?_
  · rintro ⟨m5, x6⟩ hm
    (try dsimp only at hm)
    (try dsimp only)
    skip
    exact fr_ret hm
  · rintro ⟨m3, x4⟩ o hm hx8 hi7
    (try dsimp only [f_X11_term_L5] at hm)
    (try dsimp only)
    skip
    skip
    skip
    refine fr_fi hm (fun hm => ?_) (fun hm => ?_)
    · skip
      cases hm
      exact hx8 _ rfl
    · skip
      refine fr_cal hm (fun _ _ h => fr_X11_look h) (fun x10 m9 hm => ?_)
      skip
      refine g_jn (J := fun (s : Sg) => Fr SM s mm) hm ?_ ?_
      · intro m11 hm
        skip
        refine fr_cal hm (fun _ _ h => fr_X11_look h) (fun x14 m13 hm => ?_)
        skip
        refine g_jn (J := fun (s : Sg × Int32) => Fr SM s.1 mm) hm ?_ ?_
        · rintro ⟨m15, x16⟩ hm
          (try dsimp only at hm)
          (try dsimp only)
          skip
          skip
          skip
          skip
          skip
          skip
          refine fr_wr hm (by first | rfl | assumption | (simp [SC]; done) | (simp [SC]; omega)) (fun m18 hm => ?_)
          skip
          refine fr_cal hm (fun _ _ h => hR _ _ _ _ _ _ h) (fun x20 m19 hm => ?_)
          skip
          refine fr_b hm (fun x21 hm => ?_)
          skip
          refine g_jn (J := fun (s : Sg × Int64) => Fr SM s.1 mm) hm ?_ ?_
          · rintro ⟨m22, x23⟩ hm
            (try dsimp only at hm)
            (try dsimp only)
            refine fr_cal hm (fun _ _ h => fr_X11_within h) (fun x26 m25 hm => ?_)
            skip
            skip
            cases hm
            exact hi7 _ rfl
          · intro k24 hk24 hm
            refine fr_if hm (fun hm => ?_) (fun hm => ?_)
            · skip
              skip
              skip
              refine fr_fi hm (fun hm => ?_) (fun hm => ?_)
              · skip
                skip
                skip
                refine fr_n hm (fun hm => ?_)
                skip
                exact hk24 _ hm
              · skip
                skip
                skip
                exact hk24 _ hm
            · skip
              skip
              skip
              skip
              skip
              skip
              exact hk24 _ hm
        · intro k17 hk17 hm
          refine fr_fi hm (fun hm => ?_) (fun hm => ?_)
          · skip
            exact hk17 _ hm
          · skip
            skip
            exact hk17 _ hm
      · intro k12 hk12 hm
        refine fr_if hm (fun hm => ?_) (fun hm => ?_)
        · exact hk12 _ hm
        · skip
          refine fr_cal hm (fun _ _ h => fr_X11_look h) (fun x28 m27 hm => ?_)
          skip
          refine fr_fi hm (fun hm => ?_) (fun hm => ?_)
          · skip
            cases hm
            exact hx8 _ rfl
          · exact hk12 _ hm
set_option maxRecDepth 4000 in
theorem fr_X11_sum {m mm : Sg} {r : Int32} {R : Nat → Sg → Int32 → Int32 → Option (Int32 × Sg)} (hR : ∀ t m a b r m1, R t m a b = some (r, m1) → Fr SM m m1) (hm : f_X11_sum R  m  = some (r, mm)) : Fr SM m mm := by
  unfold f_X11_sum at hm
  skip
  refine fr_cal hm (fun _ _ h => hR _ _ _ _ _ _ h) (fun x2 m1 hm => ?_)
  skip
  refine g_lp (I := fun (s : Sg × Int32) => Fr SM s.1 mm) (E := fun (s : Sg × Int32) => Fr SM s.1 mm) hm ?_ ?_
  · rintro ⟨m5, x6⟩ hm
    (try dsimp only at hm)
    (try dsimp only)
    skip
    exact fr_ret hm
  · rintro ⟨m3, x4⟩ o hm hx8 hi7
    (try dsimp only [f_X11_sum_L5] at hm)
    (try dsimp only)
    skip
    skip
    skip
    refine fr_fi hm (fun hm => ?_) (fun hm => ?_)
    · skip
      cases hm
      exact hx8 _ rfl
    · skip
      refine fr_cal hm (fun _ _ h => fr_X11_look h) (fun x10 m9 hm => ?_)
      skip
      refine g_jn (J := fun (s : Sg) => Fr SM s mm) hm ?_ ?_
      · intro m11 hm
        skip
        refine fr_cal hm (fun _ _ h => fr_X11_look h) (fun x14 m13 hm => ?_)
        skip
        refine g_jn (J := fun (s : Sg × Int32) => Fr SM s.1 mm) hm ?_ ?_
        · rintro ⟨m15, x16⟩ hm
          (try dsimp only at hm)
          (try dsimp only)
          skip
          skip
          skip
          skip
          skip
          skip
          refine fr_wr hm (by first | rfl | assumption | (simp [SC]; done) | (simp [SC]; omega)) (fun m18 hm => ?_)
          skip
          refine fr_cal hm (fun _ _ h => hR _ _ _ _ _ _ h) (fun x20 m19 hm => ?_)
          skip
          refine fr_b hm (fun x21 hm => ?_)
          skip
          refine g_jn (J := fun (s : Sg × Int64) => Fr SM s.1 mm) hm ?_ ?_
          · rintro ⟨m22, x23⟩ hm
            (try dsimp only at hm)
            (try dsimp only)
            refine fr_cal hm (fun _ _ h => fr_X11_within h) (fun x26 m25 hm => ?_)
            skip
            skip
            cases hm
            exact hi7 _ rfl
          · intro k24 hk24 hm
            refine fr_if hm (fun hm => ?_) (fun hm => ?_)
            · skip
              skip
              skip
              skip
              skip
              exact hk24 _ hm
            · skip
              skip
              skip
              skip
              skip
              skip
              exact hk24 _ hm
        · intro k17 hk17 hm
          refine fr_fi hm (fun hm => ?_) (fun hm => ?_)
          · skip
            exact hk17 _ hm
          · skip
            skip
            exact hk17 _ hm
      · intro k12 hk12 hm
        refine fr_if hm (fun hm => ?_) (fun hm => ?_)
        · exact hk12 _ hm
        · skip
          refine fr_cal hm (fun _ _ h => fr_X11_look h) (fun x28 m27 hm => ?_)
          skip
          refine fr_fi hm (fun hm => ?_) (fun hm => ?_)
          · skip
            cases hm
            exact hx8 _ rfl
          · exact hk12 _ hm
set_option maxRecDepth 4000 in
theorem fr_X11_compares {m mm : Sg} {r : Int32} {a1 : Int32} {a2 : Int32} {R : Nat → Sg → Int32 → Int32 → Option (Int32 × Sg)} (hR : ∀ t m a b r m1, R t m a b = some (r, m1) → Fr SM m m1) (hm : f_X11_compares R  m a1 a2 = some (r, mm)) : Fr SM m mm := by
  unfold f_X11_compares at hm
  skip
  refine g_jn (J := fun (s : Sg × Int32) => Fr SM s.1 mm) hm ?_ ?_
  · rintro ⟨m1, x2⟩ hm
    (try dsimp only at hm)
    (try dsimp only)
    skip
    skip
    skip
    skip
    refine fr_if hm (fun hm => ?_) (fun hm => ?_)
    · skip
      refine fr_cal hm (fun _ _ h => fr_X11_look h) (fun x5 m4 hm => ?_)
      skip
      skip
      refine fr_cal hm (fun _ _ h => fr_X11_isSign h) (fun x7 m6 hm => ?_)
      refine fr_fi hm (fun hm => ?_) (fun hm => ?_)
      · skip
        skip
        skip
        skip
        skip
        refine fr_wr hm (by first | rfl | assumption | (simp [SC]; done) | (simp [SC]; omega)) (fun m8 hm => ?_)
        skip
        refine fr_cal hm (fun _ _ h => hR _ _ _ _ _ _ h) (fun x10 m9 hm => ?_)
        skip
        skip
        skip
        refine fr_fi hm (fun hm => ?_) (fun hm => ?_)
        · skip
          skip
          refine fr_fi hm (fun hm => ?_) (fun hm => ?_)
          · skip
            skip
            refine fr_if hm (fun hm => ?_) (fun hm => ?_)
            · skip
              exact fr_ret hm
            · skip
              skip
              exact fr_ret hm
          · skip
            skip
            refine fr_if hm (fun hm => ?_) (fun hm => ?_)
            · skip
              skip
              exact fr_ret hm
            · skip
              skip
              exact fr_ret hm
        · skip
          skip
          refine fr_fi hm (fun hm => ?_) (fun hm => ?_)
          · skip
            skip
            exact fr_ret hm
          · skip
            skip
            exact fr_ret hm
      · skip
        refine fr_cal hm (fun _ _ h => fr_X11_fails h) (fun x12 m11 hm => ?_)
        exact fr_retz hm
    · skip
      exact fr_ret hm
  · intro k3 hk3 hm
    refine fr_if hm (fun hm => ?_) (fun hm => ?_)
    · skip
      refine fr_cal hm (fun _ _ h => hR _ _ _ _ _ _ h) (fun x14 m13 hm => ?_)
      skip
      exact hk3 _ hm
    · skip
      skip
      skip
      exact hk3 _ hm
set_option maxRecDepth 4000 in
theorem fr_X11_unit {m mm : Sg} {r : Int32} {R : Nat → Sg → Int32 → Int32 → Option (Int32 × Sg)} (hR : ∀ t m a b r m1, R t m a b = some (r, m1) → Fr SM m m1) (hm : f_X11_unit R  m  = some (r, mm)) : Fr SM m mm := by
  unfold f_X11_unit at hm
  skip
  refine fr_cal hm (fun _ _ h => fr_X11_look h) (fun x2 m1 hm => ?_)
  skip
  skip
  skip
  refine fr_fi hm (fun hm => ?_) (fun hm => ?_)
  · skip
    skip
    refine fr_fi hm (fun hm => ?_) (fun hm => ?_)
    · skip
      skip
      skip
      refine fr_cal hm (fun _ _ h => hR _ _ _ _ _ _ h) (fun x4 m3 hm => ?_)
      exact fr_retz hm
    · skip
      refine fr_cal hm (fun _ _ h => fr_X11_goesIn h) (fun x6 m5 hm => ?_)
      refine fr_fi hm (fun hm => ?_) (fun hm => ?_)
      · skip
        skip
        skip
        refine fr_cal hm (fun _ _ h => hR _ _ _ _ _ _ h) (fun x8 m7 hm => ?_)
        skip
        skip
        skip
        refine fr_cal hm (fun _ _ h => fr_X11_takes h) (fun x10 m9 hm => ?_)
        refine fr_fi hm (fun hm => ?_) (fun hm => ?_)
        · skip
          skip
          skip
          skip
          skip
          refine fr_wr hm (by first | rfl | assumption | (simp [SC]; done) | (simp [SC]; omega)) (fun m11 hm => ?_)
          skip
          exact fr_retz hm
        · skip
          exact fr_ret hm
      · skip
        exact fr_ret hm
  · skip
    refine fr_cal hm (fun _ _ h => fr_X11_goesIn h) (fun x13 m12 hm => ?_)
    refine fr_fi hm (fun hm => ?_) (fun hm => ?_)
    · skip
      refine fr_cal hm (fun _ _ h => hR _ _ _ _ _ _ h) (fun x15 m14 hm => ?_)
      skip
      skip
      skip
      skip
      skip
      skip
      refine fr_wr hm (by first | rfl | assumption | (simp [SC]; done) | (simp [SC]; omega)) (fun m16 hm => ?_)
      skip
      refine fr_fi hm (fun hm => ?_) (fun hm => ?_)
      · skip
        exact fr_ret hm
      · skip
        skip
        exact fr_ret hm
    · skip
      exact fr_ret hm
set_option maxRecDepth 4000 in
theorem fr_X11_part {m mm : Sg} {r : Int32} {a1 : Int32} {a2 : Int32} {R : Nat → Sg → Int32 → Int32 → Option (Int32 × Sg)} (hR : ∀ t m a b r m1, R t m a b = some (r, m1) → Fr SM m m1) (hm : f_X11_part R  m a1 a2 = some (r, mm)) : Fr SM m mm := by
  unfold f_X11_part at hm
  skip
  refine g_jn (J := fun (s : Sg × Int32) => Fr SM s.1 mm) hm ?_ ?_
  · rintro ⟨m1, x2⟩ hm
    (try dsimp only at hm)
    (try dsimp only)
    skip
    refine g_lp (I := fun (s : Sg × Int32) => Fr SM s.1 mm) (E := fun (s : Sg × Int32) => Fr SM s.1 mm) hm ?_ ?_
    · rintro ⟨m6, x7⟩ hm
      (try dsimp only at hm)
      (try dsimp only)
      skip
      exact fr_retz hm
    · rintro ⟨m4, x5⟩ o hm hx9 hi8
      (try dsimp only [f_X11_part_L18] at hm)
      (try dsimp only)
      skip
      skip
      skip
      refine fr_fi hm (fun hm => ?_) (fun hm => ?_)
      · skip
        cases hm
        exact hx9 _ rfl
      · skip
        refine fr_cal hm (fun _ _ h => fr_X11_look h) (fun x11 m10 hm => ?_)
        skip
        refine fr_fi hm (fun hm => ?_) (fun hm => ?_)
        · skip
          cases hm
          exact hx9 _ rfl
        · skip
          skip
          skip
          skip
          skip
          refine fr_wr hm (by first | rfl | assumption | (simp [SC]; done) | (simp [SC]; omega)) (fun m12 hm => ?_)
          skip
          refine fr_cal hm (fun _ _ h => hR _ _ _ _ _ _ h) (fun x14 m13 hm => ?_)
          skip
          skip
          refine g_jn (J := fun (s : Sg × Int32) => Fr SM s.1 mm) hm ?_ ?_
          · rintro ⟨m15, x16⟩ hm
            (try dsimp only at hm)
            (try dsimp only)
            skip
            skip
            cases hm
            exact hi8 _ rfl
          · intro k17 hk17 hm
            refine g_jn (J := fun (s : Sg) => Fr SM s mm) hm ?_ ?_
            · intro m18 hm
              skip
              exact hk17 _ hm
            · intro k19 hk19 hm
              refine fr_if hm (fun hm => ?_) (fun hm => ?_)
              · skip
                exact hk19 _ hm
              · skip
                refine fr_if hm (fun hm => ?_) (fun hm => ?_)
                · skip
                  exact hk19 _ hm
                · skip
                  skip
                  skip
                  exact hk17 _ hm
  · intro k3 hk3 hm
    refine fr_if hm (fun hm => ?_) (fun hm => ?_)
    · skip
      refine fr_cal hm (fun _ _ h => hR _ _ _ _ _ _ h) (fun x21 m20 hm => ?_)
      skip
      exact hk3 _ hm
    · skip
      skip
      skip
      refine fr_cal hm (fun _ _ h => hR _ _ _ _ _ _ h) (fun x23 m22 hm => ?_)
      skip
      skip
      exact hk3 _ hm
set_option maxRecDepth 4000 in
theorem fr_X11_condition {m mm : Sg} {r : Int32} {a1 : Int32} {a2 : Int32} {R : Nat → Sg → Int32 → Int32 → Option (Int32 × Sg)} (hR : ∀ t m a b r m1, R t m a b = some (r, m1) → Fr SM m m1) (hm : f_X11_condition R  m a1 a2 = some (r, mm)) : Fr SM m mm := by
  unfold f_X11_condition at hm
  skip
  skip
  skip
  refine fr_cal hm (fun _ _ h => hR _ _ _ _ _ _ h) (fun x2 m1 hm => ?_)
  skip
  skip
  refine g_lp (I := fun (s : Sg × Int32) => Fr SM s.1 mm) (E := fun (s : Sg × Int32) => Fr SM s.1 mm) hm ?_ ?_
  · rintro ⟨m5, x6⟩ hm
    (try dsimp only at hm)
    (try dsimp only)
    skip
    exact fr_retz hm
  · rintro ⟨m3, x4⟩ o hm hx8 hi7
    (try dsimp only [f_X11_condition_L7] at hm)
    (try dsimp only)
    skip
    skip
    skip
    refine fr_fi hm (fun hm => ?_) (fun hm => ?_)
    · skip
      cases hm
      exact hx8 _ rfl
    · skip
      refine fr_cal hm (fun _ _ h => fr_X11_look h) (fun x10 m9 hm => ?_)
      skip
      refine fr_fi hm (fun hm => ?_) (fun hm => ?_)
      · skip
        cases hm
        exact hx8 _ rfl
      · skip
        skip
        skip
        skip
        skip
        refine fr_wr hm (by first | rfl | assumption | (simp [SC]; done) | (simp [SC]; omega)) (fun m11 hm => ?_)
        skip
        skip
        skip
        refine fr_cal hm (fun _ _ h => hR _ _ _ _ _ _ h) (fun x13 m12 hm => ?_)
        skip
        skip
        refine g_jn (J := fun (s : Sg × Int32) => Fr SM s.1 mm) hm ?_ ?_
        · rintro ⟨m14, x15⟩ hm
          (try dsimp only at hm)
          (try dsimp only)
          skip
          skip
          cases hm
          exact hi7 _ rfl
        · intro k16 hk16 hm
          refine g_jn (J := fun (s : Sg) => Fr SM s mm) hm ?_ ?_
          · intro m17 hm
            skip
            skip
            exact hk16 _ hm
          · intro k18 hk18 hm
            refine fr_fi hm (fun hm => ?_) (fun hm => ?_)
            · skip
              exact hk18 _ hm
            · skip
              refine fr_if hm (fun hm => ?_) (fun hm => ?_)
              · skip
                skip
                exact hk16 _ hm
              · skip
                exact hk18 _ hm
theorem frec11 : ∀ (n t : Nat) (m : Sg) (a b r : Int32) (m1 : Sg), rec11 n t m a b = some (r, m1) → Fr SM m m1
  | 0, t, m, a, b, r, m1, h => by cases h
  | n + 1, 0, m, a, b, r, m1, h => fr_X11_atom (frec11 n) h
  | n + 1, 1, m, a, b, r, m1, h => fr_X11_term (frec11 n) h
  | n + 1, 2, m, a, b, r, m1, h => fr_X11_sum (frec11 n) h
  | n + 1, 3, m, a, b, r, m1, h => fr_X11_compares (frec11 n) h
  | n + 1, 4, m, a, b, r, m1, h => fr_X11_unit (frec11 n) h
  | n + 1, 5, m, a, b, r, m1, h => fr_X11_part (frec11 n) h
  | n + 1, 6, m, a, b, r, m1, h => fr_X11_condition (frec11 n) h
  | n + 1, t + 7, m, a, b, r, m1, h => by cases h
set_option maxRecDepth 4000 in
theorem fr_X11_clause {m mm : Sg} (hm : f_X11_clause  m  = some mm) : Fr SM m mm := by
  unfold f_X11_clause at hm
  skip
  refine fr_cal hm (fun _ _ h => fr_X11_look h) (fun x2 m1 hm => ?_)
  skip
  skip
  skip
  refine fr_cal hm (fun _ _ h => fr_X11_isAmong h) (fun x4 m3 hm => ?_)
  refine fr_fi hm (fun hm => ?_) (fun hm => ?_)
  · skip
    skip
    skip
    skip
    skip
    refine fr_wr hm (by first | rfl | assumption | (simp [SC]; done) | (simp [SC]; omega)) (fun m5 hm => ?_)
    skip
    skip
    refine fr_cal hm (fun _ _ h => fr_X11_takes h) (fun x7 m6 hm => ?_)
    refine fr_fi hm (fun hm => ?_) (fun hm => ?_)
    · skip
      skip
      skip
      skip
      skip
      refine fr_cal hm (fun _ _ h => fr_X11_look h) (fun x9 m8 hm => ?_)
      skip
      skip
      skip
      refine g_jn (J := fun (s : Sg × Int32 × Int32) => Fr SM s.1 mm) hm ?_ ?_
      · rintro ⟨m10, x11, x12⟩ hm
        (try dsimp only at hm)
        (try dsimp only)
        skip
        skip
        skip
        refine fr_fi hm (fun hm => ?_) (fun hm => ?_)
        · exact fr_retv hm
        · skip
          skip
          refine fr_fi hm (fun hm => ?_) (fun hm => ?_)
          · exact fr_retv hm
          · skip
            skip
            skip
            refine fr_fi hm (fun hm => ?_) (fun hm => ?_)
            · exact fr_retv hm
            · skip
              refine fr_fi hm (fun hm => ?_) (fun hm => ?_)
              · skip
                skip
                refine fr_wr hm (by first | rfl | assumption | (simp [SC]; done) | (simp [SC]; omega)) (fun m14 hm => ?_)
                skip
                skip
                refine fr_wr hm (by first | rfl | assumption | (simp [SC]; done) | (simp [SC]; omega)) (fun m15 hm => ?_)
                exact fr_retv hm
              · exact fr_retv hm
      · intro k13 hk13 hm
        refine g_jn (J := fun (s : Sg) => Fr SM s mm) hm ?_ ?_
        · intro m16 hm
          skip
          skip
          skip
          refine fr_cal hm (fun _ _ h => frec11 64 _ _ _ _ _ _ h) (fun x19 m18 hm => ?_)
          skip
          skip
          skip
          refine fr_cal hm (fun _ _ h => fr_X11_takes h) (fun x21 m20 hm => ?_)
          refine fr_fi hm (fun hm => ?_) (fun hm => ?_)
          · skip
            refine fr_cal hm (fun _ _ h => frec11 64 _ _ _ _ _ _ h) (fun x23 m22 hm => ?_)
            skip
            skip
            exact hk13 _ hm
          · exact fr_retv hm
        · intro k17 hk17 hm
          refine fr_if hm (fun hm => ?_) (fun hm => ?_)
          · skip
            exact hk17 _ hm
          · skip
            skip
            refine fr_fi hm (fun hm => ?_) (fun hm => ?_)
            · skip
              refine fr_cal hm (fun _ _ h => frec11 64 _ _ _ _ _ _ h) (fun x25 m24 hm => ?_)
              skip
              skip
              skip
              skip
              refine fr_fi hm (fun hm => ?_) (fun hm => ?_)
              · skip
                exact hk13 _ hm
              · skip
                refine fr_cal hm (fun _ _ h => fr_X11_look h) (fun x27 m26 hm => ?_)
                refine fr_cal hm (fun _ _ h => fr_X11_isSign h) (fun x29 m28 hm => ?_)
                refine fr_if hm (fun hm => ?_) (fun hm => ?_)
                · skip
                  exact hk13 _ hm
                · skip
                  skip
                  skip
                  refine fr_cal hm (fun _ _ h => frec11 64 _ _ _ _ _ _ h) (fun x31 m30 hm => ?_)
                  skip
                  skip
                  skip
                  refine fr_cal hm (fun _ _ h => fr_X11_takes h) (fun x33 m32 hm => ?_)
                  refine fr_fi hm (fun hm => ?_) (fun hm => ?_)
                  · skip
                    refine fr_cal hm (fun _ _ h => frec11 64 _ _ _ _ _ _ h) (fun x35 m34 hm => ?_)
                    skip
                    skip
                    exact hk13 _ hm
                  · exact fr_retv hm
            · skip
              exact hk17 _ hm
    · exact fr_retv hm
  · skip
    refine fr_cal hm (fun _ _ h => fr_X11_fails h) (fun x37 m36 hm => ?_)
    skip
    exact fr_retv hm
set_option maxRecDepth 4000 in
theorem fr_X11_starts {m mm : Sg} {z : Int32} {a1 : Int32} {a2 : Int32} {q : Nat} (hm : f_X11_starts z m a1 a2 = some mm) : Fr SM m mm := by
  unfold f_X11_starts at hm
  skip
  skip
  refine fr_wr hm (by first | rfl | assumption | (simp [SC]; done) | (simp [SC]; omega)) (fun m1 hm => ?_)
  skip
  skip
  refine fr_wr hm (by first | rfl | assumption | (simp [SC]; done) | (simp [SC]; omega)) (fun m2 hm => ?_)
  skip
  skip
  refine fr_wr hm (by first | rfl | assumption | (simp [SC]; done) | (simp [SC]; omega)) (fun m3 hm => ?_)
  skip
  skip
  refine fr_wr hm (by first | rfl | assumption | (simp [SC]; done) | (simp [SC]; omega)) (fun m4 hm => ?_)
  skip
  skip
  refine fr_wr hm (by first | rfl | assumption | (simp [SC]; done) | (simp [SC]; omega)) (fun m5 hm => ?_)
  exact fr_retv hm
set_option maxRecDepth 4000 in
theorem fr_X11_goThrough {m mm : Sg} {z : Int32} {a1 : Int32} {a2 : Int32} {q : Nat} (hm : f_X11_goThrough z m a1 a2 = some mm) : Fr SM m mm := by
  unfold f_X11_goThrough at hm
  skip
  skip
  skip
  skip
  refine fr_calv hm (fun _ h => fr_X11_starts h) (fun m1 hm => ?_)
  skip
  skip
  refine fr_wr hm (by first | rfl | assumption | (simp [SC]; done) | (simp [SC]; omega)) (fun m2 hm => ?_)
  skip
  skip
  refine fr_wr hm (by first | rfl | assumption | (simp [SC]; done) | (simp [SC]; omega)) (fun m3 hm => ?_)
  skip
  skip
  refine fr_wr hm (by first | rfl | assumption | (simp [SC]; done) | (simp [SC]; omega)) (fun m4 hm => ?_)
  skip
  skip
  refine fr_wr hm (by first | rfl | assumption | (simp [SC]; done) | (simp [SC]; omega)) (fun m5 hm => ?_)
  skip
  refine fr_calv hm (fun _ h => fr_X11_clause h) (fun m6 hm => ?_)
  skip
  refine g_lp (I := fun (s : Sg) => Fr SM s mm) (E := fun (s : Sg) => Fr SM s mm) hm ?_ ?_
  · rintro m8 hm
    (try dsimp only at hm)
    (try dsimp only)
    skip
    skip
    skip
    refine fr_fi hm (fun hm => ?_) (fun hm => ?_)
    · exact fr_retv hm
    · skip
      refine fr_cal hm (fun _ _ h => fr_X11_look h) (fun x16 m15 hm => ?_)
      skip
      refine fr_if hm (fun hm => ?_) (fun hm => ?_)
      · exact fr_retv hm
      · skip
        refine fr_cal hm (fun _ _ h => fr_X11_fails h) (fun x18 m17 hm => ?_)
        skip
        exact fr_retv hm
  · rintro m7 o hm hx10 hi9
    (try dsimp only [f_X11_goThrough_L32] at hm)
    (try dsimp only)
    skip
    skip
    skip
    refine fr_fi hm (fun hm => ?_) (fun hm => ?_)
    · cases hm
      exact hx10 _ rfl
    · skip
      refine fr_cal hm (fun _ _ h => fr_X11_look h) (fun x12 m11 hm => ?_)
      skip
      refine fr_fi hm (fun hm => ?_) (fun hm => ?_)
      · cases hm
        exact hx10 _ rfl
      · skip
        skip
        skip
        skip
        skip
        refine fr_wr hm (by first | rfl | assumption | (simp [SC]; done) | (simp [SC]; omega)) (fun m13 hm => ?_)
        skip
        refine fr_calv hm (fun _ h => fr_X11_clause h) (fun m14 hm => ?_)
        skip
        cases hm
        exact hi9 _ rfl
set_option maxRecDepth 4000 in
theorem fr_X11_here {m mm : Sg} {r : Int32} (hm : f_X11_here  m  = some (r, mm)) : Fr SM m mm := by
  unfold f_X11_here at hm
  skip
  skip
  skip
  skip
  refine fr_if hm (fun hm => ?_) (fun hm => ?_)
  · skip
    exact fr_ret hm
  · skip
    skip
    skip
    skip
    skip
    skip
    skip
    refine fr_n hm (fun hm => ?_)
    skip
    skip
    skip
    exact fr_ret hm
set_option maxRecDepth 4000 in
theorem fr_X11_spotOf {m mm : Sg} {r : Int32} {k : Nat} {a1 : Int32} (hm : f_X11_spotOf k m a1 = some (r, mm)) : Fr SM m mm := by
  unfold f_X11_spotOf at hm
  skip
  skip
  refine g_lp (I := fun (s : Sg × Int32) => Fr SM s.1 mm) (E := fun (x : (Sg × Int32) ⊕ (Sg)) => match x with | .inl (m3, x4) => Fr SM m3 mm | .inr m5 => Fr SM m5 mm) hm ?_ ?_
  · rintro (⟨m3, x4⟩ | m5) hm
    · (try dsimp only at hm)
      (try dsimp only)
      skip
      exact fr_ret hm
    · (try dsimp only at hm)
      (try dsimp only)
      skip
      exact fr_ret hm
  · rintro ⟨m1, x2⟩ o hm hx7 hi6
    (try dsimp only [f_X11_spotOf_L2] at hm)
    (try dsimp only)
    skip
    skip
    refine fr_cal hm (fun _ _ h => fr_J0_length_8abf5 h) (fun x9 m8 hm => ?_)
    refine fr_if hm (fun hm => ?_) (fun hm => ?_)
    · skip
      cases hm
      exact hx7 _ rfl
    · skip
      skip
      refine fr_cal hm (fun _ _ h => fr_J0_charAt_5068e h) (fun x11 m10 hm => ?_)
      skip
      refine fr_fi hm (fun hm => ?_) (fun hm => ?_)
      · refine fr_b hm (fun x12 hm => ?_)
        skip
        cases hm
        exact hi6 _ rfl
      · skip
        cases hm
        exact hx7 _ rfl
set_option maxRecDepth 4000 in
theorem fr_X11_readItem {m mm : Sg} {w : Nat} {n : Nat} {a1 : Int32} {a2 : Int32} {a3 : Int32} (h_w : SM w = true) (hm : f_X11_readItem w n m a1 a2 a3 = some mm) : Fr SM m mm := by
  unfold f_X11_readItem at hm
  skip
  skip
  skip
  skip
  skip
  refine fr_wr hm (by first | rfl | assumption | (simp [SC]; done) | (simp [SC]; omega)) (fun m1 hm => ?_)
  skip
  refine fr_cal hm (fun _ _ h => fr_X11_look h) (fun x3 m2 hm => ?_)
  skip
  skip
  refine fr_cal hm (fun _ _ h => fr_X11_isDigit h) (fun x5 m4 hm => ?_)
  refine fr_fi hm (fun hm => ?_) (fun hm => ?_)
  · skip
    skip
    skip
    refine fr_b hm (fun x6 hm => ?_)
    skip
    skip
    skip
    skip
    skip
    refine fr_wr hm (by first | rfl | assumption | (simp [SC]; done) | (simp [SC]; omega)) (fun m7 hm => ?_)
    skip
    refine fr_cal hm (fun _ _ h => fr_X11_isDigit h) (fun x9 m8 hm => ?_)
    refine g_jn (J := fun (s : Sg × Int32) => Fr SM s.1 mm) hm ?_ ?_
    · rintro ⟨m10, x11⟩ hm
      (try dsimp only at hm)
      (try dsimp only)
      skip
      refine fr_cal hm (fun _ _ h => fr_X11_isDigit h) (fun x14 m13 hm => ?_)
      refine fr_if hm (fun hm => ?_) (fun hm => ?_)
      · skip
        skip
        skip
        skip
        skip
        skip
        refine fr_cal hm (fun _ _ h => fr_X11_isIn h) (fun x16 m15 hm => ?_)
        refine fr_fi hm (fun hm => ?_) (fun hm => ?_)
        · skip
          skip
          skip
          refine fr_st hm (by first | rfl | assumption | (simp [SC]; done) | (simp [SC]; omega)) (fun m17 hm => ?_)
          exact fr_retv hm
        · skip
          skip
          skip
          skip
          skip
          refine fr_wr hm (by first | rfl | assumption | (simp [SC]; done) | (simp [SC]; omega)) (fun m18 hm => ?_)
          skip
          refine fr_cal hm (fun _ _ h => fr_X11_fails h) (fun x20 m19 hm => ?_)
          skip
          exact fr_retv hm
      · skip
        refine fr_cal hm (fun _ _ h => fr_X11_fails h) (fun x22 m21 hm => ?_)
        skip
        exact fr_retv hm
    · intro k12 hk12 hm
      refine fr_if hm (fun hm => ?_) (fun hm => ?_)
      · skip
        exact hk12 _ hm
      · skip
        skip
        skip
        skip
        refine fr_cal hm (fun _ _ h => fr_X11_here h) (fun x24 m23 hm => ?_)
        skip
        skip
        skip
        refine fr_b hm (fun x25 hm => ?_)
        skip
        skip
        skip
        skip
        skip
        refine fr_wr hm (by first | rfl | assumption | (simp [SC]; done) | (simp [SC]; omega)) (fun m26 hm => ?_)
        skip
        exact hk12 _ hm
  · skip
    refine fr_cal hm (fun _ _ h => fr_X11_fails h) (fun x28 m27 hm => ?_)
    skip
    exact fr_retv hm
set_option maxRecDepth 4000 in
theorem fr_X11_mostOf {m mm : Sg} {r : Int32} {a1 : Int32} {a2 : Int32} (hm : f_X11_mostOf  m a1 a2 = some (r, mm)) : Fr SM m mm := by
  unfold f_X11_mostOf at hm
  skip
  skip
  refine fr_fi hm (fun hm => ?_) (fun hm => ?_)
  · skip
    skip
    refine fr_fi hm (fun hm => ?_) (fun hm => ?_)
    · skip
      refine fr_fi hm (fun hm => ?_) (fun hm => ?_)
      · skip
        skip
        refine fr_fi hm (fun hm => ?_) (fun hm => ?_)
        · skip
          skip
          refine fr_fi hm (fun hm => ?_) (fun hm => ?_)
          · skip
            exact fr_ret hm
          · skip
            skip
            exact fr_ret hm
        · skip
          skip
          exact fr_ret hm
      · skip
        skip
        exact fr_ret hm
    · skip
      refine fr_fi hm (fun hm => ?_) (fun hm => ?_)
      · skip
        exact fr_ret hm
      · skip
        skip
        exact fr_ret hm
  · skip
    refine fr_fi hm (fun hm => ?_) (fun hm => ?_)
    · skip
      exact fr_ret hm
    · skip
      skip
      exact fr_ret hm
set_option maxRecDepth 4000 in
theorem fr_X11_leastOf {m mm : Sg} {r : Int32} {a1 : Int32} {a2 : Int32} (hm : f_X11_leastOf  m a1 a2 = some (r, mm)) : Fr SM m mm := by
  unfold f_X11_leastOf at hm
  skip
  skip
  refine g_jn (J := fun (s : Sg) => Fr SM s mm) hm ?_ ?_
  · intro m1 hm
    skip
    skip
    exact fr_ret hm
  · intro k2 hk2 hm
    refine g_jn (J := fun (s : Sg) => Fr SM s mm) hm ?_ ?_
    · intro m3 hm
      skip
      skip
      refine fr_fi hm (fun hm => ?_) (fun hm => ?_)
      · skip
        exact fr_ret hm
      · skip
        skip
        refine fr_if hm (fun hm => ?_) (fun hm => ?_)
        · skip
          exact fr_ret hm
        · skip
          exact hk2 _ hm
    · intro k4 hk4 hm
      refine fr_fi hm (fun hm => ?_) (fun hm => ?_)
      · exact hk4 _ hm
      · skip
        skip
        refine fr_if hm (fun hm => ?_) (fun hm => ?_)
        · skip
          exact hk2 _ hm
        · exact hk4 _ hm
set_option maxRecDepth 4000 in
theorem fr_X11_usual {m mm : Sg} {r : Int32} {a1 : Int32} {a2 : Int32} (hm : f_X11_usual  m a1 a2 = some (r, mm)) : Fr SM m mm := by
  unfold f_X11_usual at hm
  skip
  skip
  refine fr_fi hm (fun hm => ?_) (fun hm => ?_)
  · skip
    skip
    refine fr_fi hm (fun hm => ?_) (fun hm => ?_)
    · skip
      refine fr_fi hm (fun hm => ?_) (fun hm => ?_)
      · skip
        skip
        refine fr_fi hm (fun hm => ?_) (fun hm => ?_)
        · skip
          skip
          refine fr_fi hm (fun hm => ?_) (fun hm => ?_)
          · skip
            skip
            refine fr_fi hm (fun hm => ?_) (fun hm => ?_)
            · skip
              exact fr_ret hm
            · skip
              skip
              exact fr_ret hm
          · skip
            skip
            exact fr_ret hm
        · skip
          skip
          exact fr_ret hm
      · skip
        skip
        exact fr_ret hm
    · skip
      refine fr_fi hm (fun hm => ?_) (fun hm => ?_)
      · skip
        skip
        refine fr_fi hm (fun hm => ?_) (fun hm => ?_)
        · skip
          exact fr_ret hm
        · skip
          skip
          exact fr_ret hm
      · skip
        skip
        exact fr_ret hm
  · skip
    refine fr_fi hm (fun hm => ?_) (fun hm => ?_)
    · skip
      skip
      refine fr_fi hm (fun hm => ?_) (fun hm => ?_)
      · skip
        exact fr_ret hm
      · skip
        skip
        exact fr_ret hm
    · skip
      skip
      exact fr_ret hm
set_option maxRecDepth 4000 in
theorem fr_X11_readItems {m mm : Sg} {w : Nat} {n : Nat} {k : Nat} {a1 : Int32} {a2 : Int32} (h_w : SM w = true) (hm : f_X11_readItems w n k m a1 a2 = some mm) : Fr SM m mm := by
  unfold f_X11_readItems at hm
  skip
  skip
  refine g_lp (I := fun (s : Sg × Int32) => Fr SM s.1 mm) (E := fun (s : Sg) => Fr SM s mm) hm ?_ ?_
  · rintro m3 hm
    (try dsimp only at hm)
    (try dsimp only)
    skip
    skip
    skip
    skip
    refine fr_cal hm (fun _ _ h => fr_X11_look h) (fun x13 m12 hm => ?_)
    refine fr_cal hm (fun _ _ h => fr_X11_spotOf h) (fun x15 m14 hm => ?_)
    skip
    refine g_lp (I := fun (s : Sg × Int32 × Int32) => Fr SM s.1 mm) (E := fun (x : (Sg) ⊕ (Sg)) => match x with | .inl m19 => Fr SM m19 mm | .inr m20 => Fr SM m20 mm) hm ?_ ?_
    · rintro (m19 | m20) hm
      · (try dsimp only at hm)
        (try dsimp only)
        skip
        refine fr_cal hm (fun _ _ h => fr_X11_fails h) (fun x36 m35 hm => ?_)
        skip
        exact fr_retv hm
      · (try dsimp only at hm)
        (try dsimp only)
        exact fr_retv hm
    · rintro ⟨m16, x17, x18⟩ o hm hx22 hi21
      (try dsimp only [f_X11_readItems_L45] at hm)
      (try dsimp only)
      skip
      skip
      refine fr_if hm (fun hm => ?_) (fun hm => ?_)
      · skip
        cases hm
        exact hx22 _ rfl
      · skip
        skip
        skip
        refine fr_fi hm (fun hm => ?_) (fun hm => ?_)
        · skip
          cases hm
          exact hx22 _ rfl
        · skip
          skip
          refine fr_cal hm (fun _ _ h => fr_X11_has h) (fun x24 m23 hm => ?_)
          refine fr_if hm (fun hm => ?_) (fun hm => ?_)
          · skip
            skip
            skip
            skip
            skip
            refine fr_b hm (fun x25 hm => ?_)
            skip
            skip
            skip
            skip
            skip
            skip
            skip
            refine fr_cal hm (fun _ _ h => fr_X11_leastOf h) (fun x27 m26 hm => ?_)
            skip
            skip
            refine fr_cal hm (fun _ _ h => fr_X11_mostOf h) (fun x29 m28 hm => ?_)
            refine fr_calv hm (fun _ h => fr_X11_readItem (by first | rfl | assumption | (simp [SC]; done) | (simp [SC]; omega)) h) (fun m30 hm => ?_)
            skip
            skip
            skip
            refine fr_fi hm (fun hm => ?_) (fun hm => ?_)
            · cases hm
              exact hi21 _ rfl
            · skip
              skip
              refine fr_cal hm (fun _ _ h => fr_X11_look h) (fun x32 m31 hm => ?_)
              refine fr_cal hm (fun _ _ h => fr_X11_spotOf h) (fun x34 m33 hm => ?_)
              skip
              skip
              cases hm
              exact hi21 _ rfl
          · skip
            cases hm
            exact hx22 _ rfl
  · rintro ⟨m1, x2⟩ o hm hx5 hi4
    (try dsimp only [f_X11_readItems_L3] at hm)
    (try dsimp only)
    skip
    skip
    refine fr_cal hm (fun _ _ h => fr_J0_length_8abf5 h) (fun x7 m6 hm => ?_)
    refine fr_if hm (fun hm => ?_) (fun hm => ?_)
    · skip
      cases hm
      exact hx5 _ rfl
    · skip
      skip
      skip
      skip
      skip
      skip
      refine fr_cal hm (fun _ _ h => fr_X11_usual h) (fun x9 m8 hm => ?_)
      refine fr_st hm (by first | rfl | assumption | (simp [SC]; done) | (simp [SC]; omega)) (fun m10 hm => ?_)
      refine fr_b hm (fun x11 hm => ?_)
      skip
      cases hm
      exact hi4 _ rfl
set_option maxRecDepth 4000 in
theorem fr_X11_readClause {m mm : Sg} (hm : f_X11_readClause  m  = some mm) : Fr SM m mm := by
  unfold f_X11_readClause at hm
  skip
  refine fr_cal hm (fun _ _ h => fr_X11_look h) (fun x2 m1 hm => ?_)
  skip
  skip
  skip
  refine g_jn (J := fun (s : Sg × Int32) => Fr SM s.1 mm) hm ?_ ?_
  · rintro ⟨m3, x4⟩ hm
    (try dsimp only at hm)
    (try dsimp only)
    skip
    skip
    refine fr_fi hm (fun hm => ?_) (fun hm => ?_)
    · skip
      skip
      skip
      skip
      skip
      refine fr_wr hm (by first | rfl | assumption | (simp [SC]; done) | (simp [SC]; omega)) (fun m6 hm => ?_)
      skip
      skip
      refine fr_fi hm (fun hm => ?_) (fun hm => ?_)
      · skip
        skip
        refine fr_fi hm (fun hm => ?_) (fun hm => ?_)
        · skip
          skip
          refine fr_wr hm (by first | rfl | assumption | (simp [SC]; done) | (simp [SC]; omega)) (fun m7 hm => ?_)
          skip
          skip
          skip
          skip
          skip
          skip
          refine fr_calv hm (fun _ h => fr_X11_readItems (by first | rfl | assumption | (simp [SC]; done) | (simp [SC]; omega)) h) (fun m8 hm => ?_)
          exact fr_retv hm
        · skip
          skip
          skip
          skip
          skip
          refine fr_wr hm (by first | rfl | assumption | (simp [SC]; done) | (simp [SC]; omega)) (fun m9 hm => ?_)
          skip
          skip
          skip
          skip
          skip
          skip
          skip
          skip
          skip
          skip
          skip
          refine fr_calv hm (fun _ h => fr_X11_readItems (by first | rfl | assumption | (simp [SC]; done) | (simp [SC]; omega)) h) (fun m10 hm => ?_)
          skip
          exact fr_retv hm
      · skip
        skip
        skip
        skip
        skip
        refine fr_wr hm (by first | rfl | assumption | (simp [SC]; done) | (simp [SC]; omega)) (fun m11 hm => ?_)
        skip
        skip
        skip
        skip
        skip
        skip
        skip
        skip
        skip
        skip
        skip
        refine fr_calv hm (fun _ h => fr_X11_readItems (by first | rfl | assumption | (simp [SC]; done) | (simp [SC]; omega)) h) (fun m12 hm => ?_)
        skip
        exact fr_retv hm
    · skip
      refine fr_cal hm (fun _ _ h => fr_X11_fails h) (fun x14 m13 hm => ?_)
      skip
      exact fr_retv hm
  · intro k5 hk5 hm
    refine g_jn (J := fun (s : Sg) => Fr SM s mm) hm ?_ ?_
    · intro m15 hm
      skip
      skip
      exact hk5 _ hm
    · intro k16 hk16 hm
      refine g_jn (J := fun (s : Sg) => Fr SM s mm) hm ?_ ?_
      · intro m17 hm
        skip
        skip
        refine g_jn (J := fun (s : Sg) => Fr SM s mm) hm ?_ ?_
        · intro m19 hm
          skip
          skip
          refine g_jn (J := fun (s : Sg) => Fr SM s mm) hm ?_ ?_
          · intro m21 hm
            skip
            exact hk5 _ hm
          · intro k22 hk22 hm
            refine fr_fi hm (fun hm => ?_) (fun hm => ?_)
            · exact hk22 _ hm
            · skip
              skip
              refine fr_fi hm (fun hm => ?_) (fun hm => ?_)
              · exact hk22 _ hm
              · exact hk16 _ hm
        · intro k20 hk20 hm
          refine fr_fi hm (fun hm => ?_) (fun hm => ?_)
          · exact hk20 _ hm
          · skip
            skip
            skip
            refine fr_if hm (fun hm => ?_) (fun hm => ?_)
            · exact hk16 _ hm
            · exact hk20 _ hm
      · intro k18 hk18 hm
        refine fr_fi hm (fun hm => ?_) (fun hm => ?_)
        · exact hk18 _ hm
        · skip
          skip
          skip
          refine fr_if hm (fun hm => ?_) (fun hm => ?_)
          · exact hk16 _ hm
          · exact hk18 _ hm
set_option maxRecDepth 4000 in
theorem fr_X11_readCounty {m mm : Sg} (hm : f_X11_readCounty  m  = some mm) : Fr SM m mm := by
  unfold f_X11_readCounty at hm
  skip
  skip
  skip
  skip
  skip
  skip
  refine fr_calv hm (fun _ h => fr_X11_starts h) (fun m1 hm => ?_)
  skip
  skip
  refine fr_wr hm (by first | rfl | assumption | (simp [SC]; done) | (simp [SC]; omega)) (fun m2 hm => ?_)
  skip
  skip
  refine fr_wr hm (by first | rfl | assumption | (simp [SC]; done) | (simp [SC]; omega)) (fun m3 hm => ?_)
  skip
  skip
  refine fr_wr hm (by first | rfl | assumption | (simp [SC]; done) | (simp [SC]; omega)) (fun m4 hm => ?_)
  skip
  skip
  refine g_lp (I := fun (s : Sg × Int32) => Fr SM s.1 mm) (E := fun (s : Sg) => Fr SM s mm) hm ?_ ?_
  · rintro m7 hm
    (try dsimp only at hm)
    (try dsimp only)
    skip
    skip
    refine g_lp (I := fun (s : Sg × Int32) => Fr SM s.1 mm) (E := fun (s : Sg) => Fr SM s mm) hm ?_ ?_
    · rintro m16 hm
      (try dsimp only at hm)
      (try dsimp only)
      skip
      skip
      skip
      refine fr_fi hm (fun hm => ?_) (fun hm => ?_)
      · exact fr_retv hm
      · skip
        refine fr_cal hm (fun _ _ h => fr_X11_look h) (fun x29 m28 hm => ?_)
        skip
        refine g_jn (J := fun (s : Sg) => Fr SM s mm) hm ?_ ?_
        · intro m30 hm
          skip
          refine fr_cal hm (fun _ _ h => fr_X11_fails h) (fun x33 m32 hm => ?_)
          skip
          exact fr_retv hm
        · intro k31 hk31 hm
          refine fr_fi hm (fun hm => ?_) (fun hm => ?_)
          · exact hk31 _ hm
          · skip
            skip
            refine fr_fi hm (fun hm => ?_) (fun hm => ?_)
            · exact fr_retv hm
            · exact hk31 _ hm
    · rintro ⟨m14, x15⟩ o hm hx18 hi17
      (try dsimp only [f_X11_readCounty_L55] at hm)
      (try dsimp only)
      skip
      refine fr_if hm (fun hm => ?_) (fun hm => ?_)
      · skip
        cases hm
        exact hx18 _ rfl
      · skip
        skip
        skip
        refine fr_fi hm (fun hm => ?_) (fun hm => ?_)
        · skip
          cases hm
          exact hx18 _ rfl
        · skip
          refine fr_calv hm (fun _ h => fr_X11_readClause h) (fun m19 hm => ?_)
          skip
          skip
          skip
          refine g_jn (J := fun (s : Sg × Int32) => Fr SM s.1 mm) hm ?_ ?_
          · rintro ⟨m20, x21⟩ hm
            (try dsimp only at hm)
            (try dsimp only)
            skip
            skip
            refine fr_if hm (fun hm => ?_) (fun hm => ?_)
            · cases hm
              exact hi17 _ rfl
            · skip
              skip
              skip
              skip
              skip
              refine fr_wr hm (by first | rfl | assumption | (simp [SC]; done) | (simp [SC]; omega)) (fun m23 hm => ?_)
              skip
              cases hm
              exact hi17 _ rfl
          · intro k22 hk22 hm
            refine g_jn (J := fun (s : Sg) => Fr SM s mm) hm ?_ ?_
            · intro m24 hm
              skip
              exact hk22 _ hm
            · intro k25 hk25 hm
              refine fr_fi hm (fun hm => ?_) (fun hm => ?_)
              · skip
                exact hk25 _ hm
              · skip
                refine fr_cal hm (fun _ _ h => fr_X11_look h) (fun x27 m26 hm => ?_)
                skip
                refine fr_fi hm (fun hm => ?_) (fun hm => ?_)
                · skip
                  exact hk25 _ hm
                · skip
                  skip
                  skip
                  exact hk22 _ hm
  · rintro ⟨m5, x6⟩ o hm hx9 hi8
    (try dsimp only [f_X11_readCounty_L30] at hm)
    (try dsimp only)
    skip
    skip
    refine fr_if hm (fun hm => ?_) (fun hm => ?_)
    · skip
      cases hm
      exact hx9 _ rfl
    · skip
      skip
      skip
      skip
      skip
      refine fr_cal hm (fun _ _ h => fr_X11_usual h) (fun x11 m10 hm => ?_)
      refine fr_st hm (by first | rfl | assumption | (simp [SC]; done) | (simp [SC]; omega)) (fun m12 hm => ?_)
      refine fr_b hm (fun x13 hm => ?_)
      skip
      cases hm
      exact hi8 _ rfl
set_option maxRecDepth 4000 in
theorem fr_X11_fault {m mm : Sg} {r : Int32} {a1 : Int32} (hm : f_X11_fault  m a1 = some (r, mm)) : Fr SM m mm := by
  unfold f_X11_fault at hm
  skip
  skip
  refine fr_wr hm (by first | rfl | assumption | (simp [SC]; done) | (simp [SC]; omega)) (fun m1 hm => ?_)
  skip
  skip
  skip
  skip
  refine fr_cal hm (fun _ _ h => fr_X11_isIn h) (fun x3 m2 hm => ?_)
  refine fr_fi hm (fun hm => ?_) (fun hm => ?_)
  · skip
    refine g_jn (J := fun (s : Sg) => Fr SM s mm) hm ?_ ?_
    · intro m4 hm
      skip
      skip
      exact fr_ret hm
    · intro k5 hk5 hm
      refine fr_fi hm (fun hm => ?_) (fun hm => ?_)
      · skip
        skip
        skip
        skip
        skip
        skip
        refine fr_calv hm (fun _ h => fr_X11_goThrough h) (fun m6 hm => ?_)
        skip
        exact hk5 _ hm
      · skip
        refine fr_calv hm (fun _ h => fr_X11_readCounty h) (fun m7 hm => ?_)
        skip
        skip
        exact hk5 _ hm
  · skip
    exact fr_ret hm
set_option maxRecDepth 4000 in
theorem fr_X11_text {m mm : Sg} {r : Int32} {a1 : Int32} (hm : f_X11_text  m a1 = some (r, mm)) : Fr SM m mm := by
  unfold f_X11_text at hm
  skip
  skip
  refine fr_wr hm (by first | rfl | assumption | (simp [SC]; done) | (simp [SC]; omega)) (fun m1 hm => ?_)
  skip
  skip
  skip
  skip
  refine fr_cal hm (fun _ _ h => fr_X11_isIn h) (fun x3 m2 hm => ?_)
  refine fr_if hm (fun hm => ?_) (fun hm => ?_)
  · skip
    exact fr_ret hm
  · skip
    skip
    refine g_jn (J := fun (s : Sg) => Fr SM s mm) hm ?_ ?_
    · intro m4 hm
      skip
      skip
      refine fr_cal hm (fun _ _ h => fr_X11_fault h) (fun x7 m6 hm => ?_)
      skip
      refine fr_if hm (fun hm => ?_) (fun hm => ?_)
      · skip
        skip
        refine fr_b hm (fun x8 hm => ?_)
        skip
        skip
        refine fr_wr hm (by first | rfl | assumption | (simp [SC]; done) | (simp [SC]; omega)) (fun m9 hm => ?_)
        skip
        skip
        refine fr_fi hm (fun hm => ?_) (fun hm => ?_)
        · skip
          skip
          skip
          refine fr_wr hm (by first | rfl | assumption | (simp [SC]; done) | (simp [SC]; omega)) (fun m10 hm => ?_)
          skip
          skip
          skip
          refine fr_wr hm (by first | rfl | assumption | (simp [SC]; done) | (simp [SC]; omega)) (fun m11 hm => ?_)
          skip
          skip
          skip
          refine g_lp (I := fun (s : Sg × Int32) => Fr SM s.1 mm) (E := fun (s : Sg) => Fr SM s mm) hm ?_ ?_
          · rintro m14 hm
            (try dsimp only at hm)
            (try dsimp only)
            skip
            skip
            refine g_lp (I := fun (s : Sg × Int32) => Fr SM s.1 mm) (E := fun (s : Sg) => Fr SM s mm) hm ?_ ?_
            · rintro m21 hm
              (try dsimp only at hm)
              (try dsimp only)
              skip
              skip
              refine g_lp (I := fun (s : Sg × Int32) => Fr SM s.1 mm) (E := fun (s : Sg) => Fr SM s mm) hm ?_ ?_
              · rintro m28 hm
                (try dsimp only at hm)
                (try dsimp only)
                skip
                skip
                refine g_lp (I := fun (s : Sg × Int32) => Fr SM s.1 mm) (E := fun (s : Sg) => Fr SM s mm) hm ?_ ?_
                · rintro m35 hm
                  (try dsimp only at hm)
                  (try dsimp only)
                  skip
                  skip
                  refine g_lp (I := fun (s : Sg × Int32) => Fr SM s.1 mm) (E := fun (s : Sg) => Fr SM s mm) hm ?_ ?_
                  · rintro m42 hm
                    (try dsimp only at hm)
                    (try dsimp only)
                    skip
                    skip
                    refine g_lp (I := fun (s : Sg × Int32) => Fr SM s.1 mm) (E := fun (s : Sg) => Fr SM s mm) hm ?_ ?_
                    · rintro m55 hm
                      (try dsimp only at hm)
                      (try dsimp only)
                      skip
                      skip
                      skip
                      skip
                      refine fr_wr hm (by first | rfl | assumption | (simp [SC]; done) | (simp [SC]; omega)) (fun m60 hm => ?_)
                      skip
                      skip
                      refine fr_wr hm (by first | rfl | assumption | (simp [SC]; done) | (simp [SC]; omega)) (fun m61 hm => ?_)
                      skip
                      skip
                      refine fr_wr hm (by first | rfl | assumption | (simp [SC]; done) | (simp [SC]; omega)) (fun m62 hm => ?_)
                      skip
                      skip
                      exact fr_ret hm
                    · rintro ⟨m53, x54⟩ o hm hx57 hi56
                      (try dsimp only [f_X11_text_L350] at hm)
                      (try dsimp only)
                      skip
                      skip
                      skip
                      refine fr_if hm (fun hm => ?_) (fun hm => ?_)
                      · skip
                        cases hm
                        exact hx57 _ rfl
                      · skip
                        skip
                        skip
                        skip
                        skip
                        skip
                        skip
                        skip
                        skip
                        skip
                        skip
                        skip
                        skip
                        refine fr_n hm (fun hm => ?_)
                        skip
                        skip
                        skip
                        refine fr_st hm (by first | rfl | assumption | (simp [SC]; done) | (simp [SC]; omega)) (fun m58 hm => ?_)
                        refine fr_b hm (fun x59 hm => ?_)
                        skip
                        cases hm
                        exact hi56 _ rfl
                  · rintro ⟨m40, x41⟩ o hm hx44 hi43
                    (try dsimp only [f_X11_text_L232] at hm)
                    (try dsimp only)
                    skip
                    skip
                    skip
                    refine fr_if hm (fun hm => ?_) (fun hm => ?_)
                    · skip
                      cases hm
                      exact hx44 _ rfl
                    · skip
                      skip
                      skip
                      skip
                      skip
                      skip
                      skip
                      skip
                      skip
                      skip
                      skip
                      skip
                      refine fr_n hm (fun hm => ?_)
                      refine fr_st hm (by first | rfl | assumption | (simp [SC]; done) | (simp [SC]; omega)) (fun m45 hm => ?_)
                      skip
                      skip
                      skip
                      skip
                      skip
                      skip
                      skip
                      skip
                      skip
                      skip
                      skip
                      skip
                      skip
                      skip
                      skip
                      refine fr_n hm (fun hm => ?_)
                      skip
                      skip
                      skip
                      refine fr_st hm (by first | rfl | assumption | (simp [SC]; done) | (simp [SC]; omega)) (fun m46 hm => ?_)
                      skip
                      skip
                      skip
                      skip
                      skip
                      skip
                      skip
                      skip
                      skip
                      skip
                      skip
                      skip
                      skip
                      skip
                      refine fr_n hm (fun hm => ?_)
                      skip
                      refine g_jn (J := fun (s : Sg × Int32) => Fr SM s.1 mm) hm ?_ ?_
                      · rintro ⟨m47, x48⟩ hm
                        (try dsimp only at hm)
                        (try dsimp only)
                        refine fr_st hm (by first | rfl | assumption | (simp [SC]; done) | (simp [SC]; omega)) (fun m50 hm => ?_)
                        skip
                        skip
                        skip
                        skip
                        skip
                        skip
                        skip
                        skip
                        refine fr_st hm (by first | rfl | assumption | (simp [SC]; done) | (simp [SC]; omega)) (fun m51 hm => ?_)
                        refine fr_b hm (fun x52 hm => ?_)
                        skip
                        cases hm
                        exact hi43 _ rfl
                      · intro k49 hk49 hm
                        refine fr_fi hm (fun hm => ?_) (fun hm => ?_)
                        · skip
                          skip
                          skip
                          skip
                          skip
                          skip
                          skip
                          skip
                          refine fr_n hm (fun hm => ?_)
                          skip
                          exact hk49 _ hm
                        · skip
                          skip
                          exact hk49 _ hm
                · rintro ⟨m33, x34⟩ o hm hx37 hi36
                  (try dsimp only [f_X11_text_L210] at hm)
                  (try dsimp only)
                  skip
                  skip
                  refine fr_if hm (fun hm => ?_) (fun hm => ?_)
                  · skip
                    cases hm
                    exact hx37 _ rfl
                  · skip
                    skip
                    skip
                    skip
                    refine fr_st hm (by first | rfl | assumption | (simp [SC]; done) | (simp [SC]; omega)) (fun m38 hm => ?_)
                    refine fr_b hm (fun x39 hm => ?_)
                    skip
                    cases hm
                    exact hi36 _ rfl
              · rintro ⟨m26, x27⟩ o hm hx30 hi29
                (try dsimp only [f_X11_text_L185] at hm)
                (try dsimp only)
                skip
                skip
                refine fr_if hm (fun hm => ?_) (fun hm => ?_)
                · skip
                  cases hm
                  exact hx30 _ rfl
                · skip
                  skip
                  skip
                  skip
                  skip
                  skip
                  refine fr_n hm (fun hm => ?_)
                  refine fr_st hm (by first | rfl | assumption | (simp [SC]; done) | (simp [SC]; omega)) (fun m31 hm => ?_)
                  refine fr_b hm (fun x32 hm => ?_)
                  skip
                  cases hm
                  exact hi29 _ rfl
            · rintro ⟨m19, x20⟩ o hm hx23 hi22
              (try dsimp only [f_X11_text_L159] at hm)
              (try dsimp only)
              skip
              skip
              refine fr_if hm (fun hm => ?_) (fun hm => ?_)
              · skip
                cases hm
                exact hx23 _ rfl
              · skip
                skip
                skip
                skip
                skip
                skip
                refine fr_n hm (fun hm => ?_)
                refine fr_st hm (by first | rfl | assumption | (simp [SC]; done) | (simp [SC]; omega)) (fun m24 hm => ?_)
                refine fr_b hm (fun x25 hm => ?_)
                skip
                cases hm
                exact hi22 _ rfl
          · rintro ⟨m12, x13⟩ o hm hx16 hi15
            (try dsimp only [f_X11_text_L133] at hm)
            (try dsimp only)
            skip
            skip
            refine fr_if hm (fun hm => ?_) (fun hm => ?_)
            · skip
              cases hm
              exact hx16 _ rfl
            · skip
              skip
              skip
              skip
              skip
              skip
              refine fr_n hm (fun hm => ?_)
              refine fr_st hm (by first | rfl | assumption | (simp [SC]; done) | (simp [SC]; omega)) (fun m17 hm => ?_)
              refine fr_b hm (fun x18 hm => ?_)
              skip
              cases hm
              exact hi15 _ rfl
        · skip
          skip
          skip
          refine g_lp (I := fun (s : Sg × Int32) => Fr SM s.1 mm) (E := fun (s : Sg) => Fr SM s mm) hm ?_ ?_
          · rintro m65 hm
            (try dsimp only at hm)
            (try dsimp only)
            skip
            skip
            skip
            skip
            skip
            refine fr_st hm (by first | rfl | assumption | (simp [SC]; done) | (simp [SC]; omega)) (fun m70 hm => ?_)
            skip
            skip
            skip
            skip
            skip
            refine fr_wr hm (by first | rfl | assumption | (simp [SC]; done) | (simp [SC]; omega)) (fun m71 hm => ?_)
            skip
            skip
            skip
            skip
            exact fr_ret hm
          · rintro ⟨m63, x64⟩ o hm hx67 hi66
            (try dsimp only [f_X11_text_L56] at hm)
            (try dsimp only)
            skip
            skip
            refine fr_if hm (fun hm => ?_) (fun hm => ?_)
            · skip
              cases hm
              exact hx67 _ rfl
            · skip
              skip
              skip
              skip
              skip
              skip
              skip
              skip
              skip
              skip
              skip
              refine fr_n hm (fun hm => ?_)
              refine fr_st hm (by first | rfl | assumption | (simp [SC]; done) | (simp [SC]; omega)) (fun m68 hm => ?_)
              refine fr_b hm (fun x69 hm => ?_)
              skip
              cases hm
              exact hi66 _ rfl
      · skip
        exact fr_ret hm
    · intro k5 hk5 hm
      refine fr_fi hm (fun hm => ?_) (fun hm => ?_)
      · exact hk5 _ hm
      · skip
        skip
        skip
        refine fr_if hm (fun hm => ?_) (fun hm => ?_)
        · skip
          exact fr_ret hm
        · exact hk5 _ hm
set_option maxRecDepth 4000 in
theorem fr_X11_copy {m mm : Sg} {w : Nat} {u : Nat} (h_w : SM w = true) (h_u : SM u = true) (hm : f_X11_copy w u m  = some mm) : Fr SM m mm := by
  unfold f_X11_copy at hm
  skip
  skip
  refine g_lp (I := fun (s : Sg × Int32) => Fr SM s.1 mm) (E := fun (s : Sg) => Fr SM s mm) hm ?_ ?_
  · rintro m3 hm
    (try dsimp only at hm)
    (try dsimp only)
    exact fr_retv hm
  · rintro ⟨m1, x2⟩ o hm hx5 hi4
    (try dsimp only [f_X11_copy_L2] at hm)
    (try dsimp only)
    skip
    skip
    refine fr_if hm (fun hm => ?_) (fun hm => ?_)
    · skip
      cases hm
      exact hx5 _ rfl
    · skip
      skip
      skip
      skip
      refine fr_n hm (fun hm => ?_)
      refine fr_st hm (by first | rfl | assumption | (simp [SC]; done) | (simp [SC]; omega)) (fun m6 hm => ?_)
      refine fr_b hm (fun x7 hm => ?_)
      skip
      cases hm
      exact hi4 _ rfl
set_option maxRecDepth 4000 in
theorem fr_X11_isChild {m mm : Sg} {r : Int32} {a1 : Int32} (hm : f_X11_isChild  m a1 = some (r, mm)) : Fr SM m mm := by
  unfold f_X11_isChild at hm
  skip
  refine fr_if hm (fun hm => ?_) (fun hm => ?_)
  · skip
    exact fr_ret hm
  · skip
    skip
    skip
    refine fr_if hm (fun hm => ?_) (fun hm => ?_)
    · skip
      exact fr_ret hm
    · skip
      skip
      exact fr_ret hm
set_option maxRecDepth 4000 in
theorem fr_X11_isElder {m mm : Sg} {r : Int32} {a1 : Int32} (hm : f_X11_isElder  m a1 = some (r, mm)) : Fr SM m mm := by
  unfold f_X11_isElder at hm
  skip
  refine fr_if hm (fun hm => ?_) (fun hm => ?_)
  · skip
    exact fr_ret hm
  · skip
    skip
    skip
    refine fr_if hm (fun hm => ?_) (fun hm => ?_)
    · skip
      exact fr_ret hm
    · skip
      skip
      exact fr_ret hm
set_option maxRecDepth 4000 in
theorem fr_X11_rightOf {m mm : Sg} {r : Int32} {w : Nat} {a1 : Int32} (h_w : SM w = true) (hm : f_X11_rightOf w m a1 = some (r, mm)) : Fr SM m mm := by
  unfold f_X11_rightOf at hm
  skip
  skip
  skip
  skip
  skip
  skip
  refine fr_n hm (fun hm => ?_)
  skip
  skip
  skip
  skip
  skip
  skip
  refine fr_n hm (fun hm => ?_)
  skip
  skip
  skip
  exact fr_ret hm
set_option maxRecDepth 4000 in
theorem fr_X11_countOf {m mm : Sg} {r : Int32} {w : Nat} {a1 : Int32} (h_w : SM w = true) (hm : f_X11_countOf w m a1 = some (r, mm)) : Fr SM m mm := by
  unfold f_X11_countOf at hm
  skip
  skip
  refine g_lp (I := fun (s : Sg × Int32) => Fr SM s.1 mm) (E := fun (s : Sg × Int32) => Fr SM s.1 mm) hm ?_ ?_
  · rintro ⟨m3, x4⟩ hm
    (try dsimp only at hm)
    (try dsimp only)
    skip
    skip
    skip
    exact fr_ret hm
  · rintro ⟨m1, x2⟩ o hm hx6 hi5
    (try dsimp only [f_X11_countOf_L2] at hm)
    (try dsimp only)
    skip
    skip
    refine fr_if hm (fun hm => ?_) (fun hm => ?_)
    · skip
      cases hm
      exact hx6 _ rfl
    · skip
      skip
      refine fr_cal hm (fun _ _ h => fr_X11_rightOf (by first | rfl | assumption | (simp [SC]; done) | (simp [SC]; omega)) h) (fun x8 m7 hm => ?_)
      skip
      refine fr_cal hm (fun _ _ h => fr_X11_has h) (fun x10 m9 hm => ?_)
      refine fr_if hm (fun hm => ?_) (fun hm => ?_)
      · skip
        cases hm
        exact hx6 _ rfl
      · refine fr_b hm (fun x11 hm => ?_)
        skip
        cases hm
        exact hi5 _ rfl
set_option maxRecDepth 4000 in
theorem fr_X11_asks {m mm : Sg} {r : Int32} {w : Nat} {a1 : Int32} {a2 : Int32} (h_w : SM w = true) (hm : f_X11_asks w m a1 a2 = some (r, mm)) : Fr SM m mm := by
  unfold f_X11_asks at hm
  skip
  skip
  skip
  skip
  refine g_lp (I := fun (s : Sg × Int32 × Int32) => Fr SM s.1 mm) (E := fun (s : Sg × Int32) => Fr SM s.1 mm) hm ?_ ?_
  · rintro ⟨m4, x5⟩ hm
    (try dsimp only at hm)
    (try dsimp only)
    skip
    exact fr_ret hm
  · rintro ⟨m1, x2, x3⟩ o hm hx7 hi6
    (try dsimp only [f_X11_asks_L6] at hm)
    (try dsimp only)
    skip
    skip
    skip
    skip
    skip
    refine fr_if hm (fun hm => ?_) (fun hm => ?_)
    · skip
      cases hm
      exact hx7 _ rfl
    · skip
      skip
      skip
      skip
      skip
      refine fr_n hm (fun hm => ?_)
      skip
      refine fr_cal hm (fun _ _ h => fr_X11_has h) (fun x9 m8 hm => ?_)
      refine g_jn (J := fun (s : Sg × Int32) => Fr SM s.1 mm) hm ?_ ?_
      · rintro ⟨m10, x11⟩ hm
        (try dsimp only at hm)
        (try dsimp only)
        skip
        refine fr_b hm (fun x13 hm => ?_)
        refine fr_b hm (fun x14 hm => ?_)
        skip
        cases hm
        exact hi6 _ rfl
      · intro k12 hk12 hm
        refine g_jn (J := fun (s : Sg) => Fr SM s mm) hm ?_ ?_
        · intro m15 hm
          skip
          exact hk12 _ hm
        · intro k16 hk16 hm
          refine fr_if hm (fun hm => ?_) (fun hm => ?_)
          · skip
            exact hk16 _ hm
          · skip
            skip
            refine fr_n hm (fun hm => ?_)
            refine fr_fi hm (fun hm => ?_) (fun hm => ?_)
            · skip
              exact hk16 _ hm
            · skip
              skip
              skip
              skip
              skip
              exact hk12 _ hm
set_option maxRecDepth 4000 in
theorem fr_X11_slipsOf {m mm : Sg} {r : Int32} {w : Nat} {a1 : Int32} {a2 : Int32} (h_w : SM w = true) (hm : f_X11_slipsOf w m a1 a2 = some (r, mm)) : Fr SM m mm := by
  unfold f_X11_slipsOf at hm
  skip
  skip
  skip
  skip
  skip
  skip
  skip
  skip
  skip
  skip
  refine fr_n hm (fun hm => ?_)
  refine fr_cal hm (fun _ _ h => fr_X11_asks (by first | rfl | assumption | (simp [SC]; done) | (simp [SC]; omega)) h) (fun x2 m1 hm => ?_)
  skip
  skip
  refine fr_cal hm (fun _ _ h => fr_X11_rightOf (by first | rfl | assumption | (simp [SC]; done) | (simp [SC]; omega)) h) (fun x4 m3 hm => ?_)
  skip
  skip
  skip
  exact fr_ret hm
set_option maxRecDepth 4000 in
theorem fr_X11_examinerOf {m mm : Sg} {r : Int32} {w : Nat} {a1 : Int32} (h_w : SM w = true) (hm : f_X11_examinerOf w m a1 = some (r, mm)) : Fr SM m mm := by
  unfold f_X11_examinerOf at hm
  skip
  skip
  skip
  skip
  refine g_lp (I := fun (s : Sg × Int32 × Int32) => Fr SM s.1 mm) (E := fun (s : Sg × Int32) => Fr SM s.1 mm) hm ?_ ?_
  · rintro ⟨m4, x5⟩ hm
    (try dsimp only at hm)
    (try dsimp only)
    skip
    exact fr_ret hm
  · rintro ⟨m1, x2, x3⟩ o hm hx7 hi6
    (try dsimp only [f_X11_examinerOf_L5] at hm)
    (try dsimp only)
    skip
    skip
    skip
    refine fr_if hm (fun hm => ?_) (fun hm => ?_)
    · skip
      cases hm
      exact hx7 _ rfl
    · skip
      skip
      refine fr_cal hm (fun _ _ h => fr_X11_has h) (fun x9 m8 hm => ?_)
      refine g_jn (J := fun (s : Sg × Int32) => Fr SM s.1 mm) hm ?_ ?_
      · rintro ⟨m10, x11⟩ hm
        (try dsimp only at hm)
        (try dsimp only)
        refine fr_b hm (fun x13 hm => ?_)
        skip
        cases hm
        exact hi6 _ rfl
      · intro k12 hk12 hm
        refine fr_fi hm (fun hm => ?_) (fun hm => ?_)
        · exact hk12 _ hm
        · skip
          skip
          skip
          skip
          refine fr_cal hm (fun _ _ h => fr_X11_asks (by first | rfl | assumption | (simp [SC]; done) | (simp [SC]; omega)) h) (fun x15 m14 hm => ?_)
          refine fr_fi hm (fun hm => ?_) (fun hm => ?_)
          · skip
            skip
            refine g_jn (J := fun (s : Sg) => Fr SM s mm) hm ?_ ?_
            · intro m16 hm
              skip
              skip
              exact hk12 _ hm
            · intro k17 hk17 hm
              refine fr_if hm (fun hm => ?_) (fun hm => ?_)
              · skip
                exact hk17 _ hm
              · skip
                skip
                skip
                skip
                skip
                refine fr_n hm (fun hm => ?_)
                skip
                skip
                skip
                skip
                skip
                refine fr_n hm (fun hm => ?_)
                refine fr_if hm (fun hm => ?_) (fun hm => ?_)
                · exact hk12 _ hm
                · skip
                  exact hk17 _ hm
          · skip
            exact hk12 _ hm
set_option maxRecDepth 4000 in
theorem fr_X11_taxBy {m mm : Sg} {r : Int32} {a1 : Int32} {a2 : Int32} {a3 : Int32} {a4 : Int32} {a5 : Int32} {a6 : Int32} (hm : f_X11_taxBy  m a1 a2 a3 a4 a5 a6 = some (r, mm)) : Fr SM m mm := by
  unfold f_X11_taxBy at hm
  skip
  skip
  skip
  refine fr_fi hm (fun hm => ?_) (fun hm => ?_)
  · skip
    skip
    skip
    skip
    refine fr_wr hm (by first | rfl | assumption | (simp [SC]; done) | (simp [SC]; omega)) (fun m1 hm => ?_)
    skip
    skip
    skip
    skip
    refine fr_wr hm (by first | rfl | assumption | (simp [SC]; done) | (simp [SC]; omega)) (fun m2 hm => ?_)
    skip
    skip
    skip
    skip
    refine fr_wr hm (by first | rfl | assumption | (simp [SC]; done) | (simp [SC]; omega)) (fun m3 hm => ?_)
    skip
    skip
    skip
    skip
    refine fr_wr hm (by first | rfl | assumption | (simp [SC]; done) | (simp [SC]; omega)) (fun m4 hm => ?_)
    skip
    skip
    skip
    skip
    refine fr_wr hm (by first | rfl | assumption | (simp [SC]; done) | (simp [SC]; omega)) (fun m5 hm => ?_)
    skip
    skip
    skip
    skip
    refine fr_wr hm (by first | rfl | assumption | (simp [SC]; done) | (simp [SC]; omega)) (fun m6 hm => ?_)
    skip
    skip
    skip
    skip
    skip
    skip
    skip
    skip
    skip
    skip
    skip
    refine fr_n hm (fun hm => ?_)
    refine fr_calv hm (fun _ h => fr_X11_goThrough h) (fun m7 hm => ?_)
    skip
    skip
    skip
    skip
    skip
    skip
    exact fr_ret hm
  · skip
    exact fr_ret hm
set_option maxRecDepth 4000 in
theorem fr_X11_taxOf {m mm : Sg} {r : Int32} {w : Nat} {a1 : Int32} (h_w : SM w = true) (hm : f_X11_taxOf w m a1 = some (r, mm)) : Fr SM m mm := by
  unfold f_X11_taxOf at hm
  skip
  skip
  skip
  refine fr_cal hm (fun _ _ h => fr_X11_countOf (by first | rfl | assumption | (simp [SC]; done) | (simp [SC]; omega)) h) (fun x2 m1 hm => ?_)
  skip
  skip
  skip
  skip
  skip
  skip
  refine fr_n hm (fun hm => ?_)
  skip
  skip
  refine fr_cal hm (fun _ _ h => fr_X11_rightOf (by first | rfl | assumption | (simp [SC]; done) | (simp [SC]; omega)) h) (fun x4 m3 hm => ?_)
  refine fr_cal hm (fun _ _ h => fr_J6_bitCount_0f7a4 h) (fun x6 m5 hm => ?_)
  skip
  skip
  skip
  skip
  skip
  skip
  skip
  refine fr_n hm (fun hm => ?_)
  skip
  skip
  skip
  skip
  skip
  skip
  skip
  skip
  skip
  refine fr_n hm (fun hm => ?_)
  refine fr_cal hm (fun _ _ h => fr_J6_bitCount_0f7a4 h) (fun x8 m7 hm => ?_)
  refine fr_cal hm (fun _ _ h => fr_X11_taxBy h) (fun x10 m9 hm => ?_)
  exact fr_ret hm
set_option maxRecDepth 4000 in
theorem fr_X11_child {m mm : Sg} {r : Int32} {a1 : Int32} {a2 : Int32} (hm : f_X11_child  m a1 a2 = some (r, mm)) : Fr SM m mm := by
  unfold f_X11_child at hm
  skip
  skip
  skip
  refine fr_cal hm (fun _ _ h => fr_X11_isChild h) (fun x2 m1 hm => ?_)
  refine g_jn (J := fun (s : Sg × Int32) => Fr SM s.1 mm) hm ?_ ?_
  · rintro ⟨m3, x4⟩ hm
    (try dsimp only at hm)
    (try dsimp only)
    refine fr_wr hm (by first | rfl | assumption | (simp [SC]; done) | (simp [SC]; omega)) (fun m6 hm => ?_)
    skip
    skip
    refine fr_if hm (fun hm => ?_) (fun hm => ?_)
    · skip
      refine fr_if hm (fun hm => ?_) (fun hm => ?_)
      · skip
        skip
        skip
        skip
        skip
        skip
        skip
        refine fr_n hm (fun hm => ?_)
        exact fr_ret hm
      · refine fr_if hm (fun hm => ?_) (fun hm => ?_)
        · skip
          skip
          skip
          skip
          skip
          skip
          skip
          refine fr_n hm (fun hm => ?_)
          exact fr_ret hm
        · refine fr_if hm (fun hm => ?_) (fun hm => ?_)
          · skip
            skip
            skip
            skip
            skip
            skip
            skip
            refine fr_n hm (fun hm => ?_)
            exact fr_ret hm
          · refine fr_if hm (fun hm => ?_) (fun hm => ?_)
            · skip
              skip
              skip
              skip
              skip
              skip
              skip
              refine fr_n hm (fun hm => ?_)
              exact fr_ret hm
            · refine fr_if hm (fun hm => ?_) (fun hm => ?_)
              · skip
                skip
                skip
                skip
                skip
                skip
                skip
                refine fr_n hm (fun hm => ?_)
                exact fr_ret hm
              · refine fr_if hm (fun hm => ?_) (fun hm => ?_)
                · skip
                  skip
                  skip
                  skip
                  skip
                  skip
                  skip
                  refine fr_n hm (fun hm => ?_)
                  exact fr_ret hm
                · refine fr_if hm (fun hm => ?_) (fun hm => ?_)
                  · skip
                    skip
                    skip
                    skip
                    skip
                    skip
                    skip
                    skip
                    skip
                    refine fr_n hm (fun hm => ?_)
                    exact fr_ret hm
                  · refine fr_if hm (fun hm => ?_) (fun hm => ?_)
                    · skip
                      skip
                      skip
                      skip
                      skip
                      skip
                      skip
                      skip
                      skip
                      refine fr_n hm (fun hm => ?_)
                      exact fr_ret hm
                    · refine fr_if hm (fun hm => ?_) (fun hm => ?_)
                      · skip
                        skip
                        skip
                        skip
                        skip
                        skip
                        skip
                        skip
                        skip
                        refine fr_n hm (fun hm => ?_)
                        exact fr_ret hm
                      · refine fr_if hm (fun hm => ?_) (fun hm => ?_)
                        · skip
                          skip
                          skip
                          skip
                          skip
                          skip
                          skip
                          skip
                          skip
                          refine fr_n hm (fun hm => ?_)
                          exact fr_ret hm
                        · refine fr_if hm (fun hm => ?_) (fun hm => ?_)
                          · skip
                            skip
                            skip
                            refine fr_cal hm (fun _ _ h => fr_X11_countOf (by first | rfl | assumption | (simp [SC]; done) | (simp [SC]; omega)) h) (fun x8 m7 hm => ?_)
                            exact fr_ret hm
                          · refine fr_if hm (fun hm => ?_) (fun hm => ?_)
                            · skip
                              skip
                              skip
                              skip
                              refine fr_cal hm (fun _ _ h => fr_X11_taxOf (by first | rfl | assumption | (simp [SC]; done) | (simp [SC]; omega)) h) (fun x10 m9 hm => ?_)
                              exact fr_ret hm
                            · skip
                              skip
                              skip
                              skip
                              skip
                              skip
                              skip
                              skip
                              skip
                              skip
                              refine fr_n hm (fun hm => ?_)
                              exact fr_ret hm
    · skip
      exact fr_ret hm
  · intro k5 hk5 hm
    refine g_jn (J := fun (s : Sg) => Fr SM s mm) hm ?_ ?_
    · intro m11 hm
      skip
      exact hk5 _ hm
    · intro k12 hk12 hm
      refine fr_if hm (fun hm => ?_) (fun hm => ?_)
      · exact hk12 _ hm
      · skip
        skip
        skip
        skip
        refine fr_cal hm (fun _ _ h => fr_X11_isIn h) (fun x14 m13 hm => ?_)
        refine fr_if hm (fun hm => ?_) (fun hm => ?_)
        · exact hk12 _ hm
        · skip
          skip
          exact hk5 _ hm
set_option maxRecDepth 4000 in
theorem fr_X11_elder {m mm : Sg} {r : Int32} {a1 : Int32} {a2 : Int32} (hm : f_X11_elder  m a1 a2 = some (r, mm)) : Fr SM m mm := by
  unfold f_X11_elder at hm
  skip
  skip
  refine fr_wr hm (by first | rfl | assumption | (simp [SC]; done) | (simp [SC]; omega)) (fun m1 hm => ?_)
  skip
  skip
  refine fr_cal hm (fun _ _ h => fr_X11_isElder h) (fun x3 m2 hm => ?_)
  refine fr_if hm (fun hm => ?_) (fun hm => ?_)
  · skip
    exact fr_ret hm
  · skip
    skip
    skip
    skip
    refine fr_cal hm (fun _ _ h => fr_X11_isIn h) (fun x5 m4 hm => ?_)
    refine fr_fi hm (fun hm => ?_) (fun hm => ?_)
    · skip
      skip
      refine fr_fi hm (fun hm => ?_) (fun hm => ?_)
      · skip
        skip
        skip
        skip
        skip
        skip
        skip
        refine fr_n hm (fun hm => ?_)
        exact fr_ret hm
      · skip
        skip
        skip
        skip
        skip
        refine fr_n hm (fun hm => ?_)
        skip
        exact fr_ret hm
    · skip
      exact fr_ret hm
set_option maxRecDepth 4000 in
theorem fr_X11_rule {m mm : Sg} {r : Int32} {a1 : Int32} (hm : f_X11_rule  m a1 = some (r, mm)) : Fr SM m mm := by
  unfold f_X11_rule at hm
  skip
  skip
  refine fr_wr hm (by first | rfl | assumption | (simp [SC]; done) | (simp [SC]; omega)) (fun m1 hm => ?_)
  skip
  skip
  refine fr_if hm (fun hm => ?_) (fun hm => ?_)
  · skip
    exact fr_ret hm
  · skip
    skip
    skip
    skip
    refine fr_cal hm (fun _ _ h => fr_X11_isIn h) (fun x3 m2 hm => ?_)
    refine fr_if hm (fun hm => ?_) (fun hm => ?_)
    · skip
      exact fr_ret hm
    · skip
      skip
      skip
      refine fr_n hm (fun hm => ?_)
      skip
      exact fr_ret hm
set_option maxRecDepth 4000 in
theorem fr_X11_law {m mm : Sg} {r : Int32} {a1 : Int32} (hm : f_X11_law  m a1 = some (r, mm)) : Fr SM m mm := by
  unfold f_X11_law at hm
  skip
  skip
  refine fr_wr hm (by first | rfl | assumption | (simp [SC]; done) | (simp [SC]; omega)) (fun m1 hm => ?_)
  skip
  skip
  refine g_jn (J := fun (s : Sg) => Fr SM s mm) hm ?_ ?_
  · intro m2 hm
    skip
    skip
    refine fr_wr hm (by first | rfl | assumption | (simp [SC]; done) | (simp [SC]; omega)) (fun m4 hm => ?_)
    skip
    exact fr_ret hm
  · intro k3 hk3 hm
    refine fr_if hm (fun hm => ?_) (fun hm => ?_)
    · exact hk3 _ hm
    · skip
      skip
      skip
      skip
      skip
      skip
      skip
      skip
      refine fr_cal hm (fun _ _ h => fr_X11_isIn h) (fun x6 m5 hm => ?_)
      refine fr_fi hm (fun hm => ?_) (fun hm => ?_)
      · exact hk3 _ hm
      · skip
        exact fr_ret hm
set_option maxRecDepth 4000 in
theorem fr_X11_fever {m mm : Sg} {r : Int32} {a1 : Int32} (hm : f_X11_fever  m a1 = some (r, mm)) : Fr SM m mm := by
  unfold f_X11_fever at hm
  skip
  skip
  refine fr_wr hm (by first | rfl | assumption | (simp [SC]; done) | (simp [SC]; omega)) (fun m1 hm => ?_)
  skip
  skip
  skip
  skip
  refine fr_cal hm (fun _ _ h => fr_X11_isIn h) (fun x3 m2 hm => ?_)
  refine fr_if hm (fun hm => ?_) (fun hm => ?_)
  · skip
    exact fr_ret hm
  · skip
    skip
    skip
    refine fr_fi hm (fun hm => ?_) (fun hm => ?_)
    · skip
      skip
      refine fr_wr hm (by first | rfl | assumption | (simp [SC]; done) | (simp [SC]; omega)) (fun m4 hm => ?_)
      skip
      exact fr_ret hm
    · skip
      exact fr_ret hm
set_option maxRecDepth 4000 in
theorem fr_X11_passes {m mm : Sg} {r : Int32} {a1 : Int32} {a2 : Int32} (hm : f_X11_passes  m a1 a2 = some (r, mm)) : Fr SM m mm := by
  unfold f_X11_passes at hm
  skip
  skip
  refine fr_wr hm (by first | rfl | assumption | (simp [SC]; done) | (simp [SC]; omega)) (fun m1 hm => ?_)
  skip
  skip
  refine fr_cal hm (fun _ _ h => fr_X11_isChild h) (fun x3 m2 hm => ?_)
  refine fr_if hm (fun hm => ?_) (fun hm => ?_)
  · skip
    exact fr_ret hm
  · skip
    skip
    refine fr_cal hm (fun _ _ h => fr_X11_isElder h) (fun x5 m4 hm => ?_)
    refine fr_fi hm (fun hm => ?_) (fun hm => ?_)
    · skip
      skip
      skip
      skip
      skip
      refine fr_cal hm (fun _ _ h => fr_X11_slipsOf (by first | rfl | assumption | (simp [SC]; done) | (simp [SC]; omega)) h) (fun x7 m6 hm => ?_)
      refine fr_fi hm (fun hm => ?_) (fun hm => ?_)
      · skip
        exact fr_ret hm
      · skip
        skip
        exact fr_ret hm
    · skip
      exact fr_ret hm
set_option maxRecDepth 4000 in
theorem fr_X11_slips {m mm : Sg} {r : Int32} {a1 : Int32} {a2 : Int32} (hm : f_X11_slips  m a1 a2 = some (r, mm)) : Fr SM m mm := by
  unfold f_X11_slips at hm
  skip
  skip
  refine fr_wr hm (by first | rfl | assumption | (simp [SC]; done) | (simp [SC]; omega)) (fun m1 hm => ?_)
  skip
  skip
  refine fr_cal hm (fun _ _ h => fr_X11_isChild h) (fun x3 m2 hm => ?_)
  refine fr_if hm (fun hm => ?_) (fun hm => ?_)
  · skip
    exact fr_ret hm
  · skip
    skip
    refine fr_cal hm (fun _ _ h => fr_X11_isElder h) (fun x5 m4 hm => ?_)
    refine fr_if hm (fun hm => ?_) (fun hm => ?_)
    · skip
      exact fr_ret hm
    · skip
      skip
      skip
      skip
      skip
      refine fr_cal hm (fun _ _ h => fr_X11_slipsOf (by first | rfl | assumption | (simp [SC]; done) | (simp [SC]; omega)) h) (fun x7 m6 hm => ?_)
      skip
      exact fr_ret hm
set_option maxRecDepth 4000 in
theorem fr_X11_examiner {m mm : Sg} {r : Int32} (hm : f_X11_examiner  m  = some (r, mm)) : Fr SM m mm := by
  unfold f_X11_examiner at hm
  skip
  skip
  refine fr_wr hm (by first | rfl | assumption | (simp [SC]; done) | (simp [SC]; omega)) (fun m1 hm => ?_)
  skip
  skip
  refine fr_fi hm (fun hm => ?_) (fun hm => ?_)
  · skip
    skip
    skip
    skip
    refine fr_cal hm (fun _ _ h => fr_X11_examinerOf (by first | rfl | assumption | (simp [SC]; done) | (simp [SC]; omega)) h) (fun x3 m2 hm => ?_)
    exact fr_ret hm
  · skip
    skip
    exact fr_ret hm
set_option maxRecDepth 4000 in
theorem fr_X11_draw {m mm : Sg} {r : Int32} {a1 : Int32} (hm : f_X11_draw  m a1 = some (r, mm)) : Fr SM m mm := by
  unfold f_X11_draw at hm
  skip
  skip
  skip
  skip
  skip
  skip
  skip
  refine fr_wrl hm (by first | rfl | assumption | (simp [SC]; done) | (simp [SC]; omega)) (fun m1 hm => ?_)
  skip
  skip
  skip
  skip
  skip
  skip
  refine fr_n hm (fun hm => ?_)
  skip
  exact fr_ret hm
set_option maxRecDepth 4000 in
theorem fr_X11_begins {m mm : Sg} {w : Nat} {a1 : Int32} (h_w : SM w = true) (hm : f_X11_begins w m a1 = some mm) : Fr SM m mm := by
  unfold f_X11_begins at hm
  skip
  skip
  skip
  skip
  skip
  skip
  skip
  skip
  skip
  skip
  refine fr_n hm (fun hm => ?_)
  refine fr_st hm (by first | rfl | assumption | (simp [SC]; done) | (simp [SC]; omega)) (fun m1 hm => ?_)
  skip
  skip
  skip
  skip
  skip
  skip
  skip
  skip
  skip
  skip
  skip
  skip
  skip
  refine fr_n hm (fun hm => ?_)
  refine fr_st hm (by first | rfl | assumption | (simp [SC]; done) | (simp [SC]; omega)) (fun m2 hm => ?_)
  skip
  skip
  skip
  skip
  skip
  refine fr_wr hm (by first | rfl | assumption | (simp [SC]; done) | (simp [SC]; omega)) (fun m3 hm => ?_)
  exact fr_retv hm
set_option maxRecDepth 4000 in
theorem fr_X11_isRival {m mm : Sg} {r : Int32} {w : Nat} {a1 : Int32} {a2 : Int32} (h_w : SM w = true) (hm : f_X11_isRival w m a1 a2 = some (r, mm)) : Fr SM m mm := by
  unfold f_X11_isRival at hm
  skip
  skip
  skip
  refine fr_b hm (fun x1 hm => ?_)
  skip
  skip
  skip
  skip
  skip
  skip
  refine fr_n hm (fun hm => ?_)
  skip
  skip
  skip
  skip
  refine fr_if hm (fun hm => ?_) (fun hm => ?_)
  · skip
    exact fr_ret hm
  · skip
    skip
    skip
    skip
    refine fr_cal hm (fun _ _ h => fr_X11_slipsOf (by first | rfl | assumption | (simp [SC]; done) | (simp [SC]; omega)) h) (fun x3 m2 hm => ?_)
    refine fr_fi hm (fun hm => ?_) (fun hm => ?_)
    · skip
      exact fr_ret hm
    · skip
      skip
      refine g_jn (J := fun (s : Sg) => Fr SM s mm) hm ?_ ?_
      · intro m4 hm
        skip
        skip
        exact fr_ret hm
      · intro k5 hk5 hm
        refine fr_if hm (fun hm => ?_) (fun hm => ?_)
        · skip
          exact hk5 _ hm
        · skip
          skip
          skip
          skip
          skip
          skip
          refine fr_n hm (fun hm => ?_)
          skip
          skip
          skip
          skip
          skip
          skip
          refine fr_n hm (fun hm => ?_)
          refine fr_if hm (fun hm => ?_) (fun hm => ?_)
          · skip
            exact fr_ret hm
          · skip
            exact hk5 _ hm
set_option maxRecDepth 4000 in
theorem fr_X11_writes {m mm : Sg} {w : Nat} {a1 : Int32} {a2 : Int32} (h_w : SM w = true) (hm : f_X11_writes w m a1 a2 = some mm) : Fr SM m mm := by
  unfold f_X11_writes at hm
  skip
  skip
  skip
  skip
  refine g_jn (J := fun (s : Sg) => Fr SM s mm) hm ?_ ?_
  · intro m1 hm
    skip
    skip
    skip
    skip
    skip
    skip
    skip
    refine fr_b hm (fun x3 hm => ?_)
    skip
    skip
    skip
    skip
    skip
    refine fr_st hm (by first | rfl | assumption | (simp [SC]; done) | (simp [SC]; omega)) (fun m4 hm => ?_)
    skip
    skip
    skip
    skip
    skip
    refine fr_st hm (by first | rfl | assumption | (simp [SC]; done) | (simp [SC]; omega)) (fun m5 hm => ?_)
    skip
    skip
    skip
    skip
    skip
    refine fr_st hm (by first | rfl | assumption | (simp [SC]; done) | (simp [SC]; omega)) (fun m6 hm => ?_)
    skip
    skip
    skip
    skip
    skip
    skip
    refine fr_wr hm (by first | rfl | assumption | (simp [SC]; done) | (simp [SC]; omega)) (fun m7 hm => ?_)
    exact fr_retv hm
  · intro k2 hk2 hm
    refine fr_fi hm (fun hm => ?_) (fun hm => ?_)
    · skip
      exact hk2 _ hm
    · skip
      skip
      skip
      refine g_lp (I := fun (s : Sg × Int32) => Fr SM s.1 mm) (E := fun (s : Sg) => Fr SM s mm) hm ?_ ?_
      · rintro m10 hm
        (try dsimp only at hm)
        (try dsimp only)
        skip
        skip
        skip
        skip
        skip
        skip
        refine fr_wr hm (by first | rfl | assumption | (simp [SC]; done) | (simp [SC]; omega)) (fun m15 hm => ?_)
        exact hk2 _ hm
      · rintro ⟨m8, x9⟩ o hm hx12 hi11
        (try dsimp only [f_X11_writes_L12] at hm)
        (try dsimp only)
        skip
        skip
        refine fr_if hm (fun hm => ?_) (fun hm => ?_)
        · skip
          cases hm
          exact hx12 _ rfl
        · skip
          skip
          skip
          skip
          skip
          skip
          skip
          skip
          skip
          skip
          refine fr_n hm (fun hm => ?_)
          refine fr_st hm (by first | rfl | assumption | (simp [SC]; done) | (simp [SC]; omega)) (fun m13 hm => ?_)
          refine fr_b hm (fun x14 hm => ?_)
          skip
          cases hm
          exact hi11 _ rfl
set_option maxRecDepth 4000 in
theorem fr_X11_remember {m mm : Sg} (hm : f_X11_remember  m  = some mm) : Fr SM m mm := by
  unfold f_X11_remember at hm
  skip
  skip
  skip
  refine g_jn (J := fun (s : Sg) => Fr SM s mm) hm ?_ ?_
  · intro m1 hm
    skip
    skip
    refine g_lp (I := fun (s : Sg × Int32) => Fr SM s.1 mm) (E := fun (s : Sg) => Fr SM s mm) hm ?_ ?_
    · rintro m5 hm
      (try dsimp only at hm)
      (try dsimp only)
      skip
      skip
      skip
      skip
      skip
      refine fr_wr hm (by first | rfl | assumption | (simp [SC]; done) | (simp [SC]; omega)) (fun m10 hm => ?_)
      exact fr_retv hm
    · rintro ⟨m3, x4⟩ o hm hx7 hi6
      (try dsimp only [f_X11_remember_L52] at hm)
      (try dsimp only)
      skip
      skip
      refine fr_if hm (fun hm => ?_) (fun hm => ?_)
      · skip
        cases hm
        exact hx7 _ rfl
      · skip
        skip
        skip
        skip
        skip
        skip
        skip
        skip
        skip
        skip
        skip
        refine fr_n hm (fun hm => ?_)
        refine fr_st hm (by first | rfl | assumption | (simp [SC]; done) | (simp [SC]; omega)) (fun m8 hm => ?_)
        refine fr_b hm (fun x9 hm => ?_)
        skip
        cases hm
        exact hi6 _ rfl
  · intro k2 hk2 hm
    refine fr_fi hm (fun hm => ?_) (fun hm => ?_)
    · exact hk2 _ hm
    · skip
      skip
      refine g_lp (I := fun (s : Sg × Int32) => Fr SM s.1 mm) (E := fun (s : Sg) => Fr SM s mm) hm ?_ ?_
      · rintro m13 hm
        (try dsimp only at hm)
        (try dsimp only)
        skip
        skip
        skip
        skip
        skip
        refine fr_wr hm (by first | rfl | assumption | (simp [SC]; done) | (simp [SC]; omega)) (fun m18 hm => ?_)
        exact hk2 _ hm
      · rintro ⟨m11, x12⟩ o hm hx15 hi14
        (try dsimp only [f_X11_remember_L11] at hm)
        (try dsimp only)
        skip
        skip
        refine fr_if hm (fun hm => ?_) (fun hm => ?_)
        · skip
          cases hm
          exact hx15 _ rfl
        · skip
          skip
          skip
          skip
          skip
          skip
          skip
          skip
          refine fr_n hm (fun hm => ?_)
          refine fr_st hm (by first | rfl | assumption | (simp [SC]; done) | (simp [SC]; omega)) (fun m16 hm => ?_)
          refine fr_b hm (fun x17 hm => ?_)
          skip
          cases hm
          exact hi14 _ rfl
set_option maxRecDepth 4000 in
theorem fr_X11_isTen {m mm : Sg} {r : Int32} {a1 : Int32} (hm : f_X11_isTen  m a1 = some (r, mm)) : Fr SM m mm := by
  unfold f_X11_isTen at hm
  skip
  skip
  skip
  skip
  refine fr_cal hm (fun _ _ h => fr_X11_isIn h) (fun x2 m1 hm => ?_)
  exact fr_retz hm
set_option maxRecDepth 4000 in
theorem fr_X11_teach {m mm : Sg} {r : Int32} {a1 : Int32} {a2 : Int32} (hm : f_X11_teach  m a1 a2 = some (r, mm)) : Fr SM m mm := by
  unfold f_X11_teach at hm
  skip
  skip
  refine fr_wr hm (by first | rfl | assumption | (simp [SC]; done) | (simp [SC]; omega)) (fun m1 hm => ?_)
  skip
  skip
  refine fr_cal hm (fun _ _ h => fr_X11_isChild h) (fun x3 m2 hm => ?_)
  refine fr_if hm (fun hm => ?_) (fun hm => ?_)
  · skip
    exact fr_ret hm
  · skip
    refine fr_cal hm (fun _ _ h => fr_X11_isTen h) (fun x5 m4 hm => ?_)
    refine fr_if hm (fun hm => ?_) (fun hm => ?_)
    · skip
      exact fr_ret hm
    · skip
      skip
      skip
      skip
      skip
      skip
      skip
      refine fr_n hm (fun hm => ?_)
      skip
      refine fr_fi hm (fun hm => ?_) (fun hm => ?_)
      · skip
        exact fr_ret hm
      · skip
        skip
        skip
        skip
        skip
        skip
        skip
        refine fr_n hm (fun hm => ?_)
        skip
        refine fr_cal hm (fun _ _ h => fr_X11_has h) (fun x7 m6 hm => ?_)
        refine fr_fi hm (fun hm => ?_) (fun hm => ?_)
        · skip
          exact fr_ret hm
        · skip
          skip
          skip
          refine fr_cal hm (fun _ _ h => fr_X11_rightOf (by first | rfl | assumption | (simp [SC]; done) | (simp [SC]; omega)) h) (fun x9 m8 hm => ?_)
          skip
          refine fr_cal hm (fun _ _ h => fr_X11_has h) (fun x11 m10 hm => ?_)
          refine fr_if hm (fun hm => ?_) (fun hm => ?_)
          · skip
            refine fr_calv hm (fun _ h => fr_X11_remember h) (fun m12 hm => ?_)
            skip
            skip
            skip
            skip
            skip
            skip
            skip
            skip
            refine fr_st hm (by first | rfl | assumption | (simp [SC]; done) | (simp [SC]; omega)) (fun m13 hm => ?_)
            skip
            skip
            skip
            skip
            skip
            skip
            skip
            skip
            skip
            skip
            skip
            skip
            skip
            skip
            refine fr_n hm (fun hm => ?_)
            refine fr_st hm (by first | rfl | assumption | (simp [SC]; done) | (simp [SC]; omega)) (fun m14 hm => ?_)
            skip
            skip
            exact fr_ret hm
          · skip
            exact fr_ret hm
set_option maxRecDepth 4000 in
theorem fr_X11_wrong {m mm : Sg} {r : Int32} {a1 : Int32} {a2 : Int32} (hm : f_X11_wrong  m a1 a2 = some (r, mm)) : Fr SM m mm := by
  unfold f_X11_wrong at hm
  skip
  skip
  refine fr_wr hm (by first | rfl | assumption | (simp [SC]; done) | (simp [SC]; omega)) (fun m1 hm => ?_)
  skip
  skip
  refine fr_cal hm (fun _ _ h => fr_X11_isChild h) (fun x3 m2 hm => ?_)
  refine fr_if hm (fun hm => ?_) (fun hm => ?_)
  · skip
    exact fr_ret hm
  · skip
    refine fr_cal hm (fun _ _ h => fr_X11_isTen h) (fun x5 m4 hm => ?_)
    refine fr_if hm (fun hm => ?_) (fun hm => ?_)
    · skip
      exact fr_ret hm
    · skip
      skip
      skip
      skip
      skip
      skip
      skip
      refine fr_n hm (fun hm => ?_)
      skip
      refine fr_cal hm (fun _ _ h => fr_X11_has h) (fun x7 m6 hm => ?_)
      refine fr_if hm (fun hm => ?_) (fun hm => ?_)
      · skip
        refine fr_calv hm (fun _ h => fr_X11_remember h) (fun m8 hm => ?_)
        skip
        skip
        skip
        skip
        skip
        skip
        skip
        skip
        refine fr_n hm (fun hm => ?_)
        skip
        skip
        skip
        skip
        refine fr_st hm (by first | rfl | assumption | (simp [SC]; done) | (simp [SC]; omega)) (fun m9 hm => ?_)
        skip
        skip
        exact fr_ret hm
      · skip
        exact fr_ret hm
set_option maxRecDepth 4000 in
theorem fr_X11_keeps {m mm : Sg} {w : Nat} {a1 : Int32} {a2 : Int32} (h_w : SM w = true) (hm : f_X11_keeps w m a1 a2 = some mm) : Fr SM m mm := by
  unfold f_X11_keeps at hm
  skip
  skip
  skip
  skip
  skip
  skip
  skip
  refine fr_n hm (fun hm => ?_)
  skip
  skip
  skip
  skip
  refine fr_st hm (by first | rfl | assumption | (simp [SC]; done) | (simp [SC]; omega)) (fun m1 hm => ?_)
  skip
  skip
  skip
  skip
  skip
  skip
  refine fr_n hm (fun hm => ?_)
  skip
  refine fr_if hm (fun hm => ?_) (fun hm => ?_)
  · skip
    skip
    skip
    skip
    skip
    skip
    skip
    refine fr_st hm (by first | rfl | assumption | (simp [SC]; done) | (simp [SC]; omega)) (fun m2 hm => ?_)
    skip
    skip
    skip
    skip
    skip
    skip
    skip
    refine fr_st hm (by first | rfl | assumption | (simp [SC]; done) | (simp [SC]; omega)) (fun m3 hm => ?_)
    exact fr_retv hm
  · exact fr_retv hm
set_option maxRecDepth 4000 in
theorem fr_X11_keep {m mm : Sg} {r : Int32} {a1 : Int32} {a2 : Int32} {a3 : Int32} (hm : f_X11_keep  m a1 a2 a3 = some (r, mm)) : Fr SM m mm := by
  unfold f_X11_keep at hm
  skip
  skip
  refine fr_wr hm (by first | rfl | assumption | (simp [SC]; done) | (simp [SC]; omega)) (fun m1 hm => ?_)
  skip
  skip
  refine fr_cal hm (fun _ _ h => fr_X11_isChild h) (fun x3 m2 hm => ?_)
  refine fr_if hm (fun hm => ?_) (fun hm => ?_)
  · skip
    exact fr_ret hm
  · skip
    refine fr_cal hm (fun _ _ h => fr_X11_isTen h) (fun x5 m4 hm => ?_)
    refine fr_if hm (fun hm => ?_) (fun hm => ?_)
    · skip
      exact fr_ret hm
    · skip
      skip
      skip
      skip
      skip
      skip
      skip
      refine fr_n hm (fun hm => ?_)
      skip
      refine fr_cal hm (fun _ _ h => fr_X11_has h) (fun x7 m6 hm => ?_)
      skip
      refine fr_fi hm (fun hm => ?_) (fun hm => ?_)
      · skip
        refine fr_calv hm (fun _ h => fr_X11_remember h) (fun m8 hm => ?_)
        skip
        refine g_jn (J := fun (s : Sg) => Fr SM s mm) hm ?_ ?_
        · intro m9 hm
          skip
          skip
          exact fr_ret hm
        · intro k10 hk10 hm
          refine fr_if hm (fun hm => ?_) (fun hm => ?_)
          · skip
            skip
            skip
            skip
            skip
            skip
            skip
            skip
            refine fr_n hm (fun hm => ?_)
            skip
            skip
            skip
            skip
            skip
            skip
            refine fr_st hm (by first | rfl | assumption | (simp [SC]; done) | (simp [SC]; omega)) (fun m11 hm => ?_)
            skip
            exact hk10 _ hm
          · skip
            skip
            skip
            skip
            refine fr_calv hm (fun _ h => fr_X11_keeps (by first | rfl | assumption | (simp [SC]; done) | (simp [SC]; omega)) h) (fun m12 hm => ?_)
            skip
            skip
            exact hk10 _ hm
      · skip
        exact fr_ret hm
set_option maxRecDepth 4000 in
theorem fr_X11_isRight {m mm : Sg} {w : Nat} {a1 : Int32} {a2 : Int32} (h_w : SM w = true) (hm : f_X11_isRight w m a1 a2 = some mm) : Fr SM m mm := by
  unfold f_X11_isRight at hm
  skip
  skip
  skip
  skip
  skip
  skip
  skip
  refine fr_n hm (fun hm => ?_)
  skip
  skip
  skip
  skip
  refine fr_st hm (by first | rfl | assumption | (simp [SC]; done) | (simp [SC]; omega)) (fun m1 hm => ?_)
  skip
  skip
  skip
  skip
  skip
  skip
  skip
  refine fr_n hm (fun hm => ?_)
  skip
  skip
  skip
  skip
  skip
  skip
  refine fr_st hm (by first | rfl | assumption | (simp [SC]; done) | (simp [SC]; omega)) (fun m2 hm => ?_)
  exact fr_retv hm
set_option maxRecDepth 4000 in
theorem fr_X11_buy {m mm : Sg} {r : Int32} {a1 : Int32} {a2 : Int32} (hm : f_X11_buy  m a1 a2 = some (r, mm)) : Fr SM m mm := by
  unfold f_X11_buy at hm
  skip
  skip
  refine fr_wr hm (by first | rfl | assumption | (simp [SC]; done) | (simp [SC]; omega)) (fun m1 hm => ?_)
  skip
  skip
  refine fr_cal hm (fun _ _ h => fr_X11_isChild h) (fun x3 m2 hm => ?_)
  refine fr_if hm (fun hm => ?_) (fun hm => ?_)
  · skip
    exact fr_ret hm
  · skip
    refine fr_cal hm (fun _ _ h => fr_X11_isTen h) (fun x5 m4 hm => ?_)
    refine fr_if hm (fun hm => ?_) (fun hm => ?_)
    · skip
      exact fr_ret hm
    · skip
      skip
      skip
      refine fr_cal hm (fun _ _ h => fr_X11_rightOf (by first | rfl | assumption | (simp [SC]; done) | (simp [SC]; omega)) h) (fun x7 m6 hm => ?_)
      skip
      refine fr_cal hm (fun _ _ h => fr_X11_has h) (fun x9 m8 hm => ?_)
      refine fr_fi hm (fun hm => ?_) (fun hm => ?_)
      · skip
        exact fr_ret hm
      · skip
        skip
        skip
        skip
        skip
        skip
        skip
        skip
        refine fr_if hm (fun hm => ?_) (fun hm => ?_)
        · skip
          refine fr_calv hm (fun _ h => fr_X11_remember h) (fun m10 hm => ?_)
          skip
          skip
          skip
          skip
          skip
          skip
          skip
          skip
          skip
          skip
          refine fr_wr hm (by first | rfl | assumption | (simp [SC]; done) | (simp [SC]; omega)) (fun m11 hm => ?_)
          skip
          skip
          skip
          skip
          refine fr_calv hm (fun _ h => fr_X11_isRight (by first | rfl | assumption | (simp [SC]; done) | (simp [SC]; omega)) h) (fun m12 hm => ?_)
          skip
          skip
          skip
          skip
          exact fr_ret hm
        · skip
          exact fr_ret hm
set_option maxRecDepth 4000 in
theorem fr_X11_undo {m mm : Sg} {r : Int32} (hm : f_X11_undo  m  = some (r, mm)) : Fr SM m mm := by
  unfold f_X11_undo at hm
  skip
  skip
  refine fr_wr hm (by first | rfl | assumption | (simp [SC]; done) | (simp [SC]; omega)) (fun m1 hm => ?_)
  skip
  skip
  refine fr_fi hm (fun hm => ?_) (fun hm => ?_)
  · skip
    skip
    skip
    skip
    skip
    refine fr_wr hm (by first | rfl | assumption | (simp [SC]; done) | (simp [SC]; omega)) (fun m2 hm => ?_)
    skip
    skip
    refine g_lp (I := fun (s : Sg × Int32) => Fr SM s.1 mm) (E := fun (s : Sg) => Fr SM s mm) hm ?_ ?_
    · rintro m5 hm
      (try dsimp only at hm)
      (try dsimp only)
      skip
      skip
      exact fr_ret hm
    · rintro ⟨m3, x4⟩ o hm hx7 hi6
      (try dsimp only [f_X11_undo_L26] at hm)
      (try dsimp only)
      skip
      skip
      refine fr_if hm (fun hm => ?_) (fun hm => ?_)
      · skip
        cases hm
        exact hx7 _ rfl
      · skip
        skip
        skip
        skip
        skip
        skip
        skip
        skip
        skip
        skip
        skip
        refine fr_n hm (fun hm => ?_)
        refine fr_st hm (by first | rfl | assumption | (simp [SC]; done) | (simp [SC]; omega)) (fun m8 hm => ?_)
        refine fr_b hm (fun x9 hm => ?_)
        skip
        cases hm
        exact hi6 _ rfl
  · skip
    exact fr_ret hm
set_option maxRecDepth 4000 in
theorem fr_X11_log {m mm : Sg} {r : Int32} {a1 : Int32} {a2 : Int32} (hm : f_X11_log  m a1 a2 = some (r, mm)) : Fr SM m mm := by
  unfold f_X11_log at hm
  skip
  skip
  refine fr_wr hm (by first | rfl | assumption | (simp [SC]; done) | (simp [SC]; omega)) (fun m1 hm => ?_)
  skip
  skip
  skip
  skip
  skip
  skip
  skip
  skip
  skip
  skip
  refine fr_cal hm (fun _ _ h => fr_X11_isIn h) (fun x3 m2 hm => ?_)
  refine g_jn (J := fun (s : Sg) => Fr SM s mm) hm ?_ ?_
  · intro m4 hm
    skip
    exact fr_ret hm
  · intro k5 hk5 hm
    refine fr_if hm (fun hm => ?_) (fun hm => ?_)
    · skip
      exact hk5 _ hm
    · skip
      skip
      skip
      skip
      refine fr_cal hm (fun _ _ h => fr_X11_isIn h) (fun x7 m6 hm => ?_)
      refine fr_if hm (fun hm => ?_) (fun hm => ?_)
      · skip
        exact hk5 _ hm
      · skip
        skip
        skip
        skip
        skip
        skip
        skip
        skip
        skip
        skip
        skip
        skip
        skip
        skip
        skip
        skip
        refine fr_n hm (fun hm => ?_)
        skip
        exact fr_ret hm
set_option maxRecDepth 4000 in
theorem fr_X11_isNursery {m mm : Sg} {r : Int32} {a1 : Int32} (hm : f_X11_isNursery  m a1 = some (r, mm)) : Fr SM m mm := by
  unfold f_X11_isNursery at hm
  skip
  skip
  refine fr_if hm (fun hm => ?_) (fun hm => ?_)
  · skip
    exact fr_ret hm
  · skip
    skip
    skip
    skip
    refine fr_cal hm (fun _ _ h => fr_X11_isIn h) (fun x2 m1 hm => ?_)
    refine fr_if hm (fun hm => ?_) (fun hm => ?_)
    · skip
      exact fr_ret hm
    · skip
      skip
      exact fr_ret hm
set_option maxRecDepth 4000 in
theorem fr_X11_plumsOf {m mm : Sg} {r : Int32} {a1 : Int32} {a2 : Int32} (hm : f_X11_plumsOf  m a1 a2 = some (r, mm)) : Fr SM m mm := by
  unfold f_X11_plumsOf at hm
  skip
  skip
  skip
  skip
  skip
  skip
  skip
  skip
  skip
  refine fr_cal hm (fun _ _ h => fr_X11_slipsOf (by first | rfl | assumption | (simp [SC]; done) | (simp [SC]; omega)) h) (fun x2 m1 hm => ?_)
  refine fr_cal hm (fun _ _ h => fr_J6_bitCount_0f7a4 h) (fun x4 m3 hm => ?_)
  skip
  exact fr_ret hm
set_option maxRecDepth 4000 in
theorem fr_X11_plums {m mm : Sg} {r : Int32} {a1 : Int32} (hm : f_X11_plums  m a1 = some (r, mm)) : Fr SM m mm := by
  unfold f_X11_plums at hm
  skip
  skip
  refine fr_wr hm (by first | rfl | assumption | (simp [SC]; done) | (simp [SC]; omega)) (fun m1 hm => ?_)
  skip
  skip
  refine g_jn (J := fun (s : Sg × Int32) => Fr SM s.1 mm) hm ?_ ?_
  · rintro ⟨m2, x3⟩ hm
    (try dsimp only at hm)
    (try dsimp only)
    skip
    skip
    skip
    refine g_jn (J := fun (s : Sg) => Fr SM s mm) hm ?_ ?_
    · intro m5 hm
      skip
      skip
      exact fr_ret hm
    · intro k6 hk6 hm
      refine fr_if hm (fun hm => ?_) (fun hm => ?_)
      · skip
        exact hk6 _ hm
      · skip
        skip
        refine fr_cal hm (fun _ _ h => fr_X11_isChild h) (fun x8 m7 hm => ?_)
        refine fr_fi hm (fun hm => ?_) (fun hm => ?_)
        · skip
          skip
          skip
          refine fr_cal hm (fun _ _ h => fr_X11_plumsOf h) (fun x10 m9 hm => ?_)
          exact fr_ret hm
        · skip
          exact hk6 _ hm
  · intro k4 hk4 hm
    refine fr_fi hm (fun hm => ?_) (fun hm => ?_)
    · skip
      skip
      skip
      skip
      refine fr_cal hm (fun _ _ h => fr_X11_examinerOf (by first | rfl | assumption | (simp [SC]; done) | (simp [SC]; omega)) h) (fun x12 m11 hm => ?_)
      exact hk4 _ hm
    · skip
      skip
      exact hk4 _ hm
set_option maxRecDepth 4000 in
theorem fr_X11_peace {m mm : Sg} {r : Int32} {a1 : Int32} {a2 : Int32} (hm : f_X11_peace  m a1 a2 = some (r, mm)) : Fr SM m mm := by
  unfold f_X11_peace at hm
  skip
  skip
  refine fr_wr hm (by first | rfl | assumption | (simp [SC]; done) | (simp [SC]; omega)) (fun m1 hm => ?_)
  skip
  skip
  refine g_jn (J := fun (s : Sg × Int32) => Fr SM s.1 mm) hm ?_ ?_
  · rintro ⟨m2, x3⟩ hm
    (try dsimp only at hm)
    (try dsimp only)
    skip
    skip
    skip
    refine fr_if hm (fun hm => ?_) (fun hm => ?_)
    · skip
      exact fr_ret hm
    · skip
      skip
      refine fr_cal hm (fun _ _ h => fr_X11_isNursery h) (fun x6 m5 hm => ?_)
      refine fr_if hm (fun hm => ?_) (fun hm => ?_)
      · skip
        exact fr_ret hm
      · skip
        skip
        skip
        skip
        refine fr_cal hm (fun _ _ h => fr_X11_isIn h) (fun x8 m7 hm => ?_)
        refine fr_fi hm (fun hm => ?_) (fun hm => ?_)
        · skip
          skip
          skip
          skip
          skip
          skip
          skip
          skip
          refine fr_b hm (fun x9 hm => ?_)
          skip
          skip
          refine g_lp (I := fun (s : Sg × Int32 × Int32 × Int32) => Fr SM s.1 mm) (E := fun (s : Sg × Int32 × Int32) => Fr SM s.1 mm) hm ?_ ?_
          · rintro ⟨m14, x15, x16⟩ hm
            (try dsimp only at hm)
            (try dsimp only)
            skip
            skip
            refine fr_fi hm (fun hm => ?_) (fun hm => ?_)
            · skip
              refine fr_fi hm (fun hm => ?_) (fun hm => ?_)
              · skip
                exact fr_ret hm
              · skip
                skip
                exact fr_ret hm
            · skip
              skip
              exact fr_ret hm
          · rintro ⟨m10, x11, x12, x13⟩ o hm hx18 hi17
            (try dsimp only [f_X11_peace_L69] at hm)
            (try dsimp only)
            skip
            skip
            skip
            refine fr_if hm (fun hm => ?_) (fun hm => ?_)
            · skip
              cases hm
              exact hx18 _ rfl
            · skip
              skip
              skip
              skip
              skip
              skip
              skip
              refine fr_n hm (fun hm => ?_)
              skip
              refine g_jn (J := fun (s : Sg × Int32 × Int32) => Fr SM s.1 mm) hm ?_ ?_
              · rintro ⟨m19, x20, x21⟩ hm
                (try dsimp only at hm)
                (try dsimp only)
                refine fr_b hm (fun x23 hm => ?_)
                skip
                cases hm
                exact hi17 _ rfl
              · intro k22 hk22 hm
                refine fr_fi hm (fun hm => ?_) (fun hm => ?_)
                · exact hk22 _ hm
                · skip
                  skip
                  skip
                  skip
                  skip
                  skip
                  skip
                  refine fr_n hm (fun hm => ?_)
                  skip
                  skip
                  skip
                  skip
                  refine fr_if hm (fun hm => ?_) (fun hm => ?_)
                  · skip
                    skip
                    refine g_jn (J := fun (s : Sg) => Fr SM s mm) hm ?_ ?_
                    · intro m24 hm
                      skip
                      skip
                      refine g_jn (J := fun (s : Sg × Int32) => Fr SM s.1 mm) hm ?_ ?_
                      · rintro ⟨m26, x27⟩ hm
                        (try dsimp only at hm)
                        (try dsimp only)
                        skip
                        skip
                        skip
                        refine g_jn (J := fun (s : Sg) => Fr SM s mm) hm ?_ ?_
                        · intro m29 hm
                          skip
                          skip
                          skip
                          skip
                          skip
                          exact hk22 _ hm
                        · intro k30 hk30 hm
                          refine fr_if hm (fun hm => ?_) (fun hm => ?_)
                          · skip
                            exact hk30 _ hm
                          · skip
                            skip
                            refine fr_if hm (fun hm => ?_) (fun hm => ?_)
                            · skip
                              exact hk30 _ hm
                            · skip
                              skip
                              exact hk22 _ hm
                      · intro k28 hk28 hm
                        refine fr_fi hm (fun hm => ?_) (fun hm => ?_)
                        · skip
                          skip
                          skip
                          refine fr_cal hm (fun _ _ h => fr_X11_plumsOf h) (fun x32 m31 hm => ?_)
                          exact hk28 _ hm
                        · skip
                          skip
                          exact hk28 _ hm
                    · intro k25 hk25 hm
                      refine fr_if hm (fun hm => ?_) (fun hm => ?_)
                      · exact hk25 _ hm
                      · skip
                        skip
                        refine fr_if hm (fun hm => ?_) (fun hm => ?_)
                        · exact hk25 _ hm
                        · skip
                          skip
                          skip
                          skip
                          skip
                          skip
                          skip
                          refine fr_n hm (fun hm => ?_)
                          skip
                          skip
                          skip
                          skip
                          skip
                          skip
                          skip
                          refine fr_n hm (fun hm => ?_)
                          refine fr_if hm (fun hm => ?_) (fun hm => ?_)
                          · exact hk25 _ hm
                          · skip
                            exact hk22 _ hm
                  · skip
                    exact hk22 _ hm
        · skip
          exact fr_ret hm
  · intro k4 hk4 hm
    refine fr_fi hm (fun hm => ?_) (fun hm => ?_)
    · skip
      skip
      skip
      skip
      refine fr_cal hm (fun _ _ h => fr_X11_examinerOf (by first | rfl | assumption | (simp [SC]; done) | (simp [SC]; omega)) h) (fun x34 m33 hm => ?_)
      exact hk4 _ hm
    · skip
      skip
      exact hk4 _ hm
set_option maxRecDepth 4000 in
theorem fr_X11_teachesAtOnce {m mm : Sg} {a1 : Int32} (hm : f_X11_teachesAtOnce  m a1 = some mm) : Fr SM m mm := by
  unfold f_X11_teachesAtOnce at hm
  skip
  skip
  skip
  refine fr_cal hm (fun _ _ h => fr_X11_countOf (by first | rfl | assumption | (simp [SC]; done) | (simp [SC]; omega)) h) (fun x2 m1 hm => ?_)
  skip
  skip
  refine fr_b hm (fun x3 hm => ?_)
  skip
  skip
  refine fr_if hm (fun hm => ?_) (fun hm => ?_)
  · exact fr_retv hm
  · skip
    skip
    skip
    skip
    refine fr_calv hm (fun _ h => fr_X11_isRight (by first | rfl | assumption | (simp [SC]; done) | (simp [SC]; omega)) h) (fun m4 hm => ?_)
    exact fr_retv hm
set_option maxRecDepth 4000 in
theorem fr_X11_isOf {m mm : Sg} {r : Int32} {a1 : Int32} {a2 : Int32} (hm : f_X11_isOf  m a1 a2 = some (r, mm)) : Fr SM m mm := by
  unfold f_X11_isOf at hm
  skip
  skip
  refine fr_cal hm (fun _ _ h => fr_X11_isChild h) (fun x2 m1 hm => ?_)
  refine fr_if hm (fun hm => ?_) (fun hm => ?_)
  · skip
    exact fr_ret hm
  · skip
    skip
    skip
    skip
    skip
    skip
    skip
    refine fr_n hm (fun hm => ?_)
    skip
    refine fr_fi hm (fun hm => ?_) (fun hm => ?_)
    · skip
      exact fr_ret hm
    · skip
      skip
      exact fr_ret hm
set_option maxRecDepth 4000 in
theorem fr_X11_isRest {m mm : Sg} {r : Int32} {a1 : Int32} {a2 : Int32} {a3 : Int32} {a4 : Int32} (hm : f_X11_isRest  m a1 a2 a3 a4 = some (r, mm)) : Fr SM m mm := by
  unfold f_X11_isRest at hm
  skip
  skip
  skip
  skip
  skip
  skip
  skip
  refine fr_n hm (fun hm => ?_)
  refine fr_b hm (fun x1 hm => ?_)
  skip
  skip
  refine g_lp (I := fun (s : Sg × Int32) => Fr SM s.1 mm) (E := fun (x : (Sg) ⊕ (Sg)) => match x with | .inl m4 => Fr SM m4 mm | .inr m5 => Fr SM m5 mm) hm ?_ ?_
  · rintro (m4 | m5) hm
    · (try dsimp only at hm)
      (try dsimp only)
      skip
      exact fr_ret hm
    · (try dsimp only at hm)
      (try dsimp only)
      skip
      exact fr_ret hm
  · rintro ⟨m2, x3⟩ o hm hx7 hi6
    (try dsimp only [f_X11_isRest_L17] at hm)
    (try dsimp only)
    skip
    skip
    skip
    refine fr_if hm (fun hm => ?_) (fun hm => ?_)
    · skip
      cases hm
      exact hx7 _ rfl
    · skip
      skip
      skip
      refine fr_cal hm (fun _ _ h => fr_X11_isOf h) (fun x9 m8 hm => ?_)
      refine g_jn (J := fun (s : Sg) => Fr SM s mm) hm ?_ ?_
      · intro m10 hm
        skip
        skip
        skip
        refine fr_cal hm (fun _ _ h => fr_X11_isOf h) (fun x13 m12 hm => ?_)
        refine g_jn (J := fun (s : Sg) => Fr SM s mm) hm ?_ ?_
        · intro m14 hm
          refine fr_b hm (fun x16 hm => ?_)
          skip
          cases hm
          exact hi6 _ rfl
        · intro k15 hk15 hm
          refine fr_if hm (fun hm => ?_) (fun hm => ?_)
          · exact hk15 _ hm
          · skip
            skip
            skip
            skip
            skip
            skip
            skip
            refine fr_n hm (fun hm => ?_)
            skip
            refine fr_if hm (fun hm => ?_) (fun hm => ?_)
            · exact hk15 _ hm
            · skip
              cases hm
              exact hx7 _ rfl
      · intro k11 hk11 hm
        refine fr_if hm (fun hm => ?_) (fun hm => ?_)
        · exact hk11 _ hm
        · skip
          skip
          skip
          skip
          skip
          skip
          skip
          refine fr_n hm (fun hm => ?_)
          skip
          refine fr_if hm (fun hm => ?_) (fun hm => ?_)
          · skip
            cases hm
            exact hx7 _ rfl
          · exact hk11 _ hm
set_option maxRecDepth 4000 in
theorem fr_X11_couldTeach {m mm : Sg} {r : Int32} {a1 : Int32} {a2 : Int32} (hm : f_X11_couldTeach  m a1 a2 = some (r, mm)) : Fr SM m mm := by
  unfold f_X11_couldTeach at hm
  skip
  skip
  skip
  skip
  refine g_lp (I := fun (s : Sg × Int32 × Int32) => Fr SM s.1 mm) (E := fun (s : Sg × Int32) => Fr SM s.1 mm) hm ?_ ?_
  · rintro ⟨m4, x5⟩ hm
    (try dsimp only at hm)
    (try dsimp only)
    skip
    skip
    skip
    refine fr_cal hm (fun _ _ h => fr_X11_rightOf (by first | rfl | assumption | (simp [SC]; done) | (simp [SC]; omega)) h) (fun x16 m15 hm => ?_)
    skip
    skip
    skip
    skip
    refine fr_fi hm (fun hm => ?_) (fun hm => ?_)
    · skip
      exact fr_ret hm
    · skip
      skip
      skip
      skip
      skip
      skip
      skip
      refine fr_n hm (fun hm => ?_)
      skip
      skip
      refine fr_fi hm (fun hm => ?_) (fun hm => ?_)
      · skip
        exact fr_ret hm
      · skip
        skip
        exact fr_ret hm
  · rintro ⟨m1, x2, x3⟩ o hm hx7 hi6
    (try dsimp only [f_X11_couldTeach_L5] at hm)
    (try dsimp only)
    skip
    skip
    skip
    refine fr_if hm (fun hm => ?_) (fun hm => ?_)
    · skip
      cases hm
      exact hx7 _ rfl
    · skip
      skip
      skip
      refine fr_cal hm (fun _ _ h => fr_X11_has h) (fun x9 m8 hm => ?_)
      refine g_jn (J := fun (s : Sg × Int32) => Fr SM s.1 mm) hm ?_ ?_
      · rintro ⟨m10, x11⟩ hm
        (try dsimp only at hm)
        (try dsimp only)
        skip
        refine fr_b hm (fun x13 hm => ?_)
        refine fr_b hm (fun x14 hm => ?_)
        skip
        cases hm
        exact hi6 _ rfl
      · intro k12 hk12 hm
        refine fr_if hm (fun hm => ?_) (fun hm => ?_)
        · skip
          skip
          exact hk12 _ hm
        · skip
          skip
          skip
          skip
          skip
          refine fr_n hm (fun hm => ?_)
          skip
          skip
          exact hk12 _ hm
set_option maxRecDepth 4000 in
theorem fr_X11_teachers {m mm : Sg} {r : Int32} {a1 : Int32} {a2 : Int32} (hm : f_X11_teachers  m a1 a2 = some (r, mm)) : Fr SM m mm := by
  unfold f_X11_teachers at hm
  skip
  skip
  refine fr_wr hm (by first | rfl | assumption | (simp [SC]; done) | (simp [SC]; omega)) (fun m1 hm => ?_)
  skip
  skip
  refine fr_cal hm (fun _ _ h => fr_X11_isChild h) (fun x3 m2 hm => ?_)
  refine fr_if hm (fun hm => ?_) (fun hm => ?_)
  · skip
    exact fr_ret hm
  · skip
    skip
    refine fr_if hm (fun hm => ?_) (fun hm => ?_)
    · skip
      skip
      skip
      skip
      refine g_lp (I := fun (s : Sg × Int32 × Int32) => Fr SM s.1 mm) (E := fun (x : (Sg × Int32) ⊕ (Sg × Int32)) => match x with | .inl (m7, x8) => Fr SM m7 mm | .inr (m9, x10) => Fr SM m9 mm) hm ?_ ?_
      · rintro (⟨m7, x8⟩ | ⟨m9, x10⟩) hm
        · (try dsimp only at hm)
          (try dsimp only)
          skip
          exact fr_ret hm
        · (try dsimp only at hm)
          (try dsimp only)
          skip
          skip
          refine fr_fi hm (fun hm => ?_) (fun hm => ?_)
          · skip
            exact fr_ret hm
          · skip
            skip
            exact fr_ret hm
      · rintro ⟨m4, x5, x6⟩ o hm hx12 hi11
        (try dsimp only [f_X11_teachers_L25] at hm)
        (try dsimp only)
        skip
        skip
        skip
        skip
        skip
        refine fr_if hm (fun hm => ?_) (fun hm => ?_)
        · skip
          cases hm
          exact hx12 _ rfl
        · skip
          skip
          skip
          refine fr_cal hm (fun _ _ h => fr_X11_couldTeach h) (fun x14 m13 hm => ?_)
          refine g_jn (J := fun (s : Sg × Int32) => Fr SM s.1 mm) hm ?_ ?_
          · rintro ⟨m15, x16⟩ hm
            (try dsimp only at hm)
            (try dsimp only)
            refine fr_b hm (fun x18 hm => ?_)
            skip
            cases hm
            exact hi11 _ rfl
          · intro k17 hk17 hm
            refine fr_fi hm (fun hm => ?_) (fun hm => ?_)
            · skip
              skip
              refine fr_fi hm (fun hm => ?_) (fun hm => ?_)
              · refine fr_b hm (fun x19 hm => ?_)
                exact hk17 _ hm
              · skip
                cases hm
                exact hx12 _ rfl
            · skip
              exact hk17 _ hm
    · skip
      exact fr_ret hm
set_option maxRecDepth 4000 in
theorem fr_X11_spans {m mm : Sg} {r : Int32} {a1 : Int32} {a2 : Int32} (hm : f_X11_spans  m a1 a2 = some (r, mm)) : Fr SM m mm := by
  unfold f_X11_spans at hm
  skip
  skip
  refine fr_wr hm (by first | rfl | assumption | (simp [SC]; done) | (simp [SC]; omega)) (fun m1 hm => ?_)
  skip
  skip
  refine fr_cal hm (fun _ _ h => fr_X11_isChild h) (fun x3 m2 hm => ?_)
  refine fr_if hm (fun hm => ?_) (fun hm => ?_)
  · skip
    exact fr_ret hm
  · skip
    skip
    skip
    skip
    refine fr_cal hm (fun _ _ h => fr_X11_isIn h) (fun x5 m4 hm => ?_)
    refine fr_fi hm (fun hm => ?_) (fun hm => ?_)
    · skip
      skip
      skip
      skip
      refine g_lp (I := fun (s : Sg × Int32 × Int32) => Fr SM s.1 mm) (E := fun (s : Sg × Int32) => Fr SM s.1 mm) hm ?_ ?_
      · rintro ⟨m9, x10⟩ hm
        (try dsimp only at hm)
        (try dsimp only)
        skip
        exact fr_ret hm
      · rintro ⟨m6, x7, x8⟩ o hm hx12 hi11
        (try dsimp only [f_X11_spans_L32] at hm)
        (try dsimp only)
        skip
        skip
        refine fr_if hm (fun hm => ?_) (fun hm => ?_)
        · skip
          cases hm
          exact hx12 _ rfl
        · skip
          skip
          skip
          skip
          skip
          skip
          skip
          skip
          skip
          skip
          skip
          skip
          refine fr_n hm (fun hm => ?_)
          skip
          skip
          skip
          skip
          skip
          skip
          skip
          skip
          refine fr_n hm (fun hm => ?_)
          skip
          skip
          skip
          skip
          skip
          refine fr_cal hm (fun _ _ h => fr_X11_taxBy h) (fun x14 m13 hm => ?_)
          skip
          refine g_jn (J := fun (s : Sg × Int32) => Fr SM s.1 mm) hm ?_ ?_
          · rintro ⟨m15, x16⟩ hm
            (try dsimp only at hm)
            (try dsimp only)
            skip
            refine fr_b hm (fun x18 hm => ?_)
            refine fr_b hm (fun x19 hm => ?_)
            skip
            cases hm
            exact hi11 _ rfl
          · intro k17 hk17 hm
            refine fr_fi hm (fun hm => ?_) (fun hm => ?_)
            · skip
              skip
              exact hk17 _ hm
            · skip
              skip
              skip
              skip
              skip
              exact hk17 _ hm
    · skip
      exact fr_ret hm
set_option maxRecDepth 4000 in
theorem fr_X11_isChain {m mm : Sg} {r : Int32} {a1 : Int32} (hm : f_X11_isChain  m a1 = some (r, mm)) : Fr SM m mm := by
  unfold f_X11_isChain at hm
  skip
  skip
  refine g_lp (I := fun (s : Sg × Int32) => Fr SM s.1 mm) (E := fun (x : (Sg) ⊕ (Sg)) => match x with | .inl m3 => Fr SM m3 mm | .inr m4 => Fr SM m4 mm) hm ?_ ?_
  · rintro (m3 | m4) hm
    · (try dsimp only at hm)
      (try dsimp only)
      skip
      exact fr_ret hm
    · (try dsimp only at hm)
      (try dsimp only)
      skip
      exact fr_ret hm
  · rintro ⟨m1, x2⟩ o hm hx6 hi5
    (try dsimp only [f_X11_isChain_L2] at hm)
    (try dsimp only)
    skip
    skip
    skip
    refine fr_if hm (fun hm => ?_) (fun hm => ?_)
    · skip
      cases hm
      exact hx6 _ rfl
    · skip
      skip
      refine g_lp (I := fun (s : Sg × Int32) => Fr SM s.1 mm) (E := fun (x : (Sg) ⊕ (Sg)) => match x with | .inl m9 => Fr SM m9 mm | .inr m10 => Fr SM m10 mm) hm ?_ ?_
      · rintro (m9 | m10) hm
        · (try dsimp only at hm)
          (try dsimp only)
          cases hm
          exact hx6 _ rfl
        · (try dsimp only at hm)
          (try dsimp only)
          refine fr_b hm (fun x25 hm => ?_)
          skip
          cases hm
          exact hi5 _ rfl
      · rintro ⟨m7, x8⟩ o hm hx12 hi11
        (try dsimp only [f_X11_isChain_L12] at hm)
        (try dsimp only)
        skip
        skip
        skip
        refine fr_if hm (fun hm => ?_) (fun hm => ?_)
        · skip
          cases hm
          exact hx12 _ rfl
        · skip
          skip
          refine g_jn (J := fun (s : Sg) => Fr SM s mm) hm ?_ ?_
          · intro m13 hm
            refine fr_b hm (fun x15 hm => ?_)
            skip
            cases hm
            exact hi11 _ rfl
          · intro k14 hk14 hm
            refine fr_if hm (fun hm => ?_) (fun hm => ?_)
            · exact hk14 _ hm
            · skip
              skip
              refine fr_cal hm (fun _ _ h => fr_X11_has h) (fun x17 m16 hm => ?_)
              refine fr_if hm (fun hm => ?_) (fun hm => ?_)
              · exact hk14 _ hm
              · skip
                skip
                refine fr_cal hm (fun _ _ h => fr_X11_has h) (fun x19 m18 hm => ?_)
                refine fr_fi hm (fun hm => ?_) (fun hm => ?_)
                · skip
                  skip
                  skip
                  skip
                  skip
                  skip
                  skip
                  refine fr_n hm (fun hm => ?_)
                  skip
                  skip
                  skip
                  skip
                  skip
                  skip
                  skip
                  refine fr_n hm (fun hm => ?_)
                  skip
                  refine fr_b hm (fun x20 hm => ?_)
                  skip
                  refine fr_if hm (fun hm => ?_) (fun hm => ?_)
                  · skip
                    cases hm
                    exact hx12 _ rfl
                  · skip
                    refine fr_if hm (fun hm => ?_) (fun hm => ?_)
                    · skip
                      exact hk14 _ hm
                    · skip
                      skip
                      skip
                      refine fr_cal hm (fun _ _ h => fr_X11_countOf (by first | rfl | assumption | (simp [SC]; done) | (simp [SC]; omega)) h) (fun x22 m21 hm => ?_)
                      skip
                      skip
                      skip
                      refine fr_cal hm (fun _ _ h => fr_X11_countOf (by first | rfl | assumption | (simp [SC]; done) | (simp [SC]; omega)) h) (fun x24 m23 hm => ?_)
                      refine fr_if hm (fun hm => ?_) (fun hm => ?_)
                      · skip
                        exact hk14 _ hm
                      · skip
                        cases hm
                        exact hx12 _ rfl
                · skip
                  exact hk14 _ hm
set_option maxRecDepth 4000 in
theorem fr_X11_chain {m mm : Sg} {r : Int32} {a1 : Int32} (hm : f_X11_chain  m a1 = some (r, mm)) : Fr SM m mm := by
  unfold f_X11_chain at hm
  skip
  skip
  refine fr_wr hm (by first | rfl | assumption | (simp [SC]; done) | (simp [SC]; omega)) (fun m1 hm => ?_)
  skip
  skip
  refine fr_if hm (fun hm => ?_) (fun hm => ?_)
  · skip
    exact fr_ret hm
  · skip
    skip
    skip
    skip
    refine fr_cal hm (fun _ _ h => fr_X11_isIn h) (fun x3 m2 hm => ?_)
    refine fr_fi hm (fun hm => ?_) (fun hm => ?_)
    · skip
      skip
      skip
      skip
      refine g_lp (I := fun (s : Sg × Int32 × Int32) => Fr SM s.1 mm) (E := fun (s : Sg × Int32) => Fr SM s.1 mm) hm ?_ ?_
      · rintro ⟨m7, x8⟩ hm
        (try dsimp only at hm)
        (try dsimp only)
        skip
        refine fr_fi hm (fun hm => ?_) (fun hm => ?_)
        · skip
          exact fr_ret hm
        · skip
          refine fr_cal hm (fun _ _ h => fr_J6_bitCount_0f7a4 h) (fun x22 m21 hm => ?_)
          skip
          exact fr_ret hm
      · rintro ⟨m4, x5, x6⟩ o hm hx10 hi9
        (try dsimp only [f_X11_chain_L28] at hm)
        (try dsimp only)
        skip
        skip
        skip
        skip
        skip
        refine fr_if hm (fun hm => ?_) (fun hm => ?_)
        · skip
          cases hm
          exact hx10 _ rfl
        · skip
          refine fr_cal hm (fun _ _ h => fr_J6_bitCount_0f7a4 h) (fun x12 m11 hm => ?_)
          skip
          refine fr_cal hm (fun _ _ h => fr_J6_bitCount_0f7a4 h) (fun x14 m13 hm => ?_)
          refine g_jn (J := fun (s : Sg × Int32) => Fr SM s.1 mm) hm ?_ ?_
          · rintro ⟨m15, x16⟩ hm
            (try dsimp only at hm)
            (try dsimp only)
            refine fr_b hm (fun x18 hm => ?_)
            skip
            cases hm
            exact hi9 _ rfl
          · intro k17 hk17 hm
            refine fr_if hm (fun hm => ?_) (fun hm => ?_)
            · exact hk17 _ hm
            · skip
              skip
              refine fr_cal hm (fun _ _ h => fr_X11_isChain h) (fun x20 m19 hm => ?_)
              refine fr_if hm (fun hm => ?_) (fun hm => ?_)
              · exact hk17 _ hm
              · skip
                skip
                exact hk17 _ hm
    · skip
      exact fr_ret hm
set_option maxRecDepth 4000 in
theorem fr_X11_threes {m mm : Sg} {r : Int32} (hm : f_X11_threes  m  = some (r, mm)) : Fr SM m mm := by
  unfold f_X11_threes at hm
  skip
  skip
  refine fr_wr hm (by first | rfl | assumption | (simp [SC]; done) | (simp [SC]; omega)) (fun m1 hm => ?_)
  skip
  refine fr_cal hm (fun _ _ h => fr_X11_examiner h) (fun x3 m2 hm => ?_)
  skip
  skip
  skip
  refine fr_fi hm (fun hm => ?_) (fun hm => ?_)
  · skip
    skip
    skip
    skip
    refine g_lp (I := fun (s : Sg × Int32 × Int32) => Fr SM s.1 mm) (E := fun (s : Sg × Int32) => Fr SM s.1 mm) hm ?_ ?_
    · rintro ⟨m7, x8⟩ hm
      (try dsimp only at hm)
      (try dsimp only)
      skip
      exact fr_ret hm
    · rintro ⟨m4, x5, x6⟩ o hm hx10 hi9
      (try dsimp only [f_X11_threes_L21] at hm)
      (try dsimp only)
      skip
      skip
      skip
      refine fr_if hm (fun hm => ?_) (fun hm => ?_)
      · skip
        cases hm
        exact hx10 _ rfl
      · skip
        skip
        skip
        skip
        skip
        skip
        refine fr_cal hm (fun _ _ h => fr_X11_slipsOf (by first | rfl | assumption | (simp [SC]; done) | (simp [SC]; omega)) h) (fun x12 m11 hm => ?_)
        refine g_jn (J := fun (s : Sg × Int32) => Fr SM s.1 mm) hm ?_ ?_
        · rintro ⟨m13, x14⟩ hm
          (try dsimp only at hm)
          (try dsimp only)
          skip
          refine fr_b hm (fun x16 hm => ?_)
          refine fr_b hm (fun x17 hm => ?_)
          skip
          cases hm
          exact hi9 _ rfl
        · intro k15 hk15 hm
          refine g_jn (J := fun (s : Sg) => Fr SM s mm) hm ?_ ?_
          · intro m18 hm
            skip
            exact hk15 _ hm
          · intro k19 hk19 hm
            refine fr_fi hm (fun hm => ?_) (fun hm => ?_)
            · skip
              exact hk19 _ hm
            · skip
              skip
              skip
              skip
              skip
              refine fr_cal hm (fun _ _ h => fr_X11_asks (by first | rfl | assumption | (simp [SC]; done) | (simp [SC]; omega)) h) (fun x21 m20 hm => ?_)
              skip
              skip
              skip
              refine fr_cal hm (fun _ _ h => fr_X11_rightOf (by first | rfl | assumption | (simp [SC]; done) | (simp [SC]; omega)) h) (fun x23 m22 hm => ?_)
              skip
              skip
              skip
              refine fr_if hm (fun hm => ?_) (fun hm => ?_)
              · skip
                exact hk19 _ hm
              · skip
                skip
                skip
                skip
                skip
                exact hk15 _ hm
  · skip
    exact fr_ret hm
set_option maxRecDepth 4000 in
theorem fr_X11_party {m mm : Sg} {r : Int32} {a1 : Int32} (hm : f_X11_party  m a1 = some (r, mm)) : Fr SM m mm := by
  unfold f_X11_party at hm
  skip
  skip
  refine fr_wr hm (by first | rfl | assumption | (simp [SC]; done) | (simp [SC]; omega)) (fun m1 hm => ?_)
  skip
  skip
  refine fr_cal hm (fun _ _ h => fr_X11_isNursery h) (fun x3 m2 hm => ?_)
  refine fr_fi hm (fun hm => ?_) (fun hm => ?_)
  · skip
    skip
    skip
    skip
    refine g_lp (I := fun (s : Sg × Int32 × Int32) => Fr SM s.1 mm) (E := fun (s : Sg × Int32) => Fr SM s.1 mm) hm ?_ ?_
    · rintro ⟨m7, x8⟩ hm
      (try dsimp only at hm)
      (try dsimp only)
      skip
      exact fr_ret hm
    · rintro ⟨m4, x5, x6⟩ o hm hx10 hi9
      (try dsimp only [f_X11_party_L19] at hm)
      (try dsimp only)
      skip
      skip
      skip
      refine fr_if hm (fun hm => ?_) (fun hm => ?_)
      · skip
        cases hm
        exact hx10 _ rfl
      · skip
        skip
        skip
        skip
        refine fr_cal hm (fun _ _ h => fr_X11_isOf h) (fun x12 m11 hm => ?_)
        refine g_jn (J := fun (s : Sg × Int32) => Fr SM s.1 mm) hm ?_ ?_
        · rintro ⟨m13, x14⟩ hm
          (try dsimp only at hm)
          (try dsimp only)
          skip
          refine fr_b hm (fun x16 hm => ?_)
          refine fr_b hm (fun x17 hm => ?_)
          skip
          cases hm
          exact hi9 _ rfl
        · intro k15 hk15 hm
          refine fr_if hm (fun hm => ?_) (fun hm => ?_)
          · skip
            skip
            exact hk15 _ hm
          · skip
            skip
            skip
            refine fr_cal hm (fun _ _ h => fr_X11_rightOf (by first | rfl | assumption | (simp [SC]; done) | (simp [SC]; omega)) h) (fun x19 m18 hm => ?_)
            skip
            skip
            exact hk15 _ hm
  · skip
    exact fr_ret hm
set_option maxRecDepth 4000 in
theorem fr_X11_heir {m mm : Sg} {r : Int32} (hm : f_X11_heir  m  = some (r, mm)) : Fr SM m mm := by
  unfold f_X11_heir at hm
  skip
  skip
  refine fr_wr hm (by first | rfl | assumption | (simp [SC]; done) | (simp [SC]; omega)) (fun m1 hm => ?_)
  skip
  refine fr_cal hm (fun _ _ h => fr_X11_examiner h) (fun x3 m2 hm => ?_)
  skip
  skip
  skip
  skip
  skip
  refine g_lp (I := fun (s : Sg × Int32 × Int32) => Fr SM s.1 mm) (E := fun (s : Sg × Int32) => Fr SM s.1 mm) hm ?_ ?_
  · rintro ⟨m7, x8⟩ hm
    (try dsimp only at hm)
    (try dsimp only)
    skip
    exact fr_ret hm
  · rintro ⟨m4, x5, x6⟩ o hm hx10 hi9
    (try dsimp only [f_X11_heir_L14] at hm)
    (try dsimp only)
    skip
    skip
    skip
    refine fr_if hm (fun hm => ?_) (fun hm => ?_)
    · skip
      cases hm
      exact hx10 _ rfl
    · skip
      skip
      refine fr_if hm (fun hm => ?_) (fun hm => ?_)
      · skip
        cases hm
        exact hx10 _ rfl
      · skip
        skip
        skip
        skip
        skip
        refine g_jn (J := fun (s : Sg × Int32) => Fr SM s.1 mm) hm ?_ ?_
        · rintro ⟨m11, x12⟩ hm
          (try dsimp only at hm)
          (try dsimp only)
          refine fr_b hm (fun x14 hm => ?_)
          skip
          cases hm
          exact hi9 _ rfl
        · intro k13 hk13 hm
          refine fr_if hm (fun hm => ?_) (fun hm => ?_)
          · exact hk13 _ hm
          · skip
            skip
            skip
            skip
            skip
            skip
            skip
            refine fr_n hm (fun hm => ?_)
            skip
            skip
            skip
            skip
            refine fr_if hm (fun hm => ?_) (fun hm => ?_)
            · exact hk13 _ hm
            · skip
              skip
              skip
              skip
              skip
              refine fr_cal hm (fun _ _ h => fr_X11_slipsOf (by first | rfl | assumption | (simp [SC]; done) | (simp [SC]; omega)) h) (fun x16 m15 hm => ?_)
              refine fr_if hm (fun hm => ?_) (fun hm => ?_)
              · skip
                skip
                refine g_jn (J := fun (s : Sg) => Fr SM s mm) hm ?_ ?_
                · intro m17 hm
                  skip
                  skip
                  exact hk13 _ hm
                · intro k18 hk18 hm
                  refine fr_if hm (fun hm => ?_) (fun hm => ?_)
                  · skip
                    exact hk18 _ hm
                  · skip
                    skip
                    skip
                    skip
                    skip
                    skip
                    skip
                    refine fr_n hm (fun hm => ?_)
                    skip
                    skip
                    skip
                    skip
                    skip
                    skip
                    skip
                    refine fr_n hm (fun hm => ?_)
                    refine fr_if hm (fun hm => ?_) (fun hm => ?_)
                    · exact hk13 _ hm
                    · skip
                      exact hk18 _ hm
              · skip
                exact hk13 _ hm
set_option maxRecDepth 4000 in
theorem fr_X11_before {m mm : Sg} {r : Int32} {a1 : Int32} (hm : f_X11_before  m a1 = some (r, mm)) : Fr SM m mm := by
  unfold f_X11_before at hm
  skip
  skip
  refine fr_wr hm (by first | rfl | assumption | (simp [SC]; done) | (simp [SC]; omega)) (fun m1 hm => ?_)
  skip
  skip
  refine fr_cal hm (fun _ _ h => fr_X11_isChild h) (fun x3 m2 hm => ?_)
  refine fr_fi hm (fun hm => ?_) (fun hm => ?_)
  · skip
    skip
    skip
    skip
    refine g_lp (I := fun (s : Sg × Int32 × Int32) => Fr SM s.1 mm) (E := fun (s : Sg × Int32) => Fr SM s.1 mm) hm ?_ ?_
    · rintro ⟨m7, x8⟩ hm
      (try dsimp only at hm)
      (try dsimp only)
      skip
      exact fr_ret hm
    · rintro ⟨m4, x5, x6⟩ o hm hx10 hi9
      (try dsimp only [f_X11_before_L19] at hm)
      (try dsimp only)
      skip
      skip
      skip
      refine fr_if hm (fun hm => ?_) (fun hm => ?_)
      · skip
        cases hm
        exact hx10 _ rfl
      · skip
        skip
        skip
        skip
        skip
        skip
        refine fr_cal hm (fun _ _ h => fr_X11_slipsOf (by first | rfl | assumption | (simp [SC]; done) | (simp [SC]; omega)) h) (fun x12 m11 hm => ?_)
        refine g_jn (J := fun (s : Sg × Int32) => Fr SM s.1 mm) hm ?_ ?_
        · rintro ⟨m13, x14⟩ hm
          (try dsimp only at hm)
          (try dsimp only)
          skip
          refine fr_b hm (fun x16 hm => ?_)
          refine fr_b hm (fun x17 hm => ?_)
          skip
          cases hm
          exact hi9 _ rfl
        · intro k15 hk15 hm
          refine fr_fi hm (fun hm => ?_) (fun hm => ?_)
          · skip
            skip
            exact hk15 _ hm
          · skip
            skip
            skip
            skip
            skip
            exact hk15 _ hm
  · skip
    exact fr_ret hm
set_option maxRecDepth 4000 in
theorem fr_X11_without {m mm : Sg} {r : Int32} {a1 : Int32} (hm : f_X11_without  m a1 = some (r, mm)) : Fr SM m mm := by
  unfold f_X11_without at hm
  skip
  skip
  refine fr_wr hm (by first | rfl | assumption | (simp [SC]; done) | (simp [SC]; omega)) (fun m1 hm => ?_)
  skip
  skip
  refine fr_cal hm (fun _ _ h => fr_X11_isChild h) (fun x3 m2 hm => ?_)
  refine fr_fi hm (fun hm => ?_) (fun hm => ?_)
  · skip
    skip
    skip
    skip
    refine g_lp (I := fun (s : Sg × Int32 × Int32) => Fr SM s.1 mm) (E := fun (s : Sg × Int32) => Fr SM s.1 mm) hm ?_ ?_
    · rintro ⟨m7, x8⟩ hm
      (try dsimp only at hm)
      (try dsimp only)
      skip
      exact fr_ret hm
    · rintro ⟨m4, x5, x6⟩ o hm hx10 hi9
      (try dsimp only [f_X11_without_L19] at hm)
      (try dsimp only)
      skip
      skip
      skip
      skip
      skip
      refine fr_if hm (fun hm => ?_) (fun hm => ?_)
      · skip
        cases hm
        exact hx10 _ rfl
      · skip
        skip
        skip
        skip
        refine fr_cal hm (fun _ _ h => fr_X11_examinerOf (by first | rfl | assumption | (simp [SC]; done) | (simp [SC]; omega)) h) (fun x12 m11 hm => ?_)
        skip
        skip
        skip
        refine g_jn (J := fun (s : Sg × Int32) => Fr SM s.1 mm) hm ?_ ?_
        · rintro ⟨m13, x14⟩ hm
          (try dsimp only at hm)
          (try dsimp only)
          refine fr_b hm (fun x16 hm => ?_)
          skip
          cases hm
          exact hi9 _ rfl
        · intro k15 hk15 hm
          refine fr_if hm (fun hm => ?_) (fun hm => ?_)
          · skip
            exact hk15 _ hm
          · skip
            skip
            skip
            skip
            skip
            refine fr_cal hm (fun _ _ h => fr_X11_slipsOf (by first | rfl | assumption | (simp [SC]; done) | (simp [SC]; omega)) h) (fun x18 m17 hm => ?_)
            refine fr_if hm (fun hm => ?_) (fun hm => ?_)
            · skip
              skip
              refine g_jn (J := fun (s : Sg) => Fr SM s mm) hm ?_ ?_
              · intro m19 hm
                skip
                skip
                exact hk15 _ hm
              · intro k20 hk20 hm
                refine fr_if hm (fun hm => ?_) (fun hm => ?_)
                · skip
                  exact hk20 _ hm
                · skip
                  refine fr_cal hm (fun _ _ h => fr_J6_bitCount_0f7a4 h) (fun x22 m21 hm => ?_)
                  skip
                  refine fr_cal hm (fun _ _ h => fr_J6_bitCount_0f7a4 h) (fun x24 m23 hm => ?_)
                  refine fr_if hm (fun hm => ?_) (fun hm => ?_)
                  · skip
                    exact hk15 _ hm
                  · skip
                    exact hk20 _ hm
            · skip
              skip
              exact hk15 _ hm
  · skip
    exact fr_ret hm
set_option maxRecDepth 4000 in
theorem fr_X11_spoil {m mm : Sg} {r : Int32} {a1 : Int32} (hm : f_X11_spoil  m a1 = some (r, mm)) : Fr SM m mm := by
  unfold f_X11_spoil at hm
  skip
  skip
  refine fr_wr hm (by first | rfl | assumption | (simp [SC]; done) | (simp [SC]; omega)) (fun m1 hm => ?_)
  skip
  refine fr_cal hm (fun _ _ h => fr_X11_examiner h) (fun x3 m2 hm => ?_)
  skip
  skip
  skip
  refine fr_if hm (fun hm => ?_) (fun hm => ?_)
  · skip
    exact fr_ret hm
  · skip
    skip
    refine fr_cal hm (fun _ _ h => fr_X11_isChild h) (fun x5 m4 hm => ?_)
    refine fr_if hm (fun hm => ?_) (fun hm => ?_)
    · skip
      exact fr_ret hm
    · skip
      skip
      skip
      skip
      skip
      refine fr_cal hm (fun _ _ h => fr_X11_slipsOf (by first | rfl | assumption | (simp [SC]; done) | (simp [SC]; omega)) h) (fun x7 m6 hm => ?_)
      refine fr_if hm (fun hm => ?_) (fun hm => ?_)
      · skip
        skip
        skip
        skip
        skip
        skip
        skip
        skip
        skip
        skip
        skip
        refine fr_n hm (fun hm => ?_)
        refine fr_cal hm (fun _ _ h => fr_X11_asks (by first | rfl | assumption | (simp [SC]; done) | (simp [SC]; omega)) h) (fun x9 m8 hm => ?_)
        skip
        skip
        skip
        skip
        refine g_lp (I := fun (s : Sg × Int32) => Fr SM s.1 mm) (E := fun (x : (Sg × Int32) ⊕ (Sg)) => match x with | .inl (m12, x13) => Fr SM m12 mm | .inr m14 => Fr SM m14 mm) hm ?_ ?_
        · rintro (⟨m12, x13⟩ | m14) hm
          · (try dsimp only at hm)
            (try dsimp only)
            skip
            exact fr_ret hm
          · (try dsimp only at hm)
            (try dsimp only)
            skip
            exact fr_ret hm
        · rintro ⟨m10, x11⟩ o hm hx16 hi15
          (try dsimp only [f_X11_spoil_L62] at hm)
          (try dsimp only)
          skip
          skip
          refine fr_if hm (fun hm => ?_) (fun hm => ?_)
          · skip
            cases hm
            exact hx16 _ rfl
          · skip
            skip
            refine fr_cal hm (fun _ _ h => fr_X11_has h) (fun x18 m17 hm => ?_)
            refine fr_if hm (fun hm => ?_) (fun hm => ?_)
            · refine fr_b hm (fun x19 hm => ?_)
              skip
              cases hm
              exact hi15 _ rfl
            · skip
              cases hm
              exact hx16 _ rfl
      · skip
        exact fr_ret hm
set_option maxRecDepth 4000 in
theorem fr_X11_soon {m mm : Sg} {r : Int32} {a1 : Int32} (hm : f_X11_soon  m a1 = some (r, mm)) : Fr SM m mm := by
  unfold f_X11_soon at hm
  skip
  skip
  refine fr_wr hm (by first | rfl | assumption | (simp [SC]; done) | (simp [SC]; omega)) (fun m1 hm => ?_)
  skip
  refine fr_cal hm (fun _ _ h => fr_X11_examiner h) (fun x3 m2 hm => ?_)
  skip
  skip
  skip
  refine fr_if hm (fun hm => ?_) (fun hm => ?_)
  · skip
    exact fr_ret hm
  · skip
    skip
    refine fr_cal hm (fun _ _ h => fr_X11_isChild h) (fun x5 m4 hm => ?_)
    refine fr_fi hm (fun hm => ?_) (fun hm => ?_)
    · skip
      skip
      skip
      skip
      skip
      refine fr_cal hm (fun _ _ h => fr_X11_slipsOf (by first | rfl | assumption | (simp [SC]; done) | (simp [SC]; omega)) h) (fun x7 m6 hm => ?_)
      skip
      skip
      refine fr_fi hm (fun hm => ?_) (fun hm => ?_)
      · skip
        skip
        skip
        skip
        skip
        skip
        skip
        refine fr_n hm (fun hm => ?_)
        refine fr_b hm (fun x8 hm => ?_)
        skip
        skip
        refine g_jn (J := fun (s : Sg × Int32) => Fr SM s.1 mm) hm ?_ ?_
        · rintro ⟨m9, x10⟩ hm
          (try dsimp only at hm)
          (try dsimp only)
          skip
          skip
          skip
          refine g_jn (J := fun (s : Sg × Int32) => Fr SM s.1 mm) hm ?_ ?_
          · rintro ⟨m12, x13⟩ hm
            (try dsimp only at hm)
            (try dsimp only)
            skip
            skip
            skip
            skip
            skip
            skip
            skip
            refine fr_n hm (fun hm => ?_)
            skip
            refine fr_cal hm (fun _ _ h => fr_J6_bitCount_0f7a4 h) (fun x16 m15 hm => ?_)
            skip
            skip
            exact fr_ret hm
          · intro k14 hk14 hm
            refine fr_fi hm (fun hm => ?_) (fun hm => ?_)
            · skip
              skip
              skip
              skip
              skip
              skip
              skip
              refine fr_n hm (fun hm => ?_)
              skip
              exact hk14 _ hm
            · skip
              skip
              skip
              exact hk14 _ hm
        · intro k11 hk11 hm
          refine fr_fi hm (fun hm => ?_) (fun hm => ?_)
          · skip
            skip
            skip
            skip
            skip
            skip
            skip
            skip
            exact hk11 _ hm
          · skip
            skip
            skip
            exact hk11 _ hm
      · skip
        exact fr_ret hm
    · skip
      exact fr_ret hm
set_option maxRecDepth 4000 in
theorem fr_X11_fevered {m mm : Sg} {r : Int32} (hm : f_X11_fevered  m  = some (r, mm)) : Fr SM m mm := by
  unfold f_X11_fevered at hm
  skip
  skip
  refine fr_wr hm (by first | rfl | assumption | (simp [SC]; done) | (simp [SC]; omega)) (fun m1 hm => ?_)
  skip
  refine fr_cal hm (fun _ _ h => fr_X11_examiner h) (fun x3 m2 hm => ?_)
  skip
  skip
  skip
  refine fr_fi hm (fun hm => ?_) (fun hm => ?_)
  · skip
    skip
    skip
    skip
    refine g_lp (I := fun (s : Sg × Int32 × Int32) => Fr SM s.1 mm) (E := fun (s : Sg × Int32) => Fr SM s.1 mm) hm ?_ ?_
    · rintro ⟨m7, x8⟩ hm
      (try dsimp only at hm)
      (try dsimp only)
      skip
      exact fr_ret hm
    · rintro ⟨m4, x5, x6⟩ o hm hx10 hi9
      (try dsimp only [f_X11_fevered_L21] at hm)
      (try dsimp only)
      skip
      skip
      skip
      refine fr_if hm (fun hm => ?_) (fun hm => ?_)
      · skip
        cases hm
        exact hx10 _ rfl
      · skip
        skip
        skip
        skip
        skip
        skip
        skip
        skip
        skip
        skip
        skip
        skip
        refine fr_n hm (fun hm => ?_)
        refine fr_cal hm (fun _ _ h => fr_X11_asks (by first | rfl | assumption | (simp [SC]; done) | (simp [SC]; omega)) h) (fun x12 m11 hm => ?_)
        skip
        skip
        skip
        refine fr_cal hm (fun _ _ h => fr_X11_rightOf (by first | rfl | assumption | (simp [SC]; done) | (simp [SC]; omega)) h) (fun x14 m13 hm => ?_)
        skip
        skip
        skip
        skip
        skip
        refine g_jn (J := fun (s : Sg × Int32) => Fr SM s.1 mm) hm ?_ ?_
        · rintro ⟨m15, x16⟩ hm
          (try dsimp only at hm)
          (try dsimp only)
          skip
          refine fr_b hm (fun x18 hm => ?_)
          refine fr_b hm (fun x19 hm => ?_)
          skip
          cases hm
          exact hi9 _ rfl
        · intro k17 hk17 hm
          refine fr_fi hm (fun hm => ?_) (fun hm => ?_)
          · skip
            skip
            exact hk17 _ hm
          · skip
            skip
            skip
            skip
            skip
            exact hk17 _ hm
  · skip
    exact fr_ret hm
set_option maxRecDepth 4000 in
theorem fr_X11_youngest {m mm : Sg} {r : Int32} {a1 : Int32} (hm : f_X11_youngest  m a1 = some (r, mm)) : Fr SM m mm := by
  unfold f_X11_youngest at hm
  skip
  skip
  refine fr_wr hm (by first | rfl | assumption | (simp [SC]; done) | (simp [SC]; omega)) (fun m1 hm => ?_)
  skip
  skip
  refine fr_cal hm (fun _ _ h => fr_X11_isChild h) (fun x3 m2 hm => ?_)
  refine fr_fi hm (fun hm => ?_) (fun hm => ?_)
  · skip
    skip
    refine g_lp (I := fun (s : Sg × Int32) => Fr SM s.1 mm) (E := fun (x : (Sg × Int32) ⊕ (Sg)) => match x with | .inl (m6, x7) => Fr SM m6 mm | .inr m8 => Fr SM m8 mm) hm ?_ ?_
    · rintro (⟨m6, x7⟩ | m8) hm
      · (try dsimp only at hm)
        (try dsimp only)
        skip
        exact fr_ret hm
      · (try dsimp only at hm)
        (try dsimp only)
        skip
        exact fr_ret hm
    · rintro ⟨m4, x5⟩ o hm hx10 hi9
      (try dsimp only [f_X11_youngest_L17] at hm)
      (try dsimp only)
      skip
      skip
      skip
      refine fr_if hm (fun hm => ?_) (fun hm => ?_)
      · skip
        cases hm
        exact hx10 _ rfl
      · skip
        skip
        skip
        skip
        refine g_lp (I := fun (s : Sg × Int32 × Int32) => Fr SM s.1 mm) (E := fun (s : Sg × Int32) => Fr SM s.1 mm) hm ?_ ?_
        · rintro ⟨m14, x15⟩ hm
          (try dsimp only at hm)
          (try dsimp only)
          skip
          skip
          refine fr_fi hm (fun hm => ?_) (fun hm => ?_)
          · refine fr_b hm (fun x27 hm => ?_)
            skip
            skip
            cases hm
            exact hi9 _ rfl
          · skip
            cases hm
            exact hx10 _ rfl
        · rintro ⟨m11, x12, x13⟩ o hm hx17 hi16
          (try dsimp only [f_X11_youngest_L30] at hm)
          (try dsimp only)
          skip
          skip
          skip
          refine fr_if hm (fun hm => ?_) (fun hm => ?_)
          · skip
            cases hm
            exact hx17 _ rfl
          · skip
            skip
            skip
            skip
            skip
            skip
            skip
            skip
            refine fr_n hm (fun hm => ?_)
            skip
            skip
            skip
            skip
            skip
            skip
            skip
            refine fr_n hm (fun hm => ?_)
            refine g_jn (J := fun (s : Sg × Int32) => Fr SM s.1 mm) hm ?_ ?_
            · rintro ⟨m18, x19⟩ hm
              (try dsimp only at hm)
              (try dsimp only)
              skip
              refine fr_b hm (fun x21 hm => ?_)
              refine fr_b hm (fun x22 hm => ?_)
              skip
              cases hm
              exact hi16 _ rfl
            · intro k20 hk20 hm
              refine g_jn (J := fun (s : Sg) => Fr SM s mm) hm ?_ ?_
              · intro m23 hm
                skip
                skip
                exact hk20 _ hm
              · intro k24 hk24 hm
                refine fr_if hm (fun hm => ?_) (fun hm => ?_)
                · skip
                  exact hk24 _ hm
                · skip
                  skip
                  skip
                  skip
                  skip
                  skip
                  skip
                  refine fr_n hm (fun hm => ?_)
                  skip
                  skip
                  skip
                  skip
                  skip
                  skip
                  skip
                  refine fr_n hm (fun hm => ?_)
                  refine g_jn (J := fun (s : Sg) => Fr SM s mm) hm ?_ ?_
                  · intro m25 hm
                    skip
                    exact hk20 _ hm
                  · intro k26 hk26 hm
                    refine fr_fi hm (fun hm => ?_) (fun hm => ?_)
                    · skip
                      exact hk26 _ hm
                    · skip
                      skip
                      refine fr_if hm (fun hm => ?_) (fun hm => ?_)
                      · skip
                        exact hk26 _ hm
                      · skip
                        exact hk24 _ hm
  · skip
    exact fr_ret hm
set_option maxRecDepth 4000 in
theorem fr_X11_rivals {m mm : Sg} {r : Int32} {a1 : Int32} (hm : f_X11_rivals  m a1 = some (r, mm)) : Fr SM m mm := by
  unfold f_X11_rivals at hm
  skip
  skip
  refine fr_wr hm (by first | rfl | assumption | (simp [SC]; done) | (simp [SC]; omega)) (fun m1 hm => ?_)
  skip
  refine fr_cal hm (fun _ _ h => fr_X11_examiner h) (fun x3 m2 hm => ?_)
  skip
  skip
  skip
  refine fr_if hm (fun hm => ?_) (fun hm => ?_)
  · skip
    exact fr_ret hm
  · skip
    skip
    refine fr_cal hm (fun _ _ h => fr_X11_isChild h) (fun x5 m4 hm => ?_)
    refine fr_fi hm (fun hm => ?_) (fun hm => ?_)
    · skip
      skip
      skip
      skip
      refine g_lp (I := fun (s : Sg × Int32 × Int32) => Fr SM s.1 mm) (E := fun (s : Sg × Int32) => Fr SM s.1 mm) hm ?_ ?_
      · rintro ⟨m9, x10⟩ hm
        (try dsimp only at hm)
        (try dsimp only)
        skip
        exact fr_ret hm
      · rintro ⟨m6, x7, x8⟩ o hm hx12 hi11
        (try dsimp only [f_X11_rivals_L30] at hm)
        (try dsimp only)
        skip
        skip
        skip
        refine fr_if hm (fun hm => ?_) (fun hm => ?_)
        · skip
          cases hm
          exact hx12 _ rfl
        · skip
          skip
          skip
          skip
          skip
          skip
          skip
          skip
          refine fr_n hm (fun hm => ?_)
          skip
          skip
          skip
          skip
          skip
          skip
          skip
          refine fr_n hm (fun hm => ?_)
          refine g_jn (J := fun (s : Sg × Int32) => Fr SM s.1 mm) hm ?_ ?_
          · rintro ⟨m13, x14⟩ hm
            (try dsimp only at hm)
            (try dsimp only)
            skip
            refine fr_b hm (fun x16 hm => ?_)
            refine fr_b hm (fun x17 hm => ?_)
            skip
            cases hm
            exact hi11 _ rfl
          · intro k15 hk15 hm
            refine g_jn (J := fun (s : Sg) => Fr SM s mm) hm ?_ ?_
            · intro m18 hm
              skip
              exact hk15 _ hm
            · intro k19 hk19 hm
              refine fr_if hm (fun hm => ?_) (fun hm => ?_)
              · skip
                exact hk19 _ hm
              · skip
                skip
                skip
                skip
                skip
                skip
                skip
                refine fr_n hm (fun hm => ?_)
                skip
                skip
                skip
                skip
                refine fr_if hm (fun hm => ?_) (fun hm => ?_)
                · skip
                  exact hk19 _ hm
                · skip
                  skip
                  skip
                  skip
                  skip
                  refine fr_cal hm (fun _ _ h => fr_X11_slipsOf (by first | rfl | assumption | (simp [SC]; done) | (simp [SC]; omega)) h) (fun x21 m20 hm => ?_)
                  refine fr_fi hm (fun hm => ?_) (fun hm => ?_)
                  · skip
                    exact hk19 _ hm
                  · skip
                    skip
                    skip
                    skip
                    skip
                    exact hk15 _ hm
    · skip
      exact fr_ret hm
set_option maxRecDepth 4000 in
theorem fr_X11_forgotten {m mm : Sg} {r : Int32} (hm : f_X11_forgotten  m  = some (r, mm)) : Fr SM m mm := by
  unfold f_X11_forgotten at hm
  skip
  skip
  refine fr_wr hm (by first | rfl | assumption | (simp [SC]; done) | (simp [SC]; omega)) (fun m1 hm => ?_)
  skip
  skip
  refine fr_fi hm (fun hm => ?_) (fun hm => ?_)
  · skip
    skip
    skip
    skip
    refine g_lp (I := fun (s : Sg × Int32 × Int32) => Fr SM s.1 mm) (E := fun (s : Sg × Int32) => Fr SM s.1 mm) hm ?_ ?_
    · rintro ⟨m5, x6⟩ hm
      (try dsimp only at hm)
      (try dsimp only)
      skip
      skip
      skip
      skip
      skip
      skip
      skip
      skip
      skip
      skip
      skip
      skip
      exact fr_ret hm
    · rintro ⟨m2, x3, x4⟩ o hm hx8 hi7
      (try dsimp only [f_X11_forgotten_L18] at hm)
      (try dsimp only)
      skip
      skip
      skip
      refine fr_if hm (fun hm => ?_) (fun hm => ?_)
      · skip
        cases hm
        exact hx8 _ rfl
      · skip
        skip
        skip
        skip
        skip
        skip
        refine fr_n hm (fun hm => ?_)
        skip
        refine fr_b hm (fun x9 hm => ?_)
        refine fr_b hm (fun x10 hm => ?_)
        skip
        cases hm
        exact hi7 _ rfl
  · skip
    exact fr_ret hm
set_option maxRecDepth 4000 in
theorem fr_X11_image {m mm : Sg} {r : Int32} (hm : f_X11_image  m  = some (r, mm)) : Fr SM m mm := by
  unfold f_X11_image at hm
  skip
  skip
  refine fr_wr hm (by first | rfl | assumption | (simp [SC]; done) | (simp [SC]; omega)) (fun m1 hm => ?_)
  skip
  skip
  refine fr_fi hm (fun hm => ?_) (fun hm => ?_)
  · skip
    skip
    skip
    skip
    refine fr_calv hm (fun _ h => fr_X11_copy (by first | rfl | assumption | (simp [SC]; done) | (simp [SC]; omega)) (by first | rfl | assumption | (simp [SC]; done) | (simp [SC]; omega)) h) (fun m2 hm => ?_)
    skip
    skip
    refine fr_wr hm (by first | rfl | assumption | (simp [SC]; done) | (simp [SC]; omega)) (fun m3 hm => ?_)
    skip
    skip
    skip
    skip
    exact fr_ret hm
  · skip
    exact fr_ret hm
set_option maxRecDepth 4000 in
theorem fr_X11_back {m mm : Sg} {r : Int32} (hm : f_X11_back  m  = some (r, mm)) : Fr SM m mm := by
  unfold f_X11_back at hm
  skip
  skip
  refine fr_wr hm (by first | rfl | assumption | (simp [SC]; done) | (simp [SC]; omega)) (fun m1 hm => ?_)
  skip
  skip
  refine fr_fi hm (fun hm => ?_) (fun hm => ?_)
  · skip
    skip
    skip
    skip
    refine fr_calv hm (fun _ h => fr_X11_copy (by first | rfl | assumption | (simp [SC]; done) | (simp [SC]; omega)) (by first | rfl | assumption | (simp [SC]; done) | (simp [SC]; omega)) h) (fun m2 hm => ?_)
    skip
    skip
    refine fr_wr hm (by first | rfl | assumption | (simp [SC]; done) | (simp [SC]; omega)) (fun m3 hm => ?_)
    skip
    skip
    skip
    skip
    exact fr_ret hm
  · skip
    exact fr_ret hm
set_option maxRecDepth 4000 in
theorem fr_X11_count {m mm : Sg} {r : Int32} {a1 : Int32} (hm : f_X11_count  m a1 = some (r, mm)) : Fr SM m mm := by
  unfold f_X11_count at hm
  skip
  skip
  refine fr_wr hm (by first | rfl | assumption | (simp [SC]; done) | (simp [SC]; omega)) (fun m1 hm => ?_)
  skip
  refine fr_if hm (fun hm => ?_) (fun hm => ?_)
  · skip
    skip
    exact fr_ret hm
  · refine fr_if hm (fun hm => ?_) (fun hm => ?_)
    · skip
      skip
      exact fr_ret hm
    · refine fr_if hm (fun hm => ?_) (fun hm => ?_)
      · skip
        skip
        exact fr_ret hm
      · refine fr_if hm (fun hm => ?_) (fun hm => ?_)
        · skip
          skip
          exact fr_ret hm
        · refine fr_if hm (fun hm => ?_) (fun hm => ?_)
          · skip
            skip
            exact fr_ret hm
          · refine fr_if hm (fun hm => ?_) (fun hm => ?_)
            · skip
              skip
              skip
              skip
              exact fr_ret hm
            · refine fr_if hm (fun hm => ?_) (fun hm => ?_)
              · skip
                skip
                refine fr_fi hm (fun hm => ?_) (fun hm => ?_)
                · skip
                  skip
                  skip
                  skip
                  exact fr_ret hm
                · skip
                  skip
                  exact fr_ret hm
              · refine fr_if hm (fun hm => ?_) (fun hm => ?_)
                · skip
                  skip
                  skip
                  skip
                  exact fr_ret hm
                · refine fr_if hm (fun hm => ?_) (fun hm => ?_)
                  · skip
                    skip
                    exact fr_ret hm
                  · refine fr_if hm (fun hm => ?_) (fun hm => ?_)
                    · skip
                      skip
                      refine g_jn (J := fun (s : Sg) => Fr SM s mm) hm ?_ ?_
                      · intro m2 hm
                        skip
                        skip
                        exact fr_ret hm
                      · intro k3 hk3 hm
                        refine fr_if hm (fun hm => ?_) (fun hm => ?_)
                        · skip
                          exact hk3 _ hm
                        · skip
                          skip
                          skip
                          skip
                          skip
                          refine fr_fi hm (fun hm => ?_) (fun hm => ?_)
                          · skip
                            skip
                            skip
                            skip
                            skip
                            skip
                            refine fr_cal hm (fun _ _ h => fr_X11_countOf (by first | rfl | assumption | (simp [SC]; done) | (simp [SC]; omega)) h) (fun x5 m4 hm => ?_)
                            exact fr_ret hm
                          · skip
                            exact hk3 _ hm
                    · refine fr_if hm (fun hm => ?_) (fun hm => ?_)
                      · skip
                        skip
                        skip
                        skip
                        exact fr_ret hm
                      · refine fr_if hm (fun hm => ?_) (fun hm => ?_)
                        · skip
                          skip
                          exact fr_ret hm
                        · skip
                          skip
                          exact fr_ret hm
set_option maxRecDepth 4000 in
theorem fr_X11_learns {m mm : Sg} {w : Nat} {a1 : Int32} (h_w : SM w = true) (hm : f_X11_learns w m a1 = some mm) : Fr SM m mm := by
  unfold f_X11_learns at hm
  skip
  skip
  skip
  refine fr_b hm (fun x1 hm => ?_)
  skip
  skip
  skip
  skip
  refine fr_n hm (fun hm => ?_)
  skip
  refine fr_fi hm (fun hm => ?_) (fun hm => ?_)
  · skip
    skip
    skip
    skip
    skip
    refine fr_n hm (fun hm => ?_)
    skip
    skip
    refine fr_st hm (by first | rfl | assumption | (simp [SC]; done) | (simp [SC]; omega)) (fun m2 hm => ?_)
    skip
    skip
    skip
    skip
    refine fr_n hm (fun hm => ?_)
    refine fr_if hm (fun hm => ?_) (fun hm => ?_)
    · skip
      skip
      skip
      skip
      skip
      refine fr_n hm (fun hm => ?_)
      skip
      skip
      skip
      skip
      skip
      refine fr_n hm (fun hm => ?_)
      skip
      skip
      refine fr_st hm (by first | rfl | assumption | (simp [SC]; done) | (simp [SC]; omega)) (fun m3 hm => ?_)
      skip
      skip
      skip
      skip
      skip
      refine fr_n hm (fun hm => ?_)
      skip
      skip
      skip
      skip
      skip
      refine fr_n hm (fun hm => ?_)
      skip
      skip
      skip
      skip
      refine fr_st hm (by first | rfl | assumption | (simp [SC]; done) | (simp [SC]; omega)) (fun m4 hm => ?_)
      skip
      skip
      skip
      skip
      skip
      refine fr_st hm (by first | rfl | assumption | (simp [SC]; done) | (simp [SC]; omega)) (fun m5 hm => ?_)
      skip
      skip
      skip
      refine fr_fi hm (fun hm => ?_) (fun hm => ?_)
      · exact fr_retv hm
      · skip
        skip
        skip
        skip
        refine fr_if hm (fun hm => ?_) (fun hm => ?_)
        · exact fr_retv hm
        · skip
          skip
          skip
          refine fr_calv hm (fun _ h => fr_X11_begins (by first | rfl | assumption | (simp [SC]; done) | (simp [SC]; omega)) h) (fun m6 hm => ?_)
          exact fr_retv hm
    · exact fr_retv hm
  · exact fr_retv hm
set_option maxRecDepth 4000 in
theorem fr_X11_goMonth {m mm : Sg} {w : Nat} {a1 : Int32} (h_w : SM w = true) (hm : f_X11_goMonth w m a1 = some mm) : Fr SM m mm := by
  unfold f_X11_goMonth at hm
  skip
  skip
  skip
  skip
  skip
  skip
  refine fr_wr hm (by first | rfl | assumption | (simp [SC]; done) | (simp [SC]; omega)) (fun m1 hm => ?_)
  skip
  skip
  refine g_lp (I := fun (s : Sg × Int32) => Fr SM s.1 mm) (E := fun (s : Sg) => Fr SM s mm) hm ?_ ?_
  · rintro m4 hm
    (try dsimp only at hm)
    (try dsimp only)
    skip
    skip
    refine g_lp (I := fun (s : Sg × Int32) => Fr SM s.1 mm) (E := fun (s : Sg) => Fr SM s mm) hm ?_ ?_
    · rintro m11 hm
      (try dsimp only at hm)
      (try dsimp only)
      skip
      skip
      refine g_lp (I := fun (s : Sg × Int32) => Fr SM s.1 mm) (E := fun (s : Sg) => Fr SM s mm) hm ?_ ?_
      · rintro m23 hm
        (try dsimp only at hm)
        (try dsimp only)
        skip
        skip
        refine g_lp (I := fun (s : Sg × Int32) => Fr SM s.1 mm) (E := fun (s : Sg) => Fr SM s mm) hm ?_ ?_
        · rintro m30 hm
          (try dsimp only at hm)
          (try dsimp only)
          skip
          skip
          skip
          skip
          refine g_jn (J := fun (s : Sg) => Fr SM s mm) hm ?_ ?_
          · intro m39 hm
            skip
            skip
            skip
            refine fr_cal hm (fun _ _ h => fr_X11_examinerOf (by first | rfl | assumption | (simp [SC]; done) | (simp [SC]; omega)) h) (fun x42 m41 hm => ?_)
            skip
            skip
            skip
            skip
            skip
            refine g_lp (I := fun (s : Sg × Int32 × Int32) => Fr SM s.1 mm) (E := fun (s : Sg × Int32) => Fr SM s.1 mm) hm ?_ ?_
            · rintro ⟨m46, x47⟩ hm
              (try dsimp only at hm)
              (try dsimp only)
              skip
              skip
              refine g_jn (J := fun (s : Sg) => Fr SM s mm) hm ?_ ?_
              · intro m58 hm
                skip
                skip
                skip
                skip
                skip
                skip
                refine g_jn (J := fun (s : Sg × Int32) => Fr SM s.1 mm) hm ?_ ?_
                · rintro ⟨m60, x61⟩ hm
                  (try dsimp only at hm)
                  (try dsimp only)
                  skip
                  skip
                  skip
                  skip
                  refine fr_calv hm (fun _ h => fr_X11_writes (by first | rfl | assumption | (simp [SC]; done) | (simp [SC]; omega)) h) (fun m63 hm => ?_)
                  exact fr_retv hm
                · intro k62 hk62 hm
                  refine fr_if hm (fun hm => ?_) (fun hm => ?_)
                  · exact hk62 _ hm
                  · skip
                    skip
                    skip
                    skip
                    skip
                    skip
                    skip
                    skip
                    skip
                    refine fr_n hm (fun hm => ?_)
                    skip
                    skip
                    refine fr_st hm (by first | rfl | assumption | (simp [SC]; done) | (simp [SC]; omega)) (fun m64 hm => ?_)
                    skip
                    skip
                    skip
                    skip
                    skip
                    refine fr_cal hm (fun _ _ h => fr_X11_taxOf (by first | rfl | assumption | (simp [SC]; done) | (simp [SC]; omega)) h) (fun x66 m65 hm => ?_)
                    skip
                    skip
                    skip
                    skip
                    skip
                    skip
                    skip
                    refine fr_wr hm (by first | rfl | assumption | (simp [SC]; done) | (simp [SC]; omega)) (fun m67 hm => ?_)
                    exact hk62 _ hm
              · intro k59 hk59 hm
                refine fr_if hm (fun hm => ?_) (fun hm => ?_)
                · skip
                  exact hk59 _ hm
                · skip
                  skip
                  skip
                  refine fr_wr hm (by first | rfl | assumption | (simp [SC]; done) | (simp [SC]; omega)) (fun m68 hm => ?_)
                  skip
                  exact hk59 _ hm
            · rintro ⟨m43, x44, x45⟩ o hm hx49 hi48
              (try dsimp only [f_X11_goMonth_L214] at hm)
              (try dsimp only)
              skip
              skip
              skip
              refine fr_if hm (fun hm => ?_) (fun hm => ?_)
              · skip
                cases hm
                exact hx49 _ rfl
              · skip
                skip
                refine fr_if hm (fun hm => ?_) (fun hm => ?_)
                · skip
                  cases hm
                  exact hx49 _ rfl
                · skip
                  skip
                  skip
                  skip
                  refine fr_cal hm (fun _ _ h => fr_X11_isRival (by first | rfl | assumption | (simp [SC]; done) | (simp [SC]; omega)) h) (fun x51 m50 hm => ?_)
                  refine g_jn (J := fun (s : Sg × Int32) => Fr SM s.1 mm) hm ?_ ?_
                  · rintro ⟨m52, x53⟩ hm
                    (try dsimp only at hm)
                    (try dsimp only)
                    refine fr_b hm (fun x55 hm => ?_)
                    skip
                    cases hm
                    exact hi48 _ rfl
                  · intro k54 hk54 hm
                    refine fr_if hm (fun hm => ?_) (fun hm => ?_)
                    · exact hk54 _ hm
                    · skip
                      skip
                      refine g_jn (J := fun (s : Sg) => Fr SM s mm) hm ?_ ?_
                      · intro m56 hm
                        skip
                        skip
                        exact hk54 _ hm
                      · intro k57 hk57 hm
                        refine fr_if hm (fun hm => ?_) (fun hm => ?_)
                        · skip
                          exact hk57 _ hm
                        · skip
                          skip
                          skip
                          skip
                          skip
                          skip
                          refine fr_n hm (fun hm => ?_)
                          skip
                          skip
                          skip
                          skip
                          skip
                          skip
                          refine fr_n hm (fun hm => ?_)
                          refine fr_if hm (fun hm => ?_) (fun hm => ?_)
                          · exact hk54 _ hm
                          · skip
                            exact hk57 _ hm
          · intro k40 hk40 hm
            refine fr_if hm (fun hm => ?_) (fun hm => ?_)
            · exact hk40 _ hm
            · skip
              skip
              skip
              skip
              skip
              skip
              skip
              skip
              refine fr_n hm (fun hm => ?_)
              skip
              skip
              skip
              skip
              refine fr_if hm (fun hm => ?_) (fun hm => ?_)
              · exact hk40 _ hm
              · skip
                skip
                skip
                refine fr_wr hm (by first | rfl | assumption | (simp [SC]; done) | (simp [SC]; omega)) (fun m69 hm => ?_)
                exact hk40 _ hm
        · rintro ⟨m28, x29⟩ o hm hx32 hi31
          (try dsimp only [f_X11_goMonth_L123] at hm)
          (try dsimp only)
          skip
          skip
          skip
          refine fr_if hm (fun hm => ?_) (fun hm => ?_)
          · skip
            cases hm
            exact hx32 _ rfl
          · skip
            refine g_jn (J := fun (s : Sg) => Fr SM s mm) hm ?_ ?_
            · intro m33 hm
              refine fr_b hm (fun x35 hm => ?_)
              skip
              cases hm
              exact hi31 _ rfl
            · intro k34 hk34 hm
              refine fr_if hm (fun hm => ?_) (fun hm => ?_)
              · exact hk34 _ hm
              · skip
                skip
                refine fr_cal hm (fun _ _ h => fr_X11_draw h) (fun x37 m36 hm => ?_)
                skip
                skip
                refine fr_if hm (fun hm => ?_) (fun hm => ?_)
                · exact hk34 _ hm
                · skip
                  skip
                  skip
                  skip
                  skip
                  skip
                  skip
                  refine fr_n hm (fun hm => ?_)
                  skip
                  skip
                  refine fr_st hm (by first | rfl | assumption | (simp [SC]; done) | (simp [SC]; omega)) (fun m38 hm => ?_)
                  exact hk34 _ hm
      · rintro ⟨m21, x22⟩ o hm hx25 hi24
        (try dsimp only [f_X11_goMonth_L101] at hm)
        (try dsimp only)
        skip
        skip
        skip
        refine fr_if hm (fun hm => ?_) (fun hm => ?_)
        · skip
          cases hm
          exact hx25 _ rfl
        · skip
          skip
          skip
          refine fr_calv hm (fun _ h => fr_X11_learns (by first | rfl | assumption | (simp [SC]; done) | (simp [SC]; omega)) h) (fun m26 hm => ?_)
          refine fr_b hm (fun x27 hm => ?_)
          skip
          cases hm
          exact hi24 _ rfl
    · rintro ⟨m9, x10⟩ o hm hx13 hi12
      (try dsimp only [f_X11_goMonth_L38] at hm)
      (try dsimp only)
      skip
      skip
      skip
      refine fr_if hm (fun hm => ?_) (fun hm => ?_)
      · skip
        cases hm
        exact hx13 _ rfl
      · skip
        skip
        skip
        skip
        skip
        skip
        skip
        refine fr_n hm (fun hm => ?_)
        refine fr_b hm (fun x14 hm => ?_)
        skip
        refine g_jn (J := fun (s : Sg) => Fr SM s mm) hm ?_ ?_
        · intro m15 hm
          refine fr_b hm (fun x17 hm => ?_)
          skip
          cases hm
          exact hi12 _ rfl
        · intro k16 hk16 hm
          refine fr_if hm (fun hm => ?_) (fun hm => ?_)
          · skip
            exact hk16 _ hm
          · skip
            skip
            skip
            skip
            refine fr_n hm (fun hm => ?_)
            refine fr_fi hm (fun hm => ?_) (fun hm => ?_)
            · skip
              exact hk16 _ hm
            · skip
              skip
              skip
              skip
              skip
              refine fr_n hm (fun hm => ?_)
              skip
              skip
              skip
              skip
              refine fr_n hm (fun hm => ?_)
              refine fr_cal hm (fun _ _ h => fr_J6_highestOneBit_0f7a4 h) (fun x19 m18 hm => ?_)
              skip
              skip
              skip
              refine fr_st hm (by first | rfl | assumption | (simp [SC]; done) | (simp [SC]; omega)) (fun m20 hm => ?_)
              skip
              exact hk16 _ hm
  · rintro ⟨m2, x3⟩ o hm hx6 hi5
    (try dsimp only [f_X11_goMonth_L10] at hm)
    (try dsimp only)
    skip
    skip
    skip
    refine fr_if hm (fun hm => ?_) (fun hm => ?_)
    · skip
      cases hm
      exact hx6 _ rfl
    · skip
      skip
      skip
      skip
      skip
      skip
      skip
      refine fr_n hm (fun hm => ?_)
      skip
      skip
      refine fr_st hm (by first | rfl | assumption | (simp [SC]; done) | (simp [SC]; omega)) (fun m7 hm => ?_)
      refine fr_b hm (fun x8 hm => ?_)
      skip
      cases hm
      exact hi5 _ rfl
set_option maxRecDepth 4000 in
theorem fr_X11_goMonths {m mm : Sg} {r : Int32} {a1 : Int32} {a2 : Int32} (hm : f_X11_goMonths  m a1 a2 = some (r, mm)) : Fr SM m mm := by
  unfold f_X11_goMonths at hm
  skip
  skip
  refine fr_if hm (fun hm => ?_) (fun hm => ?_)
  · skip
    exact fr_ret hm
  · skip
    skip
    skip
    skip
    refine fr_cal hm (fun _ _ h => fr_X11_isIn h) (fun x2 m1 hm => ?_)
    refine fr_fi hm (fun hm => ?_) (fun hm => ?_)
    · skip
      skip
      refine g_lp (I := fun (s : Sg × Int32) => Fr SM s.1 mm) (E := fun (s : Sg) => Fr SM s mm) hm ?_ ?_
      · rintro m5 hm
        (try dsimp only at hm)
        (try dsimp only)
        skip
        skip
        skip
        skip
        exact fr_ret hm
      · rintro ⟨m3, x4⟩ o hm hx7 hi6
        (try dsimp only [f_X11_goMonths_L23] at hm)
        (try dsimp only)
        skip
        skip
        refine fr_if hm (fun hm => ?_) (fun hm => ?_)
        · skip
          cases hm
          exact hx7 _ rfl
        · skip
          refine fr_calv hm (fun _ h => fr_X11_remember h) (fun m8 hm => ?_)
          skip
          skip
          skip
          skip
          refine fr_calv hm (fun _ h => fr_X11_goMonth (by first | rfl | assumption | (simp [SC]; done) | (simp [SC]; omega)) h) (fun m9 hm => ?_)
          refine fr_b hm (fun x10 hm => ?_)
          skip
          cases hm
          exact hi6 _ rfl
    · skip
      exact fr_ret hm
set_option maxRecDepth 4000 in
theorem fr_X11_months {m mm : Sg} {r : Int32} {a1 : Int32} (hm : f_X11_months  m a1 = some (r, mm)) : Fr SM m mm := by
  unfold f_X11_months at hm
  skip
  skip
  refine fr_wr hm (by first | rfl | assumption | (simp [SC]; done) | (simp [SC]; omega)) (fun m1 hm => ?_)
  skip
  skip
  skip
  refine fr_cal hm (fun _ _ h => fr_X11_goMonths h) (fun x3 m2 hm => ?_)
  exact fr_ret hm
set_option maxRecDepth 4000 in
theorem fr_X11_fevers {m mm : Sg} {r : Int32} {a1 : Int32} {a2 : Int64} (hm : f_X11_fevers  m a1 a2 = some (r, mm)) : Fr SM m mm := by
  unfold f_X11_fevers at hm
  skip
  skip
  refine fr_wr hm (by first | rfl | assumption | (simp [SC]; done) | (simp [SC]; omega)) (fun m1 hm => ?_)
  skip
  skip
  refine fr_wrl hm (by first | rfl | assumption | (simp [SC]; done) | (simp [SC]; omega)) (fun m2 hm => ?_)
  skip
  skip
  skip
  refine fr_cal hm (fun _ _ h => fr_X11_goMonths h) (fun x4 m3 hm => ?_)
  exact fr_ret hm
set_option maxRecDepth 4000 in
theorem fr_X11_ahead {m mm : Sg} {r : Int32} {a1 : Int32} {a2 : Int32} (hm : f_X11_ahead  m a1 a2 = some (r, mm)) : Fr SM m mm := by
  unfold f_X11_ahead at hm
  skip
  skip
  refine fr_wr hm (by first | rfl | assumption | (simp [SC]; done) | (simp [SC]; omega)) (fun m1 hm => ?_)
  skip
  skip
  refine g_jn (J := fun (s : Sg) => Fr SM s mm) hm ?_ ?_
  · intro m2 hm
    skip
    exact fr_ret hm
  · intro k3 hk3 hm
    refine fr_if hm (fun hm => ?_) (fun hm => ?_)
    · skip
      exact hk3 _ hm
    · skip
      skip
      skip
      skip
      refine fr_cal hm (fun _ _ h => fr_X11_isIn h) (fun x5 m4 hm => ?_)
      refine fr_if hm (fun hm => ?_) (fun hm => ?_)
      · skip
        exact hk3 _ hm
      · skip
        skip
        skip
        skip
        refine fr_cal hm (fun _ _ h => fr_X11_isIn h) (fun x7 m6 hm => ?_)
        refine fr_fi hm (fun hm => ?_) (fun hm => ?_)
        · skip
          skip
          skip
          skip
          refine fr_calv hm (fun _ h => fr_X11_copy (by first | rfl | assumption | (simp [SC]; done) | (simp [SC]; omega)) (by first | rfl | assumption | (simp [SC]; done) | (simp [SC]; omega)) h) (fun m8 hm => ?_)
          skip
          skip
          refine g_lp (I := fun (s : Sg × Int32) => Fr SM s.1 mm) (E := fun (s : Sg) => Fr SM s mm) hm ?_ ?_
          · rintro m11 hm
            (try dsimp only at hm)
            (try dsimp only)
            skip
            refine fr_fi hm (fun hm => ?_) (fun hm => ?_)
            · skip
              skip
              skip
              skip
              exact fr_ret hm
            · skip
              skip
              skip
              skip
              skip
              exact fr_ret hm
          · rintro ⟨m9, x10⟩ o hm hx13 hi12
            (try dsimp only [f_X11_ahead_L51] at hm)
            (try dsimp only)
            skip
            skip
            refine fr_if hm (fun hm => ?_) (fun hm => ?_)
            · skip
              cases hm
              exact hx13 _ rfl
            · skip
              skip
              skip
              skip
              refine fr_calv hm (fun _ h => fr_X11_goMonth (by first | rfl | assumption | (simp [SC]; done) | (simp [SC]; omega)) h) (fun m14 hm => ?_)
              refine fr_b hm (fun x15 hm => ?_)
              skip
              cases hm
              exact hi12 _ rfl
        · skip
          exact hk3 _ hm
set_option maxRecDepth 4000 in
theorem fr_X11_reigns {m mm : Sg} {r : Int32} {a1 : Int32} {a2 : Int32} {a3 : Int32} (hm : f_X11_reigns  m a1 a2 a3 = some (r, mm)) : Fr SM m mm := by
  unfold f_X11_reigns at hm
  skip
  skip
  skip
  skip
  refine g_lp (I := fun (s : Sg × Int32 × Int32) => Fr SM s.1 mm) (E := fun (s : Sg × Int32) => Fr SM s.1 mm) hm ?_ ?_
  · rintro ⟨m4, x5⟩ hm
    (try dsimp only at hm)
    (try dsimp only)
    skip
    exact fr_ret hm
  · rintro ⟨m1, x2, x3⟩ o hm hx7 hi6
    (try dsimp only [f_X11_reigns_L6] at hm)
    (try dsimp only)
    skip
    skip
    refine fr_if hm (fun hm => ?_) (fun hm => ?_)
    · skip
      cases hm
      exact hx7 _ rfl
    · skip
      skip
      skip
      skip
      refine fr_calv hm (fun _ h => fr_X11_goMonth (by first | rfl | assumption | (simp [SC]; done) | (simp [SC]; omega)) h) (fun m8 hm => ?_)
      skip
      skip
      skip
      skip
      refine fr_b hm (fun x9 hm => ?_)
      skip
      skip
      skip
      refine g_jn (J := fun (s : Sg × Int32) => Fr SM s.1 mm) hm ?_ ?_
      · rintro ⟨m10, x11⟩ hm
        (try dsimp only at hm)
        (try dsimp only)
        skip
        refine fr_b hm (fun x13 hm => ?_)
        refine fr_b hm (fun x14 hm => ?_)
        skip
        cases hm
        exact hi6 _ rfl
      · intro k12 hk12 hm
        refine g_jn (J := fun (s : Sg) => Fr SM s mm) hm ?_ ?_
        · intro m15 hm
          skip
          exact hk12 _ hm
        · intro k16 hk16 hm
          refine fr_if hm (fun hm => ?_) (fun hm => ?_)
          · skip
            exact hk16 _ hm
          · skip
            refine g_jn (J := fun (s : Sg) => Fr SM s mm) hm ?_ ?_
            · intro m17 hm
              skip
              skip
              exact hk12 _ hm
            · intro k18 hk18 hm
              refine fr_fi hm (fun hm => ?_) (fun hm => ?_)
              · skip
                skip
                skip
                skip
                skip
                skip
                skip
                refine fr_n hm (fun hm => ?_)
                skip
                refine fr_fi hm (fun hm => ?_) (fun hm => ?_)
                · skip
                  exact hk16 _ hm
                · skip
                  exact hk18 _ hm
              · skip
                skip
                refine fr_fi hm (fun hm => ?_) (fun hm => ?_)
                · skip
                  exact hk16 _ hm
                · skip
                  skip
                  exact hk18 _ hm
set_option maxRecDepth 4000 in
theorem fr_X11_reign {m mm : Sg} {r : Int32} {a1 : Int32} {a2 : Int32} {a3 : Int32} (hm : f_X11_reign  m a1 a2 a3 = some (r, mm)) : Fr SM m mm := by
  unfold f_X11_reign at hm
  skip
  skip
  refine fr_wr hm (by first | rfl | assumption | (simp [SC]; done) | (simp [SC]; omega)) (fun m1 hm => ?_)
  skip
  skip
  skip
  skip
  refine fr_cal hm (fun _ _ h => fr_X11_isIn h) (fun x3 m2 hm => ?_)
  refine fr_if hm (fun hm => ?_) (fun hm => ?_)
  · skip
    exact fr_ret hm
  · skip
    skip
    skip
    skip
    refine fr_cal hm (fun _ _ h => fr_X11_isIn h) (fun x5 m4 hm => ?_)
    refine fr_if hm (fun hm => ?_) (fun hm => ?_)
    · skip
      exact fr_ret hm
    · skip
      refine g_jn (J := fun (s : Sg) => Fr SM s mm) hm ?_ ?_
      · intro m6 hm
        skip
        skip
        skip
        skip
        refine fr_calv hm (fun _ h => fr_X11_copy (by first | rfl | assumption | (simp [SC]; done) | (simp [SC]; omega)) (by first | rfl | assumption | (simp [SC]; done) | (simp [SC]; omega)) h) (fun m8 hm => ?_)
        skip
        skip
        skip
        skip
        refine fr_cal hm (fun _ _ h => fr_X11_reigns h) (fun x10 m9 hm => ?_)
        exact fr_ret hm
      · intro k7 hk7 hm
        refine fr_fi hm (fun hm => ?_) (fun hm => ?_)
        · skip
          skip
          refine fr_cal hm (fun _ _ h => fr_X11_isNursery h) (fun x12 m11 hm => ?_)
          refine fr_fi hm (fun hm => ?_) (fun hm => ?_)
          · exact hk7 _ hm
          · skip
            exact fr_ret hm
        · skip
          skip
          refine fr_cal hm (fun _ _ h => fr_X11_isChild h) (fun x14 m13 hm => ?_)
          refine fr_fi hm (fun hm => ?_) (fun hm => ?_)
          · exact hk7 _ hm
          · skip
            skip
            exact fr_ret hm
set_option maxRecDepth 4000 in
theorem fr_X11_reignBy {m mm : Sg} {r : Int32} {a1 : Int32} {a2 : Int32} {a3 : Int32} (hm : f_X11_reignBy  m a1 a2 a3 = some (r, mm)) : Fr SM m mm := by
  unfold f_X11_reignBy at hm
  skip
  skip
  skip
  skip
  refine fr_calv hm (fun _ h => fr_X11_copy (by first | rfl | assumption | (simp [SC]; done) | (simp [SC]; omega)) (by first | rfl | assumption | (simp [SC]; done) | (simp [SC]; omega)) h) (fun m1 hm => ?_)
  skip
  skip
  refine fr_wr hm (by first | rfl | assumption | (simp [SC]; done) | (simp [SC]; omega)) (fun m2 hm => ?_)
  skip
  skip
  refine fr_wr hm (by first | rfl | assumption | (simp [SC]; done) | (simp [SC]; omega)) (fun m3 hm => ?_)
  skip
  skip
  refine fr_wr hm (by first | rfl | assumption | (simp [SC]; done) | (simp [SC]; omega)) (fun m4 hm => ?_)
  skip
  refine g_jn (J := fun (s : Sg) => Fr SM s mm) hm ?_ ?_
  · intro m5 hm
    skip
    skip
    skip
    skip
    refine fr_cal hm (fun _ _ h => fr_X11_reigns h) (fun x8 m7 hm => ?_)
    skip
    skip
    skip
    refine fr_wr hm (by first | rfl | assumption | (simp [SC]; done) | (simp [SC]; omega)) (fun m9 hm => ?_)
    skip
    exact fr_ret hm
  · intro k6 hk6 hm
    refine fr_if hm (fun hm => ?_) (fun hm => ?_)
    · skip
      exact hk6 _ hm
    · skip
      skip
      skip
      skip
      refine fr_calv hm (fun _ h => fr_X11_begins (by first | rfl | assumption | (simp [SC]; done) | (simp [SC]; omega)) h) (fun m10 hm => ?_)
      skip
      exact hk6 _ hm
set_option maxRecDepth 4000 in
theorem fr_X11_rulesAll {m mm : Sg} {r : Int32} {a1 : Int32} {a2 : Int32} {a3 : Int32} {a4 : Int32} (hm : f_X11_rulesAll  m a1 a2 a3 a4 = some (r, mm)) : Fr SM m mm := by
  unfold f_X11_rulesAll at hm
  skip
  skip
  skip
  skip
  refine fr_calv hm (fun _ h => fr_X11_copy (by first | rfl | assumption | (simp [SC]; done) | (simp [SC]; omega)) (by first | rfl | assumption | (simp [SC]; done) | (simp [SC]; omega)) h) (fun m1 hm => ?_)
  skip
  skip
  refine g_lp (I := fun (s : Sg × Int32) => Fr SM s.1 mm) (E := fun (s : Sg) => Fr SM s mm) hm ?_ ?_
  · rintro m4 hm
    (try dsimp only at hm)
    (try dsimp only)
    skip
    skip
    skip
    skip
    refine fr_cal hm (fun _ _ h => fr_X11_reigns h) (fun x14 m13 hm => ?_)
    skip
    refine fr_fi hm (fun hm => ?_) (fun hm => ?_)
    · skip
      exact fr_ret hm
    · skip
      skip
      exact fr_ret hm
  · rintro ⟨m2, x3⟩ o hm hx6 hi5
    (try dsimp only [f_X11_rulesAll_L14] at hm)
    (try dsimp only)
    skip
    skip
    skip
    refine fr_if hm (fun hm => ?_) (fun hm => ?_)
    · skip
      cases hm
      exact hx6 _ rfl
    · skip
      skip
      refine fr_cal hm (fun _ _ h => fr_X11_has h) (fun x8 m7 hm => ?_)
      refine g_jn (J := fun (s : Sg) => Fr SM s mm) hm ?_ ?_
      · intro m9 hm
        refine fr_b hm (fun x11 hm => ?_)
        skip
        cases hm
        exact hi5 _ rfl
      · intro k10 hk10 hm
        refine fr_if hm (fun hm => ?_) (fun hm => ?_)
        · exact hk10 _ hm
        · skip
          skip
          skip
          skip
          refine fr_calv hm (fun _ h => fr_X11_keeps (by first | rfl | assumption | (simp [SC]; done) | (simp [SC]; omega)) h) (fun m12 hm => ?_)
          exact hk10 _ hm
set_option maxRecDepth 4000 in
theorem fr_X11_keepers {m mm : Sg} {r : Int32} {a1 : Int32} {a2 : Int32} {a3 : Int32} (hm : f_X11_keepers  m a1 a2 a3 = some (r, mm)) : Fr SM m mm := by
  unfold f_X11_keepers at hm
  skip
  skip
  refine fr_wr hm (by first | rfl | assumption | (simp [SC]; done) | (simp [SC]; omega)) (fun m1 hm => ?_)
  skip
  skip
  refine fr_cal hm (fun _ _ h => fr_X11_isChild h) (fun x3 m2 hm => ?_)
  refine fr_if hm (fun hm => ?_) (fun hm => ?_)
  · skip
    exact fr_ret hm
  · skip
    refine fr_cal hm (fun _ _ h => fr_X11_isTen h) (fun x5 m4 hm => ?_)
    refine fr_if hm (fun hm => ?_) (fun hm => ?_)
    · skip
      exact fr_ret hm
    · skip
      skip
      skip
      skip
      refine fr_cal hm (fun _ _ h => fr_X11_isIn h) (fun x7 m6 hm => ?_)
      refine fr_fi hm (fun hm => ?_) (fun hm => ?_)
      · skip
        skip
        skip
        skip
        refine g_lp (I := fun (s : Sg × Int32 × Int32) => Fr SM s.1 mm) (E := fun (s : Sg × Int32) => Fr SM s.1 mm) hm ?_ ?_
        · rintro ⟨m11, x12⟩ hm
          (try dsimp only at hm)
          (try dsimp only)
          skip
          exact fr_ret hm
        · rintro ⟨m8, x9, x10⟩ o hm hx14 hi13
          (try dsimp only [f_X11_keepers_L40] at hm)
          (try dsimp only)
          skip
          skip
          skip
          skip
          skip
          refine fr_if hm (fun hm => ?_) (fun hm => ?_)
          · skip
            cases hm
            exact hx14 _ rfl
          · skip
            skip
            refine fr_cal hm (fun _ _ h => fr_X11_has h) (fun x16 m15 hm => ?_)
            refine g_jn (J := fun (s : Sg × Int32) => Fr SM s.1 mm) hm ?_ ?_
            · rintro ⟨m17, x18⟩ hm
              (try dsimp only at hm)
              (try dsimp only)
              refine fr_b hm (fun x20 hm => ?_)
              skip
              cases hm
              exact hi13 _ rfl
            · intro k19 hk19 hm
              refine fr_fi hm (fun hm => ?_) (fun hm => ?_)
              · exact hk19 _ hm
              · skip
                skip
                refine g_jn (J := fun (s : Sg) => Fr SM s mm) hm ?_ ?_
                · intro m21 hm
                  skip
                  skip
                  skip
                  skip
                  skip
                  refine fr_cal hm (fun _ _ h => fr_X11_rulesAll h) (fun x24 m23 hm => ?_)
                  refine fr_if hm (fun hm => ?_) (fun hm => ?_)
                  · exact hk19 _ hm
                  · skip
                    skip
                    exact hk19 _ hm
                · intro k22 hk22 hm
                  refine fr_if hm (fun hm => ?_) (fun hm => ?_)
                  · exact hk22 _ hm
                  · skip
                    refine fr_cal hm (fun _ _ h => fr_J6_bitCount_0f7a4 h) (fun x26 m25 hm => ?_)
                    skip
                    refine fr_cal hm (fun _ _ h => fr_J6_bitCount_0f7a4 h) (fun x28 m27 hm => ?_)
                    refine fr_if hm (fun hm => ?_) (fun hm => ?_)
                    · exact hk19 _ hm
                    · exact hk22 _ hm
      · skip
        exact fr_ret hm
set_option maxRecDepth 4000 in
theorem fr_X11_duelOf {m mm : Sg} {r : Int32} {a1 : Int32} {a2 : Int32} {a3 : Int32} {a4 : Int32} (hm : f_X11_duelOf  m a1 a2 a3 a4 = some (r, mm)) : Fr SM m mm := by
  unfold f_X11_duelOf at hm
  skip
  skip
  skip
  skip
  refine fr_calv hm (fun _ h => fr_X11_copy (by first | rfl | assumption | (simp [SC]; done) | (simp [SC]; omega)) (by first | rfl | assumption | (simp [SC]; done) | (simp [SC]; omega)) h) (fun m1 hm => ?_)
  skip
  skip
  refine fr_calv hm (fun _ h => fr_X11_teachesAtOnce h) (fun m2 hm => ?_)
  skip
  skip
  refine fr_calv hm (fun _ h => fr_X11_teachesAtOnce h) (fun m3 hm => ?_)
  skip
  skip
  skip
  skip
  skip
  refine g_lp (I := fun (s : Sg × Int32 × Int32) => Fr SM s.1 mm) (E := fun (s : Sg × Int32) => Fr SM s.1 mm) hm ?_ ?_
  · rintro ⟨m7, x8⟩ hm
    (try dsimp only at hm)
    (try dsimp only)
    skip
    exact fr_ret hm
  · rintro ⟨m4, x5, x6⟩ o hm hx10 hi9
    (try dsimp only [f_X11_duelOf_L28] at hm)
    (try dsimp only)
    skip
    skip
    refine fr_if hm (fun hm => ?_) (fun hm => ?_)
    · skip
      cases hm
      exact hx10 _ rfl
    · skip
      skip
      skip
      skip
      refine fr_calv hm (fun _ h => fr_X11_goMonth (by first | rfl | assumption | (simp [SC]; done) | (simp [SC]; omega)) h) (fun m11 hm => ?_)
      skip
      skip
      skip
      skip
      refine fr_b hm (fun x12 hm => ?_)
      skip
      skip
      refine g_jn (J := fun (s : Sg × Int32) => Fr SM s.1 mm) hm ?_ ?_
      · rintro ⟨m13, x14⟩ hm
        (try dsimp only at hm)
        (try dsimp only)
        refine fr_b hm (fun x16 hm => ?_)
        skip
        cases hm
        exact hi9 _ rfl
      · intro k15 hk15 hm
        refine fr_fi hm (fun hm => ?_) (fun hm => ?_)
        · skip
          skip
          skip
          skip
          skip
          skip
          skip
          skip
          refine fr_n hm (fun hm => ?_)
          skip
          refine g_jn (J := fun (s : Sg × Int32) => Fr SM s.1 mm) hm ?_ ?_
          · rintro ⟨m17, x18⟩ hm
            (try dsimp only at hm)
            (try dsimp only)
            skip
            refine fr_b hm (fun x20 hm => ?_)
            exact hk15 _ hm
          · intro k19 hk19 hm
            refine fr_fi hm (fun hm => ?_) (fun hm => ?_)
            · skip
              skip
              skip
              skip
              skip
              skip
              skip
              refine fr_n hm (fun hm => ?_)
              skip
              refine fr_fi hm (fun hm => ?_) (fun hm => ?_)
              · skip
                skip
                exact hk19 _ hm
              · skip
                skip
                skip
                exact hk19 _ hm
            · skip
              skip
              skip
              exact hk19 _ hm
        · skip
          skip
          exact hk15 _ hm
set_option maxRecDepth 4000 in
theorem fr_X11_duel {m mm : Sg} {r : Int32} {a1 : Int32} {a2 : Int32} {a3 : Int32} {a4 : Int32} (hm : f_X11_duel  m a1 a2 a3 a4 = some (r, mm)) : Fr SM m mm := by
  unfold f_X11_duel at hm
  skip
  skip
  refine fr_wr hm (by first | rfl | assumption | (simp [SC]; done) | (simp [SC]; omega)) (fun m1 hm => ?_)
  skip
  skip
  refine fr_cal hm (fun _ _ h => fr_X11_isNursery h) (fun x3 m2 hm => ?_)
  refine g_jn (J := fun (s : Sg) => Fr SM s mm) hm ?_ ?_
  · intro m4 hm
    skip
    exact fr_ret hm
  · intro k5 hk5 hm
    refine fr_if hm (fun hm => ?_) (fun hm => ?_)
    · skip
      exact hk5 _ hm
    · skip
      skip
      refine fr_cal hm (fun _ _ h => fr_X11_isNursery h) (fun x7 m6 hm => ?_)
      refine fr_if hm (fun hm => ?_) (fun hm => ?_)
      · skip
        exact hk5 _ hm
      · skip
        skip
        refine fr_if hm (fun hm => ?_) (fun hm => ?_)
        · skip
          exact hk5 _ hm
        · skip
          skip
          skip
          refine fr_cal hm (fun _ _ h => fr_X11_isOf h) (fun x9 m8 hm => ?_)
          refine fr_if hm (fun hm => ?_) (fun hm => ?_)
          · skip
            exact hk5 _ hm
          · skip
            skip
            skip
            refine fr_cal hm (fun _ _ h => fr_X11_isOf h) (fun x11 m10 hm => ?_)
            refine fr_if hm (fun hm => ?_) (fun hm => ?_)
            · skip
              exact hk5 _ hm
            · skip
              skip
              skip
              skip
              skip
              refine fr_cal hm (fun _ _ h => fr_X11_duelOf h) (fun x13 m12 hm => ?_)
              skip
              exact fr_ret hm
set_option maxRecDepth 4000 in
theorem fr_X11_rests {m mm : Sg} {r : Int32} {a1 : Int32} {a2 : Int32} {a3 : Int32} (hm : f_X11_rests  m a1 a2 a3 = some (r, mm)) : Fr SM m mm := by
  unfold f_X11_rests at hm
  skip
  skip
  refine fr_wr hm (by first | rfl | assumption | (simp [SC]; done) | (simp [SC]; omega)) (fun m1 hm => ?_)
  skip
  skip
  refine fr_cal hm (fun _ _ h => fr_X11_isNursery h) (fun x3 m2 hm => ?_)
  refine fr_if hm (fun hm => ?_) (fun hm => ?_)
  · skip
    exact fr_ret hm
  · skip
    skip
    refine fr_cal hm (fun _ _ h => fr_X11_isNursery h) (fun x5 m4 hm => ?_)
    refine fr_if hm (fun hm => ?_) (fun hm => ?_)
    · skip
      exact fr_ret hm
    · skip
      skip
      refine fr_if hm (fun hm => ?_) (fun hm => ?_)
      · skip
        exact fr_ret hm
      · skip
        skip
        refine fr_if hm (fun hm => ?_) (fun hm => ?_)
        · skip
          skip
          refine g_lp (I := fun (s : Sg × Int32) => Fr SM s.1 mm) (E := fun (s : Sg) => Fr SM s mm) hm ?_ ?_
          · rintro m8 hm
            (try dsimp only at hm)
            (try dsimp only)
            skip
            skip
            skip
            skip
            refine g_lp (I := fun (s : Sg × Int32 × Int32) => Fr SM s.1 mm) (E := fun (x : (Sg × Int32 × Int32) ⊕ (Sg × Int32)) => match x with | .inl (m30, x31, x32) => Fr SM m30 mm | .inr (m33, x34) => Fr SM m33 mm) hm ?_ ?_
            · rintro (⟨m30, x31, x32⟩ | ⟨m33, x34⟩) hm
              · (try dsimp only at hm)
                (try dsimp only)
                skip
                skip
                skip
                skip
                skip
                exact fr_ret hm
              · (try dsimp only at hm)
                (try dsimp only)
                skip
                skip
                refine fr_fi hm (fun hm => ?_) (fun hm => ?_)
                · skip
                  exact fr_ret hm
                · skip
                  skip
                  exact fr_ret hm
            · rintro ⟨m27, x28, x29⟩ o hm hx36 hi35
              (try dsimp only [f_X11_rests_L118] at hm)
              (try dsimp only)
              skip
              skip
              skip
              refine fr_if hm (fun hm => ?_) (fun hm => ?_)
              · skip
                cases hm
                exact hx36 _ rfl
              · skip
                skip
                refine g_lp (I := fun (s : Sg × Int32 × Int32) => Fr SM s.1 mm) (E := fun (x : (Sg × Int32) ⊕ (Sg × Int32)) => match x with | .inl (m40, x41) => Fr SM m40 mm | .inr (m42, x43) => Fr SM m42 mm) hm ?_ ?_
                · rintro (⟨m40, x41⟩ | ⟨m42, x43⟩) hm
                  · (try dsimp only at hm)
                    (try dsimp only)
                    cases hm
                    exact hx36 _ rfl
                  · (try dsimp only at hm)
                    (try dsimp only)
                    refine fr_b hm (fun x57 hm => ?_)
                    skip
                    cases hm
                    exact hi35 _ rfl
                · rintro ⟨m37, x38, x39⟩ o hm hx45 hi44
                  (try dsimp only [f_X11_rests_L130] at hm)
                  (try dsimp only)
                  skip
                  skip
                  skip
                  refine fr_if hm (fun hm => ?_) (fun hm => ?_)
                  · skip
                    cases hm
                    exact hx45 _ rfl
                  · skip
                    skip
                    skip
                    refine fr_cal hm (fun _ _ h => fr_X11_isOf h) (fun x47 m46 hm => ?_)
                    refine g_jn (J := fun (s : Sg × Int32) => Fr SM s.1 mm) hm ?_ ?_
                    · rintro ⟨m48, x49⟩ hm
                      (try dsimp only at hm)
                      (try dsimp only)
                      refine fr_b hm (fun x51 hm => ?_)
                      skip
                      cases hm
                      exact hi44 _ rfl
                    · intro k50 hk50 hm
                      refine fr_if hm (fun hm => ?_) (fun hm => ?_)
                      · exact hk50 _ hm
                      · skip
                        skip
                        skip
                        refine fr_cal hm (fun _ _ h => fr_X11_isOf h) (fun x53 m52 hm => ?_)
                        refine fr_if hm (fun hm => ?_) (fun hm => ?_)
                        · exact hk50 _ hm
                        · skip
                          skip
                          skip
                          skip
                          skip
                          refine fr_cal hm (fun _ _ h => fr_X11_isRest h) (fun x55 m54 hm => ?_)
                          refine fr_fi hm (fun hm => ?_) (fun hm => ?_)
                          · skip
                            skip
                            refine fr_fi hm (fun hm => ?_) (fun hm => ?_)
                            · refine fr_b hm (fun x56 hm => ?_)
                              exact hk50 _ hm
                            · skip
                              cases hm
                              exact hx45 _ rfl
                          · skip
                            exact hk50 _ hm
          · rintro ⟨m6, x7⟩ o hm hx10 hi9
            (try dsimp only [f_X11_rests_L36] at hm)
            (try dsimp only)
            skip
            skip
            skip
            refine fr_if hm (fun hm => ?_) (fun hm => ?_)
            · skip
              cases hm
              exact hx10 _ rfl
            · skip
              skip
              refine g_lp (I := fun (s : Sg × Int32) => Fr SM s.1 mm) (E := fun (s : Sg) => Fr SM s mm) hm ?_ ?_
              · rintro m13 hm
                (try dsimp only at hm)
                (try dsimp only)
                refine fr_b hm (fun x26 hm => ?_)
                skip
                cases hm
                exact hi9 _ rfl
              · rintro ⟨m11, x12⟩ o hm hx15 hi14
                (try dsimp only [f_X11_rests_L48] at hm)
                (try dsimp only)
                skip
                skip
                skip
                refine fr_if hm (fun hm => ?_) (fun hm => ?_)
                · skip
                  cases hm
                  exact hx15 _ rfl
                · skip
                  skip
                  skip
                  refine fr_cal hm (fun _ _ h => fr_X11_isOf h) (fun x17 m16 hm => ?_)
                  refine g_jn (J := fun (s : Sg) => Fr SM s mm) hm ?_ ?_
                  · intro m18 hm
                    refine fr_b hm (fun x20 hm => ?_)
                    skip
                    cases hm
                    exact hi14 _ rfl
                  · intro k19 hk19 hm
                    refine fr_if hm (fun hm => ?_) (fun hm => ?_)
                    · exact hk19 _ hm
                    · skip
                      skip
                      skip
                      refine fr_cal hm (fun _ _ h => fr_X11_isOf h) (fun x22 m21 hm => ?_)
                      refine fr_if hm (fun hm => ?_) (fun hm => ?_)
                      · exact hk19 _ hm
                      · skip
                        skip
                        skip
                        skip
                        skip
                        skip
                        skip
                        skip
                        skip
                        skip
                        skip
                        skip
                        refine fr_cal hm (fun _ _ h => fr_X11_duelOf h) (fun x24 m23 hm => ?_)
                        refine fr_st hm (by first | rfl | assumption | (simp [SC]; done) | (simp [SC]; omega)) (fun m25 hm => ?_)
                        exact hk19 _ hm
        · skip
          exact fr_ret hm
set_option maxRecDepth 4000 in
theorem fr_X11_late {m mm : Sg} {r : Int32} (hm : f_X11_late  m  = some (r, mm)) : Fr SM m mm := by
  unfold f_X11_late at hm
  skip
  skip
  refine fr_wr hm (by first | rfl | assumption | (simp [SC]; done) | (simp [SC]; omega)) (fun m1 hm => ?_)
  skip
  skip
  refine fr_fi hm (fun hm => ?_) (fun hm => ?_)
  · skip
    skip
    skip
    skip
    refine fr_calv hm (fun _ h => fr_X11_copy (by first | rfl | assumption | (simp [SC]; done) | (simp [SC]; omega)) (by first | rfl | assumption | (simp [SC]; done) | (simp [SC]; omega)) h) (fun m2 hm => ?_)
    skip
    skip
    refine g_lp (I := fun (s : Sg × Int32) => Fr SM s.1 mm) (E := fun (x : (Sg × Int32) ⊕ (Sg)) => match x with | .inl (m5, x6) => Fr SM m5 mm | .inr m7 => Fr SM m7 mm) hm ?_ ?_
    · rintro (⟨m5, x6⟩ | m7) hm
      · (try dsimp only at hm)
        (try dsimp only)
        skip
        exact fr_ret hm
      · (try dsimp only at hm)
        (try dsimp only)
        skip
        exact fr_ret hm
    · rintro ⟨m3, x4⟩ o hm hx9 hi8
      (try dsimp only [f_X11_late_L27] at hm)
      (try dsimp only)
      skip
      skip
      refine fr_if hm (fun hm => ?_) (fun hm => ?_)
      · skip
        cases hm
        exact hx9 _ rfl
      · skip
        skip
        skip
        skip
        refine fr_cal hm (fun _ _ h => fr_X11_examinerOf (by first | rfl | assumption | (simp [SC]; done) | (simp [SC]; omega)) h) (fun x11 m10 hm => ?_)
        skip
        refine fr_fi hm (fun hm => ?_) (fun hm => ?_)
        · skip
          skip
          skip
          skip
          refine fr_calv hm (fun _ h => fr_X11_goMonth (by first | rfl | assumption | (simp [SC]; done) | (simp [SC]; omega)) h) (fun m12 hm => ?_)
          refine fr_b hm (fun x13 hm => ?_)
          skip
          cases hm
          exact hi8 _ rfl
        · skip
          cases hm
          exact hx9 _ rfl
  · skip
    exact fr_ret hm
set_option maxRecDepth 4000 in
theorem fr_X11_richest {m mm : Sg} {r : Int32} {a1 : Int32} {a2 : Int32} (hm : f_X11_richest  m a1 a2 = some (r, mm)) : Fr SM m mm := by
  unfold f_X11_richest at hm
  skip
  skip
  refine fr_wr hm (by first | rfl | assumption | (simp [SC]; done) | (simp [SC]; omega)) (fun m1 hm => ?_)
  skip
  skip
  refine g_jn (J := fun (s : Sg) => Fr SM s mm) hm ?_ ?_
  · intro m2 hm
    skip
    exact fr_ret hm
  · intro k3 hk3 hm
    refine fr_if hm (fun hm => ?_) (fun hm => ?_)
    · skip
      exact hk3 _ hm
    · skip
      skip
      skip
      skip
      refine fr_cal hm (fun _ _ h => fr_X11_isIn h) (fun x5 m4 hm => ?_)
      refine fr_if hm (fun hm => ?_) (fun hm => ?_)
      · skip
        exact hk3 _ hm
      · skip
        skip
        skip
        skip
        refine fr_cal hm (fun _ _ h => fr_X11_isIn h) (fun x7 m6 hm => ?_)
        refine fr_fi hm (fun hm => ?_) (fun hm => ?_)
        · skip
          skip
          refine fr_b hm (fun x8 hm => ?_)
          skip
          skip
          skip
          skip
          skip
          skip
          refine g_lp (I := fun (s : Sg × Int32 × Int32 × Int32) => Fr SM s.1 mm) (E := fun (s : Sg × Int32 × Int32) => Fr SM s.1 mm) hm ?_ ?_
          · rintro ⟨m13, x14, x15⟩ hm
            (try dsimp only at hm)
            (try dsimp only)
            skip
            skip
            refine fr_wr hm (by first | rfl | assumption | (simp [SC]; done) | (simp [SC]; omega)) (fun m33 hm => ?_)
            skip
            refine fr_fi hm (fun hm => ?_) (fun hm => ?_)
            · skip
              exact fr_ret hm
            · skip
              skip
              exact fr_ret hm
          · rintro ⟨m9, x10, x11, x12⟩ o hm hx17 hi16
            (try dsimp only [f_X11_richest_L52] at hm)
            (try dsimp only)
            skip
            skip
            skip
            refine fr_if hm (fun hm => ?_) (fun hm => ?_)
            · skip
              cases hm
              exact hx17 _ rfl
            · skip
              skip
              refine fr_wr hm (by first | rfl | assumption | (simp [SC]; done) | (simp [SC]; omega)) (fun m18 hm => ?_)
              skip
              skip
              skip
              skip
              refine fr_calv hm (fun _ h => fr_X11_copy (by first | rfl | assumption | (simp [SC]; done) | (simp [SC]; omega)) (by first | rfl | assumption | (simp [SC]; done) | (simp [SC]; omega)) h) (fun m19 hm => ?_)
              skip
              skip
              refine g_lp (I := fun (s : Sg × Int32) => Fr SM s.1 mm) (E := fun (s : Sg) => Fr SM s mm) hm ?_ ?_
              · rintro m22 hm
                (try dsimp only at hm)
                (try dsimp only)
                skip
                skip
                skip
                skip
                skip
                refine g_jn (J := fun (s : Sg × Int32 × Int32) => Fr SM s.1 mm) hm ?_ ?_
                · rintro ⟨m27, x28, x29⟩ hm
                  (try dsimp only at hm)
                  (try dsimp only)
                  refine fr_b hm (fun x31 hm => ?_)
                  skip
                  cases hm
                  exact hi16 _ rfl
                · intro k30 hk30 hm
                  refine fr_if hm (fun hm => ?_) (fun hm => ?_)
                  · skip
                    skip
                    skip
                    skip
                    skip
                    skip
                    refine fr_b hm (fun x32 hm => ?_)
                    exact hk30 _ hm
                  · skip
                    exact hk30 _ hm
              · rintro ⟨m20, x21⟩ o hm hx24 hi23
                (try dsimp only [f_X11_richest_L81] at hm)
                (try dsimp only)
                skip
                skip
                refine fr_if hm (fun hm => ?_) (fun hm => ?_)
                · skip
                  cases hm
                  exact hx24 _ rfl
                · skip
                  skip
                  skip
                  skip
                  refine fr_calv hm (fun _ h => fr_X11_goMonth (by first | rfl | assumption | (simp [SC]; done) | (simp [SC]; omega)) h) (fun m25 hm => ?_)
                  refine fr_b hm (fun x26 hm => ?_)
                  skip
                  cases hm
                  exact hi23 _ rfl
        · skip
          exact hk3 _ hm
set_option maxRecDepth 4000 in
theorem fr_X11_goPlan {m mm : Sg} {a1 : Int32} {a2 : Int32} {a3 : Int32} {a4 : Int32} {a5 : Int32} {R : Sg → Int32 → Int32 → Int32 → Int32 → Int32 → Option Sg} (hR : ∀ m a b c e f m1, R m a b c e f = some m1 → Fr SM m m1) (hm : f_X11_goPlan R  m a1 a2 a3 a4 a5 = some mm) : Fr SM m mm := by
  unfold f_X11_goPlan at hm
  skip
  skip
  refine fr_fi hm (fun hm => ?_) (fun hm => ?_)
  · skip
    skip
    refine g_lp (I := fun (s : Sg × Int32) => Fr SM s.1 mm) (E := fun (s : Sg) => Fr SM s mm) hm ?_ ?_
    · rintro m3 hm
      (try dsimp only at hm)
      (try dsimp only)
      exact fr_retv hm
    · rintro ⟨m1, x2⟩ o hm hx5 hi4
      (try dsimp only [f_X11_goPlan_L46] at hm)
      (try dsimp only)
      skip
      skip
      refine fr_if hm (fun hm => ?_) (fun hm => ?_)
      · skip
        cases hm
        exact hx5 _ rfl
      · skip
        skip
        skip
        refine fr_cal hm (fun _ _ h => fr_X11_rightOf (by first | rfl | assumption | (simp [SC]; done) | (simp [SC]; omega)) h) (fun x7 m6 hm => ?_)
        skip
        refine fr_cal hm (fun _ _ h => fr_X11_has h) (fun x9 m8 hm => ?_)
        refine g_jn (J := fun (s : Sg × Int32) => Fr SM s.1 mm) hm ?_ ?_
        · rintro ⟨m10, x11⟩ hm
          (try dsimp only at hm)
          (try dsimp only)
          skip
          skip
          skip
          refine g_lp (I := fun (s : Sg × Int32 × Int32) => Fr SM s.1 mm) (E := fun (s : Sg × Int32) => Fr SM s.1 mm) hm ?_ ?_
          · rintro ⟨m16, x17⟩ hm
            (try dsimp only at hm)
            (try dsimp only)
            skip
            refine g_jn (J := fun (s : Sg) => Fr SM s mm) hm ?_ ?_
            · intro m26 hm
              refine fr_b hm (fun x28 hm => ?_)
              skip
              cases hm
              exact hi4 _ rfl
            · intro k27 hk27 hm
              refine fr_fi hm (fun hm => ?_) (fun hm => ?_)
              · skip
                skip
                skip
                skip
                refine fr_st hm (by first | rfl | assumption | (simp [SC]; done) | (simp [SC]; omega)) (fun m29 hm => ?_)
                skip
                skip
                skip
                skip
                skip
                skip
                skip
                skip
                skip
                skip
                skip
                skip
                refine fr_calv hm (fun _ h => hR _ _ _ _ _ _ _ h) (fun m30 hm => ?_)
                skip
                exact hk27 _ hm
              · skip
                skip
                exact hk27 _ hm
          · rintro ⟨m13, x14, x15⟩ o hm hx19 hi18
            (try dsimp only [f_X11_goPlan_L98] at hm)
            (try dsimp only)
            skip
            skip
            refine fr_if hm (fun hm => ?_) (fun hm => ?_)
            · skip
              cases hm
              exact hx19 _ rfl
            · skip
              refine g_jn (J := fun (s : Sg × Int32) => Fr SM s.1 mm) hm ?_ ?_
              · rintro ⟨m20, x21⟩ hm
                (try dsimp only at hm)
                (try dsimp only)
                skip
                refine fr_b hm (fun x23 hm => ?_)
                skip
                cases hm
                exact hi18 _ rfl
              · intro k22 hk22 hm
                refine g_jn (J := fun (s : Sg) => Fr SM s mm) hm ?_ ?_
                · intro m24 hm
                  skip
                  exact hk22 _ hm
                · intro k25 hk25 hm
                  refine fr_if hm (fun hm => ?_) (fun hm => ?_)
                  · skip
                    exact hk25 _ hm
                  · skip
                    skip
                    skip
                    refine fr_n hm (fun hm => ?_)
                    skip
                    refine fr_if hm (fun hm => ?_) (fun hm => ?_)
                    · skip
                      exact hk25 _ hm
                    · skip
                      skip
                      skip
                      exact hk22 _ hm
        · intro k12 hk12 hm
          refine g_jn (J := fun (s : Sg) => Fr SM s mm) hm ?_ ?_
          · intro m31 hm
            skip
            exact hk12 _ hm
          · intro k32 hk32 hm
            refine fr_fi hm (fun hm => ?_) (fun hm => ?_)
            · exact hk32 _ hm
            · skip
              skip
              skip
              skip
              skip
              skip
              skip
              refine fr_n hm (fun hm => ?_)
              skip
              refine fr_cal hm (fun _ _ h => fr_X11_has h) (fun x34 m33 hm => ?_)
              refine fr_fi hm (fun hm => ?_) (fun hm => ?_)
              · exact hk32 _ hm
              · skip
                skip
                exact hk12 _ hm
  · skip
    skip
    skip
    skip
    refine fr_cal hm (fun _ _ h => fr_X11_reignBy h) (fun x36 m35 hm => ?_)
    skip
    skip
    skip
    skip
    refine fr_if hm (fun hm => ?_) (fun hm => ?_)
    · skip
      skip
      refine fr_wr hm (by first | rfl | assumption | (simp [SC]; done) | (simp [SC]; omega)) (fun m37 hm => ?_)
      skip
      skip
      refine fr_wr hm (by first | rfl | assumption | (simp [SC]; done) | (simp [SC]; omega)) (fun m38 hm => ?_)
      skip
      skip
      refine fr_wr hm (by first | rfl | assumption | (simp [SC]; done) | (simp [SC]; omega)) (fun m39 hm => ?_)
      exact fr_retv hm
    · exact fr_retv hm
theorem frecP : ∀ (n : Nat) (m : Sg) (a b c e f : Int32) (m1 : Sg), recP n m a b c e f = some m1 → Fr SM m m1
  | 0, m, a, b, c, e, f, m1, h => by cases h
  | n + 1, m, a, b, c, e, f, m1, h => fr_X11_goPlan (frecP n) h
set_option maxRecDepth 4000 in
theorem fr_X11_plan {m mm : Sg} {r : Int32} {a1 : Int32} {a2 : Int32} {a3 : Int32} (hm : f_X11_plan  m a1 a2 a3 = some (r, mm)) : Fr SM m mm := by
  unfold f_X11_plan at hm
  skip
  skip
  refine fr_wr hm (by first | rfl | assumption | (simp [SC]; done) | (simp [SC]; omega)) (fun m1 hm => ?_)
  skip
  skip
  refine fr_cal hm (fun _ _ h => fr_X11_isChild h) (fun x3 m2 hm => ?_)
  refine g_jn (J := fun (s : Sg) => Fr SM s mm) hm ?_ ?_
  · intro m4 hm
    skip
    exact fr_ret hm
  · intro k5 hk5 hm
    refine fr_if hm (fun hm => ?_) (fun hm => ?_)
    · skip
      exact hk5 _ hm
    · skip
      skip
      skip
      skip
      skip
      skip
      skip
      refine fr_n hm (fun hm => ?_)
      skip
      refine fr_fi hm (fun hm => ?_) (fun hm => ?_)
      · skip
        exact hk5 _ hm
      · skip
        skip
        skip
        skip
        refine fr_cal hm (fun _ _ h => fr_X11_isIn h) (fun x7 m6 hm => ?_)
        refine fr_if hm (fun hm => ?_) (fun hm => ?_)
        · skip
          exact hk5 _ hm
        · skip
          skip
          skip
          skip
          refine fr_cal hm (fun _ _ h => fr_X11_isIn h) (fun x9 m8 hm => ?_)
          refine fr_fi hm (fun hm => ?_) (fun hm => ?_)
          · skip
            skip
            refine fr_wr hm (by first | rfl | assumption | (simp [SC]; done) | (simp [SC]; omega)) (fun m10 hm => ?_)
            skip
            skip
            refine g_lp (I := fun (s : Sg × Int32) => Fr SM s.1 mm) (E := fun (s : Sg) => Fr SM s mm) hm ?_ ?_
            · rintro m13 hm
              (try dsimp only at hm)
              (try dsimp only)
              skip
              refine fr_fi hm (fun hm => ?_) (fun hm => ?_)
              · skip
                skip
                refine fr_fi hm (fun hm => ?_) (fun hm => ?_)
                · skip
                  skip
                  exact fr_ret hm
                · skip
                  skip
                  skip
                  exact fr_ret hm
              · skip
                skip
                refine fr_fi hm (fun hm => ?_) (fun hm => ?_)
                · skip
                  skip
                  exact fr_ret hm
                · skip
                  skip
                  exact fr_ret hm
            · rintro ⟨m11, x12⟩ o hm hx15 hi14
              (try dsimp only [f_X11_plan_L64] at hm)
              (try dsimp only)
              skip
              skip
              refine fr_if hm (fun hm => ?_) (fun hm => ?_)
              · skip
                cases hm
                exact hx15 _ rfl
              · skip
                skip
                skip
                skip
                skip
                skip
                refine fr_calv hm (fun _ h => frecP 5 _ _ _ _ _ _ _ h) (fun m16 hm => ?_)
                refine fr_b hm (fun x17 hm => ?_)
                skip
                cases hm
                exact hi14 _ rfl
          · skip
            exact hk5 _ hm
