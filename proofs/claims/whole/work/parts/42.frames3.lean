/-! what a mirror leaves alone, further -/
set_option maxRecDepth 4000 in
theorem fr_X11_thrown {S : Nat → Nat → Bool} {m mm : Sg} {r : Int32} (hm : f_X11_thrown  m  = some (r, mm)) : Fr S m mm := by
  unfold f_X11_thrown at hm
  exact fr_ret hm
set_option maxRecDepth 4000 in
theorem fr_X11_isIn {S : Nat → Nat → Bool} {m mm : Sg} {r : Int32} {a1 : Int64} {a2 : Int64} {a3 : Int64} (hm : f_X11_isIn  m a1 a2 a3 = some (r, mm)) : Fr S m mm := by
  unfold f_X11_isIn at hm
  refine fr_if hm (fun hm => ?_) (fun hm => ?_)
  · skip
    exact fr_ret hm
  · skip
    refine fr_if hm (fun hm => ?_) (fun hm => ?_)
    · skip
      exact fr_ret hm
    · skip
      exact fr_ret hm
set_option maxRecDepth 4000 in
theorem fr_X11_has {S : Nat → Nat → Bool} {m mm : Sg} {r : Int32} {a1 : Int32} {a2 : Int32} (hm : f_X11_has  m a1 a2 = some (r, mm)) : Fr S m mm := by
  unfold f_X11_has at hm
  refine fr_fi hm (fun hm => ?_) (fun hm => ?_)
  · skip
    exact fr_ret hm
  · skip
    exact fr_ret hm
set_option maxRecDepth 4000 in
theorem fr_X11_isAmong {S : Nat → Nat → Bool} {m mm : Sg} {r : Int32} {k : Nat} {a1 : Int32} (hm : f_X11_isAmong k m a1 = some (r, mm)) : Fr S m mm := by
  unfold f_X11_isAmong at hm
  refine g_lp (I := fun (s : Sg × Int32) => Fr S s.1 mm) (E := fun (x : (Sg) ⊕ (Sg)) => match x with | .inl m3 => Fr S m3 mm | .inr m4 => Fr S m4 mm) hm ?_ ?_
  · rintro (m3 | m4) hm
    · (try dsimp only at hm)
      (try dsimp only)
      exact fr_ret hm
    · (try dsimp only at hm)
      (try dsimp only)
      exact fr_ret hm
  · rintro ⟨m1, x2⟩ o hm hx6 hi5
    (try dsimp only [f_X11_isAmong_L2] at hm)
    (try dsimp only)
    refine fr_cal hm (fun _ _ h => fr_J0_length_8abf5 h) (fun x8 m7 hm => ?_)
    refine fr_if hm (fun hm => ?_) (fun hm => ?_)
    · skip
      cases hm
      exact hx6 _ rfl
    · skip
      refine fr_cal hm (fun _ _ h => fr_J0_charAt_5068e h) (fun x10 m9 hm => ?_)
      refine fr_fi hm (fun hm => ?_) (fun hm => ?_)
      · refine fr_b hm (fun x11 hm => ?_)
        cases hm
        exact hi5 _ rfl
      · skip
        cases hm
        exact hx6 _ rfl
set_option maxRecDepth 4000 in
theorem fr_X11_bytesIn {S : Nat → Nat → Bool} {m mm : Sg} {r : Int32} {a1 : Int32} (hm : f_X11_bytesIn  m a1 = some (r, mm)) : Fr S m mm := by
  unfold f_X11_bytesIn at hm
  refine g_lp (I := fun (s : Sg × Int32 × Int32) => Fr S s.1 mm) (E := fun (s : Sg × Int32) => Fr S s.1 mm) hm ?_ ?_
  · rintro ⟨m4, x5⟩ hm
    (try dsimp only at hm)
    (try dsimp only)
    exact fr_ret hm
  · rintro ⟨m1, x2, x3⟩ o hm hx7 hi6
    (try dsimp only [f_X11_bytesIn_L5] at hm)
    (try dsimp only)
    refine fr_if hm (fun hm => ?_) (fun hm => ?_)
    · skip
      cases hm
      exact hx7 _ rfl
    · skip
      refine g_jn (J := fun (s : Sg × Int32) => Fr S s.1 mm) hm ?_ ?_
      · rintro ⟨m8, x9⟩ hm
        (try dsimp only at hm)
        (try dsimp only)
        refine fr_b hm (fun x11 hm => ?_)
        refine fr_b hm (fun x12 hm => ?_)
        cases hm
        exact hi6 _ rfl
      · intro k10 hk10 hm
        refine fr_if hm (fun hm => ?_) (fun hm => ?_)
        · skip
          exact hk10 _ hm
        · skip
          exact hk10 _ hm
set_option maxRecDepth 4000 in
theorem fr_X11_put {S : Nat → Nat → Bool} {m mm : Sg} {a1 : Int32} (s_27_6 : S 27 6 = true) (s_28 : ∀ k, S 28 k = true) (hm : f_X11_put  m a1 = some mm) : Fr S m mm := by
  unfold f_X11_put at hm
  refine g_lp (I := fun (s : Sg × Int32) => Fr S s.1 mm) (E := fun (s : Sg) => Fr S s mm) hm ?_ ?_
  · rintro m3 hm
    (try dsimp only at hm)
    (try dsimp only)
    exact fr_retv hm
  · rintro ⟨m1, x2⟩ o hm hx5 hi4
    (try dsimp only [f_X11_put_L3] at hm)
    (try dsimp only)
    refine fr_if hm (fun hm => ?_) (fun hm => ?_)
    · skip
      cases hm
      exact hx5 _ rfl
    · skip
      refine g_jn (J := fun (s : Sg) => Fr S s mm) hm ?_ ?_
      · intro m6 hm
        refine fr_b hm (fun x8 hm => ?_)
        cases hm
        exact hi4 _ rfl
      · intro k7 hk7 hm
        refine fr_fi hm (fun hm => ?_) (fun hm => ?_)
        · skip
          refine fr_st hm (by first | exact s_28 _ | assumption) (fun m9 hm => ?_)
          refine fr_wr hm (by first | exact s_28 _ | assumption) (fun m10 hm => ?_)
          exact hk7 _ hm
        · skip
          exact hk7 _ hm
set_option maxRecDepth 4000 in
theorem fr_X11_feed {S : Nat → Nat → Bool} {m mm : Sg} {r : Int32} {a1 : Int32} {a2 : Int32} {a3 : Int32} {a4 : Int32} {a5 : Int32} (s_27_0 : S 27 0 = true) (s_27_6 : S 27 6 = true) (s_28 : ∀ k, S 28 k = true) (hm : f_X11_feed  m a1 a2 a3 a4 a5 = some (r, mm)) : Fr S m mm := by
  unfold f_X11_feed at hm
  refine fr_wr hm (by first | exact s_28 _ | assumption) (fun m1 hm => ?_)
  refine fr_cal hm (fun _ _ h => fr_X11_bytesIn h) (fun x3 m2 hm => ?_)
  refine fr_cal hm (fun _ _ h => fr_X11_bytesIn h) (fun x5 m4 hm => ?_)
  refine fr_cal hm (fun _ _ h => fr_X11_bytesIn h) (fun x7 m6 hm => ?_)
  refine fr_cal hm (fun _ _ h => fr_X11_bytesIn h) (fun x9 m8 hm => ?_)
  refine fr_cal hm (fun _ _ h => fr_X11_bytesIn h) (fun x11 m10 hm => ?_)
  refine fr_if hm (fun hm => ?_) (fun hm => ?_)
  · skip
    refine fr_calv hm (fun _ h => fr_X11_put (by first | exact s_28 _ | assumption) (by first | exact s_28 _ | assumption) h) (fun m12 hm => ?_)
    refine fr_calv hm (fun _ h => fr_X11_put (by first | exact s_28 _ | assumption) (by first | exact s_28 _ | assumption) h) (fun m13 hm => ?_)
    refine fr_calv hm (fun _ h => fr_X11_put (by first | exact s_28 _ | assumption) (by first | exact s_28 _ | assumption) h) (fun m14 hm => ?_)
    refine fr_calv hm (fun _ h => fr_X11_put (by first | exact s_28 _ | assumption) (by first | exact s_28 _ | assumption) h) (fun m15 hm => ?_)
    refine fr_calv hm (fun _ h => fr_X11_put (by first | exact s_28 _ | assumption) (by first | exact s_28 _ | assumption) h) (fun m16 hm => ?_)
    exact fr_ret hm
  · skip
    exact fr_ret hm
set_option maxRecDepth 4000 in
theorem fr_X11_end {S : Nat → Nat → Bool} {m mm : Sg} {r : Int32} {a1 : Int32} (s_27_0 : S 27 0 = true) (s_27_6 : S 27 6 = true) (hm : f_X11_end  m a1 = some (r, mm)) : Fr S m mm := by
  unfold f_X11_end at hm
  refine fr_wr hm (by first | assumption) (fun m1 hm => ?_)
  refine fr_if hm (fun hm => ?_) (fun hm => ?_)
  · skip
    exact fr_ret hm
  · skip
    refine fr_if hm (fun hm => ?_) (fun hm => ?_)
    · skip
      refine fr_wr hm (by first | assumption) (fun m2 hm => ?_)
      exact fr_ret hm
    · skip
      exact fr_ret hm
set_option maxRecDepth 4000 in
theorem fr_X11_look {S : Nat → Nat → Bool} {m mm : Sg} {r : Int32} (s_27_10 : S 27 10 = true) (hm : f_X11_look  m  = some (r, mm)) : Fr S m mm := by
  unfold f_X11_look at hm
  refine g_lp (I := fun (s : Sg) => Fr S s mm) (E := fun (s : Sg) => Fr S s mm) hm ?_ ?_
  · rintro m2 hm
    (try dsimp only at hm)
    (try dsimp only)
    refine fr_if hm (fun hm => ?_) (fun hm => ?_)
    · skip
      exact fr_ret hm
    · skip
      refine fr_n hm (fun hm => ?_)
      exact fr_ret hm
  · rintro m1 o hm hx4 hi3
    (try dsimp only [f_X11_look_L0] at hm)
    (try dsimp only)
    refine fr_if hm (fun hm => ?_) (fun hm => ?_)
    · cases hm
      exact hx4 _ rfl
    · skip
      refine fr_n hm (fun hm => ?_)
      refine fr_fi hm (fun hm => ?_) (fun hm => ?_)
      · cases hm
        exact hx4 _ rfl
      · skip
        refine fr_wr hm (by first | assumption) (fun m5 hm => ?_)
        cases hm
        exact hi3 _ rfl
set_option maxRecDepth 4000 in
theorem fr_X11_fails {S : Nat → Nat → Bool} {m mm : Sg} {r : Int32} (s_27_11 : S 27 11 = true) (hm : f_X11_fails  m  = some (r, mm)) : Fr S m mm := by
  unfold f_X11_fails at hm
  refine fr_fi hm (fun hm => ?_) (fun hm => ?_)
  · skip
    exact fr_ret hm
  · skip
    refine fr_wr hm (by first | assumption) (fun m1 hm => ?_)
    exact fr_ret hm
set_option maxRecDepth 4000 in
theorem fr_X11_goesIn {S : Nat → Nat → Bool} {m mm : Sg} {r : Int32} (s_27_10 : S 27 10 = true) (s_27_11 : S 27 11 = true) (s_27_12 : S 27 12 = true) (hm : f_X11_goesIn  m  = some (r, mm)) : Fr S m mm := by
  unfold f_X11_goesIn at hm
  refine fr_fi hm (fun hm => ?_) (fun hm => ?_)
  · skip
    refine fr_wr hm (by first | assumption) (fun m1 hm => ?_)
    refine fr_wr hm (by first | assumption) (fun m2 hm => ?_)
    exact fr_ret hm
  · skip
    refine fr_cal hm (fun _ _ h => fr_X11_fails (by first | assumption) h) (fun x4 m3 hm => ?_)
    exact fr_retz hm
set_option maxRecDepth 4000 in
theorem fr_X11_takes {S : Nat → Nat → Bool} {m mm : Sg} {r : Int32} {a1 : Int32} (s_27_10 : S 27 10 = true) (s_27_11 : S 27 11 = true) (hm : f_X11_takes  m a1 = some (r, mm)) : Fr S m mm := by
  unfold f_X11_takes at hm
  refine g_jn (J := fun (s : Sg) => Fr S s mm) hm ?_ ?_
  · intro m1 hm
    refine fr_cal hm (fun _ _ h => fr_X11_fails (by first | assumption) h) (fun x4 m3 hm => ?_)
    exact fr_retz hm
  · intro k2 hk2 hm
    refine fr_fi hm (fun hm => ?_) (fun hm => ?_)
    · skip
      exact hk2 _ hm
    · skip
      refine fr_cal hm (fun _ _ h => fr_X11_look (by first | assumption) h) (fun x6 m5 hm => ?_)
      refine fr_if hm (fun hm => ?_) (fun hm => ?_)
      · skip
        refine fr_wr hm (by first | assumption) (fun m7 hm => ?_)
        exact fr_ret hm
      · skip
        exact hk2 _ hm
set_option maxRecDepth 4000 in
theorem fr_X11_isDigit {S : Nat → Nat → Bool} {m mm : Sg} {r : Int32} (hm : f_X11_isDigit  m  = some (r, mm)) : Fr S m mm := by
  unfold f_X11_isDigit at hm
  refine fr_if hm (fun hm => ?_) (fun hm => ?_)
  · skip
    exact fr_ret hm
  · skip
    refine fr_n hm (fun hm => ?_)
    refine fr_if hm (fun hm => ?_) (fun hm => ?_)
    · skip
      exact fr_ret hm
    · skip
      refine fr_n hm (fun hm => ?_)
      refine fr_if hm (fun hm => ?_) (fun hm => ?_)
      · skip
        exact fr_ret hm
      · skip
        exact fr_ret hm
set_option maxRecDepth 4000 in
theorem fr_X11_within {S : Nat → Nat → Bool} {m mm : Sg} {r : Int32} {a1 : Int64} (hm : f_X11_within  m a1 = some (r, mm)) : Fr S m mm := by
  unfold f_X11_within at hm
  exact fr_ret hm
set_option maxRecDepth 4000 in
theorem fr_X11_isSign {S : Nat → Nat → Bool} {m mm : Sg} {r : Int32} {a1 : Int32} (hm : f_X11_isSign  m a1 = some (r, mm)) : Fr S m mm := by
  unfold f_X11_isSign at hm
  refine g_jn (J := fun (s : Sg) => Fr S s mm) hm ?_ ?_
  · intro m1 hm
    exact fr_ret hm
  · intro k2 hk2 hm
    refine fr_if hm (fun hm => ?_) (fun hm => ?_)
    · skip
      exact hk2 _ hm
    · skip
      refine fr_if hm (fun hm => ?_) (fun hm => ?_)
      · skip
        exact hk2 _ hm
      · skip
        refine fr_fi hm (fun hm => ?_) (fun hm => ?_)
        · skip
          exact fr_ret hm
        · skip
          exact hk2 _ hm
set_option maxRecDepth 4000 in
theorem fr_X11_atom {S : Nat → Nat → Bool} {m mm : Sg} {r : Int32} {R : Nat → Sg → Int32 → Int32 → Option (Int32 × Sg)} (hR : ∀ t m a b r m1, R t m a b = some (r, m1) → Fr S m m1) (s_27_10 : S 27 10 = true) (s_27_11 : S 27 11 = true) (s_27_12 : S 27 12 = true) (hm : f_X11_atom R  m  = some (r, mm)) : Fr S m mm := by
  unfold f_X11_atom at hm
  refine fr_cal hm (fun _ _ h => fr_X11_look (by first | assumption) h) (fun x2 m1 hm => ?_)
  refine fr_cal hm (fun _ _ h => fr_X11_isAmong h) (fun x4 m3 hm => ?_)
  refine fr_if hm (fun hm => ?_) (fun hm => ?_)
  · skip
    refine fr_fi hm (fun hm => ?_) (fun hm => ?_)
    · skip
      refine fr_cal hm (fun _ _ h => fr_X11_isDigit h) (fun x6 m5 hm => ?_)
      refine g_jn (J := fun (s : Sg) => Fr S s mm) hm ?_ ?_
      · intro m7 hm
        refine g_lp (I := fun (s : Sg × Int32 × Int32) => Fr S s.1 mm) (E := fun (x : (Sg) ⊕ (Sg × Int32)) => match x with | .inl m12 => Fr S m12 mm | .inr (m13, x14) => Fr S m13 mm) hm ?_ ?_
        · rintro (m12 | ⟨m13, x14⟩) hm
          · (try dsimp only at hm)
            (try dsimp only)
            refine fr_cal hm (fun _ _ h => fr_X11_fails (by first | assumption) h) (fun x23 m22 hm => ?_)
            exact fr_ret hm
          · (try dsimp only at hm)
            (try dsimp only)
            exact fr_ret hm
        · rintro ⟨m9, x10, x11⟩ o hm hx16 hi15
          (try dsimp only [f_X11_atom_L90] at hm)
          (try dsimp only)
          refine fr_cal hm (fun _ _ h => fr_X11_isDigit h) (fun x18 m17 hm => ?_)
          refine fr_if hm (fun hm => ?_) (fun hm => ?_)
          · skip
            cases hm
            exact hx16 _ rfl
          · skip
            refine fr_fi hm (fun hm => ?_) (fun hm => ?_)
            · skip
              cases hm
              exact hx16 _ rfl
            · skip
              refine fr_fi hm (fun hm => ?_) (fun hm => ?_)
              · skip
                refine fr_n hm (fun hm => ?_)
                refine fr_b hm (fun x19 hm => ?_)
                refine fr_wr hm (by first | assumption) (fun m20 hm => ?_)
                refine fr_b hm (fun x21 hm => ?_)
                cases hm
                exact hi15 _ rfl
              · skip
                cases hm
                exact hx16 _ rfl
      · intro k8 hk8 hm
        refine fr_fi hm (fun hm => ?_) (fun hm => ?_)
        · skip
          exact hk8 _ hm
        · skip
          refine fr_cal hm (fun _ _ h => fr_X11_fails (by first | assumption) h) (fun x25 m24 hm => ?_)
          exact hk8 _ hm
    · skip
      refine fr_cal hm (fun _ _ h => fr_X11_goesIn (by first | assumption) (by first | assumption) (by first | assumption) h) (fun x27 m26 hm => ?_)
      refine fr_fi hm (fun hm => ?_) (fun hm => ?_)
      · skip
        refine fr_cal hm (fun _ _ h => hR _ _ _ _ _ _ h) (fun x29 m28 hm => ?_)
        refine fr_cal hm (fun _ _ h => fr_X11_takes (by first | assumption) (by first | assumption) h) (fun x31 m30 hm => ?_)
        refine fr_fi hm (fun hm => ?_) (fun hm => ?_)
        · skip
          refine fr_wr hm (by first | assumption) (fun m32 hm => ?_)
          exact fr_ret hm
        · skip
          exact fr_ret hm
      · skip
        exact fr_ret hm
  · skip
    refine fr_wr hm (by first | assumption) (fun m33 hm => ?_)
    refine fr_n hm (fun hm => ?_)
    exact fr_ret hm
set_option maxRecDepth 4000 in
theorem fr_X11_term {S : Nat → Nat → Bool} {m mm : Sg} {r : Int32} {R : Nat → Sg → Int32 → Int32 → Option (Int32 × Sg)} (hR : ∀ t m a b r m1, R t m a b = some (r, m1) → Fr S m m1) (s_27_10 : S 27 10 = true) (hm : f_X11_term R  m  = some (r, mm)) : Fr S m mm := by
  unfold f_X11_term at hm
  refine fr_cal hm (fun _ _ h => hR _ _ _ _ _ _ h) (fun x2 m1 hm => ?_)
  refine g_lp (I := fun (s : Sg × Int32) => Fr S s.1 mm) (E := fun (s : Sg × Int32) => Fr S s.1 mm) hm ?_ ?_
  · rintro ⟨m5, x6⟩ hm
    (try dsimp only at hm)
    (try dsimp only)
    exact fr_ret hm
  · rintro ⟨m3, x4⟩ o hm hx8 hi7
    (try dsimp only [f_X11_term_L5] at hm)
    (try dsimp only)
    refine fr_fi hm (fun hm => ?_) (fun hm => ?_)
    · skip
      cases hm
      exact hx8 _ rfl
    · skip
      refine fr_cal hm (fun _ _ h => fr_X11_look (by first | assumption) h) (fun x10 m9 hm => ?_)
      refine g_jn (J := fun (s : Sg) => Fr S s mm) hm ?_ ?_
      · intro m11 hm
        refine fr_cal hm (fun _ _ h => fr_X11_look (by first | assumption) h) (fun x14 m13 hm => ?_)
        refine g_jn (J := fun (s : Sg × Int32) => Fr S s.1 mm) hm ?_ ?_
        · rintro ⟨m15, x16⟩ hm
          (try dsimp only at hm)
          (try dsimp only)
          refine fr_wr hm (by first | assumption) (fun m18 hm => ?_)
          refine fr_cal hm (fun _ _ h => hR _ _ _ _ _ _ h) (fun x20 m19 hm => ?_)
          refine fr_b hm (fun x21 hm => ?_)
          refine g_jn (J := fun (s : Sg × Int64) => Fr S s.1 mm) hm ?_ ?_
          · rintro ⟨m22, x23⟩ hm
            (try dsimp only at hm)
            (try dsimp only)
            refine fr_cal hm (fun _ _ h => fr_X11_within h) (fun x26 m25 hm => ?_)
            cases hm
            exact hi7 _ rfl
          · intro k24 hk24 hm
            refine fr_if hm (fun hm => ?_) (fun hm => ?_)
            · skip
              refine fr_fi hm (fun hm => ?_) (fun hm => ?_)
              · skip
                refine fr_n hm (fun hm => ?_)
                exact hk24 _ hm
              · skip
                exact hk24 _ hm
            · skip
              exact hk24 _ hm
        · intro k17 hk17 hm
          refine fr_fi hm (fun hm => ?_) (fun hm => ?_)
          · skip
            exact hk17 _ hm
          · skip
            exact hk17 _ hm
      · intro k12 hk12 hm
        refine fr_if hm (fun hm => ?_) (fun hm => ?_)
        · exact hk12 _ hm
        · skip
          refine fr_cal hm (fun _ _ h => fr_X11_look (by first | assumption) h) (fun x28 m27 hm => ?_)
          refine fr_fi hm (fun hm => ?_) (fun hm => ?_)
          · skip
            cases hm
            exact hx8 _ rfl
          · exact hk12 _ hm
set_option maxRecDepth 4000 in
theorem fr_X11_sum {S : Nat → Nat → Bool} {m mm : Sg} {r : Int32} {R : Nat → Sg → Int32 → Int32 → Option (Int32 × Sg)} (hR : ∀ t m a b r m1, R t m a b = some (r, m1) → Fr S m m1) (s_27_10 : S 27 10 = true) (hm : f_X11_sum R  m  = some (r, mm)) : Fr S m mm := by
  unfold f_X11_sum at hm
  refine fr_cal hm (fun _ _ h => hR _ _ _ _ _ _ h) (fun x2 m1 hm => ?_)
  refine g_lp (I := fun (s : Sg × Int32) => Fr S s.1 mm) (E := fun (s : Sg × Int32) => Fr S s.1 mm) hm ?_ ?_
  · rintro ⟨m5, x6⟩ hm
    (try dsimp only at hm)
    (try dsimp only)
    exact fr_ret hm
  · rintro ⟨m3, x4⟩ o hm hx8 hi7
    (try dsimp only [f_X11_sum_L5] at hm)
    (try dsimp only)
    refine fr_fi hm (fun hm => ?_) (fun hm => ?_)
    · skip
      cases hm
      exact hx8 _ rfl
    · skip
      refine fr_cal hm (fun _ _ h => fr_X11_look (by first | assumption) h) (fun x10 m9 hm => ?_)
      refine g_jn (J := fun (s : Sg) => Fr S s mm) hm ?_ ?_
      · intro m11 hm
        refine fr_cal hm (fun _ _ h => fr_X11_look (by first | assumption) h) (fun x14 m13 hm => ?_)
        refine g_jn (J := fun (s : Sg × Int32) => Fr S s.1 mm) hm ?_ ?_
        · rintro ⟨m15, x16⟩ hm
          (try dsimp only at hm)
          (try dsimp only)
          refine fr_wr hm (by first | assumption) (fun m18 hm => ?_)
          refine fr_cal hm (fun _ _ h => hR _ _ _ _ _ _ h) (fun x20 m19 hm => ?_)
          refine fr_b hm (fun x21 hm => ?_)
          refine g_jn (J := fun (s : Sg × Int64) => Fr S s.1 mm) hm ?_ ?_
          · rintro ⟨m22, x23⟩ hm
            (try dsimp only at hm)
            (try dsimp only)
            refine fr_cal hm (fun _ _ h => fr_X11_within h) (fun x26 m25 hm => ?_)
            cases hm
            exact hi7 _ rfl
          · intro k24 hk24 hm
            refine fr_if hm (fun hm => ?_) (fun hm => ?_)
            · skip
              exact hk24 _ hm
            · skip
              exact hk24 _ hm
        · intro k17 hk17 hm
          refine fr_fi hm (fun hm => ?_) (fun hm => ?_)
          · skip
            exact hk17 _ hm
          · skip
            exact hk17 _ hm
      · intro k12 hk12 hm
        refine fr_if hm (fun hm => ?_) (fun hm => ?_)
        · exact hk12 _ hm
        · skip
          refine fr_cal hm (fun _ _ h => fr_X11_look (by first | assumption) h) (fun x28 m27 hm => ?_)
          refine fr_fi hm (fun hm => ?_) (fun hm => ?_)
          · skip
            cases hm
            exact hx8 _ rfl
          · exact hk12 _ hm
set_option maxRecDepth 4000 in
theorem fr_X11_compares {S : Nat → Nat → Bool} {m mm : Sg} {r : Int32} {a1 : Int32} {a2 : Int32} {R : Nat → Sg → Int32 → Int32 → Option (Int32 × Sg)} (hR : ∀ t m a b r m1, R t m a b = some (r, m1) → Fr S m m1) (s_27_10 : S 27 10 = true) (s_27_11 : S 27 11 = true) (hm : f_X11_compares R  m a1 a2 = some (r, mm)) : Fr S m mm := by
  unfold f_X11_compares at hm
  refine g_jn (J := fun (s : Sg × Int32) => Fr S s.1 mm) hm ?_ ?_
  · rintro ⟨m1, x2⟩ hm
    (try dsimp only at hm)
    (try dsimp only)
    refine fr_if hm (fun hm => ?_) (fun hm => ?_)
    · skip
      refine fr_cal hm (fun _ _ h => fr_X11_look (by first | assumption) h) (fun x5 m4 hm => ?_)
      refine fr_cal hm (fun _ _ h => fr_X11_isSign h) (fun x7 m6 hm => ?_)
      refine fr_fi hm (fun hm => ?_) (fun hm => ?_)
      · skip
        refine fr_wr hm (by first | assumption) (fun m8 hm => ?_)
        refine fr_cal hm (fun _ _ h => hR _ _ _ _ _ _ h) (fun x10 m9 hm => ?_)
        refine fr_fi hm (fun hm => ?_) (fun hm => ?_)
        · skip
          refine fr_fi hm (fun hm => ?_) (fun hm => ?_)
          · skip
            refine fr_if hm (fun hm => ?_) (fun hm => ?_)
            · skip
              exact fr_ret hm
            · skip
              exact fr_ret hm
          · skip
            refine fr_if hm (fun hm => ?_) (fun hm => ?_)
            · skip
              exact fr_ret hm
            · skip
              exact fr_ret hm
        · skip
          refine fr_fi hm (fun hm => ?_) (fun hm => ?_)
          · skip
            exact fr_ret hm
          · skip
            exact fr_ret hm
      · skip
        refine fr_cal hm (fun _ _ h => fr_X11_fails (by first | assumption) h) (fun x12 m11 hm => ?_)
        exact fr_retz hm
    · skip
      exact fr_ret hm
  · intro k3 hk3 hm
    refine fr_if hm (fun hm => ?_) (fun hm => ?_)
    · skip
      refine fr_cal hm (fun _ _ h => hR _ _ _ _ _ _ h) (fun x14 m13 hm => ?_)
      exact hk3 _ hm
    · skip
      exact hk3 _ hm
set_option maxRecDepth 4000 in
theorem fr_X11_unit {S : Nat → Nat → Bool} {m mm : Sg} {r : Int32} {R : Nat → Sg → Int32 → Int32 → Option (Int32 × Sg)} (hR : ∀ t m a b r m1, R t m a b = some (r, m1) → Fr S m m1) (s_27_10 : S 27 10 = true) (s_27_11 : S 27 11 = true) (s_27_12 : S 27 12 = true) (hm : f_X11_unit R  m  = some (r, mm)) : Fr S m mm := by
  unfold f_X11_unit at hm
  refine fr_cal hm (fun _ _ h => fr_X11_look (by first | assumption) h) (fun x2 m1 hm => ?_)
  refine fr_fi hm (fun hm => ?_) (fun hm => ?_)
  · skip
    refine fr_fi hm (fun hm => ?_) (fun hm => ?_)
    · skip
      refine fr_cal hm (fun _ _ h => hR _ _ _ _ _ _ h) (fun x4 m3 hm => ?_)
      exact fr_retz hm
    · skip
      refine fr_cal hm (fun _ _ h => fr_X11_goesIn (by first | assumption) (by first | assumption) (by first | assumption) h) (fun x6 m5 hm => ?_)
      refine fr_fi hm (fun hm => ?_) (fun hm => ?_)
      · skip
        refine fr_cal hm (fun _ _ h => hR _ _ _ _ _ _ h) (fun x8 m7 hm => ?_)
        refine fr_cal hm (fun _ _ h => fr_X11_takes (by first | assumption) (by first | assumption) h) (fun x10 m9 hm => ?_)
        refine fr_fi hm (fun hm => ?_) (fun hm => ?_)
        · skip
          refine fr_wr hm (by first | assumption) (fun m11 hm => ?_)
          exact fr_retz hm
        · skip
          exact fr_ret hm
      · skip
        exact fr_ret hm
  · skip
    refine fr_cal hm (fun _ _ h => fr_X11_goesIn (by first | assumption) (by first | assumption) (by first | assumption) h) (fun x13 m12 hm => ?_)
    refine fr_fi hm (fun hm => ?_) (fun hm => ?_)
    · skip
      refine fr_cal hm (fun _ _ h => hR _ _ _ _ _ _ h) (fun x15 m14 hm => ?_)
      refine fr_wr hm (by first | assumption) (fun m16 hm => ?_)
      refine fr_fi hm (fun hm => ?_) (fun hm => ?_)
      · skip
        exact fr_ret hm
      · skip
        exact fr_ret hm
    · skip
      exact fr_ret hm
set_option maxRecDepth 4000 in
theorem fr_X11_part {S : Nat → Nat → Bool} {m mm : Sg} {r : Int32} {a1 : Int32} {a2 : Int32} {R : Nat → Sg → Int32 → Int32 → Option (Int32 × Sg)} (hR : ∀ t m a b r m1, R t m a b = some (r, m1) → Fr S m m1) (s_27_10 : S 27 10 = true) (hm : f_X11_part R  m a1 a2 = some (r, mm)) : Fr S m mm := by
  unfold f_X11_part at hm
  refine g_jn (J := fun (s : Sg × Int32) => Fr S s.1 mm) hm ?_ ?_
  · rintro ⟨m1, x2⟩ hm
    (try dsimp only at hm)
    (try dsimp only)
    refine g_lp (I := fun (s : Sg × Int32) => Fr S s.1 mm) (E := fun (s : Sg × Int32) => Fr S s.1 mm) hm ?_ ?_
    · rintro ⟨m6, x7⟩ hm
      (try dsimp only at hm)
      (try dsimp only)
      exact fr_retz hm
    · rintro ⟨m4, x5⟩ o hm hx9 hi8
      (try dsimp only [f_X11_part_L18] at hm)
      (try dsimp only)
      refine fr_fi hm (fun hm => ?_) (fun hm => ?_)
      · skip
        cases hm
        exact hx9 _ rfl
      · skip
        refine fr_cal hm (fun _ _ h => fr_X11_look (by first | assumption) h) (fun x11 m10 hm => ?_)
        refine fr_fi hm (fun hm => ?_) (fun hm => ?_)
        · skip
          cases hm
          exact hx9 _ rfl
        · skip
          refine fr_wr hm (by first | assumption) (fun m12 hm => ?_)
          refine fr_cal hm (fun _ _ h => hR _ _ _ _ _ _ h) (fun x14 m13 hm => ?_)
          refine g_jn (J := fun (s : Sg × Int32) => Fr S s.1 mm) hm ?_ ?_
          · rintro ⟨m15, x16⟩ hm
            (try dsimp only at hm)
            (try dsimp only)
            cases hm
            exact hi8 _ rfl
          · intro k17 hk17 hm
            refine g_jn (J := fun (s : Sg) => Fr S s mm) hm ?_ ?_
            · intro m18 hm
              exact hk17 _ hm
            · intro k19 hk19 hm
              refine fr_if hm (fun hm => ?_) (fun hm => ?_)
              · skip
                exact hk19 _ hm
              · skip
                refine fr_if hm (fun hm => ?_) (fun hm => ?_)
                · skip
                  exact hk19 _ hm
                · skip
                  exact hk17 _ hm
  · intro k3 hk3 hm
    refine fr_if hm (fun hm => ?_) (fun hm => ?_)
    · skip
      refine fr_cal hm (fun _ _ h => hR _ _ _ _ _ _ h) (fun x21 m20 hm => ?_)
      exact hk3 _ hm
    · skip
      refine fr_cal hm (fun _ _ h => hR _ _ _ _ _ _ h) (fun x23 m22 hm => ?_)
      exact hk3 _ hm
set_option maxRecDepth 4000 in
theorem fr_X11_condition {S : Nat → Nat → Bool} {m mm : Sg} {r : Int32} {a1 : Int32} {a2 : Int32} {R : Nat → Sg → Int32 → Int32 → Option (Int32 × Sg)} (hR : ∀ t m a b r m1, R t m a b = some (r, m1) → Fr S m m1) (s_27_10 : S 27 10 = true) (hm : f_X11_condition R  m a1 a2 = some (r, mm)) : Fr S m mm := by
  unfold f_X11_condition at hm
  refine fr_cal hm (fun _ _ h => hR _ _ _ _ _ _ h) (fun x2 m1 hm => ?_)
  refine g_lp (I := fun (s : Sg × Int32) => Fr S s.1 mm) (E := fun (s : Sg × Int32) => Fr S s.1 mm) hm ?_ ?_
  · rintro ⟨m5, x6⟩ hm
    (try dsimp only at hm)
    (try dsimp only)
    exact fr_retz hm
  · rintro ⟨m3, x4⟩ o hm hx8 hi7
    (try dsimp only [f_X11_condition_L7] at hm)
    (try dsimp only)
    refine fr_fi hm (fun hm => ?_) (fun hm => ?_)
    · skip
      cases hm
      exact hx8 _ rfl
    · skip
      refine fr_cal hm (fun _ _ h => fr_X11_look (by first | assumption) h) (fun x10 m9 hm => ?_)
      refine fr_fi hm (fun hm => ?_) (fun hm => ?_)
      · skip
        cases hm
        exact hx8 _ rfl
      · skip
        refine fr_wr hm (by first | assumption) (fun m11 hm => ?_)
        refine fr_cal hm (fun _ _ h => hR _ _ _ _ _ _ h) (fun x13 m12 hm => ?_)
        refine g_jn (J := fun (s : Sg × Int32) => Fr S s.1 mm) hm ?_ ?_
        · rintro ⟨m14, x15⟩ hm
          (try dsimp only at hm)
          (try dsimp only)
          cases hm
          exact hi7 _ rfl
        · intro k16 hk16 hm
          refine g_jn (J := fun (s : Sg) => Fr S s mm) hm ?_ ?_
          · intro m17 hm
            exact hk16 _ hm
          · intro k18 hk18 hm
            refine fr_fi hm (fun hm => ?_) (fun hm => ?_)
            · skip
              exact hk18 _ hm
            · skip
              refine fr_if hm (fun hm => ?_) (fun hm => ?_)
              · skip
                exact hk16 _ hm
              · skip
                exact hk18 _ hm
theorem frec11 {S : Nat → Nat → Bool} (s_27_10 : S 27 10 = true) (s_27_11 : S 27 11 = true) (s_27_12 : S 27 12 = true) : ∀ (n t : Nat) (m : Sg) (a b r : Int32) (m1 : Sg), rec11 n t m a b = some (r, m1) → Fr S m m1
  | 0, t, m, a, b, r, m1, h => by cases h
  | n + 1, 0, m, a, b, r, m1, h => fr_X11_atom (frec11 s_27_10 s_27_11 s_27_12 n) (by assumption) (by assumption) (by assumption) h
  | n + 1, 1, m, a, b, r, m1, h => fr_X11_term (frec11 s_27_10 s_27_11 s_27_12 n) (by assumption) h
  | n + 1, 2, m, a, b, r, m1, h => fr_X11_sum (frec11 s_27_10 s_27_11 s_27_12 n) (by assumption) h
  | n + 1, 3, m, a, b, r, m1, h => fr_X11_compares (frec11 s_27_10 s_27_11 s_27_12 n) (by assumption) (by assumption) h
  | n + 1, 4, m, a, b, r, m1, h => fr_X11_unit (frec11 s_27_10 s_27_11 s_27_12 n) (by assumption) (by assumption) (by assumption) h
  | n + 1, 5, m, a, b, r, m1, h => fr_X11_part (frec11 s_27_10 s_27_11 s_27_12 n) (by assumption) h
  | n + 1, 6, m, a, b, r, m1, h => fr_X11_condition (frec11 s_27_10 s_27_11 s_27_12 n) (by assumption) h
  | n + 1, t + 7, m, a, b, r, m1, h => by cases h
set_option maxRecDepth 4000 in
theorem fr_X11_clause {S : Nat → Nat → Bool} {m mm : Sg} (s_27_10 : S 27 10 = true) (s_27_11 : S 27 11 = true) (s_27_12 : S 27 12 = true) (s_27_14 : S 27 14 = true) (s_27_17 : S 27 17 = true) (hm : f_X11_clause  m  = some mm) : Fr S m mm := by
  unfold f_X11_clause at hm
  refine fr_cal hm (fun _ _ h => fr_X11_look (by first | assumption) h) (fun x2 m1 hm => ?_)
  refine fr_cal hm (fun _ _ h => fr_X11_isAmong h) (fun x4 m3 hm => ?_)
  refine fr_fi hm (fun hm => ?_) (fun hm => ?_)
  · skip
    refine fr_wr hm (by first | assumption) (fun m5 hm => ?_)
    refine fr_cal hm (fun _ _ h => fr_X11_takes (by first | assumption) (by first | assumption) h) (fun x7 m6 hm => ?_)
    refine fr_fi hm (fun hm => ?_) (fun hm => ?_)
    · skip
      refine fr_cal hm (fun _ _ h => fr_X11_look (by first | assumption) h) (fun x9 m8 hm => ?_)
      refine g_jn (J := fun (s : Sg × Int32 × Int32) => Fr S s.1 mm) hm ?_ ?_
      · rintro ⟨m10, x11, x12⟩ hm
        (try dsimp only at hm)
        (try dsimp only)
        refine fr_fi hm (fun hm => ?_) (fun hm => ?_)
        · exact fr_retv hm
        · skip
          refine fr_fi hm (fun hm => ?_) (fun hm => ?_)
          · exact fr_retv hm
          · skip
            refine fr_fi hm (fun hm => ?_) (fun hm => ?_)
            · exact fr_retv hm
            · skip
              refine fr_fi hm (fun hm => ?_) (fun hm => ?_)
              · skip
                refine fr_wr hm (by first | assumption) (fun m14 hm => ?_)
                refine fr_wr hm (by first | assumption) (fun m15 hm => ?_)
                exact fr_retv hm
              · exact fr_retv hm
      · intro k13 hk13 hm
        refine g_jn (J := fun (s : Sg) => Fr S s mm) hm ?_ ?_
        · intro m16 hm
          refine fr_cal hm (fun _ _ h => frec11 (by assumption) (by assumption) (by assumption) 64 _ _ _ _ _ _ h) (fun x19 m18 hm => ?_)
          refine fr_cal hm (fun _ _ h => fr_X11_takes (by first | assumption) (by first | assumption) h) (fun x21 m20 hm => ?_)
          refine fr_fi hm (fun hm => ?_) (fun hm => ?_)
          · skip
            refine fr_cal hm (fun _ _ h => frec11 (by assumption) (by assumption) (by assumption) 64 _ _ _ _ _ _ h) (fun x23 m22 hm => ?_)
            exact hk13 _ hm
          · exact fr_retv hm
        · intro k17 hk17 hm
          refine fr_if hm (fun hm => ?_) (fun hm => ?_)
          · skip
            exact hk17 _ hm
          · skip
            refine fr_fi hm (fun hm => ?_) (fun hm => ?_)
            · skip
              refine fr_cal hm (fun _ _ h => frec11 (by assumption) (by assumption) (by assumption) 64 _ _ _ _ _ _ h) (fun x25 m24 hm => ?_)
              refine fr_fi hm (fun hm => ?_) (fun hm => ?_)
              · skip
                exact hk13 _ hm
              · skip
                refine fr_cal hm (fun _ _ h => fr_X11_look (by first | assumption) h) (fun x27 m26 hm => ?_)
                refine fr_cal hm (fun _ _ h => fr_X11_isSign h) (fun x29 m28 hm => ?_)
                refine fr_if hm (fun hm => ?_) (fun hm => ?_)
                · skip
                  exact hk13 _ hm
                · skip
                  refine fr_cal hm (fun _ _ h => frec11 (by assumption) (by assumption) (by assumption) 64 _ _ _ _ _ _ h) (fun x31 m30 hm => ?_)
                  refine fr_cal hm (fun _ _ h => fr_X11_takes (by first | assumption) (by first | assumption) h) (fun x33 m32 hm => ?_)
                  refine fr_fi hm (fun hm => ?_) (fun hm => ?_)
                  · skip
                    refine fr_cal hm (fun _ _ h => frec11 (by assumption) (by assumption) (by assumption) 64 _ _ _ _ _ _ h) (fun x35 m34 hm => ?_)
                    exact hk13 _ hm
                  · exact fr_retv hm
            · skip
              exact hk17 _ hm
    · exact fr_retv hm
  · skip
    refine fr_cal hm (fun _ _ h => fr_X11_fails (by first | assumption) h) (fun x37 m36 hm => ?_)
    exact fr_retv hm
set_option maxRecDepth 4000 in
theorem fr_X11_starts {S : Nat → Nat → Bool} {m mm : Sg} {z : Int32} {a1 : Int32} {a2 : Int32} (s_27_5 : S 27 5 = true) (s_27_8 : S 27 8 = true) (s_27_9 : S 27 9 = true) (s_27_10 : S 27 10 = true) (s_27_11 : S 27 11 = true) (hm : f_X11_starts z m a1 a2 = some mm) : Fr S m mm := by
  unfold f_X11_starts at hm
  refine fr_wr hm (by first | assumption) (fun m1 hm => ?_)
  refine fr_wr hm (by first | assumption) (fun m2 hm => ?_)
  refine fr_wr hm (by first | assumption) (fun m3 hm => ?_)
  refine fr_wr hm (by first | assumption) (fun m4 hm => ?_)
  refine fr_wr hm (by first | assumption) (fun m5 hm => ?_)
  exact fr_retv hm
set_option maxRecDepth 4000 in
theorem fr_X11_goThrough {S : Nat → Nat → Bool} {m mm : Sg} {z : Int32} {a1 : Int32} {a2 : Int32} (s_27_5 : S 27 5 = true) (s_27_8 : S 27 8 = true) (s_27_9 : S 27 9 = true) (s_27_10 : S 27 10 = true) (s_27_11 : S 27 11 = true) (s_27_12 : S 27 12 = true) (s_27_13 : S 27 13 = true) (s_27_14 : S 27 14 = true) (s_27_17 : S 27 17 = true) (hm : f_X11_goThrough z m a1 a2 = some mm) : Fr S m mm := by
  unfold f_X11_goThrough at hm
  refine fr_calv hm (fun _ h => fr_X11_starts (by first | assumption) (by first | assumption) (by first | assumption) (by first | assumption) (by first | assumption) h) (fun m1 hm => ?_)
  refine fr_wr hm (by first | assumption) (fun m2 hm => ?_)
  refine fr_wr hm (by first | assumption) (fun m3 hm => ?_)
  refine fr_wr hm (by first | assumption) (fun m4 hm => ?_)
  refine fr_wr hm (by first | assumption) (fun m5 hm => ?_)
  refine fr_calv hm (fun _ h => fr_X11_clause (by first | assumption) (by first | assumption) (by first | assumption) (by first | assumption) (by first | assumption) h) (fun m6 hm => ?_)
  refine g_lp (I := fun (s : Sg) => Fr S s mm) (E := fun (s : Sg) => Fr S s mm) hm ?_ ?_
  · rintro m8 hm
    (try dsimp only at hm)
    (try dsimp only)
    refine fr_fi hm (fun hm => ?_) (fun hm => ?_)
    · exact fr_retv hm
    · skip
      refine fr_cal hm (fun _ _ h => fr_X11_look (by first | assumption) h) (fun x16 m15 hm => ?_)
      refine fr_if hm (fun hm => ?_) (fun hm => ?_)
      · exact fr_retv hm
      · skip
        refine fr_cal hm (fun _ _ h => fr_X11_fails (by first | assumption) h) (fun x18 m17 hm => ?_)
        exact fr_retv hm
  · rintro m7 o hm hx10 hi9
    (try dsimp only [f_X11_goThrough_L32] at hm)
    (try dsimp only)
    refine fr_fi hm (fun hm => ?_) (fun hm => ?_)
    · cases hm
      exact hx10 _ rfl
    · skip
      refine fr_cal hm (fun _ _ h => fr_X11_look (by first | assumption) h) (fun x12 m11 hm => ?_)
      refine fr_fi hm (fun hm => ?_) (fun hm => ?_)
      · cases hm
        exact hx10 _ rfl
      · skip
        refine fr_wr hm (by first | assumption) (fun m13 hm => ?_)
        refine fr_calv hm (fun _ h => fr_X11_clause (by first | assumption) (by first | assumption) (by first | assumption) (by first | assumption) (by first | assumption) h) (fun m14 hm => ?_)
        cases hm
        exact hi9 _ rfl
set_option maxRecDepth 4000 in
theorem fr_X11_here {S : Nat → Nat → Bool} {m mm : Sg} {r : Int32} (hm : f_X11_here  m  = some (r, mm)) : Fr S m mm := by
  unfold f_X11_here at hm
  refine fr_if hm (fun hm => ?_) (fun hm => ?_)
  · skip
    exact fr_ret hm
  · skip
    refine fr_n hm (fun hm => ?_)
    exact fr_ret hm
set_option maxRecDepth 4000 in
theorem fr_X11_spotOf {S : Nat → Nat → Bool} {m mm : Sg} {r : Int32} {k : Nat} {a1 : Int32} (hm : f_X11_spotOf k m a1 = some (r, mm)) : Fr S m mm := by
  unfold f_X11_spotOf at hm
  refine g_lp (I := fun (s : Sg × Int32) => Fr S s.1 mm) (E := fun (x : (Sg × Int32) ⊕ (Sg)) => match x with | .inl (m3, x4) => Fr S m3 mm | .inr m5 => Fr S m5 mm) hm ?_ ?_
  · rintro (⟨m3, x4⟩ | m5) hm
    · (try dsimp only at hm)
      (try dsimp only)
      exact fr_ret hm
    · (try dsimp only at hm)
      (try dsimp only)
      exact fr_ret hm
  · rintro ⟨m1, x2⟩ o hm hx7 hi6
    (try dsimp only [f_X11_spotOf_L2] at hm)
    (try dsimp only)
    refine fr_cal hm (fun _ _ h => fr_J0_length_8abf5 h) (fun x9 m8 hm => ?_)
    refine fr_if hm (fun hm => ?_) (fun hm => ?_)
    · skip
      cases hm
      exact hx7 _ rfl
    · skip
      refine fr_cal hm (fun _ _ h => fr_J0_charAt_5068e h) (fun x11 m10 hm => ?_)
      refine fr_fi hm (fun hm => ?_) (fun hm => ?_)
      · refine fr_b hm (fun x12 hm => ?_)
        cases hm
        exact hi6 _ rfl
      · skip
        cases hm
        exact hx7 _ rfl
set_option maxRecDepth 4000 in
theorem fr_X11_readItem {S : Nat → Nat → Bool} {m mm : Sg} {w : Nat} {n : Nat} {a1 : Int32} {a2 : Int32} {a3 : Int32} (s_w : ∀ k, S w k = true) (s_27_10 : S 27 10 = true) (s_27_11 : S 27 11 = true) (hm : f_X11_readItem w n m a1 a2 a3 = some mm) : Fr S m mm := by
  unfold f_X11_readItem at hm
  refine fr_wr hm (by first | exact s_w _ | assumption) (fun m1 hm => ?_)
  refine fr_cal hm (fun _ _ h => fr_X11_look (by first | exact s_w _ | assumption) h) (fun x3 m2 hm => ?_)
  refine fr_cal hm (fun _ _ h => fr_X11_isDigit h) (fun x5 m4 hm => ?_)
  refine fr_fi hm (fun hm => ?_) (fun hm => ?_)
  · skip
    refine fr_b hm (fun x6 hm => ?_)
    refine fr_wr hm (by first | exact s_w _ | assumption) (fun m7 hm => ?_)
    refine fr_cal hm (fun _ _ h => fr_X11_isDigit h) (fun x9 m8 hm => ?_)
    refine g_jn (J := fun (s : Sg × Int32) => Fr S s.1 mm) hm ?_ ?_
    · rintro ⟨m10, x11⟩ hm
      (try dsimp only at hm)
      (try dsimp only)
      refine fr_cal hm (fun _ _ h => fr_X11_isDigit h) (fun x14 m13 hm => ?_)
      refine fr_if hm (fun hm => ?_) (fun hm => ?_)
      · skip
        refine fr_cal hm (fun _ _ h => fr_X11_isIn h) (fun x16 m15 hm => ?_)
        refine fr_fi hm (fun hm => ?_) (fun hm => ?_)
        · skip
          refine fr_st hm (by first | exact s_w _ | assumption) (fun m17 hm => ?_)
          exact fr_retv hm
        · skip
          refine fr_wr hm (by first | exact s_w _ | assumption) (fun m18 hm => ?_)
          refine fr_cal hm (fun _ _ h => fr_X11_fails (by first | exact s_w _ | assumption) h) (fun x20 m19 hm => ?_)
          exact fr_retv hm
      · skip
        refine fr_cal hm (fun _ _ h => fr_X11_fails (by first | exact s_w _ | assumption) h) (fun x22 m21 hm => ?_)
        exact fr_retv hm
    · intro k12 hk12 hm
      refine fr_if hm (fun hm => ?_) (fun hm => ?_)
      · skip
        exact hk12 _ hm
      · skip
        refine fr_cal hm (fun _ _ h => fr_X11_here h) (fun x24 m23 hm => ?_)
        refine fr_b hm (fun x25 hm => ?_)
        refine fr_wr hm (by first | exact s_w _ | assumption) (fun m26 hm => ?_)
        exact hk12 _ hm
  · skip
    refine fr_cal hm (fun _ _ h => fr_X11_fails (by first | exact s_w _ | assumption) h) (fun x28 m27 hm => ?_)
    exact fr_retv hm
set_option maxRecDepth 4000 in
theorem fr_X11_mostOf {S : Nat → Nat → Bool} {m mm : Sg} {r : Int32} {a1 : Int32} {a2 : Int32} (hm : f_X11_mostOf  m a1 a2 = some (r, mm)) : Fr S m mm := by
  unfold f_X11_mostOf at hm
  refine fr_fi hm (fun hm => ?_) (fun hm => ?_)
  · skip
    refine fr_fi hm (fun hm => ?_) (fun hm => ?_)
    · skip
      refine fr_fi hm (fun hm => ?_) (fun hm => ?_)
      · skip
        refine fr_fi hm (fun hm => ?_) (fun hm => ?_)
        · skip
          refine fr_fi hm (fun hm => ?_) (fun hm => ?_)
          · skip
            exact fr_ret hm
          · skip
            exact fr_ret hm
        · skip
          exact fr_ret hm
      · skip
        exact fr_ret hm
    · skip
      refine fr_fi hm (fun hm => ?_) (fun hm => ?_)
      · skip
        exact fr_ret hm
      · skip
        exact fr_ret hm
  · skip
    refine fr_fi hm (fun hm => ?_) (fun hm => ?_)
    · skip
      exact fr_ret hm
    · skip
      exact fr_ret hm
set_option maxRecDepth 4000 in
theorem fr_X11_leastOf {S : Nat → Nat → Bool} {m mm : Sg} {r : Int32} {a1 : Int32} {a2 : Int32} (hm : f_X11_leastOf  m a1 a2 = some (r, mm)) : Fr S m mm := by
  unfold f_X11_leastOf at hm
  refine g_jn (J := fun (s : Sg) => Fr S s mm) hm ?_ ?_
  · intro m1 hm
    exact fr_ret hm
  · intro k2 hk2 hm
    refine g_jn (J := fun (s : Sg) => Fr S s mm) hm ?_ ?_
    · intro m3 hm
      refine fr_fi hm (fun hm => ?_) (fun hm => ?_)
      · skip
        exact fr_ret hm
      · skip
        refine fr_if hm (fun hm => ?_) (fun hm => ?_)
        · skip
          exact fr_ret hm
        · skip
          exact hk2 _ hm
    · intro k4 hk4 hm
      refine fr_fi hm (fun hm => ?_) (fun hm => ?_)
      · exact hk4 _ hm
      · skip
        refine fr_if hm (fun hm => ?_) (fun hm => ?_)
        · skip
          exact hk2 _ hm
        · exact hk4 _ hm
set_option maxRecDepth 4000 in
theorem fr_X11_usual {S : Nat → Nat → Bool} {m mm : Sg} {r : Int32} {a1 : Int32} {a2 : Int32} (hm : f_X11_usual  m a1 a2 = some (r, mm)) : Fr S m mm := by
  unfold f_X11_usual at hm
  refine fr_fi hm (fun hm => ?_) (fun hm => ?_)
  · skip
    refine fr_fi hm (fun hm => ?_) (fun hm => ?_)
    · skip
      refine fr_fi hm (fun hm => ?_) (fun hm => ?_)
      · skip
        refine fr_fi hm (fun hm => ?_) (fun hm => ?_)
        · skip
          refine fr_fi hm (fun hm => ?_) (fun hm => ?_)
          · skip
            refine fr_fi hm (fun hm => ?_) (fun hm => ?_)
            · skip
              exact fr_ret hm
            · skip
              exact fr_ret hm
          · skip
            exact fr_ret hm
        · skip
          exact fr_ret hm
      · skip
        exact fr_ret hm
    · skip
      refine fr_fi hm (fun hm => ?_) (fun hm => ?_)
      · skip
        refine fr_fi hm (fun hm => ?_) (fun hm => ?_)
        · skip
          exact fr_ret hm
        · skip
          exact fr_ret hm
      · skip
        exact fr_ret hm
  · skip
    refine fr_fi hm (fun hm => ?_) (fun hm => ?_)
    · skip
      refine fr_fi hm (fun hm => ?_) (fun hm => ?_)
      · skip
        exact fr_ret hm
      · skip
        exact fr_ret hm
    · skip
      exact fr_ret hm
set_option maxRecDepth 4000 in
theorem fr_X11_readItems {S : Nat → Nat → Bool} {m mm : Sg} {w : Nat} {n : Nat} {k : Nat} {a1 : Int32} {a2 : Int32} (s_w : ∀ k, S w k = true) (s_27_10 : S 27 10 = true) (s_27_11 : S 27 11 = true) (hm : f_X11_readItems w n k m a1 a2 = some mm) : Fr S m mm := by
  unfold f_X11_readItems at hm
  refine g_lp (I := fun (s : Sg × Int32) => Fr S s.1 mm) (E := fun (s : Sg) => Fr S s mm) hm ?_ ?_
  · rintro m3 hm
    (try dsimp only at hm)
    (try dsimp only)
    refine fr_cal hm (fun _ _ h => fr_X11_look (by first | exact s_w _ | assumption) h) (fun x13 m12 hm => ?_)
    refine fr_cal hm (fun _ _ h => fr_X11_spotOf h) (fun x15 m14 hm => ?_)
    refine g_lp (I := fun (s : Sg × Int32 × Int32) => Fr S s.1 mm) (E := fun (x : (Sg) ⊕ (Sg)) => match x with | .inl m19 => Fr S m19 mm | .inr m20 => Fr S m20 mm) hm ?_ ?_
    · rintro (m19 | m20) hm
      · (try dsimp only at hm)
        (try dsimp only)
        refine fr_cal hm (fun _ _ h => fr_X11_fails (by first | exact s_w _ | assumption) h) (fun x36 m35 hm => ?_)
        exact fr_retv hm
      · (try dsimp only at hm)
        (try dsimp only)
        exact fr_retv hm
    · rintro ⟨m16, x17, x18⟩ o hm hx22 hi21
      (try dsimp only [f_X11_readItems_L45] at hm)
      (try dsimp only)
      refine fr_if hm (fun hm => ?_) (fun hm => ?_)
      · skip
        cases hm
        exact hx22 _ rfl
      · skip
        refine fr_fi hm (fun hm => ?_) (fun hm => ?_)
        · skip
          cases hm
          exact hx22 _ rfl
        · skip
          refine fr_cal hm (fun _ _ h => fr_X11_has h) (fun x24 m23 hm => ?_)
          refine fr_if hm (fun hm => ?_) (fun hm => ?_)
          · skip
            refine fr_b hm (fun x25 hm => ?_)
            refine fr_cal hm (fun _ _ h => fr_X11_leastOf h) (fun x27 m26 hm => ?_)
            refine fr_cal hm (fun _ _ h => fr_X11_mostOf h) (fun x29 m28 hm => ?_)
            refine fr_calv hm (fun _ h => fr_X11_readItem (by first | exact s_w _ | assumption) (by first | exact s_w _ | assumption) (by first | exact s_w _ | assumption) h) (fun m30 hm => ?_)
            refine fr_fi hm (fun hm => ?_) (fun hm => ?_)
            · cases hm
              exact hi21 _ rfl
            · skip
              refine fr_cal hm (fun _ _ h => fr_X11_look (by first | exact s_w _ | assumption) h) (fun x32 m31 hm => ?_)
              refine fr_cal hm (fun _ _ h => fr_X11_spotOf h) (fun x34 m33 hm => ?_)
              cases hm
              exact hi21 _ rfl
          · skip
            cases hm
            exact hx22 _ rfl
  · rintro ⟨m1, x2⟩ o hm hx5 hi4
    (try dsimp only [f_X11_readItems_L3] at hm)
    (try dsimp only)
    refine fr_cal hm (fun _ _ h => fr_J0_length_8abf5 h) (fun x7 m6 hm => ?_)
    refine fr_if hm (fun hm => ?_) (fun hm => ?_)
    · skip
      cases hm
      exact hx5 _ rfl
    · skip
      refine fr_cal hm (fun _ _ h => fr_X11_usual h) (fun x9 m8 hm => ?_)
      refine fr_st hm (by first | exact s_w _ | assumption) (fun m10 hm => ?_)
      refine fr_b hm (fun x11 hm => ?_)
      cases hm
      exact hi4 _ rfl
set_option maxRecDepth 4000 in
theorem fr_X11_readClause {S : Nat → Nat → Bool} {m mm : Sg} (s_27_10 : S 27 10 = true) (s_27_11 : S 27 11 = true) (s_27_26 : S 27 26 = true) (s_27_27 : S 27 27 = true) (s_27_28 : S 27 28 = true) (s_33 : ∀ k, S 33 k = true) (s_35 : ∀ k, S 35 k = true) (s_37 : ∀ k, S 37 k = true) (hm : f_X11_readClause  m  = some mm) : Fr S m mm := by
  unfold f_X11_readClause at hm
  refine fr_cal hm (fun _ _ h => fr_X11_look (by first | exact s_33 _ | exact s_35 _ | exact s_37 _ | assumption) h) (fun x2 m1 hm => ?_)
  refine g_jn (J := fun (s : Sg × Int32) => Fr S s.1 mm) hm ?_ ?_
  · rintro ⟨m3, x4⟩ hm
    (try dsimp only at hm)
    (try dsimp only)
    refine fr_fi hm (fun hm => ?_) (fun hm => ?_)
    · skip
      refine fr_wr hm (by first | exact s_33 _ | exact s_35 _ | exact s_37 _ | assumption) (fun m6 hm => ?_)
      refine fr_fi hm (fun hm => ?_) (fun hm => ?_)
      · skip
        refine fr_fi hm (fun hm => ?_) (fun hm => ?_)
        · skip
          refine fr_wr hm (by first | exact s_33 _ | exact s_35 _ | exact s_37 _ | assumption) (fun m7 hm => ?_)
          refine fr_calv hm (fun _ h => fr_X11_readItems (by first | exact s_33 _ | exact s_35 _ | exact s_37 _ | assumption) (by first | exact s_33 _ | exact s_35 _ | exact s_37 _ | assumption) (by first | exact s_33 _ | exact s_35 _ | exact s_37 _ | assumption) h) (fun m8 hm => ?_)
          exact fr_retv hm
        · skip
          refine fr_wr hm (by first | exact s_33 _ | exact s_35 _ | exact s_37 _ | assumption) (fun m9 hm => ?_)
          refine fr_calv hm (fun _ h => fr_X11_readItems (by first | exact s_33 _ | exact s_35 _ | exact s_37 _ | assumption) (by first | exact s_33 _ | exact s_35 _ | exact s_37 _ | assumption) (by first | exact s_33 _ | exact s_35 _ | exact s_37 _ | assumption) h) (fun m10 hm => ?_)
          exact fr_retv hm
      · skip
        refine fr_wr hm (by first | exact s_33 _ | exact s_35 _ | exact s_37 _ | assumption) (fun m11 hm => ?_)
        refine fr_calv hm (fun _ h => fr_X11_readItems (by first | exact s_33 _ | exact s_35 _ | exact s_37 _ | assumption) (by first | exact s_33 _ | exact s_35 _ | exact s_37 _ | assumption) (by first | exact s_33 _ | exact s_35 _ | exact s_37 _ | assumption) h) (fun m12 hm => ?_)
        exact fr_retv hm
    · skip
      refine fr_cal hm (fun _ _ h => fr_X11_fails (by first | exact s_33 _ | exact s_35 _ | exact s_37 _ | assumption) h) (fun x14 m13 hm => ?_)
      exact fr_retv hm
  · intro k5 hk5 hm
    refine g_jn (J := fun (s : Sg) => Fr S s mm) hm ?_ ?_
    · intro m15 hm
      exact hk5 _ hm
    · intro k16 hk16 hm
      refine g_jn (J := fun (s : Sg) => Fr S s mm) hm ?_ ?_
      · intro m17 hm
        refine g_jn (J := fun (s : Sg) => Fr S s mm) hm ?_ ?_
        · intro m19 hm
          refine g_jn (J := fun (s : Sg) => Fr S s mm) hm ?_ ?_
          · intro m21 hm
            exact hk5 _ hm
          · intro k22 hk22 hm
            refine fr_fi hm (fun hm => ?_) (fun hm => ?_)
            · exact hk22 _ hm
            · skip
              refine fr_fi hm (fun hm => ?_) (fun hm => ?_)
              · exact hk22 _ hm
              · exact hk16 _ hm
        · intro k20 hk20 hm
          refine fr_fi hm (fun hm => ?_) (fun hm => ?_)
          · exact hk20 _ hm
          · skip
            refine fr_if hm (fun hm => ?_) (fun hm => ?_)
            · exact hk16 _ hm
            · exact hk20 _ hm
      · intro k18 hk18 hm
        refine fr_fi hm (fun hm => ?_) (fun hm => ?_)
        · exact hk18 _ hm
        · skip
          refine fr_if hm (fun hm => ?_) (fun hm => ?_)
          · exact hk16 _ hm
          · exact hk18 _ hm
set_option maxRecDepth 4000 in
theorem fr_X11_readCounty {S : Nat → Nat → Bool} {m mm : Sg} (s_27_5 : S 27 5 = true) (s_27_8 : S 27 8 = true) (s_27_9 : S 27 9 = true) (s_27_10 : S 27 10 = true) (s_27_11 : S 27 11 = true) (s_27_26 : S 27 26 = true) (s_27_27 : S 27 27 = true) (s_27_28 : S 27 28 = true) (s_33 : ∀ k, S 33 k = true) (s_35 : ∀ k, S 35 k = true) (s_37 : ∀ k, S 37 k = true) (hm : f_X11_readCounty  m  = some mm) : Fr S m mm := by
  unfold f_X11_readCounty at hm
  refine fr_calv hm (fun _ h => fr_X11_starts (by first | exact s_33 _ | exact s_35 _ | exact s_37 _ | assumption) (by first | exact s_33 _ | exact s_35 _ | exact s_37 _ | assumption) (by first | exact s_33 _ | exact s_35 _ | exact s_37 _ | assumption) (by first | exact s_33 _ | exact s_35 _ | exact s_37 _ | assumption) (by first | exact s_33 _ | exact s_35 _ | exact s_37 _ | assumption) h) (fun m1 hm => ?_)
  refine fr_wr hm (by first | exact s_33 _ | exact s_35 _ | exact s_37 _ | assumption) (fun m2 hm => ?_)
  refine fr_wr hm (by first | exact s_33 _ | exact s_35 _ | exact s_37 _ | assumption) (fun m3 hm => ?_)
  refine fr_wr hm (by first | exact s_33 _ | exact s_35 _ | exact s_37 _ | assumption) (fun m4 hm => ?_)
  refine g_lp (I := fun (s : Sg × Int32) => Fr S s.1 mm) (E := fun (s : Sg) => Fr S s mm) hm ?_ ?_
  · rintro m7 hm
    (try dsimp only at hm)
    (try dsimp only)
    refine g_lp (I := fun (s : Sg × Int32) => Fr S s.1 mm) (E := fun (s : Sg) => Fr S s mm) hm ?_ ?_
    · rintro m16 hm
      (try dsimp only at hm)
      (try dsimp only)
      refine fr_fi hm (fun hm => ?_) (fun hm => ?_)
      · exact fr_retv hm
      · skip
        refine fr_cal hm (fun _ _ h => fr_X11_look (by first | exact s_33 _ | exact s_35 _ | exact s_37 _ | assumption) h) (fun x29 m28 hm => ?_)
        refine g_jn (J := fun (s : Sg) => Fr S s mm) hm ?_ ?_
        · intro m30 hm
          refine fr_cal hm (fun _ _ h => fr_X11_fails (by first | exact s_33 _ | exact s_35 _ | exact s_37 _ | assumption) h) (fun x33 m32 hm => ?_)
          exact fr_retv hm
        · intro k31 hk31 hm
          refine fr_fi hm (fun hm => ?_) (fun hm => ?_)
          · exact hk31 _ hm
          · skip
            refine fr_fi hm (fun hm => ?_) (fun hm => ?_)
            · exact fr_retv hm
            · exact hk31 _ hm
    · rintro ⟨m14, x15⟩ o hm hx18 hi17
      (try dsimp only [f_X11_readCounty_L55] at hm)
      (try dsimp only)
      refine fr_if hm (fun hm => ?_) (fun hm => ?_)
      · skip
        cases hm
        exact hx18 _ rfl
      · skip
        refine fr_fi hm (fun hm => ?_) (fun hm => ?_)
        · skip
          cases hm
          exact hx18 _ rfl
        · skip
          refine fr_calv hm (fun _ h => fr_X11_readClause (by first | exact s_33 _ | exact s_35 _ | exact s_37 _ | assumption) (by first | exact s_33 _ | exact s_35 _ | exact s_37 _ | assumption) (by first | exact s_33 _ | exact s_35 _ | exact s_37 _ | assumption) (by first | exact s_33 _ | exact s_35 _ | exact s_37 _ | assumption) (by first | exact s_33 _ | exact s_35 _ | exact s_37 _ | assumption) (by first | exact s_33 _ | exact s_35 _ | exact s_37 _ | assumption) (by first | exact s_33 _ | exact s_35 _ | exact s_37 _ | assumption) (by first | exact s_33 _ | exact s_35 _ | exact s_37 _ | assumption) h) (fun m19 hm => ?_)
          refine g_jn (J := fun (s : Sg × Int32) => Fr S s.1 mm) hm ?_ ?_
          · rintro ⟨m20, x21⟩ hm
            (try dsimp only at hm)
            (try dsimp only)
            refine fr_if hm (fun hm => ?_) (fun hm => ?_)
            · cases hm
              exact hi17 _ rfl
            · skip
              refine fr_wr hm (by first | exact s_33 _ | exact s_35 _ | exact s_37 _ | assumption) (fun m23 hm => ?_)
              cases hm
              exact hi17 _ rfl
          · intro k22 hk22 hm
            refine g_jn (J := fun (s : Sg) => Fr S s mm) hm ?_ ?_
            · intro m24 hm
              exact hk22 _ hm
            · intro k25 hk25 hm
              refine fr_fi hm (fun hm => ?_) (fun hm => ?_)
              · skip
                exact hk25 _ hm
              · skip
                refine fr_cal hm (fun _ _ h => fr_X11_look (by first | exact s_33 _ | exact s_35 _ | exact s_37 _ | assumption) h) (fun x27 m26 hm => ?_)
                refine fr_fi hm (fun hm => ?_) (fun hm => ?_)
                · skip
                  exact hk25 _ hm
                · skip
                  exact hk22 _ hm
  · rintro ⟨m5, x6⟩ o hm hx9 hi8
    (try dsimp only [f_X11_readCounty_L30] at hm)
    (try dsimp only)
    refine fr_if hm (fun hm => ?_) (fun hm => ?_)
    · skip
      cases hm
      exact hx9 _ rfl
    · skip
      refine fr_cal hm (fun _ _ h => fr_X11_usual h) (fun x11 m10 hm => ?_)
      refine fr_st hm (by first | exact s_33 _ | exact s_35 _ | exact s_37 _ | assumption) (fun m12 hm => ?_)
      refine fr_b hm (fun x13 hm => ?_)
      cases hm
      exact hi8 _ rfl
set_option maxRecDepth 4000 in
theorem fr_X11_fault {S : Nat → Nat → Bool} {m mm : Sg} {r : Int32} {a1 : Int32} (s_27_0 : S 27 0 = true) (s_27_5 : S 27 5 = true) (s_27_8 : S 27 8 = true) (s_27_9 : S 27 9 = true) (s_27_10 : S 27 10 = true) (s_27_11 : S 27 11 = true) (s_27_12 : S 27 12 = true) (s_27_13 : S 27 13 = true) (s_27_14 : S 27 14 = true) (s_27_17 : S 27 17 = true) (s_27_26 : S 27 26 = true) (s_27_27 : S 27 27 = true) (s_27_28 : S 27 28 = true) (s_33 : ∀ k, S 33 k = true) (s_35 : ∀ k, S 35 k = true) (s_37 : ∀ k, S 37 k = true) (hm : f_X11_fault  m a1 = some (r, mm)) : Fr S m mm := by
  unfold f_X11_fault at hm
  refine fr_wr hm (by first | exact s_33 _ | exact s_35 _ | exact s_37 _ | assumption) (fun m1 hm => ?_)
  refine fr_cal hm (fun _ _ h => fr_X11_isIn h) (fun x3 m2 hm => ?_)
  refine fr_fi hm (fun hm => ?_) (fun hm => ?_)
  · skip
    refine g_jn (J := fun (s : Sg) => Fr S s mm) hm ?_ ?_
    · intro m4 hm
      exact fr_ret hm
    · intro k5 hk5 hm
      refine fr_fi hm (fun hm => ?_) (fun hm => ?_)
      · skip
        refine fr_calv hm (fun _ h => fr_X11_goThrough (by first | exact s_33 _ | exact s_35 _ | exact s_37 _ | assumption) (by first | exact s_33 _ | exact s_35 _ | exact s_37 _ | assumption) (by first | exact s_33 _ | exact s_35 _ | exact s_37 _ | assumption) (by first | exact s_33 _ | exact s_35 _ | exact s_37 _ | assumption) (by first | exact s_33 _ | exact s_35 _ | exact s_37 _ | assumption) (by first | exact s_33 _ | exact s_35 _ | exact s_37 _ | assumption) (by first | exact s_33 _ | exact s_35 _ | exact s_37 _ | assumption) (by first | exact s_33 _ | exact s_35 _ | exact s_37 _ | assumption) (by first | exact s_33 _ | exact s_35 _ | exact s_37 _ | assumption) h) (fun m6 hm => ?_)
        exact hk5 _ hm
      · skip
        refine fr_calv hm (fun _ h => fr_X11_readCounty (by first | exact s_33 _ | exact s_35 _ | exact s_37 _ | assumption) (by first | exact s_33 _ | exact s_35 _ | exact s_37 _ | assumption) (by first | exact s_33 _ | exact s_35 _ | exact s_37 _ | assumption) (by first | exact s_33 _ | exact s_35 _ | exact s_37 _ | assumption) (by first | exact s_33 _ | exact s_35 _ | exact s_37 _ | assumption) (by first | exact s_33 _ | exact s_35 _ | exact s_37 _ | assumption) (by first | exact s_33 _ | exact s_35 _ | exact s_37 _ | assumption) (by first | exact s_33 _ | exact s_35 _ | exact s_37 _ | assumption) (by first | exact s_33 _ | exact s_35 _ | exact s_37 _ | assumption) (by first | exact s_33 _ | exact s_35 _ | exact s_37 _ | assumption) (by first | exact s_33 _ | exact s_35 _ | exact s_37 _ | assumption) h) (fun m7 hm => ?_)
        exact hk5 _ hm
  · skip
    exact fr_ret hm
set_option maxRecDepth 4000 in
theorem fr_X11_text {S : Nat → Nat → Bool} {m mm : Sg} {r : Int32} {a1 : Int32} (s_27_0 : S 27 0 = true) (s_27_5 : S 27 5 = true) (s_27_6 : S 27 6 = true) (s_27_7 : S 27 7 = true) (s_27_8 : S 27 8 = true) (s_27_9 : S 27 9 = true) (s_27_10 : S 27 10 = true) (s_27_11 : S 27 11 = true) (s_27_12 : S 27 12 = true) (s_27_13 : S 27 13 = true) (s_27_14 : S 27 14 = true) (s_27_17 : S 27 17 = true) (s_27_24 : S 27 24 = true) (s_27_25 : S 27 25 = true) (s_27_26 : S 27 26 = true) (s_27_27 : S 27 27 = true) (s_27_28 : S 27 28 = true) (s_27_39 : S 27 39 = true) (s_27_45 : S 27 45 = true) (s_29 : ∀ k, S 29 k = true) (s_30 : ∀ k, S 30 k = true) (s_32 : ∀ k, S 32 k = true) (s_33 : ∀ k, S 33 k = true) (s_34 : ∀ k, S 34 k = true) (s_35 : ∀ k, S 35 k = true) (s_36 : ∀ k, S 36 k = true) (s_37 : ∀ k, S 37 k = true) (s_38 : ∀ k, S 38 k = true) (hm : f_X11_text  m a1 = some (r, mm)) : Fr S m mm := by
  unfold f_X11_text at hm
  refine fr_wr hm (by first | exact s_29 _ | exact s_30 _ | exact s_32 _ | exact s_33 _ | exact s_34 _ | exact s_35 _ | exact s_36 _ | exact s_37 _ | exact s_38 _ | assumption) (fun m1 hm => ?_)
  refine fr_cal hm (fun _ _ h => fr_X11_isIn h) (fun x3 m2 hm => ?_)
  refine fr_if hm (fun hm => ?_) (fun hm => ?_)
  · skip
    exact fr_ret hm
  · skip
    refine g_jn (J := fun (s : Sg) => Fr S s mm) hm ?_ ?_
    · intro m4 hm
      refine fr_cal hm (fun _ _ h => fr_X11_fault (by first | exact s_29 _ | exact s_30 _ | exact s_32 _ | exact s_33 _ | exact s_34 _ | exact s_35 _ | exact s_36 _ | exact s_37 _ | exact s_38 _ | assumption) (by first | exact s_29 _ | exact s_30 _ | exact s_32 _ | exact s_33 _ | exact s_34 _ | exact s_35 _ | exact s_36 _ | exact s_37 _ | exact s_38 _ | assumption) (by first | exact s_29 _ | exact s_30 _ | exact s_32 _ | exact s_33 _ | exact s_34 _ | exact s_35 _ | exact s_36 _ | exact s_37 _ | exact s_38 _ | assumption) (by first | exact s_29 _ | exact s_30 _ | exact s_32 _ | exact s_33 _ | exact s_34 _ | exact s_35 _ | exact s_36 _ | exact s_37 _ | exact s_38 _ | assumption) (by first | exact s_29 _ | exact s_30 _ | exact s_32 _ | exact s_33 _ | exact s_34 _ | exact s_35 _ | exact s_36 _ | exact s_37 _ | exact s_38 _ | assumption) (by first | exact s_29 _ | exact s_30 _ | exact s_32 _ | exact s_33 _ | exact s_34 _ | exact s_35 _ | exact s_36 _ | exact s_37 _ | exact s_38 _ | assumption) (by first | exact s_29 _ | exact s_30 _ | exact s_32 _ | exact s_33 _ | exact s_34 _ | exact s_35 _ | exact s_36 _ | exact s_37 _ | exact s_38 _ | assumption) (by first | exact s_29 _ | exact s_30 _ | exact s_32 _ | exact s_33 _ | exact s_34 _ | exact s_35 _ | exact s_36 _ | exact s_37 _ | exact s_38 _ | assumption) (by first | exact s_29 _ | exact s_30 _ | exact s_32 _ | exact s_33 _ | exact s_34 _ | exact s_35 _ | exact s_36 _ | exact s_37 _ | exact s_38 _ | assumption) (by first | exact s_29 _ | exact s_30 _ | exact s_32 _ | exact s_33 _ | exact s_34 _ | exact s_35 _ | exact s_36 _ | exact s_37 _ | exact s_38 _ | assumption) (by first | exact s_29 _ | exact s_30 _ | exact s_32 _ | exact s_33 _ | exact s_34 _ | exact s_35 _ | exact s_36 _ | exact s_37 _ | exact s_38 _ | assumption) (by first | exact s_29 _ | exact s_30 _ | exact s_32 _ | exact s_33 _ | exact s_34 _ | exact s_35 _ | exact s_36 _ | exact s_37 _ | exact s_38 _ | assumption) (by first | exact s_29 _ | exact s_30 _ | exact s_32 _ | exact s_33 _ | exact s_34 _ | exact s_35 _ | exact s_36 _ | exact s_37 _ | exact s_38 _ | assumption) (by first | exact s_29 _ | exact s_30 _ | exact s_32 _ | exact s_33 _ | exact s_34 _ | exact s_35 _ | exact s_36 _ | exact s_37 _ | exact s_38 _ | assumption) (by first | exact s_29 _ | exact s_30 _ | exact s_32 _ | exact s_33 _ | exact s_34 _ | exact s_35 _ | exact s_36 _ | exact s_37 _ | exact s_38 _ | assumption) (by first | exact s_29 _ | exact s_30 _ | exact s_32 _ | exact s_33 _ | exact s_34 _ | exact s_35 _ | exact s_36 _ | exact s_37 _ | exact s_38 _ | assumption) h) (fun x7 m6 hm => ?_)
      refine fr_if hm (fun hm => ?_) (fun hm => ?_)
      · skip
        refine fr_b hm (fun x8 hm => ?_)
        refine fr_wr hm (by first | exact s_29 _ | exact s_30 _ | exact s_32 _ | exact s_33 _ | exact s_34 _ | exact s_35 _ | exact s_36 _ | exact s_37 _ | exact s_38 _ | assumption) (fun m9 hm => ?_)
        refine fr_fi hm (fun hm => ?_) (fun hm => ?_)
        · skip
          refine fr_wr hm (by first | exact s_29 _ | exact s_30 _ | exact s_32 _ | exact s_33 _ | exact s_34 _ | exact s_35 _ | exact s_36 _ | exact s_37 _ | exact s_38 _ | assumption) (fun m10 hm => ?_)
          refine fr_wr hm (by first | exact s_29 _ | exact s_30 _ | exact s_32 _ | exact s_33 _ | exact s_34 _ | exact s_35 _ | exact s_36 _ | exact s_37 _ | exact s_38 _ | assumption) (fun m11 hm => ?_)
          refine g_lp (I := fun (s : Sg × Int32) => Fr S s.1 mm) (E := fun (s : Sg) => Fr S s mm) hm ?_ ?_
          · rintro m14 hm
            (try dsimp only at hm)
            (try dsimp only)
            refine g_lp (I := fun (s : Sg × Int32) => Fr S s.1 mm) (E := fun (s : Sg) => Fr S s mm) hm ?_ ?_
            · rintro m21 hm
              (try dsimp only at hm)
              (try dsimp only)
              refine g_lp (I := fun (s : Sg × Int32) => Fr S s.1 mm) (E := fun (s : Sg) => Fr S s mm) hm ?_ ?_
              · rintro m28 hm
                (try dsimp only at hm)
                (try dsimp only)
                refine g_lp (I := fun (s : Sg × Int32) => Fr S s.1 mm) (E := fun (s : Sg) => Fr S s mm) hm ?_ ?_
                · rintro m35 hm
                  (try dsimp only at hm)
                  (try dsimp only)
                  refine g_lp (I := fun (s : Sg × Int32) => Fr S s.1 mm) (E := fun (s : Sg) => Fr S s mm) hm ?_ ?_
                  · rintro m42 hm
                    (try dsimp only at hm)
                    (try dsimp only)
                    refine g_lp (I := fun (s : Sg × Int32) => Fr S s.1 mm) (E := fun (s : Sg) => Fr S s mm) hm ?_ ?_
                    · rintro m55 hm
                      (try dsimp only at hm)
                      (try dsimp only)
                      refine fr_wr hm (by first | exact s_29 _ | exact s_30 _ | exact s_32 _ | exact s_33 _ | exact s_34 _ | exact s_35 _ | exact s_36 _ | exact s_37 _ | exact s_38 _ | assumption) (fun m60 hm => ?_)
                      refine fr_wr hm (by first | exact s_29 _ | exact s_30 _ | exact s_32 _ | exact s_33 _ | exact s_34 _ | exact s_35 _ | exact s_36 _ | exact s_37 _ | exact s_38 _ | assumption) (fun m61 hm => ?_)
                      refine fr_wr hm (by first | exact s_29 _ | exact s_30 _ | exact s_32 _ | exact s_33 _ | exact s_34 _ | exact s_35 _ | exact s_36 _ | exact s_37 _ | exact s_38 _ | assumption) (fun m62 hm => ?_)
                      exact fr_ret hm
                    · rintro ⟨m53, x54⟩ o hm hx57 hi56
                      (try dsimp only [f_X11_text_L350] at hm)
                      (try dsimp only)
                      refine fr_if hm (fun hm => ?_) (fun hm => ?_)
                      · skip
                        cases hm
                        exact hx57 _ rfl
                      · skip
                        refine fr_n hm (fun hm => ?_)
                        refine fr_st hm (by first | exact s_29 _ | exact s_30 _ | exact s_32 _ | exact s_33 _ | exact s_34 _ | exact s_35 _ | exact s_36 _ | exact s_37 _ | exact s_38 _ | assumption) (fun m58 hm => ?_)
                        refine fr_b hm (fun x59 hm => ?_)
                        cases hm
                        exact hi56 _ rfl
                  · rintro ⟨m40, x41⟩ o hm hx44 hi43
                    (try dsimp only [f_X11_text_L232] at hm)
                    (try dsimp only)
                    refine fr_if hm (fun hm => ?_) (fun hm => ?_)
                    · skip
                      cases hm
                      exact hx44 _ rfl
                    · skip
                      refine fr_n hm (fun hm => ?_)
                      refine fr_st hm (by first | exact s_29 _ | exact s_30 _ | exact s_32 _ | exact s_33 _ | exact s_34 _ | exact s_35 _ | exact s_36 _ | exact s_37 _ | exact s_38 _ | assumption) (fun m45 hm => ?_)
                      refine fr_n hm (fun hm => ?_)
                      refine fr_st hm (by first | exact s_29 _ | exact s_30 _ | exact s_32 _ | exact s_33 _ | exact s_34 _ | exact s_35 _ | exact s_36 _ | exact s_37 _ | exact s_38 _ | assumption) (fun m46 hm => ?_)
                      refine fr_n hm (fun hm => ?_)
                      refine g_jn (J := fun (s : Sg × Int32) => Fr S s.1 mm) hm ?_ ?_
                      · rintro ⟨m47, x48⟩ hm
                        (try dsimp only at hm)
                        (try dsimp only)
                        refine fr_st hm (by first | exact s_29 _ | exact s_30 _ | exact s_32 _ | exact s_33 _ | exact s_34 _ | exact s_35 _ | exact s_36 _ | exact s_37 _ | exact s_38 _ | assumption) (fun m50 hm => ?_)
                        refine fr_st hm (by first | exact s_29 _ | exact s_30 _ | exact s_32 _ | exact s_33 _ | exact s_34 _ | exact s_35 _ | exact s_36 _ | exact s_37 _ | exact s_38 _ | assumption) (fun m51 hm => ?_)
                        refine fr_b hm (fun x52 hm => ?_)
                        cases hm
                        exact hi43 _ rfl
                      · intro k49 hk49 hm
                        refine fr_fi hm (fun hm => ?_) (fun hm => ?_)
                        · skip
                          refine fr_n hm (fun hm => ?_)
                          exact hk49 _ hm
                        · skip
                          exact hk49 _ hm
                · rintro ⟨m33, x34⟩ o hm hx37 hi36
                  (try dsimp only [f_X11_text_L210] at hm)
                  (try dsimp only)
                  refine fr_if hm (fun hm => ?_) (fun hm => ?_)
                  · skip
                    cases hm
                    exact hx37 _ rfl
                  · skip
                    refine fr_st hm (by first | exact s_29 _ | exact s_30 _ | exact s_32 _ | exact s_33 _ | exact s_34 _ | exact s_35 _ | exact s_36 _ | exact s_37 _ | exact s_38 _ | assumption) (fun m38 hm => ?_)
                    refine fr_b hm (fun x39 hm => ?_)
                    cases hm
                    exact hi36 _ rfl
              · rintro ⟨m26, x27⟩ o hm hx30 hi29
                (try dsimp only [f_X11_text_L185] at hm)
                (try dsimp only)
                refine fr_if hm (fun hm => ?_) (fun hm => ?_)
                · skip
                  cases hm
                  exact hx30 _ rfl
                · skip
                  refine fr_n hm (fun hm => ?_)
                  refine fr_st hm (by first | exact s_29 _ | exact s_30 _ | exact s_32 _ | exact s_33 _ | exact s_34 _ | exact s_35 _ | exact s_36 _ | exact s_37 _ | exact s_38 _ | assumption) (fun m31 hm => ?_)
                  refine fr_b hm (fun x32 hm => ?_)
                  cases hm
                  exact hi29 _ rfl
            · rintro ⟨m19, x20⟩ o hm hx23 hi22
              (try dsimp only [f_X11_text_L159] at hm)
              (try dsimp only)
              refine fr_if hm (fun hm => ?_) (fun hm => ?_)
              · skip
                cases hm
                exact hx23 _ rfl
              · skip
                refine fr_n hm (fun hm => ?_)
                refine fr_st hm (by first | exact s_29 _ | exact s_30 _ | exact s_32 _ | exact s_33 _ | exact s_34 _ | exact s_35 _ | exact s_36 _ | exact s_37 _ | exact s_38 _ | assumption) (fun m24 hm => ?_)
                refine fr_b hm (fun x25 hm => ?_)
                cases hm
                exact hi22 _ rfl
          · rintro ⟨m12, x13⟩ o hm hx16 hi15
            (try dsimp only [f_X11_text_L133] at hm)
            (try dsimp only)
            refine fr_if hm (fun hm => ?_) (fun hm => ?_)
            · skip
              cases hm
              exact hx16 _ rfl
            · skip
              refine fr_n hm (fun hm => ?_)
              refine fr_st hm (by first | exact s_29 _ | exact s_30 _ | exact s_32 _ | exact s_33 _ | exact s_34 _ | exact s_35 _ | exact s_36 _ | exact s_37 _ | exact s_38 _ | assumption) (fun m17 hm => ?_)
              refine fr_b hm (fun x18 hm => ?_)
              cases hm
              exact hi15 _ rfl
        · skip
          refine g_lp (I := fun (s : Sg × Int32) => Fr S s.1 mm) (E := fun (s : Sg) => Fr S s mm) hm ?_ ?_
          · rintro m65 hm
            (try dsimp only at hm)
            (try dsimp only)
            refine fr_st hm (by first | exact s_29 _ | exact s_30 _ | exact s_32 _ | exact s_33 _ | exact s_34 _ | exact s_35 _ | exact s_36 _ | exact s_37 _ | exact s_38 _ | assumption) (fun m70 hm => ?_)
            refine fr_wr hm (by first | exact s_29 _ | exact s_30 _ | exact s_32 _ | exact s_33 _ | exact s_34 _ | exact s_35 _ | exact s_36 _ | exact s_37 _ | exact s_38 _ | assumption) (fun m71 hm => ?_)
            exact fr_ret hm
          · rintro ⟨m63, x64⟩ o hm hx67 hi66
            (try dsimp only [f_X11_text_L56] at hm)
            (try dsimp only)
            refine fr_if hm (fun hm => ?_) (fun hm => ?_)
            · skip
              cases hm
              exact hx67 _ rfl
            · skip
              refine fr_n hm (fun hm => ?_)
              refine fr_st hm (by first | exact s_29 _ | exact s_30 _ | exact s_32 _ | exact s_33 _ | exact s_34 _ | exact s_35 _ | exact s_36 _ | exact s_37 _ | exact s_38 _ | assumption) (fun m68 hm => ?_)
              refine fr_b hm (fun x69 hm => ?_)
              cases hm
              exact hi66 _ rfl
      · skip
        exact fr_ret hm
    · intro k5 hk5 hm
      refine fr_fi hm (fun hm => ?_) (fun hm => ?_)
      · exact hk5 _ hm
      · skip
        refine fr_if hm (fun hm => ?_) (fun hm => ?_)
        · skip
          exact fr_ret hm
        · exact hk5 _ hm
set_option maxRecDepth 4000 in
theorem fr_X11_copy {S : Nat → Nat → Bool} {m mm : Sg} {w : Nat} {u : Nat} (s_u : ∀ k, S u k = true) (hm : f_X11_copy w u m  = some mm) : Fr S m mm := by
  unfold f_X11_copy at hm
  refine g_lp (I := fun (s : Sg × Int32) => Fr S s.1 mm) (E := fun (s : Sg) => Fr S s mm) hm ?_ ?_
  · rintro m3 hm
    (try dsimp only at hm)
    (try dsimp only)
    exact fr_retv hm
  · rintro ⟨m1, x2⟩ o hm hx5 hi4
    (try dsimp only [f_X11_copy_L2] at hm)
    (try dsimp only)
    refine fr_if hm (fun hm => ?_) (fun hm => ?_)
    · skip
      cases hm
      exact hx5 _ rfl
    · skip
      refine fr_n hm (fun hm => ?_)
      refine fr_st hm (by first | exact s_u _ | assumption) (fun m6 hm => ?_)
      refine fr_b hm (fun x7 hm => ?_)
      cases hm
      exact hi4 _ rfl
set_option maxRecDepth 4000 in
theorem fr_X11_isChild {S : Nat → Nat → Bool} {m mm : Sg} {r : Int32} {a1 : Int32} (hm : f_X11_isChild  m a1 = some (r, mm)) : Fr S m mm := by
  unfold f_X11_isChild at hm
  refine fr_if hm (fun hm => ?_) (fun hm => ?_)
  · skip
    exact fr_ret hm
  · skip
    refine fr_if hm (fun hm => ?_) (fun hm => ?_)
    · skip
      exact fr_ret hm
    · skip
      exact fr_ret hm
set_option maxRecDepth 4000 in
theorem fr_X11_isElder {S : Nat → Nat → Bool} {m mm : Sg} {r : Int32} {a1 : Int32} (hm : f_X11_isElder  m a1 = some (r, mm)) : Fr S m mm := by
  unfold f_X11_isElder at hm
  refine fr_if hm (fun hm => ?_) (fun hm => ?_)
  · skip
    exact fr_ret hm
  · skip
    refine fr_if hm (fun hm => ?_) (fun hm => ?_)
    · skip
      exact fr_ret hm
    · skip
      exact fr_ret hm
set_option maxRecDepth 4000 in
theorem fr_X11_rightOf {S : Nat → Nat → Bool} {m mm : Sg} {r : Int32} {w : Nat} {a1 : Int32} (hm : f_X11_rightOf w m a1 = some (r, mm)) : Fr S m mm := by
  unfold f_X11_rightOf at hm
  refine fr_n hm (fun hm => ?_)
  refine fr_n hm (fun hm => ?_)
  exact fr_ret hm
set_option maxRecDepth 4000 in
theorem fr_X11_countOf {S : Nat → Nat → Bool} {m mm : Sg} {r : Int32} {w : Nat} {a1 : Int32} (hm : f_X11_countOf w m a1 = some (r, mm)) : Fr S m mm := by
  unfold f_X11_countOf at hm
  refine g_lp (I := fun (s : Sg × Int32) => Fr S s.1 mm) (E := fun (s : Sg × Int32) => Fr S s.1 mm) hm ?_ ?_
  · rintro ⟨m3, x4⟩ hm
    (try dsimp only at hm)
    (try dsimp only)
    exact fr_ret hm
  · rintro ⟨m1, x2⟩ o hm hx6 hi5
    (try dsimp only [f_X11_countOf_L2] at hm)
    (try dsimp only)
    refine fr_if hm (fun hm => ?_) (fun hm => ?_)
    · skip
      cases hm
      exact hx6 _ rfl
    · skip
      refine fr_cal hm (fun _ _ h => fr_X11_rightOf h) (fun x8 m7 hm => ?_)
      refine fr_cal hm (fun _ _ h => fr_X11_has h) (fun x10 m9 hm => ?_)
      refine fr_if hm (fun hm => ?_) (fun hm => ?_)
      · skip
        cases hm
        exact hx6 _ rfl
      · refine fr_b hm (fun x11 hm => ?_)
        cases hm
        exact hi5 _ rfl
set_option maxRecDepth 4000 in
theorem fr_X11_asks {S : Nat → Nat → Bool} {m mm : Sg} {r : Int32} {w : Nat} {a1 : Int32} {a2 : Int32} (hm : f_X11_asks w m a1 a2 = some (r, mm)) : Fr S m mm := by
  unfold f_X11_asks at hm
  refine g_lp (I := fun (s : Sg × Int32 × Int32) => Fr S s.1 mm) (E := fun (s : Sg × Int32) => Fr S s.1 mm) hm ?_ ?_
  · rintro ⟨m4, x5⟩ hm
    (try dsimp only at hm)
    (try dsimp only)
    exact fr_ret hm
  · rintro ⟨m1, x2, x3⟩ o hm hx7 hi6
    (try dsimp only [f_X11_asks_L6] at hm)
    (try dsimp only)
    refine fr_if hm (fun hm => ?_) (fun hm => ?_)
    · skip
      cases hm
      exact hx7 _ rfl
    · skip
      refine fr_n hm (fun hm => ?_)
      refine fr_cal hm (fun _ _ h => fr_X11_has h) (fun x9 m8 hm => ?_)
      refine g_jn (J := fun (s : Sg × Int32) => Fr S s.1 mm) hm ?_ ?_
      · rintro ⟨m10, x11⟩ hm
        (try dsimp only at hm)
        (try dsimp only)
        refine fr_b hm (fun x13 hm => ?_)
        refine fr_b hm (fun x14 hm => ?_)
        cases hm
        exact hi6 _ rfl
      · intro k12 hk12 hm
        refine g_jn (J := fun (s : Sg) => Fr S s mm) hm ?_ ?_
        · intro m15 hm
          exact hk12 _ hm
        · intro k16 hk16 hm
          refine fr_if hm (fun hm => ?_) (fun hm => ?_)
          · skip
            exact hk16 _ hm
          · skip
            refine fr_n hm (fun hm => ?_)
            refine fr_fi hm (fun hm => ?_) (fun hm => ?_)
            · skip
              exact hk16 _ hm
            · skip
              exact hk12 _ hm
set_option maxRecDepth 4000 in
theorem fr_X11_slipsOf {S : Nat → Nat → Bool} {m mm : Sg} {r : Int32} {w : Nat} {a1 : Int32} {a2 : Int32} (hm : f_X11_slipsOf w m a1 a2 = some (r, mm)) : Fr S m mm := by
  unfold f_X11_slipsOf at hm
  refine fr_n hm (fun hm => ?_)
  refine fr_cal hm (fun _ _ h => fr_X11_asks h) (fun x2 m1 hm => ?_)
  refine fr_cal hm (fun _ _ h => fr_X11_rightOf h) (fun x4 m3 hm => ?_)
  exact fr_ret hm
set_option maxRecDepth 4000 in
theorem fr_X11_examinerOf {S : Nat → Nat → Bool} {m mm : Sg} {r : Int32} {w : Nat} {a1 : Int32} (hm : f_X11_examinerOf w m a1 = some (r, mm)) : Fr S m mm := by
  unfold f_X11_examinerOf at hm
  refine g_lp (I := fun (s : Sg × Int32 × Int32) => Fr S s.1 mm) (E := fun (s : Sg × Int32) => Fr S s.1 mm) hm ?_ ?_
  · rintro ⟨m4, x5⟩ hm
    (try dsimp only at hm)
    (try dsimp only)
    exact fr_ret hm
  · rintro ⟨m1, x2, x3⟩ o hm hx7 hi6
    (try dsimp only [f_X11_examinerOf_L5] at hm)
    (try dsimp only)
    refine fr_if hm (fun hm => ?_) (fun hm => ?_)
    · skip
      cases hm
      exact hx7 _ rfl
    · skip
      refine fr_cal hm (fun _ _ h => fr_X11_has h) (fun x9 m8 hm => ?_)
      refine g_jn (J := fun (s : Sg × Int32) => Fr S s.1 mm) hm ?_ ?_
      · rintro ⟨m10, x11⟩ hm
        (try dsimp only at hm)
        (try dsimp only)
        refine fr_b hm (fun x13 hm => ?_)
        cases hm
        exact hi6 _ rfl
      · intro k12 hk12 hm
        refine fr_fi hm (fun hm => ?_) (fun hm => ?_)
        · exact hk12 _ hm
        · skip
          refine fr_cal hm (fun _ _ h => fr_X11_asks h) (fun x15 m14 hm => ?_)
          refine fr_fi hm (fun hm => ?_) (fun hm => ?_)
          · skip
            refine g_jn (J := fun (s : Sg) => Fr S s mm) hm ?_ ?_
            · intro m16 hm
              exact hk12 _ hm
            · intro k17 hk17 hm
              refine fr_if hm (fun hm => ?_) (fun hm => ?_)
              · skip
                exact hk17 _ hm
              · skip
                refine fr_n hm (fun hm => ?_)
                refine fr_n hm (fun hm => ?_)
                refine fr_if hm (fun hm => ?_) (fun hm => ?_)
                · exact hk12 _ hm
                · skip
                  exact hk17 _ hm
          · skip
            exact hk12 _ hm
set_option maxRecDepth 4000 in
theorem fr_X11_taxBy {S : Nat → Nat → Bool} {m mm : Sg} {r : Int32} {a1 : Int32} {a2 : Int32} {a3 : Int32} {a4 : Int32} {a5 : Int32} {a6 : Int32} (s_27_5 : S 27 5 = true) (s_27_8 : S 27 8 = true) (s_27_9 : S 27 9 = true) (s_27_10 : S 27 10 = true) (s_27_11 : S 27 11 = true) (s_27_12 : S 27 12 = true) (s_27_13 : S 27 13 = true) (s_27_14 : S 27 14 = true) (s_27_17 : S 27 17 = true) (s_31 : ∀ k, S 31 k = true) (hm : f_X11_taxBy  m a1 a2 a3 a4 a5 a6 = some (r, mm)) : Fr S m mm := by
  unfold f_X11_taxBy at hm
  refine fr_fi hm (fun hm => ?_) (fun hm => ?_)
  · skip
    refine fr_wr hm (by first | exact s_31 _ | assumption) (fun m1 hm => ?_)
    refine fr_wr hm (by first | exact s_31 _ | assumption) (fun m2 hm => ?_)
    refine fr_wr hm (by first | exact s_31 _ | assumption) (fun m3 hm => ?_)
    refine fr_wr hm (by first | exact s_31 _ | assumption) (fun m4 hm => ?_)
    refine fr_wr hm (by first | exact s_31 _ | assumption) (fun m5 hm => ?_)
    refine fr_wr hm (by first | exact s_31 _ | assumption) (fun m6 hm => ?_)
    refine fr_n hm (fun hm => ?_)
    refine fr_calv hm (fun _ h => fr_X11_goThrough (by first | exact s_31 _ | assumption) (by first | exact s_31 _ | assumption) (by first | exact s_31 _ | assumption) (by first | exact s_31 _ | assumption) (by first | exact s_31 _ | assumption) (by first | exact s_31 _ | assumption) (by first | exact s_31 _ | assumption) (by first | exact s_31 _ | assumption) (by first | exact s_31 _ | assumption) h) (fun m7 hm => ?_)
    exact fr_ret hm
  · skip
    exact fr_ret hm
set_option maxRecDepth 4000 in
theorem fr_X11_taxOf {S : Nat → Nat → Bool} {m mm : Sg} {r : Int32} {w : Nat} {a1 : Int32} (s_27_5 : S 27 5 = true) (s_27_8 : S 27 8 = true) (s_27_9 : S 27 9 = true) (s_27_10 : S 27 10 = true) (s_27_11 : S 27 11 = true) (s_27_12 : S 27 12 = true) (s_27_13 : S 27 13 = true) (s_27_14 : S 27 14 = true) (s_27_17 : S 27 17 = true) (s_31 : ∀ k, S 31 k = true) (hm : f_X11_taxOf w m a1 = some (r, mm)) : Fr S m mm := by
  unfold f_X11_taxOf at hm
  refine fr_cal hm (fun _ _ h => fr_X11_countOf h) (fun x2 m1 hm => ?_)
  refine fr_n hm (fun hm => ?_)
  refine fr_cal hm (fun _ _ h => fr_X11_rightOf h) (fun x4 m3 hm => ?_)
  refine fr_cal hm (fun _ _ h => fr_J6_bitCount_0f7a4 h) (fun x6 m5 hm => ?_)
  refine fr_n hm (fun hm => ?_)
  refine fr_n hm (fun hm => ?_)
  refine fr_cal hm (fun _ _ h => fr_J6_bitCount_0f7a4 h) (fun x8 m7 hm => ?_)
  refine fr_cal hm (fun _ _ h => fr_X11_taxBy (by first | exact s_31 _ | assumption) (by first | exact s_31 _ | assumption) (by first | exact s_31 _ | assumption) (by first | exact s_31 _ | assumption) (by first | exact s_31 _ | assumption) (by first | exact s_31 _ | assumption) (by first | exact s_31 _ | assumption) (by first | exact s_31 _ | assumption) (by first | exact s_31 _ | assumption) (by first | exact s_31 _ | assumption) h) (fun x10 m9 hm => ?_)
  exact fr_ret hm
set_option maxRecDepth 4000 in
theorem fr_X11_child {S : Nat → Nat → Bool} {m mm : Sg} {r : Int32} {a1 : Int32} {a2 : Int32} (s_27_0 : S 27 0 = true) (s_27_5 : S 27 5 = true) (s_27_8 : S 27 8 = true) (s_27_9 : S 27 9 = true) (s_27_10 : S 27 10 = true) (s_27_11 : S 27 11 = true) (s_27_12 : S 27 12 = true) (s_27_13 : S 27 13 = true) (s_27_14 : S 27 14 = true) (s_27_17 : S 27 17 = true) (s_31 : ∀ k, S 31 k = true) (hm : f_X11_child  m a1 a2 = some (r, mm)) : Fr S m mm := by
  unfold f_X11_child at hm
  refine fr_cal hm (fun _ _ h => fr_X11_isChild h) (fun x2 m1 hm => ?_)
  refine g_jn (J := fun (s : Sg × Int32) => Fr S s.1 mm) hm ?_ ?_
  · rintro ⟨m3, x4⟩ hm
    (try dsimp only at hm)
    (try dsimp only)
    refine fr_wr hm (by first | exact s_31 _ | assumption) (fun m6 hm => ?_)
    refine fr_if hm (fun hm => ?_) (fun hm => ?_)
    · skip
      refine fr_if hm (fun hm => ?_) (fun hm => ?_)
      · skip
        refine fr_n hm (fun hm => ?_)
        exact fr_ret hm
      · refine fr_if hm (fun hm => ?_) (fun hm => ?_)
        · skip
          refine fr_n hm (fun hm => ?_)
          exact fr_ret hm
        · refine fr_if hm (fun hm => ?_) (fun hm => ?_)
          · skip
            refine fr_n hm (fun hm => ?_)
            exact fr_ret hm
          · refine fr_if hm (fun hm => ?_) (fun hm => ?_)
            · skip
              refine fr_n hm (fun hm => ?_)
              exact fr_ret hm
            · refine fr_if hm (fun hm => ?_) (fun hm => ?_)
              · skip
                refine fr_n hm (fun hm => ?_)
                exact fr_ret hm
              · refine fr_if hm (fun hm => ?_) (fun hm => ?_)
                · skip
                  refine fr_n hm (fun hm => ?_)
                  exact fr_ret hm
                · refine fr_if hm (fun hm => ?_) (fun hm => ?_)
                  · skip
                    refine fr_n hm (fun hm => ?_)
                    exact fr_ret hm
                  · refine fr_if hm (fun hm => ?_) (fun hm => ?_)
                    · skip
                      refine fr_n hm (fun hm => ?_)
                      exact fr_ret hm
                    · refine fr_if hm (fun hm => ?_) (fun hm => ?_)
                      · skip
                        refine fr_n hm (fun hm => ?_)
                        exact fr_ret hm
                      · refine fr_if hm (fun hm => ?_) (fun hm => ?_)
                        · skip
                          refine fr_n hm (fun hm => ?_)
                          exact fr_ret hm
                        · refine fr_if hm (fun hm => ?_) (fun hm => ?_)
                          · skip
                            refine fr_cal hm (fun _ _ h => fr_X11_countOf h) (fun x8 m7 hm => ?_)
                            exact fr_ret hm
                          · refine fr_if hm (fun hm => ?_) (fun hm => ?_)
                            · skip
                              refine fr_cal hm (fun _ _ h => fr_X11_taxOf (by first | exact s_31 _ | assumption) (by first | exact s_31 _ | assumption) (by first | exact s_31 _ | assumption) (by first | exact s_31 _ | assumption) (by first | exact s_31 _ | assumption) (by first | exact s_31 _ | assumption) (by first | exact s_31 _ | assumption) (by first | exact s_31 _ | assumption) (by first | exact s_31 _ | assumption) (by first | exact s_31 _ | assumption) h) (fun x10 m9 hm => ?_)
                              exact fr_ret hm
                            · skip
                              refine fr_n hm (fun hm => ?_)
                              exact fr_ret hm
    · skip
      exact fr_ret hm
  · intro k5 hk5 hm
    refine g_jn (J := fun (s : Sg) => Fr S s mm) hm ?_ ?_
    · intro m11 hm
      exact hk5 _ hm
    · intro k12 hk12 hm
      refine fr_if hm (fun hm => ?_) (fun hm => ?_)
      · exact hk12 _ hm
      · skip
        refine fr_cal hm (fun _ _ h => fr_X11_isIn h) (fun x14 m13 hm => ?_)
        refine fr_if hm (fun hm => ?_) (fun hm => ?_)
        · exact hk12 _ hm
        · skip
          exact hk5 _ hm
set_option maxRecDepth 4000 in
theorem fr_X11_elder {S : Nat → Nat → Bool} {m mm : Sg} {r : Int32} {a1 : Int32} {a2 : Int32} (s_27_0 : S 27 0 = true) (hm : f_X11_elder  m a1 a2 = some (r, mm)) : Fr S m mm := by
  unfold f_X11_elder at hm
  refine fr_wr hm (by first | assumption) (fun m1 hm => ?_)
  refine fr_cal hm (fun _ _ h => fr_X11_isElder h) (fun x3 m2 hm => ?_)
  refine fr_if hm (fun hm => ?_) (fun hm => ?_)
  · skip
    exact fr_ret hm
  · skip
    refine fr_cal hm (fun _ _ h => fr_X11_isIn h) (fun x5 m4 hm => ?_)
    refine fr_fi hm (fun hm => ?_) (fun hm => ?_)
    · skip
      refine fr_fi hm (fun hm => ?_) (fun hm => ?_)
      · skip
        refine fr_n hm (fun hm => ?_)
        exact fr_ret hm
      · skip
        refine fr_n hm (fun hm => ?_)
        exact fr_ret hm
    · skip
      exact fr_ret hm
set_option maxRecDepth 4000 in
theorem fr_X11_rule {S : Nat → Nat → Bool} {m mm : Sg} {r : Int32} {a1 : Int32} (s_27_0 : S 27 0 = true) (hm : f_X11_rule  m a1 = some (r, mm)) : Fr S m mm := by
  unfold f_X11_rule at hm
  refine fr_wr hm (by first | assumption) (fun m1 hm => ?_)
  refine fr_if hm (fun hm => ?_) (fun hm => ?_)
  · skip
    exact fr_ret hm
  · skip
    refine fr_cal hm (fun _ _ h => fr_X11_isIn h) (fun x3 m2 hm => ?_)
    refine fr_if hm (fun hm => ?_) (fun hm => ?_)
    · skip
      exact fr_ret hm
    · skip
      refine fr_n hm (fun hm => ?_)
      exact fr_ret hm
set_option maxRecDepth 4000 in
theorem fr_X11_law {S : Nat → Nat → Bool} {m mm : Sg} {r : Int32} {a1 : Int32} (s_27_0 : S 27 0 = true) (s_27_31 : S 27 31 = true) (hm : f_X11_law  m a1 = some (r, mm)) : Fr S m mm := by
  unfold f_X11_law at hm
  refine fr_wr hm (by first | assumption) (fun m1 hm => ?_)
  refine g_jn (J := fun (s : Sg) => Fr S s mm) hm ?_ ?_
  · intro m2 hm
    refine fr_wr hm (by first | assumption) (fun m4 hm => ?_)
    exact fr_ret hm
  · intro k3 hk3 hm
    refine fr_if hm (fun hm => ?_) (fun hm => ?_)
    · exact hk3 _ hm
    · skip
      refine fr_cal hm (fun _ _ h => fr_X11_isIn h) (fun x6 m5 hm => ?_)
      refine fr_fi hm (fun hm => ?_) (fun hm => ?_)
      · exact hk3 _ hm
      · skip
        exact fr_ret hm
set_option maxRecDepth 4000 in
theorem fr_X11_fever {S : Nat → Nat → Bool} {m mm : Sg} {r : Int32} {a1 : Int32} (s_27_0 : S 27 0 = true) (s_27_32 : S 27 32 = true) (hm : f_X11_fever  m a1 = some (r, mm)) : Fr S m mm := by
  unfold f_X11_fever at hm
  refine fr_wr hm (by first | assumption) (fun m1 hm => ?_)
  refine fr_cal hm (fun _ _ h => fr_X11_isIn h) (fun x3 m2 hm => ?_)
  refine fr_if hm (fun hm => ?_) (fun hm => ?_)
  · skip
    exact fr_ret hm
  · skip
    refine fr_fi hm (fun hm => ?_) (fun hm => ?_)
    · skip
      refine fr_wr hm (by first | assumption) (fun m4 hm => ?_)
      exact fr_ret hm
    · skip
      exact fr_ret hm
set_option maxRecDepth 4000 in
theorem fr_X11_passes {S : Nat → Nat → Bool} {m mm : Sg} {r : Int32} {a1 : Int32} {a2 : Int32} (s_27_0 : S 27 0 = true) (hm : f_X11_passes  m a1 a2 = some (r, mm)) : Fr S m mm := by
  unfold f_X11_passes at hm
  refine fr_wr hm (by first | assumption) (fun m1 hm => ?_)
  refine fr_cal hm (fun _ _ h => fr_X11_isChild h) (fun x3 m2 hm => ?_)
  refine fr_if hm (fun hm => ?_) (fun hm => ?_)
  · skip
    exact fr_ret hm
  · skip
    refine fr_cal hm (fun _ _ h => fr_X11_isElder h) (fun x5 m4 hm => ?_)
    refine fr_fi hm (fun hm => ?_) (fun hm => ?_)
    · skip
      refine fr_cal hm (fun _ _ h => fr_X11_slipsOf h) (fun x7 m6 hm => ?_)
      refine fr_fi hm (fun hm => ?_) (fun hm => ?_)
      · skip
        exact fr_ret hm
      · skip
        exact fr_ret hm
    · skip
      exact fr_ret hm
set_option maxRecDepth 4000 in
theorem fr_X11_slips {S : Nat → Nat → Bool} {m mm : Sg} {r : Int32} {a1 : Int32} {a2 : Int32} (s_27_0 : S 27 0 = true) (hm : f_X11_slips  m a1 a2 = some (r, mm)) : Fr S m mm := by
  unfold f_X11_slips at hm
  refine fr_wr hm (by first | assumption) (fun m1 hm => ?_)
  refine fr_cal hm (fun _ _ h => fr_X11_isChild h) (fun x3 m2 hm => ?_)
  refine fr_if hm (fun hm => ?_) (fun hm => ?_)
  · skip
    exact fr_ret hm
  · skip
    refine fr_cal hm (fun _ _ h => fr_X11_isElder h) (fun x5 m4 hm => ?_)
    refine fr_if hm (fun hm => ?_) (fun hm => ?_)
    · skip
      exact fr_ret hm
    · skip
      refine fr_cal hm (fun _ _ h => fr_X11_slipsOf h) (fun x7 m6 hm => ?_)
      exact fr_ret hm
set_option maxRecDepth 4000 in
theorem fr_X11_examiner {S : Nat → Nat → Bool} {m mm : Sg} {r : Int32} (s_27_0 : S 27 0 = true) (hm : f_X11_examiner  m  = some (r, mm)) : Fr S m mm := by
  unfold f_X11_examiner at hm
  refine fr_wr hm (by first | assumption) (fun m1 hm => ?_)
  refine fr_fi hm (fun hm => ?_) (fun hm => ?_)
  · skip
    refine fr_cal hm (fun _ _ h => fr_X11_examinerOf h) (fun x3 m2 hm => ?_)
    exact fr_ret hm
  · skip
    exact fr_ret hm
set_option maxRecDepth 4000 in
theorem fr_X11_draw {S : Nat → Nat → Bool} {m mm : Sg} {r : Int32} {a1 : Int32} (l_27 : S 27 1000000 = true) (hm : f_X11_draw  m a1 = some (r, mm)) : Fr S m mm := by
  unfold f_X11_draw at hm
  refine fr_wrl hm (by first | assumption) (fun m1 hm => ?_)
  refine fr_n hm (fun hm => ?_)
  exact fr_ret hm
set_option maxRecDepth 4000 in
theorem fr_X11_begins {S : Nat → Nat → Bool} {m mm : Sg} {w : Nat} {a1 : Int32} (s_w : ∀ k, S w k = true) (s_27_35 : S 27 35 = true) (hm : f_X11_begins w m a1 = some mm) : Fr S m mm := by
  unfold f_X11_begins at hm
  refine fr_n hm (fun hm => ?_)
  refine fr_st hm (by first | exact s_w _ | assumption) (fun m1 hm => ?_)
  refine fr_n hm (fun hm => ?_)
  refine fr_st hm (by first | exact s_w _ | assumption) (fun m2 hm => ?_)
  refine fr_wr hm (by first | exact s_w _ | assumption) (fun m3 hm => ?_)
  exact fr_retv hm
set_option maxRecDepth 4000 in
theorem fr_X11_isRival {S : Nat → Nat → Bool} {m mm : Sg} {r : Int32} {w : Nat} {a1 : Int32} {a2 : Int32} (hm : f_X11_isRival w m a1 a2 = some (r, mm)) : Fr S m mm := by
  unfold f_X11_isRival at hm
  refine fr_b hm (fun x1 hm => ?_)
  refine fr_n hm (fun hm => ?_)
  refine fr_if hm (fun hm => ?_) (fun hm => ?_)
  · skip
    exact fr_ret hm
  · skip
    refine fr_cal hm (fun _ _ h => fr_X11_slipsOf h) (fun x3 m2 hm => ?_)
    refine fr_fi hm (fun hm => ?_) (fun hm => ?_)
    · skip
      exact fr_ret hm
    · skip
      refine g_jn (J := fun (s : Sg) => Fr S s mm) hm ?_ ?_
      · intro m4 hm
        exact fr_ret hm
      · intro k5 hk5 hm
        refine fr_if hm (fun hm => ?_) (fun hm => ?_)
        · skip
          exact hk5 _ hm
        · skip
          refine fr_n hm (fun hm => ?_)
          refine fr_n hm (fun hm => ?_)
          refine fr_if hm (fun hm => ?_) (fun hm => ?_)
          · skip
            exact fr_ret hm
          · skip
            exact hk5 _ hm
set_option maxRecDepth 4000 in
theorem fr_X11_writes {S : Nat → Nat → Bool} {m mm : Sg} {w : Nat} {a1 : Int32} {a2 : Int32} (s_w : ∀ k, S w k = true) (hm : f_X11_writes w m a1 a2 = some mm) : Fr S m mm := by
  unfold f_X11_writes at hm
  refine g_jn (J := fun (s : Sg) => Fr S s mm) hm ?_ ?_
  · intro m1 hm
    refine fr_b hm (fun x3 hm => ?_)
    refine fr_st hm (by first | exact s_w _ | assumption) (fun m4 hm => ?_)
    refine fr_st hm (by first | exact s_w _ | assumption) (fun m5 hm => ?_)
    refine fr_st hm (by first | exact s_w _ | assumption) (fun m6 hm => ?_)
    refine fr_wr hm (by first | exact s_w _ | assumption) (fun m7 hm => ?_)
    exact fr_retv hm
  · intro k2 hk2 hm
    refine fr_fi hm (fun hm => ?_) (fun hm => ?_)
    · skip
      exact hk2 _ hm
    · skip
      refine g_lp (I := fun (s : Sg × Int32) => Fr S s.1 mm) (E := fun (s : Sg) => Fr S s mm) hm ?_ ?_
      · rintro m10 hm
        (try dsimp only at hm)
        (try dsimp only)
        refine fr_wr hm (by first | exact s_w _ | assumption) (fun m15 hm => ?_)
        exact hk2 _ hm
      · rintro ⟨m8, x9⟩ o hm hx12 hi11
        (try dsimp only [f_X11_writes_L12] at hm)
        (try dsimp only)
        refine fr_if hm (fun hm => ?_) (fun hm => ?_)
        · skip
          cases hm
          exact hx12 _ rfl
        · skip
          refine fr_n hm (fun hm => ?_)
          refine fr_st hm (by first | exact s_w _ | assumption) (fun m13 hm => ?_)
          refine fr_b hm (fun x14 hm => ?_)
          cases hm
          exact hi11 _ rfl
set_option maxRecDepth 4000 in
theorem fr_X11_remember {S : Nat → Nat → Bool} {m mm : Sg} (s_27_39 : S 27 39 = true) (s_41 : ∀ k, S 41 k = true) (hm : f_X11_remember  m  = some mm) : Fr S m mm := by
  unfold f_X11_remember at hm
  refine g_jn (J := fun (s : Sg) => Fr S s mm) hm ?_ ?_
  · intro m1 hm
    refine g_lp (I := fun (s : Sg × Int32) => Fr S s.1 mm) (E := fun (s : Sg) => Fr S s mm) hm ?_ ?_
    · rintro m5 hm
      (try dsimp only at hm)
      (try dsimp only)
      refine fr_wr hm (by first | exact s_27_39 | exact s_41 _ | assumption) (fun m10 hm => ?_)
      exact fr_retv hm
    · rintro ⟨m3, x4⟩ o hm hx7 hi6
      (try dsimp only [f_X11_remember_L52] at hm)
      (try dsimp only)
      refine fr_if hm (fun hm => ?_) (fun hm => ?_)
      · skip
        cases hm
        exact hx7 _ rfl
      · skip
        refine fr_n hm (fun hm => ?_)
        refine fr_st hm (by first | exact s_27_39 | exact s_41 _ | assumption) (fun m8 hm => ?_)
        refine fr_b hm (fun x9 hm => ?_)
        cases hm
        exact hi6 _ rfl
  · intro k2 hk2 hm
    refine fr_fi hm (fun hm => ?_) (fun hm => ?_)
    · exact hk2 _ hm
    · skip
      refine g_lp (I := fun (s : Sg × Int32) => Fr S s.1 mm) (E := fun (s : Sg) => Fr S s mm) hm ?_ ?_
      · rintro m13 hm
        (try dsimp only at hm)
        (try dsimp only)
        refine fr_wr hm (by first | exact s_27_39 | exact s_41 _ | assumption) (fun m18 hm => ?_)
        exact hk2 _ hm
      · rintro ⟨m11, x12⟩ o hm hx15 hi14
        (try dsimp only [f_X11_remember_L11] at hm)
        (try dsimp only)
        refine fr_if hm (fun hm => ?_) (fun hm => ?_)
        · skip
          cases hm
          exact hx15 _ rfl
        · skip
          refine fr_n hm (fun hm => ?_)
          refine fr_st hm (by first | exact s_27_39 | exact s_41 _ | assumption) (fun m16 hm => ?_)
          refine fr_b hm (fun x17 hm => ?_)
          cases hm
          exact hi14 _ rfl
set_option maxRecDepth 4000 in
theorem fr_X11_isTen {S : Nat → Nat → Bool} {m mm : Sg} {r : Int32} {a1 : Int32} (hm : f_X11_isTen  m a1 = some (r, mm)) : Fr S m mm := by
  unfold f_X11_isTen at hm
  refine fr_cal hm (fun _ _ h => fr_X11_isIn h) (fun x2 m1 hm => ?_)
  exact fr_retz hm
set_option maxRecDepth 4000 in
theorem fr_X11_teach {S : Nat → Nat → Bool} {m mm : Sg} {r : Int32} {a1 : Int32} {a2 : Int32} (s_27_0 : S 27 0 = true) (s_27_39 : S 27 39 = true) (s_38 : ∀ k, S 38 k = true) (s_41 : ∀ k, S 41 k = true) (hm : f_X11_teach  m a1 a2 = some (r, mm)) : Fr S m mm := by
  unfold f_X11_teach at hm
  refine fr_wr hm (by first | exact s_38 _ | exact s_41 _ | assumption) (fun m1 hm => ?_)
  refine fr_cal hm (fun _ _ h => fr_X11_isChild h) (fun x3 m2 hm => ?_)
  refine fr_if hm (fun hm => ?_) (fun hm => ?_)
  · skip
    exact fr_ret hm
  · skip
    refine fr_cal hm (fun _ _ h => fr_X11_isTen h) (fun x5 m4 hm => ?_)
    refine fr_if hm (fun hm => ?_) (fun hm => ?_)
    · skip
      exact fr_ret hm
    · skip
      refine fr_n hm (fun hm => ?_)
      refine fr_fi hm (fun hm => ?_) (fun hm => ?_)
      · skip
        exact fr_ret hm
      · skip
        refine fr_n hm (fun hm => ?_)
        refine fr_cal hm (fun _ _ h => fr_X11_has h) (fun x7 m6 hm => ?_)
        refine fr_fi hm (fun hm => ?_) (fun hm => ?_)
        · skip
          exact fr_ret hm
        · skip
          refine fr_cal hm (fun _ _ h => fr_X11_rightOf h) (fun x9 m8 hm => ?_)
          refine fr_cal hm (fun _ _ h => fr_X11_has h) (fun x11 m10 hm => ?_)
          refine fr_if hm (fun hm => ?_) (fun hm => ?_)
          · skip
            refine fr_calv hm (fun _ h => fr_X11_remember (by first | exact s_38 _ | exact s_41 _ | assumption) (by first | exact s_38 _ | exact s_41 _ | assumption) h) (fun m12 hm => ?_)
            refine fr_st hm (by first | exact s_38 _ | exact s_41 _ | assumption) (fun m13 hm => ?_)
            refine fr_n hm (fun hm => ?_)
            refine fr_st hm (by first | exact s_38 _ | exact s_41 _ | assumption) (fun m14 hm => ?_)
            exact fr_ret hm
          · skip
            exact fr_ret hm
set_option maxRecDepth 4000 in
theorem fr_X11_wrong {S : Nat → Nat → Bool} {m mm : Sg} {r : Int32} {a1 : Int32} {a2 : Int32} (s_27_0 : S 27 0 = true) (s_27_39 : S 27 39 = true) (s_38 : ∀ k, S 38 k = true) (s_41 : ∀ k, S 41 k = true) (hm : f_X11_wrong  m a1 a2 = some (r, mm)) : Fr S m mm := by
  unfold f_X11_wrong at hm
  refine fr_wr hm (by first | exact s_38 _ | exact s_41 _ | assumption) (fun m1 hm => ?_)
  refine fr_cal hm (fun _ _ h => fr_X11_isChild h) (fun x3 m2 hm => ?_)
  refine fr_if hm (fun hm => ?_) (fun hm => ?_)
  · skip
    exact fr_ret hm
  · skip
    refine fr_cal hm (fun _ _ h => fr_X11_isTen h) (fun x5 m4 hm => ?_)
    refine fr_if hm (fun hm => ?_) (fun hm => ?_)
    · skip
      exact fr_ret hm
    · skip
      refine fr_n hm (fun hm => ?_)
      refine fr_cal hm (fun _ _ h => fr_X11_has h) (fun x7 m6 hm => ?_)
      refine fr_if hm (fun hm => ?_) (fun hm => ?_)
      · skip
        refine fr_calv hm (fun _ h => fr_X11_remember (by first | exact s_38 _ | exact s_41 _ | assumption) (by first | exact s_38 _ | exact s_41 _ | assumption) h) (fun m8 hm => ?_)
        refine fr_n hm (fun hm => ?_)
        refine fr_st hm (by first | exact s_38 _ | exact s_41 _ | assumption) (fun m9 hm => ?_)
        exact fr_ret hm
      · skip
        exact fr_ret hm
set_option maxRecDepth 4000 in
theorem fr_X11_keeps {S : Nat → Nat → Bool} {m mm : Sg} {w : Nat} {a1 : Int32} {a2 : Int32} (s_w : ∀ k, S w k = true) (hm : f_X11_keeps w m a1 a2 = some mm) : Fr S m mm := by
  unfold f_X11_keeps at hm
  refine fr_n hm (fun hm => ?_)
  refine fr_st hm (by first | exact s_w _ | assumption) (fun m1 hm => ?_)
  refine fr_n hm (fun hm => ?_)
  refine fr_if hm (fun hm => ?_) (fun hm => ?_)
  · skip
    refine fr_st hm (by first | exact s_w _ | assumption) (fun m2 hm => ?_)
    refine fr_st hm (by first | exact s_w _ | assumption) (fun m3 hm => ?_)
    exact fr_retv hm
  · exact fr_retv hm
set_option maxRecDepth 4000 in
theorem fr_X11_keep {S : Nat → Nat → Bool} {m mm : Sg} {r : Int32} {a1 : Int32} {a2 : Int32} {a3 : Int32} (s_27_0 : S 27 0 = true) (s_27_39 : S 27 39 = true) (s_38 : ∀ k, S 38 k = true) (s_41 : ∀ k, S 41 k = true) (hm : f_X11_keep  m a1 a2 a3 = some (r, mm)) : Fr S m mm := by
  unfold f_X11_keep at hm
  refine fr_wr hm (by first | exact s_38 _ | exact s_41 _ | assumption) (fun m1 hm => ?_)
  refine fr_cal hm (fun _ _ h => fr_X11_isChild h) (fun x3 m2 hm => ?_)
  refine fr_if hm (fun hm => ?_) (fun hm => ?_)
  · skip
    exact fr_ret hm
  · skip
    refine fr_cal hm (fun _ _ h => fr_X11_isTen h) (fun x5 m4 hm => ?_)
    refine fr_if hm (fun hm => ?_) (fun hm => ?_)
    · skip
      exact fr_ret hm
    · skip
      refine fr_n hm (fun hm => ?_)
      refine fr_cal hm (fun _ _ h => fr_X11_has h) (fun x7 m6 hm => ?_)
      refine fr_fi hm (fun hm => ?_) (fun hm => ?_)
      · skip
        refine fr_calv hm (fun _ h => fr_X11_remember (by first | exact s_38 _ | exact s_41 _ | assumption) (by first | exact s_38 _ | exact s_41 _ | assumption) h) (fun m8 hm => ?_)
        refine g_jn (J := fun (s : Sg) => Fr S s mm) hm ?_ ?_
        · intro m9 hm
          exact fr_ret hm
        · intro k10 hk10 hm
          refine fr_if hm (fun hm => ?_) (fun hm => ?_)
          · skip
            refine fr_n hm (fun hm => ?_)
            refine fr_st hm (by first | exact s_38 _ | exact s_41 _ | assumption) (fun m11 hm => ?_)
            exact hk10 _ hm
          · skip
            refine fr_calv hm (fun _ h => fr_X11_keeps (by first | exact s_38 _ | exact s_41 _ | assumption) h) (fun m12 hm => ?_)
            exact hk10 _ hm
      · skip
        exact fr_ret hm
set_option maxRecDepth 4000 in
theorem fr_X11_isRight {S : Nat → Nat → Bool} {m mm : Sg} {w : Nat} {a1 : Int32} {a2 : Int32} (s_w : ∀ k, S w k = true) (hm : f_X11_isRight w m a1 a2 = some mm) : Fr S m mm := by
  unfold f_X11_isRight at hm
  refine fr_n hm (fun hm => ?_)
  refine fr_st hm (by first | exact s_w _ | assumption) (fun m1 hm => ?_)
  refine fr_n hm (fun hm => ?_)
  refine fr_st hm (by first | exact s_w _ | assumption) (fun m2 hm => ?_)
  exact fr_retv hm
set_option maxRecDepth 4000 in
theorem fr_X11_buy {S : Nat → Nat → Bool} {m mm : Sg} {r : Int32} {a1 : Int32} {a2 : Int32} (s_27_0 : S 27 0 = true) (s_27_39 : S 27 39 = true) (s_38 : ∀ k, S 38 k = true) (s_41 : ∀ k, S 41 k = true) (hm : f_X11_buy  m a1 a2 = some (r, mm)) : Fr S m mm := by
  unfold f_X11_buy at hm
  refine fr_wr hm (by first | exact s_38 _ | exact s_41 _ | assumption) (fun m1 hm => ?_)
  refine fr_cal hm (fun _ _ h => fr_X11_isChild h) (fun x3 m2 hm => ?_)
  refine fr_if hm (fun hm => ?_) (fun hm => ?_)
  · skip
    exact fr_ret hm
  · skip
    refine fr_cal hm (fun _ _ h => fr_X11_isTen h) (fun x5 m4 hm => ?_)
    refine fr_if hm (fun hm => ?_) (fun hm => ?_)
    · skip
      exact fr_ret hm
    · skip
      refine fr_cal hm (fun _ _ h => fr_X11_rightOf h) (fun x7 m6 hm => ?_)
      refine fr_cal hm (fun _ _ h => fr_X11_has h) (fun x9 m8 hm => ?_)
      refine fr_fi hm (fun hm => ?_) (fun hm => ?_)
      · skip
        exact fr_ret hm
      · skip
        refine fr_if hm (fun hm => ?_) (fun hm => ?_)
        · skip
          refine fr_calv hm (fun _ h => fr_X11_remember (by first | exact s_38 _ | exact s_41 _ | assumption) (by first | exact s_38 _ | exact s_41 _ | assumption) h) (fun m10 hm => ?_)
          refine fr_wr hm (by first | exact s_38 _ | exact s_41 _ | assumption) (fun m11 hm => ?_)
          refine fr_calv hm (fun _ h => fr_X11_isRight (by first | exact s_38 _ | exact s_41 _ | assumption) h) (fun m12 hm => ?_)
          exact fr_ret hm
        · skip
          exact fr_ret hm
set_option maxRecDepth 4000 in
theorem fr_X11_undo {S : Nat → Nat → Bool} {m mm : Sg} {r : Int32} (s_27_0 : S 27 0 = true) (s_27_39 : S 27 39 = true) (s_38 : ∀ k, S 38 k = true) (hm : f_X11_undo  m  = some (r, mm)) : Fr S m mm := by
  unfold f_X11_undo at hm
  refine fr_wr hm (by first | exact s_38 _ | assumption) (fun m1 hm => ?_)
  refine fr_fi hm (fun hm => ?_) (fun hm => ?_)
  · skip
    refine fr_wr hm (by first | exact s_38 _ | assumption) (fun m2 hm => ?_)
    refine g_lp (I := fun (s : Sg × Int32) => Fr S s.1 mm) (E := fun (s : Sg) => Fr S s mm) hm ?_ ?_
    · rintro m5 hm
      (try dsimp only at hm)
      (try dsimp only)
      exact fr_ret hm
    · rintro ⟨m3, x4⟩ o hm hx7 hi6
      (try dsimp only [f_X11_undo_L26] at hm)
      (try dsimp only)
      refine fr_if hm (fun hm => ?_) (fun hm => ?_)
      · skip
        cases hm
        exact hx7 _ rfl
      · skip
        refine fr_n hm (fun hm => ?_)
        refine fr_st hm (by first | exact s_38 _ | assumption) (fun m8 hm => ?_)
        refine fr_b hm (fun x9 hm => ?_)
        cases hm
        exact hi6 _ rfl
  · skip
    exact fr_ret hm
set_option maxRecDepth 4000 in
theorem fr_X11_log {S : Nat → Nat → Bool} {m mm : Sg} {r : Int32} {a1 : Int32} {a2 : Int32} (s_27_0 : S 27 0 = true) (hm : f_X11_log  m a1 a2 = some (r, mm)) : Fr S m mm := by
  unfold f_X11_log at hm
  refine fr_wr hm (by first | assumption) (fun m1 hm => ?_)
  refine fr_cal hm (fun _ _ h => fr_X11_isIn h) (fun x3 m2 hm => ?_)
  refine g_jn (J := fun (s : Sg) => Fr S s mm) hm ?_ ?_
  · intro m4 hm
    exact fr_ret hm
  · intro k5 hk5 hm
    refine fr_if hm (fun hm => ?_) (fun hm => ?_)
    · skip
      exact hk5 _ hm
    · skip
      refine fr_cal hm (fun _ _ h => fr_X11_isIn h) (fun x7 m6 hm => ?_)
      refine fr_if hm (fun hm => ?_) (fun hm => ?_)
      · skip
        exact hk5 _ hm
      · skip
        refine fr_n hm (fun hm => ?_)
        exact fr_ret hm
set_option maxRecDepth 4000 in
theorem fr_X11_isNursery {S : Nat → Nat → Bool} {m mm : Sg} {r : Int32} {a1 : Int32} (hm : f_X11_isNursery  m a1 = some (r, mm)) : Fr S m mm := by
  unfold f_X11_isNursery at hm
  refine fr_if hm (fun hm => ?_) (fun hm => ?_)
  · skip
    exact fr_ret hm
  · skip
    refine fr_cal hm (fun _ _ h => fr_X11_isIn h) (fun x2 m1 hm => ?_)
    refine fr_if hm (fun hm => ?_) (fun hm => ?_)
    · skip
      exact fr_ret hm
    · skip
      exact fr_ret hm
set_option maxRecDepth 4000 in
theorem fr_X11_plumsOf {S : Nat → Nat → Bool} {m mm : Sg} {r : Int32} {a1 : Int32} {a2 : Int32} (hm : f_X11_plumsOf  m a1 a2 = some (r, mm)) : Fr S m mm := by
  unfold f_X11_plumsOf at hm
  refine fr_cal hm (fun _ _ h => fr_X11_slipsOf h) (fun x2 m1 hm => ?_)
  refine fr_cal hm (fun _ _ h => fr_J6_bitCount_0f7a4 h) (fun x4 m3 hm => ?_)
  exact fr_ret hm
set_option maxRecDepth 4000 in
theorem fr_X11_plums {S : Nat → Nat → Bool} {m mm : Sg} {r : Int32} {a1 : Int32} (s_27_0 : S 27 0 = true) (hm : f_X11_plums  m a1 = some (r, mm)) : Fr S m mm := by
  unfold f_X11_plums at hm
  refine fr_wr hm (by first | assumption) (fun m1 hm => ?_)
  refine g_jn (J := fun (s : Sg × Int32) => Fr S s.1 mm) hm ?_ ?_
  · rintro ⟨m2, x3⟩ hm
    (try dsimp only at hm)
    (try dsimp only)
    refine g_jn (J := fun (s : Sg) => Fr S s mm) hm ?_ ?_
    · intro m5 hm
      exact fr_ret hm
    · intro k6 hk6 hm
      refine fr_if hm (fun hm => ?_) (fun hm => ?_)
      · skip
        exact hk6 _ hm
      · skip
        refine fr_cal hm (fun _ _ h => fr_X11_isChild h) (fun x8 m7 hm => ?_)
        refine fr_fi hm (fun hm => ?_) (fun hm => ?_)
        · skip
          refine fr_cal hm (fun _ _ h => fr_X11_plumsOf h) (fun x10 m9 hm => ?_)
          exact fr_ret hm
        · skip
          exact hk6 _ hm
  · intro k4 hk4 hm
    refine fr_fi hm (fun hm => ?_) (fun hm => ?_)
    · skip
      refine fr_cal hm (fun _ _ h => fr_X11_examinerOf h) (fun x12 m11 hm => ?_)
      exact hk4 _ hm
    · skip
      exact hk4 _ hm
set_option maxRecDepth 4000 in
theorem fr_X11_peace {S : Nat → Nat → Bool} {m mm : Sg} {r : Int32} {a1 : Int32} {a2 : Int32} (s_27_0 : S 27 0 = true) (hm : f_X11_peace  m a1 a2 = some (r, mm)) : Fr S m mm := by
  unfold f_X11_peace at hm
  refine fr_wr hm (by first | assumption) (fun m1 hm => ?_)
  refine g_jn (J := fun (s : Sg × Int32) => Fr S s.1 mm) hm ?_ ?_
  · rintro ⟨m2, x3⟩ hm
    (try dsimp only at hm)
    (try dsimp only)
    refine fr_if hm (fun hm => ?_) (fun hm => ?_)
    · skip
      exact fr_ret hm
    · skip
      refine fr_cal hm (fun _ _ h => fr_X11_isNursery h) (fun x6 m5 hm => ?_)
      refine fr_if hm (fun hm => ?_) (fun hm => ?_)
      · skip
        exact fr_ret hm
      · skip
        refine fr_cal hm (fun _ _ h => fr_X11_isIn h) (fun x8 m7 hm => ?_)
        refine fr_fi hm (fun hm => ?_) (fun hm => ?_)
        · skip
          refine fr_b hm (fun x9 hm => ?_)
          refine g_lp (I := fun (s : Sg × Int32 × Int32 × Int32) => Fr S s.1 mm) (E := fun (s : Sg × Int32 × Int32) => Fr S s.1 mm) hm ?_ ?_
          · rintro ⟨m14, x15, x16⟩ hm
            (try dsimp only at hm)
            (try dsimp only)
            refine fr_fi hm (fun hm => ?_) (fun hm => ?_)
            · skip
              refine fr_fi hm (fun hm => ?_) (fun hm => ?_)
              · skip
                exact fr_ret hm
              · skip
                exact fr_ret hm
            · skip
              exact fr_ret hm
          · rintro ⟨m10, x11, x12, x13⟩ o hm hx18 hi17
            (try dsimp only [f_X11_peace_L69] at hm)
            (try dsimp only)
            refine fr_if hm (fun hm => ?_) (fun hm => ?_)
            · skip
              cases hm
              exact hx18 _ rfl
            · skip
              refine fr_n hm (fun hm => ?_)
              refine g_jn (J := fun (s : Sg × Int32 × Int32) => Fr S s.1 mm) hm ?_ ?_
              · rintro ⟨m19, x20, x21⟩ hm
                (try dsimp only at hm)
                (try dsimp only)
                refine fr_b hm (fun x23 hm => ?_)
                cases hm
                exact hi17 _ rfl
              · intro k22 hk22 hm
                refine fr_fi hm (fun hm => ?_) (fun hm => ?_)
                · exact hk22 _ hm
                · skip
                  refine fr_n hm (fun hm => ?_)
                  refine fr_if hm (fun hm => ?_) (fun hm => ?_)
                  · skip
                    refine g_jn (J := fun (s : Sg) => Fr S s mm) hm ?_ ?_
                    · intro m24 hm
                      refine g_jn (J := fun (s : Sg × Int32) => Fr S s.1 mm) hm ?_ ?_
                      · rintro ⟨m26, x27⟩ hm
                        (try dsimp only at hm)
                        (try dsimp only)
                        refine g_jn (J := fun (s : Sg) => Fr S s mm) hm ?_ ?_
                        · intro m29 hm
                          exact hk22 _ hm
                        · intro k30 hk30 hm
                          refine fr_if hm (fun hm => ?_) (fun hm => ?_)
                          · skip
                            exact hk30 _ hm
                          · skip
                            refine fr_if hm (fun hm => ?_) (fun hm => ?_)
                            · skip
                              exact hk30 _ hm
                            · skip
                              exact hk22 _ hm
                      · intro k28 hk28 hm
                        refine fr_fi hm (fun hm => ?_) (fun hm => ?_)
                        · skip
                          refine fr_cal hm (fun _ _ h => fr_X11_plumsOf h) (fun x32 m31 hm => ?_)
                          exact hk28 _ hm
                        · skip
                          exact hk28 _ hm
                    · intro k25 hk25 hm
                      refine fr_if hm (fun hm => ?_) (fun hm => ?_)
                      · exact hk25 _ hm
                      · skip
                        refine fr_if hm (fun hm => ?_) (fun hm => ?_)
                        · exact hk25 _ hm
                        · skip
                          refine fr_n hm (fun hm => ?_)
                          refine fr_n hm (fun hm => ?_)
                          refine fr_if hm (fun hm => ?_) (fun hm => ?_)
                          · exact hk25 _ hm
                          · skip
                            exact hk22 _ hm
                  · skip
                    exact hk22 _ hm
        · skip
          exact fr_ret hm
  · intro k4 hk4 hm
    refine fr_fi hm (fun hm => ?_) (fun hm => ?_)
    · skip
      refine fr_cal hm (fun _ _ h => fr_X11_examinerOf h) (fun x34 m33 hm => ?_)
      exact hk4 _ hm
    · skip
      exact hk4 _ hm
