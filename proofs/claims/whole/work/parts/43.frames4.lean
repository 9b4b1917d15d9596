/-! what a mirror leaves alone, further -/
set_option maxRecDepth 4000 in
theorem fr_X11_teachesAtOnce {S : Nat → Nat → Bool} {m mm : Sg} {a1 : Int32} (s_39 : ∀ k, S 39 k = true) (hm : f_X11_teachesAtOnce  m a1 = some mm) : Fr S m mm := by
  unfold f_X11_teachesAtOnce at hm
  refine fr_cal hm (fun _ _ h => fr_X11_countOf h) (fun x2 m1 hm => ?_)
  refine fr_b hm (fun x3 hm => ?_)
  refine fr_if hm (fun hm => ?_) (fun hm => ?_)
  · exact fr_retv hm
  · skip
    refine fr_calv hm (fun _ h => fr_X11_isRight (by first | exact s_39 _ | assumption) h) (fun m4 hm => ?_)
    exact fr_retv hm
set_option maxRecDepth 4000 in
theorem fr_X11_isOf {S : Nat → Nat → Bool} {m mm : Sg} {r : Int32} {a1 : Int32} {a2 : Int32} (hm : f_X11_isOf  m a1 a2 = some (r, mm)) : Fr S m mm := by
  unfold f_X11_isOf at hm
  refine fr_cal hm (fun _ _ h => fr_X11_isChild h) (fun x2 m1 hm => ?_)
  refine fr_if hm (fun hm => ?_) (fun hm => ?_)
  · skip
    exact fr_ret hm
  · skip
    refine fr_n hm (fun hm => ?_)
    refine fr_fi hm (fun hm => ?_) (fun hm => ?_)
    · skip
      exact fr_ret hm
    · skip
      exact fr_ret hm
set_option maxRecDepth 4000 in
theorem fr_X11_isRest {S : Nat → Nat → Bool} {m mm : Sg} {r : Int32} {a1 : Int32} {a2 : Int32} {a3 : Int32} {a4 : Int32} (hm : f_X11_isRest  m a1 a2 a3 a4 = some (r, mm)) : Fr S m mm := by
  unfold f_X11_isRest at hm
  refine fr_n hm (fun hm => ?_)
  refine fr_b hm (fun x1 hm => ?_)
  refine g_lp (I := fun (s : Sg × Int32) => Fr S s.1 mm) (E := fun (x : (Sg) ⊕ (Sg)) => match x with | .inl m4 => Fr S m4 mm | .inr m5 => Fr S m5 mm) hm ?_ ?_
  · rintro (m4 | m5) hm
    · (try dsimp only at hm)
      (try dsimp only)
      exact fr_ret hm
    · (try dsimp only at hm)
      (try dsimp only)
      exact fr_ret hm
  · rintro ⟨m2, x3⟩ o hm hx7 hi6
    (try dsimp only [f_X11_isRest_L17] at hm)
    (try dsimp only)
    refine fr_if hm (fun hm => ?_) (fun hm => ?_)
    · skip
      cases hm
      exact hx7 _ rfl
    · skip
      refine fr_cal hm (fun _ _ h => fr_X11_isOf h) (fun x9 m8 hm => ?_)
      refine g_jn (J := fun (s : Sg) => Fr S s mm) hm ?_ ?_
      · intro m10 hm
        refine fr_cal hm (fun _ _ h => fr_X11_isOf h) (fun x13 m12 hm => ?_)
        refine g_jn (J := fun (s : Sg) => Fr S s mm) hm ?_ ?_
        · intro m14 hm
          refine fr_b hm (fun x16 hm => ?_)
          cases hm
          exact hi6 _ rfl
        · intro k15 hk15 hm
          refine fr_if hm (fun hm => ?_) (fun hm => ?_)
          · exact hk15 _ hm
          · skip
            refine fr_n hm (fun hm => ?_)
            refine fr_if hm (fun hm => ?_) (fun hm => ?_)
            · exact hk15 _ hm
            · skip
              cases hm
              exact hx7 _ rfl
      · intro k11 hk11 hm
        refine fr_if hm (fun hm => ?_) (fun hm => ?_)
        · exact hk11 _ hm
        · skip
          refine fr_n hm (fun hm => ?_)
          refine fr_if hm (fun hm => ?_) (fun hm => ?_)
          · skip
            cases hm
            exact hx7 _ rfl
          · exact hk11 _ hm
set_option maxRecDepth 4000 in
theorem fr_X11_couldTeach {S : Nat → Nat → Bool} {m mm : Sg} {r : Int32} {a1 : Int32} {a2 : Int32} (hm : f_X11_couldTeach  m a1 a2 = some (r, mm)) : Fr S m mm := by
  unfold f_X11_couldTeach at hm
  refine g_lp (I := fun (s : Sg × Int32 × Int32) => Fr S s.1 mm) (E := fun (s : Sg × Int32) => Fr S s.1 mm) hm ?_ ?_
  · rintro ⟨m4, x5⟩ hm
    (try dsimp only at hm)
    (try dsimp only)
    refine fr_cal hm (fun _ _ h => fr_X11_rightOf h) (fun x16 m15 hm => ?_)
    refine fr_fi hm (fun hm => ?_) (fun hm => ?_)
    · skip
      exact fr_ret hm
    · skip
      refine fr_n hm (fun hm => ?_)
      refine fr_fi hm (fun hm => ?_) (fun hm => ?_)
      · skip
        exact fr_ret hm
      · skip
        exact fr_ret hm
  · rintro ⟨m1, x2, x3⟩ o hm hx7 hi6
    (try dsimp only [f_X11_couldTeach_L5] at hm)
    (try dsimp only)
    refine fr_if hm (fun hm => ?_) (fun hm => ?_)
    · skip
      cases hm
      exact hx7 _ rfl
    · skip
      refine fr_cal hm (fun _ _ h => fr_X11_has h) (fun x9 m8 hm => ?_)
      refine g_jn (J := fun (s : Sg × Int32) => Fr S s.1 mm) hm ?_ ?_
      · rintro ⟨m10, x11⟩ hm
        (try dsimp only at hm)
        (try dsimp only)
        refine fr_b hm (fun x13 hm => ?_)
        refine fr_b hm (fun x14 hm => ?_)
        cases hm
        exact hi6 _ rfl
      · intro k12 hk12 hm
        refine fr_if hm (fun hm => ?_) (fun hm => ?_)
        · skip
          exact hk12 _ hm
        · skip
          refine fr_n hm (fun hm => ?_)
          exact hk12 _ hm
set_option maxRecDepth 4000 in
theorem fr_X11_teachers {S : Nat → Nat → Bool} {m mm : Sg} {r : Int32} {a1 : Int32} {a2 : Int32} (s_27_0 : S 27 0 = true) (hm : f_X11_teachers  m a1 a2 = some (r, mm)) : Fr S m mm := by
  unfold f_X11_teachers at hm
  refine fr_wr hm (by first | assumption) (fun m1 hm => ?_)
  refine fr_cal hm (fun _ _ h => fr_X11_isChild h) (fun x3 m2 hm => ?_)
  refine fr_if hm (fun hm => ?_) (fun hm => ?_)
  · skip
    exact fr_ret hm
  · skip
    refine fr_if hm (fun hm => ?_) (fun hm => ?_)
    · skip
      refine g_lp (I := fun (s : Sg × Int32 × Int32) => Fr S s.1 mm) (E := fun (x : (Sg × Int32) ⊕ (Sg × Int32)) => match x with | .inl (m7, x8) => Fr S m7 mm | .inr (m9, x10) => Fr S m9 mm) hm ?_ ?_
      · rintro (⟨m7, x8⟩ | ⟨m9, x10⟩) hm
        · (try dsimp only at hm)
          (try dsimp only)
          exact fr_ret hm
        · (try dsimp only at hm)
          (try dsimp only)
          refine fr_fi hm (fun hm => ?_) (fun hm => ?_)
          · skip
            exact fr_ret hm
          · skip
            exact fr_ret hm
      · rintro ⟨m4, x5, x6⟩ o hm hx12 hi11
        (try dsimp only [f_X11_teachers_L25] at hm)
        (try dsimp only)
        refine fr_if hm (fun hm => ?_) (fun hm => ?_)
        · skip
          cases hm
          exact hx12 _ rfl
        · skip
          refine fr_cal hm (fun _ _ h => fr_X11_couldTeach h) (fun x14 m13 hm => ?_)
          refine g_jn (J := fun (s : Sg × Int32) => Fr S s.1 mm) hm ?_ ?_
          · rintro ⟨m15, x16⟩ hm
            (try dsimp only at hm)
            (try dsimp only)
            refine fr_b hm (fun x18 hm => ?_)
            cases hm
            exact hi11 _ rfl
          · intro k17 hk17 hm
            refine fr_fi hm (fun hm => ?_) (fun hm => ?_)
            · skip
              refine fr_fi hm (fun hm => ?_) (fun hm => ?_)
              · refine fr_b hm (fun x19 hm => ?_)
                exact hk17 _ hm
              · skip
                cases hm
                exact hx12 _ rfl
            · skip
              exact hk17 _ hm
    · skip
      exact fr_ret hm
set_option maxRecDepth 4000 in
theorem fr_X11_spans {S : Nat → Nat → Bool} {m mm : Sg} {r : Int32} {a1 : Int32} {a2 : Int32} (s_27_0 : S 27 0 = true) (s_27_5 : S 27 5 = true) (s_27_8 : S 27 8 = true) (s_27_9 : S 27 9 = true) (s_27_10 : S 27 10 = true) (s_27_11 : S 27 11 = true) (s_27_12 : S 27 12 = true) (s_27_13 : S 27 13 = true) (s_27_14 : S 27 14 = true) (s_27_17 : S 27 17 = true) (s_31 : ∀ k, S 31 k = true) (hm : f_X11_spans  m a1 a2 = some (r, mm)) : Fr S m mm := by
  unfold f_X11_spans at hm
  refine fr_wr hm (by first | exact s_31 _ | assumption) (fun m1 hm => ?_)
  refine fr_cal hm (fun _ _ h => fr_X11_isChild h) (fun x3 m2 hm => ?_)
  refine fr_if hm (fun hm => ?_) (fun hm => ?_)
  · skip
    exact fr_ret hm
  · skip
    refine fr_cal hm (fun _ _ h => fr_X11_isIn h) (fun x5 m4 hm => ?_)
    refine fr_fi hm (fun hm => ?_) (fun hm => ?_)
    · skip
      refine g_lp (I := fun (s : Sg × Int32 × Int32) => Fr S s.1 mm) (E := fun (s : Sg × Int32) => Fr S s.1 mm) hm ?_ ?_
      · rintro ⟨m9, x10⟩ hm
        (try dsimp only at hm)
        (try dsimp only)
        exact fr_ret hm
      · rintro ⟨m6, x7, x8⟩ o hm hx12 hi11
        (try dsimp only [f_X11_spans_L32] at hm)
        (try dsimp only)
        refine fr_if hm (fun hm => ?_) (fun hm => ?_)
        · skip
          cases hm
          exact hx12 _ rfl
        · skip
          refine fr_n hm (fun hm => ?_)
          refine fr_n hm (fun hm => ?_)
          refine fr_cal hm (fun _ _ h => fr_X11_taxBy (by first | exact s_31 _ | assumption) (by first | exact s_31 _ | assumption) (by first | exact s_31 _ | assumption) (by first | exact s_31 _ | assumption) (by first | exact s_31 _ | assumption) (by first | exact s_31 _ | assumption) (by first | exact s_31 _ | assumption) (by first | exact s_31 _ | assumption) (by first | exact s_31 _ | assumption) (by first | exact s_31 _ | assumption) h) (fun x14 m13 hm => ?_)
          refine g_jn (J := fun (s : Sg × Int32) => Fr S s.1 mm) hm ?_ ?_
          · rintro ⟨m15, x16⟩ hm
            (try dsimp only at hm)
            (try dsimp only)
            refine fr_b hm (fun x18 hm => ?_)
            refine fr_b hm (fun x19 hm => ?_)
            cases hm
            exact hi11 _ rfl
          · intro k17 hk17 hm
            refine fr_fi hm (fun hm => ?_) (fun hm => ?_)
            · skip
              exact hk17 _ hm
            · skip
              exact hk17 _ hm
    · skip
      exact fr_ret hm
set_option maxRecDepth 4000 in
theorem fr_X11_isChain {S : Nat → Nat → Bool} {m mm : Sg} {r : Int32} {a1 : Int32} (hm : f_X11_isChain  m a1 = some (r, mm)) : Fr S m mm := by
  unfold f_X11_isChain at hm
  refine g_lp (I := fun (s : Sg × Int32) => Fr S s.1 mm) (E := fun (x : (Sg) ⊕ (Sg)) => match x with | .inl m3 => Fr S m3 mm | .inr m4 => Fr S m4 mm) hm ?_ ?_
  · rintro (m3 | m4) hm
    · (try dsimp only at hm)
      (try dsimp only)
      exact fr_ret hm
    · (try dsimp only at hm)
      (try dsimp only)
      exact fr_ret hm
  · rintro ⟨m1, x2⟩ o hm hx6 hi5
    (try dsimp only [f_X11_isChain_L2] at hm)
    (try dsimp only)
    refine fr_if hm (fun hm => ?_) (fun hm => ?_)
    · skip
      cases hm
      exact hx6 _ rfl
    · skip
      refine g_lp (I := fun (s : Sg × Int32) => Fr S s.1 mm) (E := fun (x : (Sg) ⊕ (Sg)) => match x with | .inl m9 => Fr S m9 mm | .inr m10 => Fr S m10 mm) hm ?_ ?_
      · rintro (m9 | m10) hm
        · (try dsimp only at hm)
          (try dsimp only)
          cases hm
          exact hx6 _ rfl
        · (try dsimp only at hm)
          (try dsimp only)
          refine fr_b hm (fun x25 hm => ?_)
          cases hm
          exact hi5 _ rfl
      · rintro ⟨m7, x8⟩ o hm hx12 hi11
        (try dsimp only [f_X11_isChain_L12] at hm)
        (try dsimp only)
        refine fr_if hm (fun hm => ?_) (fun hm => ?_)
        · skip
          cases hm
          exact hx12 _ rfl
        · skip
          refine g_jn (J := fun (s : Sg) => Fr S s mm) hm ?_ ?_
          · intro m13 hm
            refine fr_b hm (fun x15 hm => ?_)
            cases hm
            exact hi11 _ rfl
          · intro k14 hk14 hm
            refine fr_if hm (fun hm => ?_) (fun hm => ?_)
            · exact hk14 _ hm
            · skip
              refine fr_cal hm (fun _ _ h => fr_X11_has h) (fun x17 m16 hm => ?_)
              refine fr_if hm (fun hm => ?_) (fun hm => ?_)
              · exact hk14 _ hm
              · skip
                refine fr_cal hm (fun _ _ h => fr_X11_has h) (fun x19 m18 hm => ?_)
                refine fr_fi hm (fun hm => ?_) (fun hm => ?_)
                · skip
                  refine fr_n hm (fun hm => ?_)
                  refine fr_n hm (fun hm => ?_)
                  refine fr_b hm (fun x20 hm => ?_)
                  refine fr_if hm (fun hm => ?_) (fun hm => ?_)
                  · skip
                    cases hm
                    exact hx12 _ rfl
                  · skip
                    refine fr_if hm (fun hm => ?_) (fun hm => ?_)
                    · skip
                      exact hk14 _ hm
                    · skip
                      refine fr_cal hm (fun _ _ h => fr_X11_countOf h) (fun x22 m21 hm => ?_)
                      refine fr_cal hm (fun _ _ h => fr_X11_countOf h) (fun x24 m23 hm => ?_)
                      refine fr_if hm (fun hm => ?_) (fun hm => ?_)
                      · skip
                        exact hk14 _ hm
                      · skip
                        cases hm
                        exact hx12 _ rfl
                · skip
                  exact hk14 _ hm
set_option maxRecDepth 4000 in
theorem fr_X11_chain {S : Nat → Nat → Bool} {m mm : Sg} {r : Int32} {a1 : Int32} (s_27_0 : S 27 0 = true) (hm : f_X11_chain  m a1 = some (r, mm)) : Fr S m mm := by
  unfold f_X11_chain at hm
  refine fr_wr hm (by first | assumption) (fun m1 hm => ?_)
  refine fr_if hm (fun hm => ?_) (fun hm => ?_)
  · skip
    exact fr_ret hm
  · skip
    refine fr_cal hm (fun _ _ h => fr_X11_isIn h) (fun x3 m2 hm => ?_)
    refine fr_fi hm (fun hm => ?_) (fun hm => ?_)
    · skip
      refine g_lp (I := fun (s : Sg × Int32 × Int32) => Fr S s.1 mm) (E := fun (s : Sg × Int32) => Fr S s.1 mm) hm ?_ ?_
      · rintro ⟨m7, x8⟩ hm
        (try dsimp only at hm)
        (try dsimp only)
        refine fr_fi hm (fun hm => ?_) (fun hm => ?_)
        · skip
          exact fr_ret hm
        · skip
          refine fr_cal hm (fun _ _ h => fr_J6_bitCount_0f7a4 h) (fun x22 m21 hm => ?_)
          exact fr_ret hm
      · rintro ⟨m4, x5, x6⟩ o hm hx10 hi9
        (try dsimp only [f_X11_chain_L28] at hm)
        (try dsimp only)
        refine fr_if hm (fun hm => ?_) (fun hm => ?_)
        · skip
          cases hm
          exact hx10 _ rfl
        · skip
          refine fr_cal hm (fun _ _ h => fr_J6_bitCount_0f7a4 h) (fun x12 m11 hm => ?_)
          refine fr_cal hm (fun _ _ h => fr_J6_bitCount_0f7a4 h) (fun x14 m13 hm => ?_)
          refine g_jn (J := fun (s : Sg × Int32) => Fr S s.1 mm) hm ?_ ?_
          · rintro ⟨m15, x16⟩ hm
            (try dsimp only at hm)
            (try dsimp only)
            refine fr_b hm (fun x18 hm => ?_)
            cases hm
            exact hi9 _ rfl
          · intro k17 hk17 hm
            refine fr_if hm (fun hm => ?_) (fun hm => ?_)
            · exact hk17 _ hm
            · skip
              refine fr_cal hm (fun _ _ h => fr_X11_isChain h) (fun x20 m19 hm => ?_)
              refine fr_if hm (fun hm => ?_) (fun hm => ?_)
              · exact hk17 _ hm
              · skip
                exact hk17 _ hm
    · skip
      exact fr_ret hm
set_option maxRecDepth 4000 in
theorem fr_X11_threes {S : Nat → Nat → Bool} {m mm : Sg} {r : Int32} (s_27_0 : S 27 0 = true) (hm : f_X11_threes  m  = some (r, mm)) : Fr S m mm := by
  unfold f_X11_threes at hm
  refine fr_wr hm (by first | assumption) (fun m1 hm => ?_)
  refine fr_cal hm (fun _ _ h => fr_X11_examiner (by first | assumption) h) (fun x3 m2 hm => ?_)
  refine fr_fi hm (fun hm => ?_) (fun hm => ?_)
  · skip
    refine g_lp (I := fun (s : Sg × Int32 × Int32) => Fr S s.1 mm) (E := fun (s : Sg × Int32) => Fr S s.1 mm) hm ?_ ?_
    · rintro ⟨m7, x8⟩ hm
      (try dsimp only at hm)
      (try dsimp only)
      exact fr_ret hm
    · rintro ⟨m4, x5, x6⟩ o hm hx10 hi9
      (try dsimp only [f_X11_threes_L21] at hm)
      (try dsimp only)
      refine fr_if hm (fun hm => ?_) (fun hm => ?_)
      · skip
        cases hm
        exact hx10 _ rfl
      · skip
        refine fr_cal hm (fun _ _ h => fr_X11_slipsOf h) (fun x12 m11 hm => ?_)
        refine g_jn (J := fun (s : Sg × Int32) => Fr S s.1 mm) hm ?_ ?_
        · rintro ⟨m13, x14⟩ hm
          (try dsimp only at hm)
          (try dsimp only)
          refine fr_b hm (fun x16 hm => ?_)
          refine fr_b hm (fun x17 hm => ?_)
          cases hm
          exact hi9 _ rfl
        · intro k15 hk15 hm
          refine g_jn (J := fun (s : Sg) => Fr S s mm) hm ?_ ?_
          · intro m18 hm
            exact hk15 _ hm
          · intro k19 hk19 hm
            refine fr_fi hm (fun hm => ?_) (fun hm => ?_)
            · skip
              exact hk19 _ hm
            · skip
              refine fr_cal hm (fun _ _ h => fr_X11_asks h) (fun x21 m20 hm => ?_)
              refine fr_cal hm (fun _ _ h => fr_X11_rightOf h) (fun x23 m22 hm => ?_)
              refine fr_if hm (fun hm => ?_) (fun hm => ?_)
              · skip
                exact hk19 _ hm
              · skip
                exact hk15 _ hm
  · skip
    exact fr_ret hm
set_option maxRecDepth 4000 in
theorem fr_X11_party {S : Nat → Nat → Bool} {m mm : Sg} {r : Int32} {a1 : Int32} (s_27_0 : S 27 0 = true) (hm : f_X11_party  m a1 = some (r, mm)) : Fr S m mm := by
  unfold f_X11_party at hm
  refine fr_wr hm (by first | assumption) (fun m1 hm => ?_)
  refine fr_cal hm (fun _ _ h => fr_X11_isNursery h) (fun x3 m2 hm => ?_)
  refine fr_fi hm (fun hm => ?_) (fun hm => ?_)
  · skip
    refine g_lp (I := fun (s : Sg × Int32 × Int32) => Fr S s.1 mm) (E := fun (s : Sg × Int32) => Fr S s.1 mm) hm ?_ ?_
    · rintro ⟨m7, x8⟩ hm
      (try dsimp only at hm)
      (try dsimp only)
      exact fr_ret hm
    · rintro ⟨m4, x5, x6⟩ o hm hx10 hi9
      (try dsimp only [f_X11_party_L19] at hm)
      (try dsimp only)
      refine fr_if hm (fun hm => ?_) (fun hm => ?_)
      · skip
        cases hm
        exact hx10 _ rfl
      · skip
        refine fr_cal hm (fun _ _ h => fr_X11_isOf h) (fun x12 m11 hm => ?_)
        refine g_jn (J := fun (s : Sg × Int32) => Fr S s.1 mm) hm ?_ ?_
        · rintro ⟨m13, x14⟩ hm
          (try dsimp only at hm)
          (try dsimp only)
          refine fr_b hm (fun x16 hm => ?_)
          refine fr_b hm (fun x17 hm => ?_)
          cases hm
          exact hi9 _ rfl
        · intro k15 hk15 hm
          refine fr_if hm (fun hm => ?_) (fun hm => ?_)
          · skip
            exact hk15 _ hm
          · skip
            refine fr_cal hm (fun _ _ h => fr_X11_rightOf h) (fun x19 m18 hm => ?_)
            exact hk15 _ hm
  · skip
    exact fr_ret hm
set_option maxRecDepth 4000 in
theorem fr_X11_heir {S : Nat → Nat → Bool} {m mm : Sg} {r : Int32} (s_27_0 : S 27 0 = true) (hm : f_X11_heir  m  = some (r, mm)) : Fr S m mm := by
  unfold f_X11_heir at hm
  refine fr_wr hm (by first | assumption) (fun m1 hm => ?_)
  refine fr_cal hm (fun _ _ h => fr_X11_examiner (by first | assumption) h) (fun x3 m2 hm => ?_)
  refine g_lp (I := fun (s : Sg × Int32 × Int32) => Fr S s.1 mm) (E := fun (s : Sg × Int32) => Fr S s.1 mm) hm ?_ ?_
  · rintro ⟨m7, x8⟩ hm
    (try dsimp only at hm)
    (try dsimp only)
    exact fr_ret hm
  · rintro ⟨m4, x5, x6⟩ o hm hx10 hi9
    (try dsimp only [f_X11_heir_L14] at hm)
    (try dsimp only)
    refine fr_if hm (fun hm => ?_) (fun hm => ?_)
    · skip
      cases hm
      exact hx10 _ rfl
    · skip
      refine fr_if hm (fun hm => ?_) (fun hm => ?_)
      · skip
        cases hm
        exact hx10 _ rfl
      · skip
        refine g_jn (J := fun (s : Sg × Int32) => Fr S s.1 mm) hm ?_ ?_
        · rintro ⟨m11, x12⟩ hm
          (try dsimp only at hm)
          (try dsimp only)
          refine fr_b hm (fun x14 hm => ?_)
          cases hm
          exact hi9 _ rfl
        · intro k13 hk13 hm
          refine fr_if hm (fun hm => ?_) (fun hm => ?_)
          · exact hk13 _ hm
          · skip
            refine fr_n hm (fun hm => ?_)
            refine fr_if hm (fun hm => ?_) (fun hm => ?_)
            · exact hk13 _ hm
            · skip
              refine fr_cal hm (fun _ _ h => fr_X11_slipsOf h) (fun x16 m15 hm => ?_)
              refine fr_if hm (fun hm => ?_) (fun hm => ?_)
              · skip
                refine g_jn (J := fun (s : Sg) => Fr S s mm) hm ?_ ?_
                · intro m17 hm
                  exact hk13 _ hm
                · intro k18 hk18 hm
                  refine fr_if hm (fun hm => ?_) (fun hm => ?_)
                  · skip
                    exact hk18 _ hm
                  · skip
                    refine fr_n hm (fun hm => ?_)
                    refine fr_n hm (fun hm => ?_)
                    refine fr_if hm (fun hm => ?_) (fun hm => ?_)
                    · exact hk13 _ hm
                    · skip
                      exact hk18 _ hm
              · skip
                exact hk13 _ hm
set_option maxRecDepth 4000 in
theorem fr_X11_before {S : Nat → Nat → Bool} {m mm : Sg} {r : Int32} {a1 : Int32} (s_27_0 : S 27 0 = true) (hm : f_X11_before  m a1 = some (r, mm)) : Fr S m mm := by
  unfold f_X11_before at hm
  refine fr_wr hm (by first | assumption) (fun m1 hm => ?_)
  refine fr_cal hm (fun _ _ h => fr_X11_isChild h) (fun x3 m2 hm => ?_)
  refine fr_fi hm (fun hm => ?_) (fun hm => ?_)
  · skip
    refine g_lp (I := fun (s : Sg × Int32 × Int32) => Fr S s.1 mm) (E := fun (s : Sg × Int32) => Fr S s.1 mm) hm ?_ ?_
    · rintro ⟨m7, x8⟩ hm
      (try dsimp only at hm)
      (try dsimp only)
      exact fr_ret hm
    · rintro ⟨m4, x5, x6⟩ o hm hx10 hi9
      (try dsimp only [f_X11_before_L19] at hm)
      (try dsimp only)
      refine fr_if hm (fun hm => ?_) (fun hm => ?_)
      · skip
        cases hm
        exact hx10 _ rfl
      · skip
        refine fr_cal hm (fun _ _ h => fr_X11_slipsOf h) (fun x12 m11 hm => ?_)
        refine g_jn (J := fun (s : Sg × Int32) => Fr S s.1 mm) hm ?_ ?_
        · rintro ⟨m13, x14⟩ hm
          (try dsimp only at hm)
          (try dsimp only)
          refine fr_b hm (fun x16 hm => ?_)
          refine fr_b hm (fun x17 hm => ?_)
          cases hm
          exact hi9 _ rfl
        · intro k15 hk15 hm
          refine fr_fi hm (fun hm => ?_) (fun hm => ?_)
          · skip
            exact hk15 _ hm
          · skip
            exact hk15 _ hm
  · skip
    exact fr_ret hm
set_option maxRecDepth 4000 in
theorem fr_X11_without {S : Nat → Nat → Bool} {m mm : Sg} {r : Int32} {a1 : Int32} (s_27_0 : S 27 0 = true) (hm : f_X11_without  m a1 = some (r, mm)) : Fr S m mm := by
  unfold f_X11_without at hm
  refine fr_wr hm (by first | assumption) (fun m1 hm => ?_)
  refine fr_cal hm (fun _ _ h => fr_X11_isChild h) (fun x3 m2 hm => ?_)
  refine fr_fi hm (fun hm => ?_) (fun hm => ?_)
  · skip
    refine g_lp (I := fun (s : Sg × Int32 × Int32) => Fr S s.1 mm) (E := fun (s : Sg × Int32) => Fr S s.1 mm) hm ?_ ?_
    · rintro ⟨m7, x8⟩ hm
      (try dsimp only at hm)
      (try dsimp only)
      exact fr_ret hm
    · rintro ⟨m4, x5, x6⟩ o hm hx10 hi9
      (try dsimp only [f_X11_without_L19] at hm)
      (try dsimp only)
      refine fr_if hm (fun hm => ?_) (fun hm => ?_)
      · skip
        cases hm
        exact hx10 _ rfl
      · skip
        refine fr_cal hm (fun _ _ h => fr_X11_examinerOf h) (fun x12 m11 hm => ?_)
        refine g_jn (J := fun (s : Sg × Int32) => Fr S s.1 mm) hm ?_ ?_
        · rintro ⟨m13, x14⟩ hm
          (try dsimp only at hm)
          (try dsimp only)
          refine fr_b hm (fun x16 hm => ?_)
          cases hm
          exact hi9 _ rfl
        · intro k15 hk15 hm
          refine fr_if hm (fun hm => ?_) (fun hm => ?_)
          · skip
            exact hk15 _ hm
          · skip
            refine fr_cal hm (fun _ _ h => fr_X11_slipsOf h) (fun x18 m17 hm => ?_)
            refine fr_if hm (fun hm => ?_) (fun hm => ?_)
            · skip
              refine g_jn (J := fun (s : Sg) => Fr S s mm) hm ?_ ?_
              · intro m19 hm
                exact hk15 _ hm
              · intro k20 hk20 hm
                refine fr_if hm (fun hm => ?_) (fun hm => ?_)
                · skip
                  exact hk20 _ hm
                · skip
                  refine fr_cal hm (fun _ _ h => fr_J6_bitCount_0f7a4 h) (fun x22 m21 hm => ?_)
                  refine fr_cal hm (fun _ _ h => fr_J6_bitCount_0f7a4 h) (fun x24 m23 hm => ?_)
                  refine fr_if hm (fun hm => ?_) (fun hm => ?_)
                  · skip
                    exact hk15 _ hm
                  · skip
                    exact hk20 _ hm
            · skip
              exact hk15 _ hm
  · skip
    exact fr_ret hm
set_option maxRecDepth 4000 in
theorem fr_X11_spoil {S : Nat → Nat → Bool} {m mm : Sg} {r : Int32} {a1 : Int32} (s_27_0 : S 27 0 = true) (hm : f_X11_spoil  m a1 = some (r, mm)) : Fr S m mm := by
  unfold f_X11_spoil at hm
  refine fr_wr hm (by first | assumption) (fun m1 hm => ?_)
  refine fr_cal hm (fun _ _ h => fr_X11_examiner (by first | assumption) h) (fun x3 m2 hm => ?_)
  refine fr_if hm (fun hm => ?_) (fun hm => ?_)
  · skip
    exact fr_ret hm
  · skip
    refine fr_cal hm (fun _ _ h => fr_X11_isChild h) (fun x5 m4 hm => ?_)
    refine fr_if hm (fun hm => ?_) (fun hm => ?_)
    · skip
      exact fr_ret hm
    · skip
      refine fr_cal hm (fun _ _ h => fr_X11_slipsOf h) (fun x7 m6 hm => ?_)
      refine fr_if hm (fun hm => ?_) (fun hm => ?_)
      · skip
        refine fr_n hm (fun hm => ?_)
        refine fr_cal hm (fun _ _ h => fr_X11_asks h) (fun x9 m8 hm => ?_)
        refine g_lp (I := fun (s : Sg × Int32) => Fr S s.1 mm) (E := fun (x : (Sg × Int32) ⊕ (Sg)) => match x with | .inl (m12, x13) => Fr S m12 mm | .inr m14 => Fr S m14 mm) hm ?_ ?_
        · rintro (⟨m12, x13⟩ | m14) hm
          · (try dsimp only at hm)
            (try dsimp only)
            exact fr_ret hm
          · (try dsimp only at hm)
            (try dsimp only)
            exact fr_ret hm
        · rintro ⟨m10, x11⟩ o hm hx16 hi15
          (try dsimp only [f_X11_spoil_L62] at hm)
          (try dsimp only)
          refine fr_if hm (fun hm => ?_) (fun hm => ?_)
          · skip
            cases hm
            exact hx16 _ rfl
          · skip
            refine fr_cal hm (fun _ _ h => fr_X11_has h) (fun x18 m17 hm => ?_)
            refine fr_if hm (fun hm => ?_) (fun hm => ?_)
            · refine fr_b hm (fun x19 hm => ?_)
              cases hm
              exact hi15 _ rfl
            · skip
              cases hm
              exact hx16 _ rfl
      · skip
        exact fr_ret hm
set_option maxRecDepth 4000 in
theorem fr_X11_soon {S : Nat → Nat → Bool} {m mm : Sg} {r : Int32} {a1 : Int32} (s_27_0 : S 27 0 = true) (hm : f_X11_soon  m a1 = some (r, mm)) : Fr S m mm := by
  unfold f_X11_soon at hm
  refine fr_wr hm (by first | assumption) (fun m1 hm => ?_)
  refine fr_cal hm (fun _ _ h => fr_X11_examiner (by first | assumption) h) (fun x3 m2 hm => ?_)
  refine fr_if hm (fun hm => ?_) (fun hm => ?_)
  · skip
    exact fr_ret hm
  · skip
    refine fr_cal hm (fun _ _ h => fr_X11_isChild h) (fun x5 m4 hm => ?_)
    refine fr_fi hm (fun hm => ?_) (fun hm => ?_)
    · skip
      refine fr_cal hm (fun _ _ h => fr_X11_slipsOf h) (fun x7 m6 hm => ?_)
      refine fr_fi hm (fun hm => ?_) (fun hm => ?_)
      · skip
        refine fr_n hm (fun hm => ?_)
        refine fr_b hm (fun x8 hm => ?_)
        refine g_jn (J := fun (s : Sg × Int32) => Fr S s.1 mm) hm ?_ ?_
        · rintro ⟨m9, x10⟩ hm
          (try dsimp only at hm)
          (try dsimp only)
          refine g_jn (J := fun (s : Sg × Int32) => Fr S s.1 mm) hm ?_ ?_
          · rintro ⟨m12, x13⟩ hm
            (try dsimp only at hm)
            (try dsimp only)
            refine fr_n hm (fun hm => ?_)
            refine fr_cal hm (fun _ _ h => fr_J6_bitCount_0f7a4 h) (fun x16 m15 hm => ?_)
            exact fr_ret hm
          · intro k14 hk14 hm
            refine fr_fi hm (fun hm => ?_) (fun hm => ?_)
            · skip
              refine fr_n hm (fun hm => ?_)
              exact hk14 _ hm
            · skip
              exact hk14 _ hm
        · intro k11 hk11 hm
          refine fr_fi hm (fun hm => ?_) (fun hm => ?_)
          · skip
            exact hk11 _ hm
          · skip
            exact hk11 _ hm
      · skip
        exact fr_ret hm
    · skip
      exact fr_ret hm
set_option maxRecDepth 4000 in
theorem fr_X11_fevered {S : Nat → Nat → Bool} {m mm : Sg} {r : Int32} (s_27_0 : S 27 0 = true) (hm : f_X11_fevered  m  = some (r, mm)) : Fr S m mm := by
  unfold f_X11_fevered at hm
  refine fr_wr hm (by first | assumption) (fun m1 hm => ?_)
  refine fr_cal hm (fun _ _ h => fr_X11_examiner (by first | assumption) h) (fun x3 m2 hm => ?_)
  refine fr_fi hm (fun hm => ?_) (fun hm => ?_)
  · skip
    refine g_lp (I := fun (s : Sg × Int32 × Int32) => Fr S s.1 mm) (E := fun (s : Sg × Int32) => Fr S s.1 mm) hm ?_ ?_
    · rintro ⟨m7, x8⟩ hm
      (try dsimp only at hm)
      (try dsimp only)
      exact fr_ret hm
    · rintro ⟨m4, x5, x6⟩ o hm hx10 hi9
      (try dsimp only [f_X11_fevered_L21] at hm)
      (try dsimp only)
      refine fr_if hm (fun hm => ?_) (fun hm => ?_)
      · skip
        cases hm
        exact hx10 _ rfl
      · skip
        refine fr_n hm (fun hm => ?_)
        refine fr_cal hm (fun _ _ h => fr_X11_asks h) (fun x12 m11 hm => ?_)
        refine fr_cal hm (fun _ _ h => fr_X11_rightOf h) (fun x14 m13 hm => ?_)
        refine g_jn (J := fun (s : Sg × Int32) => Fr S s.1 mm) hm ?_ ?_
        · rintro ⟨m15, x16⟩ hm
          (try dsimp only at hm)
          (try dsimp only)
          refine fr_b hm (fun x18 hm => ?_)
          refine fr_b hm (fun x19 hm => ?_)
          cases hm
          exact hi9 _ rfl
        · intro k17 hk17 hm
          refine fr_fi hm (fun hm => ?_) (fun hm => ?_)
          · skip
            exact hk17 _ hm
          · skip
            exact hk17 _ hm
  · skip
    exact fr_ret hm
set_option maxRecDepth 4000 in
theorem fr_X11_youngest {S : Nat → Nat → Bool} {m mm : Sg} {r : Int32} {a1 : Int32} (s_27_0 : S 27 0 = true) (hm : f_X11_youngest  m a1 = some (r, mm)) : Fr S m mm := by
  unfold f_X11_youngest at hm
  refine fr_wr hm (by first | assumption) (fun m1 hm => ?_)
  refine fr_cal hm (fun _ _ h => fr_X11_isChild h) (fun x3 m2 hm => ?_)
  refine fr_fi hm (fun hm => ?_) (fun hm => ?_)
  · skip
    refine g_lp (I := fun (s : Sg × Int32) => Fr S s.1 mm) (E := fun (x : (Sg × Int32) ⊕ (Sg)) => match x with | .inl (m6, x7) => Fr S m6 mm | .inr m8 => Fr S m8 mm) hm ?_ ?_
    · rintro (⟨m6, x7⟩ | m8) hm
      · (try dsimp only at hm)
        (try dsimp only)
        exact fr_ret hm
      · (try dsimp only at hm)
        (try dsimp only)
        exact fr_ret hm
    · rintro ⟨m4, x5⟩ o hm hx10 hi9
      (try dsimp only [f_X11_youngest_L17] at hm)
      (try dsimp only)
      refine fr_if hm (fun hm => ?_) (fun hm => ?_)
      · skip
        cases hm
        exact hx10 _ rfl
      · skip
        refine g_lp (I := fun (s : Sg × Int32 × Int32) => Fr S s.1 mm) (E := fun (s : Sg × Int32) => Fr S s.1 mm) hm ?_ ?_
        · rintro ⟨m14, x15⟩ hm
          (try dsimp only at hm)
          (try dsimp only)
          refine fr_fi hm (fun hm => ?_) (fun hm => ?_)
          · refine fr_b hm (fun x27 hm => ?_)
            cases hm
            exact hi9 _ rfl
          · skip
            cases hm
            exact hx10 _ rfl
        · rintro ⟨m11, x12, x13⟩ o hm hx17 hi16
          (try dsimp only [f_X11_youngest_L30] at hm)
          (try dsimp only)
          refine fr_if hm (fun hm => ?_) (fun hm => ?_)
          · skip
            cases hm
            exact hx17 _ rfl
          · skip
            refine fr_n hm (fun hm => ?_)
            refine fr_n hm (fun hm => ?_)
            refine g_jn (J := fun (s : Sg × Int32) => Fr S s.1 mm) hm ?_ ?_
            · rintro ⟨m18, x19⟩ hm
              (try dsimp only at hm)
              (try dsimp only)
              refine fr_b hm (fun x21 hm => ?_)
              refine fr_b hm (fun x22 hm => ?_)
              cases hm
              exact hi16 _ rfl
            · intro k20 hk20 hm
              refine g_jn (J := fun (s : Sg) => Fr S s mm) hm ?_ ?_
              · intro m23 hm
                exact hk20 _ hm
              · intro k24 hk24 hm
                refine fr_if hm (fun hm => ?_) (fun hm => ?_)
                · skip
                  exact hk24 _ hm
                · skip
                  refine fr_n hm (fun hm => ?_)
                  refine fr_n hm (fun hm => ?_)
                  refine g_jn (J := fun (s : Sg) => Fr S s mm) hm ?_ ?_
                  · intro m25 hm
                    exact hk20 _ hm
                  · intro k26 hk26 hm
                    refine fr_fi hm (fun hm => ?_) (fun hm => ?_)
                    · skip
                      exact hk26 _ hm
                    · skip
                      refine fr_if hm (fun hm => ?_) (fun hm => ?_)
                      · skip
                        exact hk26 _ hm
                      · skip
                        exact hk24 _ hm
  · skip
    exact fr_ret hm
set_option maxRecDepth 4000 in
theorem fr_X11_rivals {S : Nat → Nat → Bool} {m mm : Sg} {r : Int32} {a1 : Int32} (s_27_0 : S 27 0 = true) (hm : f_X11_rivals  m a1 = some (r, mm)) : Fr S m mm := by
  unfold f_X11_rivals at hm
  refine fr_wr hm (by first | assumption) (fun m1 hm => ?_)
  refine fr_cal hm (fun _ _ h => fr_X11_examiner (by first | assumption) h) (fun x3 m2 hm => ?_)
  refine fr_if hm (fun hm => ?_) (fun hm => ?_)
  · skip
    exact fr_ret hm
  · skip
    refine fr_cal hm (fun _ _ h => fr_X11_isChild h) (fun x5 m4 hm => ?_)
    refine fr_fi hm (fun hm => ?_) (fun hm => ?_)
    · skip
      refine g_lp (I := fun (s : Sg × Int32 × Int32) => Fr S s.1 mm) (E := fun (s : Sg × Int32) => Fr S s.1 mm) hm ?_ ?_
      · rintro ⟨m9, x10⟩ hm
        (try dsimp only at hm)
        (try dsimp only)
        exact fr_ret hm
      · rintro ⟨m6, x7, x8⟩ o hm hx12 hi11
        (try dsimp only [f_X11_rivals_L30] at hm)
        (try dsimp only)
        refine fr_if hm (fun hm => ?_) (fun hm => ?_)
        · skip
          cases hm
          exact hx12 _ rfl
        · skip
          refine fr_n hm (fun hm => ?_)
          refine fr_n hm (fun hm => ?_)
          refine g_jn (J := fun (s : Sg × Int32) => Fr S s.1 mm) hm ?_ ?_
          · rintro ⟨m13, x14⟩ hm
            (try dsimp only at hm)
            (try dsimp only)
            refine fr_b hm (fun x16 hm => ?_)
            refine fr_b hm (fun x17 hm => ?_)
            cases hm
            exact hi11 _ rfl
          · intro k15 hk15 hm
            refine g_jn (J := fun (s : Sg) => Fr S s mm) hm ?_ ?_
            · intro m18 hm
              exact hk15 _ hm
            · intro k19 hk19 hm
              refine fr_if hm (fun hm => ?_) (fun hm => ?_)
              · skip
                exact hk19 _ hm
              · skip
                refine fr_n hm (fun hm => ?_)
                refine fr_if hm (fun hm => ?_) (fun hm => ?_)
                · skip
                  exact hk19 _ hm
                · skip
                  refine fr_cal hm (fun _ _ h => fr_X11_slipsOf h) (fun x21 m20 hm => ?_)
                  refine fr_fi hm (fun hm => ?_) (fun hm => ?_)
                  · skip
                    exact hk19 _ hm
                  · skip
                    exact hk15 _ hm
    · skip
      exact fr_ret hm
set_option maxRecDepth 4000 in
theorem fr_X11_forgotten {S : Nat → Nat → Bool} {m mm : Sg} {r : Int32} (s_27_0 : S 27 0 = true) (hm : f_X11_forgotten  m  = some (r, mm)) : Fr S m mm := by
  unfold f_X11_forgotten at hm
  refine fr_wr hm (by first | assumption) (fun m1 hm => ?_)
  refine fr_fi hm (fun hm => ?_) (fun hm => ?_)
  · skip
    refine g_lp (I := fun (s : Sg × Int32 × Int32) => Fr S s.1 mm) (E := fun (s : Sg × Int32) => Fr S s.1 mm) hm ?_ ?_
    · rintro ⟨m5, x6⟩ hm
      (try dsimp only at hm)
      (try dsimp only)
      exact fr_ret hm
    · rintro ⟨m2, x3, x4⟩ o hm hx8 hi7
      (try dsimp only [f_X11_forgotten_L18] at hm)
      (try dsimp only)
      refine fr_if hm (fun hm => ?_) (fun hm => ?_)
      · skip
        cases hm
        exact hx8 _ rfl
      · skip
        refine fr_n hm (fun hm => ?_)
        refine fr_b hm (fun x9 hm => ?_)
        refine fr_b hm (fun x10 hm => ?_)
        cases hm
        exact hi7 _ rfl
  · skip
    exact fr_ret hm
set_option maxRecDepth 4000 in
theorem fr_X11_image {S : Nat → Nat → Bool} {m mm : Sg} {r : Int32} (s_27_0 : S 27 0 = true) (s_27_45 : S 27 45 = true) (s_43 : ∀ k, S 43 k = true) (hm : f_X11_image  m  = some (r, mm)) : Fr S m mm := by
  unfold f_X11_image at hm
  refine fr_wr hm (by first | exact s_43 _ | assumption) (fun m1 hm => ?_)
  refine fr_fi hm (fun hm => ?_) (fun hm => ?_)
  · skip
    refine fr_calv hm (fun _ h => fr_X11_copy (by first | exact s_43 _ | assumption) h) (fun m2 hm => ?_)
    refine fr_wr hm (by first | exact s_43 _ | assumption) (fun m3 hm => ?_)
    exact fr_ret hm
  · skip
    exact fr_ret hm
set_option maxRecDepth 4000 in
theorem fr_X11_back {S : Nat → Nat → Bool} {m mm : Sg} {r : Int32} (s_27_0 : S 27 0 = true) (s_27_39 : S 27 39 = true) (s_38 : ∀ k, S 38 k = true) (hm : f_X11_back  m  = some (r, mm)) : Fr S m mm := by
  unfold f_X11_back at hm
  refine fr_wr hm (by first | exact s_38 _ | assumption) (fun m1 hm => ?_)
  refine fr_fi hm (fun hm => ?_) (fun hm => ?_)
  · skip
    refine fr_calv hm (fun _ h => fr_X11_copy (by first | exact s_38 _ | assumption) h) (fun m2 hm => ?_)
    refine fr_wr hm (by first | exact s_38 _ | assumption) (fun m3 hm => ?_)
    exact fr_ret hm
  · skip
    exact fr_ret hm
set_option maxRecDepth 4000 in
theorem fr_X11_count {S : Nat → Nat → Bool} {m mm : Sg} {r : Int32} {a1 : Int32} (s_27_0 : S 27 0 = true) (hm : f_X11_count  m a1 = some (r, mm)) : Fr S m mm := by
  unfold f_X11_count at hm
  refine fr_wr hm (by first | assumption) (fun m1 hm => ?_)
  refine fr_if hm (fun hm => ?_) (fun hm => ?_)
  · skip
    exact fr_ret hm
  · refine fr_if hm (fun hm => ?_) (fun hm => ?_)
    · skip
      exact fr_ret hm
    · refine fr_if hm (fun hm => ?_) (fun hm => ?_)
      · skip
        exact fr_ret hm
      · refine fr_if hm (fun hm => ?_) (fun hm => ?_)
        · skip
          exact fr_ret hm
        · refine fr_if hm (fun hm => ?_) (fun hm => ?_)
          · skip
            exact fr_ret hm
          · refine fr_if hm (fun hm => ?_) (fun hm => ?_)
            · skip
              exact fr_ret hm
            · refine fr_if hm (fun hm => ?_) (fun hm => ?_)
              · skip
                refine fr_fi hm (fun hm => ?_) (fun hm => ?_)
                · skip
                  exact fr_ret hm
                · skip
                  exact fr_ret hm
              · refine fr_if hm (fun hm => ?_) (fun hm => ?_)
                · skip
                  exact fr_ret hm
                · refine fr_if hm (fun hm => ?_) (fun hm => ?_)
                  · skip
                    exact fr_ret hm
                  · refine fr_if hm (fun hm => ?_) (fun hm => ?_)
                    · skip
                      refine g_jn (J := fun (s : Sg) => Fr S s mm) hm ?_ ?_
                      · intro m2 hm
                        exact fr_ret hm
                      · intro k3 hk3 hm
                        refine fr_if hm (fun hm => ?_) (fun hm => ?_)
                        · skip
                          exact hk3 _ hm
                        · skip
                          refine fr_fi hm (fun hm => ?_) (fun hm => ?_)
                          · skip
                            refine fr_cal hm (fun _ _ h => fr_X11_countOf h) (fun x5 m4 hm => ?_)
                            exact fr_ret hm
                          · skip
                            exact hk3 _ hm
                    · refine fr_if hm (fun hm => ?_) (fun hm => ?_)
                      · skip
                        exact fr_ret hm
                      · refine fr_if hm (fun hm => ?_) (fun hm => ?_)
                        · skip
                          exact fr_ret hm
                        · skip
                          exact fr_ret hm
set_option maxRecDepth 4000 in
theorem fr_X11_learns {S : Nat → Nat → Bool} {m mm : Sg} {w : Nat} {a1 : Int32} (s_w : ∀ k, S w k = true) (s_27_35 : S 27 35 = true) (hm : f_X11_learns w m a1 = some mm) : Fr S m mm := by
  unfold f_X11_learns at hm
  refine fr_b hm (fun x1 hm => ?_)
  refine fr_n hm (fun hm => ?_)
  refine fr_fi hm (fun hm => ?_) (fun hm => ?_)
  · skip
    refine fr_n hm (fun hm => ?_)
    refine fr_st hm (by first | exact s_w _ | assumption) (fun m2 hm => ?_)
    refine fr_n hm (fun hm => ?_)
    refine fr_if hm (fun hm => ?_) (fun hm => ?_)
    · skip
      refine fr_n hm (fun hm => ?_)
      refine fr_n hm (fun hm => ?_)
      refine fr_st hm (by first | exact s_w _ | assumption) (fun m3 hm => ?_)
      refine fr_n hm (fun hm => ?_)
      refine fr_n hm (fun hm => ?_)
      refine fr_st hm (by first | exact s_w _ | assumption) (fun m4 hm => ?_)
      refine fr_st hm (by first | exact s_w _ | assumption) (fun m5 hm => ?_)
      refine fr_fi hm (fun hm => ?_) (fun hm => ?_)
      · exact fr_retv hm
      · skip
        refine fr_if hm (fun hm => ?_) (fun hm => ?_)
        · exact fr_retv hm
        · skip
          refine fr_calv hm (fun _ h => fr_X11_begins (by first | exact s_w _ | assumption) (by first | exact s_w _ | assumption) h) (fun m6 hm => ?_)
          exact fr_retv hm
    · exact fr_retv hm
  · exact fr_retv hm
set_option maxRecDepth 4000 in
theorem fr_X11_goMonth {S : Nat → Nat → Bool} {m mm : Sg} {w : Nat} {a1 : Int32} (s_w : ∀ k, S w k = true) (s_27_5 : S 27 5 = true) (s_27_8 : S 27 8 = true) (s_27_9 : S 27 9 = true) (s_27_10 : S 27 10 = true) (s_27_11 : S 27 11 = true) (s_27_12 : S 27 12 = true) (s_27_13 : S 27 13 = true) (s_27_14 : S 27 14 = true) (s_27_17 : S 27 17 = true) (s_27_35 : S 27 35 = true) (l_27 : S 27 1000000 = true) (s_31 : ∀ k, S 31 k = true) (hm : f_X11_goMonth w m a1 = some mm) : Fr S m mm := by
  unfold f_X11_goMonth at hm
  refine fr_wr hm (by first | exact s_w _ | exact s_31 _ | assumption) (fun m1 hm => ?_)
  refine g_lp (I := fun (s : Sg × Int32) => Fr S s.1 mm) (E := fun (s : Sg) => Fr S s mm) hm ?_ ?_
  · rintro m4 hm
    (try dsimp only at hm)
    (try dsimp only)
    refine g_lp (I := fun (s : Sg × Int32) => Fr S s.1 mm) (E := fun (s : Sg) => Fr S s mm) hm ?_ ?_
    · rintro m11 hm
      (try dsimp only at hm)
      (try dsimp only)
      refine g_lp (I := fun (s : Sg × Int32) => Fr S s.1 mm) (E := fun (s : Sg) => Fr S s mm) hm ?_ ?_
      · rintro m23 hm
        (try dsimp only at hm)
        (try dsimp only)
        refine g_lp (I := fun (s : Sg × Int32) => Fr S s.1 mm) (E := fun (s : Sg) => Fr S s mm) hm ?_ ?_
        · rintro m30 hm
          (try dsimp only at hm)
          (try dsimp only)
          refine g_jn (J := fun (s : Sg) => Fr S s mm) hm ?_ ?_
          · intro m39 hm
            refine fr_cal hm (fun _ _ h => fr_X11_examinerOf h) (fun x42 m41 hm => ?_)
            refine g_lp (I := fun (s : Sg × Int32 × Int32) => Fr S s.1 mm) (E := fun (s : Sg × Int32) => Fr S s.1 mm) hm ?_ ?_
            · rintro ⟨m46, x47⟩ hm
              (try dsimp only at hm)
              (try dsimp only)
              refine g_jn (J := fun (s : Sg) => Fr S s mm) hm ?_ ?_
              · intro m58 hm
                refine g_jn (J := fun (s : Sg × Int32) => Fr S s.1 mm) hm ?_ ?_
                · rintro ⟨m60, x61⟩ hm
                  (try dsimp only at hm)
                  (try dsimp only)
                  refine fr_calv hm (fun _ h => fr_X11_writes (by first | exact s_w _ | exact s_31 _ | assumption) h) (fun m63 hm => ?_)
                  exact fr_retv hm
                · intro k62 hk62 hm
                  refine fr_if hm (fun hm => ?_) (fun hm => ?_)
                  · exact hk62 _ hm
                  · skip
                    refine fr_n hm (fun hm => ?_)
                    refine fr_st hm (by first | exact s_w _ | exact s_31 _ | assumption) (fun m64 hm => ?_)
                    refine fr_cal hm (fun _ _ h => fr_X11_taxOf (by first | exact s_w _ | exact s_31 _ | assumption) (by first | exact s_w _ | exact s_31 _ | assumption) (by first | exact s_w _ | exact s_31 _ | assumption) (by first | exact s_w _ | exact s_31 _ | assumption) (by first | exact s_w _ | exact s_31 _ | assumption) (by first | exact s_w _ | exact s_31 _ | assumption) (by first | exact s_w _ | exact s_31 _ | assumption) (by first | exact s_w _ | exact s_31 _ | assumption) (by first | exact s_w _ | exact s_31 _ | assumption) (by first | exact s_w _ | exact s_31 _ | assumption) h) (fun x66 m65 hm => ?_)
                    refine fr_wr hm (by first | exact s_w _ | exact s_31 _ | assumption) (fun m67 hm => ?_)
                    exact hk62 _ hm
              · intro k59 hk59 hm
                refine fr_if hm (fun hm => ?_) (fun hm => ?_)
                · skip
                  exact hk59 _ hm
                · skip
                  refine fr_wr hm (by first | exact s_w _ | exact s_31 _ | assumption) (fun m68 hm => ?_)
                  exact hk59 _ hm
            · rintro ⟨m43, x44, x45⟩ o hm hx49 hi48
              (try dsimp only [f_X11_goMonth_L214] at hm)
              (try dsimp only)
              refine fr_if hm (fun hm => ?_) (fun hm => ?_)
              · skip
                cases hm
                exact hx49 _ rfl
              · skip
                refine fr_if hm (fun hm => ?_) (fun hm => ?_)
                · skip
                  cases hm
                  exact hx49 _ rfl
                · skip
                  refine fr_cal hm (fun _ _ h => fr_X11_isRival h) (fun x51 m50 hm => ?_)
                  refine g_jn (J := fun (s : Sg × Int32) => Fr S s.1 mm) hm ?_ ?_
                  · rintro ⟨m52, x53⟩ hm
                    (try dsimp only at hm)
                    (try dsimp only)
                    refine fr_b hm (fun x55 hm => ?_)
                    cases hm
                    exact hi48 _ rfl
                  · intro k54 hk54 hm
                    refine fr_if hm (fun hm => ?_) (fun hm => ?_)
                    · exact hk54 _ hm
                    · skip
                      refine g_jn (J := fun (s : Sg) => Fr S s mm) hm ?_ ?_
                      · intro m56 hm
                        exact hk54 _ hm
                      · intro k57 hk57 hm
                        refine fr_if hm (fun hm => ?_) (fun hm => ?_)
                        · skip
                          exact hk57 _ hm
                        · skip
                          refine fr_n hm (fun hm => ?_)
                          refine fr_n hm (fun hm => ?_)
                          refine fr_if hm (fun hm => ?_) (fun hm => ?_)
                          · exact hk54 _ hm
                          · skip
                            exact hk57 _ hm
          · intro k40 hk40 hm
            refine fr_if hm (fun hm => ?_) (fun hm => ?_)
            · exact hk40 _ hm
            · skip
              refine fr_n hm (fun hm => ?_)
              refine fr_if hm (fun hm => ?_) (fun hm => ?_)
              · exact hk40 _ hm
              · skip
                refine fr_wr hm (by first | exact s_w _ | exact s_31 _ | assumption) (fun m69 hm => ?_)
                exact hk40 _ hm
        · rintro ⟨m28, x29⟩ o hm hx32 hi31
          (try dsimp only [f_X11_goMonth_L123] at hm)
          (try dsimp only)
          refine fr_if hm (fun hm => ?_) (fun hm => ?_)
          · skip
            cases hm
            exact hx32 _ rfl
          · skip
            refine g_jn (J := fun (s : Sg) => Fr S s mm) hm ?_ ?_
            · intro m33 hm
              refine fr_b hm (fun x35 hm => ?_)
              cases hm
              exact hi31 _ rfl
            · intro k34 hk34 hm
              refine fr_if hm (fun hm => ?_) (fun hm => ?_)
              · exact hk34 _ hm
              · skip
                refine fr_cal hm (fun _ _ h => fr_X11_draw (by first | exact s_w _ | exact s_31 _ | assumption) h) (fun x37 m36 hm => ?_)
                refine fr_if hm (fun hm => ?_) (fun hm => ?_)
                · exact hk34 _ hm
                · skip
                  refine fr_n hm (fun hm => ?_)
                  refine fr_st hm (by first | exact s_w _ | exact s_31 _ | assumption) (fun m38 hm => ?_)
                  exact hk34 _ hm
      · rintro ⟨m21, x22⟩ o hm hx25 hi24
        (try dsimp only [f_X11_goMonth_L101] at hm)
        (try dsimp only)
        refine fr_if hm (fun hm => ?_) (fun hm => ?_)
        · skip
          cases hm
          exact hx25 _ rfl
        · skip
          refine fr_calv hm (fun _ h => fr_X11_learns (by first | exact s_w _ | exact s_31 _ | assumption) (by first | exact s_w _ | exact s_31 _ | assumption) h) (fun m26 hm => ?_)
          refine fr_b hm (fun x27 hm => ?_)
          cases hm
          exact hi24 _ rfl
    · rintro ⟨m9, x10⟩ o hm hx13 hi12
      (try dsimp only [f_X11_goMonth_L38] at hm)
      (try dsimp only)
      refine fr_if hm (fun hm => ?_) (fun hm => ?_)
      · skip
        cases hm
        exact hx13 _ rfl
      · skip
        refine fr_n hm (fun hm => ?_)
        refine fr_b hm (fun x14 hm => ?_)
        refine g_jn (J := fun (s : Sg) => Fr S s mm) hm ?_ ?_
        · intro m15 hm
          refine fr_b hm (fun x17 hm => ?_)
          cases hm
          exact hi12 _ rfl
        · intro k16 hk16 hm
          refine fr_if hm (fun hm => ?_) (fun hm => ?_)
          · skip
            exact hk16 _ hm
          · skip
            refine fr_n hm (fun hm => ?_)
            refine fr_fi hm (fun hm => ?_) (fun hm => ?_)
            · skip
              exact hk16 _ hm
            · skip
              refine fr_n hm (fun hm => ?_)
              refine fr_n hm (fun hm => ?_)
              refine fr_cal hm (fun _ _ h => fr_J6_highestOneBit_0f7a4 h) (fun x19 m18 hm => ?_)
              refine fr_st hm (by first | exact s_w _ | exact s_31 _ | assumption) (fun m20 hm => ?_)
              exact hk16 _ hm
  · rintro ⟨m2, x3⟩ o hm hx6 hi5
    (try dsimp only [f_X11_goMonth_L10] at hm)
    (try dsimp only)
    refine fr_if hm (fun hm => ?_) (fun hm => ?_)
    · skip
      cases hm
      exact hx6 _ rfl
    · skip
      refine fr_n hm (fun hm => ?_)
      refine fr_st hm (by first | exact s_w _ | exact s_31 _ | assumption) (fun m7 hm => ?_)
      refine fr_b hm (fun x8 hm => ?_)
      cases hm
      exact hi5 _ rfl
set_option maxRecDepth 4000 in
theorem fr_X11_goMonths {S : Nat → Nat → Bool} {m mm : Sg} {r : Int32} {a1 : Int32} {a2 : Int32} (s_27_5 : S 27 5 = true) (s_27_8 : S 27 8 = true) (s_27_9 : S 27 9 = true) (s_27_10 : S 27 10 = true) (s_27_11 : S 27 11 = true) (s_27_12 : S 27 12 = true) (s_27_13 : S 27 13 = true) (s_27_14 : S 27 14 = true) (s_27_17 : S 27 17 = true) (s_27_35 : S 27 35 = true) (s_27_39 : S 27 39 = true) (l_27 : S 27 1000000 = true) (s_31 : ∀ k, S 31 k = true) (s_38 : ∀ k, S 38 k = true) (s_41 : ∀ k, S 41 k = true) (hm : f_X11_goMonths  m a1 a2 = some (r, mm)) : Fr S m mm := by
  unfold f_X11_goMonths at hm
  refine fr_if hm (fun hm => ?_) (fun hm => ?_)
  · skip
    exact fr_ret hm
  · skip
    refine fr_cal hm (fun _ _ h => fr_X11_isIn h) (fun x2 m1 hm => ?_)
    refine fr_fi hm (fun hm => ?_) (fun hm => ?_)
    · skip
      refine g_lp (I := fun (s : Sg × Int32) => Fr S s.1 mm) (E := fun (s : Sg) => Fr S s mm) hm ?_ ?_
      · rintro m5 hm
        (try dsimp only at hm)
        (try dsimp only)
        exact fr_ret hm
      · rintro ⟨m3, x4⟩ o hm hx7 hi6
        (try dsimp only [f_X11_goMonths_L23] at hm)
        (try dsimp only)
        refine fr_if hm (fun hm => ?_) (fun hm => ?_)
        · skip
          cases hm
          exact hx7 _ rfl
        · skip
          refine fr_calv hm (fun _ h => fr_X11_remember (by first | exact s_31 _ | exact s_38 _ | exact s_41 _ | assumption) (by first | exact s_31 _ | exact s_38 _ | exact s_41 _ | assumption) h) (fun m8 hm => ?_)
          refine fr_calv hm (fun _ h => fr_X11_goMonth (by first | exact s_31 _ | exact s_38 _ | exact s_41 _ | assumption) (by first | exact s_31 _ | exact s_38 _ | exact s_41 _ | assumption) (by first | exact s_31 _ | exact s_38 _ | exact s_41 _ | assumption) (by first | exact s_31 _ | exact s_38 _ | exact s_41 _ | assumption) (by first | exact s_31 _ | exact s_38 _ | exact s_41 _ | assumption) (by first | exact s_31 _ | exact s_38 _ | exact s_41 _ | assumption) (by first | exact s_31 _ | exact s_38 _ | exact s_41 _ | assumption) (by first | exact s_31 _ | exact s_38 _ | exact s_41 _ | assumption) (by first | exact s_31 _ | exact s_38 _ | exact s_41 _ | assumption) (by first | exact s_31 _ | exact s_38 _ | exact s_41 _ | assumption) (by first | exact s_31 _ | exact s_38 _ | exact s_41 _ | assumption) (by first | exact s_31 _ | exact s_38 _ | exact s_41 _ | assumption) (by first | exact s_31 _ | exact s_38 _ | exact s_41 _ | assumption) h) (fun m9 hm => ?_)
          refine fr_b hm (fun x10 hm => ?_)
          cases hm
          exact hi6 _ rfl
    · skip
      exact fr_ret hm
set_option maxRecDepth 4000 in
theorem fr_X11_months {S : Nat → Nat → Bool} {m mm : Sg} {r : Int32} {a1 : Int32} (s_27_0 : S 27 0 = true) (s_27_5 : S 27 5 = true) (s_27_8 : S 27 8 = true) (s_27_9 : S 27 9 = true) (s_27_10 : S 27 10 = true) (s_27_11 : S 27 11 = true) (s_27_12 : S 27 12 = true) (s_27_13 : S 27 13 = true) (s_27_14 : S 27 14 = true) (s_27_17 : S 27 17 = true) (s_27_35 : S 27 35 = true) (s_27_39 : S 27 39 = true) (l_27 : S 27 1000000 = true) (s_31 : ∀ k, S 31 k = true) (s_38 : ∀ k, S 38 k = true) (s_41 : ∀ k, S 41 k = true) (hm : f_X11_months  m a1 = some (r, mm)) : Fr S m mm := by
  unfold f_X11_months at hm
  refine fr_wr hm (by first | exact s_31 _ | exact s_38 _ | exact s_41 _ | assumption) (fun m1 hm => ?_)
  refine fr_cal hm (fun _ _ h => fr_X11_goMonths (by first | exact s_31 _ | exact s_38 _ | exact s_41 _ | assumption) (by first | exact s_31 _ | exact s_38 _ | exact s_41 _ | assumption) (by first | exact s_31 _ | exact s_38 _ | exact s_41 _ | assumption) (by first | exact s_31 _ | exact s_38 _ | exact s_41 _ | assumption) (by first | exact s_31 _ | exact s_38 _ | exact s_41 _ | assumption) (by first | exact s_31 _ | exact s_38 _ | exact s_41 _ | assumption) (by first | exact s_31 _ | exact s_38 _ | exact s_41 _ | assumption) (by first | exact s_31 _ | exact s_38 _ | exact s_41 _ | assumption) (by first | exact s_31 _ | exact s_38 _ | exact s_41 _ | assumption) (by first | exact s_31 _ | exact s_38 _ | exact s_41 _ | assumption) (by first | exact s_31 _ | exact s_38 _ | exact s_41 _ | assumption) (by first | exact s_31 _ | exact s_38 _ | exact s_41 _ | assumption) (by first | exact s_31 _ | exact s_38 _ | exact s_41 _ | assumption) (by first | exact s_31 _ | exact s_38 _ | exact s_41 _ | assumption) (by first | exact s_31 _ | exact s_38 _ | exact s_41 _ | assumption) h) (fun x3 m2 hm => ?_)
  exact fr_ret hm
set_option maxRecDepth 4000 in
theorem fr_X11_fevers {S : Nat → Nat → Bool} {m mm : Sg} {r : Int32} {a1 : Int32} {a2 : Int64} (s_27_0 : S 27 0 = true) (s_27_5 : S 27 5 = true) (s_27_8 : S 27 8 = true) (s_27_9 : S 27 9 = true) (s_27_10 : S 27 10 = true) (s_27_11 : S 27 11 = true) (s_27_12 : S 27 12 = true) (s_27_13 : S 27 13 = true) (s_27_14 : S 27 14 = true) (s_27_17 : S 27 17 = true) (s_27_35 : S 27 35 = true) (s_27_39 : S 27 39 = true) (l_27 : S 27 1000000 = true) (s_31 : ∀ k, S 31 k = true) (s_38 : ∀ k, S 38 k = true) (s_41 : ∀ k, S 41 k = true) (hm : f_X11_fevers  m a1 a2 = some (r, mm)) : Fr S m mm := by
  unfold f_X11_fevers at hm
  refine fr_wr hm (by first | exact s_31 _ | exact s_38 _ | exact s_41 _ | assumption) (fun m1 hm => ?_)
  refine fr_wrl hm (by first | exact s_31 _ | exact s_38 _ | exact s_41 _ | assumption) (fun m2 hm => ?_)
  refine fr_cal hm (fun _ _ h => fr_X11_goMonths (by first | exact s_31 _ | exact s_38 _ | exact s_41 _ | assumption) (by first | exact s_31 _ | exact s_38 _ | exact s_41 _ | assumption) (by first | exact s_31 _ | exact s_38 _ | exact s_41 _ | assumption) (by first | exact s_31 _ | exact s_38 _ | exact s_41 _ | assumption) (by first | exact s_31 _ | exact s_38 _ | exact s_41 _ | assumption) (by first | exact s_31 _ | exact s_38 _ | exact s_41 _ | assumption) (by first | exact s_31 _ | exact s_38 _ | exact s_41 _ | assumption) (by first | exact s_31 _ | exact s_38 _ | exact s_41 _ | assumption) (by first | exact s_31 _ | exact s_38 _ | exact s_41 _ | assumption) (by first | exact s_31 _ | exact s_38 _ | exact s_41 _ | assumption) (by first | exact s_31 _ | exact s_38 _ | exact s_41 _ | assumption) (by first | exact s_31 _ | exact s_38 _ | exact s_41 _ | assumption) (by first | exact s_31 _ | exact s_38 _ | exact s_41 _ | assumption) (by first | exact s_31 _ | exact s_38 _ | exact s_41 _ | assumption) (by first | exact s_31 _ | exact s_38 _ | exact s_41 _ | assumption) h) (fun x4 m3 hm => ?_)
  exact fr_ret hm
set_option maxRecDepth 4000 in
theorem fr_X11_ahead {S : Nat → Nat → Bool} {m mm : Sg} {r : Int32} {a1 : Int32} {a2 : Int32} (s_27_0 : S 27 0 = true) (s_27_5 : S 27 5 = true) (s_27_8 : S 27 8 = true) (s_27_9 : S 27 9 = true) (s_27_10 : S 27 10 = true) (s_27_11 : S 27 11 = true) (s_27_12 : S 27 12 = true) (s_27_13 : S 27 13 = true) (s_27_14 : S 27 14 = true) (s_27_17 : S 27 17 = true) (s_27_35 : S 27 35 = true) (l_27 : S 27 1000000 = true) (s_31 : ∀ k, S 31 k = true) (s_39 : ∀ k, S 39 k = true) (hm : f_X11_ahead  m a1 a2 = some (r, mm)) : Fr S m mm := by
  unfold f_X11_ahead at hm
  refine fr_wr hm (by first | exact s_31 _ | exact s_39 _ | assumption) (fun m1 hm => ?_)
  refine g_jn (J := fun (s : Sg) => Fr S s mm) hm ?_ ?_
  · intro m2 hm
    exact fr_ret hm
  · intro k3 hk3 hm
    refine fr_if hm (fun hm => ?_) (fun hm => ?_)
    · skip
      exact hk3 _ hm
    · skip
      refine fr_cal hm (fun _ _ h => fr_X11_isIn h) (fun x5 m4 hm => ?_)
      refine fr_if hm (fun hm => ?_) (fun hm => ?_)
      · skip
        exact hk3 _ hm
      · skip
        refine fr_cal hm (fun _ _ h => fr_X11_isIn h) (fun x7 m6 hm => ?_)
        refine fr_fi hm (fun hm => ?_) (fun hm => ?_)
        · skip
          refine fr_calv hm (fun _ h => fr_X11_copy (by first | exact s_31 _ | exact s_39 _ | assumption) h) (fun m8 hm => ?_)
          refine g_lp (I := fun (s : Sg × Int32) => Fr S s.1 mm) (E := fun (s : Sg) => Fr S s mm) hm ?_ ?_
          · rintro m11 hm
            (try dsimp only at hm)
            (try dsimp only)
            refine fr_fi hm (fun hm => ?_) (fun hm => ?_)
            · skip
              exact fr_ret hm
            · skip
              exact fr_ret hm
          · rintro ⟨m9, x10⟩ o hm hx13 hi12
            (try dsimp only [f_X11_ahead_L51] at hm)
            (try dsimp only)
            refine fr_if hm (fun hm => ?_) (fun hm => ?_)
            · skip
              cases hm
              exact hx13 _ rfl
            · skip
              refine fr_calv hm (fun _ h => fr_X11_goMonth (by first | exact s_31 _ | exact s_39 _ | assumption) (by first | exact s_31 _ | exact s_39 _ | assumption) (by first | exact s_31 _ | exact s_39 _ | assumption) (by first | exact s_31 _ | exact s_39 _ | assumption) (by first | exact s_31 _ | exact s_39 _ | assumption) (by first | exact s_31 _ | exact s_39 _ | assumption) (by first | exact s_31 _ | exact s_39 _ | assumption) (by first | exact s_31 _ | exact s_39 _ | assumption) (by first | exact s_31 _ | exact s_39 _ | assumption) (by first | exact s_31 _ | exact s_39 _ | assumption) (by first | exact s_31 _ | exact s_39 _ | assumption) (by first | exact s_31 _ | exact s_39 _ | assumption) (by first | exact s_31 _ | exact s_39 _ | assumption) h) (fun m14 hm => ?_)
              refine fr_b hm (fun x15 hm => ?_)
              cases hm
              exact hi12 _ rfl
        · skip
          exact hk3 _ hm
set_option maxRecDepth 4000 in
theorem fr_X11_reigns {S : Nat → Nat → Bool} {m mm : Sg} {r : Int32} {a1 : Int32} {a2 : Int32} {a3 : Int32} (s_27_5 : S 27 5 = true) (s_27_8 : S 27 8 = true) (s_27_9 : S 27 9 = true) (s_27_10 : S 27 10 = true) (s_27_11 : S 27 11 = true) (s_27_12 : S 27 12 = true) (s_27_13 : S 27 13 = true) (s_27_14 : S 27 14 = true) (s_27_17 : S 27 17 = true) (s_27_35 : S 27 35 = true) (l_27 : S 27 1000000 = true) (s_31 : ∀ k, S 31 k = true) (s_39 : ∀ k, S 39 k = true) (hm : f_X11_reigns  m a1 a2 a3 = some (r, mm)) : Fr S m mm := by
  unfold f_X11_reigns at hm
  refine g_lp (I := fun (s : Sg × Int32 × Int32) => Fr S s.1 mm) (E := fun (s : Sg × Int32) => Fr S s.1 mm) hm ?_ ?_
  · rintro ⟨m4, x5⟩ hm
    (try dsimp only at hm)
    (try dsimp only)
    exact fr_ret hm
  · rintro ⟨m1, x2, x3⟩ o hm hx7 hi6
    (try dsimp only [f_X11_reigns_L6] at hm)
    (try dsimp only)
    refine fr_if hm (fun hm => ?_) (fun hm => ?_)
    · skip
      cases hm
      exact hx7 _ rfl
    · skip
      refine fr_calv hm (fun _ h => fr_X11_goMonth (by first | exact s_31 _ | exact s_39 _ | assumption) (by first | exact s_31 _ | exact s_39 _ | assumption) (by first | exact s_31 _ | exact s_39 _ | assumption) (by first | exact s_31 _ | exact s_39 _ | assumption) (by first | exact s_31 _ | exact s_39 _ | assumption) (by first | exact s_31 _ | exact s_39 _ | assumption) (by first | exact s_31 _ | exact s_39 _ | assumption) (by first | exact s_31 _ | exact s_39 _ | assumption) (by first | exact s_31 _ | exact s_39 _ | assumption) (by first | exact s_31 _ | exact s_39 _ | assumption) (by first | exact s_31 _ | exact s_39 _ | assumption) (by first | exact s_31 _ | exact s_39 _ | assumption) (by first | exact s_31 _ | exact s_39 _ | assumption) h) (fun m8 hm => ?_)
      refine fr_b hm (fun x9 hm => ?_)
      refine g_jn (J := fun (s : Sg × Int32) => Fr S s.1 mm) hm ?_ ?_
      · rintro ⟨m10, x11⟩ hm
        (try dsimp only at hm)
        (try dsimp only)
        refine fr_b hm (fun x13 hm => ?_)
        refine fr_b hm (fun x14 hm => ?_)
        cases hm
        exact hi6 _ rfl
      · intro k12 hk12 hm
        refine g_jn (J := fun (s : Sg) => Fr S s mm) hm ?_ ?_
        · intro m15 hm
          exact hk12 _ hm
        · intro k16 hk16 hm
          refine fr_if hm (fun hm => ?_) (fun hm => ?_)
          · skip
            exact hk16 _ hm
          · skip
            refine g_jn (J := fun (s : Sg) => Fr S s mm) hm ?_ ?_
            · intro m17 hm
              exact hk12 _ hm
            · intro k18 hk18 hm
              refine fr_fi hm (fun hm => ?_) (fun hm => ?_)
              · skip
                refine fr_n hm (fun hm => ?_)
                refine fr_fi hm (fun hm => ?_) (fun hm => ?_)
                · skip
                  exact hk16 _ hm
                · skip
                  exact hk18 _ hm
              · skip
                refine fr_fi hm (fun hm => ?_) (fun hm => ?_)
                · skip
                  exact hk16 _ hm
                · skip
                  exact hk18 _ hm
set_option maxRecDepth 4000 in
theorem fr_X11_reign {S : Nat → Nat → Bool} {m mm : Sg} {r : Int32} {a1 : Int32} {a2 : Int32} {a3 : Int32} (s_27_0 : S 27 0 = true) (s_27_5 : S 27 5 = true) (s_27_8 : S 27 8 = true) (s_27_9 : S 27 9 = true) (s_27_10 : S 27 10 = true) (s_27_11 : S 27 11 = true) (s_27_12 : S 27 12 = true) (s_27_13 : S 27 13 = true) (s_27_14 : S 27 14 = true) (s_27_17 : S 27 17 = true) (s_27_35 : S 27 35 = true) (l_27 : S 27 1000000 = true) (s_31 : ∀ k, S 31 k = true) (s_39 : ∀ k, S 39 k = true) (hm : f_X11_reign  m a1 a2 a3 = some (r, mm)) : Fr S m mm := by
  unfold f_X11_reign at hm
  refine fr_wr hm (by first | exact s_31 _ | exact s_39 _ | assumption) (fun m1 hm => ?_)
  refine fr_cal hm (fun _ _ h => fr_X11_isIn h) (fun x3 m2 hm => ?_)
  refine fr_if hm (fun hm => ?_) (fun hm => ?_)
  · skip
    exact fr_ret hm
  · skip
    refine fr_cal hm (fun _ _ h => fr_X11_isIn h) (fun x5 m4 hm => ?_)
    refine fr_if hm (fun hm => ?_) (fun hm => ?_)
    · skip
      exact fr_ret hm
    · skip
      refine g_jn (J := fun (s : Sg) => Fr S s mm) hm ?_ ?_
      · intro m6 hm
        refine fr_calv hm (fun _ h => fr_X11_copy (by first | exact s_31 _ | exact s_39 _ | assumption) h) (fun m8 hm => ?_)
        refine fr_cal hm (fun _ _ h => fr_X11_reigns (by first | exact s_31 _ | exact s_39 _ | assumption) (by first | exact s_31 _ | exact s_39 _ | assumption) (by first | exact s_31 _ | exact s_39 _ | assumption) (by first | exact s_31 _ | exact s_39 _ | assumption) (by first | exact s_31 _ | exact s_39 _ | assumption) (by first | exact s_31 _ | exact s_39 _ | assumption) (by first | exact s_31 _ | exact s_39 _ | assumption) (by first | exact s_31 _ | exact s_39 _ | assumption) (by first | exact s_31 _ | exact s_39 _ | assumption) (by first | exact s_31 _ | exact s_39 _ | assumption) (by first | exact s_31 _ | exact s_39 _ | assumption) (by first | exact s_31 _ | exact s_39 _ | assumption) (by first | exact s_31 _ | exact s_39 _ | assumption) h) (fun x10 m9 hm => ?_)
        exact fr_ret hm
      · intro k7 hk7 hm
        refine fr_fi hm (fun hm => ?_) (fun hm => ?_)
        · skip
          refine fr_cal hm (fun _ _ h => fr_X11_isNursery h) (fun x12 m11 hm => ?_)
          refine fr_fi hm (fun hm => ?_) (fun hm => ?_)
          · exact hk7 _ hm
          · skip
            exact fr_ret hm
        · skip
          refine fr_cal hm (fun _ _ h => fr_X11_isChild h) (fun x14 m13 hm => ?_)
          refine fr_fi hm (fun hm => ?_) (fun hm => ?_)
          · exact hk7 _ hm
          · skip
            exact fr_ret hm
set_option maxRecDepth 4000 in
theorem fr_X11_reignBy {S : Nat → Nat → Bool} {m mm : Sg} {r : Int32} {a1 : Int32} {a2 : Int32} {a3 : Int32} (s_27_5 : S 27 5 = true) (s_27_8 : S 27 8 = true) (s_27_9 : S 27 9 = true) (s_27_10 : S 27 10 = true) (s_27_11 : S 27 11 = true) (s_27_12 : S 27 12 = true) (s_27_13 : S 27 13 = true) (s_27_14 : S 27 14 = true) (s_27_17 : S 27 17 = true) (s_27_34 : S 27 34 = true) (s_27_35 : S 27 35 = true) (s_27_36 : S 27 36 = true) (l_27 : S 27 1000000 = true) (s_31 : ∀ k, S 31 k = true) (s_39 : ∀ k, S 39 k = true) (hm : f_X11_reignBy  m a1 a2 a3 = some (r, mm)) : Fr S m mm := by
  unfold f_X11_reignBy at hm
  refine fr_calv hm (fun _ h => fr_X11_copy (by first | exact s_31 _ | exact s_39 _ | assumption) h) (fun m1 hm => ?_)
  refine fr_wr hm (by first | exact s_31 _ | exact s_39 _ | assumption) (fun m2 hm => ?_)
  refine fr_wr hm (by first | exact s_31 _ | exact s_39 _ | assumption) (fun m3 hm => ?_)
  refine fr_wr hm (by first | exact s_31 _ | exact s_39 _ | assumption) (fun m4 hm => ?_)
  refine g_jn (J := fun (s : Sg) => Fr S s mm) hm ?_ ?_
  · intro m5 hm
    refine fr_cal hm (fun _ _ h => fr_X11_reigns (by first | exact s_31 _ | exact s_39 _ | assumption) (by first | exact s_31 _ | exact s_39 _ | assumption) (by first | exact s_31 _ | exact s_39 _ | assumption) (by first | exact s_31 _ | exact s_39 _ | assumption) (by first | exact s_31 _ | exact s_39 _ | assumption) (by first | exact s_31 _ | exact s_39 _ | assumption) (by first | exact s_31 _ | exact s_39 _ | assumption) (by first | exact s_31 _ | exact s_39 _ | assumption) (by first | exact s_31 _ | exact s_39 _ | assumption) (by first | exact s_31 _ | exact s_39 _ | assumption) (by first | exact s_31 _ | exact s_39 _ | assumption) (by first | exact s_31 _ | exact s_39 _ | assumption) (by first | exact s_31 _ | exact s_39 _ | assumption) h) (fun x8 m7 hm => ?_)
    refine fr_wr hm (by first | exact s_31 _ | exact s_39 _ | assumption) (fun m9 hm => ?_)
    exact fr_ret hm
  · intro k6 hk6 hm
    refine fr_if hm (fun hm => ?_) (fun hm => ?_)
    · skip
      exact hk6 _ hm
    · skip
      refine fr_calv hm (fun _ h => fr_X11_begins (by first | exact s_31 _ | exact s_39 _ | assumption) (by first | exact s_31 _ | exact s_39 _ | assumption) h) (fun m10 hm => ?_)
      exact hk6 _ hm
set_option maxRecDepth 4000 in
theorem fr_X11_rulesAll {S : Nat → Nat → Bool} {m mm : Sg} {r : Int32} {a1 : Int32} {a2 : Int32} {a3 : Int32} {a4 : Int32} (s_27_5 : S 27 5 = true) (s_27_8 : S 27 8 = true) (s_27_9 : S 27 9 = true) (s_27_10 : S 27 10 = true) (s_27_11 : S 27 11 = true) (s_27_12 : S 27 12 = true) (s_27_13 : S 27 13 = true) (s_27_14 : S 27 14 = true) (s_27_17 : S 27 17 = true) (s_27_35 : S 27 35 = true) (l_27 : S 27 1000000 = true) (s_31 : ∀ k, S 31 k = true) (s_39 : ∀ k, S 39 k = true) (hm : f_X11_rulesAll  m a1 a2 a3 a4 = some (r, mm)) : Fr S m mm := by
  unfold f_X11_rulesAll at hm
  refine fr_calv hm (fun _ h => fr_X11_copy (by first | exact s_31 _ | exact s_39 _ | assumption) h) (fun m1 hm => ?_)
  refine g_lp (I := fun (s : Sg × Int32) => Fr S s.1 mm) (E := fun (s : Sg) => Fr S s mm) hm ?_ ?_
  · rintro m4 hm
    (try dsimp only at hm)
    (try dsimp only)
    refine fr_cal hm (fun _ _ h => fr_X11_reigns (by first | exact s_31 _ | exact s_39 _ | assumption) (by first | exact s_31 _ | exact s_39 _ | assumption) (by first | exact s_31 _ | exact s_39 _ | assumption) (by first | exact s_31 _ | exact s_39 _ | assumption) (by first | exact s_31 _ | exact s_39 _ | assumption) (by first | exact s_31 _ | exact s_39 _ | assumption) (by first | exact s_31 _ | exact s_39 _ | assumption) (by first | exact s_31 _ | exact s_39 _ | assumption) (by first | exact s_31 _ | exact s_39 _ | assumption) (by first | exact s_31 _ | exact s_39 _ | assumption) (by first | exact s_31 _ | exact s_39 _ | assumption) (by first | exact s_31 _ | exact s_39 _ | assumption) (by first | exact s_31 _ | exact s_39 _ | assumption) h) (fun x14 m13 hm => ?_)
    refine fr_fi hm (fun hm => ?_) (fun hm => ?_)
    · skip
      exact fr_ret hm
    · skip
      exact fr_ret hm
  · rintro ⟨m2, x3⟩ o hm hx6 hi5
    (try dsimp only [f_X11_rulesAll_L14] at hm)
    (try dsimp only)
    refine fr_if hm (fun hm => ?_) (fun hm => ?_)
    · skip
      cases hm
      exact hx6 _ rfl
    · skip
      refine fr_cal hm (fun _ _ h => fr_X11_has h) (fun x8 m7 hm => ?_)
      refine g_jn (J := fun (s : Sg) => Fr S s mm) hm ?_ ?_
      · intro m9 hm
        refine fr_b hm (fun x11 hm => ?_)
        cases hm
        exact hi5 _ rfl
      · intro k10 hk10 hm
        refine fr_if hm (fun hm => ?_) (fun hm => ?_)
        · exact hk10 _ hm
        · skip
          refine fr_calv hm (fun _ h => fr_X11_keeps (by first | exact s_31 _ | exact s_39 _ | assumption) h) (fun m12 hm => ?_)
          exact hk10 _ hm
set_option maxRecDepth 4000 in
theorem fr_X11_keepers {S : Nat → Nat → Bool} {m mm : Sg} {r : Int32} {a1 : Int32} {a2 : Int32} {a3 : Int32} (s_27_0 : S 27 0 = true) (s_27_5 : S 27 5 = true) (s_27_8 : S 27 8 = true) (s_27_9 : S 27 9 = true) (s_27_10 : S 27 10 = true) (s_27_11 : S 27 11 = true) (s_27_12 : S 27 12 = true) (s_27_13 : S 27 13 = true) (s_27_14 : S 27 14 = true) (s_27_17 : S 27 17 = true) (s_27_35 : S 27 35 = true) (l_27 : S 27 1000000 = true) (s_31 : ∀ k, S 31 k = true) (s_39 : ∀ k, S 39 k = true) (hm : f_X11_keepers  m a1 a2 a3 = some (r, mm)) : Fr S m mm := by
  unfold f_X11_keepers at hm
  refine fr_wr hm (by first | exact s_31 _ | exact s_39 _ | assumption) (fun m1 hm => ?_)
  refine fr_cal hm (fun _ _ h => fr_X11_isChild h) (fun x3 m2 hm => ?_)
  refine fr_if hm (fun hm => ?_) (fun hm => ?_)
  · skip
    exact fr_ret hm
  · skip
    refine fr_cal hm (fun _ _ h => fr_X11_isTen h) (fun x5 m4 hm => ?_)
    refine fr_if hm (fun hm => ?_) (fun hm => ?_)
    · skip
      exact fr_ret hm
    · skip
      refine fr_cal hm (fun _ _ h => fr_X11_isIn h) (fun x7 m6 hm => ?_)
      refine fr_fi hm (fun hm => ?_) (fun hm => ?_)
      · skip
        refine g_lp (I := fun (s : Sg × Int32 × Int32) => Fr S s.1 mm) (E := fun (s : Sg × Int32) => Fr S s.1 mm) hm ?_ ?_
        · rintro ⟨m11, x12⟩ hm
          (try dsimp only at hm)
          (try dsimp only)
          exact fr_ret hm
        · rintro ⟨m8, x9, x10⟩ o hm hx14 hi13
          (try dsimp only [f_X11_keepers_L40] at hm)
          (try dsimp only)
          refine fr_if hm (fun hm => ?_) (fun hm => ?_)
          · skip
            cases hm
            exact hx14 _ rfl
          · skip
            refine fr_cal hm (fun _ _ h => fr_X11_has h) (fun x16 m15 hm => ?_)
            refine g_jn (J := fun (s : Sg × Int32) => Fr S s.1 mm) hm ?_ ?_
            · rintro ⟨m17, x18⟩ hm
              (try dsimp only at hm)
              (try dsimp only)
              refine fr_b hm (fun x20 hm => ?_)
              cases hm
              exact hi13 _ rfl
            · intro k19 hk19 hm
              refine fr_fi hm (fun hm => ?_) (fun hm => ?_)
              · exact hk19 _ hm
              · skip
                refine g_jn (J := fun (s : Sg) => Fr S s mm) hm ?_ ?_
                · intro m21 hm
                  refine fr_cal hm (fun _ _ h => fr_X11_rulesAll (by first | exact s_31 _ | exact s_39 _ | assumption) (by first | exact s_31 _ | exact s_39 _ | assumption) (by first | exact s_31 _ | exact s_39 _ | assumption) (by first | exact s_31 _ | exact s_39 _ | assumption) (by first | exact s_31 _ | exact s_39 _ | assumption) (by first | exact s_31 _ | exact s_39 _ | assumption) (by first | exact s_31 _ | exact s_39 _ | assumption) (by first | exact s_31 _ | exact s_39 _ | assumption) (by first | exact s_31 _ | exact s_39 _ | assumption) (by first | exact s_31 _ | exact s_39 _ | assumption) (by first | exact s_31 _ | exact s_39 _ | assumption) (by first | exact s_31 _ | exact s_39 _ | assumption) (by first | exact s_31 _ | exact s_39 _ | assumption) h) (fun x24 m23 hm => ?_)
                  refine fr_if hm (fun hm => ?_) (fun hm => ?_)
                  · exact hk19 _ hm
                  · skip
                    exact hk19 _ hm
                · intro k22 hk22 hm
                  refine fr_if hm (fun hm => ?_) (fun hm => ?_)
                  · exact hk22 _ hm
                  · skip
                    refine fr_cal hm (fun _ _ h => fr_J6_bitCount_0f7a4 h) (fun x26 m25 hm => ?_)
                    refine fr_cal hm (fun _ _ h => fr_J6_bitCount_0f7a4 h) (fun x28 m27 hm => ?_)
                    refine fr_if hm (fun hm => ?_) (fun hm => ?_)
                    · exact hk19 _ hm
                    · exact hk22 _ hm
      · skip
        exact fr_ret hm
set_option maxRecDepth 4000 in
theorem fr_X11_duelOf {S : Nat → Nat → Bool} {m mm : Sg} {r : Int32} {a1 : Int32} {a2 : Int32} {a3 : Int32} {a4 : Int32} (s_27_5 : S 27 5 = true) (s_27_8 : S 27 8 = true) (s_27_9 : S 27 9 = true) (s_27_10 : S 27 10 = true) (s_27_11 : S 27 11 = true) (s_27_12 : S 27 12 = true) (s_27_13 : S 27 13 = true) (s_27_14 : S 27 14 = true) (s_27_17 : S 27 17 = true) (s_27_35 : S 27 35 = true) (l_27 : S 27 1000000 = true) (s_31 : ∀ k, S 31 k = true) (s_39 : ∀ k, S 39 k = true) (hm : f_X11_duelOf  m a1 a2 a3 a4 = some (r, mm)) : Fr S m mm := by
  unfold f_X11_duelOf at hm
  refine fr_calv hm (fun _ h => fr_X11_copy (by first | exact s_31 _ | exact s_39 _ | assumption) h) (fun m1 hm => ?_)
  refine fr_calv hm (fun _ h => fr_X11_teachesAtOnce (by first | exact s_31 _ | exact s_39 _ | assumption) h) (fun m2 hm => ?_)
  refine fr_calv hm (fun _ h => fr_X11_teachesAtOnce (by first | exact s_31 _ | exact s_39 _ | assumption) h) (fun m3 hm => ?_)
  refine g_lp (I := fun (s : Sg × Int32 × Int32) => Fr S s.1 mm) (E := fun (s : Sg × Int32) => Fr S s.1 mm) hm ?_ ?_
  · rintro ⟨m7, x8⟩ hm
    (try dsimp only at hm)
    (try dsimp only)
    exact fr_ret hm
  · rintro ⟨m4, x5, x6⟩ o hm hx10 hi9
    (try dsimp only [f_X11_duelOf_L28] at hm)
    (try dsimp only)
    refine fr_if hm (fun hm => ?_) (fun hm => ?_)
    · skip
      cases hm
      exact hx10 _ rfl
    · skip
      refine fr_calv hm (fun _ h => fr_X11_goMonth (by first | exact s_31 _ | exact s_39 _ | assumption) (by first | exact s_31 _ | exact s_39 _ | assumption) (by first | exact s_31 _ | exact s_39 _ | assumption) (by first | exact s_31 _ | exact s_39 _ | assumption) (by first | exact s_31 _ | exact s_39 _ | assumption) (by first | exact s_31 _ | exact s_39 _ | assumption) (by first | exact s_31 _ | exact s_39 _ | assumption) (by first | exact s_31 _ | exact s_39 _ | assumption) (by first | exact s_31 _ | exact s_39 _ | assumption) (by first | exact s_31 _ | exact s_39 _ | assumption) (by first | exact s_31 _ | exact s_39 _ | assumption) (by first | exact s_31 _ | exact s_39 _ | assumption) (by first | exact s_31 _ | exact s_39 _ | assumption) h) (fun m11 hm => ?_)
      refine fr_b hm (fun x12 hm => ?_)
      refine g_jn (J := fun (s : Sg × Int32) => Fr S s.1 mm) hm ?_ ?_
      · rintro ⟨m13, x14⟩ hm
        (try dsimp only at hm)
        (try dsimp only)
        refine fr_b hm (fun x16 hm => ?_)
        cases hm
        exact hi9 _ rfl
      · intro k15 hk15 hm
        refine fr_fi hm (fun hm => ?_) (fun hm => ?_)
        · skip
          refine fr_n hm (fun hm => ?_)
          refine g_jn (J := fun (s : Sg × Int32) => Fr S s.1 mm) hm ?_ ?_
          · rintro ⟨m17, x18⟩ hm
            (try dsimp only at hm)
            (try dsimp only)
            refine fr_b hm (fun x20 hm => ?_)
            exact hk15 _ hm
          · intro k19 hk19 hm
            refine fr_fi hm (fun hm => ?_) (fun hm => ?_)
            · skip
              refine fr_n hm (fun hm => ?_)
              refine fr_fi hm (fun hm => ?_) (fun hm => ?_)
              · skip
                exact hk19 _ hm
              · skip
                exact hk19 _ hm
            · skip
              exact hk19 _ hm
        · skip
          exact hk15 _ hm
set_option maxRecDepth 4000 in
theorem fr_X11_duel {S : Nat → Nat → Bool} {m mm : Sg} {r : Int32} {a1 : Int32} {a2 : Int32} {a3 : Int32} {a4 : Int32} (s_27_0 : S 27 0 = true) (s_27_5 : S 27 5 = true) (s_27_8 : S 27 8 = true) (s_27_9 : S 27 9 = true) (s_27_10 : S 27 10 = true) (s_27_11 : S 27 11 = true) (s_27_12 : S 27 12 = true) (s_27_13 : S 27 13 = true) (s_27_14 : S 27 14 = true) (s_27_17 : S 27 17 = true) (s_27_35 : S 27 35 = true) (l_27 : S 27 1000000 = true) (s_31 : ∀ k, S 31 k = true) (s_39 : ∀ k, S 39 k = true) (hm : f_X11_duel  m a1 a2 a3 a4 = some (r, mm)) : Fr S m mm := by
  unfold f_X11_duel at hm
  refine fr_wr hm (by first | exact s_31 _ | exact s_39 _ | assumption) (fun m1 hm => ?_)
  refine fr_cal hm (fun _ _ h => fr_X11_isNursery h) (fun x3 m2 hm => ?_)
  refine g_jn (J := fun (s : Sg) => Fr S s mm) hm ?_ ?_
  · intro m4 hm
    exact fr_ret hm
  · intro k5 hk5 hm
    refine fr_if hm (fun hm => ?_) (fun hm => ?_)
    · skip
      exact hk5 _ hm
    · skip
      refine fr_cal hm (fun _ _ h => fr_X11_isNursery h) (fun x7 m6 hm => ?_)
      refine fr_if hm (fun hm => ?_) (fun hm => ?_)
      · skip
        exact hk5 _ hm
      · skip
        refine fr_if hm (fun hm => ?_) (fun hm => ?_)
        · skip
          exact hk5 _ hm
        · skip
          refine fr_cal hm (fun _ _ h => fr_X11_isOf h) (fun x9 m8 hm => ?_)
          refine fr_if hm (fun hm => ?_) (fun hm => ?_)
          · skip
            exact hk5 _ hm
          · skip
            refine fr_cal hm (fun _ _ h => fr_X11_isOf h) (fun x11 m10 hm => ?_)
            refine fr_if hm (fun hm => ?_) (fun hm => ?_)
            · skip
              exact hk5 _ hm
            · skip
              refine fr_cal hm (fun _ _ h => fr_X11_duelOf (by first | exact s_31 _ | exact s_39 _ | assumption) (by first | exact s_31 _ | exact s_39 _ | assumption) (by first | exact s_31 _ | exact s_39 _ | assumption) (by first | exact s_31 _ | exact s_39 _ | assumption) (by first | exact s_31 _ | exact s_39 _ | assumption) (by first | exact s_31 _ | exact s_39 _ | assumption) (by first | exact s_31 _ | exact s_39 _ | assumption) (by first | exact s_31 _ | exact s_39 _ | assumption) (by first | exact s_31 _ | exact s_39 _ | assumption) (by first | exact s_31 _ | exact s_39 _ | assumption) (by first | exact s_31 _ | exact s_39 _ | assumption) (by first | exact s_31 _ | exact s_39 _ | assumption) (by first | exact s_31 _ | exact s_39 _ | assumption) h) (fun x13 m12 hm => ?_)
              exact fr_ret hm
set_option maxRecDepth 4000 in
theorem fr_X11_rests {S : Nat → Nat → Bool} {m mm : Sg} {r : Int32} {a1 : Int32} {a2 : Int32} {a3 : Int32} (s_27_0 : S 27 0 = true) (s_27_5 : S 27 5 = true) (s_27_8 : S 27 8 = true) (s_27_9 : S 27 9 = true) (s_27_10 : S 27 10 = true) (s_27_11 : S 27 11 = true) (s_27_12 : S 27 12 = true) (s_27_13 : S 27 13 = true) (s_27_14 : S 27 14 = true) (s_27_17 : S 27 17 = true) (s_27_35 : S 27 35 = true) (l_27 : S 27 1000000 = true) (s_31 : ∀ k, S 31 k = true) (s_39 : ∀ k, S 39 k = true) (s_42 : ∀ k, S 42 k = true) (hm : f_X11_rests  m a1 a2 a3 = some (r, mm)) : Fr S m mm := by
  unfold f_X11_rests at hm
  refine fr_wr hm (by first | exact s_31 _ | exact s_39 _ | exact s_42 _ | assumption) (fun m1 hm => ?_)
  refine fr_cal hm (fun _ _ h => fr_X11_isNursery h) (fun x3 m2 hm => ?_)
  refine fr_if hm (fun hm => ?_) (fun hm => ?_)
  · skip
    exact fr_ret hm
  · skip
    refine fr_cal hm (fun _ _ h => fr_X11_isNursery h) (fun x5 m4 hm => ?_)
    refine fr_if hm (fun hm => ?_) (fun hm => ?_)
    · skip
      exact fr_ret hm
    · skip
      refine fr_if hm (fun hm => ?_) (fun hm => ?_)
      · skip
        exact fr_ret hm
      · skip
        refine fr_if hm (fun hm => ?_) (fun hm => ?_)
        · skip
          refine g_lp (I := fun (s : Sg × Int32) => Fr S s.1 mm) (E := fun (s : Sg) => Fr S s mm) hm ?_ ?_
          · rintro m8 hm
            (try dsimp only at hm)
            (try dsimp only)
            refine g_lp (I := fun (s : Sg × Int32 × Int32) => Fr S s.1 mm) (E := fun (x : (Sg × Int32 × Int32) ⊕ (Sg × Int32)) => match x with | .inl (m30, x31, x32) => Fr S m30 mm | .inr (m33, x34) => Fr S m33 mm) hm ?_ ?_
            · rintro (⟨m30, x31, x32⟩ | ⟨m33, x34⟩) hm
              · (try dsimp only at hm)
                (try dsimp only)
                exact fr_ret hm
              · (try dsimp only at hm)
                (try dsimp only)
                refine fr_fi hm (fun hm => ?_) (fun hm => ?_)
                · skip
                  exact fr_ret hm
                · skip
                  exact fr_ret hm
            · rintro ⟨m27, x28, x29⟩ o hm hx36 hi35
              (try dsimp only [f_X11_rests_L118] at hm)
              (try dsimp only)
              refine fr_if hm (fun hm => ?_) (fun hm => ?_)
              · skip
                cases hm
                exact hx36 _ rfl
              · skip
                refine g_lp (I := fun (s : Sg × Int32 × Int32) => Fr S s.1 mm) (E := fun (x : (Sg × Int32) ⊕ (Sg × Int32)) => match x with | .inl (m40, x41) => Fr S m40 mm | .inr (m42, x43) => Fr S m42 mm) hm ?_ ?_
                · rintro (⟨m40, x41⟩ | ⟨m42, x43⟩) hm
                  · (try dsimp only at hm)
                    (try dsimp only)
                    cases hm
                    exact hx36 _ rfl
                  · (try dsimp only at hm)
                    (try dsimp only)
                    refine fr_b hm (fun x57 hm => ?_)
                    cases hm
                    exact hi35 _ rfl
                · rintro ⟨m37, x38, x39⟩ o hm hx45 hi44
                  (try dsimp only [f_X11_rests_L130] at hm)
                  (try dsimp only)
                  refine fr_if hm (fun hm => ?_) (fun hm => ?_)
                  · skip
                    cases hm
                    exact hx45 _ rfl
                  · skip
                    refine fr_cal hm (fun _ _ h => fr_X11_isOf h) (fun x47 m46 hm => ?_)
                    refine g_jn (J := fun (s : Sg × Int32) => Fr S s.1 mm) hm ?_ ?_
                    · rintro ⟨m48, x49⟩ hm
                      (try dsimp only at hm)
                      (try dsimp only)
                      refine fr_b hm (fun x51 hm => ?_)
                      cases hm
                      exact hi44 _ rfl
                    · intro k50 hk50 hm
                      refine fr_if hm (fun hm => ?_) (fun hm => ?_)
                      · exact hk50 _ hm
                      · skip
                        refine fr_cal hm (fun _ _ h => fr_X11_isOf h) (fun x53 m52 hm => ?_)
                        refine fr_if hm (fun hm => ?_) (fun hm => ?_)
                        · exact hk50 _ hm
                        · skip
                          refine fr_cal hm (fun _ _ h => fr_X11_isRest h) (fun x55 m54 hm => ?_)
                          refine fr_fi hm (fun hm => ?_) (fun hm => ?_)
                          · skip
                            refine fr_fi hm (fun hm => ?_) (fun hm => ?_)
                            · refine fr_b hm (fun x56 hm => ?_)
                              exact hk50 _ hm
                            · skip
                              cases hm
                              exact hx45 _ rfl
                          · skip
                            exact hk50 _ hm
          · rintro ⟨m6, x7⟩ o hm hx10 hi9
            (try dsimp only [f_X11_rests_L36] at hm)
            (try dsimp only)
            refine fr_if hm (fun hm => ?_) (fun hm => ?_)
            · skip
              cases hm
              exact hx10 _ rfl
            · skip
              refine g_lp (I := fun (s : Sg × Int32) => Fr S s.1 mm) (E := fun (s : Sg) => Fr S s mm) hm ?_ ?_
              · rintro m13 hm
                (try dsimp only at hm)
                (try dsimp only)
                refine fr_b hm (fun x26 hm => ?_)
                cases hm
                exact hi9 _ rfl
              · rintro ⟨m11, x12⟩ o hm hx15 hi14
                (try dsimp only [f_X11_rests_L48] at hm)
                (try dsimp only)
                refine fr_if hm (fun hm => ?_) (fun hm => ?_)
                · skip
                  cases hm
                  exact hx15 _ rfl
                · skip
                  refine fr_cal hm (fun _ _ h => fr_X11_isOf h) (fun x17 m16 hm => ?_)
                  refine g_jn (J := fun (s : Sg) => Fr S s mm) hm ?_ ?_
                  · intro m18 hm
                    refine fr_b hm (fun x20 hm => ?_)
                    cases hm
                    exact hi14 _ rfl
                  · intro k19 hk19 hm
                    refine fr_if hm (fun hm => ?_) (fun hm => ?_)
                    · exact hk19 _ hm
                    · skip
                      refine fr_cal hm (fun _ _ h => fr_X11_isOf h) (fun x22 m21 hm => ?_)
                      refine fr_if hm (fun hm => ?_) (fun hm => ?_)
                      · exact hk19 _ hm
                      · skip
                        refine fr_cal hm (fun _ _ h => fr_X11_duelOf (by first | exact s_31 _ | exact s_39 _ | exact s_42 _ | assumption) (by first | exact s_31 _ | exact s_39 _ | exact s_42 _ | assumption) (by first | exact s_31 _ | exact s_39 _ | exact s_42 _ | assumption) (by first | exact s_31 _ | exact s_39 _ | exact s_42 _ | assumption) (by first | exact s_31 _ | exact s_39 _ | exact s_42 _ | assumption) (by first | exact s_31 _ | exact s_39 _ | exact s_42 _ | assumption) (by first | exact s_31 _ | exact s_39 _ | exact s_42 _ | assumption) (by first | exact s_31 _ | exact s_39 _ | exact s_42 _ | assumption) (by first | exact s_31 _ | exact s_39 _ | exact s_42 _ | assumption) (by first | exact s_31 _ | exact s_39 _ | exact s_42 _ | assumption) (by first | exact s_31 _ | exact s_39 _ | exact s_42 _ | assumption) (by first | exact s_31 _ | exact s_39 _ | exact s_42 _ | assumption) (by first | exact s_31 _ | exact s_39 _ | exact s_42 _ | assumption) h) (fun x24 m23 hm => ?_)
                        refine fr_st hm (by first | exact s_31 _ | exact s_39 _ | exact s_42 _ | assumption) (fun m25 hm => ?_)
                        exact hk19 _ hm
        · skip
          exact fr_ret hm
set_option maxRecDepth 4000 in
theorem fr_X11_late {S : Nat → Nat → Bool} {m mm : Sg} {r : Int32} (s_27_0 : S 27 0 = true) (s_27_5 : S 27 5 = true) (s_27_8 : S 27 8 = true) (s_27_9 : S 27 9 = true) (s_27_10 : S 27 10 = true) (s_27_11 : S 27 11 = true) (s_27_12 : S 27 12 = true) (s_27_13 : S 27 13 = true) (s_27_14 : S 27 14 = true) (s_27_17 : S 27 17 = true) (s_27_35 : S 27 35 = true) (l_27 : S 27 1000000 = true) (s_31 : ∀ k, S 31 k = true) (s_39 : ∀ k, S 39 k = true) (hm : f_X11_late  m  = some (r, mm)) : Fr S m mm := by
  unfold f_X11_late at hm
  refine fr_wr hm (by first | exact s_31 _ | exact s_39 _ | assumption) (fun m1 hm => ?_)
  refine fr_fi hm (fun hm => ?_) (fun hm => ?_)
  · skip
    refine fr_calv hm (fun _ h => fr_X11_copy (by first | exact s_31 _ | exact s_39 _ | assumption) h) (fun m2 hm => ?_)
    refine g_lp (I := fun (s : Sg × Int32) => Fr S s.1 mm) (E := fun (x : (Sg × Int32) ⊕ (Sg)) => match x with | .inl (m5, x6) => Fr S m5 mm | .inr m7 => Fr S m7 mm) hm ?_ ?_
    · rintro (⟨m5, x6⟩ | m7) hm
      · (try dsimp only at hm)
        (try dsimp only)
        exact fr_ret hm
      · (try dsimp only at hm)
        (try dsimp only)
        exact fr_ret hm
    · rintro ⟨m3, x4⟩ o hm hx9 hi8
      (try dsimp only [f_X11_late_L27] at hm)
      (try dsimp only)
      refine fr_if hm (fun hm => ?_) (fun hm => ?_)
      · skip
        cases hm
        exact hx9 _ rfl
      · skip
        refine fr_cal hm (fun _ _ h => fr_X11_examinerOf h) (fun x11 m10 hm => ?_)
        refine fr_fi hm (fun hm => ?_) (fun hm => ?_)
        · skip
          refine fr_calv hm (fun _ h => fr_X11_goMonth (by first | exact s_31 _ | exact s_39 _ | assumption) (by first | exact s_31 _ | exact s_39 _ | assumption) (by first | exact s_31 _ | exact s_39 _ | assumption) (by first | exact s_31 _ | exact s_39 _ | assumption) (by first | exact s_31 _ | exact s_39 _ | assumption) (by first | exact s_31 _ | exact s_39 _ | assumption) (by first | exact s_31 _ | exact s_39 _ | assumption) (by first | exact s_31 _ | exact s_39 _ | assumption) (by first | exact s_31 _ | exact s_39 _ | assumption) (by first | exact s_31 _ | exact s_39 _ | assumption) (by first | exact s_31 _ | exact s_39 _ | assumption) (by first | exact s_31 _ | exact s_39 _ | assumption) (by first | exact s_31 _ | exact s_39 _ | assumption) h) (fun m12 hm => ?_)
          refine fr_b hm (fun x13 hm => ?_)
          cases hm
          exact hi8 _ rfl
        · skip
          cases hm
          exact hx9 _ rfl
  · skip
    exact fr_ret hm
set_option maxRecDepth 4000 in
theorem fr_X11_richest {S : Nat → Nat → Bool} {m mm : Sg} {r : Int32} {a1 : Int32} {a2 : Int32} (s_27_0 : S 27 0 = true) (s_27_5 : S 27 5 = true) (s_27_8 : S 27 8 = true) (s_27_9 : S 27 9 = true) (s_27_10 : S 27 10 = true) (s_27_11 : S 27 11 = true) (s_27_12 : S 27 12 = true) (s_27_13 : S 27 13 = true) (s_27_14 : S 27 14 = true) (s_27_17 : S 27 17 = true) (s_27_31 : S 27 31 = true) (s_27_35 : S 27 35 = true) (l_27 : S 27 1000000 = true) (s_31 : ∀ k, S 31 k = true) (s_39 : ∀ k, S 39 k = true) (hm : f_X11_richest  m a1 a2 = some (r, mm)) : Fr S m mm := by
  unfold f_X11_richest at hm
  refine fr_wr hm (by first | exact s_31 _ | exact s_39 _ | assumption) (fun m1 hm => ?_)
  refine g_jn (J := fun (s : Sg) => Fr S s mm) hm ?_ ?_
  · intro m2 hm
    exact fr_ret hm
  · intro k3 hk3 hm
    refine fr_if hm (fun hm => ?_) (fun hm => ?_)
    · skip
      exact hk3 _ hm
    · skip
      refine fr_cal hm (fun _ _ h => fr_X11_isIn h) (fun x5 m4 hm => ?_)
      refine fr_if hm (fun hm => ?_) (fun hm => ?_)
      · skip
        exact hk3 _ hm
      · skip
        refine fr_cal hm (fun _ _ h => fr_X11_isIn h) (fun x7 m6 hm => ?_)
        refine fr_fi hm (fun hm => ?_) (fun hm => ?_)
        · skip
          refine fr_b hm (fun x8 hm => ?_)
          refine g_lp (I := fun (s : Sg × Int32 × Int32 × Int32) => Fr S s.1 mm) (E := fun (s : Sg × Int32 × Int32) => Fr S s.1 mm) hm ?_ ?_
          · rintro ⟨m13, x14, x15⟩ hm
            (try dsimp only at hm)
            (try dsimp only)
            refine fr_wr hm (by first | exact s_31 _ | exact s_39 _ | assumption) (fun m33 hm => ?_)
            refine fr_fi hm (fun hm => ?_) (fun hm => ?_)
            · skip
              exact fr_ret hm
            · skip
              exact fr_ret hm
          · rintro ⟨m9, x10, x11, x12⟩ o hm hx17 hi16
            (try dsimp only [f_X11_richest_L52] at hm)
            (try dsimp only)
            refine fr_if hm (fun hm => ?_) (fun hm => ?_)
            · skip
              cases hm
              exact hx17 _ rfl
            · skip
              refine fr_wr hm (by first | exact s_31 _ | exact s_39 _ | assumption) (fun m18 hm => ?_)
              refine fr_calv hm (fun _ h => fr_X11_copy (by first | exact s_31 _ | exact s_39 _ | assumption) h) (fun m19 hm => ?_)
              refine g_lp (I := fun (s : Sg × Int32) => Fr S s.1 mm) (E := fun (s : Sg) => Fr S s mm) hm ?_ ?_
              · rintro m22 hm
                (try dsimp only at hm)
                (try dsimp only)
                refine g_jn (J := fun (s : Sg × Int32 × Int32) => Fr S s.1 mm) hm ?_ ?_
                · rintro ⟨m27, x28, x29⟩ hm
                  (try dsimp only at hm)
                  (try dsimp only)
                  refine fr_b hm (fun x31 hm => ?_)
                  cases hm
                  exact hi16 _ rfl
                · intro k30 hk30 hm
                  refine fr_if hm (fun hm => ?_) (fun hm => ?_)
                  · skip
                    refine fr_b hm (fun x32 hm => ?_)
                    exact hk30 _ hm
                  · skip
                    exact hk30 _ hm
              · rintro ⟨m20, x21⟩ o hm hx24 hi23
                (try dsimp only [f_X11_richest_L81] at hm)
                (try dsimp only)
                refine fr_if hm (fun hm => ?_) (fun hm => ?_)
                · skip
                  cases hm
                  exact hx24 _ rfl
                · skip
                  refine fr_calv hm (fun _ h => fr_X11_goMonth (by first | exact s_31 _ | exact s_39 _ | assumption) (by first | exact s_31 _ | exact s_39 _ | assumption) (by first | exact s_31 _ | exact s_39 _ | assumption) (by first | exact s_31 _ | exact s_39 _ | assumption) (by first | exact s_31 _ | exact s_39 _ | assumption) (by first | exact s_31 _ | exact s_39 _ | assumption) (by first | exact s_31 _ | exact s_39 _ | assumption) (by first | exact s_31 _ | exact s_39 _ | assumption) (by first | exact s_31 _ | exact s_39 _ | assumption) (by first | exact s_31 _ | exact s_39 _ | assumption) (by first | exact s_31 _ | exact s_39 _ | assumption) (by first | exact s_31 _ | exact s_39 _ | assumption) (by first | exact s_31 _ | exact s_39 _ | assumption) h) (fun m25 hm => ?_)
                  refine fr_b hm (fun x26 hm => ?_)
                  cases hm
                  exact hi23 _ rfl
        · skip
          exact hk3 _ hm
set_option maxRecDepth 4000 in
theorem fr_X11_goPlan {S : Nat → Nat → Bool} {m mm : Sg} {a1 : Int32} {a2 : Int32} {a3 : Int32} {a4 : Int32} {a5 : Int32} {R : Sg → Int32 → Int32 → Int32 → Int32 → Int32 → Option Sg} (hR : ∀ m a b c e f m1, R m a b c e f = some m1 → Fr S m m1) (s_27_5 : S 27 5 = true) (s_27_8 : S 27 8 = true) (s_27_9 : S 27 9 = true) (s_27_10 : S 27 10 = true) (s_27_11 : S 27 11 = true) (s_27_12 : S 27 12 = true) (s_27_13 : S 27 13 = true) (s_27_14 : S 27 14 = true) (s_27_17 : S 27 17 = true) (s_27_34 : S 27 34 = true) (s_27_35 : S 27 35 = true) (s_27_36 : S 27 36 = true) (s_27_40 : S 27 40 = true) (s_27_41 : S 27 41 = true) (s_27_42 : S 27 42 = true) (l_27 : S 27 1000000 = true) (s_31 : ∀ k, S 31 k = true) (s_39 : ∀ k, S 39 k = true) (s_40 : ∀ k, S 40 k = true) (hm : f_X11_goPlan R  m a1 a2 a3 a4 a5 = some mm) : Fr S m mm := by
  unfold f_X11_goPlan at hm
  refine fr_fi hm (fun hm => ?_) (fun hm => ?_)
  · skip
    refine g_lp (I := fun (s : Sg × Int32) => Fr S s.1 mm) (E := fun (s : Sg) => Fr S s mm) hm ?_ ?_
    · rintro m3 hm
      (try dsimp only at hm)
      (try dsimp only)
      exact fr_retv hm
    · rintro ⟨m1, x2⟩ o hm hx5 hi4
      (try dsimp only [f_X11_goPlan_L46] at hm)
      (try dsimp only)
      refine fr_if hm (fun hm => ?_) (fun hm => ?_)
      · skip
        cases hm
        exact hx5 _ rfl
      · skip
        refine fr_cal hm (fun _ _ h => fr_X11_rightOf h) (fun x7 m6 hm => ?_)
        refine fr_cal hm (fun _ _ h => fr_X11_has h) (fun x9 m8 hm => ?_)
        refine g_jn (J := fun (s : Sg × Int32) => Fr S s.1 mm) hm ?_ ?_
        · rintro ⟨m10, x11⟩ hm
          (try dsimp only at hm)
          (try dsimp only)
          refine g_lp (I := fun (s : Sg × Int32 × Int32) => Fr S s.1 mm) (E := fun (s : Sg × Int32) => Fr S s.1 mm) hm ?_ ?_
          · rintro ⟨m16, x17⟩ hm
            (try dsimp only at hm)
            (try dsimp only)
            refine g_jn (J := fun (s : Sg) => Fr S s mm) hm ?_ ?_
            · intro m26 hm
              refine fr_b hm (fun x28 hm => ?_)
              cases hm
              exact hi4 _ rfl
            · intro k27 hk27 hm
              refine fr_fi hm (fun hm => ?_) (fun hm => ?_)
              · skip
                refine fr_st hm (by first | exact s_31 _ | exact s_39 _ | exact s_40 _ | assumption) (fun m29 hm => ?_)
                refine fr_calv hm (fun _ h => hR _ _ _ _ _ _ _ h) (fun m30 hm => ?_)
                exact hk27 _ hm
              · skip
                exact hk27 _ hm
          · rintro ⟨m13, x14, x15⟩ o hm hx19 hi18
            (try dsimp only [f_X11_goPlan_L98] at hm)
            (try dsimp only)
            refine fr_if hm (fun hm => ?_) (fun hm => ?_)
            · skip
              cases hm
              exact hx19 _ rfl
            · skip
              refine g_jn (J := fun (s : Sg × Int32) => Fr S s.1 mm) hm ?_ ?_
              · rintro ⟨m20, x21⟩ hm
                (try dsimp only at hm)
                (try dsimp only)
                refine fr_b hm (fun x23 hm => ?_)
                cases hm
                exact hi18 _ rfl
              · intro k22 hk22 hm
                refine g_jn (J := fun (s : Sg) => Fr S s mm) hm ?_ ?_
                · intro m24 hm
                  exact hk22 _ hm
                · intro k25 hk25 hm
                  refine fr_if hm (fun hm => ?_) (fun hm => ?_)
                  · skip
                    exact hk25 _ hm
                  · skip
                    refine fr_n hm (fun hm => ?_)
                    refine fr_if hm (fun hm => ?_) (fun hm => ?_)
                    · skip
                      exact hk25 _ hm
                    · skip
                      exact hk22 _ hm
        · intro k12 hk12 hm
          refine g_jn (J := fun (s : Sg) => Fr S s mm) hm ?_ ?_
          · intro m31 hm
            exact hk12 _ hm
          · intro k32 hk32 hm
            refine fr_fi hm (fun hm => ?_) (fun hm => ?_)
            · exact hk32 _ hm
            · skip
              refine fr_n hm (fun hm => ?_)
              refine fr_cal hm (fun _ _ h => fr_X11_has h) (fun x34 m33 hm => ?_)
              refine fr_fi hm (fun hm => ?_) (fun hm => ?_)
              · exact hk32 _ hm
              · skip
                exact hk12 _ hm
  · skip
    refine fr_cal hm (fun _ _ h => fr_X11_reignBy (by first | exact s_31 _ | exact s_39 _ | exact s_40 _ | assumption) (by first | exact s_31 _ | exact s_39 _ | exact s_40 _ | assumption) (by first | exact s_31 _ | exact s_39 _ | exact s_40 _ | assumption) (by first | exact s_31 _ | exact s_39 _ | exact s_40 _ | assumption) (by first | exact s_31 _ | exact s_39 _ | exact s_40 _ | assumption) (by first | exact s_31 _ | exact s_39 _ | exact s_40 _ | assumption) (by first | exact s_31 _ | exact s_39 _ | exact s_40 _ | assumption) (by first | exact s_31 _ | exact s_39 _ | exact s_40 _ | assumption) (by first | exact s_31 _ | exact s_39 _ | exact s_40 _ | assumption) (by first | exact s_31 _ | exact s_39 _ | exact s_40 _ | assumption) (by first | exact s_31 _ | exact s_39 _ | exact s_40 _ | assumption) (by first | exact s_31 _ | exact s_39 _ | exact s_40 _ | assumption) (by first | exact s_31 _ | exact s_39 _ | exact s_40 _ | assumption) (by first | exact s_31 _ | exact s_39 _ | exact s_40 _ | assumption) (by first | exact s_31 _ | exact s_39 _ | exact s_40 _ | assumption) h) (fun x36 m35 hm => ?_)
    refine fr_if hm (fun hm => ?_) (fun hm => ?_)
    · skip
      refine fr_wr hm (by first | exact s_31 _ | exact s_39 _ | exact s_40 _ | assumption) (fun m37 hm => ?_)
      refine fr_wr hm (by first | exact s_31 _ | exact s_39 _ | exact s_40 _ | assumption) (fun m38 hm => ?_)
      refine fr_wr hm (by first | exact s_31 _ | exact s_39 _ | exact s_40 _ | assumption) (fun m39 hm => ?_)
      exact fr_retv hm
    · exact fr_retv hm
theorem frecP {S : Nat → Nat → Bool} (s_27_5 : S 27 5 = true) (s_27_8 : S 27 8 = true) (s_27_9 : S 27 9 = true) (s_27_10 : S 27 10 = true) (s_27_11 : S 27 11 = true) (s_27_12 : S 27 12 = true) (s_27_13 : S 27 13 = true) (s_27_14 : S 27 14 = true) (s_27_17 : S 27 17 = true) (s_27_34 : S 27 34 = true) (s_27_35 : S 27 35 = true) (s_27_36 : S 27 36 = true) (s_27_40 : S 27 40 = true) (s_27_41 : S 27 41 = true) (s_27_42 : S 27 42 = true) (l_27 : S 27 1000000 = true) (s_31 : ∀ k, S 31 k = true) (s_39 : ∀ k, S 39 k = true) (s_40 : ∀ k, S 40 k = true) : ∀ (n : Nat) (m : Sg) (a b c e f : Int32) (m1 : Sg), recP n m a b c e f = some m1 → Fr S m m1
  | 0, m, a, b, c, e, f, m1, h => by cases h
  | n + 1, m, a, b, c, e, f, m1, h => fr_X11_goPlan (frecP s_27_5 s_27_8 s_27_9 s_27_10 s_27_11 s_27_12 s_27_13 s_27_14 s_27_17 s_27_34 s_27_35 s_27_36 s_27_40 s_27_41 s_27_42 l_27 s_31 s_39 s_40 n) (by assumption) (by assumption) (by assumption) (by assumption) (by assumption) (by assumption) (by assumption) (by assumption) (by assumption) (by assumption) (by assumption) (by assumption) (by assumption) (by assumption) (by assumption) (by assumption) (by assumption) (by assumption) (by assumption) h
set_option maxRecDepth 4000 in
theorem fr_X11_plan {S : Nat → Nat → Bool} {m mm : Sg} {r : Int32} {a1 : Int32} {a2 : Int32} {a3 : Int32} (s_27_0 : S 27 0 = true) (s_27_5 : S 27 5 = true) (s_27_8 : S 27 8 = true) (s_27_9 : S 27 9 = true) (s_27_10 : S 27 10 = true) (s_27_11 : S 27 11 = true) (s_27_12 : S 27 12 = true) (s_27_13 : S 27 13 = true) (s_27_14 : S 27 14 = true) (s_27_17 : S 27 17 = true) (s_27_34 : S 27 34 = true) (s_27_35 : S 27 35 = true) (s_27_36 : S 27 36 = true) (s_27_40 : S 27 40 = true) (s_27_41 : S 27 41 = true) (s_27_42 : S 27 42 = true) (l_27 : S 27 1000000 = true) (s_31 : ∀ k, S 31 k = true) (s_39 : ∀ k, S 39 k = true) (s_40 : ∀ k, S 40 k = true) (hm : f_X11_plan  m a1 a2 a3 = some (r, mm)) : Fr S m mm := by
  unfold f_X11_plan at hm
  refine fr_wr hm (by first | exact s_31 _ | exact s_39 _ | exact s_40 _ | assumption) (fun m1 hm => ?_)
  refine fr_cal hm (fun _ _ h => fr_X11_isChild h) (fun x3 m2 hm => ?_)
  refine g_jn (J := fun (s : Sg) => Fr S s mm) hm ?_ ?_
  · intro m4 hm
    exact fr_ret hm
  · intro k5 hk5 hm
    refine fr_if hm (fun hm => ?_) (fun hm => ?_)
    · skip
      exact hk5 _ hm
    · skip
      refine fr_n hm (fun hm => ?_)
      refine fr_fi hm (fun hm => ?_) (fun hm => ?_)
      · skip
        exact hk5 _ hm
      · skip
        refine fr_cal hm (fun _ _ h => fr_X11_isIn h) (fun x7 m6 hm => ?_)
        refine fr_if hm (fun hm => ?_) (fun hm => ?_)
        · skip
          exact hk5 _ hm
        · skip
          refine fr_cal hm (fun _ _ h => fr_X11_isIn h) (fun x9 m8 hm => ?_)
          refine fr_fi hm (fun hm => ?_) (fun hm => ?_)
          · skip
            refine fr_wr hm (by first | exact s_31 _ | exact s_39 _ | exact s_40 _ | assumption) (fun m10 hm => ?_)
            refine g_lp (I := fun (s : Sg × Int32) => Fr S s.1 mm) (E := fun (s : Sg) => Fr S s mm) hm ?_ ?_
            · rintro m13 hm
              (try dsimp only at hm)
              (try dsimp only)
              refine fr_fi hm (fun hm => ?_) (fun hm => ?_)
              · skip
                refine fr_fi hm (fun hm => ?_) (fun hm => ?_)
                · skip
                  exact fr_ret hm
                · skip
                  exact fr_ret hm
              · skip
                refine fr_fi hm (fun hm => ?_) (fun hm => ?_)
                · skip
                  exact fr_ret hm
                · skip
                  exact fr_ret hm
            · rintro ⟨m11, x12⟩ o hm hx15 hi14
              (try dsimp only [f_X11_plan_L64] at hm)
              (try dsimp only)
              refine fr_if hm (fun hm => ?_) (fun hm => ?_)
              · skip
                cases hm
                exact hx15 _ rfl
              · skip
                refine fr_calv hm (fun _ h => frecP (by assumption) (by assumption) (by assumption) (by assumption) (by assumption) (by assumption) (by assumption) (by assumption) (by assumption) (by assumption) (by assumption) (by assumption) (by assumption) (by assumption) (by assumption) (by assumption) (by assumption) (by assumption) (by assumption) 5 _ _ _ _ _ _ _ h) (fun m16 hm => ?_)
                refine fr_b hm (fun x17 hm => ?_)
                cases hm
                exact hi14 _ rfl
          · skip
            exact hk5 _ hm
