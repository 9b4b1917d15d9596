/-! what a mirror leaves alone, further -/
set_option maxRecDepth 4000 in
theorem fr_X6_length {S : Nat → Nat → Bool} {m mm : Sg} {r : Int32} (hm : f_X6_length  m  = some (r, mm)) : Fr S m mm := by
  unfold f_X6_length at hm
  exact fr_ret hm
set_option maxRecDepth 4000 in
theorem fr_X6_codeAt {S : Nat → Nat → Bool} {m mm : Sg} {r : Int32} {a1 : Int32} (hm : f_X6_codeAt  m a1 = some (r, mm)) : Fr S m mm := by
  unfold f_X6_codeAt at hm
  refine fr_if hm (fun hm => ?_) (fun hm => ?_)
  · skip
    exact fr_ret hm
  · skip
    refine fr_if hm (fun hm => ?_) (fun hm => ?_)
    · skip
      exact fr_ret hm
    · skip
      refine fr_n hm (fun hm => ?_)
      exact fr_ret hm
set_option maxRecDepth 4000 in
theorem fr_X6_write {S : Nat → Nat → Bool} {m mm : Sg} {a1 : Int32} (s_10_2 : S 10 2 = true) (s_12 : ∀ k, S 12 k = true) (hm : f_X6_write  m a1 = some mm) : Fr S m mm := by
  unfold f_X6_write at hm
  refine fr_if hm (fun hm => ?_) (fun hm => ?_)
  · exact fr_retv hm
  · skip
    refine fr_st hm (by first | exact s_12 _ | assumption) (fun m1 hm => ?_)
    refine fr_wr hm (by first | exact s_12 _ | assumption) (fun m2 hm => ?_)
    exact fr_retv hm
set_option maxRecDepth 4000 in
theorem fr_X6_writeSign {S : Nat → Nat → Bool} {m mm : Sg} {a1 : Int32} (s_10_2 : S 10 2 = true) (s_12 : ∀ k, S 12 k = true) (hm : f_X6_writeSign  m a1 = some mm) : Fr S m mm := by
  unfold f_X6_writeSign at hm
  refine fr_calv hm (fun _ h => fr_X6_write (by first | exact s_12 _ | assumption) (by first | exact s_12 _ | assumption) h) (fun m1 hm => ?_)
  exact fr_retv hm
set_option maxRecDepth 4000 in
theorem fr_X6_goesDeeper {S : Nat → Nat → Bool} {m mm : Sg} {r : Int32} {a1 : Int32} (s_11_1 : S 11 1 = true) (s_11_2 : S 11 2 = true) (hm : f_X6_goesDeeper  m a1 = some (r, mm)) : Fr S m mm := by
  unfold f_X6_goesDeeper at hm
  refine fr_if hm (fun hm => ?_) (fun hm => ?_)
  · skip
    refine fr_calv hm (fun _ h => fr_X2_step (by first | assumption) h) (fun m1 hm => ?_)
    exact fr_ret hm
  · skip
    refine fr_calv hm (fun _ h => fr_X2_fail (by first | assumption) h) (fun m2 hm => ?_)
    exact fr_ret hm
set_option maxRecDepth 4000 in
theorem fr_X6_isEither {S : Nat → Nat → Bool} {m mm : Sg} {r : Int32} {a1 : Int32} {a2 : Int32} (s_11_1 : S 11 1 = true) (hm : f_X6_isEither  m a1 a2 = some (r, mm)) : Fr S m mm := by
  unfold f_X6_isEither at hm
  refine fr_cal hm (fun _ _ h => fr_X2_peek (by first | assumption) h) (fun x2 m1 hm => ?_)
  refine g_jn (J := fun (s : Sg) => Fr S s mm) hm ?_ ?_
  · intro m3 hm
    exact fr_ret hm
  · intro k4 hk4 hm
    refine fr_if hm (fun hm => ?_) (fun hm => ?_)
    · skip
      exact hk4 _ hm
    · skip
      refine fr_fi hm (fun hm => ?_) (fun hm => ?_)
      · skip
        exact fr_ret hm
      · skip
        exact hk4 _ hm
set_option maxRecDepth 4000 in
theorem fr_X6_readCondition {S : Nat → Nat → Bool} {m mm : Sg} {r : Int32} {a1 : Int32} {a2 : Int32} {R : Nat → Sg → Int32 → Int32 → Option (Int32 × Sg)} (hR : ∀ t m a b r m1, R t m a b = some (r, m1) → Fr S m m1) (s_10_2 : S 10 2 = true) (s_11_1 : S 11 1 = true) (s_12 : ∀ k, S 12 k = true) (hm : f_X6_readCondition R  m a1 a2 = some (r, mm)) : Fr S m mm := by
  unfold f_X6_readCondition at hm
  refine fr_cal hm (fun _ _ h => hR _ _ _ _ _ _ h) (fun x2 m1 hm => ?_)
  refine fr_fi hm (fun hm => ?_) (fun hm => ?_)
  · skip
    refine g_lp (I := fun (s : Sg × Int32) => Fr S s.1 mm) (E := fun (s : Sg) => Fr S s mm) hm ?_ ?_
    · rintro m5 hm
      (try dsimp only at hm)
      (try dsimp only)
      exact fr_ret hm
    · rintro ⟨m3, x4⟩ o hm hx7 hi6
      (try dsimp only [f_X6_readCondition_L13] at hm)
      (try dsimp only)
      refine fr_if hm (fun hm => ?_) (fun hm => ?_)
      · skip
        cases hm
        exact hx7 _ rfl
      · skip
        refine fr_cal hm (fun _ _ h => fr_X2_takes (by first | exact s_12 _ | assumption) h) (fun x9 m8 hm => ?_)
        refine fr_if hm (fun hm => ?_) (fun hm => ?_)
        · skip
          cases hm
          exact hx7 _ rfl
        · skip
          refine fr_cal hm (fun _ _ h => hR _ _ _ _ _ _ h) (fun x11 m10 hm => ?_)
          refine fr_calv hm (fun _ h => fr_X6_writeSign (by first | exact s_12 _ | assumption) (by first | exact s_12 _ | assumption) h) (fun m12 hm => ?_)
          refine fr_b hm (fun x13 hm => ?_)
          cases hm
          exact hi6 _ rfl
  · skip
    exact fr_ret hm
set_option maxRecDepth 4000 in
theorem fr_X6_readTruth {S : Nat → Nat → Bool} {m mm : Sg} {r : Int32} {a1 : Int32} {a2 : Int32} {R : Nat → Sg → Int32 → Int32 → Option (Int32 × Sg)} (hR : ∀ t m a b r m1, R t m a b = some (r, m1) → Fr S m m1) (s_10_2 : S 10 2 = true) (s_11_1 : S 11 1 = true) (s_12 : ∀ k, S 12 k = true) (hm : f_X6_readTruth R  m a1 a2 = some (r, mm)) : Fr S m mm := by
  unfold f_X6_readTruth at hm
  refine fr_cal hm (fun _ _ h => hR _ _ _ _ _ _ h) (fun x2 m1 hm => ?_)
  refine fr_fi hm (fun hm => ?_) (fun hm => ?_)
  · skip
    refine g_lp (I := fun (s : Sg × Int32) => Fr S s.1 mm) (E := fun (s : Sg) => Fr S s mm) hm ?_ ?_
    · rintro m5 hm
      (try dsimp only at hm)
      (try dsimp only)
      exact fr_ret hm
    · rintro ⟨m3, x4⟩ o hm hx7 hi6
      (try dsimp only [f_X6_readTruth_L13] at hm)
      (try dsimp only)
      refine fr_if hm (fun hm => ?_) (fun hm => ?_)
      · skip
        cases hm
        exact hx7 _ rfl
      · skip
        refine fr_cal hm (fun _ _ h => fr_X2_takes (by first | exact s_12 _ | assumption) h) (fun x9 m8 hm => ?_)
        refine fr_if hm (fun hm => ?_) (fun hm => ?_)
        · skip
          cases hm
          exact hx7 _ rfl
        · skip
          refine fr_cal hm (fun _ _ h => hR _ _ _ _ _ _ h) (fun x11 m10 hm => ?_)
          refine fr_calv hm (fun _ h => fr_X6_writeSign (by first | exact s_12 _ | assumption) (by first | exact s_12 _ | assumption) h) (fun m12 hm => ?_)
          refine fr_b hm (fun x13 hm => ?_)
          cases hm
          exact hi6 _ rfl
  · skip
    exact fr_ret hm
set_option maxRecDepth 4000 in
theorem fr_X6_readUnit {S : Nat → Nat → Bool} {m mm : Sg} {r : Int32} {a1 : Int32} {a2 : Int32} {R : Nat → Sg → Int32 → Int32 → Option (Int32 × Sg)} (hR : ∀ t m a b r m1, R t m a b = some (r, m1) → Fr S m m1) (s_10_2 : S 10 2 = true) (s_11_1 : S 11 1 = true) (s_11_2 : S 11 2 = true) (s_12 : ∀ k, S 12 k = true) (hm : f_X6_readUnit R  m a1 a2 = some (r, mm)) : Fr S m mm := by
  unfold f_X6_readUnit at hm
  refine fr_cal hm (fun _ _ h => fr_X2_peek (by first | exact s_12 _ | assumption) h) (fun x2 m1 hm => ?_)
  refine g_jn (J := fun (s : Sg) => Fr S s mm) hm ?_ ?_
  · intro m3 hm
    refine fr_cal hm (fun _ _ h => fr_X6_goesDeeper (by first | exact s_12 _ | assumption) (by first | exact s_12 _ | assumption) h) (fun x6 m5 hm => ?_)
    refine fr_if hm (fun hm => ?_) (fun hm => ?_)
    · skip
      exact fr_ret hm
    · skip
      refine fr_calv hm (fun _ h => rv_fr (fun _ _ h => hR _ _ _ _ _ _ h) h) (fun m7 hm => ?_)
      exact fr_ret hm
  · intro k4 hk4 hm
    refine fr_if hm (fun hm => ?_) (fun hm => ?_)
    · skip
      exact hk4 _ hm
    · skip
      refine fr_fi hm (fun hm => ?_) (fun hm => ?_)
      · skip
        refine fr_calv hm (fun _ h => rv_fr (fun _ _ h => hR _ _ _ _ _ _ h) h) (fun m8 hm => ?_)
        refine fr_cal hm (fun _ _ h => fr_X2_peek (by first | exact s_12 _ | assumption) h) (fun x10 m9 hm => ?_)
        refine g_jn (J := fun (s : Sg) => Fr S s mm) hm ?_ ?_
        · intro m11 hm
          refine fr_calv hm (fun _ h => fr_X2_step (by first | exact s_12 _ | assumption) h) (fun m13 hm => ?_)
          refine fr_calv hm (fun _ h => rv_fr (fun _ _ h => hR _ _ _ _ _ _ h) h) (fun m14 hm => ?_)
          refine fr_calv hm (fun _ h => fr_X6_writeSign (by first | exact s_12 _ | assumption) (by first | exact s_12 _ | assumption) h) (fun m15 hm => ?_)
          exact fr_ret hm
        · intro k12 hk12 hm
          refine fr_if hm (fun hm => ?_) (fun hm => ?_)
          · skip
            exact hk12 _ hm
          · skip
            refine fr_if hm (fun hm => ?_) (fun hm => ?_)
            · skip
              exact hk12 _ hm
            · skip
              refine fr_fi hm (fun hm => ?_) (fun hm => ?_)
              · skip
                refine fr_fi hm (fun hm => ?_) (fun hm => ?_)
                · skip
                  exact fr_ret hm
                · skip
                  refine fr_calv hm (fun _ h => fr_X2_fail (by first | exact s_12 _ | assumption) h) (fun m16 hm => ?_)
                  exact fr_ret hm
              · skip
                exact hk12 _ hm
      · skip
        exact hk4 _ hm
set_option maxRecDepth 4000 in
theorem fr_X6_readInnerUnit {S : Nat → Nat → Bool} {m mm : Sg} {a1 : Int32} {a2 : Int32} {R : Nat → Sg → Int32 → Int32 → Option (Int32 × Sg)} (hR : ∀ t m a b r m1, R t m a b = some (r, m1) → Fr S m m1) (s_10_2 : S 10 2 = true) (s_11_1 : S 11 1 = true) (s_11_2 : S 11 2 = true) (s_12 : ∀ k, S 12 k = true) (hm : f_X6_readInnerUnit R  m a1 a2 = some mm) : Fr S m mm := by
  unfold f_X6_readInnerUnit at hm
  refine fr_fi hm (fun hm => ?_) (fun hm => ?_)
  · skip
    refine fr_cal hm (fun _ _ h => hR _ _ _ _ _ _ h) (fun x2 m1 hm => ?_)
    refine fr_calv hm (fun _ h => fr_X2_needs (by first | exact s_12 _ | assumption) (by first | exact s_12 _ | assumption) h) (fun m3 hm => ?_)
    exact fr_retv hm
  · skip
    refine fr_cal hm (fun _ _ h => hR _ _ _ _ _ _ h) (fun x5 m4 hm => ?_)
    refine fr_calv hm (fun _ h => fr_X6_writeSign (by first | exact s_12 _ | assumption) (by first | exact s_12 _ | assumption) h) (fun m6 hm => ?_)
    exact fr_retv hm
set_option maxRecDepth 4000 in
theorem fr_X6_readSum {S : Nat → Nat → Bool} {m mm : Sg} {a1 : Int32} {R : Nat → Sg → Int32 → Int32 → Option (Int32 × Sg)} (hR : ∀ t m a b r m1, R t m a b = some (r, m1) → Fr S m m1) (s_10_2 : S 10 2 = true) (s_11_1 : S 11 1 = true) (s_12 : ∀ k, S 12 k = true) (hm : f_X6_readSum R  m a1 = some mm) : Fr S m mm := by
  unfold f_X6_readSum at hm
  refine fr_calv hm (fun _ h => rv_fr (fun _ _ h => hR _ _ _ _ _ _ h) h) (fun m1 hm => ?_)
  refine g_lp (I := fun (s : Sg × Int32) => Fr S s.1 mm) (E := fun (s : Sg) => Fr S s mm) hm ?_ ?_
  · rintro m4 hm
    (try dsimp only at hm)
    (try dsimp only)
    exact fr_retv hm
  · rintro ⟨m2, x3⟩ o hm hx6 hi5
    (try dsimp only [f_X6_readSum_L7] at hm)
    (try dsimp only)
    refine fr_if hm (fun hm => ?_) (fun hm => ?_)
    · skip
      cases hm
      exact hx6 _ rfl
    · skip
      refine fr_cal hm (fun _ _ h => fr_X6_isEither (by first | exact s_12 _ | assumption) h) (fun x8 m7 hm => ?_)
      refine fr_if hm (fun hm => ?_) (fun hm => ?_)
      · skip
        cases hm
        exact hx6 _ rfl
      · skip
        refine fr_cal hm (fun _ _ h => fr_X2_peek (by first | exact s_12 _ | assumption) h) (fun x10 m9 hm => ?_)
        refine fr_calv hm (fun _ h => fr_X2_step (by first | exact s_12 _ | assumption) h) (fun m11 hm => ?_)
        refine fr_calv hm (fun _ h => rv_fr (fun _ _ h => hR _ _ _ _ _ _ h) h) (fun m12 hm => ?_)
        refine fr_calv hm (fun _ h => fr_X6_writeSign (by first | exact s_12 _ | assumption) (by first | exact s_12 _ | assumption) h) (fun m13 hm => ?_)
        refine fr_b hm (fun x14 hm => ?_)
        cases hm
        exact hi5 _ rfl
set_option maxRecDepth 4000 in
theorem fr_X6_readTerm {S : Nat → Nat → Bool} {m mm : Sg} {a1 : Int32} {R : Nat → Sg → Int32 → Int32 → Option (Int32 × Sg)} (hR : ∀ t m a b r m1, R t m a b = some (r, m1) → Fr S m m1) (s_10_2 : S 10 2 = true) (s_11_1 : S 11 1 = true) (s_12 : ∀ k, S 12 k = true) (hm : f_X6_readTerm R  m a1 = some mm) : Fr S m mm := by
  unfold f_X6_readTerm at hm
  refine fr_calv hm (fun _ h => rv_fr (fun _ _ h => hR _ _ _ _ _ _ h) h) (fun m1 hm => ?_)
  refine g_lp (I := fun (s : Sg × Int32) => Fr S s.1 mm) (E := fun (s : Sg) => Fr S s mm) hm ?_ ?_
  · rintro m4 hm
    (try dsimp only at hm)
    (try dsimp only)
    exact fr_retv hm
  · rintro ⟨m2, x3⟩ o hm hx6 hi5
    (try dsimp only [f_X6_readTerm_L7] at hm)
    (try dsimp only)
    refine fr_if hm (fun hm => ?_) (fun hm => ?_)
    · skip
      cases hm
      exact hx6 _ rfl
    · skip
      refine fr_cal hm (fun _ _ h => fr_X6_isEither (by first | exact s_12 _ | assumption) h) (fun x8 m7 hm => ?_)
      refine fr_if hm (fun hm => ?_) (fun hm => ?_)
      · skip
        cases hm
        exact hx6 _ rfl
      · skip
        refine fr_cal hm (fun _ _ h => fr_X2_peek (by first | exact s_12 _ | assumption) h) (fun x10 m9 hm => ?_)
        refine fr_calv hm (fun _ h => fr_X2_step (by first | exact s_12 _ | assumption) h) (fun m11 hm => ?_)
        refine fr_calv hm (fun _ h => rv_fr (fun _ _ h => hR _ _ _ _ _ _ h) h) (fun m12 hm => ?_)
        refine fr_calv hm (fun _ h => fr_X6_writeSign (by first | exact s_12 _ | assumption) (by first | exact s_12 _ | assumption) h) (fun m13 hm => ?_)
        refine fr_b hm (fun x14 hm => ?_)
        cases hm
        exact hi5 _ rfl
set_option maxRecDepth 4000 in
theorem fr_X6_readAtom {S : Nat → Nat → Bool} {m mm : Sg} {a1 : Int32} {R : Nat → Sg → Int32 → Int32 → Option (Int32 × Sg)} (hR : ∀ t m a b r m1, R t m a b = some (r, m1) → Fr S m m1) (s_10_2 : S 10 2 = true) (s_11_1 : S 11 1 = true) (s_11_2 : S 11 2 = true) (s_12 : ∀ k, S 12 k = true) (hm : f_X6_readAtom R  m a1 = some mm) : Fr S m mm := by
  unfold f_X6_readAtom at hm
  refine fr_cal hm (fun _ _ h => fr_X2_peek (by first | exact s_12 _ | assumption) h) (fun x2 m1 hm => ?_)
  refine fr_fi hm (fun hm => ?_) (fun hm => ?_)
  · skip
    refine g_jn (J := fun (s : Sg) => Fr S s mm) hm ?_ ?_
    · intro m3 hm
      refine fr_cal hm (fun _ _ h => fr_X2_number (by first | exact s_12 _ | assumption) (by first | exact s_12 _ | assumption) h) (fun x6 m5 hm => ?_)
      refine fr_calv hm (fun _ h => fr_X6_write (by first | exact s_12 _ | assumption) (by first | exact s_12 _ | assumption) h) (fun m7 hm => ?_)
      exact fr_retv hm
    · intro k4 hk4 hm
      refine fr_if hm (fun hm => ?_) (fun hm => ?_)
      · skip
        exact hk4 _ hm
      · skip
        refine fr_cal hm (fun _ _ h => fr_J0_indexOf_0f7a4 h) (fun x9 m8 hm => ?_)
        refine fr_if hm (fun hm => ?_) (fun hm => ?_)
        · skip
          exact hk4 _ hm
        · skip
          refine fr_calv hm (fun _ h => fr_X2_step (by first | exact s_12 _ | assumption) h) (fun m10 hm => ?_)
          refine fr_calv hm (fun _ h => fr_X6_writeSign (by first | exact s_12 _ | assumption) (by first | exact s_12 _ | assumption) h) (fun m11 hm => ?_)
          exact fr_retv hm
  · skip
    refine fr_cal hm (fun _ _ h => fr_X6_goesDeeper (by first | exact s_12 _ | assumption) (by first | exact s_12 _ | assumption) h) (fun x13 m12 hm => ?_)
    refine fr_if hm (fun hm => ?_) (fun hm => ?_)
    · exact fr_retv hm
    · skip
      refine fr_calv hm (fun _ h => rv_fr (fun _ _ h => hR _ _ _ _ _ _ h) h) (fun m14 hm => ?_)
      refine fr_calv hm (fun _ h => fr_X2_needs (by first | exact s_12 _ | assumption) (by first | exact s_12 _ | assumption) h) (fun m15 hm => ?_)
      exact fr_retv hm
theorem frec6 {S : Nat → Nat → Bool} (s_10_2 : S 10 2 = true) (s_11_1 : S 11 1 = true) (s_11_2 : S 11 2 = true) (s_12 : ∀ k, S 12 k = true) : ∀ (n t : Nat) (m : Sg) (a b r : Int32) (m1 : Sg), rec6 n t m a b = some (r, m1) → Fr S m m1
  | 0, t, m, a, b, r, m1, h => by cases h
  | n + 1, 0, m, a, b, r, m1, h => fr_X6_readCondition (frec6 s_10_2 s_11_1 s_11_2 s_12 n) (by assumption) (by assumption) (by assumption) h
  | n + 1, 1, m, a, b, r, m1, h => fr_X6_readTruth (frec6 s_10_2 s_11_1 s_11_2 s_12 n) (by assumption) (by assumption) (by assumption) h
  | n + 1, 2, m, a, b, r, m1, h => fr_X6_readUnit (frec6 s_10_2 s_11_1 s_11_2 s_12 n) (by assumption) (by assumption) (by assumption) (by assumption) h
  | n + 1, 3, m, a, b, r, m1, h => ri_fr (fun _ h => fr_X6_readInnerUnit (frec6 s_10_2 s_11_1 s_11_2 s_12 n) (by assumption) (by assumption) (by assumption) (by assumption) h) h
  | n + 1, 4, m, a, b, r, m1, h => ri_fr (fun _ h => fr_X6_readSum (frec6 s_10_2 s_11_1 s_11_2 s_12 n) (by assumption) (by assumption) (by assumption) h) h
  | n + 1, 5, m, a, b, r, m1, h => ri_fr (fun _ h => fr_X6_readTerm (frec6 s_10_2 s_11_1 s_11_2 s_12 n) (by assumption) (by assumption) (by assumption) h) h
  | n + 1, 6, m, a, b, r, m1, h => ri_fr (fun _ h => fr_X6_readAtom (frec6 s_10_2 s_11_1 s_11_2 s_12 n) (by assumption) (by assumption) (by assumption) (by assumption) h) h
  | n + 1, t + 7, m, a, b, r, m1, h => by cases h
set_option maxRecDepth 4000 in
theorem fr_X6_readClause {S : Nat → Nat → Bool} {m mm : Sg} (s_10_2 : S 10 2 = true) (s_11_1 : S 11 1 = true) (s_11_2 : S 11 2 = true) (s_12 : ∀ k, S 12 k = true) (hm : f_X6_readClause  m  = some mm) : Fr S m mm := by
  unfold f_X6_readClause at hm
  refine fr_calv hm (fun _ h => fr_X2_needs (by first | exact s_12 _ | assumption) (by first | exact s_12 _ | assumption) h) (fun m1 hm => ?_)
  refine fr_calv hm (fun _ h => fr_X2_needs (by first | exact s_12 _ | assumption) (by first | exact s_12 _ | assumption) h) (fun m2 hm => ?_)
  refine fr_cal hm (fun _ _ h => frec6 (by assumption) (by assumption) (by assumption) (by assumption) 64 _ _ _ _ _ _ h) (fun x4 m3 hm => ?_)
  refine g_jn (J := fun (s : Sg) => Fr S s mm) hm ?_ ?_
  · intro m5 hm
    refine fr_calv hm (fun _ h => fr_X6_writeSign (by first | exact s_12 _ | assumption) (by first | exact s_12 _ | assumption) h) (fun m7 hm => ?_)
    exact fr_retv hm
  · intro k6 hk6 hm
    refine fr_if hm (fun hm => ?_) (fun hm => ?_)
    · exact hk6 _ hm
    · skip
      refine fr_calv hm (fun _ h => fr_X2_needs (by first | exact s_12 _ | assumption) (by first | exact s_12 _ | assumption) h) (fun m8 hm => ?_)
      refine fr_calv hm (fun _ h => fr_X6_writeSign (by first | exact s_12 _ | assumption) (by first | exact s_12 _ | assumption) h) (fun m9 hm => ?_)
      refine fr_calv hm (fun _ h => rv_fr (fun _ _ h => frec6 (by assumption) (by assumption) (by assumption) (by assumption) 64 _ _ _ _ _ _ h) h) (fun m10 hm => ?_)
      exact hk6 _ hm
set_option maxRecDepth 4000 in
theorem fr_X6_read {S : Nat → Nat → Bool} {m mm : Sg} {r : Int32} (s_10_2 : S 10 2 = true) (s_11_1 : S 11 1 = true) (s_11_2 : S 11 2 = true) (s_12 : ∀ k, S 12 k = true) (hm : f_X6_read  m  = some (r, mm)) : Fr S m mm := by
  unfold f_X6_read at hm
  refine fr_calv hm (fun _ h => fr_X2_begin (by first | exact s_12 _ | assumption) (by first | exact s_12 _ | assumption) h) (fun m1 hm => ?_)
  refine fr_wr hm (by first | exact s_12 _ | assumption) (fun m2 hm => ?_)
  refine fr_calv hm (fun _ h => fr_X6_readClause (by first | exact s_12 _ | assumption) (by first | exact s_12 _ | assumption) (by first | exact s_12 _ | assumption) (by first | exact s_12 _ | assumption) h) (fun m3 hm => ?_)
  refine g_lp (I := fun (s : Sg × Int32) => Fr S s.1 mm) (E := fun (s : Sg) => Fr S s mm) hm ?_ ?_
  · rintro m6 hm
    (try dsimp only at hm)
    (try dsimp only)
    refine fr_calv hm (fun _ h => fr_X2_needsEnd (by first | exact s_12 _ | assumption) (by first | exact s_12 _ | assumption) h) (fun m13 hm => ?_)
    refine fr_cal hm (fun _ _ h => fr_X2_wrongAt h) (fun x15 m14 hm => ?_)
    exact fr_ret hm
  · rintro ⟨m4, x5⟩ o hm hx8 hi7
    (try dsimp only [f_X6_read_L18] at hm)
    (try dsimp only)
    refine fr_if hm (fun hm => ?_) (fun hm => ?_)
    · skip
      cases hm
      exact hx8 _ rfl
    · skip
      refine fr_cal hm (fun _ _ h => fr_X2_takes (by first | exact s_12 _ | assumption) h) (fun x10 m9 hm => ?_)
      refine fr_if hm (fun hm => ?_) (fun hm => ?_)
      · skip
        cases hm
        exact hx8 _ rfl
      · skip
        refine fr_calv hm (fun _ h => fr_X6_readClause (by first | exact s_12 _ | assumption) (by first | exact s_12 _ | assumption) (by first | exact s_12 _ | assumption) (by first | exact s_12 _ | assumption) h) (fun m11 hm => ?_)
        refine fr_b hm (fun x12 hm => ?_)
        cases hm
        exact hi7 _ rfl
set_option maxRecDepth 4000 in
theorem fr_X1_useUsual {S : Nat → Nat → Bool} {m mm : Sg} {t : Nat} (s_9 : ∀ k, S 9 k = true) (hm : f_X1_useUsual t m  = some mm) : Fr S m mm := by
  unfold f_X1_useUsual at hm
  refine g_lp (I := fun (s : Sg × Int32) => Fr S s.1 mm) (E := fun (s : Sg) => Fr S s mm) hm ?_ ?_
  · rintro m3 hm
    (try dsimp only at hm)
    (try dsimp only)
    exact fr_retv hm
  · rintro ⟨m1, x2⟩ o hm hx5 hi4
    (try dsimp only [f_X1_useUsual_L2] at hm)
    (try dsimp only)
    refine fr_if hm (fun hm => ?_) (fun hm => ?_)
    · skip
      cases hm
      exact hx5 _ rfl
    · skip
      refine fr_if hm (fun hm => ?_) (fun hm => ?_)
      · skip
        cases hm
        exact hx5 _ rfl
      · skip
        refine fr_n hm (fun hm => ?_)
        refine fr_st hm (by first | exact s_9 _ | assumption) (fun m6 hm => ?_)
        refine fr_b hm (fun x7 hm => ?_)
        cases hm
        exact hi4 _ rfl
set_option maxRecDepth 4000 in
theorem fr_X1_readItems {S : Nat → Nat → Bool} {m mm : Sg} {k : Nat} {t1 : Nat} {t2 : Nat} {t3 : Nat} (s_8_1 : S 8 1 = true) (s_8_2 : S 8 2 = true) (s_9 : ∀ k, S 9 k = true) (hm : f_X1_readItems k t1 t2 t3 m  = some mm) : Fr S m mm := by
  unfold f_X1_readItems at hm
  refine fr_calv hm (fun _ h => fr_X2_step (by first | exact s_9 _ | assumption) h) (fun m1 hm => ?_)
  refine fr_calv hm (fun _ h => fr_X1_useUsual (by first | exact s_9 _ | assumption) h) (fun m2 hm => ?_)
  refine g_lp (I := fun (s : Sg × Int32 × Int32) => Fr S s.1 mm) (E := fun (x : (Sg) ⊕ (Sg) ⊕ (Sg)) => match x with | .inl m6 => Fr S m6 mm | .inr (.inl m7) => Fr S m7 mm | .inr (.inr m8) => Fr S m8 mm) hm ?_ ?_
  · rintro (m6 | m7 | m8) hm
    · (try dsimp only at hm)
      (try dsimp only)
      exact fr_retv hm
    · (try dsimp only at hm)
      (try dsimp only)
      refine fr_calv hm (fun _ h => fr_X2_fail (by first | exact s_9 _ | assumption) h) (fun m31 hm => ?_)
      exact fr_retv hm
    · (try dsimp only at hm)
      (try dsimp only)
      exact fr_retv hm
  · rintro ⟨m3, x4, x5⟩ o hm hx10 hi9
    (try dsimp only [f_X1_readItems_L19] at hm)
    (try dsimp only)
    refine fr_cal hm (fun _ _ h => fr_J0_length_8abf5 h) (fun x12 m11 hm => ?_)
    refine fr_if hm (fun hm => ?_) (fun hm => ?_)
    · skip
      cases hm
      exact hx10 _ rfl
    · skip
      refine fr_cal hm (fun _ _ h => fr_X2_peek (by first | exact s_9 _ | assumption) h) (fun x14 m13 hm => ?_)
      refine g_jn (J := fun (s : Sg × Int32) => Fr S s.1 mm) hm ?_ ?_
      · rintro ⟨m15, x16⟩ hm
        (try dsimp only at hm)
        (try dsimp only)
        refine fr_if hm (fun hm => ?_) (fun hm => ?_)
        · skip
          cases hm
          exact hx10 _ rfl
        · skip
          refine fr_if hm (fun hm => ?_) (fun hm => ?_)
          · skip
            cases hm
            exact hx10 _ rfl
          · skip
            refine fr_if hm (fun hm => ?_) (fun hm => ?_)
            · skip
              cases hm
              exact hx10 _ rfl
            · skip
              refine fr_if hm (fun hm => ?_) (fun hm => ?_)
              · skip
                refine fr_if hm (fun hm => ?_) (fun hm => ?_)
                · skip
                  refine fr_b hm (fun x18 hm => ?_)
                  refine fr_calv hm (fun _ h => fr_X2_step (by first | exact s_9 _ | assumption) h) (fun m19 hm => ?_)
                  refine fr_cal hm (fun _ _ h => fr_X2_number (by first | exact s_9 _ | assumption) (by first | exact s_9 _ | assumption) h) (fun x21 m20 hm => ?_)
                  refine fr_st hm (by first | exact s_9 _ | assumption) (fun m22 hm => ?_)
                  refine fr_n hm (fun hm => ?_)
                  refine fr_n hm (fun hm => ?_)
                  refine g_jn (J := fun (s : Sg) => Fr S s mm) hm ?_ ?_
                  · intro m23 hm
                    refine fr_b hm (fun x25 hm => ?_)
                    cases hm
                    exact hi9 _ rfl
                  · intro k24 hk24 hm
                    refine g_jn (J := fun (s : Sg) => Fr S s mm) hm ?_ ?_
                    · intro m26 hm
                      refine fr_calv hm (fun _ h => fr_X2_failAtLastDigit (by first | exact s_9 _ | assumption) h) (fun m28 hm => ?_)
                      exact hk24 _ hm
                    · intro k27 hk27 hm
                      refine fr_if hm (fun hm => ?_) (fun hm => ?_)
                      · skip
                        exact hk27 _ hm
                      · skip
                        refine fr_n hm (fun hm => ?_)
                        refine fr_n hm (fun hm => ?_)
                        refine fr_if hm (fun hm => ?_) (fun hm => ?_)
                        · skip
                          exact hk24 _ hm
                        · skip
                          exact hk27 _ hm
                · skip
                  cases hm
                  exact hx10 _ rfl
              · skip
                cases hm
                exact hx10 _ rfl
      · intro k17 hk17 hm
        refine fr_if hm (fun hm => ?_) (fun hm => ?_)
        · skip
          refine fr_cal hm (fun _ _ h => fr_J0_indexOf_0f7a4 h) (fun x30 m29 hm => ?_)
          exact hk17 _ hm
        · skip
          exact hk17 _ hm
set_option maxRecDepth 4000 in
theorem fr_X1_readClause {S : Nat → Nat → Bool} {m mm : Sg} (s_6 : ∀ k, S 6 k = true) (s_7_2 : S 7 2 = true) (s_8_1 : S 8 1 = true) (s_8_2 : S 8 2 = true) (s_9 : ∀ k, S 9 k = true) (hm : f_X1_readClause  m  = some mm) : Fr S m mm := by
  unfold f_X1_readClause at hm
  refine fr_cal hm (fun _ _ h => fr_X2_peek (by first | exact s_6 _ | exact s_9 _ | assumption) h) (fun x2 m1 hm => ?_)
  refine g_jn (J := fun (s : Sg) => Fr S s mm) hm ?_ ?_
  · intro m3 hm
    refine g_jn (J := fun (s : Sg) => Fr S s mm) hm ?_ ?_
    · intro m5 hm
      refine g_jn (J := fun (s : Sg) => Fr S s mm) hm ?_ ?_
      · intro m7 hm
        refine fr_calv hm (fun _ h => fr_X2_fail (by first | exact s_6 _ | exact s_9 _ | assumption) h) (fun m9 hm => ?_)
        exact fr_retv hm
      · intro k8 hk8 hm
        refine fr_fi hm (fun hm => ?_) (fun hm => ?_)
        · skip
          exact hk8 _ hm
        · skip
          refine fr_fi hm (fun hm => ?_) (fun hm => ?_)
          · skip
            exact hk8 _ hm
          · skip
            refine fr_calv hm (fun _ h => fr_X1_readItems (by first | exact s_6 _ | exact s_9 _ | assumption) (by first | exact s_6 _ | exact s_9 _ | assumption) (by first | exact s_6 _ | exact s_9 _ | assumption) h) (fun m10 hm => ?_)
            refine fr_calv hm (fun _ h => fr_X0_setRule (by first | exact s_6 _ | exact s_9 _ | assumption) h) (fun m11 hm => ?_)
            refine fr_wr hm (by first | exact s_6 _ | exact s_9 _ | assumption) (fun m12 hm => ?_)
            exact fr_retv hm
    · intro k6 hk6 hm
      refine fr_fi hm (fun hm => ?_) (fun hm => ?_)
      · exact hk6 _ hm
      · skip
        refine fr_cal hm (fun _ _ h => fr_X0_elders h) (fun x14 m13 hm => ?_)
        refine fr_if hm (fun hm => ?_) (fun hm => ?_)
        · exact hk6 _ hm
        · skip
          refine fr_calv hm (fun _ h => fr_X1_readItems (by first | exact s_6 _ | exact s_9 _ | assumption) (by first | exact s_6 _ | exact s_9 _ | assumption) (by first | exact s_6 _ | exact s_9 _ | assumption) h) (fun m15 hm => ?_)
          refine fr_calv hm (fun _ h => fr_X0_addElder (by first | exact s_6 _ | exact s_9 _ | assumption) h) (fun m16 hm => ?_)
          exact fr_retv hm
  · intro k4 hk4 hm
    refine fr_fi hm (fun hm => ?_) (fun hm => ?_)
    · exact hk4 _ hm
    · skip
      refine fr_cal hm (fun _ _ h => fr_X0_children h) (fun x18 m17 hm => ?_)
      refine fr_if hm (fun hm => ?_) (fun hm => ?_)
      · exact hk4 _ hm
      · skip
        refine fr_calv hm (fun _ h => fr_X1_readItems (by first | exact s_6 _ | exact s_9 _ | assumption) (by first | exact s_6 _ | exact s_9 _ | assumption) (by first | exact s_6 _ | exact s_9 _ | assumption) h) (fun m19 hm => ?_)
        refine fr_calv hm (fun _ h => fr_X0_addChild (by first | exact s_6 _ | exact s_9 _ | assumption) h) (fun m20 hm => ?_)
        exact fr_retv hm
set_option maxRecDepth 4000 in
theorem fr_X1_read {S : Nat → Nat → Bool} {m mm : Sg} {r : Int32} (s_6 : ∀ k, S 6 k = true) (s_7_2 : S 7 2 = true) (s_8_1 : S 8 1 = true) (s_8_2 : S 8 2 = true) (s_9 : ∀ k, S 9 k = true) (hm : f_X1_read  m  = some (r, mm)) : Fr S m mm := by
  unfold f_X1_read at hm
  refine fr_calv hm (fun _ h => fr_X2_begin (by first | exact s_6 _ | exact s_9 _ | assumption) (by first | exact s_6 _ | exact s_9 _ | assumption) h) (fun m1 hm => ?_)
  refine fr_calv hm (fun _ h => fr_X0_clear (by first | exact s_6 _ | exact s_9 _ | assumption) h) (fun m2 hm => ?_)
  refine fr_wr hm (by first | exact s_6 _ | exact s_9 _ | assumption) (fun m3 hm => ?_)
  refine fr_calv hm (fun _ h => fr_X1_useUsual (by first | exact s_6 _ | exact s_9 _ | assumption) h) (fun m4 hm => ?_)
  refine fr_calv hm (fun _ h => fr_X0_setRule (by first | exact s_6 _ | exact s_9 _ | assumption) h) (fun m5 hm => ?_)
  refine fr_calv hm (fun _ h => fr_X1_readClause (by first | exact s_6 _ | exact s_9 _ | assumption) (by first | exact s_6 _ | exact s_9 _ | assumption) (by first | exact s_6 _ | exact s_9 _ | assumption) (by first | exact s_6 _ | exact s_9 _ | assumption) (by first | exact s_6 _ | exact s_9 _ | assumption) h) (fun m6 hm => ?_)
  refine g_lp (I := fun (s : Sg × Int32) => Fr S s.1 mm) (E := fun (s : Sg) => Fr S s mm) hm ?_ ?_
  · rintro m9 hm
    (try dsimp only at hm)
    (try dsimp only)
    refine fr_calv hm (fun _ h => fr_X2_needsEnd (by first | exact s_6 _ | exact s_9 _ | assumption) (by first | exact s_6 _ | exact s_9 _ | assumption) h) (fun m16 hm => ?_)
    refine fr_cal hm (fun _ _ h => fr_X0_children h) (fun x18 m17 hm => ?_)
    refine g_jn (J := fun (s : Sg) => Fr S s mm) hm ?_ ?_
    · intro m19 hm
      refine fr_cal hm (fun _ _ h => fr_X2_wrongAt h) (fun x22 m21 hm => ?_)
      exact fr_ret hm
    · intro k20 hk20 hm
      refine fr_fi hm (fun hm => ?_) (fun hm => ?_)
      · skip
        exact hk20 _ hm
      · skip
        refine fr_calv hm (fun _ h => fr_X2_fail (by first | exact s_6 _ | exact s_9 _ | assumption) h) (fun m23 hm => ?_)
        exact hk20 _ hm
  · rintro ⟨m7, x8⟩ o hm hx11 hi10
    (try dsimp only [f_X1_read_L52] at hm)
    (try dsimp only)
    refine fr_if hm (fun hm => ?_) (fun hm => ?_)
    · skip
      cases hm
      exact hx11 _ rfl
    · skip
      refine fr_cal hm (fun _ _ h => fr_X2_takes (by first | exact s_6 _ | exact s_9 _ | assumption) h) (fun x13 m12 hm => ?_)
      refine fr_if hm (fun hm => ?_) (fun hm => ?_)
      · skip
        cases hm
        exact hx11 _ rfl
      · skip
        refine fr_calv hm (fun _ h => fr_X1_readClause (by first | exact s_6 _ | exact s_9 _ | assumption) (by first | exact s_6 _ | exact s_9 _ | assumption) (by first | exact s_6 _ | exact s_9 _ | assumption) (by first | exact s_6 _ | exact s_9 _ | assumption) (by first | exact s_6 _ | exact s_9 _ | assumption) h) (fun m14 hm => ?_)
        refine fr_b hm (fun x15 hm => ?_)
        cases hm
        exact hi10 _ rfl
set_option maxRecDepth 4000 in
theorem fr_X3_bestRow {S : Nat → Nat → Bool} {m mm : Sg} {r : Int32} (hm : f_X3_bestRow  m  = some (r, mm)) : Fr S m mm := by
  unfold f_X3_bestRow at hm
  exact fr_ret hm
set_option maxRecDepth 4000 in
theorem fr_X3_bestMonths {S : Nat → Nat → Bool} {m mm : Sg} {r : Int32} (hm : f_X3_bestMonths  m  = some (r, mm)) : Fr S m mm := by
  unfold f_X3_bestMonths at hm
  exact fr_ret hm
set_option maxRecDepth 4000 in
theorem fr_X3_bestLength {S : Nat → Nat → Bool} {m mm : Sg} {r : Int32} (hm : f_X3_bestLength  m  = some (r, mm)) : Fr S m mm := by
  unfold f_X3_bestLength at hm
  exact fr_ret hm
set_option maxRecDepth 4000 in
theorem fr_X3_bestLaw {S : Nat → Nat → Bool} {m mm : Sg} {r : Int32} (hm : f_X3_bestLaw  m  = some (r, mm)) : Fr S m mm := by
  unfold f_X3_bestLaw at hm
  exact fr_ret hm
set_option maxRecDepth 4000 in
theorem fr_X3_bestTreasury {S : Nat → Nat → Bool} {m mm : Sg} {r : Int32} (hm : f_X3_bestTreasury  m  = some (r, mm)) : Fr S m mm := by
  unfold f_X3_bestTreasury at hm
  exact fr_ret hm
set_option maxRecDepth 4000 in
theorem fr_X3_rulerOfNextMonth {S : Nat → Nat → Bool} {m mm : Sg} {r : Int32} (s_6 : ∀ k, S 6 k = true) (hm : f_X3_rulerOfNextMonth  m  = some (r, mm)) : Fr S m mm := by
  unfold f_X3_rulerOfNextMonth at hm
  refine fr_calv hm (fun _ h => fr_X0_beginMonth (by first | exact s_6 _ | assumption) h) (fun m1 hm => ?_)
  refine fr_cal hm (fun _ _ h => fr_X0_trier h) (fun x3 m2 hm => ?_)
  refine fr_calv hm (fun _ h => fr_X0_crown (by first | exact s_6 _ | assumption) h) (fun m4 hm => ?_)
  refine fr_cal hm (fun _ _ h => fr_X0_ruler h) (fun x6 m5 hm => ?_)
  exact fr_ret hm
set_option maxRecDepth 4000 in
theorem fr_X3_reignOfChild {S : Nat → Nat → Bool} {m mm : Sg} {r : Int32} {a1 : Int32} {a2 : Int32} (s_6 : ∀ k, S 6 k = true) (hm : f_X3_reignOfChild  m a1 a2 = some (r, mm)) : Fr S m mm := by
  unfold f_X3_reignOfChild at hm
  refine fr_calv hm (fun _ h => fr_X0_become (by first | exact s_6 _ | assumption) h) (fun m1 hm => ?_)
  refine g_lp (I := fun (s : Sg × Int32 × Int32) => Fr S s.1 mm) (E := fun (s : Sg × Int32) => Fr S s.1 mm) hm ?_ ?_
  · rintro ⟨m5, x6⟩ hm
    (try dsimp only at hm)
    (try dsimp only)
    exact fr_ret hm
  · rintro ⟨m2, x3, x4⟩ o hm hx8 hi7
    (try dsimp only [f_X3_reignOfChild_L16] at hm)
    (try dsimp only)
    refine fr_if hm (fun hm => ?_) (fun hm => ?_)
    · skip
      cases hm
      exact hx8 _ rfl
    · skip
      refine fr_cal hm (fun _ _ h => fr_X3_rulerOfNextMonth (by first | exact s_6 _ | assumption) h) (fun x10 m9 hm => ?_)
      refine g_jn (J := fun (s : Sg × Int32) => Fr S s.1 mm) hm ?_ ?_
      · rintro ⟨m11, x12⟩ hm
        (try dsimp only at hm)
        (try dsimp only)
        refine fr_b hm (fun x14 hm => ?_)
        refine fr_b hm (fun x15 hm => ?_)
        cases hm
        exact hi7 _ rfl
      · intro k13 hk13 hm
        refine fr_fi hm (fun hm => ?_) (fun hm => ?_)
        · skip
          exact hk13 _ hm
        · skip
          exact hk13 _ hm
set_option maxRecDepth 4000 in
theorem fr_X3_reignOfNursery {S : Nat → Nat → Bool} {m mm : Sg} {r : Int32} {a1 : Int32} {a2 : Int32} (s_6 : ∀ k, S 6 k = true) (hm : f_X3_reignOfNursery  m a1 a2 = some (r, mm)) : Fr S m mm := by
  unfold f_X3_reignOfNursery at hm
  refine fr_calv hm (fun _ h => fr_X0_become (by first | exact s_6 _ | assumption) h) (fun m1 hm => ?_)
  refine g_lp (I := fun (s : Sg × Int32 × Int32) => Fr S s.1 mm) (E := fun (s : Sg × Int32) => Fr S s.1 mm) hm ?_ ?_
  · rintro ⟨m5, x6⟩ hm
    (try dsimp only at hm)
    (try dsimp only)
    exact fr_ret hm
  · rintro ⟨m2, x3, x4⟩ o hm hx8 hi7
    (try dsimp only [f_X3_reignOfNursery_L16] at hm)
    (try dsimp only)
    refine fr_if hm (fun hm => ?_) (fun hm => ?_)
    · skip
      cases hm
      exact hx8 _ rfl
    · skip
      refine fr_cal hm (fun _ _ h => fr_X3_rulerOfNextMonth (by first | exact s_6 _ | assumption) h) (fun x10 m9 hm => ?_)
      refine fr_cal hm (fun _ _ h => fr_X0_isOfNursery h) (fun x12 m11 hm => ?_)
      refine g_jn (J := fun (s : Sg × Int32) => Fr S s.1 mm) hm ?_ ?_
      · rintro ⟨m13, x14⟩ hm
        (try dsimp only at hm)
        (try dsimp only)
        refine fr_b hm (fun x16 hm => ?_)
        refine fr_b hm (fun x17 hm => ?_)
        cases hm
        exact hi7 _ rfl
      · intro k15 hk15 hm
        refine fr_if hm (fun hm => ?_) (fun hm => ?_)
        · skip
          exact hk15 _ hm
        · skip
          exact hk15 _ hm
set_option maxRecDepth 4000 in
theorem fr_X3_monthsOfTrials {S : Nat → Nat → Bool} {m mm : Sg} {r : Int32} {a1 : Int32} (s_6 : ∀ k, S 6 k = true) (hm : f_X3_monthsOfTrials  m a1 = some (r, mm)) : Fr S m mm := by
  unfold f_X3_monthsOfTrials at hm
  refine fr_calv hm (fun _ h => fr_X0_become (by first | exact s_6 _ | assumption) h) (fun m1 hm => ?_)
  refine g_lp (I := fun (s : Sg × Int32) => Fr S s.1 mm) (E := fun (x : (Sg × Int32) ⊕ (Sg)) => match x with | .inl (m4, x5) => Fr S m4 mm | .inr m6 => Fr S m6 mm) hm ?_ ?_
  · rintro (⟨m4, x5⟩ | m6) hm
    · (try dsimp only at hm)
      (try dsimp only)
      exact fr_ret hm
    · (try dsimp only at hm)
      (try dsimp only)
      exact fr_ret hm
  · rintro ⟨m2, x3⟩ o hm hx8 hi7
    (try dsimp only [f_X3_monthsOfTrials_L13] at hm)
    (try dsimp only)
    refine fr_if hm (fun hm => ?_) (fun hm => ?_)
    · skip
      cases hm
      exact hx8 _ rfl
    · skip
      refine fr_cal hm (fun _ _ h => fr_X0_trier h) (fun x10 m9 hm => ?_)
      refine fr_fi hm (fun hm => ?_) (fun hm => ?_)
      · skip
        refine fr_calv hm (fun _ h => fr_X0_beginMonth (by first | exact s_6 _ | assumption) h) (fun m11 hm => ?_)
        refine fr_b hm (fun x12 hm => ?_)
        cases hm
        exact hi7 _ rfl
      · skip
        cases hm
        exact hx8 _ rfl
set_option maxRecDepth 4000 in
theorem fr_X3_tenOfRow {S : Nat → Nat → Bool} {m mm : Sg} {r : Int32} {a1 : Int32} {a2 : Int32} {a3 : Int32} (hm : f_X3_tenOfRow  m a1 a2 a3 = some (r, mm)) : Fr S m mm := by
  unfold f_X3_tenOfRow at hm
  refine fr_b hm (fun x1 hm => ?_)
  refine g_lp (I := fun (s : Sg × Int32 × Int32) => Fr S s.1 mm) (E := fun (s : Sg × Int32) => Fr S s.1 mm) hm ?_ ?_
  · rintro ⟨m5, x6⟩ hm
    (try dsimp only at hm)
    (try dsimp only)
    exact fr_ret hm
  · rintro ⟨m2, x3, x4⟩ o hm hx8 hi7
    (try dsimp only [f_X3_tenOfRow_L7] at hm)
    (try dsimp only)
    refine fr_if hm (fun hm => ?_) (fun hm => ?_)
    · skip
      cases hm
      exact hx8 _ rfl
    · skip
      refine fr_b hm (fun x9 hm => ?_)
      refine fr_b hm (fun x10 hm => ?_)
      cases hm
      exact hi7 _ rfl
set_option maxRecDepth 4000 in
theorem fr_X3_foreseeOthers {S : Nat → Nat → Bool} {m mm : Sg} {a1 : Int32} {a2 : Int32} (s_6 : ∀ k, S 6 k = true) (s_24 : ∀ k, S 24 k = true) (s_25 : ∀ k, S 25 k = true) (hm : f_X3_foreseeOthers  m a1 a2 = some mm) : Fr S m mm := by
  unfold f_X3_foreseeOthers at hm
  refine fr_calv hm (fun _ h => fr_X0_become (by first | exact s_6 _ | exact s_24 _ | exact s_25 _ | assumption) h) (fun m1 hm => ?_)
  refine g_lp (I := fun (s : Sg × Int32) => Fr S s.1 mm) (E := fun (s : Sg) => Fr S s mm) hm ?_ ?_
  · rintro m4 hm
    (try dsimp only at hm)
    (try dsimp only)
    exact fr_retv hm
  · rintro ⟨m2, x3⟩ o hm hx6 hi5
    (try dsimp only [f_X3_foreseeOthers_L13] at hm)
    (try dsimp only)
    refine fr_if hm (fun hm => ?_) (fun hm => ?_)
    · skip
      cases hm
      exact hx6 _ rfl
    · skip
      refine fr_if hm (fun hm => ?_) (fun hm => ?_)
      · skip
        cases hm
        exact hx6 _ rfl
      · skip
        refine fr_if hm (fun hm => ?_) (fun hm => ?_)
        · skip
          cases hm
          exact hx6 _ rfl
        · skip
          refine fr_calv hm (fun _ h => fr_X0_beginMonth (by first | exact s_6 _ | exact s_24 _ | exact s_25 _ | assumption) h) (fun m7 hm => ?_)
          refine fr_cal hm (fun _ _ h => fr_X0_trier h) (fun x9 m8 hm => ?_)
          refine g_jn (J := fun (s : Sg × Int32) => Fr S s.1 mm) hm ?_ ?_
          · rintro ⟨m10, x11⟩ hm
            (try dsimp only at hm)
            (try dsimp only)
            refine fr_st hm (by first | exact s_6 _ | exact s_24 _ | exact s_25 _ | assumption) (fun m13 hm => ?_)
            refine g_jn (J := fun (s : Sg × Int32) => Fr S s.1 mm) hm ?_ ?_
            · rintro ⟨m14, x15⟩ hm
              (try dsimp only at hm)
              (try dsimp only)
              refine fr_st hm (by first | exact s_6 _ | exact s_24 _ | exact s_25 _ | assumption) (fun m17 hm => ?_)
              refine fr_b hm (fun x18 hm => ?_)
              cases hm
              exact hi5 _ rfl
            · intro k16 hk16 hm
              refine fr_fi hm (fun hm => ?_) (fun hm => ?_)
              · skip
                refine fr_cal hm (fun _ _ h => fr_X0_askedBy h) (fun x20 m19 hm => ?_)
                refine fr_cal hm (fun _ _ h => fr_X0_claimant h) (fun x22 m21 hm => ?_)
                exact hk16 _ hm
              · skip
                exact hk16 _ hm
          · intro k12 hk12 hm
            refine fr_fi hm (fun hm => ?_) (fun hm => ?_)
            · skip
              refine fr_cal hm (fun _ _ h => fr_X0_askedBy h) (fun x24 m23 hm => ?_)
              refine fr_cal hm (fun _ _ h => fr_X0_askedOf h) (fun x26 m25 hm => ?_)
              exact hk12 _ hm
            · skip
              exact hk12 _ hm
set_option maxRecDepth 4000 in
theorem fr_X3_monthsByRow {S : Nat → Nat → Bool} {m mm : Sg} {r : Int32} {a1 : Int32} {a2 : Int32} {a3 : Int32} {a4 : Int32} (hm : f_X3_monthsByRow  m a1 a2 a3 a4 = some (r, mm)) : Fr S m mm := by
  unfold f_X3_monthsByRow at hm
  refine fr_cal hm (fun _ _ h => fr_X0_rightOf h) (fun x2 m1 hm => ?_)
  refine fr_cal hm (fun _ _ h => fr_X0_kid h) (fun x4 m3 hm => ?_)
  refine fr_cal hm (fun _ _ h => fr_X0_cell h) (fun x6 m5 hm => ?_)
  refine fr_cal hm (fun _ _ h => fr_X0_kid h) (fun x8 m7 hm => ?_)
  refine fr_b hm (fun x9 hm => ?_)
  refine fr_cal hm (fun _ _ h => fr_X0_ruler h) (fun x11 m10 hm => ?_)
  refine g_lp (I := fun (s : Sg × Int32 × Int32 × Int32 × Int32 × Int32) => Fr S s.1 mm) (E := fun (s : Sg × Int32) => Fr S s.1 mm) hm ?_ ?_
  · rintro ⟨m18, x19⟩ hm
    (try dsimp only at hm)
    (try dsimp only)
    exact fr_ret hm
  · rintro ⟨m12, x13, x14, x15, x16, x17⟩ o hm hx21 hi20
    (try dsimp only [f_X3_monthsByRow_L60] at hm)
    (try dsimp only)
    refine fr_if hm (fun hm => ?_) (fun hm => ?_)
    · skip
      cases hm
      exact hx21 _ rfl
    · skip
      refine fr_if hm (fun hm => ?_) (fun hm => ?_)
      · skip
        cases hm
        exact hx21 _ rfl
      · skip
        refine fr_if hm (fun hm => ?_) (fun hm => ?_)
        · skip
          cases hm
          exact hx21 _ rfl
        · skip
          refine fr_b hm (fun x22 hm => ?_)
          refine g_jn (J := fun (s : Sg × Int32 × Int32) => Fr S s.1 mm) hm ?_ ?_
          · rintro ⟨m23, x24, x25⟩ hm
            (try dsimp only at hm)
            (try dsimp only)
            refine fr_n hm (fun hm => ?_)
            refine fr_b hm (fun x27 hm => ?_)
            refine fr_n hm (fun hm => ?_)
            refine g_jn (J := fun (s : Sg × Int32) => Fr S s.1 mm) hm ?_ ?_
            · rintro ⟨m28, x29⟩ hm
              (try dsimp only at hm)
              (try dsimp only)
              refine g_jn (J := fun (s : Sg × Int32) => Fr S s.1 mm) hm ?_ ?_
              · rintro ⟨m31, x32⟩ hm
                (try dsimp only at hm)
                (try dsimp only)
                refine fr_cal hm (fun _ _ h => fr_X0_rulerBehind h) (fun x35 m34 hm => ?_)
                refine g_jn (J := fun (s : Sg × Int32) => Fr S s.1 mm) hm ?_ ?_
                · rintro ⟨m36, x37⟩ hm
                  (try dsimp only at hm)
                  (try dsimp only)
                  refine fr_b hm (fun x39 hm => ?_)
                  refine fr_b hm (fun x40 hm => ?_)
                  cases hm
                  exact hi20 _ rfl
                · intro k38 hk38 hm
                  refine fr_fi hm (fun hm => ?_) (fun hm => ?_)
                  · skip
                    exact hk38 _ hm
                  · skip
                    exact hk38 _ hm
              · intro k33 hk33 hm
                refine fr_if hm (fun hm => ?_) (fun hm => ?_)
                · skip
                  exact hk33 _ hm
                · skip
                  refine g_jn (J := fun (s : Sg) => Fr S s mm) hm ?_ ?_
                  · intro m41 hm
                    exact hk33 _ hm
                  · intro k42 hk42 hm
                    refine fr_if hm (fun hm => ?_) (fun hm => ?_)
                    · skip
                      exact hk42 _ hm
                    · skip
                      refine fr_cal hm (fun _ _ h => fr_X0_goesFirst h) (fun x44 m43 hm => ?_)
                      refine fr_if hm (fun hm => ?_) (fun hm => ?_)
                      · skip
                        exact hk33 _ hm
                      · skip
                        exact hk42 _ hm
            · intro k30 hk30 hm
              refine g_jn (J := fun (s : Sg) => Fr S s mm) hm ?_ ?_
              · intro m45 hm
                exact hk30 _ hm
              · intro k46 hk46 hm
                refine fr_if hm (fun hm => ?_) (fun hm => ?_)
                · exact hk46 _ hm
                · skip
                  refine fr_n hm (fun hm => ?_)
                  refine fr_fi hm (fun hm => ?_) (fun hm => ?_)
                  · exact hk46 _ hm
                  · skip
                    refine fr_if hm (fun hm => ?_) (fun hm => ?_)
                    · exact hk46 _ hm
                    · skip
                      exact hk30 _ hm
          · intro k26 hk26 hm
            refine fr_if hm (fun hm => ?_) (fun hm => ?_)
            · exact hk26 _ hm
            · skip
              refine fr_fi hm (fun hm => ?_) (fun hm => ?_)
              · exact hk26 _ hm
              · skip
                refine fr_cal hm (fun _ _ h => fr_X3_tenOfRow h) (fun x48 m47 hm => ?_)
                refine fr_b hm (fun x49 hm => ?_)
                refine fr_b hm (fun x50 hm => ?_)
                exact hk26 _ hm
set_option maxRecDepth 4000 in
theorem fr_X3_othersLearning {S : Nat → Nat → Bool} {m mm : Sg} {r : Int32} {a1 : Int32} {a2 : Int32} (hm : f_X3_othersLearning  m a1 a2 = some (r, mm)) : Fr S m mm := by
  unfold f_X3_othersLearning at hm
  refine g_lp (I := fun (s : Sg × Int32 × Int32) => Fr S s.1 mm) (E := fun (s : Sg × Int32) => Fr S s.1 mm) hm ?_ ?_
  · rintro ⟨m4, x5⟩ hm
    (try dsimp only at hm)
    (try dsimp only)
    exact fr_ret hm
  · rintro ⟨m1, x2, x3⟩ o hm hx7 hi6
    (try dsimp only [f_X3_othersLearning_L5] at hm)
    (try dsimp only)
    refine fr_cal hm (fun _ _ h => fr_X0_children h) (fun x9 m8 hm => ?_)
    refine fr_if hm (fun hm => ?_) (fun hm => ?_)
    · skip
      cases hm
      exact hx7 _ rfl
    · skip
      refine g_jn (J := fun (s : Sg × Int32) => Fr S s.1 mm) hm ?_ ?_
      · rintro ⟨m10, x11⟩ hm
        (try dsimp only at hm)
        (try dsimp only)
        refine fr_b hm (fun x13 hm => ?_)
        cases hm
        exact hi6 _ rfl
      · intro k12 hk12 hm
        refine fr_if hm (fun hm => ?_) (fun hm => ?_)
        · exact hk12 _ hm
        · skip
          refine fr_cal hm (fun _ _ h => fr_X0_kid h) (fun x15 m14 hm => ?_)
          refine fr_fi hm (fun hm => ?_) (fun hm => ?_)
          · exact hk12 _ hm
          · skip
            refine fr_b hm (fun x16 hm => ?_)
            exact hk12 _ hm
set_option maxRecDepth 4000 in
theorem fr_X3_rulesAll {S : Nat → Nat → Bool} {m mm : Sg} {r : Int32} {a1 : Int32} {a2 : Int32} {a3 : Int32} {a4 : Int32} (s_6 : ∀ k, S 6 k = true) (hm : f_X3_rulesAll  m a1 a2 a3 a4 = some (r, mm)) : Fr S m mm := by
  unfold f_X3_rulesAll at hm
  refine fr_calv hm (fun _ h => fr_X0_become (by first | exact s_6 _ | assumption) h) (fun m1 hm => ?_)
  refine g_lp (I := fun (s : Sg × Int32) => Fr S s.1 mm) (E := fun (s : Sg) => Fr S s mm) hm ?_ ?_
  · rintro m4 hm
    (try dsimp only at hm)
    (try dsimp only)
    refine g_lp (I := fun (s : Sg × Int32) => Fr S s.1 mm) (E := fun (x : (Sg) ⊕ (Sg)) => match x with | .inl m15 => Fr S m15 mm | .inr m16 => Fr S m16 mm) hm ?_ ?_
    · rintro (m15 | m16) hm
      · (try dsimp only at hm)
        (try dsimp only)
        exact fr_ret hm
      · (try dsimp only at hm)
        (try dsimp only)
        exact fr_ret hm
    · rintro ⟨m13, x14⟩ o hm hx18 hi17
      (try dsimp only [f_X3_rulesAll_L55] at hm)
      (try dsimp only)
      refine fr_if hm (fun hm => ?_) (fun hm => ?_)
      · skip
        cases hm
        exact hx18 _ rfl
      · skip
        refine fr_cal hm (fun _ _ h => fr_X3_rulerOfNextMonth (by first | exact s_6 _ | assumption) h) (fun x20 m19 hm => ?_)
        refine fr_if hm (fun hm => ?_) (fun hm => ?_)
        · refine fr_b hm (fun x21 hm => ?_)
          cases hm
          exact hi17 _ rfl
        · skip
          cases hm
          exact hx18 _ rfl
  · rintro ⟨m2, x3⟩ o hm hx6 hi5
    (try dsimp only [f_X3_rulesAll_L14] at hm)
    (try dsimp only)
    refine fr_cal hm (fun _ _ h => fr_X0_children h) (fun x8 m7 hm => ?_)
    refine fr_if hm (fun hm => ?_) (fun hm => ?_)
    · skip
      cases hm
      exact hx6 _ rfl
    · skip
      refine g_jn (J := fun (s : Sg) => Fr S s mm) hm ?_ ?_
      · intro m9 hm
        refine fr_b hm (fun x11 hm => ?_)
        cases hm
        exact hi5 _ rfl
      · intro k10 hk10 hm
        refine fr_if hm (fun hm => ?_) (fun hm => ?_)
        · exact hk10 _ hm
        · skip
          refine fr_calv hm (fun _ h => fr_X0_setKept (by first | exact s_6 _ | assumption) h) (fun m12 hm => ?_)
          exact hk10 _ hm
set_option maxRecDepth 4000 in
theorem fr_X3_teachLowest {S : Nat → Nat → Bool} {m mm : Sg} {a1 : Int32} (s_6 : ∀ k, S 6 k = true) (hm : f_X3_teachLowest  m a1 = some mm) : Fr S m mm := by
  unfold f_X3_teachLowest at hm
  refine fr_cal hm (fun _ _ h => fr_X0_lowestNotRight h) (fun x2 m1 hm => ?_)
  refine fr_if hm (fun hm => ?_) (fun hm => ?_)
  · exact fr_retv hm
  · skip
    refine fr_calv hm (fun _ h => fr_X0_makeRight (by first | exact s_6 _ | assumption) h) (fun m3 hm => ?_)
    exact fr_retv hm
set_option maxRecDepth 4000 in
theorem fr_X3_placeOf {S : Nat → Nat → Bool} {m mm : Sg} {r : Int32} {a1 : Int32} {a2 : Int32} (hm : f_X3_placeOf  m a1 a2 = some (r, mm)) : Fr S m mm := by
  unfold f_X3_placeOf at hm
  exact fr_ret hm
set_option maxRecDepth 4000 in
theorem fr_X3_weighed {S : Nat → Nat → Bool} {m mm : Sg} {r : Int32} {a1 : Int32} {a2 : Int32} (hm : f_X3_weighed  m a1 a2 = some (r, mm)) : Fr S m mm := by
  unfold f_X3_weighed at hm
  refine fr_cal hm (fun _ _ h => fr_X3_placeOf h) (fun x2 m1 hm => ?_)
  refine fr_if hm (fun hm => ?_) (fun hm => ?_)
  · skip
    exact fr_ret hm
  · skip
    refine fr_if hm (fun hm => ?_) (fun hm => ?_)
    · skip
      exact fr_ret hm
    · skip
      refine fr_n hm (fun hm => ?_)
      exact fr_ret hm
set_option maxRecDepth 4000 in
theorem fr_X3_isRest {S : Nat → Nat → Bool} {m mm : Sg} {r : Int32} {a1 : Int32} {a2 : Int32} (hm : f_X3_isRest  m a1 a2 = some (r, mm)) : Fr S m mm := by
  unfold f_X3_isRest at hm
  refine fr_cal hm (fun _ _ h => fr_X3_weighed h) (fun x2 m1 hm => ?_)
  refine fr_cal hm (fun _ _ h => fr_X0_kid h) (fun x4 m3 hm => ?_)
  refine fr_cal hm (fun _ _ h => fr_X0_kid h) (fun x6 m5 hm => ?_)
  refine g_lp (I := fun (s : Sg × Int32) => Fr S s.1 mm) (E := fun (x : (Sg) ⊕ (Sg) ⊕ (Sg)) => match x with | .inl m9 => Fr S m9 mm | .inr (.inl m10) => Fr S m10 mm | .inr (.inr m11) => Fr S m11 mm) hm ?_ ?_
  · rintro (m9 | m10 | m11) hm
    · (try dsimp only at hm)
      (try dsimp only)
      exact fr_ret hm
    · (try dsimp only at hm)
      (try dsimp only)
      exact fr_ret hm
    · (try dsimp only at hm)
      (try dsimp only)
      exact fr_ret hm
  · rintro ⟨m7, x8⟩ o hm hx13 hi12
    (try dsimp only [f_X3_isRest_L32] at hm)
    (try dsimp only)
    refine fr_cal hm (fun _ _ h => fr_X0_children h) (fun x15 m14 hm => ?_)
    refine fr_if hm (fun hm => ?_) (fun hm => ?_)
    · skip
      cases hm
      exact hx13 _ rfl
    · skip
      refine fr_cal hm (fun _ _ h => fr_X0_isOfNursery h) (fun x17 m16 hm => ?_)
      refine g_jn (J := fun (s : Sg) => Fr S s mm) hm ?_ ?_
      · intro m18 hm
        refine fr_cal hm (fun _ _ h => fr_X0_isOfNursery h) (fun x21 m20 hm => ?_)
        refine g_jn (J := fun (s : Sg) => Fr S s mm) hm ?_ ?_
        · intro m22 hm
          refine fr_b hm (fun x24 hm => ?_)
          cases hm
          exact hi12 _ rfl
        · intro k23 hk23 hm
          refine fr_if hm (fun hm => ?_) (fun hm => ?_)
          · exact hk23 _ hm
          · skip
            refine fr_cal hm (fun _ _ h => fr_X3_weighed h) (fun x26 m25 hm => ?_)
            refine fr_if hm (fun hm => ?_) (fun hm => ?_)
            · exact hk23 _ hm
            · skip
              cases hm
              exact hx13 _ rfl
      · intro k19 hk19 hm
        refine fr_if hm (fun hm => ?_) (fun hm => ?_)
        · exact hk19 _ hm
        · skip
          refine fr_cal hm (fun _ _ h => fr_X3_weighed h) (fun x28 m27 hm => ?_)
          refine fr_if hm (fun hm => ?_) (fun hm => ?_)
          · exact hk19 _ hm
          · skip
            cases hm
            exact hx13 _ rfl
set_option maxRecDepth 4000 in
theorem fr_X3_goOn {S : Nat → Nat → Bool} {m mm : Sg} {a1 : Int32} {a2 : Int32} {nl : Nat} {ln : Nat → Nat} (s_6 : ∀ k, S 6 k = true) (s_15 : ∀ k, S 15 k = true) (hL : ∀ p k, 45 ≤ p → p % 3 ≠ 1 → S p k = true) (hm : f_X3_goOn nl ln  m a1 a2 = some mm) : Fr S m mm := by
  unfold f_X3_goOn at hm
  refine fr_calv hm (fun _ h => fr_X0_become (by first | exact s_6 _ | exact s_15 _ | exact fun k => hL _ k (by omega) (by omega) | exact hL _ _ (by omega) (by omega) | assumption) h) (fun m1 hm => ?_)
  refine g_lp (I := fun (s : Sg × Int32) => Fr S s.1 mm) (E := fun (s : Sg) => Fr S s mm) hm ?_ ?_
  · rintro m4 hm
    (try dsimp only at hm)
    (try dsimp only)
    exact fr_retv hm
  · rintro ⟨m2, x3⟩ o hm hx6 hi5
    (try dsimp only [f_X3_goOn_L13] at hm)
    (try dsimp only)
    refine fr_if hm (fun hm => ?_) (fun hm => ?_)
    · skip
      cases hm
      exact hx6 _ rfl
    · skip
      refine fr_cal hm (fun _ _ h => fr_X3_rulerOfNextMonth (by first | exact s_6 _ | exact s_15 _ | exact fun k => hL _ k (by omega) (by omega) | exact hL _ _ (by omega) (by omega) | assumption) h) (fun x8 m7 hm => ?_)
      refine fr_cal hm (fun _ _ h => fr_X0_ruler h) (fun x10 m9 hm => ?_)
      refine g_jn (J := fun (s : Sg × Int32) => Fr S s.1 mm) hm ?_ ?_
      · rintro ⟨m11, x12⟩ hm
        (try dsimp only at hm)
        (try dsimp only)
        refine fr_calv hm (fun _ h => fr_X0_reignAndTake (by first | exact s_6 _ | exact s_15 _ | exact fun k => hL _ k (by omega) (by omega) | exact hL _ _ (by omega) (by omega) | assumption) h) (fun m14 hm => ?_)
        refine fr_b hm (fun x15 hm => ?_)
        cases hm
        exact hi5 _ rfl
      · intro k13 hk13 hm
        refine fr_fi hm (fun hm => ?_) (fun hm => ?_)
        · skip
          refine fr_cal hm (fun _ _ h => fr_X5_taxOf (by first | exact s_6 _ | exact s_15 _ | exact fun k => hL _ k (by omega) (by omega) | exact hL _ _ (by omega) (by omega) | assumption) (by first | exact s_6 _ | exact s_15 _ | exact fun k => hL _ k (by omega) (by omega) | exact hL _ _ (by omega) (by omega) | assumption) h) (fun x17 m16 hm => ?_)
          exact hk13 _ hm
        · skip
          exact hk13 _ hm
set_option maxRecDepth 4000 in
theorem fr_X3_seekLaw {S : Nat → Nat → Bool} {m mm : Sg} {a1 : Int32} {nl : Nat} {ln : Nat → Nat} (s_6 : ∀ k, S 6 k = true) (s_15 : ∀ k, S 15 k = true) (s_23_9 : S 23 9 = true) (s_23_10 : S 23 10 = true) (hL : ∀ p k, 45 ≤ p → p % 3 ≠ 1 → S p k = true) (hm : f_X3_seekLaw nl ln  m a1 = some mm) : Fr S m mm := by
  unfold f_X3_seekLaw at hm
  refine fr_wr hm (by first | exact s_6 _ | exact s_15 _ | exact fun k => hL _ k (by omega) (by omega) | exact hL _ _ (by omega) (by omega) | assumption) (fun m1 hm => ?_)
  refine fr_calv hm (fun _ h => fr_X3_goOn (by first | exact s_6 _ | exact s_15 _ | exact fun k => hL _ k (by omega) (by omega) | exact hL _ _ (by omega) (by omega) | assumption) (by first | exact s_6 _ | exact s_15 _ | exact fun k => hL _ k (by omega) (by omega) | exact hL _ _ (by omega) (by omega) | assumption) (by first | exact s_6 _ | exact s_15 _ | exact fun k => hL _ k (by omega) (by omega) | exact hL _ _ (by omega) (by omega) | assumption) h) (fun m2 hm => ?_)
  refine fr_cal hm (fun _ _ h => fr_X0_cell h) (fun x4 m3 hm => ?_)
  refine fr_wr hm (by first | exact s_6 _ | exact s_15 _ | exact fun k => hL _ k (by omega) (by omega) | exact hL _ _ (by omega) (by omega) | assumption) (fun m5 hm => ?_)
  refine g_lp (I := fun (s : Sg × Int32) => Fr S s.1 mm) (E := fun (s : Sg) => Fr S s mm) hm ?_ ?_
  · rintro m8 hm
    (try dsimp only at hm)
    (try dsimp only)
    exact fr_retv hm
  · rintro ⟨m6, x7⟩ o hm hx10 hi9
    (try dsimp only [f_X3_seekLaw_L26] at hm)
    (try dsimp only)
    refine fr_cal hm (fun _ _ h => fr_X5_size h) (fun x12 m11 hm => ?_)
    refine fr_if hm (fun hm => ?_) (fun hm => ?_)
    · skip
      cases hm
      exact hx10 _ rfl
    · skip
      refine fr_calv hm (fun _ h => fr_X3_goOn (by first | exact s_6 _ | exact s_15 _ | exact fun k => hL _ k (by omega) (by omega) | exact hL _ _ (by omega) (by omega) | assumption) (by first | exact s_6 _ | exact s_15 _ | exact fun k => hL _ k (by omega) (by omega) | exact hL _ _ (by omega) (by omega) | assumption) (by first | exact s_6 _ | exact s_15 _ | exact fun k => hL _ k (by omega) (by omega) | exact hL _ _ (by omega) (by omega) | assumption) h) (fun m13 hm => ?_)
      refine fr_cal hm (fun _ _ h => fr_X0_cell h) (fun x15 m14 hm => ?_)
      refine g_jn (J := fun (s : Sg) => Fr S s mm) hm ?_ ?_
      · intro m16 hm
        refine fr_b hm (fun x18 hm => ?_)
        cases hm
        exact hi9 _ rfl
      · intro k17 hk17 hm
        refine fr_if hm (fun hm => ?_) (fun hm => ?_)
        · exact hk17 _ hm
        · skip
          refine fr_wr hm (by first | exact s_6 _ | exact s_15 _ | exact fun k => hL _ k (by omega) (by omega) | exact hL _ _ (by omega) (by omega) | assumption) (fun m19 hm => ?_)
          refine fr_cal hm (fun _ _ h => fr_X0_cell h) (fun x21 m20 hm => ?_)
          refine fr_wr hm (by first | exact s_6 _ | exact s_15 _ | exact fun k => hL _ k (by omega) (by omega) | exact hL _ _ (by omega) (by omega) | assumption) (fun m22 hm => ?_)
          exact hk17 _ hm
set_option maxRecDepth 4000 in
theorem fr_X3_isOfTens {S : Nat → Nat → Bool} {m mm : Sg} {r : Int32} {a1 : Int32} {a2 : Int32} {a3 : Int32} (hm : f_X3_isOfTens  m a1 a2 a3 = some (r, mm)) : Fr S m mm := by
  unfold f_X3_isOfTens at hm
  refine g_lp (I := fun (s : Sg × Int32 × Int32) => Fr S s.1 mm) (E := fun (x : (Sg) ⊕ (Sg)) => match x with | .inl m4 => Fr S m4 mm | .inr m5 => Fr S m5 mm) hm ?_ ?_
  · rintro (m4 | m5) hm
    · (try dsimp only at hm)
      (try dsimp only)
      exact fr_ret hm
    · (try dsimp only at hm)
      (try dsimp only)
      exact fr_ret hm
  · rintro ⟨m1, x2, x3⟩ o hm hx7 hi6
    (try dsimp only [f_X3_isOfTens_L5] at hm)
    (try dsimp only)
    refine fr_if hm (fun hm => ?_) (fun hm => ?_)
    · skip
      cases hm
      exact hx7 _ rfl
    · skip
      refine fr_cal hm (fun _ _ h => fr_X3_tenOfRow h) (fun x9 m8 hm => ?_)
      refine fr_fi hm (fun hm => ?_) (fun hm => ?_)
      · skip
        refine fr_b hm (fun x10 hm => ?_)
        refine fr_b hm (fun x11 hm => ?_)
        cases hm
        exact hi6 _ rfl
      · skip
        cases hm
        exact hx7 _ rfl
set_option maxRecDepth 4000 in
theorem fr_X3_fewestKept {S : Nat → Nat → Bool} {m mm : Sg} {r : Int32} {a1 : Int32} {a2 : Int32} {a3 : Int32} (s_6 : ∀ k, S 6 k = true) (hm : f_X3_fewestKept  m a1 a2 a3 = some (r, mm)) : Fr S m mm := by
  unfold f_X3_fewestKept at hm
  refine fr_cal hm (fun _ _ h => fr_X3_othersLearning h) (fun x2 m1 hm => ?_)
  refine g_lp (I := fun (s : Sg × Int32 × Int32) => Fr S s.1 mm) (E := fun (s : Sg × Int32) => Fr S s.1 mm) hm ?_ ?_
  · rintro ⟨m6, x7⟩ hm
    (try dsimp only at hm)
    (try dsimp only)
    exact fr_ret hm
  · rintro ⟨m3, x4, x5⟩ o hm hx9 hi8
    (try dsimp only [f_X3_fewestKept_L14] at hm)
    (try dsimp only)
    refine fr_if hm (fun hm => ?_) (fun hm => ?_)
    · skip
      cases hm
      exact hx9 _ rfl
    · skip
      refine g_jn (J := fun (s : Sg × Int32) => Fr S s.1 mm) hm ?_ ?_
      · rintro ⟨m10, x11⟩ hm
        (try dsimp only at hm)
        (try dsimp only)
        refine g_jn (J := fun (s : Sg × Int32) => Fr S s.1 mm) hm ?_ ?_
        · rintro ⟨m13, x14⟩ hm
          (try dsimp only at hm)
          (try dsimp only)
          refine fr_b hm (fun x16 hm => ?_)
          cases hm
          exact hi8 _ rfl
        · intro k15 hk15 hm
          refine fr_fi hm (fun hm => ?_) (fun hm => ?_)
          · skip
            exact hk15 _ hm
          · skip
            refine fr_if hm (fun hm => ?_) (fun hm => ?_)
            · skip
              exact hk15 _ hm
            · skip
              refine fr_cal hm (fun _ _ h => fr_X3_rulesAll (by first | exact s_6 _ | assumption) h) (fun x18 m17 hm => ?_)
              refine fr_if hm (fun hm => ?_) (fun hm => ?_)
              · skip
                exact hk15 _ hm
              · skip
                exact hk15 _ hm
      · intro k12 hk12 hm
        refine g_jn (J := fun (s : Sg) => Fr S s mm) hm ?_ ?_
        · intro m19 hm
          exact hk12 _ hm
        · intro k20 hk20 hm
          refine fr_if hm (fun hm => ?_) (fun hm => ?_)
          · exact hk20 _ hm
          · skip
            refine fr_cal hm (fun _ _ h => fr_J6_bitCount_0f7a4 h) (fun x22 m21 hm => ?_)
            refine fr_cal hm (fun _ _ h => fr_J6_bitCount_0f7a4 h) (fun x24 m23 hm => ?_)
            refine fr_if hm (fun hm => ?_) (fun hm => ?_)
            · skip
              exact hk12 _ hm
            · exact hk20 _ hm
set_option maxRecDepth 4000 in
theorem fr_X3_gain {S : Nat → Nat → Bool} {m mm : Sg} {r : Int32} {a1 : Int32} {a2 : Int32} (s_6 : ∀ k, S 6 k = true) (hm : f_X3_gain  m a1 a2 = some (r, mm)) : Fr S m mm := by
  unfold f_X3_gain at hm
  refine fr_calv hm (fun _ h => fr_X0_become (by first | exact s_6 _ | assumption) h) (fun m1 hm => ?_)
  refine fr_calv hm (fun _ h => fr_X3_teachLowest (by first | exact s_6 _ | assumption) h) (fun m2 hm => ?_)
  refine fr_calv hm (fun _ h => fr_X3_teachLowest (by first | exact s_6 _ | assumption) h) (fun m3 hm => ?_)
  refine fr_cal hm (fun _ _ h => fr_X0_kid h) (fun x5 m4 hm => ?_)
  refine fr_cal hm (fun _ _ h => fr_X0_kid h) (fun x7 m6 hm => ?_)
  refine g_lp (I := fun (s : Sg × Int32 × Int32) => Fr S s.1 mm) (E := fun (s : Sg × Int32) => Fr S s.1 mm) hm ?_ ?_
  · rintro ⟨m11, x12⟩ hm
    (try dsimp only at hm)
    (try dsimp only)
    exact fr_ret hm
  · rintro ⟨m8, x9, x10⟩ o hm hx14 hi13
    (try dsimp only [f_X3_gain_L48] at hm)
    (try dsimp only)
    refine fr_if hm (fun hm => ?_) (fun hm => ?_)
    · skip
      cases hm
      exact hx14 _ rfl
    · skip
      refine fr_cal hm (fun _ _ h => fr_X3_rulerOfNextMonth (by first | exact s_6 _ | assumption) h) (fun x16 m15 hm => ?_)
      refine fr_cal hm (fun _ _ h => fr_X0_isOfNursery h) (fun x18 m17 hm => ?_)
      refine g_jn (J := fun (s : Sg × Int32) => Fr S s.1 mm) hm ?_ ?_
      · rintro ⟨m19, x20⟩ hm
        (try dsimp only at hm)
        (try dsimp only)
        refine fr_b hm (fun x22 hm => ?_)
        refine fr_cal hm (fun _ _ h => fr_X0_isOfNursery h) (fun x24 m23 hm => ?_)
        refine g_jn (J := fun (s : Sg × Int32) => Fr S s.1 mm) hm ?_ ?_
        · rintro ⟨m25, x26⟩ hm
          (try dsimp only at hm)
          (try dsimp only)
          refine fr_b hm (fun x28 hm => ?_)
          refine fr_b hm (fun x29 hm => ?_)
          cases hm
          exact hi13 _ rfl
        · intro k27 hk27 hm
          refine fr_if hm (fun hm => ?_) (fun hm => ?_)
          · skip
            exact hk27 _ hm
          · skip
            exact hk27 _ hm
      · intro k21 hk21 hm
        refine fr_if hm (fun hm => ?_) (fun hm => ?_)
        · skip
          exact hk21 _ hm
        · skip
          exact hk21 _ hm
set_option maxRecDepth 4000 in
theorem fr_X3_restAt {S : Nat → Nat → Bool} {m mm : Sg} {r : Int32} {a1 : Int32} {a2 : Int32} {a3 : Int32} (hm : f_X3_restAt  m a1 a2 a3 = some (r, mm)) : Fr S m mm := by
  unfold f_X3_restAt at hm
  refine g_lp (I := fun (s : Sg × Int32 × Int32) => Fr S s.1 mm) (E := fun (x : (Sg × Int32 × Int32) ⊕ (Sg × Int32)) => match x with | .inl (m4, x5, x6) => Fr S m4 mm | .inr (m7, x8) => Fr S m7 mm) hm ?_ ?_
  · rintro (⟨m4, x5, x6⟩ | ⟨m7, x8⟩) hm
    · (try dsimp only at hm)
      (try dsimp only)
      exact fr_ret hm
    · (try dsimp only at hm)
      (try dsimp only)
      refine fr_fi hm (fun hm => ?_) (fun hm => ?_)
      · skip
        exact fr_ret hm
      · skip
        exact fr_ret hm
  · rintro ⟨m1, x2, x3⟩ o hm hx10 hi9
    (try dsimp only [f_X3_restAt_L6] at hm)
    (try dsimp only)
    refine fr_cal hm (fun _ _ h => fr_X0_children h) (fun x12 m11 hm => ?_)
    refine fr_if hm (fun hm => ?_) (fun hm => ?_)
    · skip
      cases hm
      exact hx10 _ rfl
    · skip
      refine g_lp (I := fun (s : Sg × Int32 × Int32) => Fr S s.1 mm) (E := fun (x : (Sg × Int32) ⊕ (Sg × Int32)) => match x with | .inl (m16, x17) => Fr S m16 mm | .inr (m18, x19) => Fr S m18 mm) hm ?_ ?_
      · rintro (⟨m16, x17⟩ | ⟨m18, x19⟩) hm
        · (try dsimp only at hm)
          (try dsimp only)
          cases hm
          exact hx10 _ rfl
        · (try dsimp only at hm)
          (try dsimp only)
          refine fr_b hm (fun x35 hm => ?_)
          cases hm
          exact hi9 _ rfl
      · rintro ⟨m13, x14, x15⟩ o hm hx21 hi20
        (try dsimp only [f_X3_restAt_L21] at hm)
        (try dsimp only)
        refine fr_cal hm (fun _ _ h => fr_X0_children h) (fun x23 m22 hm => ?_)
        refine fr_if hm (fun hm => ?_) (fun hm => ?_)
        · skip
          cases hm
          exact hx21 _ rfl
        · skip
          refine fr_cal hm (fun _ _ h => fr_X0_isOfNursery h) (fun x25 m24 hm => ?_)
          refine g_jn (J := fun (s : Sg × Int32) => Fr S s.1 mm) hm ?_ ?_
          · rintro ⟨m26, x27⟩ hm
            (try dsimp only at hm)
            (try dsimp only)
            refine fr_b hm (fun x29 hm => ?_)
            cases hm
            exact hi20 _ rfl
          · intro k28 hk28 hm
            refine fr_if hm (fun hm => ?_) (fun hm => ?_)
            · exact hk28 _ hm
            · skip
              refine fr_cal hm (fun _ _ h => fr_X0_isOfNursery h) (fun x31 m30 hm => ?_)
              refine fr_if hm (fun hm => ?_) (fun hm => ?_)
              · exact hk28 _ hm
              · skip
                refine fr_cal hm (fun _ _ h => fr_X3_isRest h) (fun x33 m32 hm => ?_)
                refine fr_if hm (fun hm => ?_) (fun hm => ?_)
                · exact hk28 _ hm
                · skip
                  refine fr_fi hm (fun hm => ?_) (fun hm => ?_)
                  · refine fr_b hm (fun x34 hm => ?_)
                    exact hk28 _ hm
                  · skip
                    cases hm
                    exact hx21 _ rfl
set_option maxRecDepth 4000 in
theorem fr_X3_weighAll {S : Nat → Nat → Bool} {m mm : Sg} {a1 : Int32} {a2 : Int32} (s_6 : ∀ k, S 6 k = true) (s_26 : ∀ k, S 26 k = true) (hm : f_X3_weighAll  m a1 a2 = some mm) : Fr S m mm := by
  unfold f_X3_weighAll at hm
  refine g_lp (I := fun (s : Sg × Int32) => Fr S s.1 mm) (E := fun (s : Sg) => Fr S s mm) hm ?_ ?_
  · rintro m3 hm
    (try dsimp only at hm)
    (try dsimp only)
    exact fr_retv hm
  · rintro ⟨m1, x2⟩ o hm hx5 hi4
    (try dsimp only [f_X3_weighAll_L2] at hm)
    (try dsimp only)
    refine fr_cal hm (fun _ _ h => fr_X0_children h) (fun x7 m6 hm => ?_)
    refine fr_if hm (fun hm => ?_) (fun hm => ?_)
    · skip
      cases hm
      exact hx5 _ rfl
    · skip
      refine g_lp (I := fun (s : Sg × Int32) => Fr S s.1 mm) (E := fun (s : Sg) => Fr S s mm) hm ?_ ?_
      · rintro m10 hm
        (try dsimp only at hm)
        (try dsimp only)
        refine fr_b hm (fun x27 hm => ?_)
        cases hm
        exact hi4 _ rfl
      · rintro ⟨m8, x9⟩ o hm hx12 hi11
        (try dsimp only [f_X3_weighAll_L16] at hm)
        (try dsimp only)
        refine fr_cal hm (fun _ _ h => fr_X0_children h) (fun x14 m13 hm => ?_)
        refine fr_if hm (fun hm => ?_) (fun hm => ?_)
        · skip
          cases hm
          exact hx12 _ rfl
        · skip
          refine fr_cal hm (fun _ _ h => fr_X3_placeOf h) (fun x16 m15 hm => ?_)
          refine fr_cal hm (fun _ _ h => fr_X0_isOfNursery h) (fun x18 m17 hm => ?_)
          refine g_jn (J := fun (s : Sg) => Fr S s mm) hm ?_ ?_
          · intro m19 hm
            refine fr_b hm (fun x21 hm => ?_)
            cases hm
            exact hi11 _ rfl
          · intro k20 hk20 hm
            refine fr_if hm (fun hm => ?_) (fun hm => ?_)
            · skip
              exact hk20 _ hm
            · skip
              refine fr_cal hm (fun _ _ h => fr_X0_isOfNursery h) (fun x23 m22 hm => ?_)
              refine fr_if hm (fun hm => ?_) (fun hm => ?_)
              · skip
                exact hk20 _ hm
              · skip
                refine fr_if hm (fun hm => ?_) (fun hm => ?_)
                · skip
                  exact hk20 _ hm
                · skip
                  refine fr_cal hm (fun _ _ h => fr_X3_gain (by first | exact s_6 _ | exact s_26 _ | assumption) h) (fun x25 m24 hm => ?_)
                  refine fr_st hm (by first | exact s_6 _ | exact s_26 _ | assumption) (fun m26 hm => ?_)
                  exact hk20 _ hm
set_option maxRecDepth 4000 in
theorem fr_X3_seekRowOfLength {S : Nat → Nat → Bool} {m mm : Sg} {a1 : Int32} {a2 : Int32} {a3 : Int32} {a4 : Int32} {a5 : Int32} (s_23_6 : S 23 6 = true) (s_23_7 : S 23 7 = true) (s_23_8 : S 23 8 = true) (hm : f_X3_seekRowOfLength  m a1 a2 a3 a4 a5 = some mm) : Fr S m mm := by
  unfold f_X3_seekRowOfLength at hm
  refine g_lp (I := fun (s : Sg × Int32) => Fr S s.1 mm) (E := fun (s : Sg) => Fr S s mm) hm ?_ ?_
  · rintro m3 hm
    (try dsimp only at hm)
    (try dsimp only)
    exact fr_retv hm
  · rintro ⟨m1, x2⟩ o hm hx5 hi4
    (try dsimp only [f_X3_seekRowOfLength_L3] at hm)
    (try dsimp only)
    refine fr_if hm (fun hm => ?_) (fun hm => ?_)
    · skip
      cases hm
      exact hx5 _ rfl
    · skip
      refine fr_if hm (fun hm => ?_) (fun hm => ?_)
      · skip
        cases hm
        exact hx5 _ rfl
      · skip
        refine fr_cal hm (fun _ _ h => fr_X3_isOfTens h) (fun x7 m6 hm => ?_)
        refine g_jn (J := fun (s : Sg) => Fr S s mm) hm ?_ ?_
        · intro m8 hm
          refine fr_b hm (fun x10 hm => ?_)
          cases hm
          exact hi4 _ rfl
        · intro k9 hk9 hm
          refine fr_fi hm (fun hm => ?_) (fun hm => ?_)
          · skip
            refine fr_cal hm (fun _ _ h => fr_X3_monthsByRow h) (fun x12 m11 hm => ?_)
            refine fr_if hm (fun hm => ?_) (fun hm => ?_)
            · skip
              exact hk9 _ hm
            · skip
              refine fr_wr hm (by first | assumption) (fun m13 hm => ?_)
              refine fr_wr hm (by first | assumption) (fun m14 hm => ?_)
              refine fr_wr hm (by first | assumption) (fun m15 hm => ?_)
              exact hk9 _ hm
          · skip
            exact hk9 _ hm
set_option maxRecDepth 4000 in
theorem fr_X3_seekRow {S : Nat → Nat → Bool} {m mm : Sg} {a1 : Int32} {a2 : Int32} (s_6 : ∀ k, S 6 k = true) (s_23_6 : S 23 6 = true) (s_23_7 : S 23 7 = true) (s_23_8 : S 23 8 = true) (s_24 : ∀ k, S 24 k = true) (s_25 : ∀ k, S 25 k = true) (hm : f_X3_seekRow  m a1 a2 = some mm) : Fr S m mm := by
  unfold f_X3_seekRow at hm
  refine fr_calv hm (fun _ h => fr_X3_foreseeOthers (by first | exact s_6 _ | exact s_24 _ | exact s_25 _ | assumption) (by first | exact s_6 _ | exact s_24 _ | exact s_25 _ | assumption) (by first | exact s_6 _ | exact s_24 _ | exact s_25 _ | assumption) h) (fun m1 hm => ?_)
  refine fr_wr hm (by first | exact s_6 _ | exact s_24 _ | exact s_25 _ | assumption) (fun m2 hm => ?_)
  refine fr_wr hm (by first | exact s_6 _ | exact s_24 _ | exact s_25 _ | assumption) (fun m3 hm => ?_)
  refine fr_cal hm (fun _ _ h => fr_X3_monthsByRow h) (fun x5 m4 hm => ?_)
  refine fr_wr hm (by first | exact s_6 _ | exact s_24 _ | exact s_25 _ | assumption) (fun m6 hm => ?_)
  refine fr_cal hm (fun _ _ h => fr_X0_rightOf h) (fun x8 m7 hm => ?_)
  refine fr_cal hm (fun _ _ h => fr_X0_kid h) (fun x10 m9 hm => ?_)
  refine fr_b hm (fun x11 hm => ?_)
  refine g_lp (I := fun (s : Sg × Int32 × Int32) => Fr S s.1 mm) (E := fun (s : Sg) => Fr S s mm) hm ?_ ?_
  · rintro m15 hm
    (try dsimp only at hm)
    (try dsimp only)
    exact fr_retv hm
  · rintro ⟨m12, x13, x14⟩ o hm hx17 hi16
    (try dsimp only [f_X3_seekRow_L62] at hm)
    (try dsimp only)
    refine fr_if hm (fun hm => ?_) (fun hm => ?_)
    · skip
      cases hm
      exact hx17 _ rfl
    · skip
      refine fr_b hm (fun x18 hm => ?_)
      refine fr_cal hm (fun _ _ h => fr_X0_kid h) (fun x20 m19 hm => ?_)
      refine g_jn (J := fun (s : Sg) => Fr S s mm) hm ?_ ?_
      · intro m21 hm
        refine fr_b hm (fun x23 hm => ?_)
        cases hm
        exact hi16 _ rfl
      · intro k22 hk22 hm
        refine fr_if hm (fun hm => ?_) (fun hm => ?_)
        · exact hk22 _ hm
        · skip
          refine fr_calv hm (fun _ h => fr_X3_seekRowOfLength (by first | exact s_6 _ | exact s_24 _ | exact s_25 _ | assumption) (by first | exact s_6 _ | exact s_24 _ | exact s_25 _ | assumption) (by first | exact s_6 _ | exact s_24 _ | exact s_25 _ | assumption) h) (fun m24 hm => ?_)
          exact hk22 _ hm
set_option maxRecDepth 4000 in
theorem fr_X10_feed {S : Nat → Nat → Bool} {m mm : Sg} {r : Int32} {a1 : Int32} {a2 : Int32} {a3 : Int32} {a4 : Int32} {a5 : Int32} (s_1_1 : S 1 1 = true) (s_2 : ∀ k, S 2 k = true) (hm : f_X10_feed  m a1 a2 a3 a4 a5 = some (r, mm)) : Fr S m mm := by
  unfold f_X10_feed at hm
  refine fr_cal hm (fun _ _ h => fr_X9_filled h) (fun x2 m1 hm => ?_)
  refine fr_cal hm (fun _ _ h => fr_X9_filled h) (fun x4 m3 hm => ?_)
  refine fr_cal hm (fun _ _ h => fr_X9_filled h) (fun x6 m5 hm => ?_)
  refine fr_cal hm (fun _ _ h => fr_X9_filled h) (fun x8 m7 hm => ?_)
  refine fr_cal hm (fun _ _ h => fr_X9_filled h) (fun x10 m9 hm => ?_)
  refine fr_b hm (fun x11 hm => ?_)
  refine fr_cal hm (fun _ _ h => fr_X9_size h) (fun x13 m12 hm => ?_)
  refine fr_if hm (fun hm => ?_) (fun hm => ?_)
  · skip
    refine fr_calv hm (fun _ h => fr_X9_add (by first | exact s_2 _ | assumption) (by first | exact s_2 _ | assumption) h) (fun m14 hm => ?_)
    refine fr_calv hm (fun _ h => fr_X9_add (by first | exact s_2 _ | assumption) (by first | exact s_2 _ | assumption) h) (fun m15 hm => ?_)
    refine fr_calv hm (fun _ h => fr_X9_add (by first | exact s_2 _ | assumption) (by first | exact s_2 _ | assumption) h) (fun m16 hm => ?_)
    refine fr_calv hm (fun _ h => fr_X9_add (by first | exact s_2 _ | assumption) (by first | exact s_2 _ | assumption) h) (fun m17 hm => ?_)
    refine fr_calv hm (fun _ h => fr_X9_add (by first | exact s_2 _ | assumption) (by first | exact s_2 _ | assumption) h) (fun m18 hm => ?_)
    refine fr_cal hm (fun _ _ h => fr_X9_size h) (fun x20 m19 hm => ?_)
    exact fr_ret hm
  · skip
    exact fr_ret hm
set_option maxRecDepth 4000 in
theorem fr_X10_end {S : Nat → Nat → Bool} {m mm : Sg} {r : Int32} {a1 : Int32} (s_1_1 : S 1 1 = true) (hm : f_X10_end  m a1 = some (r, mm)) : Fr S m mm := by
  unfold f_X10_end at hm
  refine fr_if hm (fun hm => ?_) (fun hm => ?_)
  · skip
    exact fr_ret hm
  · skip
    refine fr_cal hm (fun _ _ h => fr_X9_size h) (fun x2 m1 hm => ?_)
    refine fr_if hm (fun hm => ?_) (fun hm => ?_)
    · skip
      refine fr_calv hm (fun _ h => fr_X9_cut (by first | assumption) h) (fun m3 hm => ?_)
      exact fr_ret hm
    · skip
      exact fr_ret hm
set_option maxRecDepth 4000 in
theorem fr_X10_fault {S : Nat → Nat → Bool} {m mm : Sg} {r : Int32} {a1 : Int32} (s_6 : ∀ k, S 6 k = true) (s_7_2 : S 7 2 = true) (s_8_1 : S 8 1 = true) (s_8_2 : S 8 2 = true) (s_9 : ∀ k, S 9 k = true) (s_10_2 : S 10 2 = true) (s_11_1 : S 11 1 = true) (s_11_2 : S 11 2 = true) (s_12 : ∀ k, S 12 k = true) (hm : f_X10_fault  m a1 = some (r, mm)) : Fr S m mm := by
  unfold f_X10_fault at hm
  refine fr_fi hm (fun hm => ?_) (fun hm => ?_)
  · skip
    refine fr_fi hm (fun hm => ?_) (fun hm => ?_)
    · skip
      exact fr_ret hm
    · skip
      refine fr_cal hm (fun _ _ h => fr_X6_read (by first | exact s_6 _ | exact s_9 _ | exact s_12 _ | assumption) (by first | exact s_6 _ | exact s_9 _ | exact s_12 _ | assumption) (by first | exact s_6 _ | exact s_9 _ | exact s_12 _ | assumption) (by first | exact s_6 _ | exact s_9 _ | exact s_12 _ | assumption) h) (fun x2 m1 hm => ?_)
      exact fr_ret hm
  · skip
    refine fr_cal hm (fun _ _ h => fr_X1_read (by first | exact s_6 _ | exact s_9 _ | exact s_12 _ | assumption) (by first | exact s_6 _ | exact s_9 _ | exact s_12 _ | assumption) (by first | exact s_6 _ | exact s_9 _ | exact s_12 _ | assumption) (by first | exact s_6 _ | exact s_9 _ | exact s_12 _ | assumption) (by first | exact s_6 _ | exact s_9 _ | exact s_12 _ | assumption) h) (fun x4 m3 hm => ?_)
    exact fr_ret hm
set_option maxRecDepth 4000 in
theorem fr_X10_text {S : Nat → Nat → Bool} {m mm : Sg} {r : Int32} {a1 : Int32} (s_1_1 : S 1 1 = true) (s_4 : ∀ k, S 4 k = true) (s_6 : ∀ k, S 6 k = true) (s_7_2 : S 7 2 = true) (s_8_1 : S 8 1 = true) (s_8_2 : S 8 2 = true) (s_9 : ∀ k, S 9 k = true) (s_10_2 : S 10 2 = true) (s_11_1 : S 11 1 = true) (s_11_2 : S 11 2 = true) (s_12 : ∀ k, S 12 k = true) (s_16_5 : S 16 5 = true) (s_16_6 : S 16 6 = true) (hm : f_X10_text  m a1 = some (r, mm)) : Fr S m mm := by
  unfold f_X10_text at hm
  refine g_jn (J := fun (s : Sg) => Fr S s mm) hm ?_ ?_
  · intro m1 hm
    refine fr_fi hm (fun hm => ?_) (fun hm => ?_)
    · skip
      exact fr_ret hm
    · skip
      refine fr_cal hm (fun _ _ h => fr_X5_hasRoom h) (fun x4 m3 hm => ?_)
      refine fr_if hm (fun hm => ?_) (fun hm => ?_)
      · skip
        exact fr_ret hm
      · skip
        refine fr_cal hm (fun _ _ h => fr_X6_read (by first | exact s_4 _ | exact s_6 _ | exact s_9 _ | exact s_12 _ | assumption) (by first | exact s_4 _ | exact s_6 _ | exact s_9 _ | exact s_12 _ | assumption) (by first | exact s_4 _ | exact s_6 _ | exact s_9 _ | exact s_12 _ | assumption) (by first | exact s_4 _ | exact s_6 _ | exact s_9 _ | exact s_12 _ | assumption) h) (fun x6 m5 hm => ?_)
        refine fr_fi hm (fun hm => ?_) (fun hm => ?_)
        · skip
          exact fr_ret hm
        · skip
          refine fr_calv hm (fun _ h => fr_X9_cut (by first | exact s_4 _ | exact s_6 _ | exact s_9 _ | exact s_12 _ | assumption) h) (fun m7 hm => ?_)
          cases hm
  · intro k2 hk2 hm
    refine fr_fi hm (fun hm => ?_) (fun hm => ?_)
    · exact hk2 _ hm
    · skip
      refine fr_cal hm (fun _ _ h => fr_X1_read (by first | exact s_4 _ | exact s_6 _ | exact s_9 _ | exact s_12 _ | assumption) (by first | exact s_4 _ | exact s_6 _ | exact s_9 _ | exact s_12 _ | assumption) (by first | exact s_4 _ | exact s_6 _ | exact s_9 _ | exact s_12 _ | assumption) (by first | exact s_4 _ | exact s_6 _ | exact s_9 _ | exact s_12 _ | assumption) (by first | exact s_4 _ | exact s_6 _ | exact s_9 _ | exact s_12 _ | assumption) h) (fun x9 m8 hm => ?_)
      refine fr_fi hm (fun hm => ?_) (fun hm => ?_)
      · exact hk2 _ hm
      · skip
        refine fr_calv hm (fun _ h => fr_X0_become (by first | exact s_4 _ | exact s_6 _ | exact s_9 _ | exact s_12 _ | assumption) h) (fun m10 hm => ?_)
        refine fr_calv hm (fun _ h => fr_X7_forgetAll (by first | exact s_4 _ | exact s_6 _ | exact s_9 _ | exact s_12 _ | assumption) (by first | exact s_4 _ | exact s_6 _ | exact s_9 _ | exact s_12 _ | assumption) h) (fun m11 hm => ?_)
        refine fr_calv hm (fun _ h => fr_X9_cut (by first | exact s_4 _ | exact s_6 _ | exact s_9 _ | exact s_12 _ | assumption) h) (fun m12 hm => ?_)
        refine fr_cal hm (fun _ _ h => fr_X0_children h) (fun x14 m13 hm => ?_)
        exact fr_ret hm
set_option maxRecDepth 4000 in
theorem fr_X10_child {S : Nat → Nat → Bool} {m mm : Sg} {r : Int32} {a1 : Int32} {a2 : Int32} {nl : Nat} {ln : Nat → Nat} (s_15 : ∀ k, S 15 k = true) (hL : ∀ p k, 45 ≤ p → p % 3 ≠ 1 → S p k = true) (hm : f_X10_child nl ln  m a1 a2 = some (r, mm)) : Fr S m mm := by
  unfold f_X10_child at hm
  refine fr_cal hm (fun _ _ h => fr_X0_hasChild h) (fun x2 m1 hm => ?_)
  refine g_jn (J := fun (s : Sg) => Fr S s mm) hm ?_ ?_
  · intro m3 hm
    cases hm
  · intro k4 hk4 hm
    refine fr_if hm (fun hm => ?_) (fun hm => ?_)
    · skip
      exact hk4 _ hm
    · skip
      refine fr_if hm (fun hm => ?_) (fun hm => ?_)
      · skip
        exact hk4 _ hm
      · skip
        refine fr_if hm (fun hm => ?_) (fun hm => ?_)
        · skip
          refine fr_fi hm (fun hm => ?_) (fun hm => ?_)
          · skip
            refine fr_fi hm (fun hm => ?_) (fun hm => ?_)
            · skip
              refine fr_cal hm (fun _ _ h => fr_X0_kid h) (fun x6 m5 hm => ?_)
              exact fr_ret hm
            · skip
              refine fr_cal hm (fun _ _ h => fr_X5_holding h) (fun x8 m7 hm => ?_)
              refine fr_cal hm (fun _ _ h => fr_X5_taxOf (by first | exact s_15 _ | exact fun k => hL _ k (by omega) (by omega) | exact hL _ _ (by omega) (by omega) | assumption) (by first | exact s_15 _ | exact fun k => hL _ k (by omega) (by omega) | exact hL _ _ (by omega) (by omega) | assumption) h) (fun x10 m9 hm => ?_)
              exact fr_ret hm
          · skip
            refine fr_cal hm (fun _ _ h => fr_X0_countOf h) (fun x12 m11 hm => ?_)
            exact fr_ret hm
        · skip
          exact hk4 _ hm
set_option maxRecDepth 4000 in
theorem fr_X10_elder {S : Nat → Nat → Bool} {m mm : Sg} {r : Int32} {a1 : Int32} {a2 : Int32} (hm : f_X10_elder  m a1 a2 = some (r, mm)) : Fr S m mm := by
  unfold f_X10_elder at hm
  refine fr_cal hm (fun _ _ h => fr_X0_hasElder h) (fun x2 m1 hm => ?_)
  refine fr_if hm (fun hm => ?_) (fun hm => ?_)
  · skip
    exact fr_ret hm
  · skip
    refine fr_if hm (fun hm => ?_) (fun hm => ?_)
    · skip
      exact fr_ret hm
    · skip
      refine fr_if hm (fun hm => ?_) (fun hm => ?_)
      · skip
        exact fr_ret hm
      · skip
        refine fr_cal hm (fun _ _ h => fr_X0_old h) (fun x4 m3 hm => ?_)
        exact fr_ret hm
set_option maxRecDepth 4000 in
theorem fr_X10_rule {S : Nat → Nat → Bool} {m mm : Sg} {r : Int32} {a1 : Int32} (hm : f_X10_rule  m a1 = some (r, mm)) : Fr S m mm := by
  unfold f_X10_rule at hm
  refine fr_cal hm (fun _ _ h => fr_X0_isTold h) (fun x2 m1 hm => ?_)
  refine fr_if hm (fun hm => ?_) (fun hm => ?_)
  · skip
    exact fr_ret hm
  · skip
    refine fr_if hm (fun hm => ?_) (fun hm => ?_)
    · skip
      exact fr_ret hm
    · skip
      refine fr_if hm (fun hm => ?_) (fun hm => ?_)
      · skip
        exact fr_ret hm
      · skip
        refine fr_cal hm (fun _ _ h => fr_X0_cell h) (fun x4 m3 hm => ?_)
        exact fr_ret hm
set_option maxRecDepth 4000 in
theorem fr_X10_law {S : Nat → Nat → Bool} {m mm : Sg} {r : Int32} {a1 : Int32} (s_13_3 : S 13 3 = true) (hm : f_X10_law  m a1 = some (r, mm)) : Fr S m mm := by
  unfold f_X10_law at hm
  refine fr_cal hm (fun _ _ h => fr_X5_letHold (by first | assumption) h) (fun x2 m1 hm => ?_)
  exact fr_retz hm
set_option maxRecDepth 4000 in
theorem fr_X10_fever {S : Nat → Nat → Bool} {m mm : Sg} {r : Int32} {a1 : Int32} (s_0_9 : S 0 9 = true) (hm : f_X10_fever  m a1 = some (r, mm)) : Fr S m mm := by
  unfold f_X10_fever at hm
  refine fr_if hm (fun hm => ?_) (fun hm => ?_)
  · skip
    exact fr_ret hm
  · skip
    refine fr_if hm (fun hm => ?_) (fun hm => ?_)
    · skip
      exact fr_ret hm
    · skip
      refine fr_fi hm (fun hm => ?_) (fun hm => ?_)
      · skip
        refine fr_wr hm (by first | assumption) (fun m1 hm => ?_)
        exact fr_ret hm
      · skip
        exact fr_ret hm
set_option maxRecDepth 4000 in
theorem fr_X10_passes {S : Nat → Nat → Bool} {m mm : Sg} {r : Int32} {a1 : Int32} {a2 : Int32} (hm : f_X10_passes  m a1 a2 = some (r, mm)) : Fr S m mm := by
  unfold f_X10_passes at hm
  refine fr_cal hm (fun _ _ h => fr_X0_hasChild h) (fun x2 m1 hm => ?_)
  refine fr_if hm (fun hm => ?_) (fun hm => ?_)
  · skip
    exact fr_ret hm
  · skip
    refine fr_cal hm (fun _ _ h => fr_X0_hasElder h) (fun x4 m3 hm => ?_)
    refine fr_fi hm (fun hm => ?_) (fun hm => ?_)
    · skip
      refine fr_cal hm (fun _ _ h => fr_X0_stands h) (fun x6 m5 hm => ?_)
      refine fr_if hm (fun hm => ?_) (fun hm => ?_)
      · skip
        exact fr_ret hm
      · skip
        exact fr_ret hm
    · skip
      exact fr_ret hm
set_option maxRecDepth 4000 in
theorem fr_X10_slips {S : Nat → Nat → Bool} {m mm : Sg} {r : Int32} {a1 : Int32} {a2 : Int32} (hm : f_X10_slips  m a1 a2 = some (r, mm)) : Fr S m mm := by
  unfold f_X10_slips at hm
  refine fr_cal hm (fun _ _ h => fr_X0_hasChild h) (fun x2 m1 hm => ?_)
  refine fr_if hm (fun hm => ?_) (fun hm => ?_)
  · skip
    exact fr_ret hm
  · skip
    refine fr_cal hm (fun _ _ h => fr_X0_hasElder h) (fun x4 m3 hm => ?_)
    refine fr_if hm (fun hm => ?_) (fun hm => ?_)
    · skip
      exact fr_ret hm
    · skip
      refine fr_cal hm (fun _ _ h => fr_X0_wants h) (fun x6 m5 hm => ?_)
      exact fr_ret hm
set_option maxRecDepth 4000 in
theorem fr_X10_examiner {S : Nat → Nat → Bool} {m mm : Sg} {r : Int32} (hm : f_X10_examiner  m  = some (r, mm)) : Fr S m mm := by
  unfold f_X10_examiner at hm
  refine fr_cal hm (fun _ _ h => fr_X0_trier h) (fun x2 m1 hm => ?_)
  exact fr_ret hm
set_option maxRecDepth 4000 in
theorem fr_X10_log {S : Nat → Nat → Bool} {m mm : Sg} {r : Int32} {a1 : Int32} {a2 : Int32} (hm : f_X10_log  m a1 a2 = some (r, mm)) : Fr S m mm := by
  unfold f_X10_log at hm
  refine fr_if hm (fun hm => ?_) (fun hm => ?_)
  · skip
    exact fr_ret hm
  · skip
    refine fr_cal hm (fun _ _ h => fr_X7_logLength h) (fun x2 m1 hm => ?_)
    refine fr_if hm (fun hm => ?_) (fun hm => ?_)
    · skip
      exact fr_ret hm
    · skip
      refine fr_if hm (fun hm => ?_) (fun hm => ?_)
      · skip
        exact fr_ret hm
      · skip
        refine fr_if hm (fun hm => ?_) (fun hm => ?_)
        · skip
          refine fr_cal hm (fun _ _ h => fr_X0_cell h) (fun x4 m3 hm => ?_)
          refine fr_cal hm (fun _ _ h => fr_X7_logged h) (fun x6 m5 hm => ?_)
          exact fr_ret hm
        · skip
          exact fr_ret hm
set_option maxRecDepth 4000 in
theorem fr_X10_count {S : Nat → Nat → Bool} {m mm : Sg} {r : Int32} {a1 : Int32} (hm : f_X10_count  m a1 = some (r, mm)) : Fr S m mm := by
  unfold f_X10_count at hm
  refine fr_if hm (fun hm => ?_) (fun hm => ?_)
  · skip
    refine fr_cal hm (fun _ _ h => fr_X0_children h) (fun x2 m1 hm => ?_)
    exact fr_ret hm
  · refine fr_if hm (fun hm => ?_) (fun hm => ?_)
    · skip
      refine fr_cal hm (fun _ _ h => fr_X0_elders h) (fun x4 m3 hm => ?_)
      exact fr_ret hm
    · refine fr_if hm (fun hm => ?_) (fun hm => ?_)
      · skip
        refine fr_cal hm (fun _ _ h => fr_X5_size h) (fun x6 m5 hm => ?_)
        exact fr_ret hm
      · refine fr_if hm (fun hm => ?_) (fun hm => ?_)
        · skip
          refine fr_cal hm (fun _ _ h => fr_X9_size h) (fun x8 m7 hm => ?_)
          exact fr_ret hm
        · refine fr_if hm (fun hm => ?_) (fun hm => ?_)
          · skip
            refine fr_cal hm (fun _ _ h => fr_X5_holding h) (fun x10 m9 hm => ?_)
            exact fr_ret hm
          · refine fr_if hm (fun hm => ?_) (fun hm => ?_)
            · skip
              refine fr_cal hm (fun _ _ h => fr_X0_cell h) (fun x12 m11 hm => ?_)
              exact fr_ret hm
            · refine fr_if hm (fun hm => ?_) (fun hm => ?_)
              · skip
                refine fr_cal hm (fun _ _ h => fr_X0_ruler h) (fun x14 m13 hm => ?_)
                exact fr_ret hm
              · refine fr_if hm (fun hm => ?_) (fun hm => ?_)
                · skip
                  refine fr_cal hm (fun _ _ h => fr_X0_cell h) (fun x16 m15 hm => ?_)
                  exact fr_ret hm
                · refine fr_if hm (fun hm => ?_) (fun hm => ?_)
                  · skip
                    exact fr_ret hm
                  · refine fr_if hm (fun hm => ?_) (fun hm => ?_)
                    · skip
                      refine fr_cal hm (fun _ _ h => fr_X0_ruler h) (fun x18 m17 hm => ?_)
                      refine fr_fi hm (fun hm => ?_) (fun hm => ?_)
                      · skip
                        refine fr_cal hm (fun _ _ h => fr_X0_ruler h) (fun x20 m19 hm => ?_)
                        refine fr_cal hm (fun _ _ h => fr_X0_countOf h) (fun x22 m21 hm => ?_)
                        exact fr_ret hm
                      · skip
                        exact fr_ret hm
                    · refine fr_if hm (fun hm => ?_) (fun hm => ?_)
                      · skip
                        refine fr_cal hm (fun _ _ h => fr_X7_logLength h) (fun x24 m23 hm => ?_)
                        exact fr_ret hm
                      · refine fr_if hm (fun hm => ?_) (fun hm => ?_)
                        · skip
                          refine fr_cal hm (fun _ _ h => fr_X7_acts h) (fun x26 m25 hm => ?_)
                          exact fr_ret hm
                        · skip
                          exact fr_ret hm
set_option maxRecDepth 4000 in
theorem fr_X10_undo {S : Nat → Nat → Bool} {m mm : Sg} {r : Int32} (s_4 : ∀ k, S 4 k = true) (s_16_4 : S 16 4 = true) (s_16_5 : S 16 5 = true) (hm : f_X10_undo  m  = some (r, mm)) : Fr S m mm := by
  unfold f_X10_undo at hm
  refine fr_cal hm (fun _ _ h => fr_X7_acts h) (fun x2 m1 hm => ?_)
  refine fr_fi hm (fun hm => ?_) (fun hm => ?_)
  · skip
    refine fr_calv hm (fun _ h => fr_X7_recall (by first | exact s_4 _ | assumption) (by first | exact s_4 _ | assumption) (by first | exact s_4 _ | assumption) h) (fun m3 hm => ?_)
    refine fr_cal hm (fun _ _ h => fr_X7_acts h) (fun x5 m4 hm => ?_)
    exact fr_ret hm
  · skip
    exact fr_ret hm
set_option maxRecDepth 4000 in
theorem fr_X10_image {S : Nat → Nat → Bool} {m mm : Sg} {r : Int32} (s_16_6 : S 16 6 = true) (s_19 : ∀ k, S 19 k = true) (s_20 : ∀ k, S 20 k = true) (hm : f_X10_image  m  = some (r, mm)) : Fr S m mm := by
  unfold f_X10_image at hm
  refine fr_cal hm (fun _ _ h => fr_X0_isTold h) (fun x2 m1 hm => ?_)
  refine fr_fi hm (fun hm => ?_) (fun hm => ?_)
  · skip
    refine fr_calv hm (fun _ h => fr_X7_paint (by first | exact s_19 _ | exact s_20 _ | assumption) (by first | exact s_19 _ | exact s_20 _ | assumption) (by first | exact s_19 _ | exact s_20 _ | assumption) h) (fun m3 hm => ?_)
    refine fr_cal hm (fun _ _ h => fr_X0_cell h) (fun x5 m4 hm => ?_)
    exact fr_ret hm
  · skip
    exact fr_ret hm
set_option maxRecDepth 4000 in
theorem fr_X10_back {S : Nat → Nat → Bool} {m mm : Sg} {r : Int32} (s_4 : ∀ k, S 4 k = true) (s_16_5 : S 16 5 = true) (s_18 : ∀ k, S 18 k = true) (hm : f_X10_back  m  = some (r, mm)) : Fr S m mm := by
  unfold f_X10_back at hm
  refine fr_cal hm (fun _ _ h => fr_X7_hasImage h) (fun x2 m1 hm => ?_)
  refine fr_fi hm (fun hm => ?_) (fun hm => ?_)
  · skip
    refine fr_calv hm (fun _ h => fr_X7_restore (by first | exact s_4 _ | exact s_18 _ | assumption) (by first | exact s_4 _ | exact s_18 _ | assumption) (by first | exact s_4 _ | exact s_18 _ | assumption) h) (fun m3 hm => ?_)
    refine fr_cal hm (fun _ _ h => fr_X0_cell h) (fun x5 m4 hm => ?_)
    exact fr_ret hm
  · skip
    exact fr_ret hm
set_option maxRecDepth 4000 in
theorem fr_X10_draw {S : Nat → Nat → Bool} {m mm : Sg} {r : Int32} {a1 : Int32} (l_0 : S 0 1000000 = true) (hm : f_X10_draw  m a1 = some (r, mm)) : Fr S m mm := by
  unfold f_X10_draw at hm
  refine fr_wrl hm (by first | assumption) (fun m1 hm => ?_)
  refine fr_if hm (fun hm => ?_) (fun hm => ?_)
  · skip
    exact fr_ret hm
  · skip
    refine fr_n hm (fun hm => ?_)
    exact fr_ret hm
set_option maxRecDepth 4000 in
theorem fr_X10_plan {S : Nat → Nat → Bool} {m mm : Sg} {r : Int32} {a1 : Int32} {a2 : Int32} {a3 : Int32} (s_6 : ∀ k, S 6 k = true) (s_23_6 : S 23 6 = true) (s_23_7 : S 23 7 = true) (s_23_8 : S 23 8 = true) (s_24 : ∀ k, S 24 k = true) (s_25 : ∀ k, S 25 k = true) (hm : f_X10_plan  m a1 a2 a3 = some (r, mm)) : Fr S m mm := by
  unfold f_X10_plan at hm
  refine fr_cal hm (fun _ _ h => fr_X0_hasChild h) (fun x2 m1 hm => ?_)
  refine fr_if hm (fun hm => ?_) (fun hm => ?_)
  · skip
    exact fr_ret hm
  · skip
    refine fr_if hm (fun hm => ?_) (fun hm => ?_)
    · skip
      exact fr_ret hm
    · skip
      refine fr_if hm (fun hm => ?_) (fun hm => ?_)
      · skip
        exact fr_ret hm
      · skip
        refine fr_if hm (fun hm => ?_) (fun hm => ?_)
        · skip
          exact fr_ret hm
        · skip
          refine fr_if hm (fun hm => ?_) (fun hm => ?_)
          · skip
            refine fr_cal hm (fun _ _ h => fr_X0_kid h) (fun x4 m3 hm => ?_)
            refine fr_if hm (fun hm => ?_) (fun hm => ?_)
            · skip
              refine fr_calv hm (fun _ h => fr_X3_seekRow (by first | exact s_6 _ | exact s_24 _ | exact s_25 _ | assumption) (by first | exact s_6 _ | exact s_24 _ | exact s_25 _ | assumption) (by first | exact s_6 _ | exact s_24 _ | exact s_25 _ | assumption) (by first | exact s_6 _ | exact s_24 _ | exact s_25 _ | assumption) (by first | exact s_6 _ | exact s_24 _ | exact s_25 _ | assumption) (by first | exact s_6 _ | exact s_24 _ | exact s_25 _ | assumption) h) (fun m5 hm => ?_)
              refine fr_fi hm (fun hm => ?_) (fun hm => ?_)
              · skip
                refine fr_fi hm (fun hm => ?_) (fun hm => ?_)
                · skip
                  refine fr_cal hm (fun _ _ h => fr_X3_bestLength h) (fun x7 m6 hm => ?_)
                  exact fr_ret hm
                · skip
                  refine fr_cal hm (fun _ _ h => fr_X3_bestMonths h) (fun x9 m8 hm => ?_)
                  exact fr_ret hm
              · skip
                refine fr_cal hm (fun _ _ h => fr_X3_bestRow h) (fun x11 m10 hm => ?_)
                exact fr_ret hm
            · skip
              exact fr_ret hm
          · skip
            exact fr_ret hm
set_option maxRecDepth 4000 in
theorem fr_X10_late {S : Nat → Nat → Bool} {m mm : Sg} {r : Int32} (s_6 : ∀ k, S 6 k = true) (hm : f_X10_late  m  = some (r, mm)) : Fr S m mm := by
  unfold f_X10_late at hm
  refine fr_cal hm (fun _ _ h => fr_X0_isTold h) (fun x2 m1 hm => ?_)
  refine fr_if hm (fun hm => ?_) (fun hm => ?_)
  · skip
    exact fr_ret hm
  · skip
    refine fr_cal hm (fun _ _ h => fr_X3_monthsOfTrials (by first | exact s_6 _ | assumption) h) (fun x4 m3 hm => ?_)
    exact fr_ret hm
set_option maxRecDepth 4000 in
theorem fr_X10_plums {S : Nat → Nat → Bool} {m mm : Sg} {r : Int32} {a1 : Int32} (hm : f_X10_plums  m a1 = some (r, mm)) : Fr S m mm := by
  unfold f_X10_plums at hm
  refine fr_cal hm (fun _ _ h => fr_X0_trier h) (fun x2 m1 hm => ?_)
  refine g_jn (J := fun (s : Sg) => Fr S s mm) hm ?_ ?_
  · intro m3 hm
    exact fr_ret hm
  · intro k4 hk4 hm
    refine fr_if hm (fun hm => ?_) (fun hm => ?_)
    · skip
      exact hk4 _ hm
    · skip
      refine fr_cal hm (fun _ _ h => fr_X0_hasChild h) (fun x6 m5 hm => ?_)
      refine fr_fi hm (fun hm => ?_) (fun hm => ?_)
      · skip
        refine fr_cal hm (fun _ _ h => fr_X0_plumsToStand h) (fun x8 m7 hm => ?_)
        exact fr_ret hm
      · skip
        exact hk4 _ hm
set_option maxRecDepth 4000 in
theorem fr_X10_teachers {S : Nat → Nat → Bool} {m mm : Sg} {r : Int32} {a1 : Int32} {a2 : Int32} (hm : f_X10_teachers  m a1 a2 = some (r, mm)) : Fr S m mm := by
  unfold f_X10_teachers at hm
  refine fr_cal hm (fun _ _ h => fr_X0_hasChild h) (fun x2 m1 hm => ?_)
  refine fr_if hm (fun hm => ?_) (fun hm => ?_)
  · skip
    exact fr_ret hm
  · skip
    refine fr_if hm (fun hm => ?_) (fun hm => ?_)
    · skip
      exact fr_ret hm
    · skip
      refine fr_cal hm (fun _ _ h => fr_X8_teachersAt h) (fun x4 m3 hm => ?_)
      exact fr_ret hm
set_option maxRecDepth 4000 in
theorem fr_X10_spans {S : Nat → Nat → Bool} {m mm : Sg} {r : Int32} {a1 : Int32} {a2 : Int32} {nl : Nat} {ln : Nat → Nat} (s_15 : ∀ k, S 15 k = true) (hL : ∀ p k, 45 ≤ p → p % 3 ≠ 1 → S p k = true) (hm : f_X10_spans nl ln  m a1 a2 = some (r, mm)) : Fr S m mm := by
  unfold f_X10_spans at hm
  refine fr_cal hm (fun _ _ h => fr_X0_hasChild h) (fun x2 m1 hm => ?_)
  refine fr_if hm (fun hm => ?_) (fun hm => ?_)
  · skip
    exact fr_ret hm
  · skip
    refine fr_if hm (fun hm => ?_) (fun hm => ?_)
    · skip
      exact fr_ret hm
    · skip
      refine fr_if hm (fun hm => ?_) (fun hm => ?_)
      · skip
        refine g_lp (I := fun (s : Sg × Int32 × Int32) => Fr S s.1 mm) (E := fun (s : Sg × Int32) => Fr S s.1 mm) hm ?_ ?_
        · rintro ⟨m6, x7⟩ hm
          (try dsimp only at hm)
          (try dsimp only)
          exact fr_ret hm
        · rintro ⟨m3, x4, x5⟩ o hm hx9 hi8
          (try dsimp only [f_X10_spans_L28] at hm)
          (try dsimp only)
          refine fr_if hm (fun hm => ?_) (fun hm => ?_)
          · skip
            cases hm
            exact hx9 _ rfl
          · skip
            refine fr_cal hm (fun _ _ h => fr_X5_taxAtCount (by first | exact s_15 _ | exact fun k => hL _ k (by omega) (by omega) | exact hL _ _ (by omega) (by omega) | assumption) (by first | exact s_15 _ | exact fun k => hL _ k (by omega) (by omega) | exact hL _ _ (by omega) (by omega) | assumption) h) (fun x11 m10 hm => ?_)
            refine g_jn (J := fun (s : Sg × Int32) => Fr S s.1 mm) hm ?_ ?_
            · rintro ⟨m12, x13⟩ hm
              (try dsimp only at hm)
              (try dsimp only)
              refine fr_b hm (fun x15 hm => ?_)
              cases hm
              exact hi8 _ rfl
            · intro k14 hk14 hm
              refine fr_fi hm (fun hm => ?_) (fun hm => ?_)
              · exact hk14 _ hm
              · skip
                refine fr_b hm (fun x16 hm => ?_)
                exact hk14 _ hm
      · skip
        exact fr_ret hm
set_option maxRecDepth 4000 in
theorem fr_X10_threes {S : Nat → Nat → Bool} {m mm : Sg} {r : Int32} (hm : f_X10_threes  m  = some (r, mm)) : Fr S m mm := by
  unfold f_X10_threes at hm
  refine fr_cal hm (fun _ _ h => fr_X0_trier h) (fun x2 m1 hm => ?_)
  refine fr_fi hm (fun hm => ?_) (fun hm => ?_)
  · skip
    refine fr_cal hm (fun _ _ h => fr_X8_onlyByTheirSteps h) (fun x4 m3 hm => ?_)
    exact fr_ret hm
  · skip
    exact fr_ret hm
set_option maxRecDepth 4000 in
theorem fr_X10_party {S : Nat → Nat → Bool} {m mm : Sg} {r : Int32} {a1 : Int32} (hm : f_X10_party  m a1 = some (r, mm)) : Fr S m mm := by
  unfold f_X10_party at hm
  refine fr_cal hm (fun _ _ h => fr_X0_isTold h) (fun x2 m1 hm => ?_)
  refine fr_if hm (fun hm => ?_) (fun hm => ?_)
  · skip
    exact fr_ret hm
  · skip
    refine fr_cal hm (fun _ _ h => fr_X0_isNursery h) (fun x4 m3 hm => ?_)
    refine fr_if hm (fun hm => ?_) (fun hm => ?_)
    · skip
      exact fr_ret hm
    · skip
      refine fr_cal hm (fun _ _ h => fr_X8_rightInNursery h) (fun x6 m5 hm => ?_)
      exact fr_ret hm
set_option maxRecDepth 4000 in
theorem fr_X10_heir {S : Nat → Nat → Bool} {m mm : Sg} {r : Int32} (hm : f_X10_heir  m  = some (r, mm)) : Fr S m mm := by
  unfold f_X10_heir at hm
  refine fr_cal hm (fun _ _ h => fr_X0_trier h) (fun x2 m1 hm => ?_)
  refine fr_fi hm (fun hm => ?_) (fun hm => ?_)
  · skip
    refine fr_cal hm (fun _ _ h => fr_X0_askedBy h) (fun x4 m3 hm => ?_)
    refine fr_cal hm (fun _ _ h => fr_X0_ruler h) (fun x6 m5 hm => ?_)
    refine fr_cal hm (fun _ _ h => fr_X0_claimant h) (fun x8 m7 hm => ?_)
    exact fr_ret hm
  · skip
    exact fr_ret hm
set_option maxRecDepth 4000 in
theorem fr_X10_before {S : Nat → Nat → Bool} {m mm : Sg} {r : Int32} {a1 : Int32} (hm : f_X10_before  m a1 = some (r, mm)) : Fr S m mm := by
  unfold f_X10_before at hm
  refine fr_cal hm (fun _ _ h => fr_X0_hasChild h) (fun x2 m1 hm => ?_)
  refine fr_if hm (fun hm => ?_) (fun hm => ?_)
  · skip
    exact fr_ret hm
  · skip
    refine fr_cal hm (fun _ _ h => fr_X8_eldersSatisfied h) (fun x4 m3 hm => ?_)
    exact fr_ret hm
set_option maxRecDepth 4000 in
theorem fr_X10_without {S : Nat → Nat → Bool} {m mm : Sg} {r : Int32} {a1 : Int32} (hm : f_X10_without  m a1 = some (r, mm)) : Fr S m mm := by
  unfold f_X10_without at hm
  refine fr_cal hm (fun _ _ h => fr_X0_hasChild h) (fun x2 m1 hm => ?_)
  refine fr_if hm (fun hm => ?_) (fun hm => ?_)
  · skip
    exact fr_ret hm
  · skip
    refine fr_cal hm (fun _ _ h => fr_X8_fewestAbsent h) (fun x4 m3 hm => ?_)
    exact fr_ret hm
set_option maxRecDepth 4000 in
theorem fr_X10_spoil {S : Nat → Nat → Bool} {m mm : Sg} {r : Int32} {a1 : Int32} (hm : f_X10_spoil  m a1 = some (r, mm)) : Fr S m mm := by
  unfold f_X10_spoil at hm
  refine fr_cal hm (fun _ _ h => fr_X0_trier h) (fun x2 m1 hm => ?_)
  refine fr_if hm (fun hm => ?_) (fun hm => ?_)
  · skip
    exact fr_ret hm
  · skip
    refine fr_cal hm (fun _ _ h => fr_X0_hasChild h) (fun x4 m3 hm => ?_)
    refine fr_if hm (fun hm => ?_) (fun hm => ?_)
    · skip
      exact fr_ret hm
    · skip
      refine fr_cal hm (fun _ _ h => fr_X0_stands h) (fun x6 m5 hm => ?_)
      refine fr_fi hm (fun hm => ?_) (fun hm => ?_)
      · skip
        refine fr_cal hm (fun _ _ h => fr_X0_askedBy h) (fun x8 m7 hm => ?_)
        refine fr_cal hm (fun _ _ h => fr_X0_askedOf h) (fun x10 m9 hm => ?_)
        refine fr_cal hm (fun _ _ h => fr_X0_lowestTen h) (fun x12 m11 hm => ?_)
        exact fr_ret hm
      · skip
        exact fr_ret hm
set_option maxRecDepth 4000 in
theorem fr_X10_soon {S : Nat → Nat → Bool} {m mm : Sg} {r : Int32} {a1 : Int32} (hm : f_X10_soon  m a1 = some (r, mm)) : Fr S m mm := by
  unfold f_X10_soon at hm
  refine fr_cal hm (fun _ _ h => fr_X0_trier h) (fun x2 m1 hm => ?_)
  refine g_jn (J := fun (s : Sg) => Fr S s mm) hm ?_ ?_
  · intro m3 hm
    exact fr_ret hm
  · intro k4 hk4 hm
    refine fr_if hm (fun hm => ?_) (fun hm => ?_)
    · skip
      exact hk4 _ hm
    · skip
      refine fr_cal hm (fun _ _ h => fr_X0_hasChild h) (fun x6 m5 hm => ?_)
      refine fr_fi hm (fun hm => ?_) (fun hm => ?_)
      · skip
        refine fr_cal hm (fun _ _ h => fr_X0_monthsToStand h) (fun x8 m7 hm => ?_)
        exact fr_ret hm
      · skip
        exact hk4 _ hm
set_option maxRecDepth 4000 in
theorem fr_X10_fevered {S : Nat → Nat → Bool} {m mm : Sg} {r : Int32} (hm : f_X10_fevered  m  = some (r, mm)) : Fr S m mm := by
  unfold f_X10_fevered at hm
  refine fr_cal hm (fun _ _ h => fr_X0_trier h) (fun x2 m1 hm => ?_)
  refine fr_fi hm (fun hm => ?_) (fun hm => ?_)
  · skip
    refine fr_cal hm (fun _ _ h => fr_X8_standingFevered h) (fun x4 m3 hm => ?_)
    exact fr_ret hm
  · skip
    exact fr_ret hm
set_option maxRecDepth 4000 in
theorem fr_X10_youngest {S : Nat → Nat → Bool} {m mm : Sg} {r : Int32} {a1 : Int32} (hm : f_X10_youngest  m a1 = some (r, mm)) : Fr S m mm := by
  unfold f_X10_youngest at hm
  refine fr_cal hm (fun _ _ h => fr_X8_inOrderOfAge h) (fun x2 m1 hm => ?_)
  exact fr_ret hm
set_option maxRecDepth 4000 in
theorem fr_X10_rivals {S : Nat → Nat → Bool} {m mm : Sg} {r : Int32} {a1 : Int32} (hm : f_X10_rivals  m a1 = some (r, mm)) : Fr S m mm := by
  unfold f_X10_rivals at hm
  refine fr_cal hm (fun _ _ h => fr_X0_trier h) (fun x2 m1 hm => ?_)
  refine g_jn (J := fun (s : Sg) => Fr S s mm) hm ?_ ?_
  · intro m3 hm
    exact fr_ret hm
  · intro k4 hk4 hm
    refine fr_if hm (fun hm => ?_) (fun hm => ?_)
    · skip
      exact hk4 _ hm
    · skip
      refine fr_cal hm (fun _ _ h => fr_X0_hasChild h) (fun x6 m5 hm => ?_)
      refine fr_fi hm (fun hm => ?_) (fun hm => ?_)
      · skip
        refine fr_cal hm (fun _ _ h => fr_X8_youngerStanding h) (fun x8 m7 hm => ?_)
        exact fr_ret hm
      · skip
        exact hk4 _ hm
set_option maxRecDepth 4000 in
theorem fr_X10_forgotten {S : Nat → Nat → Bool} {m mm : Sg} {r : Int32} (hm : f_X10_forgotten  m  = some (r, mm)) : Fr S m mm := by
  unfold f_X10_forgotten at hm
  refine fr_cal hm (fun _ _ h => fr_X0_isTold h) (fun x2 m1 hm => ?_)
  refine fr_if hm (fun hm => ?_) (fun hm => ?_)
  · skip
    exact fr_ret hm
  · skip
    refine fr_cal hm (fun _ _ h => fr_X8_unknownToElders h) (fun x4 m3 hm => ?_)
    exact fr_ret hm
set_option maxRecDepth 4000 in
theorem fr_X10_hasChildAndTen {S : Nat → Nat → Bool} {m mm : Sg} {r : Int32} {a1 : Int32} {a2 : Int32} (hm : f_X10_hasChildAndTen  m a1 a2 = some (r, mm)) : Fr S m mm := by
  unfold f_X10_hasChildAndTen at hm
  refine fr_cal hm (fun _ _ h => fr_X0_hasChild h) (fun x2 m1 hm => ?_)
  refine fr_if hm (fun hm => ?_) (fun hm => ?_)
  · skip
    exact fr_ret hm
  · skip
    refine fr_if hm (fun hm => ?_) (fun hm => ?_)
    · skip
      exact fr_ret hm
    · skip
      refine fr_if hm (fun hm => ?_) (fun hm => ?_)
      · skip
        exact fr_ret hm
      · skip
        exact fr_ret hm
set_option maxRecDepth 4000 in
theorem fr_X10_isOneOfTwo {S : Nat → Nat → Bool} {m mm : Sg} {r : Int32} {a1 : Int32} (hm : f_X10_isOneOfTwo  m a1 = some (r, mm)) : Fr S m mm := by
  unfold f_X10_isOneOfTwo at hm
  refine g_jn (J := fun (s : Sg) => Fr S s mm) hm ?_ ?_
  · intro m1 hm
    exact fr_ret hm
  · intro k2 hk2 hm
    refine fr_if hm (fun hm => ?_) (fun hm => ?_)
    · skip
      exact hk2 _ hm
    · skip
      refine fr_fi hm (fun hm => ?_) (fun hm => ?_)
      · skip
        exact fr_ret hm
      · skip
        exact hk2 _ hm
set_option maxRecDepth 4000 in
theorem fr_X10_areTwoNurseries {S : Nat → Nat → Bool} {m mm : Sg} {r : Int32} {a1 : Int32} {a2 : Int32} (hm : f_X10_areTwoNurseries  m a1 a2 = some (r, mm)) : Fr S m mm := by
  unfold f_X10_areTwoNurseries at hm
  refine fr_cal hm (fun _ _ h => fr_X0_isNursery h) (fun x2 m1 hm => ?_)
  refine fr_if hm (fun hm => ?_) (fun hm => ?_)
  · skip
    exact fr_ret hm
  · skip
    refine fr_cal hm (fun _ _ h => fr_X0_isNursery h) (fun x4 m3 hm => ?_)
    refine fr_if hm (fun hm => ?_) (fun hm => ?_)
    · skip
      exact fr_ret hm
    · skip
      refine fr_if hm (fun hm => ?_) (fun hm => ?_)
      · skip
        exact fr_ret hm
      · skip
        exact fr_ret hm
set_option maxRecDepth 4000 in
theorem fr_X10_teach {S : Nat → Nat → Bool} {m mm : Sg} {r : Int32} {a1 : Int32} {a2 : Int32} (s_4 : ∀ k, S 4 k = true) (s_16_4 : S 16 4 = true) (s_16_5 : S 16 5 = true) (s_17 : ∀ k, S 17 k = true) (hm : f_X10_teach  m a1 a2 = some (r, mm)) : Fr S m mm := by
  unfold f_X10_teach at hm
  refine fr_cal hm (fun _ _ h => fr_X10_hasChildAndTen h) (fun x2 m1 hm => ?_)
  refine fr_if hm (fun hm => ?_) (fun hm => ?_)
  · skip
    exact fr_ret hm
  · skip
    refine fr_cal hm (fun _ _ h => fr_X0_kid h) (fun x4 m3 hm => ?_)
    refine fr_if hm (fun hm => ?_) (fun hm => ?_)
    · skip
      refine fr_cal hm (fun _ _ h => fr_X0_bit h) (fun x6 m5 hm => ?_)
      refine fr_fi hm (fun hm => ?_) (fun hm => ?_)
      · skip
        exact fr_ret hm
      · skip
        refine fr_cal hm (fun _ _ h => fr_X0_isRight h) (fun x8 m7 hm => ?_)
        refine fr_if hm (fun hm => ?_) (fun hm => ?_)
        · skip
          refine fr_calv hm (fun _ h => fr_X7_remember (by first | exact s_4 _ | exact s_17 _ | assumption) (by first | exact s_4 _ | exact s_17 _ | assumption) (by first | exact s_4 _ | exact s_17 _ | assumption) h) (fun m9 hm => ?_)
          refine fr_calv hm (fun _ h => fr_X0_beginLesson (by first | exact s_4 _ | exact s_17 _ | assumption) h) (fun m10 hm => ?_)
          refine fr_cal hm (fun _ _ h => fr_X7_acts h) (fun x12 m11 hm => ?_)
          exact fr_ret hm
        · skip
          exact fr_ret hm
    · skip
      exact fr_ret hm
set_option maxRecDepth 4000 in
theorem fr_X10_wrong {S : Nat → Nat → Bool} {m mm : Sg} {r : Int32} {a1 : Int32} {a2 : Int32} (s_4 : ∀ k, S 4 k = true) (s_16_4 : S 16 4 = true) (s_16_5 : S 16 5 = true) (s_17 : ∀ k, S 17 k = true) (hm : f_X10_wrong  m a1 a2 = some (r, mm)) : Fr S m mm := by
  unfold f_X10_wrong at hm
  refine fr_cal hm (fun _ _ h => fr_X10_hasChildAndTen h) (fun x2 m1 hm => ?_)
  refine fr_if hm (fun hm => ?_) (fun hm => ?_)
  · skip
    exact fr_ret hm
  · skip
    refine fr_cal hm (fun _ _ h => fr_X0_bit h) (fun x4 m3 hm => ?_)
    refine fr_if hm (fun hm => ?_) (fun hm => ?_)
    · skip
      refine fr_calv hm (fun _ h => fr_X7_remember (by first | exact s_4 _ | exact s_17 _ | assumption) (by first | exact s_4 _ | exact s_17 _ | assumption) (by first | exact s_4 _ | exact s_17 _ | assumption) h) (fun m5 hm => ?_)
      refine fr_calv hm (fun _ h => fr_X0_setBit (by first | exact s_4 _ | exact s_17 _ | assumption) h) (fun m6 hm => ?_)
      refine fr_cal hm (fun _ _ h => fr_X7_acts h) (fun x8 m7 hm => ?_)
      exact fr_ret hm
    · skip
      exact fr_ret hm
set_option maxRecDepth 4000 in
theorem fr_X10_keep {S : Nat → Nat → Bool} {m mm : Sg} {r : Int32} {a1 : Int32} {a2 : Int32} {a3 : Int32} (s_4 : ∀ k, S 4 k = true) (s_16_4 : S 16 4 = true) (s_16_5 : S 16 5 = true) (s_17 : ∀ k, S 17 k = true) (hm : f_X10_keep  m a1 a2 a3 = some (r, mm)) : Fr S m mm := by
  unfold f_X10_keep at hm
  refine fr_cal hm (fun _ _ h => fr_X10_hasChildAndTen h) (fun x2 m1 hm => ?_)
  refine fr_if hm (fun hm => ?_) (fun hm => ?_)
  · skip
    exact fr_ret hm
  · skip
    refine fr_cal hm (fun _ _ h => fr_X0_bit h) (fun x4 m3 hm => ?_)
    refine fr_fi hm (fun hm => ?_) (fun hm => ?_)
    · skip
      refine fr_calv hm (fun _ h => fr_X7_remember (by first | exact s_4 _ | exact s_17 _ | assumption) (by first | exact s_4 _ | exact s_17 _ | assumption) (by first | exact s_4 _ | exact s_17 _ | assumption) h) (fun m5 hm => ?_)
      refine fr_calv hm (fun _ h => fr_X0_setKept (by first | exact s_4 _ | exact s_17 _ | assumption) h) (fun m6 hm => ?_)
      refine fr_cal hm (fun _ _ h => fr_X7_acts h) (fun x8 m7 hm => ?_)
      exact fr_ret hm
    · skip
      exact fr_ret hm
set_option maxRecDepth 4000 in
theorem fr_X10_buy {S : Nat → Nat → Bool} {m mm : Sg} {r : Int32} {a1 : Int32} {a2 : Int32} (s_4 : ∀ k, S 4 k = true) (s_16_4 : S 16 4 = true) (s_16_5 : S 16 5 = true) (s_17 : ∀ k, S 17 k = true) (hm : f_X10_buy  m a1 a2 = some (r, mm)) : Fr S m mm := by
  unfold f_X10_buy at hm
  refine fr_cal hm (fun _ _ h => fr_X10_hasChildAndTen h) (fun x2 m1 hm => ?_)
  refine fr_if hm (fun hm => ?_) (fun hm => ?_)
  · skip
    exact fr_ret hm
  · skip
    refine fr_cal hm (fun _ _ h => fr_X0_isRight h) (fun x4 m3 hm => ?_)
    refine fr_if hm (fun hm => ?_) (fun hm => ?_)
    · skip
      refine fr_cal hm (fun _ _ h => fr_X0_cell h) (fun x6 m5 hm => ?_)
      refine fr_cal hm (fun _ _ h => fr_X0_cell h) (fun x8 m7 hm => ?_)
      refine fr_b hm (fun x9 hm => ?_)
      refine fr_if hm (fun hm => ?_) (fun hm => ?_)
      · skip
        refine fr_calv hm (fun _ h => fr_X7_remember (by first | exact s_4 _ | exact s_17 _ | assumption) (by first | exact s_4 _ | exact s_17 _ | assumption) (by first | exact s_4 _ | exact s_17 _ | assumption) h) (fun m10 hm => ?_)
        refine fr_calv hm (fun _ h => fr_X0_put (by first | exact s_4 _ | exact s_17 _ | assumption) h) (fun m11 hm => ?_)
        refine fr_calv hm (fun _ h => fr_X0_makeRight (by first | exact s_4 _ | exact s_17 _ | assumption) h) (fun m12 hm => ?_)
        exact fr_ret hm
      · skip
        exact fr_ret hm
    · skip
      exact fr_ret hm
set_option maxRecDepth 4000 in
theorem fr_X10_spreadFever {S : Nat → Nat → Bool} {m mm : Sg} (l_0 : S 0 1000000 = true) (s_4 : ∀ k, S 4 k = true) (hm : f_X10_spreadFever  m  = some mm) : Fr S m mm := by
  unfold f_X10_spreadFever at hm
  refine g_lp (I := fun (s : Sg × Int32) => Fr S s.1 mm) (E := fun (s : Sg) => Fr S s mm) hm ?_ ?_
  · rintro m3 hm
    (try dsimp only at hm)
    (try dsimp only)
    exact fr_retv hm
  · rintro ⟨m1, x2⟩ o hm hx5 hi4
    (try dsimp only [f_X10_spreadFever_L2] at hm)
    (try dsimp only)
    refine fr_cal hm (fun _ _ h => fr_X0_children h) (fun x7 m6 hm => ?_)
    refine fr_if hm (fun hm => ?_) (fun hm => ?_)
    · skip
      cases hm
      exact hx5 _ rfl
    · skip
      refine fr_cal hm (fun _ _ h => fr_X10_draw (by first | exact s_4 _ | assumption) h) (fun x9 m8 hm => ?_)
      refine g_jn (J := fun (s : Sg) => Fr S s mm) hm ?_ ?_
      · intro m10 hm
        refine fr_b hm (fun x12 hm => ?_)
        cases hm
        exact hi4 _ rfl
      · intro k11 hk11 hm
        refine fr_if hm (fun hm => ?_) (fun hm => ?_)
        · exact hk11 _ hm
        · skip
          refine fr_calv hm (fun _ h => fr_X0_setBit (by first | exact s_4 _ | assumption) h) (fun m13 hm => ?_)
          exact hk11 _ hm
set_option maxRecDepth 4000 in
theorem fr_X10_ahead {S : Nat → Nat → Bool} {m mm : Sg} {r : Int32} {a1 : Int32} {a2 : Int32} {nl : Nat} {ln : Nat → Nat} (s_6 : ∀ k, S 6 k = true) (s_15 : ∀ k, S 15 k = true) (hL : ∀ p k, 45 ≤ p → p % 3 ≠ 1 → S p k = true) (hm : f_X10_ahead nl ln  m a1 a2 = some (r, mm)) : Fr S m mm := by
  unfold f_X10_ahead at hm
  refine fr_cal hm (fun _ _ h => fr_X0_isTold h) (fun x2 m1 hm => ?_)
  refine fr_if hm (fun hm => ?_) (fun hm => ?_)
  · skip
    exact fr_ret hm
  · skip
    refine fr_if hm (fun hm => ?_) (fun hm => ?_)
    · skip
      exact fr_ret hm
    · skip
      refine fr_if hm (fun hm => ?_) (fun hm => ?_)
      · skip
        exact fr_ret hm
      · skip
        refine fr_cal hm (fun _ _ h => fr_X10_isOneOfTwo h) (fun x4 m3 hm => ?_)
        refine fr_fi hm (fun hm => ?_) (fun hm => ?_)
        · skip
          refine fr_cal hm (fun _ _ h => fr_X5_holding h) (fun x6 m5 hm => ?_)
          refine fr_calv hm (fun _ h => fr_X3_goOn (by first | exact s_6 _ | exact s_15 _ | exact fun k => hL _ k (by omega) (by omega) | exact hL _ _ (by omega) (by omega) | assumption) (by first | exact s_6 _ | exact s_15 _ | exact fun k => hL _ k (by omega) (by omega) | exact hL _ _ (by omega) (by omega) | assumption) (by first | exact s_6 _ | exact s_15 _ | exact fun k => hL _ k (by omega) (by omega) | exact hL _ _ (by omega) (by omega) | assumption) h) (fun m7 hm => ?_)
          refine fr_fi hm (fun hm => ?_) (fun hm => ?_)
          · skip
            refine fr_cal hm (fun _ _ h => fr_X0_cell h) (fun x9 m8 hm => ?_)
            exact fr_ret hm
          · skip
            refine fr_cal hm (fun _ _ h => fr_X0_ruler h) (fun x11 m10 hm => ?_)
            exact fr_ret hm
        · skip
          exact fr_ret hm
set_option maxRecDepth 4000 in
theorem fr_X10_reign {S : Nat → Nat → Bool} {m mm : Sg} {r : Int32} {a1 : Int32} {a2 : Int32} {a3 : Int32} (s_6 : ∀ k, S 6 k = true) (hm : f_X10_reign  m a1 a2 a3 = some (r, mm)) : Fr S m mm := by
  unfold f_X10_reign at hm
  refine fr_cal hm (fun _ _ h => fr_X0_isTold h) (fun x2 m1 hm => ?_)
  refine fr_if hm (fun hm => ?_) (fun hm => ?_)
  · skip
    exact fr_ret hm
  · skip
    refine fr_if hm (fun hm => ?_) (fun hm => ?_)
    · skip
      exact fr_ret hm
    · skip
      refine fr_if hm (fun hm => ?_) (fun hm => ?_)
      · skip
        exact fr_ret hm
      · skip
        refine fr_cal hm (fun _ _ h => fr_X10_isOneOfTwo h) (fun x4 m3 hm => ?_)
        refine fr_fi hm (fun hm => ?_) (fun hm => ?_)
        · skip
          refine fr_fi hm (fun hm => ?_) (fun hm => ?_)
          · skip
            refine fr_cal hm (fun _ _ h => fr_X0_isNursery h) (fun x6 m5 hm => ?_)
            refine fr_if hm (fun hm => ?_) (fun hm => ?_)
            · skip
              exact fr_ret hm
            · skip
              refine fr_cal hm (fun _ _ h => fr_X3_reignOfNursery (by first | exact s_6 _ | assumption) h) (fun x8 m7 hm => ?_)
              exact fr_ret hm
          · skip
            refine fr_cal hm (fun _ _ h => fr_X0_hasChild h) (fun x10 m9 hm => ?_)
            refine fr_if hm (fun hm => ?_) (fun hm => ?_)
            · skip
              exact fr_ret hm
            · skip
              refine fr_cal hm (fun _ _ h => fr_X3_reignOfChild (by first | exact s_6 _ | assumption) h) (fun x12 m11 hm => ?_)
              exact fr_ret hm
        · skip
          exact fr_ret hm
set_option maxRecDepth 4000 in
theorem fr_X10_keepers {S : Nat → Nat → Bool} {m mm : Sg} {r : Int32} {a1 : Int32} {a2 : Int32} {a3 : Int32} (s_6 : ∀ k, S 6 k = true) (hm : f_X10_keepers  m a1 a2 a3 = some (r, mm)) : Fr S m mm := by
  unfold f_X10_keepers at hm
  refine fr_cal hm (fun _ _ h => fr_X10_hasChildAndTen h) (fun x2 m1 hm => ?_)
  refine fr_if hm (fun hm => ?_) (fun hm => ?_)
  · skip
    exact fr_ret hm
  · skip
    refine fr_if hm (fun hm => ?_) (fun hm => ?_)
    · skip
      exact fr_ret hm
    · skip
      refine fr_if hm (fun hm => ?_) (fun hm => ?_)
      · skip
        refine fr_cal hm (fun _ _ h => fr_X3_fewestKept (by first | exact s_6 _ | assumption) h) (fun x4 m3 hm => ?_)
        exact fr_ret hm
      · skip
        exact fr_ret hm
set_option maxRecDepth 4000 in
theorem fr_X10_duel {S : Nat → Nat → Bool} {m mm : Sg} {r : Int32} {a1 : Int32} {a2 : Int32} {a3 : Int32} {a4 : Int32} (s_6 : ∀ k, S 6 k = true) (hm : f_X10_duel  m a1 a2 a3 a4 = some (r, mm)) : Fr S m mm := by
  unfold f_X10_duel at hm
  refine fr_cal hm (fun _ _ h => fr_X10_areTwoNurseries h) (fun x2 m1 hm => ?_)
  refine fr_if hm (fun hm => ?_) (fun hm => ?_)
  · skip
    exact fr_ret hm
  · skip
    refine fr_cal hm (fun _ _ h => fr_X0_isOfNursery h) (fun x4 m3 hm => ?_)
    refine fr_if hm (fun hm => ?_) (fun hm => ?_)
    · skip
      exact fr_ret hm
    · skip
      refine fr_cal hm (fun _ _ h => fr_X0_isOfNursery h) (fun x6 m5 hm => ?_)
      refine fr_fi hm (fun hm => ?_) (fun hm => ?_)
      · skip
        refine fr_cal hm (fun _ _ h => fr_X3_gain (by first | exact s_6 _ | assumption) h) (fun x8 m7 hm => ?_)
        exact fr_ret hm
      · skip
        exact fr_ret hm
set_option maxRecDepth 4000 in
theorem fr_X10_rests {S : Nat → Nat → Bool} {m mm : Sg} {r : Int32} {a1 : Int32} {a2 : Int32} {a3 : Int32} (s_6 : ∀ k, S 6 k = true) (s_26 : ∀ k, S 26 k = true) (hm : f_X10_rests  m a1 a2 a3 = some (r, mm)) : Fr S m mm := by
  unfold f_X10_rests at hm
  refine fr_cal hm (fun _ _ h => fr_X0_isTold h) (fun x2 m1 hm => ?_)
  refine fr_if hm (fun hm => ?_) (fun hm => ?_)
  · skip
    exact fr_ret hm
  · skip
    refine fr_cal hm (fun _ _ h => fr_X10_areTwoNurseries h) (fun x4 m3 hm => ?_)
    refine fr_if hm (fun hm => ?_) (fun hm => ?_)
    · skip
      exact fr_ret hm
    · skip
      refine fr_if hm (fun hm => ?_) (fun hm => ?_)
      · skip
        refine fr_calv hm (fun _ h => fr_X3_weighAll (by first | exact s_6 _ | exact s_26 _ | assumption) (by first | exact s_6 _ | exact s_26 _ | assumption) h) (fun m5 hm => ?_)
        refine fr_cal hm (fun _ _ h => fr_X3_restAt h) (fun x7 m6 hm => ?_)
        exact fr_ret hm
      · skip
        exact fr_ret hm
set_option maxRecDepth 4000 in
theorem fr_X10_richest {S : Nat → Nat → Bool} {m mm : Sg} {r : Int32} {a1 : Int32} {a2 : Int32} {nl : Nat} {ln : Nat → Nat} (s_6 : ∀ k, S 6 k = true) (s_15 : ∀ k, S 15 k = true) (s_23_9 : S 23 9 = true) (s_23_10 : S 23 10 = true) (hL : ∀ p k, 45 ≤ p → p % 3 ≠ 1 → S p k = true) (hm : f_X10_richest nl ln  m a1 a2 = some (r, mm)) : Fr S m mm := by
  unfold f_X10_richest at hm
  refine fr_cal hm (fun _ _ h => fr_X0_isTold h) (fun x2 m1 hm => ?_)
  refine fr_if hm (fun hm => ?_) (fun hm => ?_)
  · skip
    exact fr_ret hm
  · skip
    refine fr_if hm (fun hm => ?_) (fun hm => ?_)
    · skip
      exact fr_ret hm
    · skip
      refine fr_if hm (fun hm => ?_) (fun hm => ?_)
      · skip
        exact fr_ret hm
      · skip
        refine fr_cal hm (fun _ _ h => fr_X10_isOneOfTwo h) (fun x4 m3 hm => ?_)
        refine fr_fi hm (fun hm => ?_) (fun hm => ?_)
        · skip
          refine fr_calv hm (fun _ h => fr_X3_seekLaw (by first | exact s_6 _ | exact s_15 _ | exact fun k => hL _ k (by omega) (by omega) | exact hL _ _ (by omega) (by omega) | assumption) (by first | exact s_6 _ | exact s_15 _ | exact fun k => hL _ k (by omega) (by omega) | exact hL _ _ (by omega) (by omega) | assumption) (by first | exact s_6 _ | exact s_15 _ | exact fun k => hL _ k (by omega) (by omega) | exact hL _ _ (by omega) (by omega) | assumption) (by first | exact s_6 _ | exact s_15 _ | exact fun k => hL _ k (by omega) (by omega) | exact hL _ _ (by omega) (by omega) | assumption) (by first | exact s_6 _ | exact s_15 _ | exact fun k => hL _ k (by omega) (by omega) | exact hL _ _ (by omega) (by omega) | assumption) h) (fun m5 hm => ?_)
          refine fr_fi hm (fun hm => ?_) (fun hm => ?_)
          · skip
            refine fr_cal hm (fun _ _ h => fr_X3_bestTreasury h) (fun x7 m6 hm => ?_)
            exact fr_ret hm
          · skip
            refine fr_cal hm (fun _ _ h => fr_X3_bestLaw h) (fun x9 m8 hm => ?_)
            exact fr_ret hm
        · skip
          exact fr_ret hm
set_option maxRecDepth 4000 in
theorem fr_X10_peace {S : Nat → Nat → Bool} {m mm : Sg} {r : Int32} {a1 : Int32} {a2 : Int32} (hm : f_X10_peace  m a1 a2 = some (r, mm)) : Fr S m mm := by
  unfold f_X10_peace at hm
  refine fr_cal hm (fun _ _ h => fr_X0_trier h) (fun x2 m1 hm => ?_)
  refine fr_if hm (fun hm => ?_) (fun hm => ?_)
  · skip
    exact fr_ret hm
  · skip
    refine fr_cal hm (fun _ _ h => fr_X0_isNursery h) (fun x4 m3 hm => ?_)
    refine fr_if hm (fun hm => ?_) (fun hm => ?_)
    · skip
      exact fr_ret hm
    · skip
      refine fr_cal hm (fun _ _ h => fr_X10_isOneOfTwo h) (fun x6 m5 hm => ?_)
      refine fr_fi hm (fun hm => ?_) (fun hm => ?_)
      · skip
        refine fr_cal hm (fun _ _ h => fr_X8_cheapest h) (fun x8 m7 hm => ?_)
        refine g_jn (J := fun (s : Sg) => Fr S s mm) hm ?_ ?_
        · intro m9 hm
          exact fr_ret hm
        · intro k10 hk10 hm
          refine fr_if hm (fun hm => ?_) (fun hm => ?_)
          · skip
            exact hk10 _ hm
          · skip
            refine fr_fi hm (fun hm => ?_) (fun hm => ?_)
            · skip
              refine fr_cal hm (fun _ _ h => fr_X0_plumsToRule h) (fun x12 m11 hm => ?_)
              exact fr_ret hm
            · skip
              exact hk10 _ hm
      · skip
        exact fr_ret hm
set_option maxRecDepth 4000 in
theorem fr_X10_chain {S : Nat → Nat → Bool} {m mm : Sg} {r : Int32} {a1 : Int32} (s_22 : ∀ k, S 22 k = true) (hm : f_X10_chain  m a1 = some (r, mm)) : Fr S m mm := by
  unfold f_X10_chain at hm
  refine fr_cal hm (fun _ _ h => fr_X0_isTold h) (fun x2 m1 hm => ?_)
  refine fr_if hm (fun hm => ?_) (fun hm => ?_)
  · skip
    exact fr_ret hm
  · skip
    refine fr_cal hm (fun _ _ h => fr_X10_isOneOfTwo h) (fun x4 m3 hm => ?_)
    refine fr_fi hm (fun hm => ?_) (fun hm => ?_)
    · skip
      refine fr_cal hm (fun _ _ h => fr_X8_longestChain (by first | exact s_22 _ | assumption) h) (fun x6 m5 hm => ?_)
      refine fr_fi hm (fun hm => ?_) (fun hm => ?_)
      · skip
        exact fr_ret hm
      · skip
        refine fr_cal hm (fun _ _ h => fr_J6_bitCount_0f7a4 h) (fun x8 m7 hm => ?_)
        exact fr_ret hm
    · skip
      exact fr_ret hm
set_option maxRecDepth 4000 in
theorem fr_X10_liveMonth {S : Nat → Nat → Bool} {m mm : Sg} {a1 : Int32} {nl : Nat} {ln : Nat → Nat} (l_0 : S 0 1000000 = true) (s_4 : ∀ k, S 4 k = true) (s_15 : ∀ k, S 15 k = true) (s_16_4 : S 16 4 = true) (s_16_5 : S 16 5 = true) (s_17 : ∀ k, S 17 k = true) (s_18 : ∀ k, S 18 k = true) (hL : ∀ p k, 45 ≤ p → p % 3 ≠ 1 → S p k = true) (hm : f_X10_liveMonth nl ln  m a1 = some mm) : Fr S m mm := by
  unfold f_X10_liveMonth at hm
  refine fr_calv hm (fun _ h => fr_X7_remember (by first | exact s_4 _ | exact s_15 _ | exact s_17 _ | exact s_18 _ | exact fun k => hL _ k (by omega) (by omega) | exact hL _ _ (by omega) (by omega) | assumption) (by first | exact s_4 _ | exact s_15 _ | exact s_17 _ | exact s_18 _ | exact fun k => hL _ k (by omega) (by omega) | exact hL _ _ (by omega) (by omega) | assumption) (by first | exact s_4 _ | exact s_15 _ | exact s_17 _ | exact s_18 _ | exact fun k => hL _ k (by omega) (by omega) | exact hL _ _ (by omega) (by omega) | assumption) h) (fun m1 hm => ?_)
  refine fr_calv hm (fun _ h => fr_X0_beginMonth (by first | exact s_4 _ | exact s_15 _ | exact s_17 _ | exact s_18 _ | exact fun k => hL _ k (by omega) (by omega) | exact hL _ _ (by omega) (by omega) | assumption) h) (fun m2 hm => ?_)
  refine g_jn (J := fun (s : Sg) => Fr S s mm) hm ?_ ?_
  · intro m3 hm
    refine fr_cal hm (fun _ _ h => fr_X0_trier h) (fun x6 m5 hm => ?_)
    refine fr_calv hm (fun _ h => fr_X0_crown (by first | exact s_4 _ | exact s_15 _ | exact s_17 _ | exact s_18 _ | exact fun k => hL _ k (by omega) (by omega) | exact hL _ _ (by omega) (by omega) | assumption) h) (fun m7 hm => ?_)
    refine fr_cal hm (fun _ _ h => fr_X0_ruler h) (fun x9 m8 hm => ?_)
    refine g_jn (J := fun (s : Sg × Int32) => Fr S s.1 mm) hm ?_ ?_
    · rintro ⟨m10, x11⟩ hm
      (try dsimp only at hm)
      (try dsimp only)
      refine fr_calv hm (fun _ h => fr_X0_reignAndTake (by first | exact s_4 _ | exact s_15 _ | exact s_17 _ | exact s_18 _ | exact fun k => hL _ k (by omega) (by omega) | exact hL _ _ (by omega) (by omega) | assumption) h) (fun m13 hm => ?_)
      refine fr_calv hm (fun _ h => fr_X7_write (by first | exact s_4 _ | exact s_15 _ | exact s_17 _ | exact s_18 _ | exact fun k => hL _ k (by omega) (by omega) | exact hL _ _ (by omega) (by omega) | assumption) h) (fun m14 hm => ?_)
      exact fr_retv hm
    · intro k12 hk12 hm
      refine fr_fi hm (fun hm => ?_) (fun hm => ?_)
      · skip
        refine fr_cal hm (fun _ _ h => fr_X0_ruler h) (fun x16 m15 hm => ?_)
        refine fr_cal hm (fun _ _ h => fr_X5_holding h) (fun x18 m17 hm => ?_)
        refine fr_cal hm (fun _ _ h => fr_X5_taxOf (by first | exact s_4 _ | exact s_15 _ | exact s_17 _ | exact s_18 _ | exact fun k => hL _ k (by omega) (by omega) | exact hL _ _ (by omega) (by omega) | assumption) (by first | exact s_4 _ | exact s_15 _ | exact s_17 _ | exact s_18 _ | exact fun k => hL _ k (by omega) (by omega) | exact hL _ _ (by omega) (by omega) | assumption) h) (fun x20 m19 hm => ?_)
        exact hk12 _ hm
      · skip
        exact hk12 _ hm
  · intro k4 hk4 hm
    refine fr_if hm (fun hm => ?_) (fun hm => ?_)
    · skip
      exact hk4 _ hm
    · skip
      refine fr_calv hm (fun _ h => fr_X10_spreadFever (by first | exact s_4 _ | exact s_15 _ | exact s_17 _ | exact s_18 _ | exact fun k => hL _ k (by omega) (by omega) | exact hL _ _ (by omega) (by omega) | assumption) (by first | exact s_4 _ | exact s_15 _ | exact s_17 _ | exact s_18 _ | exact fun k => hL _ k (by omega) (by omega) | exact hL _ _ (by omega) (by omega) | assumption) h) (fun m21 hm => ?_)
      exact hk4 _ hm
set_option maxRecDepth 4000 in
theorem fr_X10_months {S : Nat → Nat → Bool} {m mm : Sg} {r : Int32} {a1 : Int32} {nl : Nat} {ln : Nat → Nat} (l_0 : S 0 1000000 = true) (s_4 : ∀ k, S 4 k = true) (s_15 : ∀ k, S 15 k = true) (s_16_4 : S 16 4 = true) (s_16_5 : S 16 5 = true) (s_17 : ∀ k, S 17 k = true) (s_18 : ∀ k, S 18 k = true) (hL : ∀ p k, 45 ≤ p → p % 3 ≠ 1 → S p k = true) (hm : f_X10_months nl ln  m a1 = some (r, mm)) : Fr S m mm := by
  unfold f_X10_months at hm
  refine fr_cal hm (fun _ _ h => fr_X0_isTold h) (fun x2 m1 hm => ?_)
  refine fr_if hm (fun hm => ?_) (fun hm => ?_)
  · skip
    exact fr_ret hm
  · skip
    refine fr_if hm (fun hm => ?_) (fun hm => ?_)
    · skip
      exact fr_ret hm
    · skip
      refine fr_if hm (fun hm => ?_) (fun hm => ?_)
      · skip
        refine g_lp (I := fun (s : Sg × Int32) => Fr S s.1 mm) (E := fun (s : Sg) => Fr S s mm) hm ?_ ?_
        · rintro m5 hm
          (try dsimp only at hm)
          (try dsimp only)
          refine fr_cal hm (fun _ _ h => fr_X0_cell h) (fun x11 m10 hm => ?_)
          exact fr_ret hm
        · rintro ⟨m3, x4⟩ o hm hx7 hi6
          (try dsimp only [f_X10_months_L25] at hm)
          (try dsimp only)
          refine fr_if hm (fun hm => ?_) (fun hm => ?_)
          · skip
            cases hm
            exact hx7 _ rfl
          · skip
            refine fr_calv hm (fun _ h => fr_X10_liveMonth (by first | exact s_4 _ | exact s_15 _ | exact s_17 _ | exact s_18 _ | exact fun k => hL _ k (by omega) (by omega) | exact hL _ _ (by omega) (by omega) | assumption) (by first | exact s_4 _ | exact s_15 _ | exact s_17 _ | exact s_18 _ | exact fun k => hL _ k (by omega) (by omega) | exact hL _ _ (by omega) (by omega) | assumption) (by first | exact s_4 _ | exact s_15 _ | exact s_17 _ | exact s_18 _ | exact fun k => hL _ k (by omega) (by omega) | exact hL _ _ (by omega) (by omega) | assumption) (by first | exact s_4 _ | exact s_15 _ | exact s_17 _ | exact s_18 _ | exact fun k => hL _ k (by omega) (by omega) | exact hL _ _ (by omega) (by omega) | assumption) (by first | exact s_4 _ | exact s_15 _ | exact s_17 _ | exact s_18 _ | exact fun k => hL _ k (by omega) (by omega) | exact hL _ _ (by omega) (by omega) | assumption) (by first | exact s_4 _ | exact s_15 _ | exact s_17 _ | exact s_18 _ | exact fun k => hL _ k (by omega) (by omega) | exact hL _ _ (by omega) (by omega) | assumption) (by first | exact s_4 _ | exact s_15 _ | exact s_17 _ | exact s_18 _ | exact fun k => hL _ k (by omega) (by omega) | exact hL _ _ (by omega) (by omega) | assumption) (by first | exact s_4 _ | exact s_15 _ | exact s_17 _ | exact s_18 _ | exact fun k => hL _ k (by omega) (by omega) | exact hL _ _ (by omega) (by omega) | assumption) h) (fun m8 hm => ?_)
            refine fr_b hm (fun x9 hm => ?_)
            cases hm
            exact hi6 _ rfl
      · skip
        exact fr_ret hm
set_option maxRecDepth 4000 in
theorem fr_X10_fevers {S : Nat → Nat → Bool} {m mm : Sg} {r : Int32} {a1 : Int32} {a2 : Int64} {nl : Nat} {ln : Nat → Nat} (l_0 : S 0 1000000 = true) (s_4 : ∀ k, S 4 k = true) (s_15 : ∀ k, S 15 k = true) (s_16_4 : S 16 4 = true) (s_16_5 : S 16 5 = true) (s_17 : ∀ k, S 17 k = true) (s_18 : ∀ k, S 18 k = true) (hL : ∀ p k, 45 ≤ p → p % 3 ≠ 1 → S p k = true) (hm : f_X10_fevers nl ln  m a1 a2 = some (r, mm)) : Fr S m mm := by
  unfold f_X10_fevers at hm
  refine fr_cal hm (fun _ _ h => fr_X0_isTold h) (fun x2 m1 hm => ?_)
  refine fr_if hm (fun hm => ?_) (fun hm => ?_)
  · skip
    exact fr_ret hm
  · skip
    refine fr_if hm (fun hm => ?_) (fun hm => ?_)
    · skip
      exact fr_ret hm
    · skip
      refine fr_if hm (fun hm => ?_) (fun hm => ?_)
      · skip
        refine fr_wrl hm (by first | exact s_4 _ | exact s_15 _ | exact s_17 _ | exact s_18 _ | exact fun k => hL _ k (by omega) (by omega) | exact hL _ _ (by omega) (by omega) | assumption) (fun m3 hm => ?_)
        refine g_lp (I := fun (s : Sg × Int32) => Fr S s.1 mm) (E := fun (s : Sg) => Fr S s mm) hm ?_ ?_
        · rintro m6 hm
          (try dsimp only at hm)
          (try dsimp only)
          refine fr_cal hm (fun _ _ h => fr_X0_cell h) (fun x12 m11 hm => ?_)
          exact fr_ret hm
        · rintro ⟨m4, x5⟩ o hm hx8 hi7
          (try dsimp only [f_X10_fevers_L31] at hm)
          (try dsimp only)
          refine fr_if hm (fun hm => ?_) (fun hm => ?_)
          · skip
            cases hm
            exact hx8 _ rfl
          · skip
            refine fr_calv hm (fun _ h => fr_X10_liveMonth (by first | exact s_4 _ | exact s_15 _ | exact s_17 _ | exact s_18 _ | exact fun k => hL _ k (by omega) (by omega) | exact hL _ _ (by omega) (by omega) | assumption) (by first | exact s_4 _ | exact s_15 _ | exact s_17 _ | exact s_18 _ | exact fun k => hL _ k (by omega) (by omega) | exact hL _ _ (by omega) (by omega) | assumption) (by first | exact s_4 _ | exact s_15 _ | exact s_17 _ | exact s_18 _ | exact fun k => hL _ k (by omega) (by omega) | exact hL _ _ (by omega) (by omega) | assumption) (by first | exact s_4 _ | exact s_15 _ | exact s_17 _ | exact s_18 _ | exact fun k => hL _ k (by omega) (by omega) | exact hL _ _ (by omega) (by omega) | assumption) (by first | exact s_4 _ | exact s_15 _ | exact s_17 _ | exact s_18 _ | exact fun k => hL _ k (by omega) (by omega) | exact hL _ _ (by omega) (by omega) | assumption) (by first | exact s_4 _ | exact s_15 _ | exact s_17 _ | exact s_18 _ | exact fun k => hL _ k (by omega) (by omega) | exact hL _ _ (by omega) (by omega) | assumption) (by first | exact s_4 _ | exact s_15 _ | exact s_17 _ | exact s_18 _ | exact fun k => hL _ k (by omega) (by omega) | exact hL _ _ (by omega) (by omega) | assumption) (by first | exact s_4 _ | exact s_15 _ | exact s_17 _ | exact s_18 _ | exact fun k => hL _ k (by omega) (by omega) | exact hL _ _ (by omega) (by omega) | assumption) h) (fun m9 hm => ?_)
            refine fr_b hm (fun x10 hm => ?_)
            cases hm
            exact hi7 _ rfl
      · skip
        exact fr_ret hm
