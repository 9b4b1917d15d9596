/-! a county's text becomes the county: both -/
section
variable {nl B B' : Nat} {ln : Nat → Nat} {m m1 m2 m' mc mm mc0 mm0 : Sg} {j w u : Nat} {a a1 a2 a3 a4 r x c s v : Int32} {L p q k i n off b N t t1 t2 t3 cnt base nc ne e ru lo hi : Nat} {tx : Nat → Int32} {z : Bool} {F F' R S U R' S' U' g f : Nat → Int32}
theorem rng (h1 : ¬ v < nI lo) (h2 : ¬ nI hi < v) (hh : hi + 1 < 2 ^ 31) (hl : lo < 2 ^ 31) : ∃ a, lo ≤ a ∧ a ≤ hi ∧ v = nI a := by
  rcases hund_cases v (n := hi + 1) hh with y | ⟨a, a1, a2⟩
  · rcases y with y | ⟨_, y⟩
    · exact absurd (Int32.lt_of_lt_of_le y (show (0 : Int32) ≤ nI lo from nI_le (a := 0) (by omega) (by omega))) h1
    · exact absurd (Int32.lt_of_lt_of_le (nI_lt (Nat.lt_succ_self hi) hh) y) h2
  · refine ⟨a, ?_, by omega, a2⟩
    rw [a2] at h1
    rcases Nat.lt_or_ge a lo with y | y
    · exact absurd (nI_lt y (by omega)) h1
    · exact y
theorem sh_m1 {a : Nat} (h : a < 10) : ((1 : Int32) <<< (nI a &&& 31)) - 1 = nI (2 ^ a - 1) ∧ 2 ^ a - 1 < 512 := by
  have : ∀ a, a < 10 → ((1 : Int32) <<< (nI a &&& 31)) - 1 = nI (2 ^ a - 1) ∧ 2 ^ a - 1 < 512 := by decide
  exact this a h
theorem sh_1 {a : Nat} (h : a < 9) : ((1 : Int32) <<< (nI a &&& 31)) = nI (2 ^ a) ∧ 2 ^ a < 512 := by
  have : ∀ a, a < 9 → ((1 : Int32) <<< (nI a &&& 31)) = nI (2 ^ a) ∧ 2 ^ a < 512 := by decide
  exact this a h
theorem KR_WF (K : KR F R S U nc ne) (h0 : 0 < nc) : WF F nc ne B := by
  obtain ⟨k1, k2, k3, k4, k5, k6, k7, k8, k9, k10, k11, k12⟩ := K
  refine ⟨⟨h0, k1⟩, k2, k3, k4, fun c hc => ?_, fun e he => ?_, ?_, ?_, ?_, ⟨0, Nat.zero_le _, k5⟩, Or.inl k6⟩
  · obtain ⟨b0, b1, b2, b3, b4, b5, b6, b7, b8, b9, br⟩ := k8 c hc
    obtain ⟨v0, _, u0, w0⟩ := rng (lo := 0) (hi := 99) (br 0 (by decide)).1 (br 0 (by decide)).2 (by decide) (by decide)
    obtain ⟨v1, _, u1, w1⟩ := rng (lo := 0) (hi := 9) (br 1 (by decide)).1 (br 1 (by decide)).2 (by decide) (by decide)
    obtain ⟨v2, _, u2, w2⟩ := rng (lo := 0) (hi := 9) (br 2 (by decide)).1 (br 2 (by decide)).2 (by decide) (by decide)
    obtain ⟨v3, _, u3, w3⟩ := rng (lo := 0) (hi := 4) (br 3 (by decide)).1 (br 3 (by decide)).2 (by decide) (by decide)
    obtain ⟨v4, t4, u4, w4⟩ := rng (lo := 1) (hi := 9) (br 4 (by decide)).1 (br 4 (by decide)).2 (by decide) (by decide)
    obtain ⟨v5, t5, u5, w5⟩ := rng (lo := 1) (hi := 3) (br 5 (by decide)).1 (br 5 (by decide)).2 (by decide) (by decide)
    refine ⟨⟨v0, by omega, b0.trans w0⟩, ⟨2 ^ v1 - 1, (sh_m1 (by omega)).2, ?_⟩, ?_, ⟨v3, by omega, b3.trans w3⟩, ⟨v4, t4, by omega, b4.trans w4⟩, ⟨v5, t5, by omega, b5.trans w5⟩, Or.inl ⟨b6, b7⟩, ⟨0, by decide, b8⟩⟩
    · refine b1.trans ?_
      rw [w1, (sh_m1 (by omega)).1]
    · by_cases y : v2 = 9
      · refine ⟨0, by decide, b2.trans ?_⟩
        rw [w2, y, if_pos (by decide)]; rfl
      · refine ⟨2 ^ v2, (sh_1 (by omega)).2, b2.trans ?_⟩
        rw [w2, if_neg (show ¬ (9 : Int32) ≤ nI v2 from ix_lt (n := 9) (by omega) (by decide)), (sh_1 (by omega)).1]
  · obtain ⟨b0, b1, b2, br⟩ := k10 e he
    obtain ⟨v1, _, u1, w1⟩ := rng (lo := 0) (hi := 9) (br 1 (by decide)).1 (br 1 (by decide)).2 (by decide) (by decide)
    obtain ⟨v2, _, u2, w2⟩ := rng (lo := 0) (hi := 9) (br 2 (by decide)).1 (br 2 (by decide)).2 (by decide) (by decide)
    refine ⟨⟨v1, by omega, b1.trans w1⟩, v2, by omega, b2.trans ?_⟩
    rw [w2, (sh_m1 (by omega)).1]
  · obtain ⟨v1, _, u1, w1⟩ := rng (lo := 1) (hi := 99) (k12.2.2.2 0 (by decide)).1 (k12.2.2.2 0 (by decide)).2 (by decide) (by decide)
    exact ⟨v1, by omega, k12.1.trans w1⟩
  · obtain ⟨v1, t1, u1, w1⟩ := rng (lo := 1) (hi := 9) (k12.2.2.2 1 (by decide)).1 (k12.2.2.2 1 (by decide)).2 (by decide) (by decide)
    exact ⟨v1, t1, by omega, k12.2.1.trans w1⟩
  · obtain ⟨v1, _, u1, w1⟩ := rng (lo := 0) (hi := 9) (k12.2.2.2 2 (by decide)).1 (k12.2.2.2 2 (by decide)).2 (by decide) (by decide)
    exact ⟨v1, by omega, k12.2.2.1.trans w1⟩
theorem KR_CV (K : KR F R S U nc ne) (G : gCell g R S nc ne) : CV g F ∧ (∀ c, c < 8 → g (7 * c + 6) = kd F c 9) ∧ g 62 = F 99 ∧ g 63 = 0 := by
  obtain ⟨k1, k2, k3, k4, k5, k6, k7, k8, k9, k10, k11, k12⟩ := K
  obtain ⟨g1, g2, g3, g4⟩ := G
  refine ⟨⟨fun c hc => ?_, fun e he => ?_, ?_, ?_⟩, fun c hc => ?_, ?_, ?_⟩
  · by_cases y : c < nc
    · obtain ⟨b0, b1, b2, b3, b4, b5, b6, b7, b8, b9, br⟩ := k8 c y
      obtain ⟨d0, d1, d2, d3⟩ := g1 c y
      obtain ⟨v2, _, u2, w2⟩ := rng (lo := 0) (hi := 9) (br 2 (by decide)).1 (br 2 (by decide)).2 (by decide) (by decide)
      refine ⟨d0.trans b0.symm, d1.trans b1.symm, d2.trans (Eq.trans ?_ b2.symm), d3.trans b6.symm, (g4 _ (by omega) (by omega) (fun c' hc' => by omega) (by omega)).trans b7.symm, (g4 _ (by omega) (by omega) (fun c' hc' => by omega) (by omega)).trans b8.symm⟩
      rw [w2]
      by_cases y9 : v2 = 9
      · rw [y9, if_pos (by decide), if_pos (by decide)]
      · rw [if_neg (show ¬ nI v2 = 9 from fun h => y9 ((nI_eq (b := 9) (by omega) (by decide)).mp h)), if_neg (show ¬ (9 : Int32) ≤ nI v2 from ix_lt (n := 9) (by omega) (by decide))]
    · have z : ∀ i, i < 10 → kd F c i = 0 := fun i hi => k9 c (by omega) hc i hi
      have zg : ∀ i, i < 7 → g (7 * c + i) = 0 := fun i hi => g4 _ (by omega) (by omega) (fun c' hc' => by omega) (by omega)
      rw [z 0 (by decide), z 1 (by decide), z 2 (by decide), z 6 (by decide), z 7 (by decide), z 8 (by decide)]
      exact ⟨zg 0 (by decide), zg 1 (by decide), zg 2 (by decide), zg 3 (by decide), zg 4 (by decide), zg 5 (by decide)⟩
  · by_cases y : e < ne
    · exact (g2 e y).trans (k10 e y).2.2.1.symm
    · exact (g4 _ (by omega) (by omega) (fun c' hc' => by omega) (by omega)).trans (k11 e (by omega) he 2 (by decide)).symm
  · exact (g4 60 (by omega) (by omega) (fun c' hc' => by omega) (by omega)).trans k5.symm
  · exact g3.trans k6.symm
  · have z9 : kd F c 9 = 0 := by
      by_cases y : c < nc
      · exact (k8 c y).2.2.2.2.2.2.2.2.2.1
      · exact k9 c (by omega) hc 9 (by decide)
    rw [z9]
    exact g4 _ (by omega) (by omega) (fun c' hc' => by omega) (by omega)
  · exact (g4 62 (by omega) (by omega) (fun c' hc' => by omega) (by omega)).trans k7.symm
  · exact g4 63 (by omega) (by omega) (fun c' hc' => by omega) (by omega)
theorem cpyk (hk : k < 100) : va_cpy f g 0 0 100 k = f k := by
  rw [pk_cpy_in (by omega) (by omega)]
  exact congrArg f (by omega)
theorem Rel_nx (R : Rel nl ln B m) : ∃ nx, nx < 40 ∧ m.1 16 4 = nI nx := by
  rcases R.2.2.2.2 with u | ⟨nc, ne, t⟩
  · exact u.2.2.2.2.2.2.2.2.2.2.2.2.2.2
  · obtain ⟨M, M1, M2, A, nx, a1, a2, a3, a4, a5, a6⟩ := t.2.2
    exact ⟨nx, a2, a5⟩
end
