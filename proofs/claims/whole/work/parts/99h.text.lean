/-! a county's text becomes the county: the model's rows -/
section
variable {nl B B' : Nat} {ln : Nat → Nat} {m m1 m2 m' mc mm mc0 mm0 : Sg} {j w u : Nat} {a a1 a2 a3 a4 r x c lo hi s : Int32} {L p q k i n off b N t t1 t2 t3 cnt base nc ne e ru : Nat} {tx : Nat → Int32} {z : Bool} {F F' R S U R' S' U' g : Nat → Int32}
def sP (w : Nat) (a _b : Nat) : Bool := a == w
theorem l133_v : ∃ m', lpO f_X11_text_L133 fu (m, 0) = some m' ∧ (Fr (sP 32) m m' ∧ ∀ j, j < 48 → m'.1 32 j = m.1 33 j) := by
  refine lpO_inv (step := f_X11_text_L133) (fun i st => ∃ q, st = (q, nI i) ∧ Fr (sP 32) m q ∧ ∀ j, j < i → q.1 32 j = m.1 33 j) _ 48 (m, 0) ⟨m, rfl, Fr.rf, fun j hj => absurd hj (by omega)⟩ ?_ ?_ (by omega)
  · rintro i st hi ⟨q, rfl, q1, q2⟩
    refine ⟨(wr q 32 i (q.1 33 i), nI (i + 1)), ?_, _, rfl, q1.tr (Fr.w1 rfl), fun j hj => ?_⟩
    · simp only [f_X11_text_L133, if_neg (show ¬ (48 : Int32) ≤ nI i from ix_lt (n := 48) hi (by decide)), in_nI hi (show 48 < 2 ^ 31 by decide), ↓reduceIte, nI_clamp (show i < 2 ^ 31 by omega), bnd_eq, nI_1]
    · rw [wr_at]
      by_cases e : j = i
      · subst e; rw [pk_us, q1.1 33 j rfl]
      · rw [pk_un e]; exact q2 j (by omega)
  · rintro st ⟨q, rfl, q1⟩
    exact ⟨q, by simp only [f_X11_text_L133, if_pos (show (48 : Int32) ≤ nI 48 by decide)], q1⟩
theorem l159_v : ∃ m', lpO f_X11_text_L159 fu (m, 0) = some m' ∧ (Fr (sP 34) m m' ∧ ∀ j, j < 12 → m'.1 34 j = m.1 35 j) := by
  refine lpO_inv (step := f_X11_text_L159) (fun i st => ∃ q, st = (q, nI i) ∧ Fr (sP 34) m q ∧ ∀ j, j < i → q.1 34 j = m.1 35 j) _ 12 (m, 0) ⟨m, rfl, Fr.rf, fun j hj => absurd hj (by omega)⟩ ?_ ?_ (by omega)
  · rintro i st hi ⟨q, rfl, q1, q2⟩
    refine ⟨(wr q 34 i (q.1 35 i), nI (i + 1)), ?_, _, rfl, q1.tr (Fr.w1 rfl), fun j hj => ?_⟩
    · simp only [f_X11_text_L159, if_neg (show ¬ (12 : Int32) ≤ nI i from ix_lt (n := 12) hi (by decide)), in_nI hi (show 12 < 2 ^ 31 by decide), ↓reduceIte, nI_clamp (show i < 2 ^ 31 by omega), bnd_eq, nI_1]
    · rw [wr_at]
      by_cases e : j = i
      · subst e; rw [pk_us, q1.1 35 j rfl]
      · rw [pk_un e]; exact q2 j (by omega)
  · rintro st ⟨q, rfl, q1⟩
    exact ⟨q, by simp only [f_X11_text_L159, if_pos (show (12 : Int32) ≤ nI 12 by decide)], q1⟩
theorem l185_v : ∃ m', lpO f_X11_text_L185 fu (m, 0) = some m' ∧ (Fr (sP 36) m m' ∧ ∀ j, j < 3 → m'.1 36 j = m.1 37 j) := by
  refine lpO_inv (step := f_X11_text_L185) (fun i st => ∃ q, st = (q, nI i) ∧ Fr (sP 36) m q ∧ ∀ j, j < i → q.1 36 j = m.1 37 j) _ 3 (m, 0) ⟨m, rfl, Fr.rf, fun j hj => absurd hj (by omega)⟩ ?_ ?_ (by omega)
  · rintro i st hi ⟨q, rfl, q1, q2⟩
    refine ⟨(wr q 36 i (q.1 37 i), nI (i + 1)), ?_, _, rfl, q1.tr (Fr.w1 rfl), fun j hj => ?_⟩
    · simp only [f_X11_text_L185, if_neg (show ¬ (3 : Int32) ≤ nI i from ix_lt (n := 3) hi (by decide)), in_nI hi (show 3 < 2 ^ 31 by decide), ↓reduceIte, nI_clamp (show i < 2 ^ 31 by omega), bnd_eq, nI_1]
    · rw [wr_at]
      by_cases e : j = i
      · subst e; rw [pk_us, q1.1 37 j rfl]
      · rw [pk_un e]; exact q2 j (by omega)
  · rintro st ⟨q, rfl, q1⟩
    exact ⟨q, by simp only [f_X11_text_L185, if_pos (show (3 : Int32) ≤ nI 3 by decide)], q1⟩
theorem l210_v : ∃ m', lpO f_X11_text_L210 fu (m, 0) = some m' ∧ (Fr (sP 38) m m' ∧ ∀ j, j < 244 → m'.1 38 j = 0) := by
  refine lpO_inv (step := f_X11_text_L210) (fun i st => ∃ q, st = (q, nI i) ∧ Fr (sP 38) m q ∧ ∀ j, j < i → q.1 38 j = 0) _ 244 (m, 0) ⟨m, rfl, Fr.rf, fun j hj => absurd hj (by omega)⟩ ?_ ?_ (by omega)
  · rintro i st hi ⟨q, rfl, q1, q2⟩
    refine ⟨(wr q 38 i 0, nI (i + 1)), ?_, _, rfl, q1.tr (Fr.w1 rfl), fun j hj => ?_⟩
    · simp only [f_X11_text_L210, if_neg (show ¬ (244 : Int32) ≤ nI i from ix_lt (n := 244) hi (by decide)), in_nI hi (show 244 < 2 ^ 31 by decide), ↓reduceIte, nI_clamp (show i < 2 ^ 31 by omega), bnd_eq, nI_1]
    · rw [wr_at]
      by_cases e : j = i
      · subst e; rw [pk_us]
      · rw [pk_un e]; exact q2 j (by omega)
  · rintro st ⟨q, rfl, q1⟩
    exact ⟨q, by simp only [f_X11_text_L210, if_pos (show (244 : Int32) ≤ nI 244 by decide)], q1⟩
def kidM (g R : Nat → Int32) (c : Nat) : Prop := g (7 * c + 0) = R (6 * c + 0) ∧ g (7 * c + 1) = (1 <<< (R (6 * c + 1) &&& 31)) - 1 ∧ g (7 * c + 2) = (if R (6 * c + 2) = 9 then (0 : Int32) else 1 <<< (R (6 * c + 2) &&& 31)) ∧ g (7 * c + 3) = -1
theorem l232_v (hn : nc ≤ 8) (h24 : m.1 27 24 = nI nc) : ∃ m', lpO f_X11_text_L232 fu (m, 0) = some m' ∧ (Fr (sP 38) m m' ∧ (∀ c, c < nc → kidM (m'.1 38) (m.1 32) c) ∧ ∀ k, (∀ c, c < nc → k < 7 * c ∨ 7 * c + 4 ≤ k) → m'.1 38 k = m.1 38 k) := by
  refine lpO_inv (step := f_X11_text_L232) (fun i st => ∃ q, st = (q, nI i) ∧ Fr (sP 38) m q ∧ (∀ c, c < i → kidM (q.1 38) (m.1 32) c) ∧ ∀ k, (∀ c, c < i → k < 7 * c ∨ 7 * c + 4 ≤ k) → q.1 38 k = m.1 38 k) _ nc (m, 0) ⟨m, rfl, Fr.rf, fun j hj => absurd hj (by omega), fun _ _ => rfl⟩ ?_ ?_ (by omega)
  · rintro i st hi ⟨q, rfl, q1, q2, q3⟩
    have q24 : q.1 27 24 = nI nc := by rw [q1.1 27 24 rfl]; exact h24
    have q32 : q.1 32 = m.1 32 := funext fun k => q1.1 32 k rfl
    have m6 : ∀ w, (6 : Int32) * nI i + nI w = nI (6 * i + w) := fun w => by rw [show (6 : Int32) = nI 6 from rfl, pk_mul, nI_add]
    have m60 : (6 : Int32) * nI i = nI (6 * i + 0) := by rw [show (6 : Int32) = nI 6 from rfl, pk_mul, Nat.add_zero]
    have m7 : ∀ w, (7 : Int32) * nI i + nI w = nI (7 * i + w) := fun w => by rw [show (7 : Int32) = nI 7 from rfl, pk_mul, nI_add]
    have n0 : (7 : Int32) * nI i + 0 = nI (7 * i + 0) := m7 0
    have n1 : (7 : Int32) * nI i + 1 = nI (7 * i + 1) := m7 1
    have n2 : (7 : Int32) * nI i + 2 = nI (7 * i + 2) := m7 2
    have n3 : (7 : Int32) * nI i + 3 = nI (7 * i + 3) := m7 3
    have k1 : nI (6 * i + 0) + 1 = nI (6 * i + 1) := nI_add (6 * i + 0) 1
    have k2 : nI (6 * i + 0) + 2 = nI (6 * i + 2) := nI_add (6 * i + 0) 2
    have w32 : ∀ (q : Sg) k v, (wr q 38 k v).1 32 = q.1 32 := fun q k v => wr_ne (by decide)
    let R := m.1 32
    refine ⟨(wr (wr (wr (wr q 38 (7 * i + 0) (R (6 * i + 0))) 38 (7 * i + 1) ((1 <<< (R (6 * i + 1) &&& 31)) - 1)) 38 (7 * i + 2) (if R (6 * i + 2) = 9 then (0 : Int32) else 1 <<< (R (6 * i + 2) &&& 31))) 38 (7 * i + 3) (-1), nI (i + 1)), ?_, _, rfl, (((q1.tr (Fr.w1 rfl)).tr (Fr.w1 rfl)).tr (Fr.w1 rfl)).tr (Fr.w1 rfl), fun c hc => ?_, fun k hk => ?_⟩
    · simp only [f_X11_text_L232, q24, if_neg (ix_lt hi (show nc < 2 ^ 31 by omega)), m60, n0, n1, n2, n3, k1, k2, in_nI (show 6 * i + 0 < 48 by omega) (show 48 < 2 ^ 31 by decide), in_nI (show 6 * i + 1 < 48 by omega) (show 48 < 2 ^ 31 by decide), in_nI (show 6 * i + 2 < 48 by omega) (show 48 < 2 ^ 31 by decide), in_nI (show 7 * i + 0 < 244 by omega) (show 244 < 2 ^ 31 by decide), in_nI (show 7 * i + 1 < 244 by omega) (show 244 < 2 ^ 31 by decide), in_nI (show 7 * i + 2 < 244 by omega) (show 244 < 2 ^ 31 by decide), in_nI (show 7 * i + 3 < 244 by omega) (show 244 < 2 ^ 31 by decide), ↓reduceIte, nI_clamp (show 6 * i + 0 < 2 ^ 31 by omega), nI_clamp (show 6 * i + 1 < 2 ^ 31 by omega), nI_clamp (show 6 * i + 2 < 2 ^ 31 by omega), nI_clamp (show 7 * i + 0 < 2 ^ 31 by omega), nI_clamp (show 7 * i + 1 < 2 ^ 31 by omega), nI_clamp (show 7 * i + 2 < 2 ^ 31 by omega), nI_clamp (show 7 * i + 3 < 2 ^ 31 by omega), bnd_eq, nI_1, w32, q32]
      by_cases y : m.1 32 (6 * i + 2) = 9
      · rw [if_pos y]
        simp only [R, if_pos y]
      · rw [if_neg y]
        simp only [R, if_neg y]
    · by_cases e : c = i
      · subst e
        refine ⟨?_, ?_, ?_, ?_⟩
        · simp only [wr_at]; rw [pk_un (by omega), pk_un (by omega), pk_un (by omega), pk_us]
        · simp only [wr_at]; rw [pk_un (by omega), pk_un (by omega), pk_us]
        · simp only [wr_at]; rw [pk_un (by omega), pk_us]
        · simp only [wr_at]; rw [pk_us]
      · obtain ⟨b1, b2, b3, b4⟩ := q2 c (by omega)
        refine ⟨?_, ?_, ?_, ?_⟩ <;> · simp only [wr_at]; rw [pk_un (by omega), pk_un (by omega), pk_un (by omega), pk_un (by omega)]; assumption
    · have := hk i (by omega)
      simp only [wr_at]
      rw [pk_un (by omega), pk_un (by omega), pk_un (by omega), pk_un (by omega)]
      exact q3 k (fun c hc => hk c (by omega))
  · rintro st ⟨q, rfl, q1, q2⟩
    have q24 : q.1 27 24 = nI nc := by rw [q1.1 27 24 rfl]; exact h24
    exact ⟨q, by simp only [f_X11_text_L232, q24, if_pos (nI_le (Nat.le_refl nc) (show nc < 2 ^ 31 by omega))], q1, q2⟩
theorem l350_v (hn : ne ≤ 4) (h24 : m.1 27 25 = nI ne) : ∃ m', lpO f_X11_text_L350 fu (m, 0) = some m' ∧ (Fr (sP 38) m m' ∧ (∀ e, e < ne → m'.1 38 (56 + e) = (1 <<< (m.1 34 (3 * e + 2) &&& 31)) - 1) ∧ ∀ k, (k < 56 ∨ 56 + ne ≤ k) → m'.1 38 k = m.1 38 k) := by
  refine lpO_inv (step := f_X11_text_L350) (fun i st => ∃ q, st = (q, nI i) ∧ Fr (sP 38) m q ∧ (∀ e, e < i → q.1 38 (56 + e) = (1 <<< (m.1 34 (3 * e + 2) &&& 31)) - 1) ∧ ∀ k, (k < 56 ∨ 56 + i ≤ k) → q.1 38 k = m.1 38 k) _ ne (m, 0) ⟨m, rfl, Fr.rf, fun j hj => absurd hj (by omega), fun _ _ => rfl⟩ ?_ ?_ (by omega)
  · rintro i st hi ⟨q, rfl, q1, q2, q3⟩
    have q24 : q.1 27 25 = nI ne := by rw [q1.1 27 25 rfl]; exact h24
    have q34 : q.1 34 = m.1 34 := funext fun k => q1.1 34 k rfl
    have n1 : (3 : Int32) * nI i + 2 = nI (3 * i + 2) := by rw [show (3 : Int32) = nI 3 from rfl, show (2 : Int32) = nI 2 from rfl, pk_mul, nI_add]
    have n2 : (56 : Int32) + nI i = nI (56 + i) := by rw [show (56 : Int32) = nI 56 from rfl, nI_add]
    refine ⟨(wr q 38 (56 + i) ((1 <<< (m.1 34 (3 * i + 2) &&& 31)) - 1), nI (i + 1)), ?_, _, rfl, q1.tr (Fr.w1 rfl), fun e he => ?_, fun k hk => ?_⟩
    · simp only [f_X11_text_L350, q24, if_neg (ix_lt hi (show ne < 2 ^ 31 by omega)), n1, n2, in_nI (show 3 * i + 2 < 12 by omega) (show 12 < 2 ^ 31 by decide), in_nI (show 56 + i < 244 by omega) (show 244 < 2 ^ 31 by decide), ↓reduceIte, nI_clamp (show 3 * i + 2 < 2 ^ 31 by omega), nI_clamp (show 56 + i < 2 ^ 31 by omega), bnd_eq, nI_1, q34]
    · rw [wr_at]
      by_cases y : e = i
      · subst y; rw [pk_us]
      · rw [pk_un (by omega)]; exact q2 e (by omega)
    · rw [wr_at, pk_un (by omega)]; exact q3 k (by omega)
  · rintro st ⟨q, rfl, q1, q2⟩
    have q24 : q.1 27 25 = nI ne := by rw [q1.1 27 25 rfl]; exact h24
    exact ⟨q, by simp only [f_X11_text_L350, q24, if_pos (nI_le (Nat.le_refl ne) (show ne < 2 ^ 31 by omega))], q1, q2⟩
end
