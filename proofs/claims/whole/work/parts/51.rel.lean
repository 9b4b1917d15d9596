/-! how the two stand to each other between calls -/
/-- cells that matter from one call to the next -/
def ess (p k : Nat) : Bool :=
  if p < 27 then (p == 0 && k == 9) || (p == 1 && k == 1) || p == 2 || p == 4 || (p == 13 && (k == 2 || k == 3)) || (p == 16 && (k == 4 || k == 5 || k == 6)) || p == 17 || p == 18 || p == 19 || p == 20
  else if p < 45 then (p == 27 && (k == 6 || k == 7 || k == 24 || k == 25 || k == 31 || k == 32 || k == 34 || k == 39 || k == 45)) || p == 28 || p == 29 || p == 30 || p == 32 || p == 34 || p == 36 || p == 38 || p == 41 || p == 43
  else p % 3 == 1
def scr (p k : Nat) : Bool := !ess p k
theorem scr_law (p k : Nat) (h : 45 ≤ p) (h1 : p % 3 ≠ 1) : scr p k = true := by
  unfold scr ess
  rw [if_neg (by omega), if_neg (by omega)]
  simp [h1]
theorem fr_ess {m m1 : Sg} (h : Fr scr m m1) {p k : Nat} (hp : ess p k = true) : m1.1 p k = m.1 p k := h.1 p k (by simp [scr, hp])
theorem fr_row {m m1 : Sg} (h : Fr scr m m1) {p : Nat} (hp : ∀ k, ess p k = true) : m1.1 p = m.1 p := funext fun k => fr_ess h (hp k)
def sb (x : Int32) : Int32 := x.toInt8.toInt32
def TapeR (m : Sg) (L : Nat) : Prop := L ≤ 240 ∧ m.1 1 1 = nI L ∧ m.1 27 6 = nI L ∧ ∀ k, k < L → ∃ b, 0 < b ∧ b < 256 ∧ m.1 2 k = nI b ∧ m.1 28 k = sb (nI b)
def l6 (r : Nat → Int32) : Nat → Int32 := fun i => if i < 6 then r i else 0
def l6m (r : Nat → Int32) : Nat → Int32 := fun i => if i = 0 then r 99 else if i = 1 then r 97 else if i = 2 then r 107 else if i = 3 then r 110 else if i = 4 then r 109 else if i = 5 then r 119 else 0
/-- law k is worth the same in both, whatever the letters -/
def LawOK (ln : Nat → Nat) (cd tx : Nat → Int32) (T : Int32) (V : (Nat → Int32) → Int32) (k : Nat) : Prop :=
  (∀ m' : Sg, m'.1 (46 + 3 * k) = cd → ∃ m1, f_X4_worth (45 + 3 * k) (ln k) m' = some (V (l6 (m'.1 15)), m1)) ∧ (∀ m' : Sg, (∀ i, i < 240 → m'.1 29 (240 * k + i) = tx i) → ∃ m1, f_X11_goThrough 1 m' (nI (240 * k)) T = some m1 ∧ m1.1 27 14 = V (l6m (m'.1 31)))
def LawR (nl : Nat) (ln : Nat → Nat) (V : Nat → (Nat → Int32) → Int32) (m : Sg) : Prop := m.1 13 2 = nI nl ∧ m.1 27 7 = nI nl ∧ nl ≤ 4 ∧ isI (m.1 13 3) nl ∧ m.1 27 31 = m.1 13 3 ∧ ∀ k, k < nl → LawOK ln (m.1 (46 + 3 * k)) (fun i => m.1 29 (240 * k + i)) (m.1 30 k) (V k) k
/-- a county's row f and the model's row g -/
def FR (f g : Nat → Int32) (nc ne B : Nat) : Prop := WF f nc ne B ∧ CV g f ∧ (∀ c, c < 8 → g (7 * c + 6) = kd f c 9) ∧ g 62 = f 99 ∧ ∃ t, t ≤ 90 * B ∧ f 99 = nI t
def mn (a b : Nat) : Nat := if a ≤ b then a else b
def LG (f g lg : Nat → Int32) (M : Nat) : Prop := f 97 = nI M ∧ g 63 = nI (mn M 60) ∧ ∀ i, i < mn M 60 → ∀ w, w < 3 → g (64 + 3 * (mn M 60 - 1 - i) + w) = lg ((M - i) % 100 * 3 + w)
/-- the cells of a county that no month changes -/
def stc (k : Nat) : Bool := (k < 80 && (k % 10 == 3 || k % 10 == 4 || k % 10 == 5)) || (80 ≤ k && k < 92 && ((k - 80) % 3 == 0 || (k - 80) % 3 == 1)) || k == 92 || k == 93 || k == 94 || k == 95 || k == 96
def StE (f0 f : Nat → Int32) : Prop := ∀ k, stc k = true → f k = f0 k
/-- the row of the act i back -/
def rowC (m : Sg) (nx i : Nat) : Nat → Int32 := fun k => m.1 17 (100 * ((nx + 40 - i) % 40) + k)
def rowM (m : Sg) (A i : Nat) : Nat → Int32 := fun k => m.1 41 (244 * (A - i) + k)
def PastR (m : Sg) (nc ne B M : Nat) : Prop := ∃ A nx, A ≤ 40 ∧ nx < 40 ∧ m.1 16 5 = nI A ∧ m.1 27 39 = nI A ∧ m.1 16 4 = nI nx ∧ (∃ Ms : Nat → Nat, (Ms 0 = M ∧ ∀ i, Ms (i + 1) ≤ Ms i ∧ Ms i ≤ Ms (i + 1) + 1) ∧ ∀ i, 1 ≤ i → i ≤ A → FR (rowC m nx i) (rowM m A i) nc ne B ∧ StE (m.1 4) (rowC m nx i) ∧ LG (rowC m nx i) (rowM m A i) (m.1 18) (Ms i)) ∧ m.1 16 6 = m.1 27 45 ∧ (m.1 16 6 = 0 ∨ m.1 16 6 = 1 ∧ FR (m.1 19) (m.1 43) nc ne B ∧ StE (m.1 4) (m.1 19) ∧ ∃ Mi, Mi ≤ B ∧ LG (m.1 19) (m.1 43) (m.1 20) Mi)
def Told (m : Sg) (nc ne B : Nat) : Prop := SV m (m.1 4) nc ne ∧ FR (m.1 4) (m.1 38) nc ne B ∧ ∃ M, M ≤ B ∧ LG (m.1 4) (m.1 38) (m.1 18) M ∧ PastR m nc ne B M
def Untold (m : Sg) : Prop := m.1 4 95 = 0 ∧ m.1 4 96 = 0 ∧ m.1 4 97 = 0 ∧ m.1 4 98 = -1 ∧ m.1 4 99 = 0 ∧ m.1 27 24 = 0 ∧ m.1 27 25 = 0 ∧ m.1 38 60 = 0 ∧ m.1 38 62 = 0 ∧ m.1 38 63 = 0 ∧ m.1 16 5 = 0 ∧ m.1 27 39 = 0 ∧ m.1 16 6 = 0 ∧ m.1 27 45 = 0 ∧ ∃ nx, nx < 40 ∧ m.1 16 4 = nI nx
def Rel (nl : Nat) (ln : Nat → Nat) (B : Nat) (m : Sg) : Prop := (∃ L, TapeR m L) ∧ (∃ V, LawR nl ln V m) ∧ m.1 27 32 = m.1 0 9 ∧ m.1 27 34 = -1 ∧ (Untold m ∨ ∃ nc ne, Told m nc ne B)
section
variable {nl B : Nat} {ln : Nat → Nat} {m m1 : Sg}
theorem e_all {p : Nat} (h : p = 2 ∨ p = 4 ∨ p = 17 ∨ p = 18 ∨ p = 19 ∨ p = 20 ∨ p = 28 ∨ p = 29 ∨ p = 30 ∨ p = 32 ∨ p = 34 ∨ p = 36 ∨ p = 38 ∨ p = 41 ∨ p = 43) (k : Nat) : ess p k = true := by
  rcases h with h | h | h | h | h | h | h | h | h | h | h | h | h | h | h <;> subst h <;> simp [ess]
theorem e_code (k q : Nat) : ess (46 + 3 * k) q = true := by
  unfold ess
  rw [if_neg (by omega), if_neg (by omega)]
  simp
theorem Rel_fr (R : Rel nl ln B m) (h : Fr scr m m1) : Rel nl ln B m1 := by
  have r2 : m1.1 2 = m.1 2 := fr_row h (e_all (by simp))
  have r4 : m1.1 4 = m.1 4 := fr_row h (e_all (by simp))
  have r17 : m1.1 17 = m.1 17 := fr_row h (e_all (by simp))
  have r18 : m1.1 18 = m.1 18 := fr_row h (e_all (by simp))
  have r19 : m1.1 19 = m.1 19 := fr_row h (e_all (by simp))
  have r20 : m1.1 20 = m.1 20 := fr_row h (e_all (by simp))
  have r28 : m1.1 28 = m.1 28 := fr_row h (e_all (by simp))
  have r29 : m1.1 29 = m.1 29 := fr_row h (e_all (by simp))
  have r30 : m1.1 30 = m.1 30 := fr_row h (e_all (by simp))
  have r32 : m1.1 32 = m.1 32 := fr_row h (e_all (by simp))
  have r34 : m1.1 34 = m.1 34 := fr_row h (e_all (by simp))
  have r36 : m1.1 36 = m.1 36 := fr_row h (e_all (by simp))
  have r38 : m1.1 38 = m.1 38 := fr_row h (e_all (by simp))
  have r41 : m1.1 41 = m.1 41 := fr_row h (e_all (by simp))
  have r43 : m1.1 43 = m.1 43 := fr_row h (e_all (by simp))
  have rc : ∀ k, m1.1 (46 + 3 * k) = m.1 (46 + 3 * k) := fun k => fr_row h (e_code k)
  have c1 : m1.1 0 9 = m.1 0 9 := fr_ess h rfl
  have c2 : m1.1 1 1 = m.1 1 1 := fr_ess h rfl
  have c3 : m1.1 13 2 = m.1 13 2 := fr_ess h rfl
  have c4 : m1.1 13 3 = m.1 13 3 := fr_ess h rfl
  have c5 : m1.1 16 4 = m.1 16 4 := fr_ess h rfl
  have c6 : m1.1 16 5 = m.1 16 5 := fr_ess h rfl
  have c7 : m1.1 16 6 = m.1 16 6 := fr_ess h rfl
  have d1 : m1.1 27 6 = m.1 27 6 := fr_ess h rfl
  have d2 : m1.1 27 7 = m.1 27 7 := fr_ess h rfl
  have d3 : m1.1 27 24 = m.1 27 24 := fr_ess h rfl
  have d4 : m1.1 27 25 = m.1 27 25 := fr_ess h rfl
  have d5 : m1.1 27 31 = m.1 27 31 := fr_ess h rfl
  have d6 : m1.1 27 32 = m.1 27 32 := fr_ess h rfl
  have d7 : m1.1 27 34 = m.1 27 34 := fr_ess h rfl
  have d8 : m1.1 27 39 = m.1 27 39 := fr_ess h rfl
  have d9 : m1.1 27 45 = m.1 27 45 := fr_ess h rfl
  unfold Rel TapeR LawR Untold Told PastR SV rowC rowM at R ⊢
  simp only [r2, r4, r17, r18, r19, r20, r28, r29, r30, r32, r34, r36, r38, r41, r43, rc, c1, c2, c3, c4, c5, c6, c7, d1, d2, d3, d4, d5, d6, d7, d8, d9]
  exact R
/-- what reading calls need: the numbers of children and elders, and where there are any a county -/
def HM (m : Sg) (f : Nat → Int32) (nc ne B : Nat) : Prop := m.1 27 24 = nI nc ∧ m.1 27 25 = nI ne ∧ f 95 = nI nc ∧ f 96 = nI ne ∧ ne ≤ 4 ∧ nc ≤ 8 ∧ (nc = 0 → ne = 0) ∧ (0 < nc → CV (m.1 38) f ∧ SV m f nc ne ∧ WF f nc ne B)
theorem Rel_HM (R : Rel nl ln B m) : ∃ nc ne, HM m (m.1 4) nc ne B := by
  rcases R.2.2.2.2 with u | ⟨nc, ne, t⟩
  · exact ⟨0, 0, u.2.2.2.2.2.1, u.2.2.2.2.2.2.1, u.1, u.2.1, by decide, by decide, fun _ => rfl, fun h => absurd h (by decide)⟩
  · exact ⟨nc, ne, t.1.2.2.2.2.2.1, t.1.2.2.2.2.2.2, t.2.1.1.2.2.1, t.2.1.1.2.2.2.1, t.2.1.1.2.1, t.2.1.1.1.2, fun h => absurd t.2.1.1.1.1 (by omega), fun _ => ⟨t.2.1.2.1, t.1, t.2.1.1⟩⟩
theorem HM_fr {f : Nat → Int32} {nc ne : Nat} (H : HM m f nc ne B) (h : Fr scr m m1) : HM m1 f nc ne B := by
  have r32 : m1.1 32 = m.1 32 := fr_row h (e_all (by simp))
  have r34 : m1.1 34 = m.1 34 := fr_row h (e_all (by simp))
  have r36 : m1.1 36 = m.1 36 := fr_row h (e_all (by simp))
  have r38 : m1.1 38 = m.1 38 := fr_row h (e_all (by simp))
  have d3 : m1.1 27 24 = m.1 27 24 := fr_ess h rfl
  have d4 : m1.1 27 25 = m.1 27 25 := fr_ess h rfl
  unfold HM SV at H ⊢
  simp only [r32, r34, r36, r38, d3, d4]
  exact H
theorem fr_thr (m : Sg) (x : Int32) : Fr scr m (wr m 27 0 x) := Fr.w1 rfl
end
