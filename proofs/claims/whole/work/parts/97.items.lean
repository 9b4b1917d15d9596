/-! texts of counties: letters, numbers -/
section
variable {nl B B' : Nat} {ln : Nat → Nat} {m m1 m2 m' mc mm : Sg} {j w u : Nat} {a a1 a2 a3 a4 r x c : Int32} {L p q k i n off b : Nat} {tx : Nat → Int32} {z : Bool}
def spP (k : Nat) (c : Int32) (q : Nat) : Option Int32 := if strB k q = c then some (nI q) else none
def spt (k : Nat) (c : Int32) : Int32 := (scn (spP k c) 0 (strN k)).getD (-1)
theorem scn_mp {α β : Type} {P : Nat → Option α} {f : α → β} : ∀ n i, scn (fun q => (P q).map f) i n = (scn P i n).map f
  | 0, i => rfl
  | n + 1, i => by
    rw [scn, scn]
    cases P i with
    | some x => rfl
    | none => exact scn_mp n (i + 1)
theorem str6 (k : Nat) : strN k ≤ 6 := by
  match k with
  | 0 => decide
  | 1 => decide
  | 2 => decide
  | 3 => decide
  | 4 => decide
  | k + 5 => exact Nat.zero_le _
theorem strB_ok (hk : k < 5) (hi : i < strN k) : ∃ s, s < 128 ∧ strB k i = nI s := by
  have h6 := str6 k
  have : ∀ k, k < 5 → ∀ i, i < 6 → i < strN k → ¬ strB k i < 0 ∧ ¬ nI 128 ≤ strB k i := by decide
  obtain ⟨h1, h2⟩ := this k hk i (by omega) hi
  rcases hund_cases (strB k i) (n := 128) (by decide) with q | q
  · rcases q with q | q
    · exact absurd q h1
    · exact absurd q.2 h2
  · exact q
theorem len_v : f_J0_length_8abf5 k m = some (nI (strN k), m) := by
  unfold f_J0_length_8abf5 f_J0_coder_7d493
  rw [cal_eq]
  have h6 := str6 k
  have : ∀ n, n ≤ 6 → (Int32.ofNat n) >>> ((0 : Int32) &&& 31) = nI n := by decide
  rw [this _ h6]
set_option maxRecDepth 100000 in
theorem asc_v {s : Nat} (hs : s < 128) : isC (((nI s &&& 255 : Int32).toUInt32 % 65536).toInt32) = true ∧ ((nI s &&& 255 : Int32).toUInt32 % 65536).toInt32 = nI s := by
  have : ∀ s, s < 128 → isC (((nI s &&& 255 : Int32).toUInt32 % 65536).toInt32) = true ∧ ((nI s &&& 255 : Int32).toUInt32 % 65536).toInt32 = nI s := by decide
  exact this s hs
set_option maxRecDepth 100000 in
theorem sb_a (hb : b < 256) {s : Nat} (hs : s < 128) : nI s = sb (nI b) ↔ nI s = nI b := by
  have h1 : ∀ b, b < 128 → sb (nI b) = nI b := by decide
  have h2 : ∀ b, b < 256 → 128 ≤ b → sb (nI b) < 0 := by decide
  rcases Nat.lt_or_ge b 128 with y | y
  · rw [h1 b y]
  · have h3 := h2 b hb y
    constructor
    · intro e
      rw [← e] at h3
      exact absurd h3 (nI_pos (by omega))
    · intro e
      have := (nI_eq (by omega) (by omega)).mp e
      omega
set_option maxRecDepth 100000 in
theorem w16 (hb : b < 256) : ((nI b : Int32).toUInt32 % 65536).toInt32 = nI b ∧ ¬ nI b < 0 ∧ ¬ 255 < nI b := by
  have : ∀ b, b < 256 → ((nI b : Int32).toUInt32 % 65536).toInt32 = nI b ∧ ¬ nI b < 0 ∧ ¬ 255 < nI b := by decide
  exact this b hb
theorem charAt_v (hk : k < 5) (hi : i < strN k) : f_J0_charAt_5068e k m (nI i) = some (strB k i, m) := by
  have h6 := str6 k
  obtain ⟨s, s1, s2⟩ := strB_ok hk hi
  obtain ⟨e1, e2⟩ := asc_v s1
  unfold f_J0_charAt_5068e f_J0_isLatin1_aae02 f_J1_charAt_3b067 f_J0_checkIndex_df160 f_J3_checkIndex_8e157
  simp only [bnd_eq]
  have hlt : nI i < Int32.ofNat (strN k) := nI_lt hi (by omega)
  rw [cal_eq, if_neg n10, if_neg (nI_pos (by omega)), if_pos hlt, cal_eq, calv_eq, in_nI hi (by omega), if_pos rfl, nI_clamp (by omega), s2, e1, if_pos rfl, e2, cal_eq]
  have : isC (nI s) = true := by rw [← e2]; exact e1
  rw [if_pos this]
theorem mspot_v (hk : k < 5) : f_X11_spotOf k m c = some (spt k c, m) := by
  have h6 := str6 k
  have key := lpk_scn (step := f_X11_spotOf_L2 k c) (y := .inr m) (S := fun q => (m, nI q)) (P := fun q => (spP k c q).map (fun v => (Sum.inl (m, v) : (Sg × Int32) ⊕ Sg))) (K := fun x => match x with
  | .inl (m3, x4) => some (x4, m3)
  | .inr m5 => some ((-1), m5)) (strN k) (by
    intro q hq
    simp only [f_X11_spotOf_L2, len_v, cal_eq, if_neg (ix_lt hq (show strN k < 2 ^ 31 by omega)), charAt_v hk hq, bnd_eq, nI_1, spP]
    by_cases e : strB k q = c
    · rw [if_pos e, if_pos e]; rfl
    · rw [if_neg e, if_neg e]; rfl) (by
    simp only [f_X11_spotOf_L2, len_v, cal_eq, if_pos (nI_le (Nat.le_refl (strN k)) (show strN k < 2 ^ 31 by omega))]) (by omega)
  unfold f_X11_spotOf
  refine key.trans ?_
  rw [scn_mp, spt]
  cases scn (spP k c) 0 (strN k) with
  | some v => rfl
  | none => rfl
theorem cspot_v (hk : k < 5) (hb : b < 256) (hn : 0 < strN k) : f_J0_indexOf_0f7a4 k m (((nI b : Int32).toUInt32 % 65536).toInt32) = some (spt k (nI b), m) := by
  have h6 := str6 k
  obtain ⟨e1, e2, e3⟩ := w16 hb
  have key := lpk_scn (step := f_J1_indexOfChar_4cfef_L7 k (nI (strN k)) (sb (nI b))) (y := .inr m) (S := fun q => (m, nI q)) (P := fun q => (spP k (nI b) q).map (fun v => (Sum.inl (m, v) : (Sg × Int32) ⊕ Sg))) (K := fun x => match x with
  | .inl (m3, x4) => some (x4, m3)
  | .inr m5 => some ((-1), m5)) (strN k) (by
    intro q hq
    obtain ⟨s, s1, s2⟩ := strB_ok hk hq
    simp only [f_J1_indexOfChar_4cfef_L7, if_neg (ix_lt hq (show strN k < 2 ^ 31 by omega)), in_nI hq (show strN k < 2 ^ 31 by omega), ↓reduceIte, nI_clamp (show q < 2 ^ 31 by omega), bnd_eq, nI_1, spP, s2, sb_a hb s1]
    by_cases e : nI s = nI b
    · rw [if_pos e, if_pos e]; rfl
    · rw [if_neg e, if_neg e]; rfl) (by
    simp only [f_J1_indexOfChar_4cfef_L7, if_pos (nI_le (Nat.le_refl (strN k)) (show strN k < 2 ^ 31 by omega))]) (by omega)
  have e4 : f_J1_indexOfChar_4cfef k m (nI b) 0 (nI (strN k)) = some (spt k (nI b), m) := by
    unfold f_J1_indexOfChar_4cfef
    rw [bnd_eq]
    refine key.trans ?_
    rw [scn_mp, spt]
    cases scn (spP k (nI b)) 0 (strN k) with
    | some v => rfl
    | none => rfl
  have lt0 : (0 : Int32) < nI (strN k) := nI_lt (a := 0) hn (by omega)
  have nlt : ¬ (Int32.ofNat (strN k)) < nI (strN k) := nI_nlt (Nat.le_refl _) (by omega)
  rw [e1]
  simp only [f_J0_indexOf_0f7a4, f_J0_indexOf_7cf53, f_J0_isLatin1_aae02, cal_eq, n10, ↓reduceIte, len_v, f_J1_indexOf_4cfef, f_J1_canEncode_9a6ad, if_neg e2, if_neg e3, bnd_eq, if_neg (show ¬ (0 : Int32) < 0 by decide), if_neg nlt, if_pos lt0, e4]
end
