/-! laws' texts: signs, numbers, letters -/
section
variable {nl B B' : Nat} {ln : Nat → Nat} {m m1 m2 m' mc mm mc0 mm0 : Sg} {j w u : Nat} {a a1 a2 a3 a4 r x c v v1 v2 op : Int32} {L p q k k1 k2 i n off b N t P d : Nat} {tx lt : Nat → Int32} {z : Bool} {st st' : List Int32} {s s1 s2 : List Int32}
/-- what reading a law changes, in the component and in the model -/
def sK (a b : Nat) : Bool := (a == 11 && (b == 1 || b == 2)) || (a == 10 && b == 2) || a == 12
def sL (a b : Nat) : Bool := a == 27 && (b == 10 || b == 11 || b == 12)
theorem sK_Tx (T : Tx tx L m) (f : Fr sK m m') : Tx tx L m' := ⟨T.1, by rw [f.1 1 1 rfl]; exact T.2.1, fun k hk => by rw [f.1 2 k rfl]; exact T.2.2 k hk⟩
theorem sL_Mx (M : Mx tx L z off m) (f : Fr sL m m') : Mx tx L z off m' := by
  refine ⟨M.1, by rw [f.1 27 5 rfl]; exact M.2.1, by rw [f.1 27 8 rfl]; exact M.2.2.1, by rw [f.1 27 9 rfl]; exact M.2.2.2.1, fun k hk => ?_⟩
  rw [f.1 (rwZ z) _ (by cases z <;> rfl)]
  exact M.2.2.2.2 k hk
theorem amg_v (hk : k < 5) : f_X11_isAmong k m c = some (if spt k c = -1 then 0 else 1, m) := by
  have h6 := str6 k
  have key := lpk_scn (step := f_X11_isAmong_L2 k c) (y := .inr m) (S := fun q => (m, nI q)) (P := fun q => (spP k c q).map (fun _ => (Sum.inl m : Sg ⊕ Sg))) (K := fun x => match x with
  | .inl m3 => some ((1 : Int32), m3)
  | .inr m4 => some ((0 : Int32), m4)) (strN k) (by
    intro q hq
    simp only [f_X11_isAmong_L2, len_v, cal_eq, if_neg (ix_lt hq (show strN k < 2 ^ 31 by omega)), charAt_v hk hq, bnd_eq, nI_1, spP]
    by_cases e : strB k q = c
    · rw [if_pos e, if_pos e]; rfl
    · rw [if_neg e, if_neg e]; rfl) (by
    simp only [f_X11_isAmong_L2, len_v, cal_eq, if_pos (nI_le (Nat.le_refl (strN k)) (show strN k < 2 ^ 31 by omega))]) (by omega)
  unfold f_X11_isAmong
  refine key.trans ?_
  rw [scn_mp]
  rcases spt_cases k c with h | ⟨i, i1, i2, i3⟩
  · rw [if_pos h]
    unfold spt at h
    cases e : scn (spP k c) 0 (strN k) with
    | none => rfl
    | some v =>
      obtain ⟨q, q1, q2, q3⟩ := scn_some _ _ e
      rw [e] at h
      have h : v = -1 := h
      unfold spP at q3
      by_cases y : strB k q = c
      · rw [if_pos y, h] at q3
        exact absurd (Option.some.inj q3) (nI_m1 (by omega))
      · rw [if_neg y] at q3; cases q3
  · rw [if_neg (show ¬ spt k c = -1 by rw [i2]; exact nI_m1 (by omega))]
    unfold spt at i2
    cases e : scn (spP k c) 0 (strN k) with
    | none => rw [e] at i2; exact absurd i2.symm (nI_m1 (by omega))
    | some v => rfl
theorem cw_v (h : m.1 10 2 = nI n) (hn : n < 240) : f_X6_write m a = some (wr (wr m 12 n a) 10 2 (nI (n + 1))) := by
  unfold f_X6_write
  rw [h, if_neg (show ¬ (240 : Int32) ≤ nI n from ix_lt (n := 240) hn (by decide)), in_nI hn (by decide), if_pos rfl, nI_clamp (by omega), bnd_eq, wr_ne (by decide), h, nI_1, bnd_eq]
theorem cws_v (h : m.1 10 2 = nI n) (hn : n < 240) : f_X6_writeSign m a = some (wr (wr m 12 n (10000 + a)) 10 2 (nI (n + 1))) := by
  unfold f_X6_writeSign
  rw [cw_v h hn, calv_eq]
theorem cw_any (h : m.1 10 2 = nI n) (hn : n ≤ 240) : ∃ m' n', f_X6_write m a = some m' ∧ Fr sK m m' ∧ m'.1 11 = m.1 11 ∧ m'.1 10 2 = nI n' ∧ n' ≤ 240 := by
  rcases Nat.lt_or_ge n 240 with y | y
  · exact ⟨_, n + 1, cw_v h y, Fr.tr (m1 := wr m 12 n a) (Fr.w1 rfl) (Fr.w1 rfl), by rw [wr_ne (by decide), wr_ne (by decide)], by rw [wr_at, pk_us], by omega⟩
  · refine ⟨m, n, ?_, Fr.rf, rfl, h, hn⟩
    unfold f_X6_write
    rw [h, if_pos (show (240 : Int32) ≤ nI n from nI_le (a := 240) (by omega) (by omega))]
def nmR (tx : Nat → Int32) (L : Nat) (m : Sg) (E : Int32 × Nat) : Sg ⊕ (Sg × Int32) := if dig (chr tx L E.2) = true then .inl (wr m 27 10 (nI E.2)) else .inr (wr m 27 10 (nI E.2), E.1)
theorem nmR_wr {E : Int32 × Nat} : nmR tx L (wr m 27 10 v) E = nmR tx L m E := by
  unfold nmR
  rw [wr_wr2]
/-- the model's number -/
theorem mnum_l (hb : Bt tx L) : ∀ n k (m : Sg) x p f, Mx tx L z off m → m.1 27 10 = nI p → m.1 27 11 = -1 → p ≤ L → k + n = 4 → n < f → lpO f_X11_atom_L90 f (m, x, nI k) = some (nmR tx L m (nmF tx L n p x))
  | 0, k, m, x, p, f + 1, M, hp, hf, hL, hk, hn => by
    have e4 : nI k = 4 := by rw [show k = 4 by omega]; rfl
    have eE : nmF tx L 0 p x = (x, p) := rfl
    rw [eE, lpO]
    simp only [f_X11_atom_L90, mdig_v hb M hp hL, cal_eq, nmR]
    by_cases y : dig (chr tx L p) = true
    · rw [if_pos y, if_neg n10, if_pos hf, if_pos e4, if_pos y, ← hp, wr_same]
    · rw [if_neg y, if_pos rfl, if_neg y, ← hp, wr_same]
  | n + 1, k, m, x, p, f + 1, M, hp, hf, hL, hk, hn => by
    have n4 : ¬ nI k = 4 := fun q => by have := (nI_eq (b := 4) (by omega) (by decide)).mp q; omega
    have cl := cp_lt (z := z)
    have c960 : cpZ z ≤ 960 := by cases z <;> decide
    have l := M.1
    rw [lpO]
    simp only [f_X11_atom_L90, mdig_v hb M hp hL, cal_eq]
    by_cases y : dig (chr tx L p) = true
    · have eE : nmF tx L (n + 1) p x = nmF tx L n (p + 1) (x * 10 + chr tx L p - 48) := by rw [nmF, if_pos y]
      rw [eE]
      have pl := dig_lt y
      obtain ⟨b, b1, b2, b3⟩ := hb p pl
      have ec : chr tx L p = nI b := by unfold chr; rw [if_pos pl, b3]
      have eb : sb (tx p) = chr tx L p := by
        rw [ec, b3]
        rw [ec] at y
        have h1 : ∀ b, b < 256 → dig (nI b) = true → sb (nI b) = nI b := by
          intro b hb' hd
          have hd := dig_iff.mp hd
          have : b < 128 := by
            rcases Nat.lt_or_ge b 128 with q | q
            · exact q
            · exact absurd (nI_lt (a := 57) (b := b) (by omega) (by omega)) hd.2
          exact ((sb_a hb' this).mpr rfl).symm
        exact h1 b b2 y
      rw [if_pos y, if_neg n10, if_pos hf, if_neg n4, (zz M).1, (zz M).2, hp, M.2.2.1, nI_add, in_nI (show off + p < cpZ z by omega) cl, if_pos rfl, nI_clamp (by omega), M.2.2.2.2 p pl, eb, bnd_eq, bnd_eq, bnd_eq, nI_1, nI_1, Int32.mul_comm 10 x]
      have ih := mnum_l hb n (k + 1) (wr m 27 10 (nI (p + 1))) (x * 10 + chr tx L p - 48) (p + 1) f (Mx_wr M (by decide) (by decide) (by decide)) (by rw [wr_at, pk_us]) (by rw [wr_at, pk_un (by decide)]; exact hf) (by omega) (by omega) (by omega)
      rw [nmR_wr] at ih
      exact ih
    · have eE : nmF tx L (n + 1) p x = (x, p) := by rw [nmF, if_neg y]
      rw [eE, if_neg y, if_pos rfl]
      simp only [nmR]
      rw [if_neg y, ← hp, wr_same]
end
