/-! texts: numbers -/
section
variable {nl B B' : Nat} {ln : Nat → Nat} {m m1 m2 m' mc mm : Sg} {j w u : Nat} {a a1 a2 a3 a4 r x c : Int32} {L p q k i n off b N : Nat} {tx : Nat → Int32} {z : Bool}
def nmF (tx : Nat → Int32) (L : Nat) : Nat → Nat → Int32 → Int32 × Nat
  | 0, p, x => (x, p)
  | n + 1, p, x => if dig (chr tx L p) = true then nmF tx L n (p + 1) (x * 10 + chr tx L p - 48) else (x, p)
theorem dig_lt (h : dig (chr tx L p) = true) : p < L := by
  rcases Nat.lt_or_ge p L with y | y
  · exact y
  · unfold chr at h
    rw [if_neg (by omega)] at h
    exact absurd h (by decide)
theorem nmF_le : ∀ n p x, p ≤ L → p ≤ (nmF tx L n p x).2 ∧ (nmF tx L n p x).2 ≤ L
  | 0, p, x, h => ⟨Nat.le_refl _, h⟩
  | n + 1, p, x, h => by
    unfold nmF
    split
    · next y =>
      have := nmF_le n (p + 1) (x * 10 + chr tx L p - 48) (dig_lt y)
      exact ⟨by omega, this.2⟩
    · exact ⟨Nat.le_refl _, h⟩
theorem Tx_wr {v : Int32} (T : Tx tx L m) (h1 : i ≠ 1) (h2 : i ≠ 2) : Tx tx L (wr m i k v) := ⟨T.1, by rw [wr_ne (Ne.symm h1)]; exact T.2.1, fun k hk => by rw [wr_ne (Ne.symm h2)]; exact T.2.2 k hk⟩
theorem cnum_l (h1 : i ≠ 1) (h2 : i ≠ 2) (hN : N < 100) : ∀ n k (m : Sg) x p f, Tx tx L m → m.1 i 1 = nI p → p ≤ L → k + n = N → n < f → lpO (f_X2_number_L20 i (nI N)) f (m, x, nI k) = some (wr m i 1 (nI (nmF tx L n p x).2), (nmF tx L n p x).1)
  | 0, k, m, x, p, f + 1, T, hp, hL, hk, hf => by
    rw [lpO]
    simp only [f_X2_number_L20, if_pos (show nI N ≤ nI k from nI_le (by omega) (by omega)), nmF]
    rw [← hp, wr_same]
  | n + 1, k, m, x, p, f + 1, T, hp, hL, hk, hf => by
    have l240 := T.1
    rw [lpO]
    simp only [f_X2_number_L20, if_neg (show ¬ nI N ≤ nI k from ix_lt (by omega) (by omega)), hp, at_v T (show p < 2 ^ 31 by omega), cal_eq, cdig_v, nmF, bnd_eq, nI_1]
    by_cases y : dig (chr tx L p) = true
    · rw [if_pos y, if_neg n10, if_pos y]
      have := cnum_l h1 h2 hN n (k + 1) (wr m i 1 (nI (p + 1))) (x * 10 + chr tx L p - 48) (p + 1) f (Tx_wr T h1 h2) (by rw [wr_at, pk_us]) (dig_lt y) (by omega) (by omega)
      rw [wr_wr2] at this
      exact this
    · rw [if_neg y, if_pos rfl, if_neg y]
      show some (m, x) = _
      rw [← hp, wr_same]
theorem fail_v (hf : m.1 i 2 = -1) : f_X2_fail i m = some (wr m i 2 (m.1 i 1)) := by
  unfold f_X2_fail f_X2_failAt
  rw [if_pos hf, bnd_eq, calv_eq]
theorem fail_f (hf : ¬ m.1 i 2 = -1) : f_X2_fail i m = some m := by
  unfold f_X2_fail f_X2_failAt
  rw [if_neg hf, calv_eq]
/-- the component's number -/
theorem num_v (T : Tx tx L m) (h1 : i ≠ 1) (h2 : i ≠ 2) (hN : N < 100) (hp : m.1 i 1 = nI p) (hL : p ≤ L) (hf : m.1 i 2 = -1) : f_X2_number i m (nI N) = (if dig (chr tx L (sk tx L p)) = true then (if dig (chr tx L (nmF tx L N (sk tx L p) 0).2) = true then some ((nmF tx L N (sk tx L p) 0).1, wr (wr m i 1 (nI (nmF tx L N (sk tx L p) 0).2)) i 2 (nI (nmF tx L N (sk tx L p) 0).2)) else some ((nmF tx L N (sk tx L p) 0).1, wr m i 1 (nI (nmF tx L N (sk tx L p) 0).2))) else some (0, wr (wr m i 1 (nI (sk tx L p))) i 2 (nI (sk tx L p)))) := by
  have l240 := T.1
  have le := sk_le (tx := tx) hL
  have T1 := Tx_wr (k := 1) (v := nI (sk tx L p)) T h1 h2
  have e1 : (wr m i 1 (nI (sk tx L p))).1 i 1 = nI (sk tx L p) := by rw [wr_at, pk_us]
  have e2 : ∀ v, (wr m i 1 v).1 i 2 = -1 := fun v => by rw [wr_at, pk_un (by decide)]; exact hf
  unfold f_X2_number
  rw [peek_v T h1 h2 hp hL hf, cal_eq, cdig_v, cal_eq]
  by_cases y : dig (chr tx L (sk tx L p)) = true
  · have key := cnum_l h1 h2 hN N 0 (wr m i 1 (nI (sk tx L p))) 0 (sk tx L p) fu T1 e1 le (by omega) (show N < 1000000 by omega)
    rw [wr_wr2] at key
    have key : lpO (f_X2_number_L20 i (nI N)) fu (wr m i 1 (nI (sk tx L p)), 0, 0) = _ := key
    have le2 := (nmF_le (tx := tx) (L := L) N (sk tx L p) 0 le).2
    rw [if_pos y, if_pos y, if_neg n10, lpk_of key]
    generalize nmF tx L N (sk tx L p) 0 = E at *
    have e3 : (wr m i 1 (nI E.2)).1 i 1 = nI E.2 := by rw [wr_at, pk_us]
    dsimp only
    rw [e3, at_v (Tx_wr T h1 h2) (show E.2 < 2 ^ 31 by omega), cal_eq, cdig_v, cal_eq]
    by_cases y2 : dig (chr tx L E.2) = true
    · rw [if_pos y2, if_pos y2, if_neg n10, fail_v (e2 _), calv_eq, e3]
    · rw [if_neg y2, if_neg y2, if_pos rfl]
  · rw [if_neg y, if_neg y, if_pos rfl, fail_v (e2 _), calv_eq, e1]
theorem num_f (hf : ¬ m.1 i 2 = -1) : f_X2_number i m a = some (0, m) := by
  unfold f_X2_number
  rw [peek_f hf, cal_eq, cdig_v, cal_eq, if_pos (by decide), fail_f hf, calv_eq]
end
