/-! texts of counties: an item -/
section
variable {nl B B' : Nat} {ln : Nat → Nat} {m m1 m2 m' mc mm : Sg} {j w u : Nat} {a a1 a2 a3 a4 r x c lo hi : Int32} {L p q k i n off b N : Nat} {tx : Nat → Int32} {z : Bool}
theorem nI_s1 {e : Nat} (h : 1 ≤ e) : nI e - 1 = nI (e - 1) := by
  obtain ⟨d, rfl⟩ : ∃ d, e = d + 1 := ⟨e - 1, by omega⟩
  rw [show d + 1 - 1 = d by omega, ← nI_1, Int32.add_sub_cancel]
theorem nm2 (h : dig (chr tx L p) = true) : nmF tx L 2 p 0 = (if dig (chr tx L (p + 1)) = true then (10 * (chr tx L p - 48) + chr tx L (p + 1) - 48, p + 2) else (chr tx L p - 48, p + 1)) := by
  have e : (0 : Int32) * 10 + chr tx L p - 48 = chr tx L p - 48 := by
    rw [Int32.zero_mul, Int32.zero_add]
  unfold nmF
  rw [if_pos h, e]
  unfold nmF
  by_cases y : dig (chr tx L (p + 1)) = true
  · rw [if_pos y, if_pos y, nmF, Int32.mul_comm]
  · rw [if_neg y, if_neg y]
theorem mfail_v (hf : m.1 27 11 = -1) : f_X11_fails m = some (0, wr m 27 11 (m.1 27 10)) := by
  unfold f_X11_fails
  rw [if_pos hf, bnd_eq]
theorem mfail_f (hf : ¬ m.1 27 11 = -1) : f_X11_fails m = some (0, m) := by
  unfold f_X11_fails
  rw [if_neg hf]
def itW (tx : Nat → Int32) (L p : Nat) (lo hi : Int32) : Option Nat := if dig (chr tx L (sk tx L p)) = true then (if dig (chr tx L (nmF tx L 2 (sk tx L p) 0).2) = true then some (nmF tx L 2 (sk tx L p) 0).2 else if (nmF tx L 2 (sk tx L p) 0).1 < lo ∨ hi < (nmF tx L 2 (sk tx L p) 0).1 then some ((nmF tx L 2 (sk tx L p) 0).2 - 1) else none) else some (sk tx L p)
/-- the model's item -/
theorem mitem_v (hb : Bt tx L) (M : Mx tx L z off m) (h : m.1 27 10 = nI p) (hp : p < L) (hf : m.1 27 11 = -1) (hi' : i < n) (hn : n < 2 ^ 31) : f_X11_readItem w n m (nI i) lo hi = some (match itW tx L (p + 1) lo hi with
  | some e => wr (wr m 27 10 (nI e)) 27 11 (nI e)
  | none => wr (wr m 27 10 (nI (nmF tx L 2 (sk tx L (p + 1)) 0).2)) w i (nmF tx L 2 (sk tx L (p + 1)) 0).1) := by
  have l := M.1
  have c := cp_lt (z := z)
  have c960 : cpZ z ≤ 960 := by cases z <;> decide
  have le := sk_le (tx := tx) (show p + 1 ≤ L by omega)
  have M' : ∀ v, Mx tx L z off (wr m 27 10 v) := fun v => Mx_wr M (by decide) (by decide) (by decide)
  have e10 : ∀ v, (wr m 27 10 v).1 27 10 = v := fun v => by rw [wr_at, pk_us]
  have e11 : ∀ v, (wr m 27 10 v).1 27 11 = -1 := fun v => by rw [wr_at, pk_un (by decide)]; exact hf
  unfold f_X11_readItem itW
  rw [bnd_eq, h, nI_1, look_v hb (M' _) (e10 _) (show p + 1 ≤ L by omega), cal_eq, wr_wr2]
  generalize sk tx L (p + 1) = q at *
  rw [mdig_v hb (M' _) (e10 _) le, cal_eq]
  by_cases y : dig (chr tx L q) = true
  · have q1 := dig_lt y
    rw [if_pos y, if_neg n10, if_pos y, bnd_eq, bnd_eq, e10, nI_1, wr_wr2, mdig_v hb (M' _) (e10 _) (by omega), cal_eq]
    simp only [bnd_eq]
    have fin : ∀ v e, 1 ≤ e → e ≤ L → (cal (f_X11_isDigit (wr m 27 10 (nI e))) (fun x14 m13 => (if x14 = 0 then cal (f_X11_isIn m13 ((v : Int32).toInt64) ((lo : Int32).toInt64) ((hi : Int32).toInt64)) (fun x16 m15 => (if x16 = 0 then cal (f_X11_fails (wr m15 27 10 ((m15.1 27 10) - 1))) (fun x20 m19 => some m19) else
  if inr (nI i) n = true then some (wr m15 w (nI i).toNatClampNeg v) else none)) else
  cal (f_X11_fails m13) (fun x22 m21 => some m21))) : Option Sg) = some (match (if dig (chr tx L e) = true then some e else if v < lo ∨ hi < v then some (e - 1) else none) with
  | some e => wr (wr m 27 10 (nI e)) 27 11 (nI e)
  | none => wr (wr m 27 10 (nI e)) w i v) := by
      intro v e he1 he
      rw [mdig_v hb (M' _) (e10 _) he, cal_eq]
      by_cases y2 : dig (chr tx L e) = true
      · rw [if_pos y2, if_neg n10, if_pos y2, mfail_v (e11 _), cal_eq, e10]
      · rw [if_neg y2, if_pos rfl, if_neg y2, isIn_v (lo' := lo.toInt64) (lo := lo) (hi := hi) rfl rfl]
        have es := nI_s1 he1
        by_cases z1 : v < lo
        · rw [if_pos z1, cal_eq, if_pos rfl, e10, es, wr_wr2, mfail_v (e11 _), cal_eq, e10, if_pos (Or.inl z1)]
        · rw [if_neg z1]
          by_cases z2 : hi < v
          · rw [if_pos z2, cal_eq, if_pos rfl, e10, es, wr_wr2, mfail_v (e11 _), cal_eq, e10, if_pos (Or.inr z2)]
          · rw [if_neg z2, cal_eq, if_neg n10, in_nI hi' hn, if_pos rfl, nI_clamp (by omega), if_neg (fun z => by rcases z with z | z; exact z1 z; exact z2 z)]
    rw [nm2 y]
    by_cases y1 : dig (chr tx L (q + 1)) = true
    · have q2 := dig_lt y1
      rw [if_pos y1, if_neg n10, if_pos y1, here_v hb (M' _) (e10 _) (by omega), cal_eq, e10, nI_1, wr_wr2]
      exact fin _ _ (by omega) (by omega)
    · rw [if_neg y1, if_pos rfl, if_neg y1]
      exact fin _ _ (by omega) (by omega)
  · rw [if_neg y, if_pos rfl, if_neg y, mfail_v (e11 _), cal_eq, e10]
end
