/-! texts: both look at them alike -/
section
variable {nl B B' : Nat} {ln : Nat → Nat} {m m1 m2 m' mc mm : Sg} {j w u : Nat} {a a1 a2 a3 a4 r x : Int32} {L p q k i n off : Nat} {tx : Nat → Int32} {z : Bool}
def Bt (tx : Nat → Int32) (L : Nat) : Prop := ∀ k, k < L → ∃ b, 0 < b ∧ b < 256 ∧ tx k = nI b
def Tx (tx : Nat → Int32) (L : Nat) (m : Sg) : Prop := L ≤ 240 ∧ m.1 1 1 = nI L ∧ ∀ k, k < L → m.1 2 k = tx k
def rwZ (z : Bool) : Nat := if z = true then 29 else 28
def cpZ (z : Bool) : Nat := if z = true then 960 else 240
def Mx (tx : Nat → Int32) (L : Nat) (z : Bool) (off : Nat) (m : Sg) : Prop := off + L ≤ cpZ z ∧ m.1 27 5 = (if z = true then 1 else 0) ∧ m.1 27 8 = nI off ∧ m.1 27 9 = nI L ∧ ∀ k, k < L → m.1 (rwZ z) (off + k) = sb (tx k)
def chr (tx : Nat → Int32) (L p : Nat) : Int32 := if p < L then tx p else -1
def skF (tx : Nat → Int32) (L : Nat) : Nat → Nat → Nat
  | 0, p => p
  | n + 1, p => if p < L ∧ tx p = 32 then skF tx L n (p + 1) else p
def sk (tx : Nat → Int32) (L p : Nat) : Nat := skF tx L (L - p) p
theorem skF_v : ∀ n p, L - p ≤ n → p ≤ skF tx L n p ∧ (p ≤ L → skF tx L n p ≤ L) ∧ (∀ k, p ≤ k → k < skF tx L n p → k < L ∧ tx k = 32) ∧ ¬ (skF tx L n p < L ∧ tx (skF tx L n p) = 32)
  | 0, p, h => ⟨Nat.le_refl _, fun h => h, fun k h1 h2 => absurd h2 (by show ¬ k < p; omega), fun h1 => by have : p < L := h1.1; omega⟩
  | n + 1, p, h => by
    by_cases y : p < L ∧ tx p = 32
    · have e : skF tx L (n + 1) p = skF tx L n (p + 1) := if_pos y
      rw [e]
      obtain ⟨i1, i2, i3, i4⟩ := skF_v n (p + 1) (by omega)
      refine ⟨by omega, fun _ => i2 (by omega), fun k k1 k2 => ?_, i4⟩
      by_cases e : k = p
      · subst e; exact y
      · exact i3 k (by omega) k2
    · have e : skF tx L (n + 1) p = p := if_neg y
      rw [e]
      exact ⟨Nat.le_refl _, fun h => h, fun k k1 k2 => absurd k2 (by omega), y⟩
theorem sk_ge : p ≤ sk tx L p := (skF_v _ p (Nat.le_refl _)).1
theorem sk_le (h : p ≤ L) : sk tx L p ≤ L := (skF_v _ p (Nat.le_refl _)).2.1 h
theorem sk_in (h1 : p ≤ k) (h2 : k < sk tx L p) : k < L ∧ tx k = 32 := (skF_v _ p (Nat.le_refl _)).2.2.1 k h1 h2
theorem sk_end : ¬ (sk tx L p < L ∧ tx (sk tx L p) = 32) := (skF_v _ p (Nat.le_refl _)).2.2.2
theorem sk_id (h : ¬ (p < L ∧ tx p = 32)) : sk tx L p = p := by
  have h1 := sk_ge (tx := tx) (L := L) (p := p)
  rcases Nat.lt_or_ge p (sk tx L p) with y | y
  · exact absurd (sk_in (Nat.le_refl _) y) h
  · omega
set_option maxRecDepth 100000 in
theorem sb_32 {b : Nat} (hb : b < 256) : sb (nI b) = 32 ↔ nI b = 32 := by
  have : ∀ b, b < 256 → (sb (nI b) = 32 ↔ nI b = 32) := by decide
  exact this b hb
set_option maxRecDepth 100000 in
theorem sb_255 {b : Nat} (hb : b < 256) : sb (nI b) &&& 255 = nI b := by
  have : ∀ b, b < 256 → sb (nI b) &&& 255 = nI b := by decide
  exact this b hb
def dig (c : Int32) : Bool := decide (¬ c < 48 ∧ ¬ 57 < c)
theorem dig_iff {c : Int32} : dig c = true ↔ ¬ c < 48 ∧ ¬ 57 < c := decide_eq_true_iff
set_option maxRecDepth 100000 in
theorem sb_dig {b : Nat} (hb : b < 256) : (¬ sb (nI b) < 48 ∧ ¬ 57 < sb (nI b)) ↔ dig (nI b) = true := by
  have : ∀ b, b < 256 → ((¬ sb (nI b) < 48 ∧ ¬ 57 < sb (nI b)) ↔ dig (nI b) = true) := by decide
  exact this b hb
theorem at_v (T : Tx tx L m) (hp : p < 2 ^ 31) : f_X9_at m (nI p) = some (chr tx L p, m) := by
  unfold f_X9_at chr
  rw [if_neg (nI_pos (by omega)), T.2.1]
  by_cases h : p < L
  · have := T.1
    rw [if_neg (ix_lt h (by omega)), if_neg (show ¬ (240 : Int32) ≤ nI p from ix_lt (n := 240) (by omega) (by decide)), in_nI (show p < 240 by omega) (by decide), if_pos rfl, if_pos h, nI_clamp hp, T.2.2 p h]
  · rw [if_pos (nI_le (by omega) (by omega)), if_neg h]
theorem peek_v (T : Tx tx L m) (h1 : i ≠ 1) (h2 : i ≠ 2) (hp : m.1 i 1 = nI p) (hL : p ≤ L) (hf : m.1 i 2 = -1) : f_X2_peek i m = some (chr tx L (sk tx L p), wr m i 1 (nI (sk tx L p))) := by
  have l240 := T.1
  have le := sk_le (tx := tx) hL
  have ge := sk_ge (tx := tx) (L := L) (p := p)
  have T' : ∀ v, Tx tx L (wr m i 1 v) := fun v => ⟨T.1, by rw [wr_ne (Ne.symm h1)]; exact T.2.1, fun k hk => by rw [wr_ne (Ne.symm h2)]; exact T.2.2 k hk⟩
  unfold f_X2_peek f_X2_hasFailed
  rw [if_pos hf, cal_eq, if_pos rfl]
  have e0 : m = wr m i 1 (nI (p + 0)) := by
    show m = wr m i 1 (nI p)
    rw [← hp, wr_same]
  have key := lpk_seq (step := f_X2_peek_L9 i) (x := wr m i 1 (nI (sk tx L p))) (K := fun m4 => cal (f_X9_at m4 (m4.1 i 1)) (fun x13 m12 => some (x13, m12))) (sk tx L p - p) (fun r => wr m i 1 (nI (p + r))) (by
    intro r hr
    obtain ⟨k1, k2⟩ := sk_in (tx := tx) (L := L) (p := p) (k := p + r) (by omega) (by omega)
    unfold f_X2_peek_L9 f_X9_size
    rw [cal_eq, (T' _).2.1, wr_at, pk_us, if_neg (ix_lt k1 (by omega)), at_v (T' _) (by omega), cal_eq]
    rw [show chr tx L (p + r) = 32 by unfold chr; rw [if_pos k1, k2], if_pos rfl, bnd_eq, wr_at, pk_us, nI_1, wr_wr2]
    rfl) (by
    have e : p + (sk tx L p - p) = sk tx L p := by omega
    simp only [e]
    unfold f_X2_peek_L9 f_X9_size
    rw [cal_eq, (T' _).2.1, wr_at, pk_us]
    by_cases y : sk tx L p < L
    · rw [if_neg (ix_lt y (by omega)), at_v (T' _) (by omega), cal_eq, if_neg]
      unfold chr
      rw [if_pos y]
      exact fun z => sk_end ⟨y, z⟩
    · rw [if_pos (nI_le (by omega) (by omega))]) (by omega)
  rw [← e0] at key
  rw [key, wr_at, pk_us, at_v (T' _) (by omega), cal_eq]
theorem peek_f (hf : ¬ m.1 i 2 = -1) : f_X2_peek i m = some (-1, m) := by
  unfold f_X2_peek f_X2_hasFailed
  rw [if_neg hf, cal_eq, if_neg n10]
theorem zz (M : Mx tx L z off m) : (if m.1 27 5 = 0 then 240 else 960) = cpZ z ∧ (if m.1 27 5 = 0 then 28 else 29) = rwZ z := by
  rw [M.2.1]
  cases z
  · exact ⟨rfl, rfl⟩
  · exact ⟨rfl, rfl⟩
theorem cp_lt : cpZ z < 2 ^ 31 := by cases z <;> decide
theorem here_v (hb : Bt tx L) (M : Mx tx L z off m) (h : m.1 27 10 = nI p) (hp : p ≤ L) : f_X11_here m = some (chr tx L p, m) := by
  have c := cp_lt (z := z)
  have l := M.1
  unfold f_X11_here chr
  rw [(zz M).1, (zz M).2, M.2.2.2.1, h, M.2.2.1, nI_add]
  by_cases y : p < L
  · obtain ⟨b, b1, b2, b3⟩ := hb p y
    rw [if_neg (ix_lt y (by omega)), in_nI (show off + p < cpZ z by omega) c, if_pos rfl, if_pos y, nI_clamp (by omega), M.2.2.2.2 p y, b3, sb_255 b2]
  · rw [if_pos (nI_le (by omega) (by omega)), if_neg y]
theorem mdig_v (hb : Bt tx L) (M : Mx tx L z off m) (h : m.1 27 10 = nI p) (hp : p ≤ L) : f_X11_isDigit m = some (if dig (chr tx L p) = true then 1 else 0, m) := by
  have c := cp_lt (z := z)
  have l := M.1
  unfold f_X11_isDigit chr
  rw [(zz M).1, (zz M).2, M.2.2.2.1, h, M.2.2.1, nI_add]
  by_cases y : p < L
  · obtain ⟨b, b1, b2, b3⟩ := hb p y
    have d := sb_dig b2
    rw [if_neg (ix_lt y (by omega)), in_nI (show off + p < cpZ z by omega) c, if_pos rfl, if_pos y, nI_clamp (by omega), M.2.2.2.2 p y, b3, if_pos rfl]
    by_cases d1 : sb (nI b) < 48
    · rw [if_pos d1, if_neg (fun q => (d.mpr q).1 d1)]
    · rw [if_neg d1]
      by_cases d2 : 57 < sb (nI b)
      · rw [if_pos d2, if_neg (fun q => (d.mpr q).2 d2)]
      · rw [if_neg d2, if_pos (d.mp ⟨d1, d2⟩)]
  · rw [if_pos (nI_le (by omega) (by omega)), if_neg y, if_neg (by decide)]
theorem Mx_wr {v : Int32} {k : Nat} (M : Mx tx L z off m) (hk : k ≠ 5) (hk8 : k ≠ 8) (hk9 : k ≠ 9) : Mx tx L z off (wr m 27 k v) := by
  refine ⟨M.1, ?_, ?_, ?_, fun q hq => ?_⟩
  · rw [wr_at, pk_un (Ne.symm hk)]; exact M.2.1
  · rw [wr_at, pk_un (Ne.symm hk8)]; exact M.2.2.1
  · rw [wr_at, pk_un (Ne.symm hk9)]; exact M.2.2.2.1
  · rw [wr_ne (by cases z <;> decide)]; exact M.2.2.2.2 q hq
theorem look_v (hb : Bt tx L) (M : Mx tx L z off m) (h : m.1 27 10 = nI p) (hp : p ≤ L) : f_X11_look m = some (chr tx L (sk tx L p), wr m 27 10 (nI (sk tx L p))) := by
  have c := cp_lt (z := z)
  have l := M.1
  have c960 : cpZ z ≤ 960 := by cases z <;> decide
  have le := sk_le (tx := tx) hp
  have ge := sk_ge (tx := tx) (L := L) (p := p)
  have M' : ∀ v, Mx tx L z off (wr m 27 10 v) := fun v => Mx_wr M (by decide) (by decide) (by decide)
  have e0 : m = wr m 27 10 (nI (p + 0)) := by
    show m = wr m 27 10 (nI p)
    rw [← h, wr_same]
  have key := lpk_seq (step := f_X11_look_L0) (x := wr m 27 10 (nI (sk tx L p))) (K := fun m2 => (if (m2.1 27 9) ≤ (m2.1 27 10) then some ((-1), m2) else
  if inr ((m2.1 27 8) + (m2.1 27 10)) (if m2.1 27 5 = 0 then 240 else 960) = true then some ((m2.1 (if m2.1 27 5 = 0 then 28 else 29) ((m2.1 27 8) + (m2.1 27 10)).toNatClampNeg) &&& 255, m2) else none)) (sk tx L p - p) (fun r => wr m 27 10 (nI (p + r))) (by
    intro r hr
    obtain ⟨k1, k2⟩ := sk_in (tx := tx) (L := L) (p := p) (k := p + r) (by omega) (by omega)
    unfold f_X11_look_L0
    have e10 : (wr m 27 10 (nI (p + r))).1 27 10 = nI (p + r) := by rw [wr_at, pk_us]
    rw [(zz (M' _)).1, (zz (M' _)).2, (M' _).2.2.2.1, e10, (M' _).2.2.1, nI_add, if_neg (ix_lt k1 (by omega)), in_nI (show off + (p + r) < cpZ z by omega) c, if_pos rfl, nI_clamp (by omega), (M' _).2.2.2.2 (p + r) k1, k2, if_pos (by decide), bnd_eq, wr_wr2, nI_1]
    rfl) (by
    have e : p + (sk tx L p - p) = sk tx L p := by omega
    simp only [e]
    unfold f_X11_look_L0
    have e10 : (wr m 27 10 (nI (sk tx L p))).1 27 10 = nI (sk tx L p) := by rw [wr_at, pk_us]
    rw [(zz (M' _)).1, (zz (M' _)).2, (M' _).2.2.2.1, e10, (M' _).2.2.1, nI_add]
    by_cases y : sk tx L p < L
    · obtain ⟨b, b1, b2, b3⟩ := hb _ y
      rw [if_neg (ix_lt y (by omega)), in_nI (show off + sk tx L p < cpZ z by omega) c, if_pos rfl, nI_clamp (by omega), (M' _).2.2.2.2 _ y, if_neg]
      rw [b3]
      exact fun z => sk_end ⟨y, b3.trans ((sb_32 b2).mp z)⟩
    · rw [if_pos (nI_le (by omega) (by omega))]) (by omega)
  rw [← e0] at key
  unfold f_X11_look
  rw [key]
  exact here_v hb (M' _) (by rw [wr_at, pk_us]) le
theorem cdig_v : f_X2_isDigit m a = some (if dig a = true then 1 else 0, m) := by
  unfold f_X2_isDigit
  by_cases d1 : a < 48
  · rw [if_pos d1, if_neg (fun q => (dig_iff.mp q).1 d1)]
  · rw [if_neg d1]
    by_cases d2 : 57 < a
    · rw [if_pos d2, if_neg (fun q => (dig_iff.mp q).2 d2)]
    · rw [if_neg d2, if_pos (dig_iff.mpr ⟨d1, d2⟩)]
end
