/-! bits, indices of the model, its reading methods over a row -/
theorem bit01 (y : Int32) : y &&& 1 = 0 ∨ y &&& 1 = 1 := by
  obtain ⟨k, h1, h2⟩ := pk_andE y (m := 1) 1 rfl
  rcases (show k = 0 ∨ k = 1 by omega) with h | h
  · left; rw [h2, h]; rfl
  · right; rw [h2, h]; rfl
theorem sh_amt : ∀ t, t < 32 → ((nI t &&& 31).toBitVec.smod 32).toNat = t := by decide
theorem b0_iff {x : Int32} {t : Nat} (ht : t < 32) : b0 x t ↔ x.toBitVec.getLsbD t = false := by
  have e1 : (x >>> (nI t &&& 31)).toBitVec = x.toBitVec.sshiftRight t := by
    rw [Int32.toBitVec_shiftRight]; unfold BitVec.sshiftRight'; rw [sh_amt t ht]
  have e2 : (x >>> (nI t &&& 31)) &&& 1 = nI ((x.toBitVec.sshiftRight t).toNat % 2) := by
    rw [pk_and _ (m := 1) 1 rfl, e1]
  have e3 : (x.toBitVec.sshiftRight t).toNat % 2 = ((x.toBitVec.sshiftRight t).getLsbD 0).toNat := by
    rw [BitVec.getLsbD, Nat.testBit_zero]
    rcases Nat.mod_two_eq_zero_or_one (x.toBitVec.sshiftRight t).toNat with h | h <;> simp [h]
  have e4 : (x.toBitVec.sshiftRight t).getLsbD 0 = x.toBitVec.getLsbD t := by
    rw [BitVec.getLsbD_sshiftRight]; simp; omega
  unfold b0
  rw [e2, e3, e4]
  cases x.toBitVec.getLsbD t <;> decide
theorem b1_iff {x : Int32} {t : Nat} : ((x >>> (nI t &&& 31)) &&& 1) = 1 ↔ ¬ b0 x t := by
  unfold b0
  rcases bit01 (x >>> (nI t &&& 31)) with h | h <;> rw [h] <;> decide
theorem m1_bv : (-1 : Int32).toBitVec = BitVec.allOnes 32 := rfl
theorem b0_not {x : Int32} {t : Nat} (ht : t < 32) : b0 (x ^^^ (-1)) t ↔ ¬ b0 x t := by
  rw [b0_iff ht, b0_iff ht, Int32.toBitVec_xor, m1_bv, BitVec.getLsbD_xor, BitVec.getLsbD_allOnes]
  simp [ht]
theorem b0_and {x y : Int32} {t : Nat} (ht : t < 32) : b0 (x &&& y) t ↔ b0 x t ∨ b0 y t := by
  rw [b0_iff ht, b0_iff ht, b0_iff ht, Int32.toBitVec_and, BitVec.getLsbD_and]
  cases x.toBitVec.getLsbD t <;> cases y.toBitVec.getLsbD t <;> simp
theorem b0_or {x y : Int32} {t : Nat} (ht : t < 32) : b0 (x ||| y) t ↔ b0 x t ∧ b0 y t := by
  rw [b0_iff ht, b0_iff ht, b0_iff ht, Int32.toBitVec_or, BitVec.getLsbD_or]
  cases x.toBitVec.getLsbD t <;> cases y.toBitVec.getLsbD t <;> simp
theorem i32_ext {x y : Int32} (h : ∀ t, t < 32 → (b0 x t ↔ b0 y t)) : x = y := by
  apply Int32.toBitVec_inj.mp
  apply BitVec.eq_of_getLsbD_eq
  intro i hi
  have := h i hi
  rw [b0_iff hi, b0_iff hi] at this
  cases h1 : x.toBitVec.getLsbD i <;> cases h2 : y.toBitVec.getLsbD i <;> simp_all
theorem not_right (k w : Int32) : (k &&& (w ^^^ (-1))) ^^^ (-1) = (k ^^^ (-1)) ||| w := by
  apply i32_ext
  intro t ht
  rw [b0_not ht, b0_and ht, b0_not ht, b0_or ht, b0_not ht]
  generalize b0 k t = P
  generalize b0 w t = Q
  by_cases h1 : P <;> by_cases h2 : Q <;> simp [h1, h2]
theorem and_nI {a : Nat} (y : Int32) (h : a < 2 ^ 31) : ∃ n, n ≤ a ∧ nI a &&& y = nI n := by
  refine ⟨a &&& y.toBitVec.toNat, Nat.and_le_left, ?_⟩
  apply Int32.toBitVec_inj.mp
  apply BitVec.eq_of_toNat_eq
  rw [Int32.toBitVec_and, BitVec.toNat_and, pk_tn (by omega), pk_tn (by have := @Nat.and_le_left a y.toBitVec.toNat; omega)]

theorem i7_0 {c : Nat} (hc : c < 8) : inr ((7 * nI c) + 0) 244 = true := by
  rw [show (7 : Int32) * nI c + 0 = nI (7 * c + 0) from by rw [show (7 : Int32) = nI 7 from rfl, show (0 : Int32) = nI 0 from rfl, pk_mul, nI_add]]; exact in_nI (by omega) (by decide)
theorem t7_0 {c : Nat} (hc : c < 8) : ((7 * nI c) + 0).toNatClampNeg = 7 * c + 0 := by
  rw [show (7 : Int32) * nI c + 0 = nI (7 * c + 0) from by rw [show (7 : Int32) = nI 7 from rfl, show (0 : Int32) = nI 0 from rfl, pk_mul, nI_add]]; exact nI_clamp (by omega)
theorem i7_1 {c : Nat} (hc : c < 8) : inr ((7 * nI c) + 1) 244 = true := by
  rw [show (7 : Int32) * nI c + 1 = nI (7 * c + 1) from by rw [show (7 : Int32) = nI 7 from rfl, show (1 : Int32) = nI 1 from rfl, pk_mul, nI_add]]; exact in_nI (by omega) (by decide)
theorem t7_1 {c : Nat} (hc : c < 8) : ((7 * nI c) + 1).toNatClampNeg = 7 * c + 1 := by
  rw [show (7 : Int32) * nI c + 1 = nI (7 * c + 1) from by rw [show (7 : Int32) = nI 7 from rfl, show (1 : Int32) = nI 1 from rfl, pk_mul, nI_add]]; exact nI_clamp (by omega)
theorem i7_2 {c : Nat} (hc : c < 8) : inr ((7 * nI c) + 2) 244 = true := by
  rw [show (7 : Int32) * nI c + 2 = nI (7 * c + 2) from by rw [show (7 : Int32) = nI 7 from rfl, show (2 : Int32) = nI 2 from rfl, pk_mul, nI_add]]; exact in_nI (by omega) (by decide)
theorem t7_2 {c : Nat} (hc : c < 8) : ((7 * nI c) + 2).toNatClampNeg = 7 * c + 2 := by
  rw [show (7 : Int32) * nI c + 2 = nI (7 * c + 2) from by rw [show (7 : Int32) = nI 7 from rfl, show (2 : Int32) = nI 2 from rfl, pk_mul, nI_add]]; exact nI_clamp (by omega)
theorem i7_3 {c : Nat} (hc : c < 8) : inr ((7 * nI c) + 3) 244 = true := by
  rw [show (7 : Int32) * nI c + 3 = nI (7 * c + 3) from by rw [show (7 : Int32) = nI 7 from rfl, show (3 : Int32) = nI 3 from rfl, pk_mul, nI_add]]; exact in_nI (by omega) (by decide)
theorem t7_3 {c : Nat} (hc : c < 8) : ((7 * nI c) + 3).toNatClampNeg = 7 * c + 3 := by
  rw [show (7 : Int32) * nI c + 3 = nI (7 * c + 3) from by rw [show (7 : Int32) = nI 7 from rfl, show (3 : Int32) = nI 3 from rfl, pk_mul, nI_add]]; exact nI_clamp (by omega)
theorem i7_4 {c : Nat} (hc : c < 8) : inr ((7 * nI c) + 4) 244 = true := by
  rw [show (7 : Int32) * nI c + 4 = nI (7 * c + 4) from by rw [show (7 : Int32) = nI 7 from rfl, show (4 : Int32) = nI 4 from rfl, pk_mul, nI_add]]; exact in_nI (by omega) (by decide)
theorem t7_4 {c : Nat} (hc : c < 8) : ((7 * nI c) + 4).toNatClampNeg = 7 * c + 4 := by
  rw [show (7 : Int32) * nI c + 4 = nI (7 * c + 4) from by rw [show (7 : Int32) = nI 7 from rfl, show (4 : Int32) = nI 4 from rfl, pk_mul, nI_add]]; exact nI_clamp (by omega)
theorem i7_5 {c : Nat} (hc : c < 8) : inr ((7 * nI c) + 5) 244 = true := by
  rw [show (7 : Int32) * nI c + 5 = nI (7 * c + 5) from by rw [show (7 : Int32) = nI 7 from rfl, show (5 : Int32) = nI 5 from rfl, pk_mul, nI_add]]; exact in_nI (by omega) (by decide)
theorem t7_5 {c : Nat} (hc : c < 8) : ((7 * nI c) + 5).toNatClampNeg = 7 * c + 5 := by
  rw [show (7 : Int32) * nI c + 5 = nI (7 * c + 5) from by rw [show (7 : Int32) = nI 7 from rfl, show (5 : Int32) = nI 5 from rfl, pk_mul, nI_add]]; exact nI_clamp (by omega)
theorem i7_6 {c : Nat} (hc : c < 8) : inr ((7 * nI c) + 6) 244 = true := by
  rw [show (7 : Int32) * nI c + 6 = nI (7 * c + 6) from by rw [show (7 : Int32) = nI 7 from rfl, show (6 : Int32) = nI 6 from rfl, pk_mul, nI_add]]; exact in_nI (by omega) (by decide)
theorem t7_6 {c : Nat} (hc : c < 8) : ((7 * nI c) + 6).toNatClampNeg = 7 * c + 6 := by
  rw [show (7 : Int32) * nI c + 6 = nI (7 * c + 6) from by rw [show (7 : Int32) = nI 7 from rfl, show (6 : Int32) = nI 6 from rfl, pk_mul, nI_add]]; exact nI_clamp (by omega)
theorem i6_0 {c : Nat} (hc : c < 8) : inr ((6 * nI c) + 0) 48 = true := by
  rw [show (6 : Int32) * nI c + 0 = nI (6 * c + 0) from by rw [show (6 : Int32) = nI 6 from rfl, show (0 : Int32) = nI 0 from rfl, pk_mul, nI_add]]; exact in_nI (by omega) (by decide)
theorem t6_0 {c : Nat} (hc : c < 8) : ((6 * nI c) + 0).toNatClampNeg = 6 * c + 0 := by
  rw [show (6 : Int32) * nI c + 0 = nI (6 * c + 0) from by rw [show (6 : Int32) = nI 6 from rfl, show (0 : Int32) = nI 0 from rfl, pk_mul, nI_add]]; exact nI_clamp (by omega)
theorem i6_1 {c : Nat} (hc : c < 8) : inr ((6 * nI c) + 1) 48 = true := by
  rw [show (6 : Int32) * nI c + 1 = nI (6 * c + 1) from by rw [show (6 : Int32) = nI 6 from rfl, show (1 : Int32) = nI 1 from rfl, pk_mul, nI_add]]; exact in_nI (by omega) (by decide)
theorem t6_1 {c : Nat} (hc : c < 8) : ((6 * nI c) + 1).toNatClampNeg = 6 * c + 1 := by
  rw [show (6 : Int32) * nI c + 1 = nI (6 * c + 1) from by rw [show (6 : Int32) = nI 6 from rfl, show (1 : Int32) = nI 1 from rfl, pk_mul, nI_add]]; exact nI_clamp (by omega)
theorem i6_2 {c : Nat} (hc : c < 8) : inr ((6 * nI c) + 2) 48 = true := by
  rw [show (6 : Int32) * nI c + 2 = nI (6 * c + 2) from by rw [show (6 : Int32) = nI 6 from rfl, show (2 : Int32) = nI 2 from rfl, pk_mul, nI_add]]; exact in_nI (by omega) (by decide)
theorem t6_2 {c : Nat} (hc : c < 8) : ((6 * nI c) + 2).toNatClampNeg = 6 * c + 2 := by
  rw [show (6 : Int32) * nI c + 2 = nI (6 * c + 2) from by rw [show (6 : Int32) = nI 6 from rfl, show (2 : Int32) = nI 2 from rfl, pk_mul, nI_add]]; exact nI_clamp (by omega)
theorem i6_3 {c : Nat} (hc : c < 8) : inr ((6 * nI c) + 3) 48 = true := by
  rw [show (6 : Int32) * nI c + 3 = nI (6 * c + 3) from by rw [show (6 : Int32) = nI 6 from rfl, show (3 : Int32) = nI 3 from rfl, pk_mul, nI_add]]; exact in_nI (by omega) (by decide)
theorem t6_3 {c : Nat} (hc : c < 8) : ((6 * nI c) + 3).toNatClampNeg = 6 * c + 3 := by
  rw [show (6 : Int32) * nI c + 3 = nI (6 * c + 3) from by rw [show (6 : Int32) = nI 6 from rfl, show (3 : Int32) = nI 3 from rfl, pk_mul, nI_add]]; exact nI_clamp (by omega)
theorem i6_4 {c : Nat} (hc : c < 8) : inr ((6 * nI c) + 4) 48 = true := by
  rw [show (6 : Int32) * nI c + 4 = nI (6 * c + 4) from by rw [show (6 : Int32) = nI 6 from rfl, show (4 : Int32) = nI 4 from rfl, pk_mul, nI_add]]; exact in_nI (by omega) (by decide)
theorem t6_4 {c : Nat} (hc : c < 8) : ((6 * nI c) + 4).toNatClampNeg = 6 * c + 4 := by
  rw [show (6 : Int32) * nI c + 4 = nI (6 * c + 4) from by rw [show (6 : Int32) = nI 6 from rfl, show (4 : Int32) = nI 4 from rfl, pk_mul, nI_add]]; exact nI_clamp (by omega)
theorem i6_5 {c : Nat} (hc : c < 8) : inr ((6 * nI c) + 5) 48 = true := by
  rw [show (6 : Int32) * nI c + 5 = nI (6 * c + 5) from by rw [show (6 : Int32) = nI 6 from rfl, show (5 : Int32) = nI 5 from rfl, pk_mul, nI_add]]; exact in_nI (by omega) (by decide)
theorem t6_5 {c : Nat} (hc : c < 8) : ((6 * nI c) + 5).toNatClampNeg = 6 * c + 5 := by
  rw [show (6 : Int32) * nI c + 5 = nI (6 * c + 5) from by rw [show (6 : Int32) = nI 6 from rfl, show (5 : Int32) = nI 5 from rfl, pk_mul, nI_add]]; exact nI_clamp (by omega)
theorem i3_0 {e : Nat} (he : e < 4) : inr (3 * nI e) 12 = true := by
  rw [show (3 : Int32) * nI e = nI (3 * e) from by rw [show (3 : Int32) = nI 3 from rfl, pk_mul]]; exact in_nI (by omega) (by decide)
theorem t3_0 {e : Nat} (he : e < 4) : (3 * nI e).toNatClampNeg = 3 * e := by
  rw [show (3 : Int32) * nI e = nI (3 * e) from by rw [show (3 : Int32) = nI 3 from rfl, pk_mul]]; exact nI_clamp (by omega)
theorem i3_1 {e : Nat} (he : e < 4) : inr ((3 * nI e) + 1) 12 = true := by
  rw [show (3 : Int32) * nI e + 1 = nI (3 * e + 1) from by rw [show (3 : Int32) = nI 3 from rfl, show (1 : Int32) = nI 1 from rfl, pk_mul, nI_add]]; exact in_nI (by omega) (by decide)
theorem t3_1 {e : Nat} (he : e < 4) : ((3 * nI e) + 1).toNatClampNeg = 3 * e + 1 := by
  rw [show (3 : Int32) * nI e + 1 = nI (3 * e + 1) from by rw [show (3 : Int32) = nI 3 from rfl, show (1 : Int32) = nI 1 from rfl, pk_mul, nI_add]]; exact nI_clamp (by omega)
theorem i3_2 {e : Nat} (he : e < 4) : inr ((3 * nI e) + 2) 12 = true := by
  rw [show (3 : Int32) * nI e + 2 = nI (3 * e + 2) from by rw [show (3 : Int32) = nI 3 from rfl, show (2 : Int32) = nI 2 from rfl, pk_mul, nI_add]]; exact in_nI (by omega) (by decide)
theorem t3_2 {e : Nat} (he : e < 4) : ((3 * nI e) + 2).toNatClampNeg = 3 * e + 2 := by
  rw [show (3 : Int32) * nI e + 2 = nI (3 * e + 2) from by rw [show (3 : Int32) = nI 3 from rfl, show (2 : Int32) = nI 2 from rfl, pk_mul, nI_add]]; exact nI_clamp (by omega)
theorem i6 {c : Nat} (hc : c < 8) : inr (6 * nI c) 48 = true := by
  rw [show (6 : Int32) * nI c = nI (6 * c) from by rw [show (6 : Int32) = nI 6 from rfl, pk_mul]]; exact in_nI (by omega) (by decide)
theorem t6 {c : Nat} (hc : c < 8) : (6 * nI c).toNatClampNeg = 6 * c := by
  rw [show (6 : Int32) * nI c = nI (6 * c) from by rw [show (6 : Int32) = nI 6 from rfl, pk_mul]]; exact nI_clamp (by omega)
theorem i56 {e : Nat} (he : e < 4) : inr (56 + nI e) 244 = true := by
  rw [show (56 : Int32) + nI e = nI (56 + e) from by rw [show (56 : Int32) = nI 56 from rfl, nI_add]]; exact in_nI (by omega) (by decide)
theorem t56 {e : Nat} (he : e < 4) : (56 + nI e).toNatClampNeg = 56 + e := by
  rw [show (56 : Int32) + nI e = nI (56 + e) from by rw [show (56 : Int32) = nI 56 from rfl, nI_add]]; exact nI_clamp (by omega)
/-- the model's row g against the county's row f: all but months ruled and treasury -/
def CV (g f : Nat → Int32) : Prop := (∀ c, c < 8 → g (7 * c + 0) = kd f c 0 ∧ g (7 * c + 1) = kd f c 1 ∧ g (7 * c + 2) = kd f c 2 ∧ g (7 * c + 3) = kd f c 6 ∧ g (7 * c + 4) = kd f c 7 ∧ g (7 * c + 5) = kd f c 8) ∧ (∀ e, e < 4 → g (56 + e) = od f e 2) ∧ g 60 = f 97 ∧ g 61 = f 98
/-- what doesn't change while a county stands -/
def SV (m : Sg) (f : Nat → Int32) (nc ne : Nat) : Prop := (∀ c, c < nc → m.1 32 (6 * c + 3) = kd f c 3 ∧ m.1 32 (6 * c + 4) = kd f c 4 ∧ m.1 32 (6 * c + 5) = kd f c 5) ∧ (∀ e, e < ne → m.1 34 (3 * e) = od f e 0 ∧ m.1 34 (3 * e + 1) = od f e 1) ∧ m.1 36 0 = f 92 ∧ m.1 36 1 = f 93 ∧ m.1 36 2 = f 94 ∧ m.1 27 24 = nI nc ∧ m.1 27 25 = nI ne
def wfC (f : Nat → Int32) (c : Nat) (B : Nat) : Prop := (∃ a, a ≤ 99 + B ∧ kd f c 0 = nI a) ∧ (∃ a, a < 512 ∧ kd f c 1 = nI a) ∧ (∃ a, a < 512 ∧ kd f c 2 = nI a) ∧ (∃ a, a < 5 ∧ kd f c 3 = nI a) ∧ (∃ a, 1 ≤ a ∧ a < 10 ∧ kd f c 4 = nI a) ∧ (∃ a, 1 ≤ a ∧ a < 4 ∧ kd f c 5 = nI a) ∧ (kd f c 6 = -1 ∧ kd f c 7 = 0 ∨ (∃ a, a < 9 ∧ kd f c 6 = nI a) ∧ ∃ a, 1 ≤ a ∧ a < 10 ∧ kd f c 7 = nI a) ∧ (∃ a, a < 512 ∧ kd f c 8 = nI a)
def wfE (f : Nat → Int32) (e : Nat) : Prop := (∃ a, a < 10 ∧ od f e 1 = nI a) ∧ ∃ k, k < 10 ∧ od f e 2 = nI (2 ^ k - 1)
/-- a county that has been told; B: at most so many months old -/
def WF (f : Nat → Int32) (nc ne B : Nat) : Prop := (0 < nc ∧ nc ≤ 8) ∧ ne ≤ 4 ∧ f 95 = nI nc ∧ f 96 = nI ne ∧ (∀ c, c < nc → wfC f c B) ∧ (∀ e, e < ne → wfE f e) ∧ (∃ a, a < 100 ∧ f 92 = nI a) ∧ (∃ a, 1 ≤ a ∧ a < 10 ∧ f 93 = nI a) ∧ (∃ a, a < 10 ∧ f 94 = nI a) ∧ (∃ a, a ≤ B ∧ f 97 = nI a) ∧ isI (f 98) nc
theorem has_v {m : Sg} {x : Int32} {t : Nat} : f_X11_has m x (nI t) = some (if b0 x t then 0 else 1, m) := by
  unfold f_X11_has
  by_cases h : b0 x t
  · rw [if_neg (fun e => (b1_iff.mp e) h), if_pos h]
  · rw [if_pos (b1_iff.mpr h), if_neg h]
theorem i64_lt {x y : Int32} : x.toInt64 < y.toInt64 ↔ x < y := by
  rw [Int64.lt_iff_toInt_lt, Int32.lt_iff_toInt_lt, Int32.toInt_toInt64, Int32.toInt_toInt64]
theorem isIn_v {m : Sg} {x lo hi : Int32} {lo' hi' : Int64} (h1 : lo' = lo.toInt64) (h2 : hi' = hi.toInt64) : f_X11_isIn m x.toInt64 lo' hi' = some (if x < lo then 0 else if hi < x then 0 else 1, m) := by
  subst h1; subst h2
  have c1 : lg_cmp x.toInt64 lo.toInt64 < 0 ↔ x < lo := by
    unfold lg_cmp
    by_cases a : lo < x
    · rw [if_pos (i64_lt.mpr a)]; simp; exact Int32.le_of_lt a
    · rw [if_neg (fun q => a (i64_lt.mp q))]
      by_cases b : x = lo
      · rw [if_pos (by rw [b])]; simp [b]
      · rw [if_neg (fun q => b (Int32.toInt_inj.mp (by have z := congrArg Int64.toInt q; rwa [Int32.toInt_toInt64, Int32.toInt_toInt64] at z)))]
        simp
        have z : x.toInt ≠ lo.toInt := fun q => b (Int32.toInt_inj.mp q)
        rw [Int32.lt_iff_toInt_lt] at a ⊢
        omega
  have c2 : 0 < lg_cmp x.toInt64 hi.toInt64 ↔ hi < x := by
    unfold lg_cmp
    by_cases a : hi < x
    · rw [if_pos (i64_lt.mpr a)]; simp [a]
    · rw [if_neg (fun q => a (i64_lt.mp q))]
      split <;> simp [a]
  unfold f_X11_isIn
  simp only [c1, c2]
  split
  · rfl
  · split <;> rfl
section
variable {m : Sg} {w : Nat} {f : Nat → Int32} {nc ne B c e : Nat}
theorem mRight_v (hv : CV (m.1 w) f) (hc : c < 8) : f_X11_rightOf w m (nI c) = some (rt f c, m) := by
  simp only [f_X11_rightOf, i7_1 hc, i7_2 hc, t7_1 hc, t7_2 hc, if_true, (hv.1 c hc).2.1, (hv.1 c hc).2.2.1]; rfl
def asF (K p : Int32) (t : Nat) (x : Int32) : Int32 := x ||| (if b0 K t then (0 : Int32) else if nI t - nI t / p * p = 0 then (1 : Int32) <<< (nI t &&& 31) else 0)
theorem asks_v {K p : Int32} {u : Nat} (hu : u < 10) (h1 : m.1 36 1 = nI u) (he : e < 4) (hK : m.1 w (56 + e) = K) (hp : p ≠ 0) : f_X11_asks w m (nI e) p = some (itr (asF K p) 0 u, m) := by
  unfold f_X11_asks
  rw [show (m, (0 : Int32), (0 : Int32)) = (fun i => (m, itr (asF K p) 0 i, nI i)) 0 from rfl, lpk_seq (S := fun i => (m, itr (asF K p) 0 i, nI i)) (x := (m, itr (asF K p) 0 u)) u ?_ ?_ (by omega)]
  · intro i hi
    simp only [f_X11_asks_L6, h1, if_neg (ix_lt hi (by omega)), i56 he, t56 he, hK, if_true, has_v, cal_eq, bnd_eq, nI_1, itr, asF]
    by_cases h : b0 K i
    · simp only [if_pos h, if_true]
    · simp only [if_neg h, if_neg (show ¬ (1 : Int32) = 0 by decide), decide_eq_false hp, Bool.not_false, if_true]
      split <;> rfl
  · simp only [f_X11_asks_L6, h1, if_pos (nI_le (Nat.le_refl u) (show u < 2 ^ 31 by omega))]
theorem as_fin : ∀ k, k < 10 → ∀ u, u < 10 → ∀ p, p < 3 → itr (asF (nI (2 ^ k - 1)) (nI (p + 1))) 0 u = bst (nI (2 ^ k - 1) &&& ((1 <<< (nI u &&& 31)) - 1)) (nI (p + 1)) := by decide +kernel
theorem asksBy_v (hv : CV (m.1 w) f) (hs : SV m f nc ne) (hf : WF f nc ne B) (he : e < ne) {p : Nat} (h0 : 1 ≤ p) (hp : p < 4) : f_X11_asks w m (nI e) (nI p) = some (bst (ask f e) (nI p), m) := by
  obtain ⟨u, u0, u1, u2⟩ := hf.2.2.2.2.2.2.2.1
  obtain ⟨k, k1, k2⟩ := (hf.2.2.2.2.2.1 e he).2
  have he4 : e < 4 := Nat.lt_of_lt_of_le he hf.2.1
  have e1 : m.1 36 1 = nI u := by rw [hs.2.2.2.1, u2]
  rw [asks_v u1 e1 he4 (hv.2.1 e he4) (nI_ne0 h0 (by omega)), k2]
  have := as_fin k k1 u u1 (p - 1) (by omega)
  rw [show p - 1 + 1 = p by omega] at this
  rw [this]
  unfold ask tri
  rw [k2, u2]
theorem mSlips_v (hv : CV (m.1 w) f) (hs : SV m f nc ne) (hf : WF f nc ne B) (hc : c < nc) (he : e < ne) : f_X11_slipsOf w m (nI c) (nI e) = some (wnt f c e, m) := by
  have hc8 : c < 8 := Nat.lt_of_lt_of_le hc hf.1.2
  obtain ⟨p, p0, p1, p2⟩ := (hf.2.2.2.2.1 c hc).2.2.2.2.2.1
  simp only [f_X11_slipsOf, i6_5 hc8, t6_5 hc8, if_true, (hs.1 c hc).2.2, p2, asksBy_v hv hs hf he p0 p1, mRight_v hv hc8, cal_eq]
  unfold wnt lck rt
  rw [p2, not_right]
theorem mExam_v {a : Int32} (hv : CV (m.1 w) f) (hs : SV m f nc ne) (hf : WF f nc ne B) : f_X11_examinerOf w m a = some (trW f a ne, m) := by
  have hn := hf.2.1
  have hE : m.1 27 25 = nI ne := hs.2.2.2.2.2.2
  unfold f_X11_examinerOf
  rw [show (m, (-1 : Int32), (0 : Int32)) = (fun i => (m, itr (trF f a) (-1) i, nI i)) 0 from rfl, lpk_seq (S := fun i => (m, itr (trF f a) (-1) i, nI i)) (x := (m, trW f a ne)) ne ?_ ?_ (by omega)]
  · intro i hi
    have hi4 : i < 4 := by omega
    have e1 : f_X11_asks w m (nI i) 1 = some (ask f i, m) := asksBy_v (p := 1) hv hs hf hi (by decide) (by decide)
    simp only [f_X11_examinerOf_L5, hE, if_neg (ix_lt hi (by omega)), has_v, bnd_eq, nI_1, e1, cal_eq, itr]
    generalize hx : itr (trF f a) (-1) i = x
    have hI : isI x i := hx ▸ itr_isI trF_or i
    unfold trF
    by_cases h1 : b0 a i
    · simp only [if_pos h1, if_true]
      by_cases h2 : ask f i = 0
      · simp only [if_pos h2]
      · simp only [if_neg h2]
        rcases hI with h3 | ⟨d, hd, h3⟩
        · simp only [if_pos h3]
        · subst h3
          have hd4 : d < 4 := by omega
          simp only [if_neg (nI_m1 (show d < 2 ^ 31 by omega)), i3_0 hi4, i3_0 hd4, t3_0 hi4, t3_0 hd4, if_true, (hs.2.1 i hi).1, (hs.2.1 d (by omega)).1, nI_clamp (show d < 2 ^ 31 by omega)]
          split <;> rfl
    · simp only [if_neg h1, if_neg (show ¬ (1 : Int32) = 0 by decide)]
  · simp only [f_X11_examinerOf_L5, hE, if_pos (nI_le (Nat.le_refl ne) (show ne < 2 ^ 31 by omega))]; rfl
theorem mCount_v (hv : CV (m.1 w) f) (hc : c < 8) : f_X11_countOf w m (nI c) = some (cnt f c, m) := by
  unfold f_X11_countOf
  rw [show (m, (0 : Int32)) = (fun i => (m, nI i)) 0 from rfl, lpk_scn (S := fun i => (m, nI i)) (P := fun i => (if b0 (rt f c ^^^ (-1)) i then none else some (nI i)).map (fun t => (m, t))) (y := (m, 9)) 9 ?_ ?_ (by decide)]
  · rw [scn_map]
    unfold cnt
    cases h : scn (fun t => if b0 (rt f c ^^^ (-1)) t then none else some (nI t)) 0 9 with
    | none =>
      have hl : lowT (rt f c ^^^ (-1)) = -1 := by unfold lowT; rw [h]; rfl
      rw [hl]; rfl
    | some x =>
      have hx : ∀ k i, scn (fun t => if b0 (rt f c ^^^ (-1)) t then none else some (nI t)) i k = some x → i + k ≤ 9 → ∃ t, t < 9 ∧ x = nI t := by
        intro k
        induction k with
        | zero => intro i h; cases h
        | succ k ih =>
          intro i h hk
          rw [scn] at h
          by_cases q : b0 (rt f c ^^^ (-1)) i
          · simp only [if_pos q] at h; exact ih (i + 1) h (by omega)
          · simp only [if_neg q] at h; exact ⟨i, by omega, by cases h; rfl⟩
      obtain ⟨t, t1, t2⟩ := hx 9 0 h (by decide)
      have hl : lowT (rt f c ^^^ (-1)) = nI t := by unfold lowT; rw [h, t2]; rfl
      rw [hl, if_neg (nI_m1 (show t < 2 ^ 31 by omega)), t2]; rfl
  · intro q hq
    simp only [f_X11_countOf_L2, if_neg (show ¬ (9 : Int32) ≤ nI q from ix_lt (n := 9) hq (by decide)), mRight_v hv hc, has_v, cal_eq, bnd_eq, nI_1]
    by_cases h : b0 (rt f c) q
    · simp only [if_pos h, if_true, if_neg (fun z => (b0_not (show q < 32 by omega)).mp z h)]; rfl
    · simp only [if_neg h, if_neg (show ¬ (1 : Int32) = 0 by decide), if_pos ((b0_not (show q < 32 by omega)).mpr h)]; rfl
  · rfl
end
