/-! feed -/
section
variable {nl B B' L : Nat} {ln : Nat → Nat} {m m1 m2 m' : Sg} {j w u : Nat} {a a1 a2 a3 a4 a5 r s law x : Int32} {l l' : List Nat}
/-- the shift of byte i -/
def shf (i : Nat) : Int32 := if i = 0 then 24 else if i = 1 then 16 else if i = 2 then 8 else if i = 3 then 0 else -8
/-- byte i of a number -/
def byN (a : Int32) (i : Nat) : Nat := a.toBitVec.toNat / 2 ^ (24 - 8 * i) % 256
theorem sar_byte {t : Nat} (ht : t ≤ 24) : (a >>> (nI t &&& 31)) &&& 255 = nI (a.toBitVec.toNat / 2 ^ t % 256) := by
  have e1 : (a >>> (nI t &&& 31)).toBitVec = a.toBitVec.sshiftRight t := by
    rw [Int32.toBitVec_shiftRight]; unfold BitVec.sshiftRight'; rw [sh_amt t (by omega)]
  rw [pk_and _ (m := 255) 8 rfl, e1]
  congr 1
  apply Nat.eq_of_testBit_eq
  intro i
  rw [show 2 ^ 8 = 2 ^ 8 from rfl, show 256 = 2 ^ 8 from rfl, Nat.testBit_mod_two_pow, Nat.testBit_mod_two_pow, Nat.testBit_div_two_pow]
  by_cases hi : i < 8
  · have this : (a.toBitVec.sshiftRight t).getLsbD i = a.toBitVec.getLsbD (t + i) := by
      rw [BitVec.getLsbD_sshiftRight, if_pos (show t + i < 32 by omega), decide_eq_false (show ¬ 32 ≤ i by omega)]
      rfl
    rw [BitVec.getLsbD, BitVec.getLsbD] at this
    rw [this]
    simp [hi, Nat.add_comm]
  · simp [hi]
theorem sar_b {i : Nat} (hi : i < 4) : (a >>> (shf i &&& 31)) &&& 255 = nI (byN a i) := by
  rcases (show i = 0 ∨ i = 1 ∨ i = 2 ∨ i = 3 by omega) with h | h | h | h <;> subst h
  · exact sar_byte (t := 24) (by decide)
  · exact sar_byte (t := 16) (by decide)
  · exact sar_byte (t := 8) (by decide)
  · exact sar_byte (t := 0) (by decide)
theorem shr_b {i : Nat} (hi : i < 4) : (((a : Int32).toUInt32 >>> ((shf i : Int32).toUInt32 &&& Int32.toUInt32 31)).toInt32) &&& 255 = nI (byN a i) := by
  rw [pk_and _ (m := 255) 8 rfl]
  unfold byN
  rcases (show i = 0 ∨ i = 1 ∨ i = 2 ∨ i = 3 by omega) with h | h | h | h <;> subst h
  · rw [pk_ushr a (shf 0) 24 rfl]
  · rw [pk_ushr a (shf 1) 16 rfl]
  · rw [pk_ushr a (shf 2) 8 rfl]
  · rw [pk_ushr a (shf 3) 0 rfl]
theorem t8_and (x : Int32) : x.toInt8 = (x &&& 255).toInt8 := by
  apply Int8.toBitVec_inj.mp
  rw [Int32.toBitVec_toInt8, Int32.toBitVec_toInt8, Int32.toBitVec_and]
  apply BitVec.eq_of_getLsbD_eq
  intro i hi
  have h255 : (255 : Int32).toBitVec.getLsbD i = true := by
    have : ∀ i, i < 8 → (255 : Int32).toBitVec.getLsbD i = true := by decide
    exact this i hi
  rw [BitVec.getLsbD_signExtend, BitVec.getLsbD_signExtend, BitVec.getLsbD_and, h255, if_pos (show i < 32 by omega), if_pos (show i < 32 by omega), Bool.and_true]
theorem byN_lt {i : Nat} : byN a i < 256 := Nat.mod_lt _ (by decide)
/-- bytes of the first i that aren't 0 -/
def nzb (a : Int32) : Nat → List Nat
  | 0 => []
  | i + 1 => nzb a i ++ (if byN a i = 0 then [] else [byN a i])
theorem nzb_len : ∀ i, (nzb a i).length ≤ i
  | 0 => Nat.le_refl _
  | i + 1 => by
    have := nzb_len i
    rw [nzb, List.length_append]
    split <;> simp <;> omega
theorem nzb_in : ∀ i, ∀ b, b ∈ nzb a i → 0 < b ∧ b < 256
  | 0, b, h => by simp [nzb] at h
  | i + 1, b, h => by
    rw [nzb, List.mem_append] at h
    rcases h with h | h
    · exact nzb_in i b h
    · have hb := byN_lt (a := a) (i := i)
      split at h
      · simp at h
      · simp at h; subst h; omega
def apC (m : Sg) : Nat → List Nat → Sg
  | _, [] => m
  | L, b :: t => apC (wr (wr m 2 L (nI b)) 1 1 (nI (L + 1))) (L + 1) t
def apM (m : Sg) : Nat → List Nat → Sg
  | _, [] => m
  | L, b :: t => apM (wr (wr m 28 L (sb (nI b))) 27 6 (nI (L + 1))) (L + 1) t
theorem apC_app : ∀ (l : List Nat) (m : Sg) (L : Nat) (l' : List Nat), apC m L (l ++ l') = apC (apC m L l) (L + l.length) l'
  | [], m, L, l' => rfl
  | b :: t, m, L, l' => by
    rw [List.cons_append, apC, apC_app t, apC, List.length_cons, show L + 1 + t.length = L + (t.length + 1) by omega]
theorem apM_app : ∀ (l : List Nat) (m : Sg) (L : Nat) (l' : List Nat), apM m L (l ++ l') = apM (apM m L l) (L + l.length) l'
  | [], m, L, l' => rfl
  | b :: t, m, L, l' => by
    rw [List.cons_append, apM, apM_app t, apM, List.length_cons, show L + 1 + t.length = L + (t.length + 1) by omega]
theorem apC_11 : ∀ (l : List Nat) (m : Sg) (L : Nat), m.1 1 1 = nI L → (apC m L l).1 1 1 = nI (L + l.length)
  | [], m, L, h => h
  | b :: t, m, L, h => by
    rw [apC, apC_11 t _ (L + 1) (by rw [wr_at, pk_us]), List.length_cons, show L + 1 + t.length = L + (t.length + 1) by omega]
theorem apM_276 : ∀ (l : List Nat) (m : Sg) (L : Nat), m.1 27 6 = nI L → (apM m L l).1 27 6 = nI (L + l.length)
  | [], m, L, h => h
  | b :: t, m, L, h => by
    rw [apM, apM_276 t _ (L + 1) (by rw [wr_at, pk_us]), List.length_cons, show L + 1 + t.length = L + (t.length + 1) by omega]
theorem apC_o {p k : Nat} : ∀ (l : List Nat) (m : Sg) (L : Nat), (p ≠ 2 ∨ k < L) → (p ≠ 1 ∨ k ≠ 1) → (apC m L l).1 p k = m.1 p k
  | [], m, L, _, _ => rfl
  | b :: t, m, L, h, h' => by
    rw [apC, apC_o t _ (L + 1) (by omega) h']
    by_cases z : p = 1
    · subst z
      rw [wr_at, pk_un (by omega), wr_ne (by decide)]
    · rw [wr_ne z]
      by_cases y : p = 2
      · subst y; rw [wr_at, pk_un (by omega)]
      · rw [wr_ne y]
theorem apM_o {p k : Nat} : ∀ (l : List Nat) (m : Sg) (L : Nat), (p ≠ 28 ∨ k < L) → (p ≠ 27 ∨ k ≠ 6) → (apM m L l).1 p k = m.1 p k
  | [], m, L, _, _ => rfl
  | b :: t, m, L, h, h' => by
    rw [apM, apM_o t _ (L + 1) (by omega) h']
    by_cases z : p = 27
    · subst z
      rw [wr_at, pk_un (by omega), wr_ne (by decide)]
    · rw [wr_ne z]
      by_cases y : p = 28
      · subst y; rw [wr_at, pk_un (by omega)]
      · rw [wr_ne y]
theorem apC_2 : ∀ (l : List Nat) (m : Sg) (L i b : Nat), l[i]? = some b → (apC m L l).1 2 (L + i) = nI b
  | [], m, L, i, b, h => by simp at h
  | q :: t, m, L, 0, b, h => by
    simp at h; subst h
    rw [apC, apC_o t _ (L + 1) (by omega) (by omega), wr_ne (by decide), wr_at]
    exact pk_us
  | q :: t, m, L, i + 1, b, h => by
    rw [apC, show L + (i + 1) = L + 1 + i by omega]
    exact apC_2 t _ (L + 1) i b (by simpa using h)
theorem apM_28 : ∀ (l : List Nat) (m : Sg) (L i b : Nat), l[i]? = some b → (apM m L l).1 28 (L + i) = sb (nI b)
  | [], m, L, i, b, h => by simp at h
  | q :: t, m, L, 0, b, h => by
    simp at h; subst h
    rw [apM, apM_o t _ (L + 1) (by omega) (by omega), wr_ne (by decide), wr_at]
    exact pk_us
  | q :: t, m, L, i + 1, b, h => by
    rw [apM, show L + (i + 1) = L + 1 + i by omega]
    exact apM_28 t _ (L + 1) i b (by simpa using h)
theorem shf_1 {i : Nat} (hi : i < 4) : shf i + (-8) = shf (i + 1) := by
  rcases (show i = 0 ∨ i = 1 ∨ i = 2 ∨ i = 3 by omega) with h | h | h | h <;> subst h <;> rfl
theorem shf_0 {i : Nat} (hi : i < 4) : ¬ shf i < 0 := by
  rcases (show i = 0 ∨ i = 1 ∨ i = 2 ∨ i = 3 by omega) with h | h | h | h <;> subst h <;> decide
theorem byN_0 {i : Nat} : nI (byN a i) = 0 ↔ byN a i = 0 := by
  have hb := byN_lt (a := a) (i := i)
  constructor
  · intro h
    exact (nI_eq (a := byN a i) (b := 0) (by omega) (by decide)).mp h
  · intro h; rw [h]; rfl
theorem filled_v : f_X9_filled m a = some (nI (nzb a 4).length, m) := by
  unfold f_X9_filled
  rw [show (m, (0 : Int32), (24 : Int32)) = (fun i => (m, nI (nzb a i).length, shf i)) 0 from rfl, lpk_seq (S := fun i => (m, nI (nzb a i).length, shf i)) (x := (m, nI (nzb a 4).length)) 4 ?_ ?_ (by decide)]
  · intro i hi
    simp only [f_X9_filled_L5, if_neg (shf_0 hi), bnd_eq, shr_b hi, byN_0, shf_1 hi, nzb]
    by_cases h : byN a i = 0
    · rw [if_pos h, if_pos h, List.append_nil]
    · rw [if_neg h, if_neg h, nI_1, List.length_append]; rfl
  · rfl
theorem bytesIn_v : f_X11_bytesIn m a = some (nI (nzb a 4).length, m) := by
  unfold f_X11_bytesIn
  rw [show (m, (0 : Int32), (24 : Int32)) = (fun i => (m, nI (nzb a i).length, shf i)) 0 from rfl, lpk_seq (S := fun i => (m, nI (nzb a i).length, shf i)) (x := (m, nI (nzb a 4).length)) 4 ?_ ?_ (by decide)]
  · intro i hi
    simp only [f_X11_bytesIn_L5, if_neg (shf_0 hi), bnd_eq, sar_b hi, byN_0, shf_1 hi, nzb]
    by_cases h : byN a i = 0
    · rw [if_pos h, if_pos h, List.append_nil, Int32.add_zero]
    · rw [if_neg h, if_neg h, nI_1, List.length_append]; rfl
  · rfl
theorem add_v (h : m.1 1 1 = nI L) (hL : L + (nzb a 4).length ≤ 240) : f_X9_add m a = some (apC m L (nzb a 4)) := by
  unfold f_X9_add
  rw [show (m, (24 : Int32)) = (fun i => (apC m L (nzb a i), shf i)) 0 from rfl, lpk_seq (S := fun i => (apC m L (nzb a i), shf i)) (x := apC m L (nzb a 4)) 4 ?_ ?_ (by decide)]
  · intro i hi
    have hn : (nzb a (i + 1)).length ≤ (nzb a 4).length := by
      have : ∀ q k, (nzb a q).length ≤ (nzb a (q + k)).length := by
        intro q k
        induction k with
        | zero => exact Nat.le_refl _
        | succ k ih => rw [show q + (k + 1) = q + k + 1 by omega, nzb, List.length_append]; omega
      have := this (i + 1) (4 - (i + 1))
      rwa [show i + 1 + (4 - (i + 1)) = 4 by omega] at this
    have e1 := apC_11 (nzb a i) m L h
    simp only [f_X9_add_L3, if_neg (shf_0 hi), bnd_eq, shr_b hi, byN_0, shf_1 hi, e1]
    rw [nzb] at hn ⊢
    by_cases z : byN a i = 0
    · rw [if_pos z, if_pos z, List.append_nil]
    · rw [if_neg z] at hn
      rw [List.length_append] at hn
      have hq : L + (nzb a i).length < 240 := by simp at hn; omega
      rw [if_neg z, if_neg z, if_neg (show ¬ (240 : Int32) ≤ nI (L + (nzb a i).length) from ix_lt (n := 240) hq (by decide)), in_nI hq (by decide), if_pos rfl, nI_clamp (by omega), apC_app, wr_ne (show 1 ≠ 2 by decide), e1, nI_1]
      rfl
  · rfl
theorem put_v2 (h : m.1 27 6 = nI L) (hL : L + (nzb a 4).length ≤ 240) : f_X11_put m a = some (apM m L (nzb a 4)) := by
  unfold f_X11_put
  rw [show (m, (24 : Int32)) = (fun i => (apM m L (nzb a i), shf i)) 0 from rfl, lpk_seq (S := fun i => (apM m L (nzb a i), shf i)) (x := apM m L (nzb a 4)) 4 ?_ ?_ (by decide)]
  · intro i hi
    have hn : (nzb a (i + 1)).length ≤ (nzb a 4).length := by
      have : ∀ q k, (nzb a q).length ≤ (nzb a (q + k)).length := by
        intro q k
        induction k with
        | zero => exact Nat.le_refl _
        | succ k ih => rw [show q + (k + 1) = q + k + 1 by omega, nzb, List.length_append]; omega
      have := this (i + 1) (4 - (i + 1))
      rwa [show i + 1 + (4 - (i + 1)) = 4 by omega] at this
    have e1 := apM_276 (nzb a i) m L h
    have e2 : vp_nar .byte ((a >>> (shf i &&& 31) : Int32).toInt8.toInt32) = sb (nI (byN a i)) := by
      rw [pk_vb, t8_and, sar_b hi]; rfl
    simp only [f_X11_put_L3, if_neg (shf_0 hi), bnd_eq, sar_b hi, byN_0, shf_1 hi, e1, e2]
    rw [nzb] at hn ⊢
    by_cases z : byN a i = 0
    · rw [if_pos z, if_pos z, List.append_nil]
    · rw [if_neg z] at hn
      rw [List.length_append] at hn
      have hq : L + (nzb a i).length < 240 := by simp at hn; omega
      rw [if_neg z, if_neg z, in_nI hq (by decide), if_pos rfl, nI_clamp (by omega), apM_app, wr_ne (show 27 ≠ 28 by decide), e1, nI_1]
      rfl
  · rfl
theorem q_feed (R : Rel nl ln B m) : QQ nl ln B (f_X10_feed m a1 a2 a3 a4 a5) (fun m1 => f_X11_feed m1 a1 a2 a3 a4 a5) := by
  obtain ⟨L, l1, l2, l3, l4⟩ := R.1
  have n1 := nzb_len (a := a1) 4
  have n2 := nzb_len (a := a2) 4
  have n3 := nzb_len (a := a3) 4
  have n4 := nzb_len (a := a4) 4
  have n5 := nzb_len (a := a5) 4
  have i1 := nzb_in (a := a1) 4
  have i2 := nzb_in (a := a2) 4
  have i3 := nzb_in (a := a3) 4
  have i4 := nzb_in (a := a4) 4
  have i5 := nzb_in (a := a5) 4
  have v1 : ∀ m : Sg, m.1 1 1 = nI L → f_X10_feed m a1 a2 a3 a4 a5 = if nI (L + ((nzb a1 4).length + (nzb a2 4).length + (nzb a3 4).length + (nzb a4 4).length + (nzb a5 4).length)) ≤ 240 then calv (f_X9_add m a1) (fun m14 => calv (f_X9_add m14 a2) (fun m15 => calv (f_X9_add m15 a3) (fun m16 => calv (f_X9_add m16 a4) (fun m17 => calv (f_X9_add m17 a5) (fun m18 => cal (f_X9_size m18) (fun x20 m19 => some (x20, m19))))))) else some (-1, m) := by
    intro m h
    simp only [f_X10_feed, filled_v, cal_eq, bnd_eq, f_X9_size, h, nI_add]
  have v2 : ∀ m : Sg, m.1 27 6 = nI L → f_X11_feed m a1 a2 a3 a4 a5 = if nI (L + ((nzb a1 4).length + (nzb a2 4).length + (nzb a3 4).length + (nzb a4 4).length + (nzb a5 4).length)) ≤ 240 then calv (f_X11_put (wr m 27 0 0) a1) (fun m12 => calv (f_X11_put m12 a2) (fun m13 => calv (f_X11_put m13 a3) (fun m14 => calv (f_X11_put m14 a4) (fun m15 => calv (f_X11_put m15 a5) (fun m16 => some (m16.1 27 6, m16)))))) else some (-1, wr m 27 0 0) := by
    intro m h
    have e : (wr m 27 0 0).1 27 6 = nI L := h
    simp only [f_X11_feed, bytesIn_v, cal_eq, bnd_eq, e, nI_add]
    rw [show L + (nzb a1 4).length + (nzb a2 4).length + (nzb a3 4).length + (nzb a4 4).length + (nzb a5 4).length = L + ((nzb a1 4).length + (nzb a2 4).length + (nzb a3 4).length + (nzb a4 4).length + (nzb a5 4).length) by omega]
  generalize ha1 : nzb a1 4 = b1 at *
  generalize ha2 : nzb a2 4 = b2 at *
  generalize ha3 : nzb a3 4 = b3 at *
  generalize ha4 : nzb a4 4 = b4 at *
  generalize ha5 : nzb a5 4 = b5 at *
  by_cases q : L + (b1.length + b2.length + b3.length + b4.length + b5.length) ≤ 240
  · have q1 : nI (L + (b1.length + b2.length + b3.length + b4.length + b5.length)) ≤ 240 := nI_le (b := 240) q (by decide)
    let bs := b1 ++ (b2 ++ (b3 ++ (b4 ++ b5)))
    have bl : bs.length = b1.length + b2.length + b3.length + b4.length + b5.length := by
      show (b1 ++ (b2 ++ (b3 ++ (b4 ++ b5)))).length = _
      simp only [List.length_append]; omega
    have o1 : f_X10_feed m a1 a2 a3 a4 a5 = some (nI (L + bs.length), apC m L bs) := by
      have s1 := apC_11 b1 m L l2
      have s2 := apC_11 b2 _ _ s1
      have s3 := apC_11 b3 _ _ s2
      have s4 := apC_11 b4 _ _ s3
      have s5 := apC_11 b5 _ _ s4
      have t1 : f_X9_add m a1 = _ := add_v l2 (by rw [ha1]; omega)
      have t2 : f_X9_add _ a2 = _ := add_v s1 (by rw [ha2]; omega)
      have t3 : f_X9_add _ a3 = _ := add_v s2 (by rw [ha3]; omega)
      have t4 : f_X9_add _ a4 = _ := add_v s3 (by rw [ha4]; omega)
      have t5 : f_X9_add _ a5 = _ := add_v s4 (by rw [ha5]; omega)
      rw [ha1] at t1
      rw [ha2] at t2
      rw [ha3] at t3
      rw [ha4] at t4
      rw [ha5] at t5
      rw [v1 m l2, if_pos q1, t1, calv_eq, t2, calv_eq, t3, calv_eq, t4, calv_eq, t5, calv_eq]
      simp only [f_X9_size, cal_eq, s5]
      show _ = some (nI (L + bs.length), apC m L (b1 ++ (b2 ++ (b3 ++ (b4 ++ b5)))))
      rw [apC_app, apC_app, apC_app, apC_app, bl]
      congr 3
      omega
    have e6 : (apC m L bs).1 27 6 = nI L := by rw [apC_o _ _ _ (by omega) (by omega), l3]
    have e6' : (wr (apC m L bs) 27 0 0).1 27 6 = nI L := e6
    have o2 : f_X11_feed (apC m L bs) a1 a2 a3 a4 a5 = some (nI (L + bs.length), apM (wr (apC m L bs) 27 0 0) L bs) := by
      have s1 := apM_276 b1 _ L e6'
      have s2 := apM_276 b2 _ _ s1
      have s3 := apM_276 b3 _ _ s2
      have s4 := apM_276 b4 _ _ s3
      have s5 := apM_276 b5 _ _ s4
      have t1 : f_X11_put _ a1 = _ := put_v2 e6' (by rw [ha1]; omega)
      have t2 : f_X11_put _ a2 = _ := put_v2 s1 (by rw [ha2]; omega)
      have t3 : f_X11_put _ a3 = _ := put_v2 s2 (by rw [ha3]; omega)
      have t4 : f_X11_put _ a4 = _ := put_v2 s3 (by rw [ha4]; omega)
      have t5 : f_X11_put _ a5 = _ := put_v2 s4 (by rw [ha5]; omega)
      rw [ha1] at t1
      rw [ha2] at t2
      rw [ha3] at t3
      rw [ha4] at t4
      rw [ha5] at t5
      rw [v2 _ e6, if_pos q1, t1, calv_eq, t2, calv_eq, t3, calv_eq, t4, calv_eq, t5, calv_eq]
      simp only [s5]
      show _ = some (nI (L + bs.length), apM (wr (apC m L bs) 27 0 0) L (b1 ++ (b2 ++ (b3 ++ (b4 ++ b5)))))
      rw [apM_app, apM_app, apM_app, apM_app, bl]
      congr 3
      omega
    have ok : ∀ p k, p ≠ 1 → p ≠ 2 → p ≠ 28 → (p ≠ 27 ∨ k ≠ 6 ∧ k ≠ 0) → (apM (wr (apC m L bs) 27 0 0) L bs).1 p k = m.1 p k := by
      intro p k h1 h2 h3 h4
      rw [apM_o _ _ _ (by omega) (by omega)]
      by_cases z : p = 27
      · subst z; rw [wr_at, pk_un (by omega), apC_o _ _ _ (by omega) (by omega)]
      · rw [wr_ne z, apC_o _ _ _ (by omega) (by omega)]
    have op : ∀ p, p ≠ 1 → p ≠ 2 → p ≠ 28 → p ≠ 27 → (apM (wr (apC m L bs) 27 0 0) L bs).1 p = m.1 p := fun p h1 h2 h3 h4 => funext fun k => ok p k h1 h2 h3 (Or.inl h4)
    refine ⟨_, _, _, o1, o2, ⟨L + bs.length, by omega, ?_, apM_276 _ _ _ e6', ?_⟩, ?_, ?_, ?_, CL_told ?_ R.2.2.2.2⟩
    · rw [apM_o _ _ _ (by omega) (by omega), wr_ne (by decide), apC_11 _ _ _ l2]
    · intro k hk
      by_cases z : k < L
      · rw [apM_o _ _ _ (by omega) (by omega), apM_o _ _ _ (by omega) (by omega), wr_ne (by decide), wr_ne (by decide), apC_o _ _ _ (by omega) (by omega), apC_o _ _ _ (by omega) (by omega)]
        exact l4 k z
      · have hb : k - L < bs.length := by omega
        obtain ⟨b, hb'⟩ : ∃ b, bs[k - L]? = some b := ⟨bs[k - L], List.getElem?_eq_getElem hb⟩
        have hm : b ∈ bs := List.mem_of_getElem? hb'
        have hr : 0 < b ∧ b < 256 := by
          have hm' : b ∈ b1 ++ (b2 ++ (b3 ++ (b4 ++ b5))) := hm
          simp only [List.mem_append] at hm'
          rcases hm' with z | z | z | z | z
          · exact i1 b z
          · exact i2 b z
          · exact i3 b z
          · exact i4 b z
          · exact i5 b z
        refine ⟨b, hr.1, hr.2, ?_, ?_⟩
        · rw [apM_o _ _ _ (by omega) (by omega), wr_ne (by decide)]
          have := apC_2 bs m L (k - L) b hb'
          rwa [show L + (k - L) = k by omega] at this
        · have := apM_28 bs (wr (apC m L bs) 27 0 0) L (k - L) b hb'
          rwa [show L + (k - L) = k by omega] at this
    · obtain ⟨V, v⟩ := R.2.1
      refine ⟨V, ?_⟩
      unfold LawR at v ⊢
      rw [op 13 (by decide) (by decide) (by decide) (by decide), ok 27 7 (by decide) (by decide) (by decide) (by decide), ok 27 31 (by decide) (by decide) (by decide) (by decide), op 29 (by decide) (by decide) (by decide) (by decide), op 30 (by decide) (by decide) (by decide) (by decide)]
      refine ⟨v.1, v.2.1, v.2.2.1, v.2.2.2.1, v.2.2.2.2.1, fun k hk => ?_⟩
      rw [op (46 + 3 * k) (by omega) (by omega) (by omega) (by omega)]
      exact v.2.2.2.2.2 k hk
    · rw [ok 27 32 (by decide) (by decide) (by decide) (by decide), op 0 (by decide) (by decide) (by decide) (by decide)]; exact R.2.2.1
    · rw [ok 27 34 (by decide) (by decide) (by decide) (by decide)]; exact R.2.2.2.1
    · exact ⟨op 4 (by decide) (by decide) (by decide) (by decide), op 17 (by decide) (by decide) (by decide) (by decide), op 18 (by decide) (by decide) (by decide) (by decide), op 19 (by decide) (by decide) (by decide) (by decide), op 20 (by decide) (by decide) (by decide) (by decide), op 32 (by decide) (by decide) (by decide) (by decide), op 34 (by decide) (by decide) (by decide) (by decide), op 36 (by decide) (by decide) (by decide) (by decide), op 38 (by decide) (by decide) (by decide) (by decide), op 41 (by decide) (by decide) (by decide) (by decide), op 43 (by decide) (by decide) (by decide) (by decide), ok 16 4 (by decide) (by decide) (by decide) (by decide), ok 16 5 (by decide) (by decide) (by decide) (by decide), ok 16 6 (by decide) (by decide) (by decide) (by decide), ok 27 24 (by decide) (by decide) (by decide) (by decide), ok 27 25 (by decide) (by decide) (by decide) (by decide), ok 27 39 (by decide) (by decide) (by decide) (by decide), ok 27 45 (by decide) (by decide) (by decide) (by decide)⟩
  · have q1 : ¬ nI (L + (b1.length + b2.length + b3.length + b4.length + b5.length)) ≤ 240 := nI_ge (a := 240) (by omega) (by omega)
    exact QQ_q R (r := -1) (m1 := m) (m2 := wr m 27 0 0) (by rw [v1 m l2, if_neg q1]) Fr.rf (by show f_X11_feed m a1 a2 a3 a4 a5 = _; rw [v2 m l3, if_neg q1]) (fr_thr m 0)
end
