/-! plan: rows of tens in their order, the component's; the call -/
section
variable {nl B B' : Nat} {ln : Nat → Nat} {V : Nat → (Nat → Int32) → Int32} {m m1 m2 m' : Sg} {j w u : Nat} {a a1 a2 a3 a4 r law x mo o : Int32} {f f' f0 F G K g g' : Nat → Int32} {nc ne c d e t M n i s l y h L q row k W : Nat} {ts pre : List Nat} {p : Int32 × Int32 × Int32} {v : List Nat → Int32}
theorem itr_add {α : Type} {F : Nat → α → α} {a : α} (p : Nat) : ∀ k, itr F a (p + k) = itr (fun r y => F (p + r) y) (itr F a p) k
  | 0 => rfl
  | k + 1 => by
    show F (p + k) (itr F a (p + k)) = F (p + k) (itr _ _ k)
    rw [itr_add p k]
theorem itr_mul {α : Type} {F : Nat → α → α} {a : α} (k : Nat) : ∀ n, itr F a (n * k) = itr (fun t x => itr (fun r y => F (t * k + r) y) x k) a n
  | 0 => by rw [Nat.zero_mul]; rfl
  | n + 1 => by
    rw [Nat.succ_mul, itr_add, itr_mul k n]; rfl
theorem itr_idle {α : Type} {F : Nat → α → α} {a : α} : ∀ n, (∀ i, i < n → ∀ x, F i x = x) → itr F a n = a
  | 0, _ => rfl
  | n + 1, h => by
    rw [itr_s, itr_idle n (fun i hi => h i (by omega)), h n (by omega)]
def gR (o : Int32) (v : List Nat → Int32) (L : Nat) (r : Nat) (p : Int32 × Int32 × Int32) : Int32 × Int32 × Int32 := if okB o (dgL L r) = true then upP v (dgL L r) p else p
theorem gp_rows (h9 : b0 o 9) : ∀ k pre p, okP o pre → gpF o v k pre p = itr (fun r p => if okB o (pre ++ dgL k r) = true then upP v (pre ++ dgL k r) p else p) p (10 ^ k) := by
  intro k
  induction k with
  | zero =>
    intro pre p ho
    show upP v pre p = (if okB o (pre ++ []) = true then upP v (pre ++ []) p else p)
    rw [List.append_nil, if_pos (okB_iff.mpr ho)]
  | succ k ih =>
    intro pre p ho
    have hp : 0 < 10 ^ k := Nat.pow_pos (by decide)
    rw [show 10 ^ (k + 1) = 10 * 10 ^ k by rw [Nat.pow_succ, Nat.mul_comm], itr_mul]
    have dg : ∀ t r, r < 10 ^ k → dgL (k + 1) (t * 10 ^ k + r) = t :: dgL k r := by
      intro t r hr
      rw [dgL, Nat.mul_comm t, Nat.mul_add_div hp, Nat.div_eq_of_lt hr, Nat.mul_add_mod, Nat.mod_eq_of_lt hr, Nat.add_zero]
    have inner : ∀ t p, itr (fun r y => if okB o (pre ++ dgL (k + 1) (t * 10 ^ k + r)) = true then upP v (pre ++ dgL (k + 1) (t * 10 ^ k + r)) y else y) p (10 ^ k) = if okB o (pre ++ [t]) = true then gpF o v k (pre ++ [t]) p else p := by
      intro t p
      have e : ∀ r, r < 10 ^ k → pre ++ dgL (k + 1) (t * 10 ^ k + r) = (pre ++ [t]) ++ dgL k r := fun r hr => by rw [dg t r hr, List.append_assoc]; rfl
      by_cases z : okB o (pre ++ [t]) = true
      · rw [if_pos z, ih (pre ++ [t]) p (okB_iff.mp z)]
        exact itr_congr _ (fun r hr x => by rw [e r hr])
      · rw [if_neg z]
        refine itr_idle _ (fun r hr x => ?_)
        rw [e r hr, if_neg (fun y => z (okB_iff.mpr (okP_l (okB_iff.mp y))))]
    have e9 : itr (fun t x => itr (fun r y => if okB o (pre ++ dgL (k + 1) (t * 10 ^ k + r)) = true then upP v (pre ++ dgL (k + 1) (t * 10 ^ k + r)) y else y) x (10 ^ k)) p 10 = itr (fun t x => if okB o (pre ++ [t]) = true then gpF o v k (pre ++ [t]) x else x) p 10 := itr_congr _ (fun t _ x => inner t x)
    rw [e9, show (10 : Nat) = 9 + 1 from rfl, itr_s]
    have n9 : ¬ okB o (pre ++ [9]) = true := fun y => ((okP_s ho).mp (okB_iff.mp y)).1 h9
    rw [if_neg n9]
    rfl
theorem gp_nil (h9 : b0 o 9) : gpF o v L [] p = itr (gR o v L) p (10 ^ L) := gp_rows h9 L [] p (fun h hh => absurd hh (by simp))
def lfM (o : Int32) (l : List Nat) : Nat → Int32
  | 0 => o
  | h + 1 => lfM o l h &&& (tn (nI (tA l h)) ^^^ (-1))
theorem b0_tn2 : ∀ a, a < 10 → ∀ t, t < 32 → (b0 (tn (nI a)) t ↔ t ≠ a) := by decide +kernel
theorem lfM_b {l : List Nat} (hd : ∀ j, j < l.length → tA l j < 10) (ht : t < 32) : ∀ h, h ≤ l.length → (b0 (lfM o l h) t ↔ b0 o t ∨ ∃ h', h' < h ∧ tA l h' = t)
  | 0, _ => by
    show b0 o t ↔ _
    constructor
    · exact Or.inl
    · rintro (z | ⟨h', z, _⟩)
      · exact z
      · exact absurd z (by omega)
  | h + 1, hh => by
    rw [lfM, b0_and ht, lfM_b hd ht h (by omega), b0_not ht, b0_tn2 _ (hd h (by omega)) t ht]
    constructor
    · rintro ((z | ⟨h', z1, z2⟩) | z)
      · exact Or.inl z
      · exact Or.inr ⟨h', by omega, z2⟩
      · exact Or.inr ⟨h, by omega, by omega⟩
    · rintro (z | ⟨h', z1, z2⟩)
      · exact Or.inl (Or.inl z)
      · by_cases y : h' = h
        · subst y; exact Or.inr (by omega)
        · exact Or.inl (Or.inr ⟨h', by omega, z2⟩)
theorem dg_lt (hL : L ≤ 3) (hr : row < 10 ^ L) (hh : h < L) : tA (dgL L row) h < 10 := by
  rw [dg_v hL hr hh]; exact Nat.mod_lt _ (by decide)
theorem isOf_t (hL : L ≤ 3) (hr : row < 10 ^ L) : f_X3_isOfTens m (nI row) (nI L) o = some (if okB o (dgL L row) = true then 1 else 0, m) := by
  have len := dgL_len L row
  have hd : ∀ j, j < (dgL L row).length → tA (dgL L row) j < 10 := fun j hj => dg_lt hL hr (by omega)
  have okI : okB o (dgL L row) = true ↔ ∀ h, h < L → ¬ b0 (lfM o (dgL L row) h) (tA (dgL L row) h) := by
    rw [okB_iff]
    unfold okP
    rw [len]
    constructor
    · intro z h hh
      rw [lfM_b hd (by have := hd h (by omega); omega) h (by omega)]
      rintro (y | ⟨h', y1, y2⟩)
      · exact (z h hh).1 y
      · exact (z h hh).2 h' y1 y2
    · intro z h hh
      have := z h hh
      rw [lfM_b hd (by have := hd h (by omega); omega) h (by omega)] at this
      exact ⟨fun y => this (Or.inl y), fun h' y1 y2 => this (Or.inr ⟨h', y1, y2⟩)⟩
  unfold f_X3_isOfTens
  rw [show (m, o, (0 : Int32)) = (fun i => (m, lfM o (dgL L row) i, nI i)) 0 from rfl, lpk_scn (S := fun i => (m, lfM o (dgL L row) i, nI i)) (P := fun i => if b0 (lfM o (dgL L row) i) (tA (dgL L row) i) then some (.inl m) else none) (y := .inr m) L ?_ ?_ (by omega)]
  · by_cases z : okB o (dgL L row) = true
    · have : scn (fun i => if b0 (lfM o (dgL L row) i) (tA (dgL L row) i) then some (Sum.inl m : Sg ⊕ Sg) else none) 0 L = none := (scn_none L 0).mpr (fun j _ hj => if_neg (okI.mp z j (by omega)))
      rw [this, if_pos z]; rfl
    · have ex : ∃ h, h < L ∧ b0 (lfM o (dgL L row) h) (tA (dgL L row) h) := Classical.byContradiction (fun y => z (okI.mpr (fun h hh hb => y ⟨h, hh, hb⟩)))
      obtain ⟨h, ⟨hh, hb⟩, hm⟩ := pk_least (fun h => h < L ∧ b0 (lfM o (dgL L row) h) (tA (dgL L row) h)) ex
      have : scn (fun i => if b0 (lfM o (dgL L row) i) (tA (dgL L row) i) then some (Sum.inl m : Sg ⊕ Sg) else none) 0 L = some (.inl m) := scn_at L 0 h (by omega) (by omega) (fun j _ hj => if_neg (fun y => hm j hj ⟨by omega, y⟩)) (if_pos hb)
      rw [this, if_neg z]; rfl
  · intro i hi
    simp only [f_X3_isOfTens_L5, if_neg (ix_lt hi (show L < 2 ^ 31 by omega)), ten_v hL hr hi, cal_eq, bnd_eq, nI_1]
    by_cases z : b0 (lfM o (dgL L row) i) (tA (dgL L row) i)
    · rw [if_pos z, if_pos z]
    · rw [if_neg z, if_neg z]; rfl
  · simp only [f_X3_isOfTens_L5, if_pos (nI_le (Nat.le_refl L) (show L < 2 ^ 31 by omega))]
theorem numL_dg (hL : L ≤ 3) (hr : row < 10 ^ L) : numL (dgL L row) = row := by
  rcases (show L = 0 ∨ L = 1 ∨ L = 2 ∨ L = 3 by omega) with e | e | e | e <;> subst e
  · show 0 = row
    omega
  · show 10 * 0 + row / 10 ^ 0 = row
    omega
  · show 10 * (10 * 0 + row / 10 ^ 1) + row % 10 ^ 1 / 10 ^ 0 = row
    omega
  · show 10 * (10 * (10 * 0 + row / 10 ^ 2) + row % 10 ^ 2 / 10 ^ 1) + row % 10 ^ 2 % 10 ^ 1 / 10 ^ 0 = row
    omega
theorem dg_snoc (hL : L ≤ 2) (hr : row < 10 ^ (L + 1)) : dgL (L + 1) row = dgL L (row / 10) ++ [row % 10] ∧ row / 10 < 10 ^ L := by
  rcases (show L = 0 ∨ L = 1 ∨ L = 2 by omega) with e | e | e <;> subst e
  · refine ⟨?_, by omega⟩
    show [row / 10 ^ 0] = [row % 10]
    congr 1; omega
  · refine ⟨?_, by omega⟩
    show [row / 10 ^ 1, row % 10 ^ 1 / 10 ^ 0] = [row / 10 / 10 ^ 0, row % 10]
    have h1 : row / 10 ^ 1 = row / 10 / 10 ^ 0 := by omega
    have h2 : row % 10 ^ 1 / 10 ^ 0 = row % 10 := by omega
    rw [List.cons.injEq, List.cons.injEq]; exact ⟨h1, h2, rfl⟩
  · refine ⟨?_, by omega⟩
    show [row / 10 ^ 2, row % 10 ^ 2 / 10 ^ 1, row % 10 ^ 2 % 10 ^ 1 / 10 ^ 0] = [row / 10 / 10 ^ 1, row / 10 % 10 ^ 1 / 10 ^ 0, row % 10]
    have h1 : row / 10 ^ 2 = row / 10 / 10 ^ 1 := by omega
    have h2 : row % 10 ^ 2 / 10 ^ 1 = row / 10 % 10 ^ 1 / 10 ^ 0 := by omega
    have h3 : row % 10 ^ 2 % 10 ^ 1 / 10 ^ 0 = row % 10 := by omega
    rw [List.cons.injEq, List.cons.injEq, List.cons.injEq]; exact ⟨h1, h2, h3, rfl⟩
theorem vR_le : ∀ n, ∃ k, k ≤ n ∧ vR f0 nc ne c s ts n = nI k
  | 0 => ⟨0, Nat.le_refl _, rfl⟩
  | n + 1 => by
    obtain ⟨k, k1, k2⟩ := vR_le n
    have e : vR f0 nc ne c s ts (n + 1) = vR f0 nc ne c s ts n + (if rlK f0 nc ne c s ts (n + 1) = nI c then 1 else 0) := rfl
    rw [e, k2]
    split
    · exact ⟨k + 1, by omega, nI_1 k⟩
    · exact ⟨k, by omega, Int32.add_zero _⟩
theorem RtH_l : ∀ h, h ≤ ts.length → RtH f0 c (ts ++ [t]) h = RtH f0 c ts h
  | 0, _ => (show RtH f0 c (ts ++ [t]) 0 = rt f0 c from rfl).trans (show RtH f0 c ts 0 = rt f0 c from rfl).symm
  | h + 1, hh => by rw [RtH, RtH, RtH_l h (by omega), tA_l (by omega)]
theorem rlK_sn (s1 : 1 ≤ s) : ∀ M, M < (ts.length + 1) * s → rlK f0 nc ne c s (ts ++ [t]) M = rlK f0 nc ne c s ts M
  | 0, _ => (show rlK f0 nc ne c s (ts ++ [t]) 0 = f0 98 from rfl).trans (show rlK f0 nc ne c s ts 0 = f0 98 from rfl).symm
  | M + 1, h => by
    rw [rlK, rlK, rlK_sn s1 M (by omega)]
    have hl : (ts ++ [t]).length = ts.length + 1 := by rw [List.length_append]; rfl
    have e : hdN s (ts ++ [t]).length (M + 1) = hdN s ts.length (M + 1) := by
      rw [hl]
      have : (M + 1) / s < ts.length + 1 := (Nat.div_lt_iff_lt_mul (by omega)).mpr h
      unfold hdN
      split <;> split <;> omega
    rw [e, RtH_l _ hd_le]
theorem vR_sn (s1 : 1 ≤ s) : ∀ n, n < (ts.length + 1) * s → vR f0 nc ne c s (ts ++ [t]) n = vR f0 nc ne c s ts n
  | 0, _ => (show vR f0 nc ne c s (ts ++ [t]) 0 = 0 from rfl).trans (show vR f0 nc ne c s ts 0 = 0 from rfl).symm
  | n + 1, h => by
    have e1 : vR f0 nc ne c s (ts ++ [t]) (n + 1) = vR f0 nc ne c s (ts ++ [t]) n + (if rlK f0 nc ne c s (ts ++ [t]) (n + 1) = nI c then 1 else 0) := rfl
    have e2 : vR f0 nc ne c s ts (n + 1) = vR f0 nc ne c s ts n + (if rlK f0 nc ne c s ts (n + 1) = nI c then 1 else 0) := rfl
    rw [e1, e2, vR_sn s1 n (by omega), rlK_sn s1 (n + 1) h]
end
