/-! plan: the component's months by a row of tens -/
section
variable {nl B B' : Nat} {ln : Nat → Nat} {V : Nat → (Nat → Int32) → Int32} {m m1 m2 m' : Sg} {j w u : Nat} {a a1 a2 a3 a4 r law x mo : Int32} {f f' f0 F G K g g' : Nat → Int32} {nc ne c d e t M n i s l y h L q row : Nat} {ts : List Nat}
def oS (p k : Nat) : Bool := gS p k || p == 24 || p == 25
theorem foresee_v (hf : WF (va_cpy (m.1 4) (m.1 6) 0 0 100) nc ne B) (hc : c < nc) (hn : n ≤ 24) : ∃ m', f_X3_foreseeOthers m (nI c) (nI n) = some m' ∧ Fr oS m m' ∧ ∀ i, i < n → m'.1 24 i = asK (va_cpy (m.1 4) (m.1 6) 0 0 100) nc ne c (i + 1) ∧ m'.1 25 i = clK (va_cpy (m.1 4) (m.1 6) 0 0 100) nc ne c (i + 1) := by
  have hn8 := hf.1.2
  have hn4 := hf.2.1
  have hc8 : c < 8 := by omega
  unfold f_X3_foreseeOthers
  rw [become_v, calv_eq]
  generalize va_cpy (m.1 4) (m.1 6) 0 0 100 = f at *
  suffices key : ∃ m', lpO (f_X3_foreseeOthers_L13 (nI c) (nI n)) fu (wrr m 6 f, 0) = some m' ∧ (Fr oS m m' ∧ ∀ i, i < n → m'.1 24 i = asK f nc ne c (i + 1) ∧ m'.1 25 i = clK f nc ne c (i + 1)) by
    obtain ⟨m', e1, e2⟩ := key
    rw [lpk_of e1]; exact ⟨m', rfl, e2⟩
  refine lpO_inv (step := f_X3_foreseeOthers_L13 (nI c) (nI n)) (fun i st => ∃ q, st = (q, nI i) ∧ q.1 6 = km f nc ne i ∧ Fr oS m q ∧ ∀ j, j < i → q.1 24 j = asK f nc ne c (j + 1) ∧ q.1 25 j = clK f nc ne c (j + 1)) (fun m' => Fr oS m m' ∧ ∀ i, i < n → m'.1 24 i = asK f nc ne c (i + 1) ∧ m'.1 25 i = clK f nc ne c (i + 1)) n (wrr m 6 f, 0) ⟨wrr m 6 f, rfl, wrr_at, Fr.w2 (fun _ => rfl), fun j hj => absurd hj (by omega)⟩ ?_ ?_ (by omega)
  · rintro i st hi ⟨q, rfl, q1, q2, q3⟩
    have wfi := WF_km hf i
    have wf1 := WF_km hf (i + 1)
    have b1 : f_X0_beginMonth 6 q = some (wrr q 6 (km f nc ne (i + 1))) := by
      rw [beginMonth_v (nc := nc) (ne := ne) (by rw [q1]; exact wfi.2.2.1) hn8 (by rw [q1]; exact wfi.2.2.2.1) hn4, q1]; rfl
    have t1 : f_X0_trier 6 (wrr q 6 (km f nc ne (i + 1))) = some (trK f nc ne (i + 1), wrr q 6 (km f nc ne (i + 1))) := by
      rw [trier_v (n := ne) (by rw [wrr_at]; exact wf1.2.2.2.1) hn4, wrr_at]; rfl
    have k5 : kd (km f nc ne (i + 1)) c 5 = kd f c 5 := by
      refine km_s hn8 hn4 (i + 1) _ ?_
      unfold stc
      rw [show (10 * c + 5) % 10 = 5 by omega, decide_eq_true (show 10 * c + 5 < 80 by omega)]; rfl
    have i24 : inr (nI i) 24 = true := in_nI (by omega) (by decide)
    have ci : (nI i).toNatClampNeg = i := nI_clamp (by omega)
    have n24 : ¬ (24 : Int32) ≤ nI i := ix_lt (n := 24) (by omega) (by decide)
    refine ⟨(wr (wr (wrr q 6 (km f nc ne (i + 1))) 24 i (asK f nc ne c (i + 1))) 25 i (clK f nc ne c (i + 1)), nI (i + 1)), ?_, _, rfl, ?_, ?_, ?_⟩
    · simp only [f_X3_foreseeOthers_L13, if_neg (ix_lt hi (show n < 2 ^ 31 by omega)), if_neg n24, b1, calv_eq, t1, cal_eq, bnd_eq, i24, ci, ↓reduceIte, nI_1]
      unfold asK clK
      by_cases z : trK f nc ne (i + 1) = -1
      · simp only [if_pos z]
      · obtain ⟨e, he, h2⟩ : ∃ e, e < ne ∧ trK f nc ne (i + 1) = nI e := by
          rcases trW_I (f := km f nc ne (i + 1)) (a := 0) (n := ne) with y | y
          · exact absurd y z
          · exact y
        simp only [if_neg z]
        rw [h2, nI_clamp (by omega), askedBy_v (by omega), cal_eq, wrr_at, askedOf_v hc8, cal_eq, wrr_at, k5, askedBy_v (by omega), cal_eq, wr_ne (by decide), wrr_at, claimant_v (n := nc) (by rw [wr_ne (by decide), wrr_at]; exact wf1.2.2.1) hn8, cal_eq, wr_ne (by decide), wrr_at]
    · rw [wr_ne (by decide), wr_ne (by decide), wrr_at]
    · exact ((q2.tr (Fr.w2 (fun _ => rfl))).tr (Fr.w1 rfl)).tr (Fr.w1 rfl)
    · intro j hj
      by_cases z : j = i
      · subst z
        refine ⟨?_, ?_⟩
        · rw [wr_ne (by decide), wr_at, pk_us]
        · rw [wr_at, pk_us]
      · obtain ⟨y1, y2⟩ := q3 j (by omega)
        refine ⟨?_, ?_⟩
        · rw [wr_ne (by decide), wr_at, pk_un z, wrr_ne (by decide)]; exact y1
        · rw [wr_at, pk_un z, wr_ne (by decide), wrr_ne (by decide)]; exact y2
  · rintro st ⟨q, rfl, q1, q2, q3⟩
    refine ⟨q, ?_, q2, q3⟩
    simp only [f_X3_foreseeOthers_L13, if_pos (nI_le (Nat.le_refl n) (show n < 2 ^ 31 by omega))]
/-- digits, the highest first -/
def dgL : Nat → Nat → List Nat
  | 0, _ => []
  | k + 1, r => r / 10 ^ k :: dgL k (r % 10 ^ k)
theorem dgL_len : ∀ k r, (dgL k r).length = k
  | 0, _ => rfl
  | k + 1, r => by rw [dgL, List.length_cons, dgL_len k]
theorem dg_v (hL : L ≤ 3) (hr : row < 10 ^ L) (hh : h < L) : tA (dgL L row) h = row / 10 ^ (L - 1 - h) % 10 := by
  rcases (show L = 1 ∨ L = 2 ∨ L = 3 by omega) with e | e | e <;> subst e
  · have : h = 0 := by omega
    subst this
    show row / 10 ^ 0 = row / 10 ^ 0 % 10
    omega
  · rcases (show h = 0 ∨ h = 1 by omega) with e | e <;> subst e
    · show row / 10 ^ 1 = row / 10 ^ 1 % 10
      omega
    · show row % 10 ^ 1 / 10 ^ 0 = row / 10 ^ 0 % 10
      omega
  · rcases (show h = 0 ∨ h = 1 ∨ h = 2 by omega) with e | e | e <;> subst e
    · show row / 10 ^ 2 = row / 10 ^ 2 % 10
      omega
    · show row % 10 ^ 2 / 10 ^ 1 = row / 10 ^ 1 % 10
      omega
    · show row % 10 ^ 2 % 10 ^ 1 / 10 ^ 0 = row / 10 ^ 0 % 10
      omega
theorem ten_v (hL : L ≤ 3) (hr : row < 10 ^ L) (hh : h < L) : f_X3_tenOfRow m (nI row) (nI L) (nI h) = some (nI (tA (dgL L row) h), m) := by
  have hr3 : row < 1000 := Nat.lt_of_lt_of_le hr (show 10 ^ L ≤ 10 ^ 3 from Nat.pow_le_pow_right (by decide) hL)
  unfold f_X3_tenOfRow
  rw [bnd_eq, show (1 : Int32) = nI 1 from rfl, pk_sub (by omega)]
  have e0 : (m, nI row, nI (L - 1)) = (fun j => (m, nI (row / 10 ^ j), nI (L - 1 - j))) 0 := by
    show _ = (m, nI (row / 1), nI (L - 1 - 0))
    rw [Nat.div_one]; rfl
  rw [e0, lpk_seq (S := fun j => (m, nI (row / 10 ^ j), nI (L - 1 - j))) (x := (m, nI (row / 10 ^ (L - 1 - h)))) (L - 1 - h) ?_ ?_ (by omega)]
  · rw [dg_v hL hr hh]
    have : row / 10 ^ (L - 1 - h) < 2 ^ 31 := Nat.lt_of_le_of_lt (Nat.div_le_self _ _) (by omega)
    show some (nI (row / 10 ^ (L - 1 - h)) - nI (row / 10 ^ (L - 1 - h)) / 10 * 10, m) = _
    rw [show (10 : Int32) = nI 10 from rfl, pk_rem this (by decide) (by decide)]
  · intro j hj
    have hle : row / 10 ^ j < 2 ^ 31 := Nat.lt_of_le_of_lt (Nat.div_le_self _ _) (by omega)
    simp only [f_X3_tenOfRow_L7, if_neg (nI_ge (show h < L - 1 - j by omega) (show L - 1 - j < 2 ^ 31 by omega)), bnd_eq]
    have e1 : nI (row / 10 ^ j) / 10 = nI (row / 10 ^ (j + 1)) := by
      rw [show (10 : Int32) = nI 10 from rfl, pk_div hle (by decide) (by decide), Nat.div_div_eq_div_mul, Nat.pow_succ]
    have e2 : nI (L - 1 - j) + (-1) = nI (L - 1 - (j + 1)) := by
      rw [show L - 1 - j = (L - 1 - (j + 1)) + 1 by omega, pk_m1]
    rw [e1, e2]
  · simp only [f_X3_tenOfRow_L7]
    rw [if_pos (nI_le (show L - 1 - (L - 1 - h) ≤ h by omega) (by omega))]
theorem rbV_cg {r cl mo : Int32} (hk : ∀ k, k < 100 → f' k = f k) (hr : isI r 8) (hl : isI cl 8) : rbV f' r cl mo = rbV f r cl mo := by
  unfold rbV
  rw [hk 92 (by decide)]
  have kc : ∀ z, isI z 8 → kd f' z.toNatClampNeg 0 = kd f z.toNatClampNeg 0 := by
    intro z hz
    rcases hz with h | ⟨d, hd, h⟩
    · subst h; exact hk _ (by decide)
    · subst h; rw [nI_clamp (by omega)]; exact hk _ (by omega)
  rw [kc r hr, kc cl hl]
theorem clK_I : isI (clK f nc ne c M) nc := by
  unfold clK
  split
  · exact Or.inl rfl
  · exact clM_I
theorem cmb_I (hc : c < nc) {R : Int32} : isI (cmb f nc ne c M R) nc := by
  unfold cmb
  split
  · split
    · exact Or.inr ⟨c, hc, rfl⟩
    · split
      · exact Or.inr ⟨c, hc, rfl⟩
      · exact clK_I
  · exact clK_I
theorem rlK_I (hf : WF f nc ne B) (hc : c < nc) : ∀ M, isI (rlK f nc ne c s ts M) nc
  | 0 => hf.2.2.2.2.2.2.2.2.2.2
  | M + 1 => rbV_I (rlK_I hf hc M) (cmb_I hc)
/-- a month behind what is had by then -/
def mbK (a1 x9 x14 x15 x17 x22 : Int32) (m23 : Sg) (x24 x25 : Int32) : Option (((Sg × Int32)) ⊕ (Sg × Int32 × Int32 × Int32 × Int32 × Int32)) := if inr x17 24 = true then bnd (m23.1 25 x17.toNatClampNeg) (fun x27 => if inr x17 24 = true then bnd (fun ((m28, x29) : Sg × Int32) => bnd (fun ((m31, x32) : Sg × Int32) => cal (f_X0_rulerBehind 4 m31 x14 x32 x22) (fun x35 m34 => bnd (fun ((m36, x37) : Sg × Int32) => bnd (x15 + x37) (fun x39 => bnd (x17 + 1) (fun x40 => some (.inr (m36, x24, x35, x39, x25, x40))))) (fun (k38 : Sg × Int32 → Option (((Sg × Int32)) ⊕ (Sg × Int32 × Int32 × Int32 × Int32 × Int32))) =>
  (if x35 = a1 then k38 (m34, 1) else
  k38 (m34, 0))))) (fun (k33 : Sg × Int32 → Option (((Sg × Int32)) ⊕ (Sg × Int32 × Int32 × Int32 × Int32 × Int32))) =>
  (if x29 = 0 then k33 (m28, x27) else
  bnd (fun (m41 : Sg) => k33 (m41, a1)) (fun (k42 : Sg → Option (((Sg × Int32)) ⊕ (Sg × Int32 × Int32 × Int32 × Int32 × Int32))) =>
  (if x27 = (-1) then k42 m28 else
  cal (f_X0_goesFirst 4 m28 a1 x27) (fun x44 m43 => (if x44 = 0 then k33 (m43, x27) else
  k42 m43))))))) (fun (k30 : Sg × Int32 → Option (((Sg × Int32)) ⊕ (Sg × Int32 × Int32 × Int32 × Int32 × Int32))) =>
  bnd (fun (m45 : Sg) => k30 (m45, 0)) (fun (k46 : Sg → Option (((Sg × Int32)) ⊕ (Sg × Int32 × Int32 × Int32 × Int32 × Int32))) =>
  (if (m23.1 24 x17.toNatClampNeg) = (-1) then k46 m23 else
  if inr x17 24 = true then (if ((m23.1 24 x17.toNatClampNeg) &&& (x24 ^^^ (-1))) = 0 then (if x9 ≤ x22 then k46 m23 else
  k30 (m23, 1)) else
  k46 m23) else none))) else none) else none
theorem L60_eq {a1 a2 a3 a4 x4 x9 x13 x14 x15 x16 x17 : Int32} : f_X3_monthsByRow_L60 a1 a2 a3 a4 x4 x9 (m, x13, x14, x15, x16, x17) = (if a2 ≤ x17 then some (.inl (m, x15)) else (if 24 ≤ x17 then some (.inl (m, x15)) else (if 24 ≤ x17 then some (.inl (m, x15)) else (if a4 ≤ x16 then mbK a1 x9 x14 x15 x17 (x17 + 1) m x13 x16 else (if x17 + 1 = (x4 * (x16 + 1)) then cal (f_X3_tenOfRow m a3 a4 x16) (fun x48 m47 => mbK a1 x9 x14 x15 x17 (x17 + 1) m47 (x13 ||| (1 <<< (x48 &&& 31))) (x16 + 1)) else mbK a1 x9 x14 x15 x17 (x17 + 1) m x13 x16))))) := rfl
theorem mbr_v (hP : PB f0 nc ne B c s (dgL L row)) (hk : ∀ k, k < 100 → m.1 4 k = f0 k) (hfs : ∀ i, i < n → m.1 24 i = asK f0 nc ne c (i + 1) ∧ m.1 25 i = clK f0 nc ne c (i + 1)) (hn : n ≤ 24) (hL : L ≤ 3) (hr : row < 10 ^ L) : f_X3_monthsByRow m (nI c) (nI n) (nI row) (nI L) = some (vR f0 nc ne c s (dgL L row) n, m) := by
  obtain ⟨hf, hB, hc, h6, h7, h4s, s1, s9, hL', hTs⟩ := hP
  have hn8 := hf.1.2
  have hc8 : c < 8 := by omega
  have len := dgL_len L row
  have k4 : kd (m.1 4) c 4 = nI s := by rw [← h4s]; exact hk _ (by omega)
  have k0 : ∀ d, d < 8 → kd (m.1 4) d 0 = kd f0 d 0 := fun d hd => hk _ (by omega)
  have r0 : rt (m.1 4) c = rt f0 c := by
    unfold rt
    have z1 : kd (m.1 4) c 1 = kd f0 c 1 := hk _ (by omega)
    have z2 : kd (m.1 4) c 2 = kd f0 c 2 := hk _ (by omega)
    rw [z1, z2]
  unfold f_X3_monthsByRow
  simp only [rightOf_v hc8, kid4 hc8, cell92, kid0 hc8, cal_eq, bnd_eq, f_X0_ruler, k4, k0 c hc8, hk 92 (by decide), hk 98 (by decide), r0]
  have e0 : (m, rt f0 c, f0 98, (0 : Int32), (0 : Int32), (0 : Int32)) = (fun i => (m, RtH f0 c (dgL L row) (hdN s L i), rlK f0 nc ne c s (dgL L row) i, vR f0 nc ne c s (dgL L row) i, nI (hdN s L i), nI i)) 0 := by
    have : hdN s L 0 = 0 := by unfold hdN; rw [Nat.zero_div]; split <;> omega
    simp only [this]; rfl
  rw [e0, lpk_seq (S := fun i => (m, RtH f0 c (dgL L row) (hdN s L i), rlK f0 nc ne c s (dgL L row) i, vR f0 nc ne c s (dgL L row) i, nI (hdN s L i), nI i)) (x := (m, vR f0 nc ne c s (dgL L row) n)) n ?_ ?_ (by omega)]
  · intro i hi
    have i24 : inr (nI i) 24 = true := in_nI (by omega) (by decide)
    have ci : (nI i).toNatClampNeg = i := nI_clamp (by omega)
    have n24 : ¬ (24 : Int32) ≤ nI i := ix_lt (n := 24) (by omega) (by decide)
    obtain ⟨f24, f25⟩ := hfs i hi
    have hle : hdN s L i ≤ L := hd_le
    have hm : nI s * (nI (hdN s L i) + 1) = nI (s * (hdN s L i + 1)) := by rw [nI_1, pk_mul]
    have hs9 : s * (hdN s L i + 1) < 2 ^ 31 := by
      have : s * (hdN s L i + 1) ≤ 9 * 4 := Nat.mul_le_mul (by omega) (by omega)
      omega
    have heq : nI (i + 1) = nI (s * (hdN s L i + 1)) ↔ i + 1 = s * (hdN s L i + 1) := nI_eq (by omega) hs9
    have rI := isI_mono (rlK_I (s := s) (ts := dgL L row) hf hc i) hn8
    have tail : ∀ (R : Int32) (hd : Int32), R = RtH f0 c (dgL L row) (hdN s L (i + 1)) → hd = nI (hdN s L (i + 1)) → mbK (nI c) (f0 92 - kd f0 c 0) (rlK f0 nc ne c s (dgL L row) i) (vR f0 nc ne c s (dgL L row) i) (nI i) (nI (i + 1)) m R hd = some (.inr (m, RtH f0 c (dgL L row) (hdN s L (i + 1)), rlK f0 nc ne c s (dgL L row) (i + 1), vR f0 nc ne c s (dgL L row) (i + 1), nI (hdN s L (i + 1)), nI (i + 1))) := by
      intro R hd hR hhd
      have fin : ∀ z, z = cmb f0 nc ne c (i + 1) R → (cal (f_X0_rulerBehind 4 m (rlK f0 nc ne c s (dgL L row) i) z (nI (i + 1))) (fun x35 m34 => bnd (fun ((m36, x37) : Sg × Int32) => bnd (vR f0 nc ne c s (dgL L row) i + x37) (fun x39 => bnd (nI i + 1) (fun x40 => some (.inr (m36, R, x35, x39, hd, x40))))) (fun (k38 : Sg × Int32 → Option (((Sg × Int32)) ⊕ (Sg × Int32 × Int32 × Int32 × Int32 × Int32))) =>
          (if x35 = nI c then k38 (m34, 1) else k38 (m34, 0))))) = some (.inr (m, RtH f0 c (dgL L row) (hdN s L (i + 1)), rlK f0 nc ne c s (dgL L row) (i + 1), vR f0 nc ne c s (dgL L row) (i + 1), nI (hdN s L (i + 1)), nI (i + 1))) := by
        intro z hz
        have zI : isI z 8 := by rw [hz]; exact isI_mono (cmb_I hc) hn8
        have er : rbV (m.1 4) (rlK f0 nc ne c s (dgL L row) i) z (nI (i + 1)) = rlK f0 nc ne c s (dgL L row) (i + 1) := by
          rw [rbV_cg hk rI zI, hz, hR]
          show _ = rbV f0 _ (cmb f0 nc ne c (i + 1) (RtH f0 c (dgL L row) (hdN s (dgL L row).length (i + 1)))) (nI (i + 1))
          rw [len]
        rw [rulerBehind_v rI zI, cal_eq, er, hR, hhd]
        simp only [bnd_eq, nI_1]
        have ev : vR f0 nc ne c s (dgL L row) (i + 1) = vR f0 nc ne c s (dgL L row) i + (if rlK f0 nc ne c s (dgL L row) (i + 1) = nI c then 1 else 0) := rfl
        rw [ev]
        split <;> rfl
      unfold mbK
      simp only [i24, ↓reduceIte, bnd_eq, ci, f24, f25]
      have mayE : ∀ b, mayB f0 nc ne c (i + 1) R = b → cmb f0 nc ne c (i + 1) R = if b = true then (if clK f0 nc ne c (i + 1) = -1 then nI c else if gfB f0 c (clK f0 nc ne c (i + 1)).toNatClampNeg = true then nI c else clK f0 nc ne c (i + 1)) else clK f0 nc ne c (i + 1) := fun b hb => by unfold cmb; rw [hb]
      have noK : mayB f0 nc ne c (i + 1) R = false → clK f0 nc ne c (i + 1) = cmb f0 nc ne c (i + 1) R := fun hb => by rw [mayE false hb]; rfl
      by_cases y1 : asK f0 nc ne c (i + 1) = -1
      · rw [if_pos y1]
        exact fin _ (noK (by unfold mayB; rw [decide_eq_true y1]; rfl))
      · rw [if_neg y1]
        by_cases y2 : asK f0 nc ne c (i + 1) &&& (R ^^^ (-1)) = 0
        · rw [if_pos y2]
          by_cases y3 : f0 92 - kd f0 c 0 ≤ nI (i + 1)
          · rw [if_pos y3]
            exact fin _ (noK (by unfold mayB; rw [decide_eq_true y3]; simp))
          · rw [if_neg y3, if_neg n10]
            have mt : mayB f0 nc ne c (i + 1) R = true := by unfold mayB; rw [decide_eq_false y1, decide_eq_true y2, decide_eq_false y3]; rfl
            have ce := mayE true mt
            rw [if_pos rfl] at ce
            by_cases y4 : clK f0 nc ne c (i + 1) = -1
            · rw [if_pos y4]
              exact fin _ (by rw [ce, if_pos y4])
            · rw [if_neg y4]
              obtain ⟨d, hd', h2⟩ : ∃ d, d < nc ∧ clK f0 nc ne c (i + 1) = nI d := by
                rcases clK_I (f := f0) (nc := nc) (ne := ne) (c := c) (M := i + 1) with y | y
                · exact absurd y y4
                · exact y
              rw [if_neg y4, h2, nI_clamp (by omega)] at ce
              rw [h2]
              obtain ⟨r, r1, r2⟩ := goesFirst_v (j := 4) (m := m) hc8 (show d < 8 by omega)
              rw [r1, cal_eq]
              have ge : gf (m.1 4) c d ↔ gfB f0 c d = true := by
                unfold gf gfB
                rw [k0 c hc8, k0 d (by omega)]
                simp
              rcases r2 with ⟨rfl, g⟩ | ⟨rfl, g⟩
              · rw [if_neg n10]
                exact fin _ (by rw [ce, if_pos (ge.mp g)])
              · rw [if_pos rfl]
                exact fin _ (by rw [ce, if_neg (fun z => g (ge.mpr z))])
        · rw [if_neg y2]
          exact fin _ (noK (by unfold mayB; rw [decide_eq_false y2]; simp))
    have hds := hd_s (L := L) (i := i) s1 s9
    show f_X3_monthsByRow_L60 (nI c) (nI n) (nI row) (nI L) (nI s) (f0 92 - kd f0 c 0) (m, RtH f0 c (dgL L row) (hdN s L i), rlK f0 nc ne c s (dgL L row) i, vR f0 nc ne c s (dgL L row) i, nI (hdN s L i), nI i) = _
    rw [L60_eq, if_neg (ix_lt hi (show n < 2 ^ 31 by omega)), if_neg n24, if_neg n24, hm, nI_1, nI_1]
    by_cases z : L ≤ hdN s L i
    · rw [if_pos (nI_le z (by omega))]
      have e : hdN s L (i + 1) = hdN s L i := by rw [hds, if_neg (fun y => by omega)]
      exact tail _ _ (by rw [e]) (by rw [e])
    · rw [if_neg (nI_ge (by omega) (by omega))]
      by_cases z2 : i + 1 = s * (hdN s L i + 1)
      · have e : hdN s L (i + 1) = hdN s L i + 1 := by rw [hds, if_pos ⟨by omega, z2⟩]
        rw [if_pos (heq.mpr z2), ten_v hL hr (by omega), cal_eq]
        exact tail _ _ (by rw [e]; rfl) (by rw [e])
      · have e : hdN s L (i + 1) = hdN s L i := by rw [hds, if_neg (fun y => z2 y.2)]
        rw [if_neg (fun y => z2 (heq.mp y))]
        exact tail _ _ (by rw [e]) (by rw [e])
  · simp only [f_X3_monthsByRow_L60, if_pos (nI_le (Nat.le_refl n) (show n < 2 ^ 31 by omega))]
end
