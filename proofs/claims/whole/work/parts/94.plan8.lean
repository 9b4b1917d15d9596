/-! plan: the call -/
section
variable {nl B B' : Nat} {ln : Nat → Nat} {V : Nat → (Nat → Int32) → Int32} {m m1 m2 m' : Sg} {j w u : Nat} {a a1 a2 a3 a4 r law x mo o : Int32} {f f' f0 F G K g g' : Nat → Int32} {nc ne c d e t M n i s l y h L row k W : Nat} {ts pre : List Nat} {p pc pm : Int32 × Int32 × Int32} {v : List Nat → Int32}
def pS (a b : Nat) : Bool := oS a b || a == 23
/-- the component between rows -/
def QC (m q : Sg) (nc ne c n : Nat) (p : Int32 × Int32 × Int32) : Prop := Fr pS m q ∧ (∀ i, i < n → q.1 24 i = asK (va_cpy (m.1 4) (m.1 6) 0 0 100) nc ne c (i + 1) ∧ q.1 25 i = clK (va_cpy (m.1 4) (m.1 6) 0 0 100) nc ne c (i + 1)) ∧ q.1 23 7 = p.1 ∧ q.1 23 6 = p.2.1 ∧ q.1 23 8 = p.2.2
theorem QC_4 {q : Sg} (h : QC m q nc ne c n p) : q.1 4 = m.1 4 := funext fun k => h.1.1 4 k rfl
theorem gR_stuck (hv : ∀ l, v l ≤ x) (hp : x ≤ p.1) (b : Nat) : ∀ n, itr (fun r y => gR o v L (b + r) y) p n = p
  | 0 => rfl
  | n + 1 => by
    rw [itr_s, gR_stuck hv hp b n]
    unfold gR upP
    have := hv (dgL L (b + n))
    rw [if_neg (show ¬ p.1 < v (dgL L (b + n)) from Int32.not_lt.mpr (Int32.le_trans this hp))]
    split <;> rfl
theorem ok9 (hL : L ≤ 3) (hr : row < 10 ^ L) (h : okB (opN f c) (dgL L row) = true) : ∀ j, j < (dgL L row).length → tA (dgL L row) j < 9 := by
  intro j hj
  have len := dgL_len L row
  have h1 := dg_lt hL hr (show j < L by omega)
  have h2 := (okB_iff.mp h j hj).1
  rcases Nat.lt_or_ge (tA (dgL L row) j) 9 with z | z
  · exact z
  · have : tA (dgL L row) j = 9 := by omega
    rw [this] at h2
    exact absurd op_hi h2
theorem sl_v (hX : PX nl ln V nc ne B c s n m) {q : Sg} (hQ : QC m q nc ne c n p) (hL : L ≤ 3) : ∃ q', f_X3_seekRowOfLength q (nI c) (nI n) (nI L) (nI (10 ^ L)) (opN (m.1 4) c) = some q' ∧ QC m q' nc ne c n (itr (gR (opN (m.1 4) c) (fun ts => vR (va_cpy (m.1 4) (m.1 6) 0 0 100) nc ne c s ts n) L) p (10 ^ L)) := by
  obtain ⟨R', T, hlr, h4, hi, eh, hc, hn, hPB⟩ := hX
  have p3 : 10 ^ L ≤ 1000 := show 10 ^ L ≤ 10 ^ 3 from Nat.pow_le_pow_right (by decide) hL
  have hv : ∀ ts, vR (va_cpy (m.1 4) (m.1 6) 0 0 100) nc ne c s ts n ≤ nI n := by
    intro ts
    obtain ⟨k, k1, k2⟩ := vR_le (f0 := va_cpy (m.1 4) (m.1 6) 0 0 100) (nc := nc) (ne := ne) (c := c) (s := s) (ts := ts) n
    rw [k2]; exact nI_le k1 (by omega)
  obtain ⟨x, x1, x2⟩ := lpk_inv (step := f_X3_seekRowOfLength_L3 (nI c) (nI n) (nI L) (nI (10 ^ L)) (opN (m.1 4) c)) (K := fun m3 => some m3) (fun i st => ∃ q, st = (q, nI i) ∧ QC m q nc ne c n (itr (gR (opN (m.1 4) c) (fun ts => vR (va_cpy (m.1 4) (m.1 6) 0 0 100) nc ne c s ts n) L) p i)) (fun q => QC m q nc ne c n (itr (gR (opN (m.1 4) c) (fun ts => vR (va_cpy (m.1 4) (m.1 6) 0 0 100) nc ne c s ts n) L) p (10 ^ L))) (10 ^ L) (q, 0) ⟨q, rfl, hQ⟩ (by
    rintro i st hi' ⟨q, rfl, hQ⟩
    have e4 := QC_4 hQ
    have hs := fun P : Int32 × Int32 × Int32 => fun hP : nI n ≤ P.1 => gR_stuck (o := opN (m.1 4) c) (L := L) (v := fun ts => vR (va_cpy (m.1 4) (m.1 6) 0 0 100) nc ne c s ts n) (p := P) hv hP i (10 ^ L - i)
    have sp := itr_add (F := gR (opN (m.1 4) c) (fun ts => vR (va_cpy (m.1 4) (m.1 6) 0 0 100) nc ne c s ts n) L) (a := p) i (10 ^ L - i)
    rw [show i + (10 ^ L - i) = 10 ^ L by omega] at sp
    rw [itr_s, sp]
    generalize itr (gR (opN (m.1 4) c) (fun ts => vR (va_cpy (m.1 4) (m.1 6) 0 0 100) nc ne c s ts n) L) p i = P at *
    obtain ⟨q1, q2, q3, q4, q5⟩ := hQ
    have lt : ¬ nI (10 ^ L) ≤ nI i := ix_lt hi' (by omega)
    by_cases z : nI n ≤ P.1
    · right
      refine ⟨q, ?_, ?_⟩
      · simp only [f_X3_seekRowOfLength_L3, if_neg lt, q3, if_pos z]
      · rw [hs P z]; exact ⟨q1, q2, q3, q4, q5⟩
    · left
      by_cases z2 : okB (opN (m.1 4) c) (dgL L i) = true
      · have mb := mbr_v (m := q) (n := n) (hPB (dgL L i) (by rw [dgL_len]; exact hL) (ok9 hL hi' z2)) (fun k hk => by rw [e4, cpy6 hk]) q2 hn hL hi'
        unfold gR upP
        rw [if_pos z2]
        dsimp only
        rw [numL_dg hL hi', dgL_len]
        by_cases z3 : P.1 < vR (va_cpy (m.1 4) (m.1 6) 0 0 100) nc ne c s (dgL L i) n
        · rw [if_pos z3]
          refine ⟨(wr (wr (wr q 23 6 (nI i)) 23 8 (nI L)) 23 7 (vR (va_cpy (m.1 4) (m.1 6) 0 0 100) nc ne c s (dgL L i) n), nI (i + 1)), ?_, _, rfl, ((q1.tr (Fr.w1 rfl)).tr (Fr.w1 rfl)).tr (Fr.w1 rfl), fun j hj => ?_, ?_, ?_, ?_⟩
          · simp only [f_X3_seekRowOfLength_L3, if_neg lt, q3, if_neg z, isOf_t hL hi', cal_eq, if_pos z2, n10, ↓reduceIte, mb, bnd_eq, nI_1, if_neg (Int32.not_le.mpr z3)]
          · rw [wr_ne (by decide), wr_ne (by decide), wr_ne (by decide), wr_ne (by decide), wr_ne (by decide), wr_ne (by decide)]; exact q2 j hj
          · rw [wr_at, pk_us]
          · rw [wr_at, pk_un (by decide), wr_at, pk_un (by decide), wr_at, pk_us]
          · rw [wr_at, pk_un (by decide), wr_at, pk_us]
        · rw [if_neg z3]
          refine ⟨(q, nI (i + 1)), ?_, q, rfl, q1, q2, q3, q4, q5⟩
          simp only [f_X3_seekRowOfLength_L3, if_neg lt, q3, if_neg z, isOf_t hL hi', cal_eq, if_pos z2, n10, ↓reduceIte, mb, bnd_eq, nI_1, if_pos (Int32.not_lt.mp z3)]
      · unfold gR
        rw [if_neg z2]
        refine ⟨(q, nI (i + 1)), ?_, q, rfl, q1, q2, q3, q4, q5⟩
        simp only [f_X3_seekRowOfLength_L3, if_neg lt, q3, if_neg z, isOf_t hL hi', cal_eq, if_neg z2, ↓reduceIte, bnd_eq, nI_1]) (by
    rintro st ⟨q, rfl, hQ⟩
    refine ⟨q, ?_, hQ⟩
    simp only [f_X3_seekRowOfLength_L3, if_pos (nI_le (Nat.le_refl (10 ^ L)) (show 10 ^ L < 2 ^ 31 by omega))]) (by omega)
  exact ⟨x, x1, x2⟩
def pcS (o : Int32) (v : List Nat → Int32) (n s : Nat) : Nat → Int32 × Int32 × Int32
  | 0 => (v [], -1, 0)
  | i + 1 => if n < (i + 1) * s then pcS o v n s i else itr (gR o v (i + 1)) (pcS o v n s i) (10 ^ (i + 1))
def pmS (o : Int32) (v : List Nat → Int32) (p : Int32 × Int32 × Int32) : Nat → Int32 × Int32 × Int32
  | 0 => p
  | i + 1 => itr (gR o v i) (pmS o v p i) (10 ^ i)
theorem seek_v (hX : PX nl ln V nc ne B c s n m) : ∃ q', f_X3_seekRow m (nI c) (nI n) = some q' ∧ QC m q' nc ne c n (pcS (opN (m.1 4) c) (fun ts => vR (va_cpy (m.1 4) (m.1 6) 0 0 100) nc ne c s ts n) n s 3) := by
  have hX' := hX
  obtain ⟨R', T, hlr, h4, hi, eh, hc, hn, hPB⟩ := hX
  have hc8 : c < 8 := by have := T.2.1.1.1.2; omega
  obtain ⟨m1, f1, f2, f3⟩ := foresee_v (n := n) (T_WF T) hc hn
  have P0 := hPB [] (by decide) (fun j hj => absurd hj (by simp))
  have fr1 : Fr pS m m1 := Fr_mono (fun a b h => by unfold pS at h; simp at h; exact h.1) f2
  have e4 : m1.1 4 = m.1 4 := funext fun k => fr1.1 4 k rfl
  let m3 := wr (wr m1 23 6 (-1)) 23 8 0
  have mb := mbr_v (m := m3) (n := n) (L := 0) (row := 0) P0 (fun k hk => by show m1.1 4 k = _; rw [e4, cpy6 hk]) (fun i hi => f3 i hi) hn (by decide) (by decide)
  have ks : kd (m.1 4) c 4 = nI s := by
    obtain ⟨_, _, _, _, _, h, _⟩ := P0
    rw [← h]
    exact (cpy6 (by omega)).symm
  have q0 : QC m (wr m3 23 7 (vR (va_cpy (m.1 4) (m.1 6) 0 0 100) nc ne c s [] n)) nc ne c n (pcS (opN (m.1 4) c) (fun ts => vR (va_cpy (m.1 4) (m.1 6) 0 0 100) nc ne c s ts n) n s 0) := by
    refine ⟨((fr1.tr (Fr.w1 rfl)).tr (Fr.w1 rfl)).tr (Fr.w1 rfl), fun i hi => f3 i hi, ?_, ?_, ?_⟩
    · rw [wr_at, pk_us]; rfl
    · rw [wr_at, pk_un (by decide)]
      show (wr (wr m1 23 6 (-1)) 23 8 0).1 23 6 = _
      rw [wr_at, pk_un (by decide), wr_at, pk_us]; rfl
    · rw [wr_at, pk_un (by decide)]
      show (wr (wr m1 23 6 (-1)) 23 8 0).1 23 8 = _
      rw [wr_at, pk_us]; rfl
  suffices key : ∃ q', lpO (f_X3_seekRow_L62 (nI c) (nI n) (opN (m.1 4) c)) fu (wr m3 23 7 (vR (va_cpy (m.1 4) (m.1 6) 0 0 100) nc ne c s [] n), 1, 1) = some q' ∧ QC m q' nc ne c n (pcS (opN (m.1 4) c) (fun ts => vR (va_cpy (m.1 4) (m.1 6) 0 0 100) nc ne c s ts n) n s 3) by
    obtain ⟨q', k1, k2⟩ := key
    refine ⟨q', ?_, k2⟩
    unfold f_X3_seekRow
    rw [f1, calv_eq]
    simp only [bnd_eq]
    have mb' : f_X3_monthsByRow (wr (wr m1 23 6 (-1)) 23 8 0) (nI c) (nI n) 0 0 = some (vR (va_cpy (m.1 4) (m.1 6) 0 0 100) nc ne c s [] n, m3) := mb
    rw [mb', cal_eq, rightOf_v hc8, cal_eq, kid8 hc8, cal_eq]
    have e4' : (wr m3 23 7 (vR (va_cpy (m.1 4) (m.1 6) 0 0 100) nc ne c s [] n)).1 4 = m.1 4 := QC_4 q0
    rw [e4']
    show lpk (f_X3_seekRow_L62 (nI c) (nI n) (opN (m.1 4) c)) _ _ = _
    rw [lpk_of k1]
  refine lpO_inv (step := f_X3_seekRow_L62 (nI c) (nI n) (opN (m.1 4) c)) (fun i st => ∃ q, st = (q, nI (10 ^ i), nI (i + 1)) ∧ QC m q nc ne c n (pcS (opN (m.1 4) c) (fun ts => vR (va_cpy (m.1 4) (m.1 6) 0 0 100) nc ne c s ts n) n s i)) _ 3 _ ⟨_, rfl, q0⟩ ?_ ?_ (by decide)
  · rintro i st hi' ⟨q, rfl, hQ⟩
    have e4q := QC_4 hQ
    have k4 : f_X0_kid 4 q (nI c) 4 = some (nI s, q) := by rw [kid4 hc8, e4q, ks]
    have e10 : nI (10 ^ i) * 10 = nI (10 ^ (i + 1)) := by rw [show (10 : Int32) = nI 10 from rfl, pk_mul, Nat.pow_succ]
    have em : nI (i + 1) * nI s = nI ((i + 1) * s) := pk_mul _ _
    have s9 : s < 10 := by obtain ⟨_, _, _, _, _, _, _, h, _⟩ := P0; exact h
    have sz : (i + 1) * s < 2 ^ 31 := by
      have : (i + 1) * s ≤ 3 * 9 := Nat.mul_le_mul (by omega) (by omega)
      omega
    have lt : nI n < nI ((i + 1) * s) ↔ n < (i + 1) * s := nI_ltI (by omega) sz
    have n3 : ¬ (3 : Int32) < nI (i + 1) := nI_nlt (a := 3) (b := i + 1) (by omega) (by decide)
    rw [pcS]
    by_cases z : n < (i + 1) * s
    · rw [if_pos z]
      refine ⟨(q, nI (10 ^ (i + 1)), nI (i + 1 + 1)), ?_, q, rfl, hQ⟩
      simp only [f_X3_seekRow_L62, if_neg n3, bnd_eq, k4, cal_eq, em, if_pos (lt.mpr z), e10, nI_1]
    · rw [if_neg z]
      obtain ⟨q', s1, s2⟩ := sl_v hX' hQ (show i + 1 ≤ 3 by omega)
      refine ⟨(q', nI (10 ^ (i + 1)), nI (i + 1 + 1)), ?_, q', rfl, s2⟩
      simp only [f_X3_seekRow_L62, if_neg n3, bnd_eq, k4, cal_eq, em, if_neg (fun y => z (lt.mp y)), e10, s1, calv_eq, nI_1]
  · rintro st ⟨q, rfl, hQ⟩
    refine ⟨q, ?_, hQ⟩
    simp only [f_X3_seekRow_L62, if_pos (show (3 : Int32) < nI (3 + 1) by decide)]
def RC (pc pm : Int32 × Int32 × Int32) : Prop := pc.1 = pm.1 ∧ pc.2.2 = pm.2.2 ∧ (pm.2.2 = 0 → pc.2.1 = -1) ∧ (¬ pm.2.2 = 0 → pc.2.1 = pm.2.1)
theorem gR_RC (hL : 1 ≤ L) (hL3 : L ≤ 3) (h : RC pc pm) : RC (gR o v L row pc) (gR o v L row pm) := by
  unfold gR upP
  split
  · rw [h.1]
    split
    · refine ⟨rfl, rfl, fun z => ?_, fun _ => rfl⟩
      dsimp only at z
      rw [dgL_len] at z
      exact absurd z (nI_ne0 (by omega) (by omega))
    · exact h
  · exact h
theorem itr_RC (hL : 1 ≤ L) (hL3 : L ≤ 3) (h : RC pc pm) : ∀ n, RC (itr (gR o v L) pc n) (itr (gR o v L) pm n)
  | 0 => h
  | n + 1 => by rw [itr_s, itr_s]; exact gR_RC hL hL3 (itr_RC hL hL3 h n)
theorem gR_mono : pm.1 ≤ (gR o v L row pm).1 := by
  unfold gR upP
  split
  · split
    · next z => exact Int32.le_of_lt z
    · exact Int32.le_refl _
  · exact Int32.le_refl _
theorem itr_ge : ∀ n, pm.1 ≤ (itr (gR o v L) pm n).1 ∧ ∀ r, r < n → okB o (dgL L r) = true → v (dgL L r) ≤ (itr (gR o v L) pm n).1
  | 0 => ⟨Int32.le_refl _, fun r hr => absurd hr (by omega)⟩
  | n + 1 => by
    obtain ⟨h1, h2⟩ := itr_ge n
    rw [itr_s]
    refine ⟨Int32.le_trans h1 gR_mono, fun r hr ho => ?_⟩
    by_cases z : r = n
    · subst z
      unfold gR upP
      rw [if_pos ho]
      split
      · exact Int32.le_refl _
      · next y => exact Int32.not_lt.mp y
    · exact Int32.le_trans (h2 r (by omega) ho) gR_mono
theorem pc_pm (hm1 : p.1 < v []) (hsn : ∀ i r, i ≤ 2 → n < (i + 1) * s → r < 10 ^ (i + 1) → v (dgL (i + 1) r) = v (dgL i (r / 10))) : ∀ i, i ≤ 3 → RC (pcS o v n s i) (pmS o v p (i + 1)) ∧ ∀ r, r < 10 ^ i → okB o (dgL i r) = true → v (dgL i r) ≤ (pmS o v p (i + 1)).1 := by
  intro i
  induction i with
  | zero =>
    intro _
    have e : pmS o v p (0 + 1) = (v [], nI 0, nI 0) := by
      show gR o v 0 0 p = _
      unfold gR upP
      have ok0 : okB o (dgL 0 0) = true := okB_iff.mpr (fun h hh => absurd hh (by simp [dgL]))
      rw [if_pos ok0]
      show (if p.1 < v [] then (v [], nI (numL []), nI 0) else p) = _
      rw [if_pos hm1]; rfl
    rw [e]
    refine ⟨⟨rfl, rfl, fun _ => rfl, fun z => absurd rfl z⟩, fun r hr _ => ?_⟩
    show v [] ≤ v []
    exact Int32.le_refl _
  | succ i ih =>
    intro hi
    obtain ⟨h1, h2⟩ := ih (by omega)
    have e : pmS o v p (i + 1 + 1) = itr (gR o v (i + 1)) (pmS o v p (i + 1)) (10 ^ (i + 1)) := rfl
    rw [e, pcS]
    refine ⟨?_, (itr_ge (10 ^ (i + 1))).2⟩
    by_cases z : n < (i + 1) * s
    · rw [if_pos z]
      have idle : itr (gR o v (i + 1)) (pmS o v p (i + 1)) (10 ^ (i + 1)) = pmS o v p (i + 1) := by
        have : ∀ k, k ≤ 10 ^ (i + 1) → itr (gR o v (i + 1)) (pmS o v p (i + 1)) k = pmS o v p (i + 1) := by
          intro k
          induction k with
          | zero => intro _; rfl
          | succ k ihk =>
            intro hk
            rw [itr_s, ihk (by omega)]
            unfold gR upP
            by_cases y : okB o (dgL (i + 1) k) = true
            · rw [if_pos y, if_neg]
              obtain ⟨d1, d2⟩ := dg_snoc (L := i) (row := k) (by omega) (by omega)
              rw [hsn i k (by omega) z (by omega)]
              refine Int32.not_lt.mpr (h2 (k / 10) d2 ?_)
              rw [d1] at y
              exact okB_iff.mpr (okP_l (okB_iff.mp y))
            · rw [if_neg y]
        exact this _ (Nat.le_refl _)
      rw [idle]; exact h1
    · rw [if_neg z]
      exact itr_RC (by omega) (by omega) h1 _
end
