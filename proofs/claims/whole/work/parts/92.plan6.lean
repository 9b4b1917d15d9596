/-! plan: rows of tens in their order, the model's -/
section
variable {nl B B' : Nat} {ln : Nat → Nat} {V : Nat → (Nat → Int32) → Int32} {m m1 m2 m' : Sg} {j w u : Nat} {a a1 a2 a3 a4 r law x mo o : Int32} {f f' f0 F G K g g' : Nat → Int32} {nc ne c d e t M n i s l y h L q row k W : Nat} {ts pre : List Nat} {p : Int32 × Int32 × Int32}
def okP (o : Int32) (l : List Nat) : Prop := ∀ h, h < l.length → ¬ b0 o (tA l h) ∧ ∀ h', h' < h → ¬ tA l h' = tA l h
def okB (o : Int32) (l : List Nat) : Bool := decide (∀ h, h < l.length → ¬ b0 o (tA l h) ∧ ∀ h', h' < h → ¬ tA l h' = tA l h)
theorem okB_iff {l : List Nat} : okB o l = true ↔ okP o l := decide_eq_true_iff
theorem tA_l {l l' : List Nat} (hh : h < l.length) : tA (l ++ l') h = tA l h := by
  unfold tA
  rw [List.getD_eq_getElem?_getD, List.getD_eq_getElem?_getD, List.getElem?_append_left hh]
theorem tA_r {l : List Nat} {t : Nat} : tA (l ++ [t]) l.length = t := by
  unfold tA
  rw [List.getD_eq_getElem?_getD, List.getElem?_append_right (Nat.le_refl _)]
  simp
theorem okP_l {l l' : List Nat} (h : okP o (l ++ l')) : okP o l := by
  intro k hk
  have := h k (by rw [List.length_append]; omega)
  rw [tA_l hk] at this
  refine ⟨this.1, fun h' hh' => ?_⟩
  have := this.2 h' hh'
  rwa [tA_l (by omega)] at this
theorem okP_s {l : List Nat} {t : Nat} (h : okP o l) : okP o (l ++ [t]) ↔ ¬ b0 o t ∧ ∀ h', h' < l.length → ¬ tA l h' = t := by
  constructor
  · intro z
    have := z l.length (by rw [List.length_append]; simp)
    rw [tA_r] at this
    refine ⟨this.1, fun h' hh' => ?_⟩
    have := this.2 h' hh'
    rwa [tA_l hh'] at this
  · rintro ⟨z1, z2⟩ k hk
    rw [List.length_append] at hk
    by_cases y : k < l.length
    · rw [tA_l y]
      refine ⟨(h k y).1, fun h' hh' => ?_⟩
      rw [tA_l (by omega)]
      exact (h k y).2 h' hh'
    · have : k = l.length := by simp at hk; omega
      subst this
      rw [tA_r]
      refine ⟨z1, fun h' hh' => ?_⟩
      rw [tA_l hh']
      exact z2 h' hh'
def numL (l : List Nat) : Nat := l.foldl (fun a t => 10 * a + t) 0
theorem numL_s {l : List Nat} : numL (l ++ [t]) = 10 * numL l + t := by
  unfold numL
  rw [List.foldl_append]; rfl
def upP (v : List Nat → Int32) (l : List Nat) (p : Int32 × Int32 × Int32) : Int32 × Int32 × Int32 := if p.1 < v l then (v l, nI (numL l), nI l.length) else p
def gpF (o : Int32) (v : List Nat → Int32) : Nat → List Nat → (Int32 × Int32 × Int32) → Int32 × Int32 × Int32
  | 0, pre, p => upP v pre p
  | k + 1, pre, p => itr (fun t p => if okB o (pre ++ [t]) = true then gpF o v k (pre ++ [t]) p else p) p 9
/-- tens that may be taught -/
def opN (f : Nat → Int32) (c : Nat) : Int32 := (511 &&& (rt f c ^^^ (-1))) &&& (kd f c 8 ^^^ (-1))
theorem op_b0 (ht : t < 9) : ¬ b0 (opN f c) t ↔ b0 (rt f c) t ∧ b0 (kd f c 8) t := by
  have h511 : ∀ t, t < 9 → ¬ b0 511 t := by decide
  unfold opN
  rw [b0_and (by omega), b0_and (by omega), b0_not (by omega), b0_not (by omega)]
  have := h511 t ht
  generalize b0 (rt f c) t = P at *
  generalize b0 (kd f c 8) t = Q at *
  generalize b0 511 t = R at *
  by_cases h1 : P <;> by_cases h2 : Q <;> simp [h1, h2, this]
theorem op_hi : b0 (opN f c) 9 := by
  unfold opN
  rw [b0_and (by omega), b0_and (by omega)]
  exact Or.inl (Or.inl (by decide))
def QP (m q : Sg) (p : Int32 × Int32 × Int32) (pre : List Nat) : Prop := (∀ a b, ess a b = true → q.1 a b = m.1 a b) ∧ (∀ j, j < pre.length → q.1 40 j = nI (tA pre j)) ∧ q.1 27 40 = p.1 ∧ q.1 27 41 = p.2.1 ∧ q.1 27 42 = p.2.2
theorem L98_v {q : Sg} (h40 : ∀ j, j < pre.length → q.1 40 j = nI (tA pre j)) (hp : ∀ j, j < pre.length → tA pre j < 9) (hl : pre.length ≤ 3) (ht : t < 9) (b : Bool) {ρ : Type} {K : Sg × Int32 → Option ρ} : lpk (f_X11_goPlan_L98 (nI pre.length) (nI t)) (q, if b = true then 1 else 0, 0) K = K (q, if b = true ∧ ∀ h', h' < pre.length → ¬ tA pre h' = t then 1 else 0) := by
  have e0 : (q, (if b = true then (1 : Int32) else 0), (0 : Int32)) = (fun i => (q, (if b = true ∧ ∀ h', h' < i → ¬ tA pre h' = t then (1 : Int32) else 0), nI i)) 0 := by
    have : (b = true ∧ ∀ h', h' < 0 → ¬ tA pre h' = t) ↔ b = true := ⟨fun z => z.1, fun z => ⟨z, fun _ y => absurd y (by omega)⟩⟩
    simp only [this]; rfl
  rw [e0, lpk_seq (S := fun i => (q, (if b = true ∧ ∀ h', h' < i → ¬ tA pre h' = t then (1 : Int32) else 0), nI i)) (x := (q, if b = true ∧ ∀ h', h' < pre.length → ¬ tA pre h' = t then 1 else 0)) pre.length ?_ ?_ (by omega)]
  · intro i hi
    have e1 : nI (tA pre i) = nI t ↔ tA pre i = t := nI_eq (by have := hp i hi; omega) (by omega)
    simp only [f_X11_goPlan_L98, if_neg (ix_lt hi (show pre.length < 2 ^ 31 by omega)), bnd_eq, in_nI (show i < 3 by omega) (show 3 < 2 ^ 31 by decide), ↓reduceIte, nI_clamp (show i < 2 ^ 31 by omega), h40 i hi, e1, nI_1]
    by_cases z : b = true ∧ ∀ h', h' < i → ¬ tA pre h' = t
    · rw [if_pos z, if_neg n10]
      by_cases y : tA pre i = t
      · rw [if_pos y, if_neg (fun x => x.2 i (by omega) y)]
      · rw [if_neg y, if_pos]
        refine ⟨z.1, fun h' hh' => ?_⟩
        by_cases x : h' = i
        · subst x; exact y
        · exact z.2 h' (by omega)
    · rw [if_neg z, if_pos rfl, if_neg (fun x => z ⟨x.1, fun h' hh' => x.2 h' (by omega)⟩)]
  · simp only [f_X11_goPlan_L98, if_pos (nI_le (Nat.le_refl pre.length) (show pre.length < 2 ^ 31 by omega))]
/-- what a plan stands on -/
def PX (nl : Nat) (ln : Nat → Nat) (V : Nat → (Nat → Int32) → Int32) (nc ne B c s n : Nat) (m : Sg) : Prop := Rel nl ln B m ∧ Told m nc ne B ∧ LR nl ln V m ∧ nl ≤ 4 ∧ isI (m.1 13 3) nl ∧ m.1 27 31 = m.1 13 3 ∧ c < nc ∧ n ≤ 24 ∧ ∀ ts : List Nat, ts.length ≤ 3 → (∀ j, j < ts.length → tA ts j < 9) → PB (va_cpy (m.1 4) (m.1 6) 0 0 100) nc ne B c s ts
theorem gp_0 (hX : PX nl ln V nc ne B c s n m) {q : Sg} (hq : QP m q p pre) (hl : pre.length ≤ 3) (hp : ∀ j, j < pre.length → tA pre j < 9) {R : Sg → Int32 → Int32 → Int32 → Int32 → Int32 → Option Sg} : ∃ q', f_X11_goPlan R q (nI c) (nI n) (nI pre.length) (nI pre.length) (nI (numL pre)) = some q' ∧ QP m q' (upP (fun ts => vR (va_cpy (m.1 4) (m.1 6) 0 0 100) nc ne c s ts n) pre p) pre := by
  obtain ⟨R', T, hlr, h4, hi, eh, hc, hn, hPB⟩ := hX
  obtain ⟨q1, q2, q3, q4, q5⟩ := hq
  obtain ⟨m3, d1, d2, d3, d4, d5⟩ := T_start R' T hlr h4 hi eh (m1 := q) q1
  obtain ⟨m5, x1, x2, x3, x4, x5⟩ := rBy_v (ts := pre) hPB hl hp hn hc q2 ⟨m3, d1, d2, d5⟩
  have e34 : m.1 27 34 = -1 := R'.2.2.2.1
  have es : ∀ a b, ess a b = true → m5.1 a b = m.1 a b := by
    intro a b hab
    by_cases z : a = 27 ∧ b = 34
    · obtain ⟨rfl, rfl⟩ := z
      rw [x2, e34]
    · rw [x3 a b (by unfold essP; rw [hab]; simp; omega), q1 a b hab]
  unfold f_X11_goPlan
  rw [if_pos rfl, x1, cal_eq, x5 40 (by decide) (by decide), q3]
  unfold upP
  dsimp only
  by_cases z : p.1 < vR (va_cpy (m.1 4) (m.1 6) 0 0 100) nc ne c s pre n
  · rw [if_pos z, if_pos z]
    simp only [bnd_eq]
    refine ⟨_, rfl, fun a b hab => ?_, fun j hj => ?_, ?_, ?_, ?_⟩
    · by_cases y : a = 27
      · subst y
        have : b ≠ 40 ∧ b ≠ 41 ∧ b ≠ 42 := by
          refine ⟨?_, ?_, ?_⟩ <;> · intro y; subst y; exact absurd hab (by decide)
        rw [wr_at, pk_un this.2.2, wr_at, pk_un this.2.1, wr_at, pk_un this.1, es 27 b hab]
      · rw [wr_ne y, wr_ne y, wr_ne y, es a b hab]
    · rw [wr_ne (by decide), wr_ne (by decide), wr_ne (by decide), x4, q2 j hj]
    · rw [wr_at, pk_un (by decide), wr_at, pk_un (by decide), wr_at, pk_us]
    · rw [wr_at, pk_un (by decide), wr_at, pk_us]
    · rw [wr_at, pk_us]
  · rw [if_neg z, if_neg z]
    exact ⟨m5, rfl, es, fun j hj => by rw [x4, q2 j hj], by rw [x5 40 (by decide) (by decide), q3], by rw [x5 41 (by decide) (by decide), q4], by rw [x5 42 (by decide) (by decide), q5]⟩
theorem gp_k (hX : PX nl ln V nc ne B c s n m) : ∀ k fuel pre p (q : Sg), k < fuel → pre.length + k ≤ 3 → okP (opN (m.1 4) c) pre → (∀ j, j < pre.length → tA pre j < 9) → QP m q p pre → ∃ q', recP fuel q (nI c) (nI n) (nI pre.length) (nI (pre.length + k)) (nI (numL pre)) = some q' ∧ QP m q' (gpF (opN (m.1 4) c) (fun ts => vR (va_cpy (m.1 4) (m.1 6) 0 0 100) nc ne c s ts n) k pre p) pre := by
  intro k
  induction k with
  | zero =>
    intro fuel pre p q hf hl ho hp hq
    cases fuel with
    | zero => omega
    | succ fuel => exact gp_0 hX hq (by omega) hp
  | succ k ih =>
    intro fuel pre p q hf hl ho hp hq
    cases fuel with
    | zero => omega
    | succ fuel =>
      obtain ⟨R', T, hlr, h4, hi, eh, hc, hn, hPB⟩ := hX
      have hX : PX nl ln V nc ne B c s n m := ⟨R', T, hlr, h4, hi, eh, hc, hn, hPB⟩
      have hc8 : c < 8 := by have := T.2.1.1.1.2; omega
      have ne1 : ¬ nI pre.length = nI (pre.length + (k + 1)) := fun z => by have := (nI_eq (by omega) (by omega)).mp z; omega
      suffices key : ∃ q', lpO (f_X11_goPlan_L46 (recP fuel) (nI c) (nI n) (nI pre.length) (nI (pre.length + (k + 1))) (nI (numL pre))) fu (q, 0) = some q' ∧ QP m q' (gpF (opN (m.1 4) c) (fun ts => vR (va_cpy (m.1 4) (m.1 6) 0 0 100) nc ne c s ts n) (k + 1) pre p) pre by
        obtain ⟨q', e1, e2⟩ := key
        refine ⟨q', ?_, e2⟩
        show f_X11_goPlan (recP fuel) q _ _ _ _ _ = _
        unfold f_X11_goPlan
        rw [if_neg ne1, lpk_of e1]
      refine lpO_inv (step := f_X11_goPlan_L46 (recP fuel) (nI c) (nI n) (nI pre.length) (nI (pre.length + (k + 1))) (nI (numL pre))) (fun i st => ∃ q, st = (q, nI i) ∧ QP m q (itr (fun t p => if okB (opN (m.1 4) c) (pre ++ [t]) = true then gpF (opN (m.1 4) c) (fun ts => vR (va_cpy (m.1 4) (m.1 6) 0 0 100) nc ne c s ts n) k (pre ++ [t]) p else p) p i) pre) _ 9 (q, 0) ⟨q, rfl, hq⟩ ?_ ?_ (by decide)
      · rintro t st ht ⟨q, rfl, hq⟩
        rw [itr_s]
        generalize itr (fun t p => if okB (opN (m.1 4) c) (pre ++ [t]) = true then gpF (opN (m.1 4) c) (fun ts => vR (va_cpy (m.1 4) (m.1 6) 0 0 100) nc ne c s ts n) k (pre ++ [t]) p else p) p t = P at *
        obtain ⟨q1, q2, q3, q4, q5⟩ := hq
        have r38 : q.1 38 = m.1 38 := funext fun b => q1 38 b (e_all (by simp) b)
        have cv : CV (q.1 38) (m.1 4) := by rw [r38]; exact T.2.1.2.1
        have step0 : f_X11_goPlan_L46 (recP fuel) (nI c) (nI n) (nI pre.length) (nI (pre.length + (k + 1))) (nI (numL pre)) (q, nI t) = (if okB (opN (m.1 4) c) (pre ++ [t]) = true then calv (recP fuel (wr q 40 pre.length (nI t)) (nI c) (nI n) (nI (pre.length + 1)) (nI (pre.length + (k + 1))) (nI (10 * numL pre + t))) (fun m30 => some (.inr (m30, nI (t + 1)))) else some (.inr (q, nI (t + 1)))) := by
          have ob : okB (opN (m.1 4) c) (pre ++ [t]) = true ↔ (b0 (rt (m.1 4) c) t ∧ b0 (kd (m.1 4) c 8) t) ∧ ∀ h', h' < pre.length → ¬ tA pre h' = t := by
            rw [okB_iff, okP_s ho, op_b0 ht]
          have en : (10 : Int32) * nI (numL pre) + nI t = nI (10 * numL pre + t) := by rw [show (10 : Int32) = nI 10 from rfl, pk_mul, nI_add]
          have tailF : ∀ b : Bool, (b = true ↔ (b0 (rt (m.1 4) c) t ∧ b0 (kd (m.1 4) c 8) t)) → (lpk (f_X11_goPlan_L98 (nI pre.length) (nI t)) (q, (if b = true then (1 : Int32) else 0), 0) (fun ((m16, x17) : Sg × Int32) => (if x17 = 0 then some (Sum.inr (m16, nI t + 1)) else if inr (nI pre.length) 3 = true then calv (recP fuel (wr m16 40 (nI pre.length).toNatClampNeg (nI t)) (nI c) (nI n) (nI pre.length + 1) (nI (pre.length + (k + 1))) ((10 * nI (numL pre)) + nI t)) (fun m30 => some (Sum.inr (m30, nI t + 1))) else none)) : Option (Sg ⊕ (Sg × Int32))) = (if okB (opN (m.1 4) c) (pre ++ [t]) = true then calv (recP fuel (wr q 40 pre.length (nI t)) (nI c) (nI n) (nI (pre.length + 1)) (nI (pre.length + (k + 1))) (nI (10 * numL pre + t))) (fun m30 => some (.inr (m30, nI (t + 1)))) else some (.inr (q, nI (t + 1)))) := by
            intro b hb
            rw [L98_v q2 hp (show pre.length ≤ 3 by omega) ht b]
            by_cases z : b = true ∧ ∀ h', h' < pre.length → ¬ tA pre h' = t
            · rw [if_pos (ob.mpr ⟨hb.mp z.1, z.2⟩)]
              simp only [if_pos z, n10, ↓reduceIte, in_nI (show pre.length < 3 by omega) (show 3 < 2 ^ 31 by decide), nI_clamp (show pre.length < 2 ^ 31 by omega), nI_1, en]
            · rw [if_neg (fun y => z ⟨hb.mpr (ob.mp y).1, (ob.mp y).2⟩)]
              simp only [if_neg z, ↓reduceIte, nI_1]
          simp only [f_X11_goPlan_L46, if_neg (show ¬ (9 : Int32) ≤ nI t from ix_lt (n := 9) ht (by decide)), mRight_v cv hc8, cal_eq, has_v, bnd_eq, i7_5 hc8, t7_5 hc8, (cv.1 c hc8).2.2.2.2.2, ↓reduceIte]
          by_cases y1 : b0 (rt (m.1 4) c) t
          · rw [if_pos y1, if_pos rfl]
            by_cases y2 : b0 (kd (m.1 4) c 8) t
            · rw [if_pos y2, if_pos rfl]
              exact tailF true (iff_of_true rfl ⟨y1, y2⟩)
            · rw [if_neg y2, if_neg n10]
              exact tailF false (iff_of_false (by decide) (fun z => y2 z.2))
          · rw [if_neg y1, if_neg n10]
            exact tailF false (iff_of_false (by decide) (fun z => y1 z.1))
        rw [step0]
        by_cases z : okB (opN (m.1 4) c) (pre ++ [t]) = true
        · rw [if_pos z, if_pos z]
          have hlen : (pre ++ [t]).length = pre.length + 1 := by rw [List.length_append]; rfl
          have hq' : QP m (wr q 40 pre.length (nI t)) P (pre ++ [t]) := by
            refine ⟨fun a b hab => ?_, fun j hj => ?_, by rw [wr_ne (by decide)]; exact q3, by rw [wr_ne (by decide)]; exact q4, by rw [wr_ne (by decide)]; exact q5⟩
            · have : a ≠ 40 := by intro y; subst y; exact absurd hab (by simp [ess])
              rw [wr_ne this, q1 a b hab]
            · rw [hlen] at hj
              by_cases y : j = pre.length
              · subst y; rw [wr_at, pk_us, tA_r]
              · rw [wr_at, pk_un y, tA_l (by omega), q2 j (by omega)]
          obtain ⟨q', e1, e2⟩ := ih fuel (pre ++ [t]) P (wr q 40 pre.length (nI t)) (by omega) (by rw [hlen]; omega) (okB_iff.mp z) (fun j hj => by
            rw [hlen] at hj
            by_cases y : j = pre.length
            · subst y; rw [tA_r]; exact ht
            · rw [tA_l (by omega)]; exact hp j (by omega)) hq'
          rw [hlen, numL_s, show pre.length + 1 + k = pre.length + (k + 1) by omega] at e1
          rw [e1, calv_eq]
          refine ⟨_, rfl, q', rfl, e2.1, fun j hj => ?_, e2.2.2⟩
          have := e2.2.1 j (by rw [hlen]; omega)
          rwa [tA_l hj] at this
        · rw [if_neg z, if_neg z]
          exact ⟨_, rfl, q, rfl, q1, q2, q3, q4, q5⟩
      · rintro st ⟨q, rfl, hq⟩
        exact ⟨q, by simp only [f_X11_goPlan_L46, if_pos (show (9 : Int32) ≤ nI 9 by decide)], hq⟩
end
