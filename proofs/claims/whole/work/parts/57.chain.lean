/-! the longest chain -/
section
variable {nl B : Nat} {ln : Nat → Nat} {m m1 m2 : Sg} {j : Nat} {a a1 a2 r s : Int32} {f ch : Nat → Int32} {nc ne c e d : Nat}
theorem scn_none {χ : Type} {P : Nat → Option χ} : ∀ (k i : Nat), scn P i k = none ↔ ∀ q, i ≤ q → q < i + k → P q = none
  | 0, i => by simp [scn]; omega
  | k + 1, i => by
    rw [scn]
    cases h : P i with
    | some x =>
      simp only [reduceCtorEq, false_iff]
      intro z
      have := z i (Nat.le_refl i) (by omega)
      rw [h] at this; cases this
    | none =>
      simp only
      rw [scn_none k (i + 1)]
      constructor
      · intro z q q1 q2
        by_cases y : q = i
        · rw [y]; exact h
        · exact z q (by omega) (by omega)
      · intro z q q1 q2
        exact z q (by omega) (by omega)
abbrev chn (f : Nat → Int32) (a b : Nat) : Prop := (¬ kd f b 0 ≤ kd f a 0 ∧ ¬ cnt f b ≤ cnt f a) ∨ (¬ kd f a 0 ≤ kd f b 0 ∧ ¬ cnt f a ≤ cnt f b)
abbrev chOK (f : Nat → Int32) (s : Int32) (nc : Nat) : Prop := ∀ a, a < nc → ∀ b, b < nc → a ≠ b → ¬ b0 s a → ¬ b0 s b → chn f a b
noncomputable def chI (f : Nat → Int32) (s : Int32) (nc : Nat) : Int32 := @ite Int32 (chOK f s nc) (Classical.propDecidable _) 1 0
theorem chI_1 (h : chOK f s nc) : chI f s nc = 1 := @if_pos _ (Classical.propDecidable _) h _ _ _
theorem chI_0 (h : ¬ chOK f s nc) : chI f s nc = 0 := @if_neg _ (Classical.propDecidable _) h _ _ _
def cwF (f : Nat → Int32) (c o : Nat) (x : Int32) : Int32 := if chn f c o then x ||| tn (nI o) else x
def cw (f : Nat → Int32) (nc c : Nat) : Int32 := itr (cwF f c) (tn (nI c)) nc
theorem chained_v (hC : m.1 4 95 = nI nc) (hn : nc ≤ 8) (hc : c < 8) : f_X8_chainedWith m (nI c) = some (cw (m.1 4) nc c, m) := by
  unfold f_X8_chainedWith
  simp only [bnd_eq]
  rw [show (m, (1 : Int32) <<< (nI c &&& 31), (0 : Int32)) = (fun i => (m, itr (cwF (m.1 4) c) (tn (nI c)) i, nI i)) 0 from rfl, lpk_seq (S := fun i => (m, itr (cwF (m.1 4) c) (tn (nI c)) i, nI i)) (x := (m, cw (m.1 4) nc c)) nc ?_ ?_ (by omega)]
  · intro i hi
    have hi8 : i < 8 := by omega
    simp only [f_X8_chainedWith_L6, f_X0_children, hC, cal_eq, if_neg (ix_lt hi (show nc < 2 ^ 31 by omega)), isYounger_v hc hi8, isYounger_v hi8 hc, countOf_v hc, countOf_v hi8, bnd_eq, nI_1, itr, cwF]
    by_cases q1 : kd (m.1 4) i 0 ≤ kd (m.1 4) c 0 <;> by_cases q2 : cnt (m.1 4) i ≤ cnt (m.1 4) c <;> by_cases q3 : kd (m.1 4) c 0 ≤ kd (m.1 4) i 0 <;> by_cases q4 : cnt (m.1 4) c ≤ cnt (m.1 4) i <;> simp [chn, q1, q2, q3, q4, tn]
  · simp only [f_X8_chainedWith_L6, f_X0_children, hC, cal_eq, if_pos (nI_le (Nat.le_refl nc) (show nc < 2 ^ 31 by omega))]; rfl
theorem b0_tn : ∀ a, a < 8 → ∀ t, t < 32 → (b0 (tn (nI a)) t ↔ t ≠ a) := by decide +kernel
theorem cw_bit {t : Nat} (ht : t < 32) (hc : c < 8) : ∀ n, n ≤ 8 → (b0 (itr (cwF f c) (tn (nI c)) n) t ↔ t ≠ c ∧ (t < n → ¬ chn f c t))
  | 0, _ => by rw [itr, b0_tn c hc t ht]; simp
  | n + 1, hn => by
    have ih := cw_bit ht hc n (by omega)
    rw [itr, cwF]
    by_cases q : chn f c n
    · rw [if_pos q, b0_or ht, ih, b0_tn n (by omega) t ht]
      constructor
      · rintro ⟨⟨z1, z2⟩, z3⟩
        exact ⟨z1, fun z => z2 (by omega)⟩
      · rintro ⟨z1, z2⟩
        refine ⟨⟨z1, fun z => z2 (by omega)⟩, fun z => ?_⟩
        subst z
        exact z2 (by omega) q
    · rw [if_neg q, ih]
      constructor
      · rintro ⟨z1, z2⟩
        refine ⟨z1, fun z => ?_⟩
        by_cases y : t = n
        · subst y; exact q
        · exact z2 (by omega)
      · rintro ⟨z1, z2⟩
        exact ⟨z1, fun z => z2 (by omega)⟩
theorem b0_zero {x : Int32} : x = 0 ↔ ∀ t, t < 32 → b0 x t := by
  constructor
  · intro h t ht
    rw [h, b0_iff ht]
    exact BitVec.getLsbD_zero
  · intro h
    apply i32_ext
    intro t ht
    have : b0 0 t := by rw [b0_iff ht]; exact BitVec.getLsbD_zero
    exact ⟨fun _ => this, fun _ => h t ht⟩
theorem b0_big {s n t : Nat} (hs : s < 2 ^ n) (hn : n ≤ 8) (ht : t < 32) (h : n ≤ t) : b0 (nI s) t := by
  rw [b0_iff ht, BitVec.getLsbD, pk_tn (by have := p2le hn; omega)]
  exact Nat.testBit_lt_two_pow (Nat.lt_of_lt_of_le hs (p2le h))
/-- the set is a chain, by the rows of those chained -/
theorem isChain_v {s : Nat} (hs : s < 2 ^ nc) (hn : nc ≤ 8) (hch : ∀ c, c < nc → m.1 22 c = cw f nc c) : f_X8_isChain m (nI s) = some (chI f (nI s) nc, m) := by
  unfold f_X8_isChain
  rw [show (m, (0 : Int32)) = (fun i => (m, nI i)) 0 from rfl, lpk_scn (S := fun i => (m, nI i)) (P := fun i => if b0 (nI s) i then none else if (nI s &&& (m.1 22 i ^^^ (-1))) = 0 then none else some (Sum.inl m)) (y := .inr m) 8 ?_ ?_ (by decide)]
  · have key : scn (fun i => if b0 (nI s) i then none else if (nI s &&& (m.1 22 i ^^^ (-1))) = 0 then none else some (Sum.inl m : Sg ⊕ Sg)) 0 8 = none ↔ chOK f (nI s) nc := by
      rw [scn_none]
      constructor
      · intro z a ha b hb hab h1 h2
        have := z a (by omega) (by omega)
        rw [if_neg h1] at this
        split at this
        · next y =>
          have w := b0_zero.mp y b (by omega)
          rw [b0_and (by omega), b0_not (by omega), hch a ha] at w
          rcases w with w | w
          · exact absurd w h2
          · rw [cw, cw_bit (by omega) (by omega) nc hn] at w
            by_cases v : chn f a b
            · exact v
            · exact absurd ⟨fun e => hab e.symm, fun _ => v⟩ w
        · cases this
      · intro z i i1 i2
        by_cases h1 : b0 (nI s) i
        · rw [if_pos h1]
        · rw [if_neg h1, if_pos]
          have hi : i < nc := by
            rcases Nat.lt_or_ge i nc with y | y
            · exact y
            · exact absurd (b0_big hs hn (by omega) y) h1
          apply b0_zero.mpr
          intro t ht
          rw [b0_and ht, b0_not ht, hch i hi, cw, cw_bit ht (by omega) nc hn]
          by_cases h2 : b0 (nI s) t
          · exact Or.inl h2
          · right
            rintro ⟨y1, y2⟩
            have ht' : t < nc := by
              rcases Nat.lt_or_ge t nc with y | y
              · exact y
              · exact absurd (b0_big hs hn ht y) h2
            exact y2 ht' (z i hi t ht' (fun e => y1 e.symm) h1 h2)
    by_cases q : chOK f (nI s) nc
    · rw [key.mpr q, chI_1 q]; rfl
    · rw [chI_0 q]
      cases y : scn (fun i => if b0 (nI s) i then none else if (nI s &&& (m.1 22 i ^^^ (-1))) = 0 then none else some (Sum.inl m : Sg ⊕ Sg)) 0 8 with
      | none => exact absurd (key.mp y) q
      | some x =>
        have hx : ∀ k i, scn (fun i => if b0 (nI s) i then none else if (nI s &&& (m.1 22 i ^^^ (-1))) = 0 then none else some (Sum.inl m : Sg ⊕ Sg)) i k = some x → x = Sum.inl m := by
          intro k
          induction k with
          | zero => intro i h; cases h
          | succ k ih =>
            intro i h
            rw [scn] at h
            by_cases u : b0 (nI s) i
            · simp only [if_pos u] at h; exact ih (i + 1) h
            · by_cases v : (nI s &&& (m.1 22 i ^^^ (-1))) = 0
              · simp only [if_neg u, if_pos v] at h; exact ih (i + 1) h
              · simp only [if_neg u, if_neg v] at h; cases h; rfl
        rw [hx 8 0 y]; rfl
  · intro i hi
    simp only [f_X8_isChain_L2, if_neg (show ¬ (8 : Int32) ≤ nI i from ix_lt (n := 8) hi (by decide)), bnd_eq, in_nI hi (show 8 < 2 ^ 31 by decide), nI_clamp (show i < 2 ^ 31 by omega), ↓reduceIte, nI_1]
    by_cases u : b0 (nI s) i
    · rw [if_pos u, if_pos u]
    · by_cases v : (nI s &&& (m.1 22 i ^^^ (-1))) = 0
      · rw [if_neg u, if_neg u, if_pos v, if_pos v]
      · rw [if_neg u, if_neg u, if_neg v, if_neg v]
  · rfl
noncomputable def lcF (f : Nat → Int32) (nc i : Nat) (x : Int32) : Int32 := if bcV (nI (i + 1)) ≤ bcV x then x else if chI f (nI (i + 1)) nc = 0 then x else nI (i + 1)
noncomputable def lcV (f : Nat → Int32) (nc : Nat) : Int32 := itr (lcF f nc) 0 (2 ^ nc - 1)
theorem longest_v (hC : m.1 4 95 = nI nc) (hn : nc ≤ 8) : ∃ m1, f_X8_longestChain m = some (lcV (m.1 4) nc, m1) := by
  have hp : 2 ^ nc ≤ 2 ^ 8 := p2le hn
  have hp0 : 1 ≤ 2 ^ nc := Nat.one_le_two_pow
  have hp' : 2 ^ nc < 2 ^ 31 := by omega
  unfold f_X8_longestChain
  have rowv : ∀ n i, i < n → itr (fun c row => upd row c (cw (m.1 4) nc c)) (m.1 22) n i = cw (m.1 4) nc i := by
    intro n
    induction n with
    | zero => intro i h; omega
    | succ n ih =>
      intro i h
      rw [itr]
      by_cases q : i = n
      · rw [q, pk_us]
      · rw [pk_un q, ih i (by omega)]
  rw [show (m, (0 : Int32)) = (fun i => (wrr m 22 (itr (fun c row => upd row c (cw (m.1 4) nc c)) (m.1 22) i), nI i)) 0 from by simp only [itr]; rw [wrr_id]; rfl, lpk_seq (S := fun i => (wrr m 22 (itr (fun c row => upd row c (cw (m.1 4) nc c)) (m.1 22) i), nI i)) (x := wrr m 22 (itr (fun c row => upd row c (cw (m.1 4) nc c)) (m.1 22) nc)) nc ?_ ?_ (by omega)]
  · generalize hm' : wrr m 22 (itr (fun c row => upd row c (cw (m.1 4) nc c)) (m.1 22) nc) = m'
    have h4 : m'.1 4 = m.1 4 := by rw [← hm']; exact wrr_ne (by decide)
    have h22 : ∀ c, c < nc → m'.1 22 c = cw (m.1 4) nc c := by intro c hc; rw [← hm', wrr_at]; exact rowv nc c hc
    refine ⟨m', ?_⟩
    rw [show (m', (0 : Int32), (1 : Int32)) = (fun i => (m', itr (lcF (m.1 4) nc) 0 i, nI (i + 1))) 0 from rfl, lpk_seq (S := fun i => (m', itr (lcF (m.1 4) nc) 0 i, nI (i + 1))) (x := (m', lcV (m.1 4) nc)) (2 ^ nc - 1) ?_ ?_ (by omega)]
    · intro i hi
      simp only [f_X8_longestChain_L43, f_X0_children, h4, hC, cal_eq, sh1 nc (by omega), if_neg (ix_lt (show i + 1 < 2 ^ nc by omega) hp'), bc_v, isChain_v (f := m.1 4) (show i + 1 < 2 ^ nc by omega) hn h22, bnd_eq, nI_1, itr, lcF]
      by_cases q1 : bcV (nI (i + 1)) ≤ bcV (itr (lcF (m.1 4) nc) 0 i)
      · simp only [if_pos q1]
      · simp only [if_neg q1]
        split <;> rfl
    · simp only [f_X8_longestChain_L43, f_X0_children, h4, hC, cal_eq, sh1 nc (by omega), show 2 ^ nc - 1 + 1 = 2 ^ nc by omega, if_pos (nI_le (Nat.le_refl _) hp')]; rfl
  · intro i hi
    have hi8 : i < 8 := by omega
    simp only [itr]
    generalize itr (fun c row => upd row c (cw (m.1 4) nc c)) (m.1 22) i = row
    have h4 : (wrr m 22 row).1 4 = m.1 4 := wrr_ne (by decide)
    have hC' : (wrr m 22 row).1 4 95 = nI nc := by rw [h4, hC]
    simp only [f_X8_longestChain_L2, f_X0_children, hC', cal_eq, if_neg (ix_lt hi (show nc < 2 ^ 31 by omega)), if_neg (show ¬ (8 : Int32) ≤ nI i from ix_lt (n := 8) hi8 (by decide)), chained_v hC' hn hi8, in_nI hi8 (show 8 < 2 ^ 31 by decide), ↓reduceIte, nI_clamp (show i < 2 ^ 31 by omega), bnd_eq, nI_1, wr_wr, h4]
  · have hC' : (wrr m 22 (itr (fun c row => upd row c (cw (m.1 4) nc c)) (m.1 22) nc)).1 4 95 = nI nc := by rw [wrr_ne (by decide), hC]
    simp only [f_X8_longestChain_L2, f_X0_children, hC', cal_eq, if_pos (nI_le (Nat.le_refl nc) (show nc < 2 ^ 31 by omega))]
theorem dif0 {x y : Nat} (hx : x < 2 ^ 30) (hy : y < 2 ^ 30) : (nI x - nI y = 0 ↔ x = y) ∧ (0 ≤ nI x - nI y ↔ y ≤ x) := by
  have e := pk_sub_toInt hx hy
  constructor
  · rw [← Int32.toInt_inj, e]
    show (x : Int) - y = 0 ↔ _
    omega
  · rw [Int32.le_iff_toInt_le, e]
    show 0 ≤ (x : Int) - y ↔ _
    omega
/-- what stops the model's inner loop -/
def icP (f : Nat → Int32) (s : Int32) (mm : Sg) (a b : Nat) : Option (Sg ⊕ Sg) := if a = b then none else if b0 s a then none else if b0 s b then none else if kd f a 0 - kd f b 0 = 0 then some (.inl mm) else if 0 ≤ kd f a 0 - kd f b 0 then none else if cnt f a < cnt f b then none else some (.inl mm)
theorem icP_x {mm : Sg} {x : Sg ⊕ Sg} : ∀ k i, scn (icP f s mm c) i k = some x → x = .inl mm := by
  intro k
  induction k with
  | zero => intro i h; cases h
  | succ k ih =>
    intro i h
    rw [scn] at h
    cases y : icP f s mm c i with
    | none => rw [y] at h; exact ih (i + 1) h
    | some z =>
      rw [y] at h
      cases h
      unfold icP at y
      repeat' split at y
      all_goals first | (cases y; rfl) | cases y
theorem mIsChain_v (hB : B ≤ 40000) (h1 : CV (m.1 38) f) (h2 : SV m f nc ne) (h3 : WF f nc ne B) : f_X11_isChain m s = some (chI f s nc, m) := by
  have hC := h2.2.2.2.2.2.1
  have hn := h3.1.2
  unfold f_X11_isChain
  rw [show (m, (0 : Int32)) = (fun i => (m, nI i)) 0 from rfl, lpk_scn (S := fun i => (m, nI i)) (P := fun a => scn (icP f s m a) 0 nc) (y := .inr m) nc ?_ ?_ (by omega)]
  · have key : scn (fun a => scn (icP f s m a) 0 nc) 0 nc = none ↔ chOK f s nc := by
      rw [scn_none]
      have ages : ∀ a, a < nc → ∃ x, x < 2 ^ 30 ∧ kd f a 0 = nI x := fun a ha => by
        obtain ⟨x, x1, x2⟩ := (h3.2.2.2.2.1 a ha).1
        exact ⟨x, by omega, x2⟩
      have lt : ∀ a b, a < nc → b < nc → (0 ≤ kd f a 0 - kd f b 0 ↔ kd f b 0 ≤ kd f a 0) ∧ (kd f a 0 - kd f b 0 = 0 ↔ kd f a 0 = kd f b 0) := by
        intro a b ha hb
        obtain ⟨x, x1, x2⟩ := ages a ha
        obtain ⟨y, y1, y2⟩ := ages b hb
        rw [x2, y2]
        refine ⟨(dif0 x1 y1).2.trans (nI_leI (by omega) (by omega)).symm, (dif0 x1 y1).1.trans (nI_eq (by omega) (by omega)).symm⟩
      have one : ∀ a b, a < nc → b < nc → a ≠ b → ¬ b0 s a → ¬ b0 s b → (icP f s m a b = none ↔ ¬ kd f a 0 = kd f b 0 ∧ (kd f b 0 ≤ kd f a 0 ∨ cnt f a < cnt f b)) := by
        intro a b ha hb hab hsa hsb
        unfold icP
        rw [if_neg hab, if_neg hsa, if_neg hsb]
        by_cases z : kd f a 0 = kd f b 0
        · rw [if_pos ((lt a b ha hb).2.mpr z)]; simp [z]
        · rw [if_neg (fun y => z ((lt a b ha hb).2.mp y))]
          by_cases y : kd f b 0 ≤ kd f a 0
          · rw [if_pos ((lt a b ha hb).1.mpr y)]; simp [z, y]
          · rw [if_neg (fun u => y ((lt a b ha hb).1.mp u))]
            by_cases u : cnt f a < cnt f b
            · rw [if_pos u]; simp [z, u]
            · rw [if_neg u]; simp [y, u]
      constructor
      · intro z a ha b hb hab hsa hsb
        have e1 := (scn_none nc 0).mp (z a (by omega) (by omega)) b (by omega) (by omega)
        have e2 := (scn_none nc 0).mp (z b (by omega) (by omega)) a (by omega) (by omega)
        obtain ⟨n1, o1⟩ := (one a b ha hb hab hsa hsb).mp e1
        obtain ⟨n2, o2⟩ := (one b a hb ha (Ne.symm hab) hsb hsa).mp e2
        by_cases y : kd f b 0 ≤ kd f a 0
        · right
          have y' : ¬ kd f a 0 ≤ kd f b 0 := fun u => n1 (Int32.le_antisymm u y)
          refine ⟨y', ?_⟩
          rcases o2 with o2 | o2
          · exact absurd o2 y'
          · exact Int32.not_le.mpr o2
        · left
          refine ⟨y, ?_⟩
          rcases o1 with o1 | o1
          · exact absurd o1 y
          · exact Int32.not_le.mpr o1
      · intro z a a1 a2
        rw [scn_none]
        intro b b1 b2
        have ha : a < nc := by omega
        have hb : b < nc := by omega
        by_cases hab : a = b
        · unfold icP; rw [if_pos hab]
        · by_cases hsa : b0 s a
          · unfold icP; rw [if_neg hab, if_pos hsa]
          · by_cases hsb : b0 s b
            · unfold icP; rw [if_neg hab, if_neg hsa, if_pos hsb]
            · rw [one a b ha hb hab hsa hsb]
              rcases z a ha b hb hab hsa hsb with y | y
              · exact ⟨fun u => y.1 (by rw [u]; exact Int32.le_refl _), Or.inr (Int32.not_le.mp y.2)⟩
              · exact ⟨fun u => y.1 (by rw [u]; exact Int32.le_refl _), Or.inl (Int32.le_of_lt (Int32.not_le.mp y.1))⟩
    by_cases q : chOK f s nc
    · rw [key.mpr q, chI_1 q]; rfl
    · rw [chI_0 q]
      cases y : scn (fun a => scn (icP f s m a) 0 nc) 0 nc with
      | none => exact absurd (key.mp y) q
      | some x =>
        have hx : ∀ k i, scn (fun a => scn (icP f s m a) 0 nc) i k = some x → x = Sum.inl m := by
          intro k
          induction k with
          | zero => intro i h; cases h
          | succ k ih =>
            intro i h
            rw [scn] at h
            cases u : scn (icP f s m i) 0 nc with
            | none => rw [u] at h; exact ih (i + 1) h
            | some z => rw [u] at h; cases h; exact icP_x nc 0 u
        rw [hx nc 0 y]; rfl
  · intro a ha
    have ha8 : a < 8 := by omega
    simp only [f_X11_isChain_L2, hC, if_neg (ix_lt ha (show nc < 2 ^ 31 by omega))]
    rw [show (m, (0 : Int32)) = (fun i => (m, nI i)) 0 from rfl, lpk_scn (S := fun i => (m, nI i)) (P := icP f s m a) (y := .inr m) nc ?_ ?_ (by omega)]
    · cases y : scn (icP f s m a) 0 nc with
      | none => simp only [Option.getD, bnd_eq, nI_1]
      | some x => rw [icP_x nc 0 y]; rfl
    · intro b hb
      have hb8 : b < 8 := by omega
      simp only [f_X11_isChain_L12, hC, if_neg (ix_lt hb (show nc < 2 ^ 31 by omega)), has_v, i7_0 ha8, t7_0 ha8, i7_0 hb8, t7_0 hb8, ↓reduceIte, (h1.1 a ha8).1, (h1.1 b hb8).1, mCount_v h1 ha8, mCount_v h1 hb8, cal_eq, bnd_eq, nI_1, icP]
      by_cases q1 : a = b
      · rw [if_pos q1, if_pos (by rw [q1])]
      · rw [if_neg q1, if_neg (fun z => q1 ((nI_eq (by omega) (by omega)).mp z))]
        by_cases q2 : b0 s a
        · simp only [if_pos q2, ↓reduceIte]
        · simp only [if_neg q2, n10, ↓reduceIte]
          by_cases q3 : b0 s b
          · simp only [if_pos q3, ↓reduceIte]
          · simp only [if_neg q3, n10, ↓reduceIte]
            by_cases q4 : kd f a 0 - kd f b 0 = 0
            · simp only [if_pos q4]
            · simp only [if_neg q4]
              by_cases q5 : 0 ≤ kd f a 0 - kd f b 0
              · simp only [if_pos q5]
              · simp only [if_neg q5]
                by_cases q6 : cnt f a < cnt f b
                · simp only [if_pos q6]
                · simp only [if_neg q6]
    · simp only [f_X11_isChain_L12, hC, if_pos (nI_le (Nat.le_refl nc) (show nc < 2 ^ 31 by omega))]
  · simp only [f_X11_isChain_L2, hC, if_pos (nI_le (Nat.le_refl nc) (show nc < 2 ^ 31 by omega))]
theorem q_chain (hB : B ≤ 40000) (R : Rel nl ln B m) : QQ nl ln B (f_X10_chain m a1) (fun m1 => f_X11_chain m1 a1) := by
  obtain ⟨nc, ne, H⟩ := Rel_HM R
  have hn8 := H.2.2.2.2.2.1
  have hp : 2 ^ nc ≤ 2 ^ 8 := p2le hn8
  have hp0 : 1 ≤ 2 ^ nc := Nat.one_le_two_pow
  have hp' : 2 ^ nc < 2 ^ 31 := by omega
  have H' := HM_fr H (fr_thr m 0)
  by_cases h0 : nc = 0
  · refine QQ_q R (r := -1) (m1 := m) (m2 := wr m 27 0 0) ?_ Fr.rf ?_ (fr_thr m 0)
    · simp only [f_X10_chain, told_v H.2.2.1 hn8, cal_eq, if_pos h0, ↓reduceIte]
    · simp only [f_X11_chain, bnd_eq, (n24 H'.1 hn8).mpr h0, ↓reduceIte]
  · have hz : ∀ m' : Sg, m'.1 27 24 = nI nc → ¬ m'.1 27 24 = 0 := fun m' q y => h0 ((n24 q hn8).mp y)
    rcases two_cases a1 with q | q
    · refine QQ_q R (r := -1) (m1 := m) (m2 := wr m 27 0 0) ?_ Fr.rf ?_ (fr_thr m 0)
      · simp only [f_X10_chain, told_v H.2.2.1 hn8, cal_eq, if_neg h0, n10, ↓reduceIte, two_no q]
      · simp only [f_X11_chain, bnd_eq, if_neg (hz _ H'.1), in1_no q, cal_eq, ↓reduceIte]
    · obtain ⟨m1, e1⟩ := longest_v H.2.2.1 hn8
      have t : f_X10_isOneOfTwo m a1 = some (1, m) := by rcases q with q | q <;> subst q <;> rfl
      have t' : ∀ m', f_X11_isIn m' a1.toInt64 0 1 = some (1, m') := by intro m'; rcases q with q | q <;> subst q; exact in1_0; exact in1_1
      have f1 : Fr scr m m1 := fr_X8_longestChain (S := scr) (fun _ => rfl) e1
      have H1 := HM_fr (HM_fr H f1) (fr_thr m1 0)
      obtain ⟨h1, h2, h3⟩ := H1.2.2.2.2.2.2.2 (by omega)
      refine QQ_q R (r := if a1 = 0 then bcV (lcV (m.1 4) nc) else lcV (m.1 4) nc) (m1 := m1) (m2 := wr m1 27 0 0) ?_ f1 ?_ (fr_thr m1 0)
      · simp only [f_X10_chain, told_v H.2.2.1 hn8, cal_eq, if_neg h0, n10, ↓reduceIte, t, e1, bc_v]
        split <;> rfl
      · simp only [f_X11_chain, bnd_eq, if_neg (hz _ H1.1), t', cal_eq, n10, ↓reduceIte]
        generalize wr m1 27 0 0 = m' at *
        rw [show (m', (0 : Int32), (1 : Int32)) = (fun i => (m', itr (lcF (m.1 4) nc) 0 i, nI (i + 1))) 0 from rfl, lpk_seq (S := fun i => (m', itr (lcF (m.1 4) nc) 0 i, nI (i + 1))) (x := (m', lcV (m.1 4) nc)) (2 ^ nc - 1) ?_ ?_ (by omega)]
        · simp only [bc_v, cal_eq]
          split <;> rfl
        · intro i hi
          simp only [f_X11_chain_L28, h2.2.2.2.2.2.1, cal_eq, sh1 nc (by omega), if_neg (ix_lt (show i + 1 < 2 ^ nc by omega) hp'), bc_v, mIsChain_v hB h1 h2 h3, bnd_eq, nI_1, itr, lcF]
          by_cases q1 : bcV (nI (i + 1)) ≤ bcV (itr (lcF (m.1 4) nc) 0 i)
          · simp only [if_pos q1]
          · simp only [if_neg q1]
            split <;> rfl
        · simp only [f_X11_chain_L28, h2.2.2.2.2.2.1, cal_eq, sh1 nc (by omega), show 2 ^ nc - 1 + 1 = 2 ^ nc by omega, if_pos (nI_le (Nat.le_refl _) hp')]; rfl
end
