/-! keepers: the fewest -/
section
variable {nl B B' : Nat} {ln : Nat → Nat} {V : Nat → (Nat → Int32) → Int32} {m m1 m2 m' : Sg} {j w u : Nat} {a a1 a2 a3 a4 r law x mo y tr fv : Int32} {f f' f1 f2 g g' : Nat → Int32} {nc ne c d e t M n i s l : Nat} {G : Nat → Int32}
def fcF (G : Nat → Int32) (l : Nat) (s : Nat) (x : Int32) : Int32 := if s &&& l = s then (if x = -1 ∨ ¬ bcV x ≤ bcV (nI s) then (if G s = 0 then x else nI s) else x) else x
def fmF (G : Nat → Int32) (c : Nat) (s : Nat) (x : Int32) : Int32 := if s.testBit c = true then x else (if x = -1 ∨ ¬ bcV x ≤ bcV (nI s) then (if G s = 0 then x else nI s) else x)
def kInv (G : Nat → Int32) (c n : Nat) (x : Int32) : Prop := (x = -1 ∧ ∀ s, s < n → ¬ s.testBit c = true → G s = 0) ∨ ∃ k, k < 256 ∧ x = nI k ∧ ∀ s, s < n → ¬ s.testBit c = true → ¬ G s = 0 → pc8 k ≤ pc8 s
theorem pc_cmp {k s : Nat} (hk : k < 256) (hs : s < 256) : bcV (nI k) ≤ bcV (nI s) ↔ pc8 k ≤ pc8 s := by
  rw [bc_pc k hk, bc_pc s hs]
  have := @pc8_le k
  have := @pc8_le s
  exact nI_leI (by omega) (by omega)
theorem kp_A (hl : l < 256) (hlc : l.testBit c = false) (hsub : ∀ s, s < 256 → ¬ s.testBit c = true → (G s = 0 ↔ G (s &&& l) = 0)) : ∀ n, n ≤ 256 → itr (fmF G c) (-1) n = itr (fcF G l) (-1) n ∧ kInv G c n (itr (fcF G l) (-1) n) := by
  intro n
  induction n with
  | zero => intro _; exact ⟨rfl, Or.inl ⟨rfl, fun s hs => absurd hs (by omega)⟩⟩
  | succ n ih =>
    intro hn
    obtain ⟨e1, inv⟩ := ih (by omega)
    have hn' : n < 256 := by omega
    rw [itr_s, itr_s, e1]
    generalize itr (fcF G l) (-1) n = x at *
    unfold fmF fcF
    by_cases q1 : n.testBit c = true
    · have q2 : ¬ n &&& l = n := by
        intro z
        have := congrArg (fun y => Nat.testBit y c) z
        simp only [Nat.testBit_and] at this
        rw [q1, hlc] at this
        cases this
      rw [if_pos q1, if_neg q2]
      refine ⟨rfl, ?_⟩
      rcases inv with ⟨h1, h2⟩ | ⟨k, k1, k2, k3⟩
      · refine Or.inl ⟨h1, fun s hs hc => ?_⟩
        by_cases z : s = n
        · subst z; exact absurd q1 hc
        · exact h2 s (by omega) hc
      · refine Or.inr ⟨k, k1, k2, fun s hs hc hg => ?_⟩
        by_cases z : s = n
        · subst z; exact absurd q1 hc
        · exact k3 s (by omega) hc hg
    · rw [if_neg q1]
      by_cases q2 : n &&& l = n
      · rw [if_pos q2]
        refine ⟨rfl, ?_⟩
        by_cases q4 : G n = 0
        · simp only [if_pos q4, ite_self]
          rcases inv with ⟨h1, h2⟩ | ⟨k, k1, k2, k3⟩
          · refine Or.inl ⟨h1, fun s hs hc => ?_⟩
            by_cases z : s = n
            · subst z; exact q4
            · exact h2 s (by omega) hc
          · refine Or.inr ⟨k, k1, k2, fun s hs hc hg => ?_⟩
            by_cases z : s = n
            · subst z; exact absurd q4 hg
            · exact k3 s (by omega) hc hg
        · rw [if_neg q4]
          rcases inv with ⟨h1, h2⟩ | ⟨k, k1, k2, k3⟩
          · rw [if_pos (Or.inl h1)]
            refine Or.inr ⟨n, hn', rfl, fun s hs hc hg => ?_⟩
            by_cases z : s = n
            · subst z; exact Nat.le_refl _
            · exact absurd (h2 s (by omega) hc) hg
          · subst k2
            by_cases q5 : pc8 k ≤ pc8 n
            · rw [if_neg (show ¬ (nI k = -1 ∨ ¬ bcV (nI k) ≤ bcV (nI n)) from fun y => by
                rcases y with y | y
                · exact nI_m1 (by omega) y
                · exact y ((pc_cmp k1 hn').mpr q5))]
              refine Or.inr ⟨k, k1, rfl, fun s hs hc hg => ?_⟩
              by_cases z : s = n
              · subst z; exact q5
              · exact k3 s (by omega) hc hg
            · rw [if_pos (Or.inr (fun y => q5 ((pc_cmp k1 hn').mp y)))]
              refine Or.inr ⟨n, hn', rfl, fun s hs hc hg => ?_⟩
              by_cases z : s = n
              · subst z; exact Nat.le_refl _
              · have := k3 s (by omega) hc hg
                omega
      · rw [if_neg q2]
        have lt : n &&& l < n := by
          have := @Nat.and_le_left n l
          omega
        have nc' : ¬ (n &&& l).testBit c = true := by
          rw [Nat.testBit_and]
          intro z
          exact q1 (by rcases Bool.and_eq_true_iff.mp z with ⟨z1, _⟩; exact z1)
        have pl := pc8_and hn' q2
        by_cases q4 : G n = 0
        · simp only [if_pos q4, ite_self]
          refine ⟨trivial, ?_⟩
          rcases inv with ⟨h1, h2⟩ | ⟨k, k1, k2, k3⟩
          · refine Or.inl ⟨h1, fun s hs hc => ?_⟩
            by_cases z : s = n
            · subst z; exact q4
            · exact h2 s (by omega) hc
          · refine Or.inr ⟨k, k1, k2, fun s hs hc hg => ?_⟩
            by_cases z : s = n
            · subst z; exact absurd q4 hg
            · exact k3 s (by omega) hc hg
        · have g' : ¬ G (n &&& l) = 0 := fun z => q4 ((hsub n hn' q1).mpr z)
          rcases inv with ⟨h1, h2⟩ | ⟨k, k1, k2, k3⟩
          · exact absurd (h2 _ lt nc') g'
          · subst k2
            have pk := k3 _ lt nc' g'
            rw [if_neg (show ¬ (nI k = -1 ∨ ¬ bcV (nI k) ≤ bcV (nI n)) from fun y => by
              rcases y with y | y
              · exact nI_m1 (by omega) y
              · exact y ((pc_cmp k1 hn').mpr (by omega)))]
            refine ⟨rfl, Or.inr ⟨k, k1, rfl, fun s hs hc hg => ?_⟩⟩
            by_cases z : s = n
            · subst z; omega
            · exact k3 s (by omega) hc hg
theorem kp_B (k : Nat) : itr (fcF G l) (-1) (l + 1 + k) = itr (fcF G l) (-1) (l + 1) := by
  induction k with
  | zero => rfl
  | succ k ih =>
    rw [show l + 1 + (k + 1) = (l + 1 + k) + 1 by omega, itr_s, ih]
    unfold fcF
    rw [if_neg]
    intro z
    have := @Nat.and_le_right (l + 1 + k) l
    omega
theorem cfew_v (hf : WF (va_cpy (m.1 4) (m.1 6) 0 0 100) nc ne B) (h95 : m.1 4 95 = nI nc) (hc : c < nc) (ht : t < 9) (hn : n < 1000000) : ∃ g', f_X3_fewestKept m (nI c) (nI t) (nI n) = some (itr (fcF (raI (va_cpy (m.1 4) (m.1 6) 0 0 100) nc ne c t n) (olN (m.1 4) c t nc)) (-1) (olN (m.1 4) c t nc + 1), wrr m 6 g') := by
  have hn8 := hf.1.2
  have hL : olN (m.1 4) c t nc < 256 := Nat.lt_of_lt_of_le (olN_lt nc) (show 2 ^ nc ≤ 2 ^ 8 from Nat.pow_le_pow_right (by decide) hn8)
  unfold f_X3_fewestKept
  rw [ol_v h95 hn8 hc, cal_eq]
  generalize olN (m.1 4) c t nc = L at *
  have hf0 := hf
  generalize hfe : va_cpy (m.1 4) (m.1 6) 0 0 100 = f at hf ⊢
  suffices key : ∃ x : Sg × Int32, lpO (f_X3_fewestKept_L14 (nI c) (nI t) (nI n) (nI L)) fu (m, -1, 0) = some x ∧ ∃ g', x = (wrr m 6 g', itr (fcF (raI f nc ne c t n) L) (-1) (L + 1)) by
    obtain ⟨x, e1, g', e2⟩ := key
    rw [lpk_of e1, e2]; exact ⟨g', rfl⟩
  refine lpO_inv (step := f_X3_fewestKept_L14 (nI c) (nI t) (nI n) (nI L)) (fun i s => ∃ g', s = (wrr m 6 g', itr (fcF (raI f nc ne c t n) L) (-1) i, nI i) ∧ ∀ k, 100 ≤ k → g' k = m.1 6 k) _ (L + 1) (m, -1, 0) ⟨m.1 6, by rw [wrr_id]; rfl, fun _ _ => rfl⟩ ?_ ?_ (by omega)
  · rintro i s hi ⟨g', rfl, q1⟩
    have hi' : i < 256 := by omega
    have ec : va_cpy ((wrr m 6 g').1 4) ((wrr m 6 g').1 6) 0 0 100 = f := by
      rw [wrr_ne (by decide), wrr_at, ← hfe]; exact cpy_eq q1
    obtain ⟨g2, x1, x2⟩ := cra_v (m := wrr m 6 g') (nc := nc) (ne := ne) (B := B) (c := c) (t := t) (n := n) (s := i) (by rw [ec]; exact hf) (by rw [wrr_ne (by decide)]; exact h95) ht hn
    rw [ec, wrr_wrr] at x1
    rw [wrr_at] at x2
    rw [itr_s]
    generalize itr (fcF (raI f nc ne c t n) L) (-1) i = b at *
    have hlt : ¬ nI L < nI i := nI_nlt (by omega) (by omega)
    have go1 : f_X3_fewestKept_L14 (nI c) (nI t) (nI n) (nI L) (wrr m 6 g', b, nI i) = (if (nI i &&& (nI L ^^^ (-1))) = 0 then (if b = -1 ∨ ¬ bcV b ≤ bcV (nI i) then (if raI f nc ne c t n i = 0 then some (.inr (wrr m 6 g2, b, nI (i + 1))) else some (.inr (wrr m 6 g2, nI i, nI (i + 1)))) else some (.inr (wrr m 6 g', b, nI (i + 1)))) else some (.inr (wrr m 6 g', b, nI (i + 1)))) := by
      simp only [f_X3_fewestKept_L14, if_neg hlt, bnd_eq, nI_1, bc_v, cal_eq]
      by_cases y1 : b = -1
      · rw [if_pos y1, if_neg n10, x1, cal_eq]
        simp only [if_pos (show b = -1 ∨ ¬ bcV b ≤ bcV (nI i) from Or.inl y1)]
      · rw [if_neg y1]
        by_cases y2 : bcV b ≤ bcV (nI i)
        · rw [if_pos y2, if_pos trivial]
          simp only [if_neg (show ¬ (b = -1 ∨ ¬ bcV b ≤ bcV (nI i)) from fun z => by rcases z with z | z; exact y1 z; exact z y2)]
        · rw [if_neg y2, if_neg n10, x1, cal_eq]
          simp only [if_pos (show b = -1 ∨ ¬ bcV b ≤ bcV (nI i) from Or.inr y2)]
    rw [go1]
    unfold fcF
    by_cases z1 : i &&& L = i
    · rw [if_pos ((sub_v hi' hL).mpr z1), if_pos z1]
      by_cases z2 : b = -1 ∨ ¬ bcV b ≤ bcV (nI i)
      · rw [if_pos z2, if_pos z2]
        by_cases z3 : raI f nc ne c t n i = 0
        · rw [if_pos z3, if_pos z3]; exact ⟨_, rfl, g2, rfl, fun k hk => by rw [x2 k hk, q1 k hk]⟩
        · rw [if_neg z3, if_neg z3]; exact ⟨_, rfl, g2, rfl, fun k hk => by rw [x2 k hk, q1 k hk]⟩
      · rw [if_neg z2, if_neg z2]; exact ⟨_, rfl, g', rfl, q1⟩
    · rw [if_neg (fun y => z1 ((sub_v hi' hL).mp y)), if_neg z1]; exact ⟨_, rfl, g', rfl, q1⟩
  · rintro s ⟨g', rfl, q1⟩
    refine ⟨_, ?_, g', rfl⟩
    simp only [f_X3_fewestKept_L14, if_pos (nI_lt (Nat.lt_succ_self L) (show L + 1 < 2 ^ 31 by omega))]
theorem mfew_v (R : Rel nl ln B m) (T : Told m nc ne B) (hl : LR nl ln V m) (h4 : nl ≤ 4) (hi : isI (m.1 13 3) nl) (eh : m.1 27 31 = m.1 13 3) (H : HM m (m.1 4) nc ne B) (h : Fr scr m m1) (hc : c < nc) (ht : t < 9) (hn : n < 1000000) : ∃ m', lpk (f_X11_keepers_L40 (nI c) (nI t) (nI n)) (m1, -1, 0) (fun ((m11, x12) : Sg × Int32) => some (x12, m11)) = some (itr (fmF (raI (va_cpy (m.1 4) (m.1 6) 0 0 100) nc ne c t n) c) (-1) (2 ^ nc), m') ∧ Fr tS m1 m' := by
  have hn8 := H.2.2.2.2.2.1
  have p8 : 2 ^ nc ≤ 256 := show 2 ^ nc ≤ 2 ^ 8 from Nat.pow_le_pow_right (by decide) hn8
  suffices key : ∃ x : Sg × Int32, lpO (f_X11_keepers_L40 (nI c) (nI t) (nI n)) fu (m1, -1, 0) = some x ∧ (x.2 = itr (fmF (raI (va_cpy (m.1 4) (m.1 6) 0 0 100) nc ne c t n) c) (-1) (2 ^ nc) ∧ Fr tS m1 x.1) by
    obtain ⟨x, e1, e2, e3⟩ := key
    rw [lpk_of e1]
    exact ⟨x.1, by rw [← e2], e3⟩
  refine lpO_inv (step := f_X11_keepers_L40 (nI c) (nI t) (nI n)) (fun i s => ∃ q, s = (q, itr (fmF (raI (va_cpy (m.1 4) (m.1 6) 0 0 100) nc ne c t n) c) (-1) i, nI i) ∧ Fr tS m1 q) (fun x => x.2 = itr (fmF (raI (va_cpy (m.1 4) (m.1 6) 0 0 100) nc ne c t n) c) (-1) (2 ^ nc) ∧ Fr tS m1 x.1) (2 ^ nc) (m1, -1, 0) ⟨m1, rfl, Fr.rf⟩ ?_ ?_ (by omega)
  · rintro i s hi' ⟨q, rfl, q1⟩
    have hi8 : i < 256 := by omega
    have frq := h.tr (tS_scr q1)
    have e24 : q.1 27 24 = nI nc := (HM_fr H frq).1
    obtain ⟨m4, x1, x2⟩ := mra_v (m1 := q) (c := c) (t := t) (n := n) (s := i) R T hl h4 hi eh (fun p k hp => fr_ess frq hp) hc ht hn
    rw [itr_s]
    generalize itr (fmF (raI (va_cpy (m.1 4) (m.1 6) 0 0 100) nc ne c t n) c) (-1) i = b at *
    generalize hG : raI (va_cpy (m.1 4) (m.1 6) 0 0 100) nc ne c t n = G at *
    have x1' : f_X11_rulesAll q (nI c) (nI t) (nI n) (nI i) = some (G i, m4) := by rw [x1, ← hG]
    have hb : b0 (nI i) c ↔ i.testBit c = false := b0_tb (by omega) (by omega)
    have sh : ¬ ((1 : Int32) <<< (nI nc &&& 31)) ≤ nI i := by rw [sh1 nc (by omega)]; exact nI_ge hi' (by omega)
    simp only [f_X11_keepers_L40, e24, if_neg sh, has_v, cal_eq, bnd_eq, nI_1, bc_v, x1']
    unfold fmF
    by_cases z1 : i.testBit c = true
    · rw [if_neg (show ¬ b0 (nI i) c from fun y => by rw [hb.mp y] at z1; cases z1), if_neg n10, if_pos z1]
      exact ⟨_, rfl, q, rfl, q1⟩
    · rw [if_pos (hb.mpr (by simpa using z1)), if_pos rfl, if_neg z1]
      by_cases z2 : b = -1
      · rw [if_pos z2, if_pos (Or.inl z2)]
        by_cases z3 : G i = 0
        · rw [if_pos z3, if_pos z3]; exact ⟨_, rfl, m4, rfl, q1.tr x2⟩
        · rw [if_neg z3, if_neg z3]; exact ⟨_, rfl, m4, rfl, q1.tr x2⟩
      · rw [if_neg z2]
        by_cases z4 : bcV b ≤ bcV (nI i)
        · rw [if_pos z4, if_neg (show ¬ (b = -1 ∨ ¬ bcV b ≤ bcV (nI i)) from fun z => by rcases z with z | z; exact z2 z; exact z z4)]
          exact ⟨_, rfl, q, rfl, q1⟩
        · rw [if_neg z4, if_pos (Or.inr z4)]
          by_cases z3 : G i = 0
          · rw [if_pos z3, if_pos z3]; exact ⟨_, rfl, m4, rfl, q1.tr x2⟩
          · rw [if_neg z3, if_neg z3]; exact ⟨_, rfl, m4, rfl, q1.tr x2⟩
  · rintro s ⟨q, rfl, q1⟩
    have e24 : q.1 27 24 = nI nc := (HM_fr H (h.tr (tS_scr q1))).1
    refine ⟨(q, itr (fmF (raI (va_cpy (m.1 4) (m.1 6) 0 0 100) nc ne c t n) c) (-1) (2 ^ nc)), ?_, rfl, q1⟩
    simp only [f_X11_keepers_L40, e24, sh1 nc (show nc < 9 by omega), if_pos (nI_le (Nat.le_refl (2 ^ nc)) (show 2 ^ nc < 2 ^ 31 by omega))]
theorem twelve (a : Int32) : a < 1 ∨ (¬ a < 1 ∧ ¬ a ≤ 12) ∨ ∃ n, 1 ≤ n ∧ n ≤ 12 ∧ a = nI n := by
  by_cases h : a < 1
  · exact Or.inl h
  · by_cases h2 : a ≤ 12
    · rcases sixty_cases a with q | q | ⟨n, n1, n2, q⟩
      · exact absurd q h
      · exact absurd (Int32.le_trans h2 (show (12 : Int32) ≤ 60 by decide)) q.2
      · rw [q] at h2
        exact Or.inr (Or.inr ⟨n, n1, (nI_leI (b := 12) (by omega) (by decide)).mp h2, q⟩)
    · exact Or.inr (Or.inl ⟨h, h2⟩)
theorem q_keepers (R : Rel nl ln B m) : QQ nl ln B (f_X10_keepers m a1 a2 a3) (fun m1 => f_X11_keepers m1 a1 a2 a3) := by
  refine q_act (a1 := a1) (a2 := a2) R (fun nc ne H h => ?_) (fun nc ne c H hc h h' => ?_) (fun nc ne c t M A nx T H hM L P hc ht h h' => ?_)
  · have H' := HM_fr H (fr_thr m 0)
    exact ⟨by simp only [f_X10_keepers, hct_no H.2.2.1 h, cal_eq, ↓reduceIte], by simp only [f_X11_keepers, bnd_eq, iC_no H'.1 h, cal_eq, ↓reduceIte]⟩
  · subst h
    have H' := HM_fr H (fr_thr m 0)
    have hn8 := H.2.2.2.2.2.1
    exact ⟨by simp only [f_X10_keepers, hct_no2 H.2.2.1 hc hn8 h', cal_eq, ↓reduceIte], by simp only [f_X11_keepers, bnd_eq, iC_yes H'.1 hc hn8, ten_no h', cal_eq, n10, ↓reduceIte]⟩
  · subst h; subst h'
    have H' := HM_fr H (fr_thr m 0)
    have hn8 := H.2.2.2.2.2.1
    have hn4 := H.2.2.2.2.1
    have bad : ∀ (z : a3 < 1 ∨ (¬ a3 < 1 ∧ ¬ a3 ≤ 12)), QQ nl ln B (f_X10_keepers m (nI c) (nI t) a3) (fun m1 => f_X11_keepers m1 (nI c) (nI t) a3) := by
      intro z
      refine QQ_q R (r := -1) (m1 := m) (m2 := wr m 27 0 0) ?_ Fr.rf ?_ (fr_thr m 0)
      · simp only [f_X10_keepers, hct_yes H.2.2.1 hc hn8 ht, cal_eq, n10, ↓reduceIte]
        rcases z with z | ⟨z, z'⟩
        · rw [if_pos z]
        · rw [if_neg z, if_neg z']
      · simp only [f_X11_keepers, bnd_eq, iC_yes H'.1 hc hn8, ten_yes ht, show f_X11_isIn (wr m 27 0 0) a3.toInt64 1 12 = some (0, wr m 27 0 0) from in60_no (b := 12) (by decide) z, cal_eq, n10, ↓reduceIte]
    rcases twelve a3 with h | h | ⟨n, n1, n2, h⟩
    · exact bad (Or.inl h)
    · exact bad (Or.inr h)
    · subst h
      obtain ⟨V, hl, h4, hi, eh⟩ := Rel_LR R
      have wf := T_WF T
      obtain ⟨g', c1⟩ := cfew_v (n := n) wf H.2.2.1 hc ht (by omega)
      have frC : Fr scr m (wrr m 6 g') := gS_scr fr6
      have frT := frC.tr (fr_thr _ 0)
      have H2 := HM_fr H frT
      obtain ⟨m4, x1, x2⟩ := mfew_v (n := n) (t := t) (c := c) R T hl h4 hi eh H frT hc ht (by omega)
      have lt := olN_lt (f := m.1 4) (c := c) (t := t) nc
      have p8 : 2 ^ nc ≤ 256 := show 2 ^ nc ≤ 2 ^ 8 from Nat.pow_le_pow_right (by decide) hn8
      have tb := olN_tb (f := m.1 4) (c := c) (t := t) nc
      have eqv : itr (fmF (raI (va_cpy (m.1 4) (m.1 6) 0 0 100) nc ne c t n) c) (-1) (2 ^ nc) = itr (fcF (raI (va_cpy (m.1 4) (m.1 6) 0 0 100) nc ne c t n) (olN (m.1 4) c t nc)) (-1) (olN (m.1 4) c t nc + 1) := by
        rw [(kp_A (l := olN (m.1 4) c t nc) (G := raI (va_cpy (m.1 4) (m.1 6) 0 0 100) nc ne c t n) (by omega) ?_ ?_ (2 ^ nc) p8).1]
        · have := kp_B (G := raI (va_cpy (m.1 4) (m.1 6) 0 0 100) nc ne c t n) (l := olN (m.1 4) c t nc) (2 ^ nc - (olN (m.1 4) c t nc + 1))
          rw [show olN (m.1 4) c t nc + 1 + (2 ^ nc - (olN (m.1 4) c t nc + 1)) = 2 ^ nc by omega] at this
          exact this
        · cases hb : (olN (m.1 4) c t nc).testBit c
          · rfl
          · exact absurd rfl ((tb c).mp hb).2.1
        · intro s hs hsc
          have sub := RA_sub (f := va_cpy (m.1 4) (m.1 6) 0 0 100) (c := c) (t := t) (n := n) (s := s) (l := olN (m.1 4) c t nc) hn8 hn4 hs (by omega) (fun i hi' h1 h2 h3 => by
            have e6 : kd (va_cpy (m.1 4) (m.1 6) 0 0 100) i 6 = kd (m.1 4) i 6 := cpy6 (by omega)
            rw [e6] at h3
            have ic : ¬ i = c := fun z => by subst z; exact hsc h1
            have := (tb i).mpr ⟨hi', ic, h3⟩
            rw [h2] at this; cases this)
          rw [raI_1, raI_1, sub]
      rw [eqv] at x1
      refine QQ_q R (r := itr (fcF (raI (va_cpy (m.1 4) (m.1 6) 0 0 100) nc ne c t n) (olN (m.1 4) c t nc)) (-1) (olN (m.1 4) c t nc + 1)) (m1 := wrr m 6 g') (m2 := m4) ?_ frC ?_ ((fr_thr _ 0).tr (tS_scr x2))
      · simp only [f_X10_keepers, hct_yes H.2.2.1 hc hn8 ht, cal_eq, n10, ↓reduceIte, if_neg (show ¬ nI n < 1 from nI_nlt (b := 1) n1 (by omega)), if_pos (show nI n ≤ 12 from nI_le (b := 12) n2 (by decide)), c1]
      · simp only [f_X11_keepers, bnd_eq, iC_yes H2.1 hc hn8, ten_yes ht, show f_X11_isIn (wr (wrr m 6 g') 27 0 0) (nI n).toInt64 1 12 = some (1, wr (wrr m 6 g') 27 0 0) from in60_yes (k := 12) (by decide) n1 n2, cal_eq, n10, ↓reduceIte]
        exact x1
end
