/-! calls that ask: teachers, youngest, peace, chain -/
section
variable {nl B : Nat} {ln : Nat → Nat} {m m1 m2 : Sg} {j : Nat} {a a1 a2 r : Int32} {f : Nat → Int32} {nc ne c e : Nat}
def tcP (f : Nat → Int32) (c ne : Nat) (a : Int32) (mm : Sg) (i : Nat) : Option ((Sg × Int32) ⊕ (Sg × Int32)) := if ctv f c ne (nI (i + 1)) then (if itr (tcG f c ne) 0 i = a then some (.inl (mm, nI (i + 1))) else none) else none
def tcR (f : Nat → Int32) (c ne : Nat) (a : Int32) : Int32 := match scn (tcP f c ne a ((fun _ _ => 0), fun _ => 0)) 0 (2 ^ ne - 1) with
  | some (.inl q) => q.2
  | _ => if a = -1 then itr (tcG f c ne) 0 (2 ^ ne - 1) else -1
theorem tc_fin {mm : Sg} : ∀ (k i : Nat), (scn (tcP f c ne a mm) i k = none ∧ scn (tcP f c ne a ((fun _ _ => 0), fun _ => 0)) i k = none) ∨ ∃ x, scn (tcP f c ne a mm) i k = some (.inl (mm, x)) ∧ scn (tcP f c ne a ((fun _ _ => 0), fun _ => 0)) i k = some (.inl (((fun _ _ => 0), fun _ => 0), x))
  | 0, i => Or.inl ⟨rfl, rfl⟩
  | k + 1, i => by
    rw [scn, scn, tcP, tcP]
    by_cases h1 : ctv f c ne (nI (i + 1))
    · by_cases h2 : itr (tcG f c ne) 0 i = a
      · simp only [if_pos h1, if_pos h2]; exact Or.inr ⟨_, rfl, rfl⟩
      · simp only [if_pos h1, if_neg h2]; exact tc_fin k (i + 1)
    · simp only [if_neg h1]; exact tc_fin k (i + 1)
theorem tc_end {mm : Sg} : (match (scn (tcP f c ne a mm) 0 (2 ^ ne - 1)).getD (.inr (mm, itr (tcG f c ne) 0 (2 ^ ne - 1))) with
  | .inl (m4, x5) => some (x5, m4)
  | .inr (m6, x7) => if a = -1 then some (x7, m6) else some (-1, m6)) = some (tcR f c ne a, mm) := by
  unfold tcR
  rcases tc_fin (f := f) (c := c) (ne := ne) (a := a) (mm := mm) (2 ^ ne - 1) 0 with ⟨e1, e2⟩ | ⟨x, e1, e2⟩
  · rw [e1, e2]
    simp only [Option.getD]
    split <;> rfl
  · rw [e1, e2]; rfl
theorem q_teachers (R : Rel nl ln B m) : QQ nl ln B (f_X10_teachers m a1 a2) (fun m1 => f_X11_teachers m1 a1 a2) := by
  refine q_ch R a1 (fun nc ne H h => ⟨-1, ?_, ?_⟩) (fun nc ne c H hc hc8 hn4 hn8 h h1 h2 h3 => ?_)
  · simp only [f_X10_teachers, hC_no H.2.2.1 h, cal_eq, ↓reduceIte]
  · simp only [f_X11_teachers, bnd_eq, iC_no (HM_fr H (fr_thr m 0)).1 h, cal_eq, ↓reduceIte]
  · subst h
    have hp : 2 ^ ne ≤ 2 ^ 4 := p2le hn4
    have hp0 : 1 ≤ 2 ^ ne := Nat.one_le_two_pow
    have hp' : 2 ^ ne < 2 ^ 31 := by omega
    by_cases hx : a2 < -1
    · refine QQ_q R (r := -1) (m1 := m) (m2 := wr m 27 0 0) ?_ Fr.rf ?_ (fr_thr m 0)
      · simp only [f_X10_teachers, hC_yes H.2.2.1 hc hn8, cal_eq, n10, ↓reduceIte, if_pos hx]
      · simp only [f_X11_teachers, bnd_eq, iC_yes h2.2.2.2.2.2.1 hc hn8, cal_eq, n10, ↓reduceIte, if_neg (fun q => Int32.not_le.mpr hx q)]
    · have hx' : -1 ≤ a2 := Int32.not_lt.mp hx
      refine QQ_q R (r := tcR (m.1 4) c ne a2) (m1 := m) (m2 := wr m 27 0 0) ?_ Fr.rf ?_ (fr_thr m 0)
      · simp only [f_X10_teachers, hC_yes H.2.2.1 hc hn8, cal_eq, n10, ↓reduceIte, if_neg hx, f_X8_teachersAt]
        rw [show (m, (0 : Int32), (1 : Int32)) = (fun i => (m, itr (tcG (m.1 4) c ne) 0 i, nI (i + 1))) 0 from rfl, lpk_scn (S := fun i => (m, itr (tcG (m.1 4) c ne) 0 i, nI (i + 1))) (P := tcP (m.1 4) c ne a2 m) (y := .inr (m, itr (tcG (m.1 4) c ne) 0 (2 ^ ne - 1))) (2 ^ ne - 1) ?_ ?_ (by omega)]
        · exact congrArg (fun o => cal o (fun x4 m3 => some (x4, m3))) (tc_end (f := m.1 4) (c := c) (ne := ne) (a := a2) (mm := m))
        · intro q hq
          obtain ⟨r, e1, e2⟩ := could_v (s := nI (q + 1)) H.2.2.2.1 hn4 hc8
          simp only [f_X8_teachersAt_L5, f_X0_elders, H.2.2.2.1, cal_eq, sh1 ne (by omega), if_neg (ix_lt (show q + 1 < 2 ^ ne by omega) hp'), e1, bnd_eq, nI_1, itr, tcP, tcG]
          rcases e2 with ⟨r1, e2⟩ | ⟨r1, e2⟩
          · subst r1
            simp only [n10, ↓reduceIte, if_pos e2]
            by_cases z : itr (tcG (m.1 4) c ne) 0 q = a2
            · simp only [if_pos z]
            · simp only [if_neg z]
          · subst r1
            simp only [↓reduceIte, if_neg e2]
        · simp only [f_X8_teachersAt_L5, f_X0_elders, H.2.2.2.1, cal_eq, sh1 ne (by omega), show 2 ^ ne - 1 + 1 = 2 ^ ne by omega, if_pos (nI_le (Nat.le_refl _) hp')]
      · simp only [f_X11_teachers, bnd_eq, iC_yes h2.2.2.2.2.2.1 hc hn8, cal_eq, n10, ↓reduceIte, if_pos hx']
        generalize wr m 27 0 0 = m' at *
        rw [show (m', (0 : Int32), (1 : Int32)) = (fun i => (m', itr (tcG (m.1 4) c ne) 0 i, nI (i + 1))) 0 from rfl, lpk_scn (S := fun i => (m', itr (tcG (m.1 4) c ne) 0 i, nI (i + 1))) (P := tcP (m.1 4) c ne a2 m') (y := .inr (m', itr (tcG (m.1 4) c ne) 0 (2 ^ ne - 1))) (2 ^ ne - 1) ?_ ?_ (by omega)]
        · exact tc_end
        · intro q hq
          obtain ⟨r, e1, e2⟩ := mCould_v (s := nI (q + 1)) h1 h2 h3 hc8
          simp only [f_X11_teachers_L25, h2.2.2.2.2.2.2, cal_eq, sh1 ne (by omega), if_neg (ix_lt (show q + 1 < 2 ^ ne by omega) hp'), e1, bnd_eq, nI_1, itr, tcP, tcG]
          rcases e2 with ⟨r1, e2⟩ | ⟨r1, e2⟩
          · subst r1
            simp only [n10, ↓reduceIte, if_pos e2]
            by_cases z : itr (tcG (m.1 4) c ne) 0 q = a2
            · simp only [if_pos z]
            · simp only [if_neg z]
          · subst r1
            simp only [↓reduceIte, if_neg e2]
        · simp only [f_X11_teachers_L25, h2.2.2.2.2.2.2, cal_eq, sh1 ne (by omega), show 2 ^ ne - 1 + 1 = 2 ^ ne by omega, if_pos (nI_le (Nat.le_refl _) hp')]
/-- how many go ahead of the child -/
def agF (f : Nat → Int32) (c i : Nat) (x : Int32) : Int32 := x + (if ¬ kd f c 0 ≤ kd f i 0 ∨ (kd f i 0 = kd f c 0 ∧ i < c) then 1 else 0)
def agP (f : Nat → Int32) (nc : Nat) (a : Int32) (c : Nat) : Option Int32 := if itr (agF f c) 0 nc = a then some (nI c) else none
def agR (f : Nat → Int32) (nc : Nat) (a : Int32) : Int32 := (scn (agP f nc a) 0 nc).getD (-1)
theorem order_v (hC : m.1 4 95 = nI nc) (hn : nc ≤ 8) : f_X8_inOrderOfAge m a = some (agR (m.1 4) nc a, m) := by
  unfold f_X8_inOrderOfAge
  rw [show (m, (0 : Int32)) = (fun i => (m, nI i)) 0 from rfl, lpk_scn (S := fun i => (m, nI i)) (P := fun i => (agP (m.1 4) nc a i).map (fun t => Sum.inl (m, t))) (y := .inr m) nc ?_ ?_ (by omega)]
  · rw [scn_map]; unfold agR; cases scn (agP (m.1 4) nc a) 0 nc <;> rfl
  · intro c hc
    have hc8 : c < 8 := by omega
    simp only [f_X8_inOrderOfAge_L2, f_X0_children, hC, cal_eq, if_neg (ix_lt hc (show nc < 2 ^ 31 by omega))]
    rw [show (m, (0 : Int32), (0 : Int32)) = (fun i => (m, itr (agF (m.1 4) c) 0 i, nI i)) 0 from rfl, lpk_seq (S := fun i => (m, itr (agF (m.1 4) c) 0 i, nI i)) (x := (m, itr (agF (m.1 4) c) 0 nc)) nc ?_ ?_ (by omega)]
    · unfold agP
      by_cases z : itr (agF (m.1 4) c) 0 nc = a
      · simp only [if_pos z]; rfl
      · simp only [if_neg z, bnd_eq, nI_1]; rfl
    · intro i hi
      have hi8 : i < 8 := by omega
      obtain ⟨r, e1, e2⟩ := goesFirst_v (j := 4) (m := m) hi8 hc8
      simp only [f_X8_inOrderOfAge_L18, f_X0_children, hC, cal_eq, if_neg (ix_lt hi (show nc < 2 ^ 31 by omega)), e1, bnd_eq, nI_1, itr, agF]
      rcases e2 with ⟨r1, e2⟩ | ⟨r1, e2⟩
      · subst r1; simp only [n10, ↓reduceIte]; rw [if_pos (show ¬ kd (m.1 4) c 0 ≤ kd (m.1 4) i 0 ∨ (kd (m.1 4) i 0 = kd (m.1 4) c 0 ∧ i < c) from e2)]
      · subst r1; simp only [↓reduceIte]; rw [if_neg (show ¬ (¬ kd (m.1 4) c 0 ≤ kd (m.1 4) i 0 ∨ (kd (m.1 4) i 0 = kd (m.1 4) c 0 ∧ i < c)) from e2)]
    · simp only [f_X8_inOrderOfAge_L18, f_X0_children, hC, cal_eq, if_pos (nI_le (Nat.le_refl nc) (show nc < 2 ^ 31 by omega))]
  · simp only [f_X8_inOrderOfAge_L2, f_X0_children, hC, cal_eq, if_pos (nI_le (Nat.le_refl nc) (show nc < 2 ^ 31 by omega))]
theorem ag_in : ∀ n, n ≤ 8 → ∃ t, t ≤ n ∧ itr (agF f c) 0 n = nI t
  | 0, _ => ⟨0, Nat.le_refl 0, rfl⟩
  | n + 1, hn => by
    obtain ⟨t, t1, t2⟩ := ag_in n (by omega)
    rw [itr, agF, t2]
    split
    · exact ⟨t + 1, by omega, nI_1 t⟩
    · exact ⟨t, by omega, Int32.add_zero _⟩
theorem ag_self : ∀ n, n ≤ 8 → c < n → ∃ t, t < n ∧ itr (agF f c) 0 n = nI t
  | 0, _, h => absurd h (Nat.not_lt_zero _)
  | n + 1, hn, hc => by
    by_cases q : c = n
    · subst q
      obtain ⟨t, t1, t2⟩ := ag_in (f := f) (c := c) c (by omega)
      refine ⟨t, by omega, ?_⟩
      rw [itr, agF, t2, if_neg (by
        rintro (z | z)
        · exact z (Int32.le_refl _)
        · omega)]
      exact Int32.add_zero _
    · obtain ⟨t, t1, t2⟩ := ag_self n (by omega) (by omega)
      rw [itr, agF, t2]
      split
      · exact ⟨t + 1, by omega, nI_1 t⟩
      · exact ⟨t, by omega, Int32.add_zero _⟩
theorem ag_out (hn : nc ≤ 8) (h : a < 0 ∨ ¬ a < 0 ∧ nI nc ≤ a) : agR f nc a = -1 := by
  have key : ∀ k i, i + k ≤ nc → scn (agP f nc a) i k = none := by
    intro k
    induction k with
    | zero => intro i _; rfl
    | succ k ih =>
      intro i hi
      obtain ⟨t, t1, t2⟩ := ag_self (f := f) (c := i) nc hn (by omega)
      rw [scn, agP, t2, if_neg (by
        intro q
        subst q
        rcases h with h | h
        · exact nI_pos (show t < 2 ^ 31 by omega) h
        · exact ix_lt t1 (by omega) h.2)]
      exact ih (i + 1) (by omega)
  unfold agR
  rw [key nc 0 (by omega)]; rfl
theorem q_youngest (R : Rel nl ln B m) : QQ nl ln B (f_X10_youngest m a1) (fun m1 => f_X11_youngest m1 a1) := by
  refine q_ch R a1 (fun nc ne H h => ⟨-1, ?_, ?_⟩) (fun nc ne c H hc hc8 hn4 hn8 h h1 h2 h3 => ?_)
  · simp only [f_X10_youngest, order_v H.2.2.1 H.2.2.2.2.2.1, cal_eq, ag_out H.2.2.2.2.2.1 h]
  · simp only [f_X11_youngest, bnd_eq, iC_no (HM_fr H (fr_thr m 0)).1 h, cal_eq, ↓reduceIte]
  · subst h
    refine QQ_q R (r := agR (m.1 4) nc (nI c)) (m1 := m) (m2 := wr m 27 0 0) ?_ Fr.rf ?_ (fr_thr m 0)
    · simp only [f_X10_youngest, order_v H.2.2.1 H.2.2.2.2.2.1, cal_eq]
    · simp only [f_X11_youngest, bnd_eq, iC_yes h2.2.2.2.2.2.1 hc hn8, cal_eq, n10, ↓reduceIte]
      generalize wr m 27 0 0 = m' at *
      rw [show (m', (0 : Int32)) = (fun i => (m', nI i)) 0 from rfl, lpk_scn (S := fun i => (m', nI i)) (P := fun i => (agP (m.1 4) nc (nI c) i).map (fun t => Sum.inl (m', t))) (y := .inr m') nc ?_ ?_ (by omega)]
      · rw [scn_map]; unfold agR; cases scn (agP (m.1 4) nc (nI c)) 0 nc <;> rfl
      · intro d hd
        have hd8 : d < 8 := by omega
        simp only [f_X11_youngest_L17, h2.2.2.2.2.2.1, if_neg (ix_lt hd (show nc < 2 ^ 31 by omega))]
        rw [show (m', (0 : Int32), (0 : Int32)) = (fun i => (m', itr (agF (m.1 4) d) 0 i, nI i)) 0 from rfl, lpk_seq (S := fun i => (m', itr (agF (m.1 4) d) 0 i, nI i)) (x := (m', itr (agF (m.1 4) d) 0 nc)) nc ?_ ?_ (by omega)]
        · unfold agP
          by_cases z : itr (agF (m.1 4) d) 0 nc = nI c
          · simp only [if_pos z]; rfl
          · simp only [if_neg z, bnd_eq, nI_1]; rfl
        · intro i hi
          have hi8 : i < 8 := by omega
          simp only [f_X11_youngest_L30, h2.2.2.2.2.2.1, if_neg (ix_lt hi (show nc < 2 ^ 31 by omega)), i7_0 hi8, t7_0 hi8, i7_0 hd8, t7_0 hd8, ↓reduceIte, (h1.1 i hi8).1, (h1.1 d hd8).1, bnd_eq, nI_1, itr, agF]
          by_cases q1 : kd (m.1 4) i 0 < kd (m.1 4) d 0
          · rw [if_pos q1, if_pos (Or.inl (Int32.not_le.mpr q1))]
          · have q1' : kd (m.1 4) d 0 ≤ kd (m.1 4) i 0 := Int32.not_lt.mp q1
            rw [if_neg q1]
            by_cases q2 : kd (m.1 4) i 0 = kd (m.1 4) d 0
            · rw [if_pos q2]
              by_cases q3 : i < d
              · rw [if_neg (ix_lt q3 (by omega)), if_pos (Or.inr ⟨q2, q3⟩)]
              · rw [if_pos (nI_le (by omega) (by omega)), if_neg (by
                  rintro (z | z)
                  · exact z q1'
                  · exact q3 z.2)]
            · rw [if_neg q2, if_neg (by
                rintro (z | z)
                · exact z q1'
                · exact q2 z.1)]
        · simp only [f_X11_youngest_L30, h2.2.2.2.2.2.1, if_pos (nI_le (Nat.le_refl nc) (show nc < 2 ^ 31 by omega))]
      · simp only [f_X11_youngest_L17, h2.2.2.2.2.2.1, if_pos (nI_le (Nat.le_refl nc) (show nc < 2 ^ 31 by omega))]
end
