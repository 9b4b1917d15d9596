/-! late, richest -/
section
variable {nl B B' : Nat} {ln : Nat → Nat} {V : Nat → (Nat → Int32) → Int32} {m m1 m2 m' C C' S : Sg} {j w u : Nat} {a a1 a2 a3 r s law x mo y tr fv : Int32} {f f' g g' lg lg' : Nat → Int32} {nc ne c e t M M' A nx n : Nat}
theorem bmo_98 (hn : nc ≤ 8) (he : ne ≤ 4) : bmo (upd f 98 x) nc ne = upd (bmo f nc ne) 98 x := by
  funext k
  by_cases h98 : k = 98
  · subst h98
    rw [pk_us, bmo_hi hn he (by decide) (fun q _ => by omega) (by decide), pk_us]
  · rw [pk_un h98]
    by_cases h80 : k < 80
    · have e : k = 10 * (k / 10) + k % 10 := by omega
      have h1 := bmo_kd (f := upd f 98 x) hn he (show k / 10 < 8 by omega) (show k % 10 < 10 by omega)
      have h2 := bmo_kd (f := f) hn he (show k / 10 < 8 by omega) (show k % 10 < 10 by omega)
      have hk : ∀ w, w < 10 → kd (upd f 98 x) (k / 10) w = kd f (k / 10) w := fun w hw => pk_un (by omega)
      rw [bmV_congr hk (by omega), hk _ (by omega), ← h2] at h1
      unfold kd at h1
      rw [← e] at h1
      exact h1
    · by_cases h97 : k = 97
      · subst h97; rw [bmo_97 hn he, bmo_97 hn he, pk_un (by decide)]
      · by_cases hq : ∀ q, q < 4 → k ≠ 80 + 3 * q + 2
        · rw [bmo_hi hn he (by omega) hq h97, bmo_hi hn he (by omega) hq h97, pk_un h98]
        · have : ∃ q, q < 4 ∧ k = 80 + 3 * q + 2 := by
            by_cases z0 : k = 82
            · exact ⟨0, by decide, z0⟩
            · by_cases z1 : k = 85
              · exact ⟨1, by decide, z1⟩
              · by_cases z2 : k = 88
                · exact ⟨2, by decide, z2⟩
                · by_cases z3 : k = 91
                  · exact ⟨3, by decide, z3⟩
                  · exact absurd (fun q hq' => by omega) hq
          obtain ⟨q, q4, e⟩ := this
          subst e
          have h1 := bmo_od (f := upd f 98 x) hn he q4
          have h2 := bmo_od (f := f) hn he q4
          have o : ∀ w, 1 ≤ w → w < 3 → od (upd f 98 x) q w = od f q w := fun w _ hw => pk_un (by omega)
          have ev : elV (upd f 98 x) (upd f 98 x 97 + 1) q = elV f (f 97 + 1) q := by
            unfold elV
            rw [o 1 (by decide) (by decide), o 2 (by decide) (by decide), pk_un (by decide)]
          rw [ev, o 2 (by decide) (by decide), ← h2] at h1
          exact h1
/-- rows of months without rulers -/
def km (f : Nat → Int32) (nc ne : Nat) : Nat → Nat → Int32
  | 0 => f
  | i + 1 => bmo (km f nc ne i) nc ne
theorem WF_km (hf : WF f nc ne B) : ∀ i, WF (km f nc ne i) nc ne (B + i)
  | 0 => hf
  | i + 1 => WF_bmo (WF_km hf i)
theorem upd_self {k : Nat} : upd f k (f k) = f := by
  funext q
  by_cases z : q = k
  · rw [z, pk_us]
  · rw [pk_un z]
theorem fm_km (hn : nc ≤ 8) (he : ne ≤ 4) : ∀ i, ∃ x, fm f nc ne i = upd (km f nc ne i) 98 x
  | 0 => ⟨f 98, upd_self.symm⟩
  | i + 1 => by
    obtain ⟨x, hx⟩ := fm_km hn he i
    show ∃ y, nmo (fm f nc ne i) nc ne = upd (bmo (km f nc ne i) nc ne) 98 y
    rw [hx]
    unfold nmo crn
    rw [bmo_98 hn he, upd_upd]
    exact ⟨_, rfl⟩
theorem tr_fk (hn : nc ≤ 8) (he : ne ≤ 4) (i : Nat) : trW (fm f nc ne i) 0 ne = trW (km f nc ne i) 0 ne := by
  obtain ⟨x, hx⟩ := fm_km (f := f) hn he i
  rw [hx, trW_98 ne he]
def ltP (f : Nat → Int32) (nc ne : Nat) (i : Nat) : Option Int32 := if trW (km f nc ne i) 0 ne = -1 then some (nI i) else none
def ltR (f : Nat → Int32) (nc ne : Nat) : Int32 := (scn (ltP f nc ne) 0 61).getD (-1)
theorem scn_at {χ : Type} {P : Nat → Option χ} {v : χ} : ∀ (k i q : Nat), i ≤ q → q < i + k → (∀ j, i ≤ j → j < q → P j = none) → P q = some v → scn P i k = some v
  | 0, i, q, h1, h2, _, _ => absurd h2 (by omega)
  | k + 1, i, q, h1, h2, h3, h4 => by
    rw [scn]
    by_cases z : q = i
    · subst z; rw [h4]
    · rw [h3 i (Nat.le_refl i) (by omega)]
      exact scn_at k (i + 1) q (by omega) (by omega) (fun j j1 j2 => h3 j (by omega) j2) h4
theorem clate_v (hf : WF (va_cpy (m.1 4) (m.1 6) 0 0 100) nc ne B) : ∃ g', f_X3_monthsOfTrials m 60 = some (ltR (va_cpy (m.1 4) (m.1 6) 0 0 100) nc ne, wrr m 6 g') := by
  unfold f_X3_monthsOfTrials
  rw [become_v, calv_eq]
  generalize va_cpy (m.1 4) (m.1 6) 0 0 100 = f at *
  have hn8 := hf.1.2
  have hn4 := hf.2.1
  rw [show (wrr m 6 f, (0 : Int32)) = (fun i => (wrr m 6 (km f nc ne i), nI i)) 0 from rfl, lpk_scn (S := fun i => (wrr m 6 (km f nc ne i), nI i)) (P := fun i => if trW (km f nc ne i) 0 ne = -1 then some (.inl (wrr m 6 (km f nc ne i), nI i)) else none) (y := .inr (wrr m 6 (km f nc ne 61))) 61 ?_ ?_ (by decide)]
  · unfold ltR
    have key : ∀ k i, (scn (ltP f nc ne) i k = none ∧ scn (fun i => if trW (km f nc ne i) 0 ne = -1 then some (Sum.inl (wrr m 6 (km f nc ne i), nI i) : (Sg × Int32) ⊕ Sg) else none) i k = none) ∨ ∃ q x, scn (ltP f nc ne) i k = some x ∧ scn (fun i => if trW (km f nc ne i) 0 ne = -1 then some (Sum.inl (wrr m 6 (km f nc ne i), nI i) : (Sg × Int32) ⊕ Sg) else none) i k = some (.inl (wrr m 6 q, x)) := by
      intro k
      induction k with
      | zero => intro i; exact Or.inl ⟨rfl, rfl⟩
      | succ k ih =>
        intro i
        rw [scn, scn]
        unfold ltP
        by_cases z : trW (km f nc ne i) 0 ne = -1
        · simp only [if_pos z]
          exact Or.inr ⟨_, _, rfl, rfl⟩
        · simp only [if_neg z]
          exact ih (i + 1)
    rcases key 61 0 with ⟨k1, k2⟩ | ⟨q, x, k1, k2⟩
    · rw [k1, k2]; exact ⟨_, rfl⟩
    · rw [k1, k2]; exact ⟨_, rfl⟩
  · intro i hi
    have wfi := WF_km hf i
    have e6 : (wrr m 6 (km f nc ne i)).1 6 = km f nc ne i := wrr_at
    simp only [f_X3_monthsOfTrials_L13, if_neg (show ¬ (60 : Int32) < nI i from nI_nlt (a := 60) (b := i) (by omega) (by decide)), trier_v (j := 6) (n := ne) (by rw [e6]; exact wfi.2.2.2.1) hn4, cal_eq, e6, beginMonth_v (j := 6) (nc := nc) (ne := ne) (by rw [e6]; exact wfi.2.2.1) hn8 (by rw [e6]; exact wfi.2.2.2.1) hn4, calv_eq, bnd_eq, nI_1, wrr_wrr]
    by_cases z : trW (km f nc ne i) 0 ne = -1
    · rw [if_pos z, if_pos z]
    · rw [if_neg z, if_neg z]; rfl
  · simp only [f_X3_monthsOfTrials_L13, if_pos (show (60 : Int32) < nI 61 by decide)]
theorem mlate_v (h : TS nl ln V nc ne B m f) {K : ((Sg × Int32) ⊕ Sg) → Option (Int32 × Sg)} (hK1 : ∀ q x, K (.inl (q, x)) = some (x, q)) (hK2 : ∀ q, K (.inr q) = some (-1, q)) : ∃ m', lpk f_X11_late_L27 (m, 0) K = some (ltR f nc ne, m') ∧ Fr tS m m' := by
  have hn8 := h.2.2.1.1.2
  have hn4 := h.2.2.1.2.1
  obtain ⟨x, e1, e2⟩ := lpk_inv (step := f_X11_late_L27) (K := K) (fun i s => ∃ q, s = (q, nI i) ∧ TS nl ln V nc ne (B + i) q (fm f nc ne i) ∧ Fr tS m q ∧ ∀ j, j < i → ltP f nc ne j = none) (fun x => ∃ q, Fr tS m q ∧ (x = .inl (q, ltR f nc ne) ∨ x = .inr q ∧ ltR f nc ne = -1)) 61 (m, 0) ⟨m, rfl, h, Fr.rf, fun j hj => absurd hj (by omega)⟩ (by
    rintro i s hi ⟨q, rfl, q1, q2, q3⟩
    have ex := mExam_v (a := 0) q1.1 q1.2.1 q1.2.2.1
    rw [tr_fk hn8 hn4] at ex
    by_cases z : trW (km f nc ne i) 0 ne = -1
    · right
      refine ⟨.inl (q, nI i), ?_, q, q2, Or.inl ?_⟩
      · simp only [f_X11_late_L27, if_neg (show ¬ (60 : Int32) < nI i from nI_nlt (a := 60) (b := i) (by omega) (by decide)), ex, cal_eq, if_pos z]
      · have : scn (ltP f nc ne) 0 61 = some (nI i) := scn_at 61 0 i (by omega) (by omega) (fun j _ hj => q3 j hj) (by unfold ltP; rw [if_pos z])
        unfold ltR
        rw [this]; rfl
    · left
      obtain ⟨q', d1, d2, d3, d4⟩ := TS_go q1
      refine ⟨(q', nI (i + 1)), ?_, q', rfl, d2, q2.tr d4, fun j hj => ?_⟩
      · simp only [f_X11_late_L27, if_neg (show ¬ (60 : Int32) < nI i from nI_nlt (a := 60) (b := i) (by omega) (by decide)), ex, cal_eq, if_neg z, d1, calv_eq, bnd_eq, nI_1]
      · by_cases y : j = i
        · subst y; unfold ltP; rw [if_neg z]
        · exact q3 j (by omega)) (by
    rintro s ⟨q, rfl, q1, q2, q3⟩
    refine ⟨.inr q, ?_, q, q2, Or.inr ⟨rfl, ?_⟩⟩
    · simp only [f_X11_late_L27, if_pos (show (60 : Int32) < nI 61 by decide)]
    · have : scn (ltP f nc ne) 0 61 = none := (scn_none 61 0).mpr (fun j _ hj => q3 j (by omega))
      unfold ltR
      rw [this]; rfl) (by decide)
  obtain ⟨q, q1, q2⟩ := e2
  refine ⟨q, ?_, q1⟩
  rw [e1]
  rcases q2 with h | ⟨h, h'⟩
  · rw [h, hK1]
  · rw [h, hK2, h']
theorem q_late (R : Rel nl ln B m) : QQ nl ln B (f_X10_late m) (fun m1 => f_X11_late m1) := by
  rcases Rel_cases R with ⟨u, H⟩ | ⟨nc, ne, M, A, nx, T, H, hM, L, P⟩
  · refine QQ_q R (r := -1) (m1 := m) (m2 := wr m 27 0 0) ?_ Fr.rf ?_ (fr_thr m 0)
    · simp only [f_X10_late, told_v H.2.2.1 (by decide), cal_eq, ↓reduceIte]
    · simp only [f_X11_late, bnd_eq, show (wr m 27 0 0).1 27 24 = 0 from u.2.2.2.2.2.1, ↓reduceIte]
  · have h0 : ¬ nc = 0 := by have := T.2.1.1.1.1; omega
    have hn8 := H.2.2.2.2.2.1
    have n24 : ∀ q : Sg, q.1 27 24 = nI nc → ¬ q.1 27 24 = 0 := fun q hq => by rw [hq]; exact nI_ne0 (by omega) (by omega)
    obtain ⟨V, hl, h4, hi, eh⟩ := Rel_LR R
    obtain ⟨g', c1⟩ := clate_v (T_WF T)
    have frC : Fr scr m (wrr m 6 g') := gS_scr fr6
    have frT := frC.tr (fr_thr _ 0)
    obtain ⟨m3, d1, d2, d3, d4, d5⟩ := T_start R T hl h4 hi eh (m1 := wr (wrr m 6 g') 27 0 0) (fun p k hp => fr_ess frT hp)
    have H2 := HM_fr H frT
    obtain ⟨m4, x1, x2⟩ := mlate_v d2 (K := fun x => match x with
      | .inl (m5, x6) => some (x6, m5)
      | .inr m7 => some ((-1), m7)) (fun _ _ => rfl) (fun _ => rfl)
    refine QQ_q R (r := ltR (va_cpy (m.1 4) (m.1 6) 0 0 100) nc ne) (m1 := wrr m 6 g') (m2 := m4) ?_ frC ?_ ((fr_thr _ 0).tr ((tS_scr d5).tr (tS_scr x2)))
    · simp only [f_X10_late, told_v H.2.2.1 hn8, cal_eq, if_neg h0, n10, ↓reduceIte, c1]
    · simp only [f_X11_late, bnd_eq, if_neg (n24 (wr (wrr m 6 g') 27 0 0) H2.1), d1, calv_eq]
      exact x1
end
