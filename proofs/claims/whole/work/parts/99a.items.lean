/-! texts of counties: the component's item; items side by side -/
section
variable {nl B B' : Nat} {ln : Nat → Nat} {m m1 m2 m' mc mm : Sg} {j w u : Nat} {a a1 a2 a3 a4 r x c lo hi s : Int32} {L p q k i n off b N t1 t2 t3 cnt : Nat} {tx : Nat → Int32} {z : Bool}
def cM (s : Int32) : Nat → Nat
  | 0 => 0
  | n + 1 => cM s n + (if b0 s n then 0 else 1)
theorem cM_le : ∀ n, cM s n ≤ n
  | 0 => Nat.le_refl _
  | n + 1 => by
    have := cM_le n
    rw [cM]
    split <;> omega
theorem cM_or (hi : i < 10) (hb : b0 s i) : ∀ n, n ≤ 10 → cM (s ||| tn (nI i)) n = cM s n + (if i < n then 1 else 0)
  | 0, _ => rfl
  | n + 1, hn => by
    rw [cM, cM, cM_or hi hb n (by omega)]
    have h1 : b0 (s ||| tn (nI i)) n ↔ b0 s n ∧ n ≠ i := by rw [b0_or (by omega), b0_tn2 i hi n (by omega)]
    by_cases e : n = i
    · subst e
      rw [if_neg (show ¬ n < n by omega), if_neg (fun z => (h1.mp z).2 rfl), if_pos hb, if_pos (show n < n + 1 by omega)]
    · by_cases y : b0 s n
      · rw [if_pos (h1.mpr ⟨y, e⟩), if_pos y]
        by_cases l : i < n
        · rw [if_pos l, if_pos (by omega)]
        · rw [if_neg l, if_neg (by omega)]
      · rw [if_neg (fun z => y (h1.mp z).1), if_neg y]
        by_cases l : i < n
        · rw [if_pos l, if_pos (by omega)]
        · rw [if_neg l, if_neg (by omega)]
theorem scn_some {α : Type} {P : Nat → Option α} {v : α} : ∀ n i, scn P i n = some v → ∃ q, i ≤ q ∧ q < i + n ∧ P q = some v
  | 0, i, h => by cases h
  | n + 1, i, h => by
    rw [scn] at h
    cases e : P i with
    | some x => rw [e] at h; exact ⟨i, Nat.le_refl _, by omega, by rw [e]; exact h⟩
    | none =>
      rw [e] at h
      obtain ⟨q, q1, q2, q3⟩ := scn_some n (i + 1) h
      exact ⟨q, by omega, by omega, q3⟩
theorem spt_cases (k : Nat) (c : Int32) : spt k c = -1 ∨ ∃ i, i < strN k ∧ spt k c = nI i ∧ strB k i = c := by
  unfold spt
  cases e : scn (spP k c) 0 (strN k) with
  | none => exact Or.inl rfl
  | some v =>
    right
    obtain ⟨q, q1, q2, q3⟩ := scn_some _ _ e
    unfold spP at q3
    by_cases y : strB k q = c
    · rw [if_pos y] at q3
      refine ⟨q, by omega, ?_, y⟩
      show v = nI q
      exact (Option.some.inj q3).symm
    · rw [if_neg y] at q3; cases q3
theorem spt_m1 (hk : k < 5) : spt k (-1) = -1 := by
  rcases spt_cases k (-1) with h | ⟨i, i1, i2, i3⟩
  · exact h
  · obtain ⟨s, s1, s2⟩ := strB_ok hk i1
    rw [s2] at i3
    exact absurd i3 (nI_m1 (by omega))
/-- the three sorts of clauses -/
def KK (k t1 t2 t3 : Nat) (a1 : Int32) : Prop := k < 5 ∧ 0 < strN k ∧ tabN t1 = strN k ∧ tabN t2 = strN k ∧ tabN t3 = strN k ∧ (∀ (m : Sg) i, i < strN k → f_X11_leastOf m a1 (nI i) = some (tab t1 i, m) ∧ f_X11_mostOf m a1 (nI i) = some (tab t2 i, m) ∧ f_X11_usual m a1 (nI i) = some (tab t3 i, m)) ∧ ∀ i, i < strN k → ¬ tab t3 i < tab t1 i ∧ ¬ tab t2 i < tab t3 i
theorem lt6 {i : Nat} (h : i < 6) : i = 0 ∨ i = 1 ∨ i = 2 ∨ i = 3 ∨ i = 4 ∨ i = 5 := by omega
theorem KK_c : KK 2 0 1 2 99 := by
  refine ⟨by decide, by decide, by decide, by decide, by decide, fun m i hi => ?_, by decide⟩
  rcases lt6 (show i < 6 from hi) with e | e | e | e | e | e <;> subst e <;> exact ⟨rfl, rfl, rfl⟩
theorem KK_e : KK 3 3 4 5 101 := by
  refine ⟨by decide, by decide, by decide, by decide, by decide, fun m i hi => ?_, by decide⟩
  have : i < 3 := hi
  rcases lt6 (show i < 6 by omega) with e | e | e | e | e | e <;> subst e <;> first | exact ⟨rfl, rfl, rfl⟩ | omega
theorem KK_r : KK 4 6 7 8 114 := by
  refine ⟨by decide, by decide, by decide, by decide, by decide, fun m i hi => ?_, by decide⟩
  have : i < 3 := hi
  rcases lt6 (show i < 6 by omega) with e | e | e | e | e | e <;> subst e <;> first | exact ⟨rfl, rfl, rfl⟩ | omega
def s9 (a b : Nat) : Bool := (a == 8 && (b == 1 || b == 2)) || a == 9
theorem last_v (hf : m.1 i 2 = -1) : f_X2_failAtLastDigit i m = some (wr m i 2 (m.1 i 1 - 1)) := by
  unfold f_X2_failAtLastDigit f_X2_failAt
  rw [if_pos hf, bnd_eq, calv_eq]
theorem last_f (hf : ¬ m.1 i 2 = -1) : f_X2_failAtLastDigit i m = some m := by
  unfold f_X2_failAtLastDigit f_X2_failAt
  rw [if_neg hf, calv_eq]
theorem itW_lt (hp : p ≤ L) {e : Nat} (h : itW tx L p lo hi = some e) : e ≤ L := by
  have le := sk_le (tx := tx) hp
  have le2 := (nmF_le (tx := tx) (L := L) 2 (sk tx L p) 0 le).2
  unfold itW at h
  by_cases y : dig (chr tx L (sk tx L p)) = true
  · rw [if_pos y] at h
    split at h
    · have := Option.some.inj h; omega
    · split at h
      · have := Option.some.inj h; omega
      · cases h
  · rw [if_neg y] at h
    have := Option.some.inj h; omega
/-- after the letter: number, cell, bounds -/
theorem citem_v (T : Tx tx L m) (hp : m.1 8 1 = nI p) (hL : p ≤ L) (hf : m.1 8 2 = -1) (hi' : i < 6) {ρ : Type} {G : Sg → Option ρ} : ∃ m', (cal (f_X2_number 8 m 2) (fun x21 m20 => (fun m22 => (bnd (fun (m26 : Sg) => calv (f_X2_failAtLastDigit 8 m26) (fun m28 => G m28)) (fun (k27 : Sg → Option ρ) =>
  (if (m22.1 9 i) < lo then k27 m22 else (if (m22.1 9 i) ≤ hi then G m22 else k27 m22))) : Option ρ)) (wr m20 9 i x21)) : Option ρ) = G m' ∧ Tx tx L m' ∧ Fr s9 m m' ∧ (match itW tx L p lo hi with
  | some e => m'.1 8 2 = nI e
  | none => m'.1 8 1 = nI (nmF tx L 2 (sk tx L p) 0).2 ∧ m'.1 8 2 = -1 ∧ m'.1 9 = upd (m.1 9) i (nmF tx L 2 (sk tx L p) 0).1) := by
  have l240 := T.1
  have le := sk_le (tx := tx) hL
  have ge2 := nmF_le (tx := tx) (L := L) 2 (sk tx L p) 0 le
  have num := num_v (N := 2) T (show 8 ≠ 1 by decide) (show 8 ≠ 2 by decide) (by decide) hp hL hf
  have num : f_X2_number 8 m 2 = _ := num
  have bad : ∀ (v : Int32) (e : Nat) (q : Sg), e ≤ L → Tx tx L q → Fr s9 m q → q.1 8 2 = nI e → ∃ m', (bnd (fun (m26 : Sg) => calv (f_X2_failAtLastDigit 8 m26) (fun m28 => G m28)) (fun (k27 : Sg → Option ρ) =>
  (if ((wr q 9 i v).1 9 i) < lo then k27 (wr q 9 i v) else (if ((wr q 9 i v).1 9 i) ≤ hi then G (wr q 9 i v) else k27 (wr q 9 i v)))) : Option ρ) = G m' ∧ Tx tx L m' ∧ Fr s9 m m' ∧ m'.1 8 2 = nI e := by
    intro v e q he Tq fq e2
    have e3 : (wr q 9 i v).1 8 2 = nI e := by rw [wr_ne (by decide)]; exact e2
    have nf : ¬ (wr q 9 i v).1 8 2 = -1 := by rw [e3]; exact nI_m1 (by omega)
    refine ⟨wr q 9 i v, ?_, Tx_wr Tq (by decide) (by decide), fq.tr (Fr.w1 rfl), e3⟩
    simp only [bnd_eq, last_f nf, calv_eq, ite_self]
  rw [num]
  unfold itW
  by_cases y : dig (chr tx L (sk tx L p)) = true
  · have := dig_lt y
    have e1 : (nmF tx L 2 (sk tx L p) 0).2 ≥ sk tx L p + 1 := by
      unfold nmF
      rw [if_pos y]
      exact (nmF_le (tx := tx) (L := L) 1 (sk tx L p + 1) _ (by omega)).1
    rw [if_pos y, if_pos y]
    generalize nmF tx L 2 (sk tx L p) 0 = E at *
    by_cases y2 : dig (chr tx L E.2) = true
    · rw [if_pos y2, if_pos y2, cal_eq]
      exact bad E.1 E.2 (wr (wr m 8 1 (nI E.2)) 8 2 (nI E.2)) ge2.2 (Tx_wr (Tx_wr T (by decide) (by decide)) (by decide) (by decide)) ((Fr.w1 rfl).tr (Fr.w1 rfl)) (by rw [wr_at, pk_us])
    · rw [if_neg y2, if_neg y2, cal_eq]
      have e9 : (wr (wr m 8 1 (nI E.2)) 9 i E.1).1 9 i = E.1 := by rw [wr_at, pk_us]
      have e82 : (wr (wr m 8 1 (nI E.2)) 9 i E.1).1 8 2 = -1 := by rw [wr_ne (by decide), wr_at, pk_un (by decide)]; exact hf
      have e81 : (wr (wr m 8 1 (nI E.2)) 9 i E.1).1 8 1 = nI E.2 := by rw [wr_ne (by decide), wr_at, pk_us]
      have T2 : Tx tx L (wr (wr m 8 1 (nI E.2)) 9 i E.1) := Tx_wr (Tx_wr T (by decide) (by decide)) (by decide) (by decide)
      have f2 : Fr s9 m (wr (wr m 8 1 (nI E.2)) 9 i E.1) := (Fr.w1 rfl).tr (Fr.w1 rfl)
      dsimp only
      rw [e9]
      simp only [bnd_eq, last_v e82, calv_eq, e81, nI_s1 (show 1 ≤ E.2 by omega)]
      by_cases z1 : E.1 < lo
      · rw [if_pos z1, if_pos (Or.inl z1)]
        exact ⟨_, rfl, Tx_wr T2 (by decide) (by decide), f2.tr (Fr.w1 rfl), by dsimp only; rw [wr_at, pk_us]⟩
      · rw [if_neg z1]
        by_cases z2 : E.1 ≤ hi
        · rw [if_pos z2, if_neg (fun z => by rcases z with z | z; exact z1 z; exact Int32.not_lt.mpr z2 z)]
          exact ⟨_, rfl, T2, f2, e81, e82, by rw [wr_at, wr_ne (by decide)]⟩
        · rw [if_neg z2, if_pos (Or.inr (Int32.not_le.mp z2))]
          exact ⟨_, rfl, Tx_wr T2 (by decide) (by decide), f2.tr (Fr.w1 rfl), by dsimp only; rw [wr_at, pk_us]⟩
  · rw [if_neg y, if_neg y, cal_eq]
    exact bad 0 (sk tx L p) (wr (wr m 8 1 (nI (sk tx L p))) 8 2 (nI (sk tx L p))) le (Tx_wr (Tx_wr T (by decide) (by decide)) (by decide) (by decide)) ((Fr.w1 rfl).tr (Fr.w1 rfl)) (by rw [wr_at, pk_us])
end
