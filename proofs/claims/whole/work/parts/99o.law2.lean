/-! laws: the component's worth -/
section
variable {nl B B' : Nat} {ln : Nat → Nat} {m m1 m2 m' mc mm mc0 mm0 : Sg} {j w u : Nat} {a a1 a2 a3 a4 r x c v v1 v2 op : Int32} {L p q k k1 k2 i n off b N t P d : Nat} {tx lt : Nat → Int32} {z : Bool} {st st' : List Int32} {s s1 s2 : List Int32}
theorem gd_l {l r : List Int32} (h : i < l.length) : (l ++ r).getD i 0 = l.getD i 0 := by
  rw [List.getD_eq_getElem?_getD, List.getD_eq_getElem?_getD, List.getElem?_append_left h]
theorem gd_r {l r : List Int32} : (l ++ r).getD (l.length + i) 0 = r.getD i 0 := by
  rw [List.getD_eq_getElem?_getD, List.getD_eq_getElem?_getD, List.getElem?_append_right (by omega), Nat.add_sub_cancel_left]
/-- the codes s stand in the row from j on -/
def At (F : Nat → Int32) (j : Nat) (s : List Int32) : Prop := ∀ i, i < s.length → F (j + i) = s.getD i 0
theorem At_l {F : Nat → Int32} (h : At F j (s1 ++ s2)) : At F j s1 := fun i hi => by rw [h i (by rw [List.length_append]; omega), gd_l hi]
theorem At_r {F : Nat → Int32} (h : At F j (s1 ++ s2)) : At F (j + s1.length) s2 := fun i hi => by rw [Nat.add_assoc, h (s1.length + i) (by rw [List.length_append]; omega), gd_r]
theorem At_1 {F : Nat → Int32} (h : At F j [c]) : F j = c := h 0 (by simp)
theorem vl_run (h : run lt s [] = some [v]) : vl lt s = v := by unfold vl; rw [h]; rfl
theorem w59_v (hc : m.1 (P + 1) j = 10059) (hj : j < n) (hn : n < 2 ^ 31) : f_X4_worth_L7 P n (m, nI j) = some (.inl (.inl m)) := by
  unfold f_X4_worth_L7
  dsimp only
  rw [if_neg (show ¬ Int32.ofNat n ≤ nI j from ix_lt hj hn), in_nI hj hn, if_pos rfl, nI_clamp (by omega), hc, bnd_eq, if_pos (by decide)]
theorem w63_v (hc : m.1 (P + 1) j = 10063) (hj : j < n) (hn : n < 1000000) (h : SK P m [v]) (he : ∀ i, j ≤ i → i < k → ¬ m.1 (P + 1) i = 10059) (hk : m.1 (P + 1) k = 10059) (hjk : j ≤ k) (hkn : k < n) : f_X4_worth_L7 P n (m, nI j) = some (.inr (wr m P 2 (nI 0), if v = 0 then nI (k + 1) else nI (j + 1))) := by
  obtain ⟨p1, p2⟩ := pop_v (n := n) h
  have p1 : f_X4_pop P n m = some (v, wr m P 2 (nI 0)) := p1
  have eo := eoc_v (m := wr m P 2 (nI 0)) (P := P) (n := n) (j := j) (k := k) (fun i h1 h2 => by rw [wr_ne (by omega)]; exact he i h1 h2) (by rw [wr_ne (by omega)]; exact hk) hjk hkn hn
  have e63 : (10063 : Int32) - 10000 = nI 63 := by decide
  have sp : spt 1 (nI 63) = -1 := by decide
  unfold f_X4_worth_L7
  dsimp only
  rw [if_neg (show ¬ Int32.ofNat n ≤ nI j from ix_lt hj (by omega)), in_nI hj (by omega), if_pos rfl]
  simp only [nI_clamp (show j < 2 ^ 31 by omega), hc, bnd_eq, e63, if_neg (show ¬ nI 63 = 59 by decide), if_pos (show (0 : Int32) ≤ nI 63 by decide), cspot_v (k := 1) (b := 63) (by decide) (by decide) (by decide), cal_eq, sp, if_pos (show (-1 : Int32) < 0 by decide), if_pos (show nI 63 = 63 by decide), p1, eo, nI_1]
  by_cases y : v = 0
  · rw [if_pos y, if_pos y]
  · rw [if_neg y, if_neg y]
theorem wl_v (h15 : P ≠ 15) (h15' : P + 2 ≠ 15) (hn : n < 1000000) : ∀ (cls : List Cls) (j : Nat) (m : Sg), At (m.1 (P + 1)) j (lCode cls) → j + (lCode cls).length = n → (∀ o, o ∈ cls → okC (l6 (m.1 15)) o) → SK P m [] → ∃ x k, (∀ f, lpO (f_X4_worth_L7 P n) (f + k) (m, nI j) = some x) ∧ k ≤ (lCode cls).length + 1 ∧ (match fnd (l6 (m.1 15)) cls with
    | some v => ∃ m', x = .inl m' ∧ SK P m' [v]
    | none => ∃ m', x = .inr m')
  | [], j, m, hA, hl, ok, h => by
    have hl : j + 0 = n := hl
    refine ⟨.inr m, 1, fun f => ?_, by decide, m, rfl⟩
    show lpO _ (f + 1) _ = _
    rw [lpO]
    have : f_X4_worth_L7 P n (m, nI j) = some (.inl (.inr m)) := by
      unfold f_X4_worth_L7
      dsimp only
      rw [if_pos (show Int32.ofNat n ≤ nI j from nI_le (by omega) (by omega))]
    rw [this]
  | o :: r, j, m, hA, hl, ok, h => by
    obtain ⟨⟨co1, v, rv⟩, ok2⟩ := ok o (List.mem_cons_self ..)
    have ecl : lCode (o :: r) = cCode o ++ lCode r := rfl
    rw [ecl] at hA hl ⊢
    rw [List.length_append] at hl ⊢
    have hA1 := At_l hA
    have hA2 := At_r hA
    obtain ⟨o1, s⟩ := o
    cases o1 with
    | none =>
      have ec : cCode (none, s) = s ++ [10059] := rfl
      rw [ec] at hA1 hl ⊢
      rw [List.length_append] at hl ⊢
      have l1 : [(10059 : Int32)].length = 1 := rfl
      rw [l1] at hl ⊢
      obtain ⟨m1, g1, g2, g3, g4⟩ := seg_v h15 h15' (show n < 2 ^ 31 by omega) s j m [] [v] (At_l hA1) co1 (by omega) h rv
      have c59 : m1.1 (P + 1) (j + s.length) = 10059 := by rw [g3]; exact At_1 (At_r hA1)
      have w := w59_v c59 (show j + s.length < n by omega) (show n < 2 ^ 31 by omega)
      refine ⟨.inl m1, 1 + s.length, fun f => ?_, by omega, ?_⟩
      · rw [← Nat.add_assoc, g1 (f + 1), lpO, w]
      · have ef : fnd (l6 (m.1 15)) ((none, s) :: r) = some (vl (l6 (m.1 15)) s) := rfl
        rw [ef, vl_run rv]
        exact ⟨m1, rfl, g2⟩
    | some q =>
      obtain ⟨co2, vq, rq⟩ := ok2 q rfl
      have ec : cCode (some q, s) = q ++ [10063] ++ s ++ [10059] := rfl
      rw [ec] at hA1 hl hA2 ⊢
      simp only [List.length_append, List.length_cons, List.length_nil] at hl hA2 ⊢
      have a1 := At_l (At_l (At_l hA1))
      have a2 := At_1 (At_r (At_l (At_l hA1)))
      have a3 := At_r (At_l hA1)
      have a4 := At_1 (At_r hA1)
      simp only [List.length_append, List.length_cons, List.length_nil] at a3 a4
      obtain ⟨m1, g1, g2, g3, g4⟩ := seg_v h15 h15' (show n < 2 ^ 31 by omega) q j m [] [vq] a1 co2 (by omega) h rq
      have w := w63_v (n := n) (j := j + q.length) (k := j + (q.length + (0 + 1) + s.length)) (by rw [g3]; exact a2) (by omega) hn g2 (fun i h1 h2 => by
        rw [g3]
        by_cases y : i = j + q.length
        · subst y; rw [a2]; decide
        · have ea := a3 (i - (j + (q.length + (0 + 1)))) (by omega)
          rw [show j + (q.length + (0 + 1)) + (i - (j + (q.length + (0 + 1)))) = i by omega] at ea
          rw [ea]
          have hlt : i - (j + (q.length + (0 + 1))) < s.length := by omega
          rw [List.getD_eq_getElem?_getD, List.getElem?_eq_getElem hlt]
          exact (CO_ne (co1 _ (List.getElem_mem hlt))).1) (by rw [g3]; exact a4) (by omega) (by omega)
      have sk0 : SK P (wr m1 P 2 (nI 0)) [] := ⟨by rw [wr_at, pk_us]; rfl, by decide, fun i hi => absurd hi (by simp)⟩
      have r1 : (wr m1 P 2 (nI 0)).1 (P + 1) = m.1 (P + 1) := by rw [wr_ne (by omega)]; exact g3
      have r15 : (wr m1 P 2 (nI 0)).1 15 = m.1 15 := by rw [wr_ne (Ne.symm h15)]; exact g4
      by_cases y : vq = 0
      · rw [if_pos y] at w
        obtain ⟨x, k', x1, x2, x3⟩ := wl_v h15 h15' hn r (j + (q.length + (0 + 1) + s.length) + 1) (wr m1 P 2 (nI 0)) (by
          rw [r1]
          have := hA2
          rw [show j + (q.length + (0 + 1) + s.length + (0 + 1)) = j + (q.length + (0 + 1) + s.length) + 1 by omega] at this
          exact this) (by omega) (fun o ho => by rw [r15]; exact ok o (List.mem_cons_of_mem _ ho)) sk0
        refine ⟨x, k' + 1 + q.length, fun f => ?_, by omega, ?_⟩
        · rw [← Nat.add_assoc, ← Nat.add_assoc, g1 (f + k' + 1), lpO, w]
          exact x1 f
        · have ef : fnd (l6 (m.1 15)) ((some q, s) :: r) = fnd (l6 (m.1 15)) r := by
            show (if vl (l6 (m.1 15)) q = 0 then _ else _) = _
            rw [vl_run rq, if_pos y]
          rw [r15] at x3
          rw [ef]; exact x3
      · rw [if_neg y] at w
        obtain ⟨m2, b1, b2, b3, b4⟩ := seg_v h15 h15' (show n < 2 ^ 31 by omega) s (j + q.length + 1) (wr m1 P 2 (nI 0)) [] [v] (by rw [r1]; exact a3) co1 (by omega) sk0 (by rw [r15]; exact rv)
        have c59 : m2.1 (P + 1) (j + q.length + 1 + s.length) = 10059 := by
          rw [b3, r1, show j + q.length + 1 + s.length = j + (q.length + (0 + 1) + s.length) by omega]; exact a4
        have w' := w59_v c59 (show j + q.length + 1 + s.length < n by omega) (show n < 2 ^ 31 by omega)
        refine ⟨.inl m2, 1 + s.length + 1 + q.length, fun f => ?_, by omega, ?_⟩
        · rw [← Nat.add_assoc, ← Nat.add_assoc, ← Nat.add_assoc, g1 (f + 1 + s.length + 1), lpO, w]
          show lpO _ (f + 1 + s.length) _ = _
          rw [b1 (f + 1), lpO, w']
        · have ef : fnd (l6 (m.1 15)) ((some q, s) :: r) = some (vl (l6 (m.1 15)) s) := by
            show (if vl (l6 (m.1 15)) q = 0 then _ else _) = _
            rw [vl_run rq, if_neg y]
          rw [ef, vl_run rv]
          exact ⟨m2, rfl, b2⟩
/-- a law's worth, as its code says -/
theorem worth_v (h15 : P ≠ 15) (h15' : P + 2 ≠ 15) (cls : List Cls) (hn : (lCode cls).length < 1000) (hA : At (m.1 (P + 1)) 0 (lCode cls)) (ok : ∀ o, o ∈ cls → okC (l6 (m.1 15)) o) : ∃ m', f_X4_worth P (lCode cls).length m = some ((fnd (l6 (m.1 15)) cls).getD 0, m') := by
  have r1 : (wr m P 2 0).1 (P + 1) = m.1 (P + 1) := wr_ne (by omega)
  have r15 : (wr m P 2 0).1 15 = m.1 15 := wr_ne (Ne.symm h15)
  obtain ⟨x, k, x1, x2, x3⟩ := wl_v h15 h15' (show (lCode cls).length < 1000000 by omega) cls 0 (wr m P 2 0) (by rw [r1]; exact hA) (by omega) (by rw [r15]; exact ok) ⟨by rw [wr_at, pk_us]; rfl, by decide, fun i hi => absurd hi (by simp)⟩
  have x1' : lpO (f_X4_worth_L7 P (lCode cls).length) fu (wr m P 2 0, 0) = some x := by
    have := x1 (1000000 - k)
    rw [show 1000000 - k + k = 1000000 by omega] at this
    exact this
  rw [r15] at x3
  unfold f_X4_worth
  rw [bnd_eq, lpk_of x1']
  cases e : fnd (l6 (m.1 15)) cls with
  | none =>
    rw [e] at x3
    obtain ⟨m', rfl⟩ := x3
    exact ⟨m', rfl⟩
  | some v =>
    rw [e] at x3
    obtain ⟨m', rfl, x4⟩ := x3
    obtain ⟨p1, p2⟩ := pop_v (n := (lCode cls).length) x4
    dsimp only
    rw [p1, cal_eq]
    exact ⟨_, rfl⟩
end
