/-! laws: the component's code in its memory -/
section
variable {nl B B' : Nat} {ln : Nat → Nat} {m m1 m2 m' mc mm mc0 mm0 : Sg} {j w u : Nat} {a a1 a2 a3 a4 r x c v v1 v2 op : Int32} {L p q k k1 k2 i n off b N t P d : Nat} {tx lt : Nat → Int32} {z : Bool} {st st' : List Int32} {s s1 s2 : List Int32}
def SK (P : Nat) (m : Sg) (st : List Int32) : Prop := m.1 P 2 = nI st.length ∧ st.length ≤ 18 ∧ ∀ i, i < st.length → m.1 (P + 2) i = st.getD (st.length - 1 - i) 0
theorem pop_v (h : SK P m (a :: st)) : f_X4_pop P n m = some (a, wr m P 2 (nI st.length)) ∧ SK P (wr m P 2 (nI st.length)) st := by
  obtain ⟨h1, h2, h3⟩ := h
  have hl : (a :: st).length = st.length + 1 := List.length_cons
  rw [hl] at h1 h2 h3
  have e2 : ∀ v, (wr m P 2 v).1 (P + 2) = m.1 (P + 2) := fun v => wr_ne (by omega)
  constructor
  · unfold f_X4_pop
    rw [h1, if_neg (show ¬ nI (st.length + 1) ≤ 0 from ix_lt (n := st.length + 1) (a := 0) (by omega) (by omega)), if_pos (show nI (st.length + 1) ≤ 18 from nI_le (b := 18) h2 (by decide)), bnd_eq, nI_s1 (by omega), Nat.add_sub_cancel, e2, wr_at, pk_us, in_nI (show st.length < 18 by omega) (by decide), if_pos rfl, nI_clamp (by omega), h3 _ (by omega)]
    have : st.length + 1 - 1 - st.length = 0 := by omega
    rw [this]; rfl
  · refine ⟨by rw [wr_at, pk_us], by omega, fun i hi => ?_⟩
    rw [e2, h3 i (by omega)]
    have : st.length + 1 - 1 - i = (st.length - 1 - i) + 1 := by omega
    rw [this, List.getD_cons_succ]
theorem push_v (h : SK P m st) (hl : st.length < 18) : ∃ m', f_X4_push P n m v = some m' ∧ SK P m' (v :: st) ∧ ∀ p, p ≠ P → p ≠ P + 2 → m'.1 p = m.1 p := by
  obtain ⟨h1, h2, h3⟩ := h
  refine ⟨wr (wr m (P + 2) st.length v) P 2 (nI (st.length + 1)), ?_, ⟨by rw [wr_at, pk_us]; rfl, by simp only [List.length_cons]; omega, fun i hi => ?_⟩, fun p p1 p2 => by rw [wr_ne p1, wr_ne p2]⟩
  · unfold f_X4_push
    have e : (wr m (P + 2) st.length v).1 P 2 = nI st.length := by rw [wr_ne (by omega)]; exact h1
    rw [h1, if_neg (show ¬ (18 : Int32) ≤ nI st.length from ix_lt (n := 18) hl (by decide)), in_nI hl (by decide), if_pos rfl, nI_clamp (by omega), bnd_eq, e, nI_1, bnd_eq]
  · rw [wr_ne (by omega), wr_at]
    simp only [List.length_cons] at hi ⊢
    by_cases y : i = st.length
    · subst y
      rw [pk_us, show st.length + 1 - 1 - st.length = 0 by omega]; rfl
    · rw [pk_un y, h3 i (by omega), show st.length + 1 - 1 - i = (st.length - 1 - i) + 1 by omega, List.getD_cons_succ]
def CO (c : Int32) : Prop := (∃ v, v < 10000 ∧ c = nI v) ∨ ∃ b, b < 256 ∧ b ≠ 59 ∧ b ≠ 63 ∧ c = nI (10000 + b)
theorem co_sub : nI (10000 + b) - 10000 = nI b := by
  rw [Nat.add_comm, ← nI_add, show nI 10000 = (10000 : Int32) from rfl, Int32.add_sub_cancel]
theorem num_neg (hv : i < 10000) : nI i - 10000 < 0 := by
  have h1 : (nI i - 10000 : Int32) = nI i - nI 10000 := rfl
  rw [Int32.lt_iff_toInt_lt]
  have e : (nI i - 10000 : Int32).toInt = (i : Int) - 10000 := by
    rw [Int32.toInt_sub]
    have : (nI i).toInt = (i : Int) := nI_toInt (by omega)
    rw [this, show (10000 : Int32).toInt = 10000 from rfl]
    exact Int.bmod_eq_of_le (by omega) (by omega)
  rw [e, show (0 : Int32).toInt = 0 from rfl]
  omega
theorem wst_v (h15 : P ≠ 15) (h15' : P + 2 ≠ 15) (hc : m.1 (P + 1) j = c) (hj : j < n) (hn : n < 2 ^ 31) (co : CO c) (h : SK P m st) (hs : stp (l6 (m.1 15)) c st = some st') : ∃ m', f_X4_worth_L7 P n (m, nI j) = some (.inr (m', nI (j + 1))) ∧ SK P m' st' ∧ m'.1 (P + 1) = m.1 (P + 1) ∧ m'.1 15 = m.1 15 := by
  have pre : ∀ {ρ : Type} (X Y : Option ρ), (if (Int32.ofNat n) ≤ nI j then X else if inr (nI j) n = true then Y else none) = Y := fun X Y => by
    rw [if_neg (show ¬ Int32.ofNat n ≤ nI j from ix_lt hj hn), in_nI hj hn, if_pos rfl]
  have pu_some : ∀ {v : Int32} {r q : List Int32}, pu v r = some q → r.length < 18 ∧ q = v :: r := by
    intro v r q e
    unfold pu at e
    by_cases y : r.length < 18
    · rw [if_pos y] at e; exact ⟨y, (Option.some.inj e).symm⟩
    · rw [if_neg y] at e; cases e
  unfold f_X4_worth_L7
  dsimp only
  rw [if_neg (show ¬ Int32.ofNat n ≤ nI j from ix_lt hj hn), in_nI hj hn, if_pos rfl]
  simp only [nI_clamp (show j < 2 ^ 31 by omega), hc, bnd_eq, ↓reduceIte, nI_1]
  unfold stp at hs
  rcases co with ⟨v, v1, rfl⟩ | ⟨b, b1, b2, b3, rfl⟩
  · have ng := num_neg v1
    have n59 : ¬ nI v - 10000 = 59 := fun z => by rw [z] at ng; exact absurd ng (by decide)
    rw [if_pos ng] at hs
    obtain ⟨l1, l2⟩ := pu_some hs
    obtain ⟨m1, p1, p2, p3⟩ := push_v (n := n) (v := nI v) h l1
    have nle : ¬ (0 : Int32) ≤ nI v - 10000 := Int32.not_le.mpr ng
    simp only [if_neg n59, if_neg nle, p1, calv_eq]
    exact ⟨m1, rfl, by rw [l2]; exact p2, p3 _ (by omega) (by omega), p3 15 (Ne.symm h15) (Ne.symm h15')⟩
  · rw [co_sub] at hs ⊢
    have n59 : ¬ nI b = 59 := fun z => b2 ((nI_eq (b := 59) (by omega) (by decide)).mp z)
    have n63 : ¬ nI b = 63 := fun z => b3 ((nI_eq (b := 63) (by omega) (by decide)).mp z)
    have nle : (0 : Int32) ≤ nI b := nI_le (a := 0) (by omega) (by omega)
    rw [if_neg (nI_pos (by omega))] at hs
    simp only [if_neg n59, if_pos nle, cspot_v (k := 1) (by decide) b1 (by decide), cal_eq, if_neg n63]
    rcases spt_cases 1 (nI b) with y | ⟨i, i1, i2, i3⟩
    · rw [y] at hs ⊢
      rw [if_neg (by decide)] at hs
      simp only [if_pos (show (-1 : Int32) < 0 by decide)]
      by_cases y33 : nI b = 33
      · rw [if_pos y33] at hs
        simp only [if_pos y33]
        cases st with
        | nil => cases hs
        | cons a r =>
          dsimp only at hs
          obtain ⟨l1, l2⟩ := pu_some hs
          obtain ⟨p1, p2⟩ := pop_v (n := n) h
          obtain ⟨m1, u1, u2, u3⟩ := push_v (n := n) (v := 1 - a) p2 l1
          rw [p1, cal_eq, u1, calv_eq]
          refine ⟨m1, rfl, by rw [l2]; exact u2, ?_, ?_⟩
          · rw [u3 _ (by omega) (by omega), wr_ne (by omega)]
          · rw [u3 15 (Ne.symm h15) (Ne.symm h15'), wr_ne (Ne.symm h15)]
      · rw [if_neg y33] at hs
        simp only [if_neg y33]
        match st, hs, h with
        | [], hs, h => cases hs
        | [_], hs, h => cases hs
        | b' :: a :: r, hs, h =>
          dsimp only at hs
          obtain ⟨l1, l2⟩ := pu_some hs
          obtain ⟨p1, p2⟩ := pop_v (n := n) h
          obtain ⟨q1, q2⟩ := pop_v (n := n) p2
          obtain ⟨m1, u1, u2, u3⟩ := push_v (n := n) (v := reck a (nI b) b') q2 l1
          rw [p1, cal_eq, q1, cal_eq, reck_v, cal_eq, u1, calv_eq]
          refine ⟨m1, rfl, by rw [l2]; exact u2, ?_, ?_⟩
          · rw [u3 _ (by omega) (by omega), wr_ne (by omega), wr_ne (by omega)]
          · rw [u3 15 (Ne.symm h15) (Ne.symm h15'), wr_ne (Ne.symm h15), wr_ne (Ne.symm h15)]
    · have i6 : i < 6 := i1
      rw [i2] at hs ⊢
      rw [if_pos (nI_pos (by omega)), nI_clamp (by omega)] at hs
      obtain ⟨l1, l2⟩ := pu_some hs
      have el : l6 (m.1 15) i = m.1 15 i := if_pos i6
      obtain ⟨m1, u1, u2, u3⟩ := push_v (n := n) (v := m.1 15 i) h l1
      simp only [if_neg (show ¬ nI i < 0 from nI_pos (by omega)), if_neg (show ¬ (6 : Int32) ≤ nI i from ix_lt (n := 6) i6 (by decide)), in_nI i6 (show 6 < 2 ^ 31 by decide), ↓reduceIte, nI_clamp (show i < 2 ^ 31 by omega), u1, calv_eq]
      exact ⟨m1, rfl, by rw [l2, el]; exact u2, u3 _ (by omega) (by omega), u3 15 (Ne.symm h15) (Ne.symm h15')⟩
end
