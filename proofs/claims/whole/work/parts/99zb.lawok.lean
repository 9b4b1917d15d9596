/-! laws: a law that was read is worth the same in both, whatever the letters -/
section
variable {nl B B' : Nat} {ln : Nat → Nat} {m m1 m2 m' mc mm mc' mm0 mc1 mm1 mc2 mm2 : Sg} {j w u : Nat} {a a1 a2 a3 a4 r x x2 c v v1 v2 op : Int32} {L p q k k1 k2 i n off b N t P d f g p' n' p1 : Nat} {tx lt F G : Nat → Int32} {z : Bool} {s s1 s2 : List Int32} {cls cls' : List Cls}
theorem l6_l6 {r : Nat → Int32} : l6 (l6 r) = l6 r := funext fun i => by
  unfold l6
  by_cases h : i < 6
  · rw [if_pos h]
  · rw [if_neg h, if_neg h]
theorem l6_l6m {r : Nat → Int32} : l6 (l6m r) = l6m r := funext fun i => by
  unfold l6
  by_cases h : i < 6
  · rw [if_pos h]
  · rw [if_neg h]
    unfold l6m
    rw [if_neg (by omega), if_neg (by omega), if_neg (by omega), if_neg (by omega), if_neg (by omega), if_neg (by omega)]
def rw31 (r : Nat → Int32) (i : Nat) : Int32 := if i = 99 then r 0 else if i = 97 then r 1 else if i = 107 then r 2 else if i = 110 then r 3 else if i = 109 then r 4 else if i = 119 then r 5 else 0
theorem l6m_rw {r : Nat → Int32} : l6m (rw31 r) = l6 r := funext fun i => by
  by_cases h : i < 6
  · rcases lt6 h with e | e | e | e | e | e <;> subst e <;> rfl
  · unfold l6
    rw [if_neg h]
    unfold l6m
    rw [if_neg (by omega), if_neg (by omega), if_neg (by omega), if_neg (by omega), if_neg (by omega), if_neg (by omega)]
/-- clauses that stand in a row -/
def Ok (F : Nat → Int32) (n : Nat) (lt : Nat → Int32) (cls : List Cls) : Prop := (lCode cls).length = n ∧ At F 0 (lCode cls) ∧ ∀ o, o ∈ cls → okC lt o
theorem Ok_1 (hn : n ≤ 240) (hl : l6 lt = lt) (h : Ok F n lt cls) (h' : Ok F n lt cls') : (fnd lt cls).getD 0 = (fnd lt cls').getD 0 := by
  let m : Sg := ⟨fun p i => if p = 46 then F i else if p = 15 then lt i else 0, fun _ => 0⟩
  have e15 : l6 (m.1 15) = lt := hl
  obtain ⟨h1, h2, h3⟩ := h
  obtain ⟨g1, g2, g3⟩ := h'
  obtain ⟨x, x1⟩ := worth_v (m := m) (P := 45) (by decide) (by decide) cls (by omega) h2 (by rw [e15]; exact h3)
  obtain ⟨y, y1⟩ := worth_v (m := m) (P := 45) (by decide) (by decide) cls' (by omega) g2 (by rw [e15]; exact g3)
  rw [e15, h1] at x1
  rw [e15, g1, x1] at y1
  exact congrArg Prod.fst (Option.some.inj y1)
noncomputable def Vw (F : Nat → Int32) (n : Nat) (lt : Nat → Int32) : Int32 := (fnd lt (Classical.epsilon (Ok F n lt))).getD 0
theorem Vw_v (hn : n ≤ 240) (hl : l6 lt = lt) (h : Ok F n lt cls) : Vw F n lt = (fnd lt cls).getD 0 := Ok_1 hn hl (Classical.epsilon_spec (p := Ok F n lt) ⟨cls, h⟩) h
theorem law_ok (hb : Bt tx L) (T : Tx tx L mc) (e : f_X6_read mc = some (-1, mc')) (hk : k < 4) : ∃ n, n ≤ 240 ∧ mc'.1 10 2 = nI n ∧ ∀ (ln : Nat → Nat) (cd t' : Nat → Int32), ln k = n → (∀ i, i < n → cd i = mc'.1 12 i) → (∀ i, i < L → t' i = sb (tx i)) → LawOK ln cd t' (nI L) (Vw (mc'.1 12) n) k := by
  have l240 := T.1
  have key : ∀ (mm : Sg) off, off + L ≤ 960 → (∀ k, k < L → mm.1 29 (off + k) = sb (tx k)) → ∃ mm' n cls, f_X11_goThrough 1 mm (nI off) (nI L) = some mm' ∧ n ≤ 240 ∧ mc'.1 10 2 = nI n ∧ Ok (mc'.1 12) n (l6m (mm.1 31)) cls ∧ mm'.1 27 14 = (fnd (l6m (mm.1 31)) cls).getD 0 := by
    intro mm off h1 h2
    obtain ⟨mc1, mm', e1, e2, e3, e4, e5, e6⟩ := law_v (z := true) hb T (mm := mm) (off := off) h1 h2
    have ex := Option.some.inj (e.symm.trans e1)
    have ex1 : -1 = mc1.1 11 2 := congrArg Prod.fst ex
    have ex2 : mc' = mc1 := congrArg Prod.snd ex
    subst ex2
    obtain ⟨cls, n, c1, c2, c3, c4, c5, c6⟩ := e6 ex1.symm
    exact ⟨mm', n, cls, e2, c1, c3, ⟨c2, c4, c5⟩, c6⟩
  have key1 : ∀ lt : Nat → Int32, ∃ n cls, n ≤ 240 ∧ mc'.1 10 2 = nI n ∧ Ok (mc'.1 12) n (l6 lt) cls := by
    intro lt
    let mm : Sg := ⟨fun p i => if p = 29 then sb (tx i) else if p = 31 then rw31 lt i else 0, fun _ => 0⟩
    obtain ⟨mm', n, cls, _, k2, k3, k4, _⟩ := key mm 0 (by omega) (fun k hk => by
      show sb (tx (0 + k)) = _
      rw [Nat.zero_add])
    have e31 : l6m (mm.1 31) = l6 lt := l6m_rw
    rw [e31] at k4
    exact ⟨n, cls, k2, k3, k4⟩
  obtain ⟨n, cls0, n1, n2, _⟩ := key1 (fun _ => 0)
  have nn : ∀ n', n' ≤ 240 → mc'.1 10 2 = nI n' → n' = n := fun n' h1 h2 => (nI_eq (by omega) (by omega)).mp (h2.symm.trans n2)
  refine ⟨n, n1, n2, fun ln cd t' hln hcd ht => ⟨fun m' hm => ?_, fun m' hm => ?_⟩⟩
  · obtain ⟨n', cls, k1, k2, k3⟩ := key1 (m'.1 15)
    have := nn n' k1 k2
    subst this
    obtain ⟨j1, j2, j3⟩ := k3
    obtain ⟨x, x1⟩ := worth_v (m := m') (P := 45 + 3 * k) (by omega) (by omega) cls (by omega) (At_eq j2 fun i hi => by
      rw [show 45 + 3 * k + 1 = 46 + 3 * k by omega, hm]
      exact hcd i (by omega)) j3
    rw [j1, ← hln] at x1
    rw [Vw_v n1 l6_l6 ⟨j1, j2, j3⟩]
    exact ⟨x, x1⟩
  · obtain ⟨mm', n', cls, k1, k2, k3, k4, k5⟩ := key m' (240 * k) (by omega) (fun i hi => by rw [hm i (by omega)]; exact ht i hi)
    have := nn n' k2 k3
    subst this
    exact ⟨mm', k1, by rw [k5, Vw_v n1 l6_l6m k4]⟩
theorem sK_scr (f : Fr sK m m') : Fr scr m m' := Fr_mono (fun p k h => by
  cases e : sK p k with
  | false => rfl
  | true =>
    have : scr p k = true := by
      unfold sK at e
      simp only [Bool.and_eq_true, Bool.or_eq_true, beq_iff_eq] at e
      rcases e with (⟨rfl, rfl | rfl⟩ | ⟨rfl, rfl⟩) | rfl
      · rfl
      · rfl
      · rfl
      · show (!ess 12 k) = true
        simp [ess]
    rw [this] at h; cases h) f
theorem sG_scr (f : Fr sG m m') : Fr scr m m' := Fr_mono (fun p k h => by
  cases e : sG p k with
  | false => rfl
  | true =>
    have : scr p k = true := by
      unfold sG at e
      simp only [Bool.and_eq_true, Bool.or_eq_true, beq_iff_eq] at e
      obtain ⟨rfl, e⟩ := e
      rcases e with ((((((((rfl | rfl) | rfl) | rfl) | rfl) | rfl) | rfl) | rfl) | rfl) <;> rfl
    rw [this] at h; cases h) f
end
