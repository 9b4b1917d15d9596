/-! laws: what a whole code is worth -/
section
variable {nl B B' : Nat} {ln : Nat → Nat} {m m1 m2 m' mc mm mc0 mm0 : Sg} {j w u : Nat} {a a1 a2 a3 a4 r x c v v1 v2 op : Int32} {L p q k k1 k2 i n off b N t P d : Nat} {tx lt : Nat → Int32} {z : Bool} {st st' : List Int32} {s s1 s2 : List Int32}
def Go {σ χ : Type} (step : σ → Option (χ ⊕ σ)) (x y : σ) (k : Nat) : Prop := ∀ f, lpO step (f + k) x = lpO step f y
theorem Go_1 {σ χ : Type} {step : σ → Option (χ ⊕ σ)} {x y : σ} (h : step x = some (.inr y)) : Go step x y 1 := fun f => by
  show lpO step (f + 1) x = _
  rw [lpO, h]
theorem Go_tr {σ χ : Type} {step : σ → Option (χ ⊕ σ)} {x y o : σ} {k l : Nat} (h1 : Go step x y k) (h2 : Go step y o l) : Go step x o (l + k) := fun f => by
  rw [← Nat.add_assoc, h1 (f + l), h2 f]
theorem seg_v (h15 : P ≠ 15) (h15' : P + 2 ≠ 15) (hn : n < 2 ^ 31) : ∀ (s : List Int32) (j : Nat) (m : Sg) (st st' : List Int32), (∀ i, i < s.length → m.1 (P + 1) (j + i) = s.getD i 0) → (∀ c, c ∈ s → CO c) → j + s.length ≤ n → SK P m st → run (l6 (m.1 15)) s st = some st' → ∃ m', Go (f_X4_worth_L7 P n) (m, nI j) (m', nI (j + s.length)) s.length ∧ SK P m' st' ∧ m'.1 (P + 1) = m.1 (P + 1) ∧ m'.1 15 = m.1 15
  | [], j, m, st, st', hc, co, hl, h, hr => ⟨m, fun _ => rfl, by rw [← Option.some.inj hr]; exact h, rfl, rfl⟩
  | c :: s, j, m, st, st', hc, co, hl, h, hr => by
    have hlen : (c :: s).length = s.length + 1 := List.length_cons
    rw [hlen] at hl hc
    cases e : stp (l6 (m.1 15)) c st with
    | none =>
      have : run (l6 (m.1 15)) (c :: s) st = none := by unfold run; rw [e]
      rw [this] at hr; cases hr
    | some st1 =>
      have er : run (l6 (m.1 15)) (c :: s) st = run (l6 (m.1 15)) s st1 := by rw [run, e]
      obtain ⟨m1, w1, w2, w3, w4⟩ := wst_v (c := c) h15 h15' (hc 0 (by omega)) (show j < n by omega) hn (co c (List.mem_cons_self ..)) h e
      rw [er] at hr
      obtain ⟨m2, x1, x2, x3, x4⟩ := seg_v h15 h15' hn s (j + 1) m1 st1 st' (fun i hi => by
        rw [w3, show j + 1 + i = j + (i + 1) by omega, hc (i + 1) (by omega), List.getD_cons_succ]) (fun c' hc' => co c' (List.mem_cons_of_mem _ hc')) (by omega) w2 (by rw [w4]; exact hr)
      refine ⟨m2, ?_, x2, x3.trans w3, x4.trans w4⟩
      rw [hlen, show j + (s.length + 1) = j + 1 + s.length by omega]
      exact Go_tr (Go_1 w1) x1
/-- a clause: where, and what -/
abbrev Cls := Option (List Int32) × List Int32
def cCode (o : Cls) : List Int32 := (match o.1 with
  | none => o.2
  | some q => q ++ [10063] ++ o.2) ++ [10059]
def lCode : List Cls → List Int32
  | [] => []
  | o :: r => cCode o ++ lCode r
def vl (lt : Nat → Int32) (s : List Int32) : Int32 := (run lt s []).elim 0 (fun st => st.headD 0)
def fnd (lt : Nat → Int32) : List Cls → Option Int32
  | [] => none
  | o :: r => match o.1 with
    | none => some (vl lt o.2)
    | some q => if vl lt q = 0 then fnd lt r else some (vl lt o.2)
def okS (lt : Nat → Int32) (s : List Int32) : Prop := (∀ c, c ∈ s → CO c) ∧ ∃ v, run lt s [] = some [v]
def okC (lt : Nat → Int32) (o : Cls) : Prop := okS lt o.2 ∧ ∀ q, o.1 = some q → okS lt q
theorem CO_ne (h : CO c) : ¬ c = 10059 ∧ ¬ c = 10063 := by
  rcases h with ⟨v, v1, rfl⟩ | ⟨b, b1, b2, b3, rfl⟩
  · exact ⟨fun z => by have := (nI_eq (b := 10059) (by omega) (by decide)).mp z; omega, fun z => by have := (nI_eq (b := 10063) (by omega) (by decide)).mp z; omega⟩
  · exact ⟨fun z => by have := (nI_eq (b := 10059) (by omega) (by decide)).mp z; omega, fun z => by have := (nI_eq (b := 10063) (by omega) (by decide)).mp z; omega⟩
theorem eoc_v (h : ∀ i, j ≤ i → i < k → ¬ m.1 (P + 1) i = 10059) (hk : m.1 (P + 1) k = 10059) (hjk : j ≤ k) (hn : k < n) (hn' : n < 1000000) : f_X4_endOfClause P n m (nI j) = some (nI k, m) := by
  have key := lpk_seq (step := f_X4_endOfClause_L2 P n) (x := .inl (m, nI k)) (K := fun x => match x with
  | .inl (m3, x4) => some (x4, m3)
  | .inr m5 => some ((Int32.ofNat n), m5)) (k - j) (fun r => (m, nI (j + r))) (by
    intro r hr
    simp only [f_X4_endOfClause_L2, if_neg (show ¬ Int32.ofNat n ≤ nI (j + r) from ix_lt (by omega) (by omega)), in_nI (show j + r < n by omega) (show n < 2 ^ 31 by omega), ↓reduceIte, nI_clamp (show j + r < 2 ^ 31 by omega), if_neg (h (j + r) (by omega) (by omega)), bnd_eq, nI_1]
    rfl) (by
    have e : j + (k - j) = k := by omega
    simp only [e, f_X4_endOfClause_L2, if_neg (show ¬ Int32.ofNat n ≤ nI k from ix_lt hn (by omega)), in_nI hn (show n < 2 ^ 31 by omega), ↓reduceIte, nI_clamp (show k < 2 ^ 31 by omega), if_pos hk]) (by omega)
  exact key
end
