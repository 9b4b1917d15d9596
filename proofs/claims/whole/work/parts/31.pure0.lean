/-! pure rows: loops, indices, counties -/
theorem bnd_eq {α β : Type} (x : α) (K : α → β) : bnd x K = K x := rfl
theorem cal_eq {α ρ : Type} (r : α) (m : Sg) (K : α → Sg → Option ρ) : cal (some (r, m)) K = K r m := rfl
theorem calv_eq {ρ : Type} (m : Sg) (K : Sg → Option ρ) : calv (some m) K = K m := rfl
/-- a loop whose states are known one by one -/
theorem lpO_seq {σ χ : Type} {step : σ → Option (χ ⊕ σ)} {x : χ} : ∀ (n : Nat) (S : Nat → σ) (fuel : Nat), (∀ i, i < n → step (S i) = some (.inr (S (i + 1)))) → step (S n) = some (.inl x) → n < fuel → lpO step fuel (S 0) = some x
  | _, _, 0, _, _, h => absurd h (Nat.not_lt_zero _)
  | 0, S, f + 1, _, h2, _ => by rw [lpO, h2]
  | n + 1, S, f + 1, h1, h2, h3 => by
    rw [lpO, h1 0 (Nat.zero_lt_succ n)]
    exact lpO_seq n (fun i => S (i + 1)) f (fun i hi => h1 (i + 1) (Nat.succ_lt_succ hi)) h2 (Nat.lt_of_succ_lt_succ h3)
theorem lpk_seq {σ χ ρ : Type} {step : σ → Option (χ ⊕ σ)} {x : χ} {K : χ → Option ρ} (n : Nat) (S : Nat → σ) (h1 : ∀ i, i < n → step (S i) = some (.inr (S (i + 1)))) (h2 : step (S n) = some (.inl x)) (h3 : n < 1000000) : lpk step (S 0) K = K x := by
  unfold lpk
  rw [lpO_seq n S fu h1 h2 h3]
/-- two loops side by side -/
theorem lpO_sim {σ τ χ ψ : Type} {s1 : σ → Option (χ ⊕ σ)} {s2 : τ → Option (ψ ⊕ τ)} {R : σ → τ → Prop} {Q : χ → ψ → Prop} {μ : σ → Nat} (h : ∀ s t, R s t → (∃ x y, s1 s = some (.inl x) ∧ s2 t = some (.inl y) ∧ Q x y) ∨ (∃ s' t', s1 s = some (.inr s') ∧ s2 t = some (.inr t') ∧ R s' t' ∧ μ s' < μ s)) : ∀ (n : Nat) (s : σ) (t : τ), μ s < n → R s t → ∃ x y, lpO s1 n s = some x ∧ lpO s2 n t = some y ∧ Q x y
  | 0, s, t, hn, _ => absurd hn (Nat.not_lt_zero _)
  | n + 1, s, t, hn, hr => by
    rcases h s t hr with ⟨x, y, h1, h2, h3⟩ | ⟨s', t', h1, h2, h3, h4⟩
    · exact ⟨x, y, by rw [lpO, h1], by rw [lpO, h2], h3⟩
    · obtain ⟨x, y, e1, e2, e3⟩ := lpO_sim h n s' t' (by omega) h3
      exact ⟨x, y, by rw [lpO, h1]; exact e1, by rw [lpO, h2]; exact e2, e3⟩
theorem lpk_of {σ χ ρ : Type} {step : σ → Option (χ ⊕ σ)} {s : σ} {x : χ} {K : χ → Option ρ} (h : lpO step fu s = some x) : lpk step s K = K x := by unfold lpk; rw [h]
/-- indices -/
theorem in_nI {a n : Nat} (h : a < n) (hn : n < 2 ^ 31) : inr (nI a) n = true := by
  have h1 : ¬ nI a < 0 := nI_pos (by omega)
  have h2 : (nI a).toNatClampNeg = a := nI_clamp (by omega)
  simp [inr, h1, h2]
  exact h
theorem ix_lt {a n : Nat} (h : a < n) (hn : n < 2 ^ 31) : ¬ nI n ≤ nI a := nI_ge h hn
theorem kid_v {j : Nat} {m : Sg} {c w : Nat} (hc : c < 8) (hw : w < 10) : f_X0_kid j m (nI c) (nI w) = some (m.1 j (10 * c + w), m) := by
  have e : nI c * 10 + nI w = nI (10 * c + w) := by
    rw [show (10 : Int32) = nI 10 from rfl, pk_mul, nI_add, Nat.mul_comm]
  have h1 : ¬ nI (10 * c + w) < 0 := nI_pos (by omega)
  have h2 : ¬ (100 : Int32) ≤ nI (10 * c + w) := ix_lt (n := 100) (by omega) (by decide)
  simp only [f_X0_kid, bnd_eq, e, if_neg h1, if_neg h2, in_nI (show 10 * c + w < 100 by omega) (by decide), if_true, nI_clamp (show 10 * c + w < 2 ^ 31 by omega)]
theorem old_v {j : Nat} {m : Sg} {c w : Nat} (hc : c < 4) (hw : w < 3) : f_X0_old j m (nI c) (nI w) = some (m.1 j (80 + 3 * c + w), m) := by
  have e : 80 + nI c * 3 + nI w = nI (80 + 3 * c + w) := by
    rw [show (3 : Int32) = nI 3 from rfl, show (80 : Int32) = nI 80 from rfl, pk_mul, nI_add, nI_add, Nat.mul_comm]
  have h1 : ¬ nI (80 + 3 * c + w) < 0 := nI_pos (by omega)
  have h2 : ¬ (100 : Int32) ≤ nI (80 + 3 * c + w) := ix_lt (n := 100) (by omega) (by decide)
  simp only [f_X0_old, bnd_eq, e, if_neg h1, if_neg h2, in_nI (show 80 + 3 * c + w < 100 by omega) (by decide), if_true, nI_clamp (show 80 + 3 * c + w < 2 ^ 31 by omega)]
theorem putKid_v {j : Nat} {m : Sg} {c w : Nat} {x : Int32} (hc : c < 8) (hw : w < 10) : f_X0_putKid j m (nI c) (nI w) x = some (wr m j (10 * c + w) x) := by
  have e : nI c * 10 + nI w = nI (10 * c + w) := by
    rw [show (10 : Int32) = nI 10 from rfl, pk_mul, nI_add, Nat.mul_comm]
  have h1 : ¬ nI (10 * c + w) < 0 := nI_pos (by omega)
  have h2 : ¬ (100 : Int32) ≤ nI (10 * c + w) := ix_lt (n := 100) (by omega) (by decide)
  simp only [f_X0_putKid, bnd_eq, e, if_neg h1, if_neg h2, in_nI (show 10 * c + w < 100 by omega) (by decide), if_true, nI_clamp (show 10 * c + w < 2 ^ 31 by omega)]
theorem putOld_v {j : Nat} {m : Sg} {c w : Nat} {x : Int32} (hc : c < 4) (hw : w < 3) : f_X0_putOld j m (nI c) (nI w) x = some (wr m j (80 + 3 * c + w) x) := by
  have e : 80 + nI c * 3 + nI w = nI (80 + 3 * c + w) := by
    rw [show (3 : Int32) = nI 3 from rfl, show (80 : Int32) = nI 80 from rfl, pk_mul, nI_add, nI_add, Nat.mul_comm]
  have h1 : ¬ nI (80 + 3 * c + w) < 0 := nI_pos (by omega)
  have h2 : ¬ (100 : Int32) ≤ nI (80 + 3 * c + w) := ix_lt (n := 100) (by omega) (by decide)
  simp only [f_X0_putOld, bnd_eq, e, if_neg h1, if_neg h2, in_nI (show 80 + 3 * c + w < 100 by omega) (by decide), if_true, nI_clamp (show 80 + 3 * c + w < 2 ^ 31 by omega)]
