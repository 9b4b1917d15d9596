/-! what County's methods answer, by its row -/
def itr {α : Type} (F : Nat → α → α) (a : α) : Nat → α
  | 0 => a
  | i + 1 => F i (itr F a i)
def scn {χ : Type} (P : Nat → Option χ) : Nat → Nat → Option χ
  | _, 0 => none
  | i, k + 1 => match P i with
    | some x => some x
    | none => scn P (i + 1) k
theorem lpO_scn {σ χ : Type} {step : σ → Option (χ ⊕ σ)} {y : χ} {S : Nat → σ} {P : Nat → Option χ} : ∀ (k i fuel : Nat), (∀ q, i ≤ q → q < i + k → step (S q) = match P q with
    | some x => some (.inl x)
    | none => some (.inr (S (q + 1)))) → step (S (i + k)) = some (.inl y) → k < fuel → lpO step fuel (S i) = some ((scn P i k).getD y)
  | _, _, 0, _, _, h => absurd h (Nat.not_lt_zero _)
  | 0, i, f + 1, _, h2, _ => by rw [lpO, show step (S i) = some (.inl y) from h2]; rfl
  | k + 1, i, f + 1, h1, h2, h3 => by
    have e := h1 i (Nat.le_refl i) (by omega)
    rw [lpO, e, scn]
    cases hp : P i with
    | some x => rfl
    | none => exact lpO_scn k (i + 1) f (fun q q1 q2 => h1 q (by omega) (by omega)) (by rw [show i + 1 + k = i + (k + 1) by omega]; exact h2) (by omega)
theorem lpk_scn {σ χ ρ : Type} {step : σ → Option (χ ⊕ σ)} {y : χ} {K : χ → Option ρ} {S : Nat → σ} {P : Nat → Option χ} (n : Nat) (h1 : ∀ q, q < n → step (S q) = match P q with
    | some x => some (.inl x)
    | none => some (.inr (S (q + 1)))) (h2 : step (S n) = some (.inl y)) (h3 : n < 1000000) : lpk step (S 0) K = K ((scn P 0 n).getD y) :=
  lpk_of (lpO_scn n 0 fu (fun q _ q2 => h1 q (by omega)) (by rw [Nat.zero_add]; exact h2) h3)
def kd (f : Nat → Int32) (c w : Nat) : Int32 := f (10 * c + w)
def od (f : Nat → Int32) (e w : Nat) : Int32 := f (80 + 3 * e + w)
section
variable {j : Nat} {m : Sg} {c e : Nat}
theorem kid0 (hc : c < 8) : f_X0_kid j m (nI c) 0 = some (kd (m.1 j) c 0, m) := kid_v (w := 0) hc (by decide)
theorem kid1 (hc : c < 8) : f_X0_kid j m (nI c) 1 = some (kd (m.1 j) c 1, m) := kid_v (w := 1) hc (by decide)
theorem kid2 (hc : c < 8) : f_X0_kid j m (nI c) 2 = some (kd (m.1 j) c 2, m) := kid_v (w := 2) hc (by decide)
theorem kid3 (hc : c < 8) : f_X0_kid j m (nI c) 3 = some (kd (m.1 j) c 3, m) := kid_v (w := 3) hc (by decide)
theorem kid4 (hc : c < 8) : f_X0_kid j m (nI c) 4 = some (kd (m.1 j) c 4, m) := kid_v (w := 4) hc (by decide)
theorem kid5 (hc : c < 8) : f_X0_kid j m (nI c) 5 = some (kd (m.1 j) c 5, m) := kid_v (w := 5) hc (by decide)
theorem kid6 (hc : c < 8) : f_X0_kid j m (nI c) 6 = some (kd (m.1 j) c 6, m) := kid_v (w := 6) hc (by decide)
theorem kid7 (hc : c < 8) : f_X0_kid j m (nI c) 7 = some (kd (m.1 j) c 7, m) := kid_v (w := 7) hc (by decide)
theorem kid8 (hc : c < 8) : f_X0_kid j m (nI c) 8 = some (kd (m.1 j) c 8, m) := kid_v (w := 8) hc (by decide)
theorem kid9 (hc : c < 8) : f_X0_kid j m (nI c) 9 = some (kd (m.1 j) c 9, m) := kid_v (w := 9) hc (by decide)
theorem old0 (he : e < 4) : f_X0_old j m (nI e) 0 = some (od (m.1 j) e 0, m) := old_v (w := 0) he (by decide)
theorem old1 (he : e < 4) : f_X0_old j m (nI e) 1 = some (od (m.1 j) e 1, m) := old_v (w := 1) he (by decide)
theorem old2 (he : e < 4) : f_X0_old j m (nI e) 2 = some (od (m.1 j) e 2, m) := old_v (w := 2) he (by decide)
def wk (m : Sg) (j c w : Nat) (x : Int32) : Sg := wr m j (10 * c + w) x
def wo (m : Sg) (j e w : Nat) (x : Int32) : Sg := wr m j (80 + 3 * e + w) x
theorem pk0 {x : Int32} (hc : c < 8) : f_X0_putKid j m (nI c) 0 x = some (wk m j c 0 x) := putKid_v (w := 0) hc (by decide)
theorem pk1 {x : Int32} (hc : c < 8) : f_X0_putKid j m (nI c) 1 x = some (wk m j c 1 x) := putKid_v (w := 1) hc (by decide)
theorem pk2 {x : Int32} (hc : c < 8) : f_X0_putKid j m (nI c) 2 x = some (wk m j c 2 x) := putKid_v (w := 2) hc (by decide)
theorem pk3 {x : Int32} (hc : c < 8) : f_X0_putKid j m (nI c) 3 x = some (wk m j c 3 x) := putKid_v (w := 3) hc (by decide)
theorem pk4 {x : Int32} (hc : c < 8) : f_X0_putKid j m (nI c) 4 x = some (wk m j c 4 x) := putKid_v (w := 4) hc (by decide)
theorem pk5 {x : Int32} (hc : c < 8) : f_X0_putKid j m (nI c) 5 x = some (wk m j c 5 x) := putKid_v (w := 5) hc (by decide)
theorem pk6 {x : Int32} (hc : c < 8) : f_X0_putKid j m (nI c) 6 x = some (wk m j c 6 x) := putKid_v (w := 6) hc (by decide)
theorem pk7 {x : Int32} (hc : c < 8) : f_X0_putKid j m (nI c) 7 x = some (wk m j c 7 x) := putKid_v (w := 7) hc (by decide)
theorem pk8 {x : Int32} (hc : c < 8) : f_X0_putKid j m (nI c) 8 x = some (wk m j c 8 x) := putKid_v (w := 8) hc (by decide)
theorem pk9 {x : Int32} (hc : c < 8) : f_X0_putKid j m (nI c) 9 x = some (wk m j c 9 x) := putKid_v (w := 9) hc (by decide)
theorem po0 {x : Int32} (he : e < 4) : f_X0_putOld j m (nI e) 0 x = some (wo m j e 0 x) := putOld_v (w := 0) he (by decide)
theorem po1 {x : Int32} (he : e < 4) : f_X0_putOld j m (nI e) 1 x = some (wo m j e 1 x) := putOld_v (w := 1) he (by decide)
theorem po2 {x : Int32} (he : e < 4) : f_X0_putOld j m (nI e) 2 x = some (wo m j e 2 x) := putOld_v (w := 2) he (by decide)
theorem cell_v {k : Nat} (hk : k < 100) : f_X0_cell j m (nI k) = some (m.1 j k, m) := by
  have h1 : ¬ nI k < 0 := nI_pos (by omega)
  have h2 : ¬ (100 : Int32) ≤ nI k := ix_lt (n := 100) (by omega) (by decide)
  simp only [f_X0_cell, if_neg h1, if_neg h2, in_nI (show k < 100 by omega) (by decide), if_true, nI_clamp (show k < 2 ^ 31 by omega)]
theorem put_v {k : Nat} {x : Int32} (hk : k < 100) : f_X0_put j m (nI k) x = some (wr m j k x) := by
  have h1 : ¬ nI k < 0 := nI_pos (by omega)
  have h2 : ¬ (100 : Int32) ≤ nI k := ix_lt (n := 100) (by omega) (by decide)
  simp only [f_X0_put, bnd_eq, if_neg h1, if_neg h2, in_nI (show k < 100 by omega) (by decide), if_true, nI_clamp (show k < 2 ^ 31 by omega)]
theorem cell97 : f_X0_cell j m 97 = some (m.1 j 97, m) := cell_v (k := 97) (by decide)
theorem cell99 : f_X0_cell j m 99 = some (m.1 j 99, m) := cell_v (k := 99) (by decide)
theorem cell92 : f_X0_cell j m 92 = some (m.1 j 92, m) := cell_v (k := 92) (by decide)
theorem cell94 : f_X0_cell j m 94 = some (m.1 j 94, m) := cell_v (k := 94) (by decide)
theorem put99 {x : Int32} : f_X0_put j m 99 x = some (wr m j 99 x) := put_v (k := 99) (by decide)
def rt (f : Nat → Int32) (c : Nat) : Int32 := kd f c 1 &&& (kd f c 2 ^^^ (-1))
theorem rightOf_v (hc : c < 8) : f_X0_rightOf j m (nI c) = some (rt (m.1 j) c, m) := by
  simp only [f_X0_rightOf, kid1 hc, kid2 hc, cal_eq]; rfl
/-- bit t of x is 0 -/
abbrev b0 (x : Int32) (t : Nat) : Prop := ((x >>> (nI t &&& 31)) &&& 1) = 0
end
