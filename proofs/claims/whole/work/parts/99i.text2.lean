/-! a county's text becomes the county -/
section
variable {nl B B' : Nat} {ln : Nat → Nat} {m m1 m2 m' mc mm mc0 mm0 : Sg} {j w u : Nat} {a a1 a2 a3 a4 r x c s v : Int32} {L p q k i n off b N t t1 t2 t3 cnt base nc ne e ru lo hi : Nat} {tx : Nat → Int32} {z : Bool} {F F' R S U R' S' U' g f : Nat → Int32}
def mTail (m6 : Sg) : Option (Int32 × Sg) := bnd (m6.1 27 6) (fun x8 => bnd (wr m6 27 6 0) (fun m9 => 
  bnd (wr m9 27 24 (m9.1 27 26)) (fun m10 => bnd (wr m10 27 25 (m10.1 27 27)) (fun m11 => lpk (f_X11_text_L133) (m11, 0) (fun m14 => lpk (f_X11_text_L159) (m14, 0) (fun m21 => lpk (f_X11_text_L185) (m21, 0) (fun m28 => lpk (f_X11_text_L210) (m28, 0) (fun m35 => lpk (f_X11_text_L232) (m35, 0) (fun m42 => lpk (f_X11_text_L350) (m42, 0) (fun m55 => bnd (wr m55 38 61 (-1)) (fun m60 => bnd (wr m60 27 39 0) (fun m61 => bnd (wr m61 27 45 0) (fun m62 => some (m62.1 27 24, m62))))))))))))))
def gCell (g R S : Nat → Int32) (nc ne : Nat) : Prop := (∀ c, c < nc → kidM g R c) ∧ (∀ e, e < ne → g (56 + e) = (1 <<< (S (3 * e + 2) &&& 31)) - 1) ∧ g 61 = -1 ∧ ∀ k, k < 244 → k ≠ 61 → (∀ c, c < nc → k < 7 * c ∨ 7 * c + 4 ≤ k) → (k < 56 ∨ 56 + ne ≤ k) → g k = 0
theorem mTail_v (h26 : mm.1 27 26 = nI nc) (h27 : mm.1 27 27 = nI ne) (hn8 : nc ≤ 8) (hn4 : ne ≤ 4) : ∃ mF, mTail mm = some (nI nc, mF) ∧ mF.1 27 24 = nI nc ∧ mF.1 27 25 = nI ne ∧ mF.1 27 6 = 0 ∧ mF.1 27 39 = 0 ∧ mF.1 27 45 = 0 ∧ (∀ j, j < 48 → mF.1 32 j = mm.1 33 j) ∧ (∀ j, j < 12 → mF.1 34 j = mm.1 35 j) ∧ (∀ j, j < 3 → mF.1 36 j = mm.1 37 j) ∧ gCell (mF.1 38) (mm.1 33) (mm.1 35) nc ne ∧ (∀ k, k ≠ 6 → k ≠ 24 → k ≠ 25 → k ≠ 39 → k ≠ 45 → mF.1 27 k = mm.1 27 k) ∧ (∀ p, p ≠ 27 → p ≠ 32 → p ≠ 34 → p ≠ 36 → p ≠ 38 → mF.1 p = mm.1 p) := by
  let m11 := wr (wr (wr mm 27 6 0) 27 24 (nI nc)) 27 25 (nI ne)
  obtain ⟨m14, a1, a2, a3⟩ := l133_v (m := m11)
  obtain ⟨m21, b1, b2, b3⟩ := l159_v (m := m14)
  obtain ⟨m28, c1, c2, c3⟩ := l185_v (m := m21)
  obtain ⟨m35, d1, d2, d3⟩ := l210_v (m := m28)
  have r27 : m35.1 27 = m11.1 27 := by
    have e1 : m35.1 27 = m28.1 27 := funext fun k => d2.1 27 k rfl
    have e2 : m28.1 27 = m21.1 27 := funext fun k => c2.1 27 k rfl
    have e3 : m21.1 27 = m14.1 27 := funext fun k => b2.1 27 k rfl
    have e4 : m14.1 27 = m11.1 27 := funext fun k => a2.1 27 k rfl
    rw [e1, e2, e3, e4]
  have k24 : m35.1 27 24 = nI nc := by rw [r27]; show (wr (wr (wr mm 27 6 0) 27 24 (nI nc)) 27 25 (nI ne)).1 27 24 = _; rw [wr_at, pk_un (by decide), wr_at, pk_us]
  have k25 : m35.1 27 25 = nI ne := by rw [r27]; show (wr (wr (wr mm 27 6 0) 27 24 (nI nc)) 27 25 (nI ne)).1 27 25 = _; rw [wr_at, pk_us]
  obtain ⟨m42, e1, e2, e3, e4⟩ := l232_v hn8 k24
  have k25' : m42.1 27 25 = nI ne := by rw [e2.1 27 25 rfl]; exact k25
  obtain ⟨m55, f1, f2, f3, f4⟩ := l350_v hn4 k25'
  let mF := wr (wr (wr m55 38 61 (-1)) 27 39 0) 27 45 0
  have q27 : m55.1 27 = m11.1 27 := by
    have z1 : m55.1 27 = m42.1 27 := funext fun k => f2.1 27 k rfl
    have z2 : m42.1 27 = m35.1 27 := funext fun k => e2.1 27 k rfl
    rw [z1, z2, r27]
  have F27 : ∀ k, mF.1 27 k = upd (upd (m11.1 27) 39 0) 45 0 k := fun k => by
    show (wr (wr (wr m55 38 61 (-1)) 27 39 0) 27 45 0).1 27 k = _
    rw [wr_at, wr_at, wr_ne (by decide), q27]
  have G27 : ∀ k, m11.1 27 k = upd (upd (upd (mm.1 27) 6 0) 24 (nI nc)) 25 (nI ne) k := fun k => by
    show (wr (wr (wr mm 27 6 0) 27 24 (nI nc)) 27 25 (nI ne)).1 27 k = _
    rw [wr_at, wr_at, wr_at]
  have Fp : ∀ p, p ≠ 27 → p ≠ 38 → mF.1 p = m55.1 p := fun p h1 h2 => by
    show (wr (wr (wr m55 38 61 (-1)) 27 39 0) 27 45 0).1 p = _
    rw [wr_ne h1, wr_ne h1, wr_ne h2]
  have Gp : ∀ p, p ≠ 27 → m11.1 p = mm.1 p := fun p h1 => by
    show (wr (wr (wr mm 27 6 0) 27 24 (nI nc)) 27 25 (nI ne)).1 p = _
    rw [wr_ne h1, wr_ne h1, wr_ne h1]
  have s38 : ∀ w p, p ≠ w → ∀ k, sP w p k = false := fun w p h k => by unfold sP; simp [h]
  have up35 : ∀ p, p ≠ 38 → m55.1 p = m35.1 p := fun p h => by
    have z1 : m55.1 p = m42.1 p := funext fun k => f2.1 p k (s38 _ _ h k)
    have z2 : m42.1 p = m35.1 p := funext fun k => e2.1 p k (s38 _ _ h k)
    rw [z1, z2]
  have F38 : mF.1 38 = upd (m55.1 38) 61 (-1) := by
    show (wr (wr (wr m55 38 61 (-1)) 27 39 0) 27 45 0).1 38 = _
    rw [wr_ne (by decide), wr_ne (by decide), wr_at]
  have p32 : ∀ j, j < 48 → m35.1 32 j = mm.1 33 j := fun j hj => by
    rw [d2.1 32 j rfl, c2.1 32 j rfl, b2.1 32 j rfl, a3 j hj, Gp 33 (by decide)]
  have p34 : ∀ j, j < 12 → m35.1 34 j = mm.1 35 j := fun j hj => by
    rw [d2.1 34 j rfl, c2.1 34 j rfl, b3 j hj, a2.1 35 j rfl, Gp 35 (by decide)]
  have p36 : ∀ j, j < 3 → m35.1 36 j = mm.1 37 j := fun j hj => by
    rw [d2.1 36 j rfl, c3 j hj, b2.1 37 j rfl, a2.1 37 j rfl, Gp 37 (by decide)]
  refine ⟨mF, ?_, ?_, ?_, ?_, ?_, ?_, fun j hj => ?_, fun j hj => ?_, fun j hj => ?_, ⟨fun c hc => ?_, fun e he => ?_, ?_, fun k hk h61 h1 h2 => ?_⟩, fun k n6 n24 n25 n39 n45 => ?_, fun p h1 h2 h3 h4 h5 => ?_⟩
  · unfold mTail
    simp only [bnd_eq]
    have u1 : (wr mm 27 6 0).1 27 26 = nI nc := by rw [wr_at, pk_un (by decide)]; exact h26
    rw [u1]
    have u2 : (wr (wr mm 27 6 0) 27 24 (nI nc)).1 27 27 = nI ne := by rw [wr_at, pk_un (by decide), wr_at, pk_un (by decide)]; exact h27
    rw [u2, lpk_of a1, lpk_of b1, lpk_of c1, lpk_of d1, lpk_of e1, lpk_of f1]
    have u3 : mF.1 27 24 = nI nc := by rw [F27, pk_un (by decide), pk_un (by decide), G27, pk_un (by decide), pk_us]
    show some (mF.1 27 24, mF) = _
    rw [u3]
  · rw [F27, pk_un (by decide), pk_un (by decide), G27, pk_un (by decide), pk_us]
  · rw [F27, pk_un (by decide), pk_un (by decide), G27, pk_us]
  · rw [F27, pk_un (by decide), pk_un (by decide), G27, pk_un (by decide), pk_un (by decide), pk_us]
  · rw [F27, pk_un (by decide), pk_us]
  · rw [F27, pk_us]
  · rw [Fp 32 (by decide) (by decide), up35 32 (by decide)]; exact p32 j hj
  · rw [Fp 34 (by decide) (by decide), up35 34 (by decide)]; exact p34 j hj
  · rw [Fp 36 (by decide) (by decide), up35 36 (by decide)]; exact p36 j hj
  · obtain ⟨y1, y2, y3, y4⟩ := e3 c hc
    rw [F38]
    refine ⟨?_, ?_, ?_, ?_⟩
    · rw [pk_un (by omega), f4 _ (by omega), y1, p32 _ (by omega)]
    · rw [pk_un (by omega), f4 _ (by omega), y2, p32 _ (by omega)]
    · rw [pk_un (by omega), f4 _ (by omega), y3, p32 _ (by omega)]
    · rw [pk_un (by omega), f4 _ (by omega), y4]
  · rw [F38, pk_un (by omega), f3 e he]
    have : m42.1 34 = m35.1 34 := funext fun k => e2.1 34 k rfl
    rw [this, p34 _ (by omega)]
  · rw [F38, pk_us]
  · rw [F38, pk_un h61, f4 k h2, e4 k h1, d3 k hk]
  · rw [F27, pk_un n45, pk_un n39, G27, pk_un n25, pk_un n24, pk_un n6]
  · have z1 : m35.1 p = m28.1 p := funext fun k => d2.1 p k (s38 _ _ h5 k)
    have z2 : m28.1 p = m21.1 p := funext fun k => c2.1 p k (s38 _ _ h4 k)
    have z3 : m21.1 p = m14.1 p := funext fun k => b2.1 p k (s38 _ _ h3 k)
    have z4 : m14.1 p = m11.1 p := funext fun k => a2.1 p k (s38 _ _ h2 k)
    rw [Fp p h1 h5, up35 p h5, z1, z2, z3, z4, Gp p h1]
end
