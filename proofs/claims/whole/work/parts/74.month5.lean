/-! a month: fevers; both sides whole -/
section
variable {nl B B' : Nat} {ln : Nat → Nat} {V : Nat → (Nat → Int32) → Int32} {m m1 m2 m' : Sg} {j w u : Nat} {a a1 a2 a3 r s law x mo y tr fv : Int32} {f f' g g' lg lg' : Nat → Int32} {nc ne c e t M M' A nx n : Nat} {X : Int64}
theorem front_v (hw : w = 38 ∨ w = 39) (hv : CV (m.1 w) f) (hs : SV m f nc ne) (hf : WF f nc ne B) (hp : ∀ c, c < nc → ¬ nI c = m.1 27 34) : ∃ g3, f_X11_goMonth w m a1 = lpk (f_X11_goMonth_L123 w a1) (wrr m w g3, 0) (fun m30 => gmB w m30) ∧ CV g3 (bmo f nc ne) ∧ (∀ k, 61 ≤ k → g3 k = m.1 w k) ∧ ∀ c, c < 8 → g3 (7 * c + 6) = m.1 w (7 * c + 6) := by
  have w27 : w ≠ 27 := by omega
  have w34 : w ≠ 34 := by omega
  have hn8 := hf.1.2
  have hn4 := hf.2.1
  have e60 : m.1 w 60 = f 97 := hv.2.2.1
  have hC := hs.2.2.2.2.2.1
  have hE := hs.2.2.2.2.2.2
  let g0 : Nat → Int32 := upd (m.1 w) 60 (f 97 + 1)
  have k0 : ∀ k, k ≠ 60 → g0 k = m.1 w k := fun k hk => pk_un hk
  obtain ⟨m1, x1, g1, rfl, a1', b1⟩ := L10_v (m := wrr m w g0) (w := w) (nc := nc) (by rw [wrr_ne w27.symm]; exact hC) hn8 w27
  rw [wrr_wrr, wrr_at] at *
  obtain ⟨m2, x2, g2, rfl, a2', b2⟩ := L38_v (m := wrr m w g1) (w := w) (ne := ne) (f := f) (mo := f 97 + 1) (by rw [wrr_ne w27.symm]; exact hE) hn4 w27 w34 (fun e he => by rw [wrr_ne w34.symm]; exact (hs.2.1 e he).2) (by rw [wrr_at, b1 60 (by omega)]; exact pk_us) (fun e he => by
    rw [wrr_at, b1 _ (by omega), k0 _ (by omega)]
    exact ⟨hv.2.1 e (by omega), (hf.2.2.2.2.2.1 e he).2⟩)
  rw [wrr_wrr, wrr_at] at *
  have g2k : ∀ k, k < 56 → k % 7 ≠ 0 → g2 k = m.1 w k := fun k h1 h2 => by rw [b2 k (by omega), b1 k (by omega), k0 k (by omega)]
  obtain ⟨m3, x3, g3, rfl, a3', b3⟩ := L101_v (m := m) (w := w) (nc := nc) (Y := fun _ => m.1 27 35) (T := lnT f) (g0 := g2) hC hn8 w27 (fun i hi g hg => by
    have hi8 : i < 8 := by omega
    have gg : ∀ v, 1 ≤ v → v ≤ 4 → (stq m w g (m.1 27 35)).1 w (7 * i + v) = m.1 w (7 * i + v) := fun v v1 v4 => by rw [stq_w w27, hg v v1 v4, g2k _ (by omega) (by omega)]
    obtain ⟨q1, q2, q3, q4, q5, q6⟩ := hv.1 i hi8
    obtain ⟨g', p1, p2, p3⟩ := learns_v (m := stq m w g (m.1 27 35)) (w := w) (c := i) (f := f) w27 hi8 (by rw [stq_27 w27 (by decide)]; exact hp i hi) (by rw [gg 1 (by decide) (by decide)]; exact q2) (by rw [gg 2 (by decide) (by decide)]; exact q3) (by rw [gg 3 (by decide) (by decide)]; exact q4) (by rw [gg 4 (by decide) (by decide)]; exact q5) (hf.2.2.2.2.1 i hi).2.2.2.2.2.2.1
    exact ⟨g', by rw [p1, stq_wrr w27], p2, fun k hk => by rw [p3 k hk, stq_w w27]⟩)
  simp only [← wrr_stq w27] at *
  refine ⟨g3, ?_, ?_, ?_, ?_⟩
  · rw [goMonth_eq, e60, show wr m w 60 (f 97 + 1) = wrr m w g0 from rfl, lpk_of x1, lpk_of x2, lpk_of x3]
  · refine ⟨fun c hc => ?_, fun e he => ?_, ?_, ?_⟩
    · have bk : ∀ w, w < 10 → kd (bmo f nc ne) c w = if c < nc then bmV f c w else kd f c w := fun w hw => bmo_kd hn8 hn4 hc hw
      obtain ⟨q1, q2, q3, q4, q5, q6⟩ := hv.1 c hc
      rw [bk 0 (by decide), bk 1 (by decide), bk 2 (by decide), bk 6 (by decide), bk 7 (by decide), bk 8 (by decide)]
      rw [a3' c hc 1 (by decide) (by decide), a3' c hc 2 (by decide) (by decide), a3' c hc 3 (by decide) (by decide), a3' c hc 4 (by decide) (by decide), g2k _ (by omega) (by omega), g2k _ (by omega) (by omega), g2k _ (by omega) (by omega), g2k _ (by omega) (by omega), b3 (7 * c + 5) (by omega), g2k _ (by omega) (by omega), b3 (7 * c + 0) (by omega), b2 (7 * c + 0) (by omega)]
      have z0 : g1 (7 * c + 0) = if c < nc then kd f c 0 + 1 else kd f c 0 := by
        have := a1' c hc
        rw [k0 _ (by omega)] at this
        rw [show 7 * c + 0 = 7 * c from rfl, this, ← q1]; rfl
      rw [z0, q2, q3, q4, q5, q6]
      by_cases z : c < nc
      · simp only [if_pos z]; exact ⟨rfl, rfl, rfl, rfl, rfl, rfl⟩
      · simp only [if_neg z]; exact ⟨trivial, trivial, trivial, trivial, trivial, trivial⟩
    · rw [bmo_od hn8 hn4 he, b3 _ (by omega), a2' e he, b1 _ (by omega), k0 _ (by omega), hv.2.1 e he]
    · rw [bmo_97 hn8 hn4, b3 _ (by omega), b2 _ (by omega), b1 _ (by omega)]; exact pk_us
    · rw [bmo_hi hn8 hn4 (by decide) (fun q _ => by omega) (by decide), b3 _ (by omega), b2 _ (by omega), b1 _ (by omega), k0 _ (by omega), hv.2.2.2]
  · intro k hk
    rw [b3 _ (by omega), b2 _ (by omega), b1 _ (by omega), k0 _ (by omega)]
  · intro c hc
    rw [b3 _ (by omega), g2k _ (by omega) (by omega)]
theorem L123_0 (hC : m.1 27 24 = nI nc) (hn : nc ≤ 8) {K : Sg → Option Sg} : lpk (f_X11_goMonth_L123 w 0) (m, 0) K = K m := by
  rw [show (m, (0 : Int32)) = (fun i => (m, nI i)) 0 from rfl, lpk_seq (S := fun i => (m, nI i)) (x := m) nc ?_ ?_ (by omega)]
  · intro i hi
    simp only [f_X11_goMonth_L123, hC, if_neg (ix_lt hi (show nc < 2 ^ 31 by omega)), bnd_eq, ↓reduceIte, nI_1]
  · simp only [f_X11_goMonth_L123, hC, if_pos (nI_le (Nat.le_refl nc) (show nc < 2 ^ 31 by omega))]
/-- draws: how the number goes on, what is drawn -/
def fvS (N : Int64 → Int64) (D : Int64 → Int32) (fv : Int32) (c : Nat) (p : (Nat → Int32) × Int64) : (Nat → Int32) × Int64 := (if fv ≤ D (N p.2) then p.1 else upd p.1 (10 * c + 1) (kd p.1 c 1 &&& (-129)), N p.2)
def fvR (N : Int64 → Int64) (D : Int64 → Int32) (a fv : Int32) (f : Nat → Int32) (x : Int64) (nc : Nat) : (Nat → Int32) × Int64 := if a = 0 then (f, x) else itr (fvS N D fv) (f, x) nc
def DrM (N : Int64 → Int64) (D : Int64 → Int32) : Prop := ∀ m : Sg, f_X11_draw m 100 = some (D (N (m.2 27)), wrl m 27 (N (m.2 27)))
def DrC (N : Int64 → Int64) (D : Int64 → Int32) : Prop := ∀ m : Sg, f_X10_draw m 100 = some (D (N (m.2 0)), wrl m 0 (N (m.2 0)))
theorem wrl_1 {p : Nat} {x : Int64} : (wrl m p x).1 = m.1 := rfl
theorem wrl_2 {p : Nat} {x : Int64} : (wrl m p x).2 p = x := by simp [wrl, va_up]
theorem wrl_wrl {p : Nat} {x y : Int64} : wrl (wrl m p x) p y = wrl m p y := by
  unfold wrl
  congr 1
  funext q
  simp only [va_up]
  split <;> rfl
theorem wrl_id {p : Nat} : wrl m p (m.2 p) = m := by
  unfold wrl
  have : va_up m.2 p (m.2 p) = m.2 := by
    funext q
    simp only [va_up]
    split
    · next h => rw [h]
    · rfl
  rw [this]
theorem dr_both : ∃ N D, DrM N D ∧ DrC N D := by
  refine ⟨fun x => x * 6364136223846793005 + 1442695040888963407, fun x => ((((x : Int64).toUInt64 >>> ((33 : Int32).toInt64.toUInt64 &&& Int64.toUInt64 63)).toInt64) - (((x : Int64).toUInt64 >>> ((33 : Int32).toInt64.toUInt64 &&& Int64.toUInt64 63)).toInt64) / ((100 : Int32).toInt64) * ((100 : Int32).toInt64) : Int64).toInt32, fun m => ?_, fun m => ?_⟩
  · unfold f_X11_draw
    rw [bnd_eq, show (!(decide ((100 : Int32).toInt64 = 0))) = true from by decide, if_pos rfl, wrl_2]
  · unfold f_X10_draw
    rw [bnd_eq, if_neg (show ¬ (100 : Int32) ≤ 0 by decide), show (!(decide ((100 : Int32).toInt64 = 0))) = true from by decide, if_pos rfl, wrl_2]
variable {N : Int64 → Int64} {D : Int64 → Int32}
theorem fvS_o {k : Nat} {p : (Nat → Int32) × Int64} (h : k ≠ 10 * c + 1) : (fvS N D fv c p).1 k = p.1 k := by
  unfold fvS
  split
  · rfl
  · exact pk_un h
theorem fvs_o {k : Nat} (h : 80 ≤ k ∨ k % 10 ≠ 1) : ∀ n, n ≤ 8 → (itr (fvS N D fv) (f, X) n).1 k = f k
  | 0, _ => rfl
  | n + 1, hn => by rw [itr, fvS_o (by omega), fvs_o h n (by omega)]
theorem fvR_o {k : Nat} (h : 80 ≤ k ∨ k % 10 ≠ 1) (hn : n ≤ 8) : (fvR N D a fv f X n).1 k = f k := by
  unfold fvR
  split
  · rfl
  · exact fvs_o h n hn
theorem fvs_1 : ∀ n, n ≤ 8 → ∀ c, c < 8 → (itr (fvS N D fv) (f, X) n).1 (10 * c + 1) = f (10 * c + 1) ∨ (itr (fvS N D fv) (f, X) n).1 (10 * c + 1) = f (10 * c + 1) &&& (-129)
  | 0, _, c, _ => Or.inl rfl
  | n + 1, hn, c, hc => by
    rw [itr]
    by_cases q : c = n
    · subst q
      have e : (itr (fvS N D fv) (f, X) c).1 (10 * c + 1) = f (10 * c + 1) := by
        have : ∀ k, k ≤ c → (itr (fvS N D fv) (f, X) k).1 (10 * c + 1) = f (10 * c + 1) := by
          intro k
          induction k with
          | zero => intro _; rfl
          | succ k ih => intro hk; rw [itr, fvS_o (by omega), ih (by omega)]
        exact this c (Nat.le_refl c)
      generalize itr (fvS N D fv) (f, X) c = p at *
      unfold fvS
      split
      · exact Or.inl e
      · right
        show upd _ _ _ _ = _
        rw [pk_us]
        unfold kd
        rw [e]
    · rw [fvS_o (by omega)]
      exact fvs_1 n (by omega) c hc
theorem fvR_1 (hn : n ≤ 8) (hc : c < 8) : (fvR N D a fv f X n).1 (10 * c + 1) = f (10 * c + 1) ∨ (fvR N D a fv f X n).1 (10 * c + 1) = f (10 * c + 1) &&& (-129) := by
  unfold fvR
  split
  · exact Or.inl rfl
  · exact fvs_1 n hn c hc
theorem WF_fvR (hf : WF f nc ne B) : WF (fvR N D a fv f X nc).1 nc ne B := by
  obtain ⟨h1, h2, h3, h4, h5, h6, h7, h8, h9, h10, h11⟩ := hf
  have hn8 := h1.2
  have o : ∀ k, 80 ≤ k ∨ k % 10 ≠ 1 → (fvR N D a fv f X nc).1 k = f k := fun k hk => fvR_o hk hn8
  have kw : ∀ c w, w < 10 → w ≠ 1 → kd (fvR N D a fv f X nc).1 c w = kd f c w := fun c w hw h1 => o _ (by omega)
  refine ⟨h1, h2, ?_, ?_, ?_, ?_, ?_, ?_, ?_, ?_, ?_⟩
  · rw [o 95 (by omega)]; exact h3
  · rw [o 96 (by omega)]; exact h4
  · intro c hc
    obtain ⟨d0, ⟨b0, b1, b2⟩, d2, d3, d4, d5, d6, d8⟩ := h5 c hc
    unfold wfC
    rw [kw c 0 (by decide) (by decide), kw c 2 (by decide) (by decide), kw c 3 (by decide) (by decide), kw c 4 (by decide) (by decide), kw c 5 (by decide) (by decide), kw c 6 (by decide) (by decide), kw c 7 (by decide) (by decide), kw c 8 (by decide) (by decide)]
    refine ⟨d0, ?_, d2, d3, d4, d5, d6, d8⟩
    rcases fvR_1 (N := N) (D := D) (a := a) (fv := fv) (f := f) (X := X) hn8 (show c < 8 by omega) with h | h
    · exact ⟨b0, b1, h.trans b2⟩
    · obtain ⟨n, n1, n2⟩ := and_lt (a := b0) (-129) b1
      exact ⟨n, n1, by rw [← n2, ← b2]; exact h⟩
  · intro e he
    obtain ⟨p1, p2⟩ := h6 e he
    have o1 : od (fvR N D a fv f X nc).1 e 1 = od f e 1 := o _ (by omega)
    have o2 : od (fvR N D a fv f X nc).1 e 2 = od f e 2 := o _ (by omega)
    unfold wfE
    rw [o1, o2]; exact ⟨p1, p2⟩
  · rw [o 92 (by omega)]; exact h7
  · rw [o 93 (by omega)]; exact h8
  · rw [o 94 (by omega)]; exact h9
  · rw [o 97 (by omega)]; exact h10
  · rw [o 98 (by omega)]; exact h11
theorem StE_fvR (hn : nc ≤ 8) : StE f (fvR N D a fv f X nc).1 := by
  intro k hk
  refine fvR_o ?_ hn
  unfold stc at hk
  simp at hk
  omega
theorem itr_s {α : Type} {F : Nat → α → α} {a : α} {n : Nat} : itr F a (n + 1) = F n (itr F a n) := rfl
theorem itr_z {α : Type} {F : Nat → α → α} {a : α} : itr F a 0 = a := rfl
theorem wr_wrl {p k : Nat} {x : Int32} {q : Nat} {y : Int64} : wr (wrl m q y) p k x = wrl (wr m p k x) q y := rfl
theorem L123_s (hD : DrM N D) (w27 : w ≠ 27) (hC : m.1 27 24 = nI nc) (hn : nc ≤ 8) (hf : m.1 27 32 = fv) (hi : n < nc) : f_X11_goMonth_L123 w 1 (wrl (wrr m w g) 27 X, nI n) = some (.inr (wrl (wrr m w (if fv ≤ D (N X) then g else upd g (7 * n + 1) (g (7 * n + 1) &&& (-129)))) 27 (N X), nI (n + 1))) := by
  have hi8 : n < 8 := by omega
  simp only [f_X11_goMonth_L123, wrl_1, wrr_ne w27.symm, hC, if_neg (ix_lt hi (show nc < 2 ^ 31 by omega)), bnd_eq, n10, ↓reduceIte, hD (wrl (wrr m w g) 27 X), wrl_2, wrl_wrl, cal_eq, hf, nI_1, i7_1 hi8, t7_1 hi8, wrr_at, wr_wrl, wr_wr]
  split
  · rfl
  · rfl
theorem CV_fv (hv : CV g f) (hc : c < 8) : CV (upd g (7 * c + 1) (g (7 * c + 1) &&& (-129))) (upd f (10 * c + 1) (kd f c 1 &&& (-129))) := by
  refine ⟨fun d hd => ?_, fun e he => ?_, ?_, ?_⟩
  · obtain ⟨q1, q2, q3, q4, q5, q6⟩ := hv.1 d hd
    have k : ∀ w, w < 10 → w ≠ 1 → kd (upd f (10 * c + 1) (kd f c 1 &&& (-129))) d w = kd f d w := fun w hw h1 => pk_un (by omega)
    rw [k 0 (by decide) (by decide), k 2 (by decide) (by decide), k 6 (by decide) (by decide), k 7 (by decide) (by decide), k 8 (by decide) (by decide)]
    refine ⟨by rw [pk_un (by omega)]; exact q1, ?_, by rw [pk_un (by omega)]; exact q3, by rw [pk_un (by omega)]; exact q4, by rw [pk_un (by omega)]; exact q5, by rw [pk_un (by omega)]; exact q6⟩
    by_cases z : d = c
    · subst z
      rw [pk_us, q2]
      exact pk_us.symm
    · have k1 : kd (upd f (10 * c + 1) (kd f c 1 &&& (-129))) d 1 = kd f d 1 := pk_un (by omega)
      rw [pk_un (by omega), q2, k1]
  · have o : od (upd f (10 * c + 1) (kd f c 1 &&& (-129))) e 2 = od f e 2 := pk_un (by omega)
    rw [o, pk_un (by omega)]; exact hv.2.1 e he
  · rw [pk_un (by omega), pk_un (by omega)]; exact hv.2.2.1
  · rw [pk_un (by omega), pk_un (by omega)]; exact hv.2.2.2
theorem L123_1 (hD : DrM N D) (hw : w = 38 ∨ w = 39) (hv : CV (m.1 w) f) (hC : m.1 27 24 = nI nc) (hn : nc ≤ 8) (hf : m.1 27 32 = fv) : ∃ m', lpO (f_X11_goMonth_L123 w 1) fu (m, 0) = some m' ∧ ∃ g', m' = wrl (wrr m w g') 27 (itr (fvS N D fv) (f, m.2 27) nc).2 ∧ CV g' (itr (fvS N D fv) (f, m.2 27) nc).1 ∧ ∀ k, 56 ≤ k ∨ k % 7 ≠ 1 → g' k = m.1 w k := by
  have w27 : w ≠ 27 := by omega
  refine lpO_inv (fun i s => ∃ g', s = (wrl (wrr m w g') 27 (itr (fvS N D fv) (f, m.2 27) i).2, nI i) ∧ CV g' (itr (fvS N D fv) (f, m.2 27) i).1 ∧ ∀ k, 56 ≤ k ∨ k % 7 ≠ 1 → g' k = m.1 w k) _ nc (m, 0) ?_ ?_ ?_ (by omega)
  · refine ⟨m.1 w, ?_, hv, fun _ _ => rfl⟩
    rw [wrr_id, itr_z]
    show (m, _) = (wrl m 27 (m.2 27), _)
    rw [wrl_id]; rfl
  · rintro i s hi ⟨g', rfl, h1, h2⟩
    have hi8 : i < 8 := by omega
    rw [itr_s]
    generalize itr (fvS N D fv) (f, m.2 27) i = p at *
    refine ⟨_, L123_s hD w27 hC hn hf hi, _, rfl, ?_, ?_⟩
    · unfold fvS
      dsimp only
      split
      · exact h1
      · exact CV_fv h1 hi8
    · intro k hk
      split
      · exact h2 k hk
      · rw [pk_un (by omega)]; exact h2 k hk
  · rintro s ⟨g', rfl, h1, h2⟩
    refine ⟨_, ?_, g', rfl, h1, h2⟩
    simp only [f_X11_goMonth_L123, wrl_1, wrr_ne w27.symm, hC, if_pos (nI_le (Nat.le_refl nc) (show nc < 2 ^ 31 by omega))]
end
