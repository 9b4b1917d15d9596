/-! texts of counties: children, elders, rule -/
section
variable {nl B B' : Nat} {ln : Nat → Nat} {m m1 m2 m' mc mm mc0 mm0 : Sg} {j w u : Nat} {a a1 a2 a3 a4 r x c lo hi s : Int32} {L p q k i n off b N t t1 t2 t3 cnt base nc ne e : Nat} {tx : Nat → Int32} {z : Bool} {F F' R S U R' S' U' g : Nat → Int32}
def kidOK (F R : Nat → Int32) (c : Nat) : Prop := F (10 * c + 0) = R (6 * c + 0) ∧ F (10 * c + 1) = (1 <<< (R (6 * c + 1) &&& 31)) - 1 ∧ F (10 * c + 2) = (if 9 ≤ R (6 * c + 2) then (0 : Int32) else 1 <<< (R (6 * c + 2) &&& 31)) ∧ F (10 * c + 3) = R (6 * c + 3) ∧ F (10 * c + 4) = R (6 * c + 4) ∧ F (10 * c + 5) = R (6 * c + 5) ∧ F (10 * c + 6) = -1 ∧ F (10 * c + 7) = 0 ∧ F (10 * c + 8) = 0 ∧ F (10 * c + 9) = 0 ∧ ∀ i, i < 6 → ¬ R (6 * c + i) < tab 0 i ∧ ¬ tab 1 i < R (6 * c + i)
def oldOK (F R : Nat → Int32) (e : Nat) : Prop := F (80 + 3 * e + 0) = R (3 * e + 0) ∧ F (80 + 3 * e + 1) = R (3 * e + 1) ∧ F (80 + 3 * e + 2) = (1 <<< (R (3 * e + 2) &&& 31)) - 1 ∧ ∀ i, i < 3 → ¬ R (3 * e + i) < tab 3 i ∧ ¬ tab 4 i < R (3 * e + i)
def rulOK (F R : Nat → Int32) : Prop := F 92 = R 0 ∧ F 93 = R 1 ∧ F 94 = R 2 ∧ ∀ i, i < 3 → ¬ R i < tab 6 i ∧ ¬ tab 7 i < R i
def KR (F R S U : Nat → Int32) (nc ne : Nat) : Prop := nc ≤ 8 ∧ ne ≤ 4 ∧ F 95 = nI nc ∧ F 96 = nI ne ∧ F 97 = 0 ∧ F 98 = -1 ∧ F 99 = 0 ∧ (∀ c, c < nc → kidOK F R c) ∧ (∀ c, nc ≤ c → c < 8 → ∀ i, i < 10 → F (10 * c + i) = 0) ∧ (∀ e, e < ne → oldOK F S e) ∧ (∀ e, ne ≤ e → e < 4 → ∀ i, i < 3 → F (80 + 3 * e + i) = 0) ∧ rulOK F U
theorem kid_mv (h : kidOK F R k) (h1 : ∀ i, i < 10 → F' (10 * k + i) = F (10 * k + i)) (h2 : ∀ i, i < 6 → R' (6 * k + i) = R (6 * k + i)) : kidOK F' R' k := by
  obtain ⟨a0, b1, b2, b3, b4, b5, b6, b7, b8, b9, b10⟩ := h
  unfold kidOK
  rw [h1 0 (by decide), h1 1 (by decide), h1 2 (by decide), h1 3 (by decide), h1 4 (by decide), h1 5 (by decide), h1 6 (by decide), h1 7 (by decide), h1 8 (by decide), h1 9 (by decide), h2 0 (by decide), h2 1 (by decide), h2 2 (by decide), h2 3 (by decide), h2 4 (by decide), h2 5 (by decide)]
  exact ⟨a0, b1, b2, b3, b4, b5, b6, b7, b8, b9, fun i hi => by rw [h2 i hi]; exact b10 i hi⟩
theorem old_mv (h : oldOK F R k) (h1 : ∀ i, i < 3 → F' (80 + 3 * k + i) = F (80 + 3 * k + i)) (h2 : ∀ i, i < 3 → R' (3 * k + i) = R (3 * k + i)) : oldOK F' R' k := by
  obtain ⟨a0, b1, b2, b3⟩ := h
  unfold oldOK
  rw [h1 0 (by decide), h1 1 (by decide), h1 2 (by decide), h2 0 (by decide), h2 1 (by decide), h2 2 (by decide)]
  exact ⟨a0, b1, b2, fun i hi => by rw [h2 i hi]; exact b3 i hi⟩
theorem KR_kid (h : KR F R S U nc ne) (hn : nc < 8) (hF : ∀ k, (k < 10 * nc ∨ 10 * nc + 7 ≤ k) → k ≠ 95 → F' k = F k) (h95 : F' 95 = nI (nc + 1)) (h0 : F' (10 * nc + 0) = g 0) (h1 : F' (10 * nc + 1) = (1 <<< (g 1 &&& 31)) - 1) (h2 : F' (10 * nc + 2) = (if 9 ≤ g 2 then (0 : Int32) else 1 <<< (g 2 &&& 31))) (h3 : F' (10 * nc + 3) = g 3) (h4 : F' (10 * nc + 4) = g 4) (h5 : F' (10 * nc + 5) = g 5) (h6 : F' (10 * nc + 6) = -1) (hr : ∀ j, j < 6 * nc ∨ 6 * nc + 6 ≤ j → R' j = R j) (hg : ∀ i, i < 6 → g i = R' (6 * nc + i) ∧ ¬ g i < tab 0 i ∧ ¬ tab 1 i < g i) : KR F' R' S U (nc + 1) ne := by
  obtain ⟨k1, k2, k3, k4, k5, k6, k7, k8, k9, k10, k11, k12⟩ := h
  refine ⟨by omega, k2, h95, by rw [hF 96 (by omega) (by decide)]; exact k4, by rw [hF 97 (by omega) (by decide)]; exact k5, by rw [hF 98 (by omega) (by decide)]; exact k6, by rw [hF 99 (by omega) (by decide)]; exact k7, fun c hc => ?_, fun c hc hc8 i hi => ?_, fun e he => ?_, fun e he he4 i hi => ?_, ?_⟩
  · by_cases y : c = nc
    · subst y
      have z : ∀ i, 7 ≤ i → i < 10 → F' (10 * c + i) = 0 := fun i i1 i2 => by rw [hF _ (by omega) (by omega)]; exact k9 c (Nat.le_refl _) hn i i2
      refine ⟨by rw [h0, (hg 0 (by decide)).1], by rw [h1, (hg 1 (by decide)).1], by rw [h2, (hg 2 (by decide)).1], by rw [h3, (hg 3 (by decide)).1], by rw [h4, (hg 4 (by decide)).1], by rw [h5, (hg 5 (by decide)).1], h6, z 7 (by decide) (by decide), z 8 (by decide) (by decide), z 9 (by decide) (by decide), fun i hi => by rw [← (hg i hi).1]; exact (hg i hi).2⟩
    · exact kid_mv (k8 c (by omega)) (fun i hi => hF _ (by omega) (by omega)) (fun i hi => hr _ (by omega))
  · rw [hF _ (by omega) (by omega)]
    exact k9 c (by omega) hc8 i hi
  · exact old_mv (k10 e he) (fun i hi => hF _ (by omega) (by omega)) (fun _ _ => rfl)
  · rw [hF _ (by omega) (by omega)]
    exact k11 e he he4 i hi
  · exact ⟨by rw [hF _ (by omega) (by decide)]; exact k12.1, by rw [hF _ (by omega) (by decide)]; exact k12.2.1, by rw [hF _ (by omega) (by decide)]; exact k12.2.2.1, k12.2.2.2⟩
theorem KR_old (h : KR F R S U nc ne) (hn : ne < 4) (hF : ∀ k, (k < 80 + 3 * ne ∨ 80 + 3 * ne + 3 ≤ k) → k ≠ 96 → F' k = F k) (h96 : F' 96 = nI (ne + 1)) (h0 : F' (80 + 3 * ne + 0) = g 0) (h1 : F' (80 + 3 * ne + 1) = g 1) (h2 : F' (80 + 3 * ne + 2) = (1 <<< (g 2 &&& 31)) - 1) (hr : ∀ j, j < 3 * ne ∨ 3 * ne + 3 ≤ j → S' j = S j) (hg : ∀ i, i < 3 → g i = S' (3 * ne + i) ∧ ¬ g i < tab 3 i ∧ ¬ tab 4 i < g i) : KR F' R S' U nc (ne + 1) := by
  obtain ⟨k1, k2, k3, k4, k5, k6, k7, k8, k9, k10, k11, k12⟩ := h
  refine ⟨k1, by omega, by rw [hF 95 (by omega) (by decide)]; exact k3, h96, by rw [hF 97 (by omega) (by decide)]; exact k5, by rw [hF 98 (by omega) (by decide)]; exact k6, by rw [hF 99 (by omega) (by decide)]; exact k7, fun c hc => ?_, fun c hc hc8 i hi => ?_, fun e he => ?_, fun e he he4 i hi => ?_, ?_⟩
  · exact kid_mv (k8 c hc) (fun i hi => hF _ (by omega) (by omega)) (fun _ _ => rfl)
  · rw [hF _ (by omega) (by omega)]
    exact k9 c hc hc8 i hi
  · by_cases y : e = ne
    · subst y
      exact ⟨by rw [h0, (hg 0 (by decide)).1], by rw [h1, (hg 1 (by decide)).1], by rw [h2, (hg 2 (by decide)).1], fun i hi => by rw [← (hg i hi).1]; exact (hg i hi).2⟩
    · exact old_mv (k10 e (by omega)) (fun i hi => hF _ (by omega) (by omega)) (fun i hi => hr _ (by omega))
  · rw [hF _ (by omega) (by omega)]
    exact k11 e (by omega) he4 i hi
  · exact ⟨by rw [hF _ (by omega) (by decide)]; exact k12.1, by rw [hF _ (by omega) (by decide)]; exact k12.2.1, by rw [hF _ (by omega) (by decide)]; exact k12.2.2.1, k12.2.2.2⟩
theorem KR_rul (h : KR F R S U nc ne) (hF : ∀ k, (k < 92 ∨ 95 ≤ k) → F' k = F k) (h0 : F' 92 = g 0) (h1 : F' 93 = g 1) (h2 : F' 94 = g 2) (hg : ∀ i, i < 3 → g i = U' (0 + i) ∧ ¬ g i < tab 6 i ∧ ¬ tab 7 i < g i) : KR F' R S U' nc ne := by
  obtain ⟨k1, k2, k3, k4, k5, k6, k7, k8, k9, k10, k11, k12⟩ := h
  refine ⟨k1, k2, by rw [hF 95 (by omega)]; exact k3, by rw [hF 96 (by omega)]; exact k4, by rw [hF 97 (by omega)]; exact k5, by rw [hF 98 (by omega)]; exact k6, by rw [hF 99 (by omega)]; exact k7, fun c hc => ?_, fun c hc hc8 i hi => ?_, fun e he => ?_, fun e he he4 i hi => ?_, ?_⟩
  · exact kid_mv (k8 c hc) (fun i hi => hF _ (by omega)) (fun _ _ => rfl)
  · rw [hF _ (by omega)]; exact k9 c hc hc8 i hi
  · exact old_mv (k10 e he) (fun i hi => hF _ (by omega)) (fun _ _ => rfl)
  · rw [hF _ (by omega)]; exact k11 e he he4 i hi
  · refine ⟨by rw [h0, (hg 0 (by decide)).1], by rw [h1, (hg 1 (by decide)).1], by rw [h2, (hg 2 (by decide)).1], fun i hi => ?_⟩
    have e : U' (0 + i) = U' i := by rw [Nat.zero_add]
    rw [← e, ← (hg i hi).1]
    exact (hg i hi).2
def s6 (a _b : Nat) : Bool := a == 6
theorem addC_v (h : m.1 6 95 = nI nc) (hn : nc < 8) : ∃ m', f_X0_addChild 6 9 6 m = some m' ∧ Fr s6 m m' ∧ (∀ k, (k < 10 * nc ∨ 10 * nc + 7 ≤ k) → k ≠ 95 → m'.1 6 k = m.1 6 k) ∧ m'.1 6 95 = nI (nc + 1) ∧ m'.1 6 (10 * nc + 0) = m.1 9 0 ∧ m'.1 6 (10 * nc + 1) = (1 <<< (m.1 9 1 &&& 31)) - 1 ∧ m'.1 6 (10 * nc + 2) = (if 9 ≤ m.1 9 2 then (0 : Int32) else 1 <<< (m.1 9 2 &&& 31)) ∧ m'.1 6 (10 * nc + 3) = m.1 9 3 ∧ m'.1 6 (10 * nc + 4) = m.1 9 4 ∧ m'.1 6 (10 * nc + 5) = m.1 9 5 ∧ m'.1 6 (10 * nc + 6) = -1 := by
  have w9 : ∀ (q : Sg) k v, (wr q 6 k v).1 9 = q.1 9 := fun q k v => wr_ne (by decide)
  have p0 : ∀ (q : Sg) v, f_X0_putKid 6 q (nI nc) 0 v = some (wr q 6 (10 * nc + 0) v) := fun q v => putKid_v (w := 0) hn (by decide)
  have p1 : ∀ (q : Sg) v, f_X0_putKid 6 q (nI nc) 1 v = some (wr q 6 (10 * nc + 1) v) := fun q v => putKid_v (w := 1) hn (by decide)
  have p2 : ∀ (q : Sg) v, f_X0_putKid 6 q (nI nc) 2 v = some (wr q 6 (10 * nc + 2) v) := fun q v => putKid_v (w := 2) hn (by decide)
  have p3 : ∀ (q : Sg) v, f_X0_putKid 6 q (nI nc) 3 v = some (wr q 6 (10 * nc + 3) v) := fun q v => putKid_v (w := 3) hn (by decide)
  have p4 : ∀ (q : Sg) v, f_X0_putKid 6 q (nI nc) 4 v = some (wr q 6 (10 * nc + 4) v) := fun q v => putKid_v (w := 4) hn (by decide)
  have p5 : ∀ (q : Sg) v, f_X0_putKid 6 q (nI nc) 5 v = some (wr q 6 (10 * nc + 5) v) := fun q v => putKid_v (w := 5) hn (by decide)
  have p6 : ∀ (q : Sg) v, f_X0_putKid 6 q (nI nc) 6 v = some (wr q 6 (10 * nc + 6) v) := fun q v => putKid_v (w := 6) hn (by decide)
  have t0 : (0 : Int32).toNatClampNeg = 0 := rfl
  have t1 : (1 : Int32).toNatClampNeg = 1 := rfl
  have t2 : (2 : Int32).toNatClampNeg = 2 := rfl
  have t3 : (3 : Int32).toNatClampNeg = 3 := rfl
  have t4 : (4 : Int32).toNatClampNeg = 4 := rfl
  have t5 : (5 : Int32).toNatClampNeg = 5 := rfl
  have i0 : inr 0 6 = true ∧ inr 1 6 = true ∧ inr 2 6 = true ∧ inr 3 6 = true ∧ inr 4 6 = true ∧ inr 5 6 = true := by decide
  let g := m.1 9
  let mF := wr (wr (wr (wr (wr (wr (wr (wr m 6 (10 * nc + 0) (g 0)) 6 (10 * nc + 1) ((1 <<< (g 1 &&& 31)) - 1)) 6 (10 * nc + 2) (if 9 ≤ g 2 then (0 : Int32) else 1 <<< (g 2 &&& 31))) 6 (10 * nc + 3) (g 3)) 6 (10 * nc + 4) (g 4)) 6 (10 * nc + 5) (g 5)) 6 (10 * nc + 6) (-1)) 6 95 (nI (nc + 1))
  have ev : f_X0_addChild 6 9 6 m = some mF := by
    simp only [f_X0_addChild, h, bnd_eq, if_neg (show ¬ (8 : Int32) ≤ nI nc from ix_lt (n := 8) hn (by decide)), if_pos (show (6 : Int32) ≤ Int32.ofNat 6 by decide), i0.1, i0.2.1, i0.2.2.1, i0.2.2.2.1, i0.2.2.2.2.1, i0.2.2.2.2.2, ↓reduceIte, p0, p1, p2, p3, p4, p5, p6, calv_eq, cal_eq, f_X0_fromBelow, w9, t0, t1, t2, t3, t4, t5, nI_1]
    by_cases y : 9 ≤ m.1 9 2
    · rw [if_pos y]
      show _ = some (wr (wr (wr (wr (wr (wr (wr (wr m 6 (10 * nc + 0) (m.1 9 0)) 6 (10 * nc + 1) _) 6 (10 * nc + 2) (if 9 ≤ m.1 9 2 then (0 : Int32) else _)) 6 _ _) 6 _ _) 6 _ _) 6 _ _) 6 _ _)
      rw [if_pos y]
    · rw [if_neg y]
      show _ = some (wr (wr (wr (wr (wr (wr (wr (wr m 6 (10 * nc + 0) (m.1 9 0)) 6 (10 * nc + 1) _) 6 (10 * nc + 2) (if 9 ≤ m.1 9 2 then (0 : Int32) else 1 <<< (m.1 9 2 &&& 31))) 6 _ _) 6 _ _) 6 _ _) 6 _ _) 6 _ _)
      rw [if_neg y]
  refine ⟨mF, ev, ((((((Fr.tr (Fr.w1 rfl) (Fr.w1 rfl)).tr (Fr.w1 rfl)).tr (Fr.w1 rfl)).tr (Fr.w1 rfl)).tr (Fr.w1 rfl)).tr (Fr.w1 rfl)).tr (Fr.w1 rfl), fun k hk hk2 => ?_, ?_, ?_, ?_, ?_, ?_, ?_, ?_, ?_⟩
  · show mF.1 6 k = _
    simp only [mF, wr_at]
    rw [pk_un hk2, pk_un (by omega), pk_un (by omega), pk_un (by omega), pk_un (by omega), pk_un (by omega), pk_un (by omega), pk_un (by omega)]
  · simp only [mF, wr_at]; rw [pk_us]
  · simp only [mF, wr_at]; rw [pk_un (by omega), pk_un (by omega), pk_un (by omega), pk_un (by omega), pk_un (by omega), pk_un (by omega), pk_un (by omega), pk_us]
  · simp only [mF, wr_at]; rw [pk_un (by omega), pk_un (by omega), pk_un (by omega), pk_un (by omega), pk_un (by omega), pk_un (by omega), pk_us]
  · simp only [mF, wr_at]; rw [pk_un (by omega), pk_un (by omega), pk_un (by omega), pk_un (by omega), pk_un (by omega), pk_us]
  · simp only [mF, wr_at]; rw [pk_un (by omega), pk_un (by omega), pk_un (by omega), pk_un (by omega), pk_us]
  · simp only [mF, wr_at]; rw [pk_un (by omega), pk_un (by omega), pk_un (by omega), pk_us]
  · simp only [mF, wr_at]; rw [pk_un (by omega), pk_un (by omega), pk_us]
  · simp only [mF, wr_at]; rw [pk_un (by omega), pk_us]
end
