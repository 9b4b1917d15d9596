/-! plan: what others do, and the pupil's row of tens -/
section
variable {nl B B' : Nat} {ln : Nat → Nat} {V : Nat → (Nat → Int32) → Int32} {m m1 m2 m' : Sg} {j w u : Nat} {a a1 a2 a3 a4 r law x mo : Int32} {f f' f0 F G K g g' : Nat → Int32} {nc ne c d e t M n i s l y h L : Nat} {ts : List Nat}
def trK (f : Nat → Int32) (nc ne M : Nat) : Int32 := trW (km f nc ne M) 0 ne
def asK (f : Nat → Int32) (nc ne c M : Nat) : Int32 := if trK f nc ne M = -1 then -1 else bst (ask (km f nc ne M) (trK f nc ne M).toNatClampNeg) (kd f c 5)
def clK (f : Nat → Int32) (nc ne c M : Nat) : Int32 := if trK f nc ne M = -1 then -1 else clM (km f nc ne M) (ask (km f nc ne M) (trK f nc ne M).toNatClampNeg) (nI c) nc
def RtH (f : Nat → Int32) (c : Nat) (ts : List Nat) : Nat → Int32
  | 0 => rt f c
  | h + 1 => RtH f c ts h ||| tn (nI (tA ts h))
def hdN (s L M : Nat) : Nat := if L ≤ M / s then L else M / s
def gfB (f : Nat → Int32) (c d : Nat) : Bool := !decide (kd f d 0 ≤ kd f c 0) || (decide (kd f c 0 = kd f d 0) && decide (c < d))
def mayB (f : Nat → Int32) (nc ne c M : Nat) (R : Int32) : Bool := !decide (asK f nc ne c M = -1) && (decide (asK f nc ne c M &&& (R ^^^ (-1)) = 0) && !decide (f 92 - kd f c 0 ≤ nI M))
def cmb (f : Nat → Int32) (nc ne c M : Nat) (R : Int32) : Int32 := if mayB f nc ne c M R = true then (if clK f nc ne c M = -1 then nI c else if gfB f c (clK f nc ne c M).toNatClampNeg = true then nI c else clK f nc ne c M) else clK f nc ne c M
def rlK (f : Nat → Int32) (nc ne c s : Nat) (ts : List Nat) : Nat → Int32
  | 0 => f 98
  | M + 1 => rbV f (rlK f nc ne c s ts M) (cmb f nc ne c (M + 1) (RtH f c ts (hdN s ts.length (M + 1)))) (nI (M + 1))
/-- alike but for the pupil's tens and lesson, and the ruler -/
def EP (c : Nat) (f f' : Nat → Int32) : Prop := ∀ k, k ≠ 10 * c + 1 → k ≠ 10 * c + 2 → k ≠ 10 * c + 6 → k ≠ 10 * c + 7 → k ≠ 98 → f' k = f k
theorem EP_bmo (h : EP c f f') (hn : nc ≤ 8) (he : ne ≤ 4) (hc : c < 8) : EP c (bmo f nc ne) (bmo f' nc ne) := by
  intro k h1 h2 h6 h7 h98
  by_cases h80 : k < 80
  · have e : k = 10 * (k / 10) + k % 10 := by omega
    have b1 := bmo_kd (f := f') hn he (show k / 10 < 8 by omega) (show k % 10 < 10 by omega)
    have b2 := bmo_kd (f := f) hn he (show k / 10 < 8 by omega) (show k % 10 < 10 by omega)
    have ek : kd f' (k / 10) (k % 10) = kd f (k / 10) (k % 10) := by
      unfold kd
      rw [← e]; exact h k h1 h2 h6 h7 h98
    have bv : bmV f' (k / 10) (k % 10) = bmV f (k / 10) (k % 10) := by
      by_cases z : k / 10 = c
      · unfold bmV
        rw [if_neg (show ¬ k % 10 = 1 by omega), if_neg (show ¬ k % 10 = 2 by omega), if_neg (show ¬ k % 10 = 6 by omega), if_neg (show ¬ k % 10 = 7 by omega), if_neg (show ¬ k % 10 = 1 by omega), if_neg (show ¬ k % 10 = 2 by omega), if_neg (show ¬ k % 10 = 6 by omega), if_neg (show ¬ k % 10 = 7 by omega), ek]
        have e0 : kd f' (k / 10) 0 = kd f (k / 10) 0 := h _ (by omega) (by omega) (by omega) (by omega) (by omega)
        rw [e0]
      · exact bmV_congr (fun w hw => h _ (by omega) (by omega) (by omega) (by omega) (by omega)) (by omega)
    rw [bv, ek, ← b2] at b1
    unfold kd at b1
    rw [← e] at b1
    exact b1
  · have hi : ∀ q, 80 ≤ q → q ≠ 98 → f' q = f q := fun q a b => h q (by omega) (by omega) (by omega) (by omega) b
    by_cases h97 : k = 97
    · subst h97; rw [bmo_97 hn he, bmo_97 hn he, hi 97 (by omega) (by omega)]
    · by_cases hq : ∃ q, q < 4 ∧ k = 80 + 3 * q + 2
      · obtain ⟨q, q4, e⟩ := hq
        subst e
        have b1 := bmo_od (f := f') hn he q4
        have b2 := bmo_od (f := f) hn he q4
        have o : ∀ w, w < 3 → od f' q w = od f q w := fun w hw => hi _ (by omega) (by omega)
        have ev : elV f' (f' 97 + 1) q = elV f (f 97 + 1) q := by
          unfold elV
          rw [o 1 (by decide), o 2 (by decide), hi 97 (by omega) (by omega)]
        rw [ev, o 2 (by decide), ← b2] at b1
        exact b1
      · have hq' : ∀ q, q < 4 → k ≠ 80 + 3 * q + 2 := fun q h1 h2 => hq ⟨q, h1, h2⟩
        rw [bmo_hi hn he (by omega) hq' h97, bmo_hi hn he (by omega) hq' h97, hi k (by omega) h98]
theorem EP_hi (h : EP c f f') (hc : c < 8) {k : Nat} (hk : 80 ≤ k) (h98 : k ≠ 98) : f' k = f k := h k (by omega) (by omega) (by omega) (by omega) h98
theorem trW_hi (h : ∀ k, 80 ≤ k → f' k = f k) : trW f' a n = trW f a n := by
  unfold trW
  congr 1
  funext q z
  have o : ∀ e w, od f' e w = od f e w := fun e w => h _ (by omega)
  unfold trF ask tri
  rw [o, o, o, h 93 (by omega)]
theorem EP_tr (h : EP c f f') (hc : c < 8) (hn : n ≤ 4) : trW f' a n = trW f a n := by
  rw [← trW_98 (x := f 98) n hn]
  refine trW_hi (fun k hk => ?_)
  by_cases z : k = 98
  · subst z; rw [pk_us]
  · rw [pk_un z]; exact EP_hi h hc hk z
theorem EP_ask (h : EP c f f') (hc : c < 8) (he : e < 4) : ask f' e = ask f e := by
  unfold ask tri
  have o : od f' e 2 = od f e 2 := EP_hi h hc (by omega) (by omega)
  rw [o, EP_hi h hc (by decide) (by decide)]
theorem EP_age (h : EP c f f') {q : Nat} : kd f' q 0 = kd f q 0 := h _ (by omega) (by omega) (by omega) (by omega) (by omega)
theorem EP_cl (h : EP c f f') (hc : c < 8) : ∀ n, n ≤ 8 → clM f' a (nI c) n = clM f a (nI c) n := by
  intro n hn
  unfold clM
  refine itr_congr n (fun i hi z => ?_)
  unfold clF
  by_cases q : nI i = nI c
  · rw [if_pos q, if_pos q]
  · have ic : i ≠ c := fun y => q (by rw [y])
    have kw : ∀ w, w < 8 → kd f' i w = kd f i w := fun w hw => h _ (by omega) (by omega) (by omega) (by omega) (by omega)
    have lk : lck f' i a = lck f i a := by unfold lck; rw [kw 5 (by decide), kw 1 (by decide), kw 2 (by decide)]
    rw [if_neg q, if_neg q, EP_hi h hc (by decide) (by decide), EP_age h, EP_age h, lk]
/-- the youngest of all by the youngest of the others -/
def psB (f : Nat → Int32) (c : Nat) (a : Int32) : Bool := !decide (f 92 ≤ kd f c 0) && decide (lck f c a = 0)
theorem cl_lt (hc : c < 8) : ∀ n, n ≤ c → clM f a (-1) n = clM f a (nI c) n := by
  intro n hn
  unfold clM
  refine itr_congr n (fun i hi z => ?_)
  unfold clF
  rw [if_neg (n1e (show i < 9 by omega)), if_neg (show ¬ nI i = nI c from fun y => by have := (nI_eq (by omega) (by omega)).mp y; omega)]
def cmZ (f : Nat → Int32) (c : Nat) (z : Int32) : Int32 := if z = -1 then nI c else if gfB f c z.toNatClampNeg = true then nI c else z
theorem gfB_iff {d : Nat} : gfB f c d = true ↔ (kd f c 0).toInt < (kd f d 0).toInt ∨ ((kd f c 0).toInt = (kd f d 0).toInt ∧ c < d) := by
  unfold gfB
  simp only [Bool.or_eq_true, Bool.not_eq_true', decide_eq_false_iff_not, Bool.and_eq_true, decide_eq_true_eq]
  rw [Int32.le_iff_toInt_le, ← Int32.toInt_inj]
  omega
theorem cl_cmb (hc : c < 8) : ∀ k, c + 1 + k ≤ 8 → clM f a (-1) (c + 1 + k) = if psB f c a = true then cmZ f c (clM f a (nI c) (c + 1 + k)) else clM f a (nI c) (c + 1 + k) := by
  intro k
  induction k with
  | zero =>
    intro _
    have e0 := cl_lt (f := f) (a := a) hc c (Nat.le_refl c)
    have hI : isI (clM f a (nI c) c) c := clM_I
    have s1 : clM f a (-1) (c + 1 + 0) = clF f a (-1) c (clM f a (-1) c) := rfl
    have s2 : clM f a (nI c) (c + 1 + 0) = clM f a (nI c) c := by
      show clF f a (nI c) c (clM f a (nI c) c) = _
      unfold clF
      rw [if_pos rfl]
    rw [s1, s2, e0]
    generalize clM f a (nI c) c = z at *
    unfold clF psB cmZ
    rw [if_neg (n1e (show c < 9 by omega))]
    by_cases q1 : f 92 ≤ kd f c 0
    · simp [q1]
    · by_cases q2 : lck f c a = 0
      · simp only [q1, q2, decide_false, decide_true, Bool.not_false, Bool.and_self, ↓reduceIte]
        rcases hI with h | ⟨d, hd, h⟩
        · subst h; simp
        · subst h
          have d1 : ¬ nI d = -1 := n1e (by omega)
          have cd : (nI d).toNatClampNeg = d := nI_clamp (by omega)
          simp only [d1, ↓reduceIte, cd]
          by_cases q3 : kd f d 0 ≤ kd f c 0
          · rw [if_pos q3, if_neg]
            rw [gfB_iff]
            rw [Int32.le_iff_toInt_le] at q3
            omega
          · rw [if_neg q3, if_pos]
            rw [gfB_iff]
            rw [Int32.le_iff_toInt_le] at q3
            omega
      · simp [q1, q2]
  | succ k ih =>
    intro hk
    have ih := ih (by omega)
    have hI : isI (clM f a (nI c) (c + 1 + k)) (c + 1 + k) := clM_I
    have s1 : clM f a (-1) (c + 1 + (k + 1)) = clF f a (-1) (c + 1 + k) (clM f a (-1) (c + 1 + k)) := rfl
    have s2 : clM f a (nI c) (c + 1 + (k + 1)) = clF f a (nI c) (c + 1 + k) (clM f a (nI c) (c + 1 + k)) := rfl
    rw [s1, s2, ih]
    generalize clM f a (nI c) (c + 1 + k) = z at *
    generalize hn : c + 1 + k = n at *
    have hcn : c < n := by omega
    have nb : ¬ nI n = nI c := fun y => by have := (nI_eq (by omega) (by omega)).mp y; omega
    have n1 : ¬ nI n = -1 := n1e (by omega)
    have c1 : ¬ nI c = -1 := n1e (by omega)
    have cn : (nI n).toNatClampNeg = n := nI_clamp (by omega)
    have cc : (nI c).toNatClampNeg = c := nI_clamp (by omega)
    by_cases ps : psB f c a = true
    · rw [if_pos ps, if_pos ps]
      unfold clF
      rw [if_neg n1, if_neg nb]
      by_cases q1 : f 92 ≤ kd f n 0
      · rw [if_pos q1, if_pos q1]
      · rw [if_neg q1, if_neg q1]
        by_cases q2 : lck f n a = 0
        · rw [if_pos q2, if_pos q2]
          have gn : gfB f c n = true ↔ kd f c 0 ≤ kd f n 0 := by
            rw [gfB_iff, Int32.le_iff_toInt_le]; omega
          rcases hI with h | ⟨d, hd, h⟩
          · subst h
            unfold cmZ
            rw [if_pos rfl, if_pos rfl, if_neg c1, if_neg n1, cc, cn]
            by_cases q3 : kd f c 0 ≤ kd f n 0
            · rw [if_pos q3, if_pos (gn.mpr q3)]
            · rw [if_neg q3, if_neg (fun y => q3 (gn.mp y))]
          · subst h
            have d1 : ¬ nI d = -1 := n1e (by omega)
            have cd : (nI d).toNatClampNeg = d := nI_clamp (by omega)
            have gd := gfB_iff (f := f) (c := c) (d := d)
            have L1 := Int32.le_iff_toInt_le (x := kd f d 0) (y := kd f n 0)
            have L2 := Int32.le_iff_toInt_le (x := kd f c 0) (y := kd f n 0)
            unfold cmZ
            rw [if_neg d1, if_neg d1, cd]
            by_cases q4 : gfB f c d = true
            · rw [if_pos q4, if_neg c1, cc]
              by_cases q5 : kd f d 0 ≤ kd f n 0
              · rw [if_pos q5, if_neg d1, cd, if_pos q4, if_pos (L2.mpr (by have := gd.mp q4; have := L1.mp q5; omega))]
              · rw [if_neg q5, if_neg n1, cn]
                by_cases q6 : kd f c 0 ≤ kd f n 0
                · rw [if_pos q6, if_pos (gn.mpr q6)]
                · rw [if_neg q6, if_neg (fun y => q6 (gn.mp y))]
            · rw [if_neg q4, if_neg d1, cd]
              by_cases q5 : kd f d 0 ≤ kd f n 0
              · rw [if_pos q5, if_neg d1, cd, if_neg q4]
              · rw [if_neg q5, if_neg n1, cn, if_neg]
                intro y
                have h1 := L2.mp (gn.mp y)
                have h2 : ¬ (kd f d 0).toInt ≤ (kd f n 0).toInt := fun z => q5 (L1.mpr z)
                exact q4 (gd.mpr (by omega))
        · rw [if_neg q2, if_neg q2]
    · rw [if_neg ps, if_neg ps]
      unfold clF
      rw [if_neg n1, if_neg nb]
theorem km_age (hn : nc ≤ 8) (he : ne ≤ 4) (hd : d < nc) : ∀ M, kd (km f nc ne M) d 0 = kd f d 0 + nI M
  | 0 => by show kd f d 0 = _; rw [nI_0, Int32.add_zero]
  | M + 1 => by
    show kd (bmo (km f nc ne M) nc ne) d 0 = _
    rw [bmo_kd hn he (by omega) (by decide), if_pos hd]
    show kd (km f nc ne M) d 0 + 1 = _
    rw [km_age hn he hd M, ← nI_1, Int32.add_assoc]
theorem km_s (hn : nc ≤ 8) (he : ne ≤ 4) : ∀ M, StE f (km f nc ne M)
  | 0 => fun _ _ => rfl
  | M + 1 => fun k hk => by
    show bmo (km f nc ne M) nc ne k = f k
    rw [StE_bmo hn he k hk, km_s hn he M k hk]
end
