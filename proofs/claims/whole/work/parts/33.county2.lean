/-! County's methods by their row, the rest -/
theorem scn_map {χ ψ : Type} {P : Nat → Option χ} {f : χ → ψ} : ∀ (k i : Nat), scn (fun q => (P q).map f) i k = (scn P i k).map f
  | 0, i => rfl
  | k + 1, i => by
    rw [scn, scn]
    cases h : P i with
    | some x => simp
    | none => simp; exact scn_map k (i + 1)
theorem wrr_at {m : Sg} {j : Nat} {f : Nat → Int32} : (wrr m j f).1 j = f := by simp [wrr, va_up]
theorem wrr_ne {m : Sg} {j p : Nat} {f : Nat → Int32} (h : p ≠ j) : (wrr m j f).1 p = m.1 p := by simp [wrr, va_up, h]
theorem wrr_wrr {m : Sg} {j : Nat} {f f' : Nat → Int32} : wrr (wrr m j f) j f' = wrr m j f' := by
  unfold wrr
  congr 1
  funext q
  simp only [va_up]
  split <;> rfl
theorem wrr_id {m : Sg} {j : Nat} : wrr m j (m.1 j) = m := by
  unfold wrr
  have : va_up m.1 j (m.1 j) = m.1 := by
    funext q
    simp only [va_up]
    split
    · next h => rw [h]
    · rfl
  rw [this]
theorem wr_wr {m : Sg} {j k : Nat} {f : Nat → Int32} {x : Int32} : wr (wrr m j f) j k x = wrr m j (upd f k x) := by
  rw [wr_wrr, wrr_at, wrr_wrr]
theorem wk_w {m : Sg} {j c w : Nat} {f : Nat → Int32} {x : Int32} : wk (wrr m j f) j c w x = wrr m j (upd f (10 * c + w) x) := wr_wr
theorem wo_w {m : Sg} {j c w : Nat} {f : Nat → Int32} {x : Int32} : wo (wrr m j f) j c w x = wrr m j (upd f (80 + 3 * c + w) x) := wr_wr
def lowT (x : Int32) : Int32 := (scn (fun t => if b0 x t then none else some (nI t)) 0 9).getD (-1)
theorem lowestTen_v {m : Sg} {x : Int32} : f_X0_lowestTen m x = some (lowT x, m) := by
  unfold f_X0_lowestTen
  rw [show (m, (0 : Int32)) = (fun i => (m, nI i)) 0 from rfl, lpk_scn (S := fun i => (m, nI i)) (P := fun i => (if b0 x i then none else some (nI i)).map (fun t => Sum.inl (m, t))) (y := .inr m) 9 ?_ ?_ (by decide)]
  · rw [scn_map]; unfold lowT; cases scn _ 0 9 <;> rfl
  · intro q hq
    simp only [f_X0_lowestTen_L2, if_neg (show ¬ (9 : Int32) ≤ nI q from ix_lt (n := 9) hq (by decide)), bnd_eq, nI_1]
    by_cases h : b0 x q
    · rw [if_pos h, if_pos h]; rfl
    · rw [if_neg h, if_neg h]; rfl
  · rfl
section
variable {j : Nat} {m : Sg} {c d e n : Nat}
theorem lowestNotRight_v (hc : c < 8) : f_X0_lowestNotRight j m (nI c) = some (lowT (rt (m.1 j) c ^^^ (-1)), m) := by
  simp only [f_X0_lowestNotRight, rightOf_v hc, cal_eq, lowestTen_v]
def cnt (f : Nat → Int32) (c : Nat) : Int32 := 10 * (if lowT (rt f c ^^^ (-1)) = -1 then 9 else lowT (rt f c ^^^ (-1)))
theorem countOf_v (hc : c < 8) : f_X0_countOf j m (nI c) = some (cnt (m.1 j) c, m) := by
  simp only [f_X0_countOf, lowestNotRight_v hc, cal_eq, bnd_eq, cnt]
  split <;> rfl
theorem isBelow_v (hc : c < 8) : f_X0_isBelowGrowing j m (nI c) = some (if m.1 j 92 ≤ kd (m.1 j) c 0 then 0 else 1, m) := by
  simp only [f_X0_isBelowGrowing, kid0 hc, cal_eq]
  split <;> rfl
theorem isYounger_v (hc : c < 8) (hd : d < 8) : f_X0_isYounger j m (nI c) (nI d) = some (if kd (m.1 j) d 0 ≤ kd (m.1 j) c 0 then 0 else 1, m) := by
  simp only [f_X0_isYounger, kid0 hc, kid0 hd, cal_eq]
  split <;> rfl
def gf (f : Nat → Int32) (c d : Nat) : Prop := ¬ kd f d 0 ≤ kd f c 0 ∨ (kd f c 0 = kd f d 0 ∧ c < d)
theorem goesFirst_v (hc : c < 8) (hd : d < 8) : ∃ r, f_X0_goesFirst j m (nI c) (nI d) = some (r, m) ∧ (r = 1 ∧ gf (m.1 j) c d ∨ r = 0 ∧ ¬ gf (m.1 j) c d) := by
  simp only [f_X0_goesFirst, isYounger_v hc hd, kid0 hc, kid0 hd, cal_eq, bnd_eq, gf]
  by_cases h : kd (m.1 j) d 0 ≤ kd (m.1 j) c 0
  · simp only [if_pos h, if_true]
    by_cases h2 : kd (m.1 j) c 0 = kd (m.1 j) d 0
    · simp only [if_pos h2]
      by_cases h3 : c < d
      · rw [if_neg (ix_lt h3 (by omega))]
        exact ⟨1, rfl, Or.inl ⟨rfl, Or.inr ⟨h2, h3⟩⟩⟩
      · rw [if_pos (nI_le (by omega) (by omega))]
        refine ⟨0, rfl, Or.inr ⟨rfl, ?_⟩⟩
        rintro (q | q)
        · exact q h
        · exact h3 q.2
    · rw [if_neg h2]
      refine ⟨0, rfl, Or.inr ⟨rfl, ?_⟩⟩
      rintro (q | q)
      · exact q h
      · exact h2 q.1
  · simp only [if_neg h, if_neg (show ¬ (1 : Int32) = 0 by decide)]
    exact ⟨1, rfl, Or.inl ⟨rfl, Or.inl h⟩⟩
theorem bit_v {w : Nat} {x : Int32} (hx : x = nI w) (hc : c < 8) (hw : w < 10) {t : Nat} : f_X0_bit j m (nI c) x (nI t) = some (if b0 (kd (m.1 j) c w) t then 0 else 1, m) := by
  subst hx
  simp only [f_X0_bit, kid_v hc hw, cal_eq]
  split
  · next h => rw [if_pos (show b0 (kd (m.1 j) c w) t from h)]
  · next h => rw [if_neg (show ¬ b0 (kd (m.1 j) c w) t from h)]
theorem isRight_v (hc : c < 8) {t : Nat} : f_X0_isRight j m (nI c) (nI t) = some (if b0 (rt (m.1 j) c) t then 0 else 1, m) := by
  simp only [f_X0_isRight, rightOf_v hc, cal_eq]
  split <;> rfl
/-- the ten t alone -/
def tn (t : Int32) : Int32 := 1 <<< (t &&& 31)
theorem setBit_v {w : Nat} {x t v : Int32} (hx : x = nI w) (hc : c < 8) (hw : w < 10) : f_X0_setBit j m (nI c) x t v = some (wk m j c w (if v = 0 then kd (m.1 j) c w &&& (tn t ^^^ (-1)) else (kd (m.1 j) c w &&& (tn t ^^^ (-1))) ||| tn t)) := by
  subst hx
  simp only [f_X0_setBit, kid_v hc hw, putKid_v hc hw, cal_eq, calv_eq, bnd_eq]
  split <;> rfl
def mkR (f : Nat → Int32) (c : Nat) (t : Int32) : Nat → Int32 := upd (upd f (10 * c + 1) (kd f c 1 ||| tn t)) (10 * c + 2) (kd f c 2 &&& (tn t ^^^ (-1)))
theorem makeRight_v {t : Int32} (hc : c < 8) : f_X0_makeRight j m (nI c) t = some (wrr m j (mkR (m.1 j) c t)) := by
  simp only [f_X0_makeRight, kid1 hc, pk1 hc, kid2 hc, pk2 hc, cal_eq, calv_eq]
  show some (wk (wk m j c 1 _) j c 2 _) = _
  rw [show wk m j c 1 (kd (m.1 j) c 1 ||| 1 <<< (t &&& 31)) = wrr m j (upd (m.1 j) (10 * c + 1) (kd (m.1 j) c 1 ||| tn t)) from rfl, wk_w, wrr_at]
  simp only [mkR, kd, tn]
  rw [pk_un (by omega)]
def bgL (f : Nat → Int32) (c : Nat) (t : Int32) : Nat → Int32 := upd (upd f (10 * c + 6) t) (10 * c + 7) (kd f c 4)
theorem beginLesson_v {t : Int32} (hc : c < 8) : f_X0_beginLesson j m (nI c) t = some (wrr m j (bgL (m.1 j) c t)) := by
  simp only [f_X0_beginLesson, pk6 hc, kid4 hc, pk7 hc, cal_eq, calv_eq]
  rw [show wk m j c 6 t = wrr m j (upd (m.1 j) (10 * c + 6) t) from rfl, wk_w, wrr_at]
  simp only [bgL, kd]
  rw [pk_un (by omega)]
def enL (f : Nat → Int32) (c : Nat) : Nat → Int32 := upd (upd f (10 * c + 6) (-1)) (10 * c + 7) 0
theorem endLesson_v (hc : c < 8) : f_X0_endLesson j m (nI c) = some (wrr m j (enL (m.1 j) c)) := by
  simp only [f_X0_endLesson, pk6 hc, pk7 hc, cal_eq, calv_eq]
  rw [show wk m j c 6 (-1) = wrr m j (upd (m.1 j) (10 * c + 6) (-1)) from rfl, wk_w]
  rfl
def kpR (f : Nat → Int32) (c : Nat) (t v : Int32) : Nat → Int32 := if v = 0 then upd f (10 * c + 8) (kd f c 8 &&& (tn t ^^^ (-1))) else if kd f c 6 = t then enL (upd f (10 * c + 8) ((kd f c 8 &&& (tn t ^^^ (-1))) ||| tn t)) c else upd f (10 * c + 8) ((kd f c 8 &&& (tn t ^^^ (-1))) ||| tn t)
theorem setKept_v {t v : Int32} (hc : c < 8) : f_X0_setKept j m (nI c) t v = some (wrr m j (kpR (m.1 j) c t v)) := by
  simp only [f_X0_setKept, setBit_v (x := 8) (w := 8) rfl hc (by decide), calv_eq, kid6 hc, cal_eq, endLesson_v hc, kpR]
  by_cases h : v = 0
  · simp only [if_pos h]; rfl
  · simp only [if_neg h]
    rw [show ∀ x, wk m j c 8 x = wrr m j (upd (m.1 j) (10 * c + 8) x) from fun _ => rfl, wrr_at, wrr_wrr]
    have e : ∀ x, kd (upd (m.1 j) (10 * c + 8) x) c 6 = kd (m.1 j) c 6 := fun x => pk_un (by omega)
    rw [e]
    split <;> rfl
def tri (f : Nat → Int32) : Int32 := (1 <<< (f 93 &&& 31)) - 1
def ask (f : Nat → Int32) (e : Nat) : Int32 := od f e 2 &&& tri f
theorem askedBy_v (he : e < 4) : f_X0_askedBy j m (nI e) = some (ask (m.1 j) e, m) := by
  simp only [f_X0_askedBy, old2 he, f_X0_triedTens, cal_eq]; rfl
def bst (t s : Int32) : Int32 := if s = 2 then t &&& 341 else if s = 3 then t &&& 73 else t
theorem byStep_v {t s : Int32} : f_X0_byStep m t s = some (bst t s, m) := by
  simp only [f_X0_byStep, bst]
  split
  · rfl
  · split <;> rfl
theorem askedOf_v {t : Int32} (hc : c < 8) : f_X0_askedOf j m (nI c) t = some (bst t (kd (m.1 j) c 5), m) := by
  simp only [f_X0_askedOf, kid5 hc, byStep_v, cal_eq]
def lck (f : Nat → Int32) (c : Nat) (t : Int32) : Int32 := bst t (kd f c 5) &&& ((kd f c 1 ^^^ (-1)) ||| kd f c 2)
theorem lacks_v {t : Int32} (hc : c < 8) : f_X0_lacks j m (nI c) t = some (lck (m.1 j) c t, m) := by
  simp only [f_X0_lacks, kid5 hc, kid1 hc, kid2 hc, byStep_v, cal_eq]; rfl
def wnt (f : Nat → Int32) (c e : Nat) : Int32 := lck f c (ask f e)
theorem wants_v (hc : c < 8) (he : e < 4) : f_X0_wants j m (nI c) (nI e) = some (wnt (m.1 j) c e, m) := by
  simp only [f_X0_wants, askedBy_v he, lacks_v hc, cal_eq]; rfl
theorem stands_v (hc : c < 8) (he : e < 4) : f_X0_stands j m (nI c) (nI e) = some (if wnt (m.1 j) c e = 0 then 1 else 0, m) := by
  simp only [f_X0_stands, wants_v hc he, cal_eq]
  split <;> rfl
/-- an index, or none -/
def isI (x : Int32) (n : Nat) : Prop := x = -1 ∨ ∃ c, c < n ∧ x = nI c
theorem nI_m1 {c : Nat} (h : c < 2 ^ 31) : ¬ nI c = -1 := by
  intro e
  have := nI_pos h
  rw [e] at this
  exact this (by decide)
theorem isI_mono {x : Int32} {n k : Nat} (h : isI x n) (hk : n ≤ k) : isI x k := by
  rcases h with h | ⟨c, h1, h2⟩
  · exact Or.inl h
  · exact Or.inr ⟨c, by omega, h2⟩
theorem itr_isI {F : Nat → Int32 → Int32} (hF : ∀ i x, F i x = x ∨ F i x = nI i) : ∀ (n : Nat), isI (itr F (-1) n) n
  | 0 => Or.inl rfl
  | n + 1 => by
    rw [itr]
    rcases hF n (itr F (-1) n) with h | h
    · rw [h]; exact isI_mono (itr_isI hF n) (by omega)
    · rw [h]; exact Or.inr ⟨n, by omega, rfl⟩
def trF (f : Nat → Int32) (a : Int32) (e : Nat) (x : Int32) : Int32 := if b0 a e then (if ask f e = 0 then x else if x = -1 then nI e else if od f e 0 ≤ od f x.toNatClampNeg 0 then x else nI e) else x
def trW (f : Nat → Int32) (a : Int32) (n : Nat) : Int32 := itr (trF f a) (-1) n
theorem trF_or {f : Nat → Int32} {a : Int32} (i : Nat) (x : Int32) : trF f a i x = x ∨ trF f a i x = nI i := by
  unfold trF
  split
  · split
    · exact Or.inl rfl
    · split
      · exact Or.inr rfl
      · split
        · exact Or.inl rfl
        · exact Or.inr rfl
  · exact Or.inl rfl
theorem trW_I {f : Nat → Int32} {a : Int32} {n : Nat} : isI (trW f a n) n := itr_isI trF_or n
theorem trierWithout_v {a : Int32} (hE : m.1 j 96 = nI n) (hn : n ≤ 4) : f_X0_trierWithout j m a = some (trW (m.1 j) a n, m) := by
  unfold f_X0_trierWithout
  rw [show (m, (-1 : Int32), (0 : Int32)) = (fun i => (m, itr (trF (m.1 j) a) (-1) i, nI i)) 0 from rfl, lpk_seq (S := fun i => (m, itr (trF (m.1 j) a) (-1) i, nI i)) (x := (m, trW (m.1 j) a n)) n ?_ ?_ (by omega)]
  · intro i hi
    have hi4 : i < 4 := by omega
    simp only [f_X0_trierWithout_L4, hE, if_neg (ix_lt hi (by omega)), bnd_eq, nI_1, askedBy_v hi4, cal_eq, itr]
    generalize hx : itr (trF (m.1 j) a) (-1) i = x
    have hI : isI x i := hx ▸ itr_isI trF_or i
    unfold trF
    by_cases h1 : b0 a i
    · rw [if_pos h1, if_pos h1]
      by_cases h2 : ask (m.1 j) i = 0
      · simp only [if_pos h2, if_true]
      · simp only [if_neg h2, if_neg (show ¬ (1 : Int32) = 0 by decide)]
        rcases hI with h3 | ⟨d, hd, h3⟩
        · simp only [if_pos h3]
        · subst h3
          have hd4 : d < 4 := by omega
          simp only [if_neg (nI_m1 (show d < 2 ^ 31 by omega)), old0 hi4, old0 hd4, cal_eq, nI_clamp (show d < 2 ^ 31 by omega)]
          split <;> rfl
    · rw [if_neg h1, if_neg h1]
      simp only [if_true]
  · simp only [f_X0_trierWithout_L4, hE, if_pos (nI_le (Nat.le_refl n) (by omega))]; rfl
theorem trier_v (hE : m.1 j 96 = nI n) (hn : n ≤ 4) : f_X0_trier j m = some (trW (m.1 j) 0 n, m) := by
  simp only [f_X0_trier, trierWithout_v hE hn, cal_eq]
def clF (f : Nat → Int32) (t b : Int32) (c : Nat) (x : Int32) : Int32 := if nI c = b then x else if f 92 ≤ kd f c 0 then x else if lck f c t = 0 then (if x = -1 then nI c else if kd f x.toNatClampNeg 0 ≤ kd f c 0 then x else nI c) else x
def clM (f : Nat → Int32) (t b : Int32) (n : Nat) : Int32 := itr (clF f t b) (-1) n
theorem clF_or {f : Nat → Int32} {t b : Int32} (i : Nat) (x : Int32) : clF f t b i x = x ∨ clF f t b i x = nI i := by
  unfold clF
  split
  · exact Or.inl rfl
  · split
    · exact Or.inl rfl
    · split
      · split
        · exact Or.inr rfl
        · split
          · exact Or.inl rfl
          · exact Or.inr rfl
      · exact Or.inl rfl
theorem clM_I {f : Nat → Int32} {t b : Int32} {n : Nat} : isI (clM f t b n) n := itr_isI clF_or n
theorem claimant_v {t b : Int32} (hC : m.1 j 95 = nI n) (hn : n ≤ 8) : f_X0_claimant j m t b = some (clM (m.1 j) t b n, m) := by
  unfold f_X0_claimant
  rw [show (m, (-1 : Int32), (0 : Int32)) = (fun i => (m, itr (clF (m.1 j) t b) (-1) i, nI i)) 0 from rfl, lpk_seq (S := fun i => (m, itr (clF (m.1 j) t b) (-1) i, nI i)) (x := (m, clM (m.1 j) t b n)) n ?_ ?_ (by omega)]
  · intro i hi
    have hi8 : i < 8 := by omega
    simp only [f_X0_claimant_L5, hC, if_neg (ix_lt hi (by omega)), bnd_eq, nI_1, isBelow_v hi8, lacks_v hi8, cal_eq, itr]
    generalize hx : itr (clF (m.1 j) t b) (-1) i = x
    have hI : isI x i := hx ▸ itr_isI clF_or i
    unfold clF
    by_cases h1 : nI i = b
    · simp only [if_pos h1, if_true]
    · simp only [if_neg h1]
      by_cases h2 : m.1 j 92 ≤ kd (m.1 j) i 0
      · simp only [if_pos h2, if_true]
      · simp only [if_neg h2, if_neg (show ¬ (1 : Int32) = 0 by decide)]
        by_cases h4 : lck (m.1 j) i t = 0
        · simp only [if_pos h4, if_neg (show ¬ (1 : Int32) = 0 by decide)]
          rcases hI with h3 | ⟨d, hd, h3⟩
          · simp only [if_pos h3]
          · subst h3
            have hd8 : d < 8 := by omega
            simp only [if_neg (nI_m1 (show d < 2 ^ 31 by omega)), isYounger_v hi8 hd8, cal_eq, nI_clamp (show d < 2 ^ 31 by omega)]
            by_cases h5 : kd (m.1 j) d 0 ≤ kd (m.1 j) i 0
            · simp only [if_pos h5, if_true]
            · simp only [if_neg h5, if_neg (show ¬ (1 : Int32) = 0 by decide)]
        · simp only [if_neg h4, if_true]
  · simp only [f_X0_claimant_L5, hC, if_pos (nI_le (Nat.le_refl n) (by omega))]; rfl
def rbV (f : Nat → Int32) (r cl mo : Int32) : Int32 := if r = -1 then cl else if f 92 ≤ kd f r.toNatClampNeg 0 + mo then cl else if cl = -1 then r else if kd f r.toNatClampNeg 0 ≤ kd f cl.toNatClampNeg 0 then r else cl
theorem rulerBehind_v {r cl mo : Int32} (hr : isI r 8) (hl : isI cl 8) : f_X0_rulerBehind j m r cl mo = some (rbV (m.1 j) r cl mo, m) := by
  unfold f_X0_rulerBehind rbV
  simp only [bnd_eq]
  rcases hr with h | ⟨c, hc, h⟩
  · simp only [if_pos h, if_true]
  · subst h
    simp only [if_neg (nI_m1 (show c < 2 ^ 31 by omega)), kid0 hc, cal_eq, nI_clamp (show c < 2 ^ 31 by omega)]
    by_cases h2 : m.1 j 92 ≤ kd (m.1 j) c 0 + mo
    · simp only [if_pos h2, if_true]
    · simp only [if_neg h2, if_neg (show ¬ (1 : Int32) = 0 by decide)]
      rcases hl with h | ⟨d, hd, h⟩
      · simp only [if_pos h]
      · subst h
        simp only [if_neg (nI_m1 (show d < 2 ^ 31 by omega)), isYounger_v hd hc, cal_eq, nI_clamp (show d < 2 ^ 31 by omega)]
        by_cases h5 : kd (m.1 j) c 0 ≤ kd (m.1 j) d 0
        · simp only [if_pos h5, if_true]
        · simp only [if_neg h5, if_neg (show ¬ (1 : Int32) = 0 by decide)]
def clT (f : Nat → Int32) (tr : Int32) (n : Nat) : Int32 := if tr = -1 then -1 else clM f (ask f tr.toNatClampNeg) (-1) n
def crn (f : Nat → Int32) (tr : Int32) (n : Nat) : Nat → Int32 := upd f 98 (rbV f (f 98) (clT f tr n) 0)
theorem clT_I {f : Nat → Int32} {tr : Int32} {n : Nat} : isI (clT f tr n) n := by
  unfold clT
  split
  · exact Or.inl rfl
  · exact clM_I
theorem crown_v {tr : Int32} (hC : m.1 j 95 = nI n) (hn : n ≤ 8) (ht : isI tr 4) (hr : isI (m.1 j 98) 8) : f_X0_crown j m tr = some (wrr m j (crn (m.1 j) tr n)) := by
  have hl : isI (clT (m.1 j) tr n) 8 := isI_mono clT_I hn
  unfold f_X0_crown
  simp only [bnd_eq]
  rcases ht with h | ⟨e, he, h⟩
  · subst h
    have e1 : clT (m.1 j) (-1) n = -1 := by simp [clT]
    simp only [if_true, rulerBehind_v hr (Or.inl rfl), cal_eq, crn, e1]; rfl
  · subst h
    have e1 : clT (m.1 j) (nI e) n = clM (m.1 j) (ask (m.1 j) e) (-1) n := by simp only [clT, if_neg (nI_m1 (show e < 2 ^ 31 by omega)), nI_clamp (show e < 2 ^ 31 by omega)]
    rw [e1] at hl
    simp only [if_neg (nI_m1 (show e < 2 ^ 31 by omega)), askedBy_v he, cal_eq, claimant_v hC hn, rulerBehind_v hr hl, crn, e1]; rfl
def rgT (f : Nat → Int32) (pd : Int32) : Nat → Int32 := if f 98 = -1 then upd f 99 (f 99 + pd) else upd (upd f (10 * (f 98).toNatClampNeg + 9) (kd f (f 98).toNatClampNeg 9 + 1)) 99 (f 99 + pd)
theorem reignAndTake_v {pd : Int32} (hr : isI (m.1 j 98) 8) : f_X0_reignAndTake j m pd = some (wrr m j (rgT (m.1 j) pd)) := by
  unfold f_X0_reignAndTake rgT
  simp only [bnd_eq]
  rcases hr with h | ⟨c, hc, h⟩
  · simp only [if_pos h]; rfl
  · rw [h]
    simp only [if_neg (nI_m1 (show c < 2 ^ 31 by omega)), kid9 hc, pk9 hc, cal_eq, calv_eq, nI_clamp (show c < 2 ^ 31 by omega)]
    rw [show ∀ x, wk m j c 9 x = wrr m j (upd (m.1 j) (10 * c + 9) x) from fun _ => rfl, wr_wr, wrr_at, pk_un (show 99 ≠ 10 * c + 9 by omega)]
def goL (f : Nat → Int32) (c : Nat) : Nat → Int32 := if kd f c 7 - 1 ≤ 0 then enL (mkR f c (kd f c 6)) c else upd f (10 * c + 7) (kd f c 7 - 1)
theorem goOn_v (hc : c < 8) : f_X0_goOnWithLesson j m (nI c) = some (wrr m j (goL (m.1 j) c)) := by
  simp only [f_X0_goOnWithLesson, kid7 hc, kid6 hc, pk7 hc, makeRight_v hc, endLesson_v hc, cal_eq, calv_eq, bnd_eq, goL, wrr_at, wrr_wrr]
  split <;> rfl
def bmE (mo : Int32) (e : Nat) (f : Nat → Int32) : Nat → Int32 := if od f e 1 ≤ 0 then f else if mo - mo / od f e 1 * od f e 1 = 0 then upd f (80 + 3 * e + 2) (od f e 2 >>> (1 &&& 31)) else f
def bmC (c : Nat) (f : Nat → Int32) : Nat → Int32 := if kd f c 6 = -1 then upd f (10 * c) (kd f c 0 + 1) else goL (upd f (10 * c) (kd f c 0 + 1)) c
def bmo (f : Nat → Int32) (nc ne : Nat) : Nat → Int32 := itr bmC (itr (bmE (f 97 + 1)) (upd f 97 (f 97 + 1)) ne) nc
theorem bmE_o {mo : Int32} {e k : Nat} {f : Nat → Int32} (h : ∀ q, q < 4 → k ≠ 80 + 3 * q + 2) (he : e < 4) : bmE mo e f k = f k := by
  unfold bmE
  split
  · rfl
  · split
    · exact pk_un (h e he)
    · rfl
theorem bmEs_o {mo : Int32} {k : Nat} {f : Nat → Int32} (h : ∀ q, q < 4 → k ≠ 80 + 3 * q + 2) : ∀ n, n ≤ 4 → itr (bmE mo) f n k = f k
  | 0, _ => rfl
  | n + 1, hn => by rw [itr, bmE_o h (by omega), bmEs_o h n (by omega)]
theorem goL_o {c k : Nat} {f : Nat → Int32} (h1 : k ≠ 10 * c + 1) (h2 : k ≠ 10 * c + 2) (h6 : k ≠ 10 * c + 6) (h7 : k ≠ 10 * c + 7) : goL f c k = f k := by
  unfold goL enL mkR
  split
  · rw [pk_un h7, pk_un h6, pk_un h2, pk_un h1]
  · rw [pk_un h7]
theorem bmC_o {c k : Nat} {f : Nat → Int32} (h : k < 10 * c ∨ 10 * c + 7 < k) : bmC c f k = f k := by
  unfold bmC
  split
  · exact pk_un (by omega)
  · rw [goL_o (by omega) (by omega) (by omega) (by omega), pk_un (by omega)]
theorem bmCs_o {k : Nat} {f : Nat → Int32} (h : 80 ≤ k) : ∀ n, n ≤ 8 → itr bmC f n k = f k
  | 0, _ => rfl
  | n + 1, hn => by rw [itr, bmC_o (by omega), bmCs_o h n (by omega)]
theorem beginMonth_v {nc ne : Nat} (hC : m.1 j 95 = nI nc) (hc : nc ≤ 8) (hE : m.1 j 96 = nI ne) (he : ne ≤ 4) : f_X0_beginMonth j m = some (wrr m j (bmo (m.1 j) nc ne)) := by
  unfold f_X0_beginMonth bmo
  simp only [bnd_eq]
  generalize hmo : m.1 j 97 + 1 = mo
  rw [show (wr m j 97 mo, (0 : Int32)) = (fun i => (wrr m j (itr (bmE mo) (upd (m.1 j) 97 mo) i), nI i)) 0 from rfl, lpk_seq (S := fun i => (wrr m j (itr (bmE mo) (upd (m.1 j) 97 mo) i), nI i)) (x := wrr m j (itr (bmE mo) (upd (m.1 j) 97 mo) ne)) ne ?_ ?_ (by omega)]
  · generalize hf : itr (bmE mo) (upd (m.1 j) 97 mo) ne = f1
    have h95 : f1 95 = nI nc := by rw [← hf, bmEs_o (fun q hq => by omega) ne he, pk_un (by omega), hC]
    rw [show (wrr m j f1, (0 : Int32)) = (fun i => (wrr m j (itr bmC f1 i), nI i)) 0 from rfl, lpk_seq (S := fun i => (wrr m j (itr bmC f1 i), nI i)) (x := wrr m j (itr bmC f1 nc)) nc ?_ ?_ (by omega)]
    · intro i hi
      have hi8 : i < 8 := by omega
      simp only [f_X0_beginMonth_L70, wrr_at, bmCs_o (show 80 ≤ 95 by omega) i (by omega), h95, if_neg (ix_lt hi (by omega)), kid0 hi8, pk0 hi8, kid6 hi8, goOn_v hi8, cal_eq, calv_eq, bnd_eq, nI_1, itr]
      generalize itr bmC f1 i = f2
      rw [show ∀ x, wk (wrr m j f2) j i 0 x = wrr m j (upd f2 (10 * i) x) from fun x => wk_w, wrr_at, wrr_wrr]
      have e6 : ∀ x, kd (upd f2 (10 * i) x) i 6 = kd f2 i 6 := fun x => pk_un (by omega)
      rw [e6]
      unfold bmC
      split <;> rfl
    · simp only [f_X0_beginMonth_L70, wrr_at, bmCs_o (show 80 ≤ 95 by omega) nc hc, h95, if_pos (nI_le (Nat.le_refl nc) (show nc < 2 ^ 31 by omega))]
  · intro i hi
    have hi4 : i < 4 := by omega
    simp only [f_X0_beginMonth_L20, wrr_at, bmEs_o (k := 96) (fun q hq => by omega) i (by omega), pk_un (show 96 ≠ 97 by omega), hE, if_neg (ix_lt hi (by omega)), old1 hi4, old2 hi4, po2 hi4, cal_eq, calv_eq, bnd_eq, nI_1, itr]
    generalize itr (bmE mo) (upd (m.1 j) 97 mo) i = f2
    unfold bmE
    by_cases h1 : od f2 i 1 ≤ 0
    · simp only [if_pos h1]
    · have h0 : ¬ od f2 i 1 = 0 := fun e => h1 (by rw [e]; exact Int32.le_refl 0)
      simp only [if_neg h1, h0, decide_false, Bool.not_false, if_true, wo_w]
      split <;> rfl
  · simp only [f_X0_beginMonth_L20, wrr_at, bmEs_o (k := 96) (fun q hq => by omega) ne he, pk_un (show 96 ≠ 97 by omega), hE, if_pos (nI_le (Nat.le_refl ne) (show ne < 2 ^ 31 by omega))]
end
