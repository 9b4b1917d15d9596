/-! a month: the model's ruler, what is paid and written -/
section
variable {nl B B' : Nat} {ln : Nat → Nat} {V : Nat → (Nat → Int32) → Int32} {m m1 m2 m' : Sg} {j w u : Nat} {a a1 a2 a3 r s law x mo y tr : Int32} {f f' g g' lg lg' : Nat → Int32} {nc ne c e t M M' A nx n : Nat}
def gmP (w : Nat) (x42 : Int32) (m58 : Sg) : Option Sg := bnd (fun ((m60, x61) : Sg × Int32) => calv (f_X11_writes w m60 x42 x61) (fun m63 => some m63)) (fun (k62 : Sg × Int32 → Option (Sg)) =>
  (if (m58.1 w 61) = (-1) then k62 (m58, 0) else
  if inr ((7 * (m58.1 w 61)) + 6) 244 = true then if inr ((7 * (m58.1 w 61)) + 6) 244 = true then bnd (wr m58 w ((7 * (m58.1 w 61)) + 6).toNatClampNeg ((m58.1 w ((7 * (m58.1 w 61)) + 6).toNatClampNeg) + 1)) (fun m64 => cal (f_X11_taxOf w m64 (m64.1 w 61)) (fun x66 m65 => bnd (wr m65 w 62 ((m65.1 w 62) + x66)) (fun m67 => k62 (m67, x66)))) else none else none))
def gmR (w : Nat) (m39 : Sg) : Option Sg := cal (f_X11_examinerOf w m39 0) (fun x42 m41 => lpk (f_X11_goMonth_L214 w x42) (m41, (-1), 0) (fun ((m46, x47) : Sg × Int32) => bnd (fun (m58 : Sg) => gmP w x42 m58) (fun (k59 : Sg → Option (Sg)) =>
  (if x47 = (-1) then k59 m46 else
  bnd (wr m46 w 61 x47) (fun m68 => k59 m68)))))
def gmB (w : Nat) (m30 : Sg) : Option Sg := bnd (fun (m39 : Sg) => gmR w m39) (fun (k40 : Sg → Option (Sg)) =>
  (if (m30.1 w 61) = (-1) then k40 m30 else
  if inr ((7 * (m30.1 w 61)) + 0) 244 = true then (if (m30.1 w ((7 * (m30.1 w 61)) + 0).toNatClampNeg) < (m30.1 36 0) then k40 m30 else
  bnd (wr m30 w 61 (-1)) (fun m69 => k40 m69)) else none))
theorem goMonth_eq : f_X11_goMonth w m a1 = lpk (f_X11_goMonth_L10 w) (wr m w 60 ((m.1 w 60) + 1), 0) (fun m4 => lpk (f_X11_goMonth_L38 w) (m4, 0) (fun m11 => lpk (f_X11_goMonth_L101 w) (m11, 0) (fun m23 => lpk (f_X11_goMonth_L123 w a1) (m23, 0) (fun m30 => gmB w m30)))) := rfl
/-- the model's log -/
def shg (g : Nat → Int32) : Nat → Int32 := fun k => if 64 ≤ k ∧ k < 241 then g (k + 3) else g k
def wrB (g : Nat → Int32) (n : Nat) : Nat → Int32 := if n = 60 then upd (shg g) 63 (nI 59) else g
def wrQ (n : Nat) : Nat := if n = 60 then 59 else n
def wrG (g : Nat → Int32) (n : Nat) (e p : Int32) : Nat → Int32 := upd (upd (upd (upd (wrB g n) (64 + 3 * wrQ n) (g 61)) (64 + 3 * wrQ n + 1) e) (64 + 3 * wrQ n + 2) p) 63 (nI (wrQ n + 1))
def wrtF (w : Nat) (a1 a2 : Int32) (m1 : Sg) : Option Sg := bnd (64 + (3 * (m1.1 w 63))) (fun x3 => if inr x3 244 = true then bnd (wr m1 w x3.toNatClampNeg (m1.1 w 61)) (fun m4 => if inr (x3 + 1) 244 = true then bnd (wr m4 w (x3 + 1).toNatClampNeg a1) (fun m5 => if inr (x3 + 2) 244 = true then bnd (wr m5 w (x3 + 2).toNatClampNeg a2) (fun m6 => bnd (wr m6 w 63 ((m6.1 w 63) + 1)) (fun m7 => some m7)) else none) else none) else none)
theorem writes_eq : f_X11_writes w m a1 a2 = (if m.1 w 63 = 60 then lpk (f_X11_writes_L12 w) (m, 1) (fun m10 => wrtF w a1 a2 (wr m10 w 63 ((m10.1 w 63) - 1))) else wrtF w a1 a2 m) := rfl
theorem wrt_v (h : m.1 w 63 = nI n) (hn : n < 60) : wrtF w a1 a2 m = some (wrr m w (upd (upd (upd (upd (m.1 w) (64 + 3 * n) (m.1 w 61)) (64 + 3 * n + 1) a1) (64 + 3 * n + 2) a2) 63 (nI (n + 1)))) := by
  have e : (64 : Int32) + 3 * nI n = nI (64 + 3 * n) := by rw [show (3 : Int32) = nI 3 from rfl, pk_mul, show (64 : Int32) = nI 64 from rfl, nI_add]
  have e2 : nI (64 + 3 * n) + 2 = nI (64 + 3 * n + 2) := nI_add (64 + 3 * n) 2
  have e63 : ∀ x y z, (wr (wr (wr m w (64 + 3 * n) x) w (64 + 3 * n + 1) y) w (64 + 3 * n + 2) z).1 w 63 = nI n := by
    intro x y z
    rw [wr_at, pk_un (by omega), wr_at, pk_un (by omega), wr_at, pk_un (by omega), h]
  simp only [wrtF, bnd_eq, h, e, nI_1, e2, in_nI (show 64 + 3 * n < 244 by omega) (show 244 < 2 ^ 31 by decide), in_nI (show 64 + 3 * n + 1 < 244 by omega) (show 244 < 2 ^ 31 by decide), in_nI (show 64 + 3 * n + 2 < 244 by omega) (show 244 < 2 ^ 31 by decide), ↓reduceIte, nI_clamp (show 64 + 3 * n < 2 ^ 31 by omega), nI_clamp (show 64 + 3 * n + 1 < 2 ^ 31 by omega), nI_clamp (show 64 + 3 * n + 2 < 2 ^ 31 by omega), e63]
  rw [wr_wrr m, wr_wr, wr_wr, wr_wr]
theorem writes_v (h : m.1 w 63 = nI n) (hn : n ≤ 60) : f_X11_writes w m a1 a2 = some (wrr m w (wrG (m.1 w) n a1 a2)) := by
  rw [writes_eq]
  unfold wrG wrB wrQ
  by_cases q : n = 60
  · subst q
    rw [if_pos (show m.1 w 63 = 60 from h), if_pos rfl, if_pos rfl]
    rw [show (m, (1 : Int32)) = (fun i => (wrr m w (fun k => if 64 ≤ k ∧ k < 64 + i then m.1 w (k + 3) else m.1 w k), nI (i + 1))) 0 from by
      have : (fun k => if 64 ≤ k ∧ k < 64 + 0 then m.1 w (k + 3) else m.1 w k) = m.1 w := by
        funext k; rw [if_neg (by omega)]
      simp only [this, wrr_id]; rfl, lpk_seq (S := fun i => (wrr m w (fun k => if 64 ≤ k ∧ k < 64 + i then m.1 w (k + 3) else m.1 w k), nI (i + 1))) (x := wrr m w (shg (m.1 w))) 177 ?_ ?_ (by decide)]
    · have e63 : (wrr m w (shg (m.1 w))).1 w 63 - 1 = nI 59 := by
        rw [wrr_at]
        show m.1 w 63 - 1 = _
        rw [h]; rfl
      have e59 : (wrr m w (upd (shg (m.1 w)) 63 (nI 59))).1 w 63 = nI 59 := by rw [wrr_at, pk_us]
      rw [e63, wr_wr, wrt_v e59 (by decide), wrr_at, wrr_wrr]
      have : upd (shg (m.1 w)) 63 (nI 59) 61 = m.1 w 61 := by rw [pk_un (by decide)]; rfl
      rw [this]
    · intro i hi
      have e1 : (63 : Int32) + nI (i + 1) = nI (64 + i) := by rw [show (63 : Int32) = nI 63 from rfl, nI_add]; congr 1; omega
      have e2 : nI (64 + i) + 3 = nI (64 + i + 3) := nI_add _ 3
      simp only [f_X11_writes_L12, if_neg (show ¬ (177 : Int32) < nI (i + 1) from nI_nlt (a := 177) (b := i + 1) (by omega) (by decide)), e1, e2, in_nI (show 64 + i + 3 < 244 by omega) (show 244 < 2 ^ 31 by decide), in_nI (show 64 + i < 244 by omega) (show 244 < 2 ^ 31 by decide), ↓reduceIte, nI_clamp (show 64 + i < 2 ^ 31 by omega), nI_clamp (show 64 + i + 3 < 2 ^ 31 by omega), bnd_eq, nI_1, wrr_at, wr_wr]
      congr 4
      funext k
      by_cases z : k = 64 + i
      · subst z; rw [pk_us, if_neg (by omega), if_pos (by omega)]
      · rw [pk_un z]
        by_cases y : 64 ≤ k ∧ k < 64 + i
        · rw [if_pos y, if_pos (by omega)]
        · rw [if_neg y, if_neg (by omega)]
    · rfl
  · rw [if_neg (show ¬ m.1 w 63 = 60 from fun z => q ((nI_eq (a := n) (b := 60) (by omega) (by decide)).mp (h.symm.trans z))), if_neg q, if_neg q, wrt_v h (by omega)]
theorem LG_month (L : LG f g lg M) (h97 : f' 97 = nI (M + 1)) (hg : ∀ k, 63 ≤ k → g' k = g k) {lr : Int32} (h61 : g' 61 = lr) (hl : ∀ k, lg' k = if k = (M + 1) % 100 * 3 then lr else if k = (M + 1) % 100 * 3 + 1 then tr else if k = (M + 1) % 100 * 3 + 2 then x else lg k) : LG f' (wrG g' (mn M 60) tr x) lg' (M + 1) := by
  obtain ⟨l1, l2, l3⟩ := L
  by_cases q : M < 60
  · have hm : mn M 60 = M := by unfold mn; rw [if_pos (by omega)]
    have hm1 : mn (M + 1) 60 = M + 1 := by unfold mn; rw [if_pos (by omega)]
    have hQ : wrQ M = M := by unfold wrQ; rw [if_neg (by omega)]
    have hB : wrB g' M = g' := by unfold wrB; rw [if_neg (by omega)]
    rw [hm] at l2 l3 ⊢
    refine ⟨h97, ?_, ?_⟩
    · unfold wrG; rw [pk_us, hm1, hQ]
    · rw [hm1]
      intro i hi w hw
      unfold wrG
      rw [hQ, hB, hl]
      by_cases z : i = 0
      · subst z
        rcases (show w = 0 ∨ w = 1 ∨ w = 2 by omega) with h | h | h <;> subst h
        · rw [pk_un (by omega), pk_un (by omega), pk_un (by omega), show 64 + 3 * (M + 1 - 1 - 0) + 0 = 64 + 3 * M by omega, pk_us, if_pos (by omega), h61]
        · rw [pk_un (by omega), pk_un (by omega), show 64 + 3 * (M + 1 - 1 - 0) + 1 = 64 + 3 * M + 1 by omega, pk_us, if_neg (by omega), if_pos (by omega)]
        · rw [pk_un (by omega), show 64 + 3 * (M + 1 - 1 - 0) + 2 = 64 + 3 * M + 2 by omega, pk_us, if_neg (by omega), if_neg (by omega), if_pos (by omega)]
      · rw [pk_un (by omega), pk_un (by omega), pk_un (by omega), pk_un (by omega), hg _ (by omega), if_neg (by omega), if_neg (by omega), if_neg (by omega)]
        have := l3 (i - 1) (by omega) w hw
        rw [show M + 1 - 1 - i = M - 1 - (i - 1) by omega, show M + 1 - i = M - (i - 1) by omega]
        exact this
  · have hm : mn M 60 = 60 := by unfold mn; split <;> omega
    have hm1 : mn (M + 1) 60 = 60 := by unfold mn; rw [if_neg (by omega)]
    rw [hm] at l2 l3 ⊢
    have hQ : wrQ 60 = 59 := rfl
    have hB : wrB g' 60 = upd (shg g') 63 (nI 59) := rfl
    refine ⟨h97, ?_, ?_⟩
    · unfold wrG; rw [pk_us, hm1, hQ]
    · rw [hm1]
      intro i hi w hw
      unfold wrG
      rw [hQ, hB, hl]
      by_cases z : i = 0
      · subst z
        rcases (show w = 0 ∨ w = 1 ∨ w = 2 by omega) with h | h | h <;> subst h
        · rw [pk_un (by omega), pk_un (by omega), pk_un (by omega), show 64 + 3 * (60 - 1 - 0) + 0 = 64 + 3 * 59 by omega, pk_us, if_pos (by omega), h61]
        · rw [pk_un (by omega), pk_un (by omega), show 64 + 3 * (60 - 1 - 0) + 1 = 64 + 3 * 59 + 1 by omega, pk_us, if_neg (by omega), if_pos (by omega)]
        · rw [pk_un (by omega), show 64 + 3 * (60 - 1 - 0) + 2 = 64 + 3 * 59 + 2 by omega, pk_us, if_neg (by omega), if_neg (by omega), if_pos (by omega)]
      · rw [pk_un (by omega), pk_un (by omega), pk_un (by omega), pk_un (by omega), pk_un (by omega), if_neg (by omega), if_neg (by omega), if_neg (by omega)]
        unfold shg
        rw [if_pos (by omega), hg _ (by omega)]
        have := l3 (i - 1) (by omega) w hw
        rw [show 64 + 3 * (60 - 1 - i) + w + 3 = 64 + 3 * (60 - 1 - (i - 1)) + w by omega, show M + 1 - i = M - (i - 1) by omega]
        exact this
theorem CV_98 (hv : CV g f) : CV (upd g 61 x) (upd f 98 x) := by
  have k : ∀ c w, c < 8 → w < 10 → kd (upd f 98 x) c w = kd f c w := fun c w hc hw => pk_un (by omega)
  refine ⟨fun c hc => ?_, fun e he => ?_, ?_, ?_⟩
  · rw [k c 0 hc (by decide), k c 1 hc (by decide), k c 2 hc (by decide), k c 6 hc (by decide), k c 7 hc (by decide), k c 8 hc (by decide), pk_un (by omega), pk_un (by omega), pk_un (by omega), pk_un (by omega), pk_un (by omega), pk_un (by omega)]
    exact hv.1 c hc
  · have o : od (upd f 98 x) e 2 = od f e 2 := pk_un (by omega)
    rw [o, pk_un (by omega)]; exact hv.2.1 e he
  · rw [pk_un (by decide), pk_un (by decide)]; exact hv.2.2.1
  · rw [pk_us, pk_us]
theorem SV_row (hw : w ≠ 27 ∧ w ≠ 32 ∧ w ≠ 34 ∧ w ≠ 36) (hs : SV m f nc ne) : SV (wrr m w g) f nc ne := by
  unfold SV at hs ⊢
  rw [wrr_ne hw.1.symm, wrr_ne hw.2.1.symm, wrr_ne hw.2.2.1.symm, wrr_ne hw.2.2.2.symm]
  exact hs
theorem LR_row (hw : w = 38 ∨ w = 39) (h : LR nl ln V m) : LR nl ln V (wrr m w g) := by
  intro k hk
  rw [wrr_ne (by omega), wrr_ne (by omega), wrr_ne (by omega)]
  exact h k hk
def rvl (f : Nat → Int32) (c e : Nat) : Bool := !decide (f 92 ≤ kd f c 0) && (decide (wnt f c e = 0) && (decide (f 98 = -1) || !decide (kd f (f 98).toNatClampNeg 0 ≤ kd f c 0)))
theorem isRival_v (hv : CV (m.1 w) f) (hs : SV m f nc ne) (hf : WF f nc ne B) (hc : c < nc) (he : e < ne) : f_X11_isRival w m (nI c) (nI e) = some (if rvl f c e = true then 1 else 0, m) := by
  have hc8 : c < 8 := Nat.lt_of_lt_of_le hc hf.1.2
  unfold f_X11_isRival rvl
  simp only [bnd_eq, i7_0 hc8, t7_0 hc8, ↓reduceIte, hs.2.2.1, (hv.1 c hc8).1, mSlips_v hv hs hf hc he, cal_eq, hv.2.2.2]
  by_cases q1 : f 92 ≤ kd f c 0
  · simp [q1]
  · by_cases q2 : wnt f c e = 0
    · rcases hf.2.2.2.2.2.2.2.2.2.2 with h | ⟨d, hd, h⟩
      · simp [q1, q2, h]
      · have hd8 : d < 8 := by have := hf.1.2; omega
        rw [h]
        simp only [if_neg q1, q2, ↓reduceIte, n1e (show d < 9 by omega), i7_0 hd8, t7_0 hd8, (hv.1 d hd8).1, nI_clamp (show d < 2 ^ 31 by omega)]
        by_cases q3 : kd f d 0 ≤ kd f c 0
        · simp [q1, q3]
        · simp [q1, q3]
    · simp [q1, q2]
def rvS (f : Nat → Int32) (e i : Nat) (x : Int32) : Int32 := if rvl f i e = true then (if x = -1 then nI i else if kd f x.toNatClampNeg 0 ≤ kd f i 0 then x else nI i) else x
theorem rvS_or (i : Nat) (x : Int32) : rvS f e i x = x ∨ rvS f e i x = nI i := by
  unfold rvS
  split
  · split
    · exact Or.inr rfl
    · split
      · exact Or.inl rfl
      · exact Or.inr rfl
  · exact Or.inl rfl
theorem L214_v (hv : CV (m.1 w) f) (hs : SV m f nc ne) (hf : WF f nc ne B) (he : e < ne) {K : Sg × Int32 → Option Sg} : lpk (f_X11_goMonth_L214 w (nI e)) (m, -1, 0) K = K (m, itr (rvS f e) (-1) nc) := by
  have hn := hf.1.2
  have hC := hs.2.2.2.2.2.1
  rw [show (m, (-1 : Int32), (0 : Int32)) = (fun i => (m, itr (rvS f e) (-1) i, nI i)) 0 from rfl, lpk_seq (S := fun i => (m, itr (rvS f e) (-1) i, nI i)) (x := (m, itr (rvS f e) (-1) nc)) nc ?_ ?_ (by omega)]
  · intro i hi
    have hi8 : i < 8 := by omega
    have he9 : e < 9 := by have := hf.2.1; omega
    simp only [f_X11_goMonth_L214, hC, if_neg (ix_lt hi (show nc < 2 ^ 31 by omega)), n1e he9, ↓reduceIte, isRival_v hv hs hf hi he, cal_eq, bnd_eq, nI_1, itr]
    generalize hx : itr (rvS f e) (-1) i = x
    have hI : isI x i := hx ▸ itr_isI rvS_or i
    unfold rvS
    by_cases q : rvl f i e = true
    · simp only [if_pos q, n10, ↓reduceIte]
      rcases hI with h | ⟨d, hd, h⟩
      · simp only [h, ↓reduceIte]
      · subst h
        have hd8 : d < 8 := by omega
        simp only [n1e (show d < 9 by omega), ↓reduceIte, i7_0 hi8, t7_0 hi8, i7_0 hd8, t7_0 hd8, (hv.1 i hi8).1, (hv.1 d hd8).1, nI_clamp (show d < 2 ^ 31 by omega)]
        split <;> rfl
    · simp only [if_neg q, ↓reduceIte]
  · simp only [f_X11_goMonth_L214, hC, if_pos (nI_le (Nat.le_refl nc) (show nc < 2 ^ 31 by omega))]
theorem L214_n (hC : m.1 27 24 = nI nc) (h0 : 0 < nc) (hn : nc ≤ 8) {K : Sg × Int32 → Option Sg} : lpk (f_X11_goMonth_L214 w (-1)) (m, -1, 0) K = K (m, -1) := by
  rw [show (m, (-1 : Int32), (0 : Int32)) = (fun _ : Nat => (m, (-1 : Int32), (0 : Int32))) 0 from rfl, lpk_seq (S := fun _ : Nat => (m, (-1 : Int32), (0 : Int32))) (x := (m, -1)) 0 (fun i hi => absurd hi (by omega)) ?_ (by decide)]
  simp only [f_X11_goMonth_L214, hC, if_neg (show ¬ nI nc ≤ 0 from nI_nle h0 (by omega)), ↓reduceIte]
theorem rv_A (h : f 98 = -1) : ∀ n, n ≤ 8 → itr (rvS f e) (-1) n = clM f (ask f e) (-1) n
  | 0, _ => rfl
  | n + 1, hn => by
    have ih := rv_A h n (by omega)
    unfold clM at ih ⊢
    rw [itr, itr, ih]
    unfold rvS clF rvl wnt
    rw [if_neg (n1e (show n < 9 by omega)), h]
    by_cases q1 : f 92 ≤ kd f n 0
    · simp [q1]
    · by_cases q2 : lck f n (ask f e) = 0
      · simp [q1, q2]
      · simp [q1, q2]
theorem rv_B (hr : f 98 = nI c) (hc : c < 8) : ∀ n, n ≤ 8 → itr (rvS f e) (-1) n = if clM f (ask f e) (-1) n = -1 then -1 else if kd f c 0 ≤ kd f (clM f (ask f e) (-1) n).toNatClampNeg 0 then -1 else clM f (ask f e) (-1) n
  | 0, _ => rfl
  | n + 1, hn => by
    have ih := rv_B hr hc n (by omega)
    have hI : isI (clM f (ask f e) (-1) n) n := clM_I
    unfold clM at ih hI ⊢
    rw [itr, itr, ih]
    generalize itr (clF f (ask f e) (-1)) (-1) n = z at *
    have n1 := n1e (show n < 9 by omega)
    have cn : (nI n).toNatClampNeg = n := nI_clamp (by omega)
    have cc : (nI c).toNatClampNeg = c := nI_clamp (by omega)
    unfold rvS clF rvl wnt
    rw [if_neg n1, hr, cc]
    have c1 : ¬ nI c = -1 := n1e (by omega)
    by_cases q1 : f 92 ≤ kd f n 0
    · simp [q1]
    · by_cases q2 : lck f n (ask f e) = 0
      · simp only [q1, q2, c1, decide_false, decide_true, Bool.not_false, Bool.true_and, Bool.false_or, ↓reduceIte]
        rcases hI with h | ⟨d, hd, h⟩
        · subst h
          simp only [↓reduceIte, n1, cn]
          by_cases q3 : kd f c 0 ≤ kd f n 0
          · simp [q3]
          · simp [q3]
        · subst h
          have d1 : ¬ nI d = -1 := n1e (by omega)
          have cd : (nI d).toNatClampNeg = d := nI_clamp (by omega)
          simp only [d1, ↓reduceIte, cd]
          by_cases q4 : kd f c 0 ≤ kd f d 0
          · simp only [q4, ↓reduceIte]
            by_cases q3 : kd f c 0 ≤ kd f n 0
            · simp only [q3, decide_true, Bool.not_true, Bool.false_eq_true, ↓reduceIte]
              by_cases q5 : kd f d 0 ≤ kd f n 0
              · simp only [q5, ↓reduceIte, d1, cd, q4]
              · simp only [q5, ↓reduceIte, n1, cn, q3]
            · have q5 : ¬ kd f d 0 ≤ kd f n 0 := by
                rw [Int32.le_iff_toInt_le] at q3 q4 ⊢
                omega
              simp only [q3, q5, decide_false, Bool.not_false, ↓reduceIte, n1, cn]
          · simp only [q4, ↓reduceIte, d1, cd]
            by_cases q3 : kd f c 0 ≤ kd f n 0
            · have q5 : kd f d 0 ≤ kd f n 0 := by
                rw [Int32.le_iff_toInt_le] at q3 q4 ⊢
                omega
              simp only [q3, q5, q4, decide_true, Bool.not_true, Bool.false_eq_true, ↓reduceIte, d1, cd]
            · simp only [q3, decide_false, Bool.not_false, ↓reduceIte]
              by_cases q5 : kd f d 0 ≤ kd f n 0
              · simp only [q5, q4, ↓reduceIte, d1, cd]
              · simp only [q5, q3, ↓reduceIte, n1, cn]
      · simp [q1, q2]
end
