/-! keepers: the call -/
section
variable {nl B B' : Nat} {ln : Nat → Nat} {V : Nat → (Nat → Int32) → Int32} {m m1 m2 m' : Sg} {j w u : Nat} {a a1 a2 a3 a4 r law x mo y tr fv : Int32} {f f' f1 f2 g g' : Nat → Int32} {nc ne c d e t M n i s l : Nat}
/-- one rules all n months if those of a set are kept -/
def RA (f : Nat → Int32) (nc ne c t n s : Nat) : Prop := ∀ i, i < n → fm (kpS f (nI t) (nI s) nc) nc ne (i + 1) 98 = nI c
def raI (f : Nat → Int32) (nc ne c t n s : Nat) : Int32 := if cnR (kpS f (nI t) (nI s) nc) nc ne c n = n then 1 else 0
theorem raI_1 : raI f nc ne c t n s = 0 ↔ ¬ RA f nc ne c t n s := by
  unfold raI RA
  rw [← cnR_all]
  split
  · next h => simp [h]
  · next h => simp [h]
theorem RA_sub (hn : nc ≤ 8) (he : ne ≤ 4) (hs : s < 256) (hl : l < 256) (hL : ∀ i, i < nc → s.testBit i = true → l.testBit i = false → ¬ kd f i 6 = nI t) : RA f nc ne c t n s ↔ RA f nc ne c t n (s &&& l) := by
  have hsl : s &&& l < 256 := Nat.lt_of_le_of_lt Nat.and_le_left hs
  have e8 : E8 (kpS f (nI t) (nI (s &&& l)) nc) (kpS f (nI t) (nI s) nc) := by
    refine E8_kpS (fun i hi q1 q2 => ?_) (fun i hi q1 => ?_) hn nc (Nat.le_refl nc)
    · rw [b0_tb (by omega) (by omega)] at q1 q2
      rw [Nat.testBit_and] at q2
      have q1 : s.testBit i = true := by simpa using q1
      rw [q1] at q2
      exact hL i hi q1 (by simpa using q2)
    · rw [b0_tb (by omega) (by omega)] at q1 ⊢
      rw [Nat.testBit_and, q1]; rfl
  unfold RA
  constructor
  · intro h i hi
    rw [← h i hi, E8_fm e8 hn he (i + 1) 98 (by omega)]
  · intro h i hi
    rw [← h i hi, E8_fm e8 hn he (i + 1) 98 (by omega)]
theorem ckp_v (h95 : m.1 4 95 = nI nc) (hn : nc ≤ 8) {K : Sg → Option (Int32 × Sg)} : lpk (f_X3_rulesAll_L14 (nI t) a) (wrr m 6 f, 0) K = K (wrr m 6 (kpS f (nI t) a nc)) := by
  rw [show (wrr m 6 f, (0 : Int32)) = (fun i => (wrr m 6 (kpS f (nI t) a i), nI i)) 0 from rfl, lpk_seq (S := fun i => (wrr m 6 (kpS f (nI t) a i), nI i)) (x := wrr m 6 (kpS f (nI t) a nc)) nc ?_ ?_ (by omega)]
  · intro i hi
    have hi8 : i < 8 := by omega
    have e : kpS f (nI t) a (i + 1) = kpG (nI t) a i (kpS f (nI t) a i) := rfl
    simp only [f_X3_rulesAll_L14, f_X0_children, cal_eq, wrr_ne (show 4 ≠ 6 by decide), h95, if_neg (ix_lt hi (show nc < 2 ^ 31 by omega)), setKept_v hi8, calv_eq, bnd_eq, nI_1, wrr_at, wrr_wrr, e]
    generalize kpS f (nI t) a i = z
    unfold kpG
    by_cases q : b0 a i
    · rw [if_pos q, if_pos q]
    · rw [if_neg q, if_neg q]
  · simp only [f_X3_rulesAll_L14, f_X0_children, cal_eq, wrr_ne (show 4 ≠ 6 by decide), h95, if_pos (nI_le (Nat.le_refl nc) (show nc < 2 ^ 31 by omega))]
theorem cra_v (hf : WF (va_cpy (m.1 4) (m.1 6) 0 0 100) nc ne B) (h95 : m.1 4 95 = nI nc) (ht : t < 9) (hn : n < 1000000) : ∃ g', f_X3_rulesAll m (nI c) (nI t) (nI s) (nI n) = some (raI (va_cpy (m.1 4) (m.1 6) 0 0 100) nc ne c t n s, wrr m 6 g') ∧ ∀ k, 100 ≤ k → g' k = m.1 6 k := by
  have hn8 := hf.1.2
  have hn4 := hf.2.1
  have hi6 : ∀ k, 100 ≤ k → va_cpy (m.1 4) (m.1 6) 0 0 100 k = m.1 6 k := fun k hk => pk_cpy_out (by omega)
  unfold f_X3_rulesAll
  rw [become_v, calv_eq]
  generalize va_cpy (m.1 4) (m.1 6) 0 0 100 = f at *
  rw [ckp_v h95 hn8]
  have wf := WF_kpS (s := nI s) hf ht nc (Nat.le_refl nc)
  have khi : ∀ k, 100 ≤ k → kpS f (nI t) (nI s) nc k = f k := fun k hk => kpS_o nc (fun i hi => by omega)
  unfold raI
  generalize kpS f (nI t) (nI s) nc = F at *
  have fhi : ∀ k, 100 ≤ k → ∀ i, fm F nc ne i k = F k := by
    intro k hk i
    induction i with
    | zero => rfl
    | succ i ih =>
      show nmo (fm F nc ne i) nc ne k = F k
      rw [nmo_hi hn8 hn4 (by omega), ih]
  obtain ⟨x, x1, x2⟩ := lpk_inv (step := f_X3_rulesAll_L55 (nI c) (nI n)) (K := fun x => match x with
    | .inl m15 => some ((0 : Int32), m15)
    | .inr m16 => some (1, m16)) (fun i s => s = (wrr m 6 (fm F nc ne i), nI i) ∧ ∀ j, j < i → fm F nc ne (j + 1) 98 = nI c) (fun x => ∃ i, (x = .inl (wrr m 6 (fm F nc ne i)) ∧ ¬ cnR F nc ne c n = n) ∨ (x = .inr (wrr m 6 (fm F nc ne i)) ∧ cnR F nc ne c n = n)) n (wrr m 6 F, 0) ⟨rfl, fun j hj => absurd hj (by omega)⟩ (by
    rintro i s hi ⟨rfl, q1⟩
    have hr := rnm_v (m := wrr m 6 (fm F nc ne i)) (nc := nc) (ne := ne) (B := B + i) (by rw [wrr_at]; exact WF_fm wf i)
    rw [wrr_at, wrr_wrr] at hr
    have e1 : nmo (fm F nc ne i) nc ne = fm F nc ne (i + 1) := rfl
    rw [e1] at hr
    by_cases z : fm F nc ne (i + 1) 98 = nI c
    · left
      refine ⟨_, ?_, rfl, fun j hj => ?_⟩
      · simp only [f_X3_rulesAll_L55, if_neg (ix_lt hi (show n < 2 ^ 31 by omega)), hr, cal_eq, if_pos z, bnd_eq, nI_1]
      · by_cases y : j = i
        · subst y; exact z
        · exact q1 j (by omega)
    · right
      refine ⟨.inl (wrr m 6 (fm F nc ne (i + 1))), ?_, i + 1, Or.inl ⟨rfl, fun y => z ((cnR_all n).mp y i hi)⟩⟩
      simp only [f_X3_rulesAll_L55, if_neg (ix_lt hi (show n < 2 ^ 31 by omega)), hr, cal_eq, if_neg z]) (by
    rintro s ⟨rfl, q1⟩
    refine ⟨.inr (wrr m 6 (fm F nc ne n)), ?_, n, Or.inr ⟨rfl, (cnR_all n).mpr q1⟩⟩
    simp only [f_X3_rulesAll_L55, if_pos (nI_le (Nat.le_refl n) (show n < 2 ^ 31 by omega))]) hn
  obtain ⟨i, x2⟩ := x2
  refine ⟨fm F nc ne i, ?_, fun k hk => by rw [fhi k hk, khi k hk, hi6 k hk]⟩
  refine Eq.trans (show _ = _ from rfl) (x1.trans ?_)
  rcases x2 with ⟨rfl, h⟩ | ⟨rfl, h⟩
  · rw [if_neg h]
  · rw [if_pos h]
theorem mkp_v (h : TS nl ln V nc ne B m f) (ht : t < 9) {s : Int32} : ∃ m', lpO (f_X11_rulesAll_L14 (nI t) s) fu (m, 0) = some m' ∧ (TS nl ln V nc ne B m' (kpS f (nI t) s nc) ∧ Fr tS m m') := by
  have hn8 := h.2.2.1.1.2
  refine lpO_inv (step := f_X11_rulesAll_L14 (nI t) s) (fun i q => ∃ p, q = (p, nI i) ∧ TS nl ln V nc ne B p (kpS f (nI t) s i) ∧ Fr tS m p) _ nc (m, 0) ⟨m, rfl, h, Fr.rf⟩ ?_ ?_ (by omega)
  · rintro i q hi ⟨p, rfl, p1, p2⟩
    have hi8 : i < 8 := by omega
    have hC := p1.2.1.2.2.2.2.2.1
    have e : kpS f (nI t) s (i + 1) = kpG (nI t) s i (kpS f (nI t) s i) := rfl
    rw [e]
    generalize kpS f (nI t) s i = z at *
    unfold kpG
    by_cases q : b0 s i
    · rw [if_pos q]
      refine ⟨(p, nI (i + 1)), ?_, p, rfl, p1, p2⟩
      simp only [f_X11_rulesAll_L14, hC, if_neg (ix_lt hi (show nc < 2 ^ 31 by omega)), has_v, cal_eq, if_pos q, ↓reduceIte, bnd_eq, nI_1]
    · rw [if_neg q]
      refine ⟨(wrr p 39 (mkp (p.1 39) i (kd z i 6) (nI t) 1 (kd z i 8)), nI (i + 1)), ?_, _, rfl, ?_, p2.tr (Fr.w2 (fun _ => rfl))⟩
      · simp only [f_X11_rulesAll_L14, hC, if_neg (ix_lt hi (show nc < 2 ^ 31 by omega)), has_v, cal_eq, if_neg q, n10, ↓reduceIte, mKeeps_v p1.1 hi8, calv_eq, bnd_eq, nI_1]
      · obtain ⟨hv, hs, hf, hl, h4, hi', ⟨n, n1, n2⟩, hp⟩ := p1
        refine ⟨?_, ?_, WF_kpR hf hi ht, ?_, h4, ?_, ⟨n, n1, ?_⟩, ?_⟩
        · rw [wrr_at]; exact CV_kpR hv hi8
        · exact SV_st2 (SV_row (by decide) hs) (StE_kpR hi8) hf.1.2 hf.2.1
        · exact LR_row (Or.inr rfl) hl
        · rw [wrr_ne (by decide)]; exact hi'
        · rw [wrr_at]
          have : mkp (p.1 39) i (kd z i 6) (nI t) 1 (kd z i 8) 63 = p.1 39 63 := by
            unfold mkp
            rw [if_neg n10]
            split
            · rw [pk_un (by omega), pk_un (by omega), pk_un (by omega)]
            · rw [pk_un (by omega)]
          rw [this]; exact n2
        · rw [wrr_ne (by decide)]; exact hp
  · rintro q ⟨p, rfl, p1, p2⟩
    have hC := p1.2.1.2.2.2.2.2.1
    refine ⟨p, ?_, p1, p2⟩
    simp only [f_X11_rulesAll_L14, hC, if_pos (nI_le (Nat.le_refl nc) (show nc < 2 ^ 31 by omega))]
theorem mra_v (R : Rel nl ln B m) (T : Told m nc ne B) (hl : LR nl ln V m) (h4 : nl ≤ 4) (hi : isI (m.1 13 3) nl) (eh : m.1 27 31 = m.1 13 3) (h : ∀ p k, ess p k = true → m1.1 p k = m.1 p k) (hc : c < nc) (ht : t < 9) (hn : n < 1000000) : ∃ m', f_X11_rulesAll m1 (nI c) (nI t) (nI n) (nI s) = some (raI (va_cpy (m.1 4) (m.1 6) 0 0 100) nc ne c t n s, m') ∧ Fr tS m1 m' := by
  obtain ⟨m3, d1, d2, d3, d4, d5⟩ := T_start R T hl h4 hi eh (m1 := m1) h
  obtain ⟨m4, e1, e2, e3⟩ := mkp_v (s := nI s) d2 ht
  have hc8 : c < 8 := by have := d2.2.2.1.1.2; omega
  obtain ⟨m5, f1, f2⟩ := mrg_v (n := n) (a1 := nI c) (a3 := 0) (P := fun r => decide (r = nI c)) e2 hn (fun _ r _ => by
    constructor
    · intro q
      have q := of_decide_eq_true q
      exact ⟨by rw [q]; exact n1e (by omega), q⟩
    · intro q; exact decide_eq_true q.2) (fun q => absurd rfl q)
  refine ⟨m5, ?_, (d5.tr e3).tr f2⟩
  unfold f_X11_rulesAll
  rw [d1, calv_eq, lpk_of e1, f1, cal_eq, (cnR_v n).1]
  unfold raI
  have hle := (cnR_v (f := kpS (va_cpy (m.1 4) (m.1 6) 0 0 100) (nI t) (nI s) nc) (nc := nc) (ne := ne) (c := c) n).2
  by_cases q : cnR (kpS (va_cpy (m.1 4) (m.1 6) 0 0 100) (nI t) (nI s) nc) nc ne c n = n
  · rw [if_pos q, q, if_pos rfl]
  · rw [if_neg q, if_neg (fun z => q ((nI_eq (by omega) (by omega)).mp z))]
/-- others who learn the ten -/
def olF (f : Nat → Int32) (c t : Nat) (i : Nat) (x : Nat) : Nat := if i = c then x else if kd f i 6 = nI t then x + 2 ^ i else x
def olN (f : Nat → Int32) (c t n : Nat) : Nat := itr (olF f c t) 0 n
theorem olN_lt : ∀ n, olN f c t n < 2 ^ n
  | 0 => by show 0 < 1; decide
  | n + 1 => by
    have ih := olN_lt n
    have p2 : 2 ^ (n + 1) = 2 ^ n + 2 ^ n := by rw [Nat.pow_succ]; omega
    unfold olN at ih ⊢
    rw [itr_s]
    unfold olF at *
    split
    · omega
    · split <;> omega
theorem tb_add {x n i : Nat} (hx : x < 2 ^ n) : (x + 2 ^ n).testBit i = (x.testBit i || decide (i = n)) := by
  by_cases h : i = n
  · subst h
    rw [Nat.add_comm, Nat.testBit_two_pow_add_eq, Nat.testBit_lt_two_pow hx]; simp
  · rcases Nat.lt_or_gt_of_ne h with z | z
    · rw [Nat.add_comm, Nat.testBit_two_pow_add_gt z]; simp [h]
    · have h1 : x + 2 ^ n < 2 ^ i := by
        have : 2 ^ (n + 1) ≤ 2 ^ i := Nat.pow_le_pow_right (by decide) (by omega)
        have p2 : 2 ^ (n + 1) = 2 ^ n + 2 ^ n := by rw [Nat.pow_succ]; omega
        omega
      have h2 : x < 2 ^ i := by omega
      rw [Nat.testBit_lt_two_pow h1, Nat.testBit_lt_two_pow h2]; simp [h]
theorem olN_tb : ∀ n i, (olN f c t n).testBit i = true ↔ i < n ∧ ¬ i = c ∧ kd f i 6 = nI t
  | 0, i => by
    show Nat.testBit 0 i = true ↔ _
    simp
  | n + 1, i => by
    have ih := olN_tb n i
    have lt := olN_lt (f := f) (c := c) (t := t) n
    unfold olN at ih lt ⊢
    rw [itr_s]
    generalize itr (olF f c t) 0 n = z at *
    unfold olF
    by_cases q1 : n = c
    · rw [if_pos q1, ih]
      constructor
      · rintro ⟨h1, h2, h3⟩; exact ⟨by omega, h2, h3⟩
      · rintro ⟨h1, h2, h3⟩; exact ⟨by omega, h2, h3⟩
    · rw [if_neg q1]
      by_cases q2 : kd f n 6 = nI t
      · rw [if_pos q2, tb_add lt, Bool.or_eq_true, ih, decide_eq_true_eq]
        constructor
        · rintro (⟨h1, h2, h3⟩ | h)
          · exact ⟨by omega, h2, h3⟩
          · subst h; exact ⟨by omega, q1, q2⟩
        · rintro ⟨h1, h2, h3⟩
          by_cases y : i = n
          · exact Or.inr y
          · exact Or.inl ⟨by omega, h2, h3⟩
      · rw [if_neg q2, ih]
        constructor
        · rintro ⟨h1, h2, h3⟩; exact ⟨by omega, h2, h3⟩
        · rintro ⟨h1, h2, h3⟩
          refine ⟨?_, h2, h3⟩
          by_cases y : i = n
          · subst y; exact absurd h3 q2
          · omega
theorem ol_v (h95 : m.1 4 95 = nI nc) (hn : nc ≤ 8) (hc : c < nc) : f_X3_othersLearning m (nI c) (nI t) = some (nI (olN (m.1 4) c t nc), m) := by
  unfold f_X3_othersLearning
  rw [show (m, (0 : Int32), (0 : Int32)) = (fun i => (m, nI (olN (m.1 4) c t i), nI i)) 0 from rfl, lpk_seq (S := fun i => (m, nI (olN (m.1 4) c t i), nI i)) (x := (m, nI (olN (m.1 4) c t nc))) nc ?_ ?_ (by omega)]
  · intro i hi
    have hi8 : i < 8 := by omega
    have lt := olN_lt (f := m.1 4) (c := c) (t := t) i
    have p8 : 2 ^ i < 256 := Nat.lt_of_lt_of_le (Nat.pow_lt_pow_right (by decide) hi8) (by decide)
    have e : olN (m.1 4) c t (i + 1) = olF (m.1 4) c t i (olN (m.1 4) c t i) := rfl
    have ec : nI i = nI c ↔ i = c := nI_eq (by omega) (by omega)
    have eo : nI (olN (m.1 4) c t i) ||| (1 <<< (nI i &&& 31)) = nI (olN (m.1 4) c t i + 2 ^ i) := by
      rw [sh1 i (by omega)]
      apply i32_ext
      intro k hk
      rw [b0_or hk, b0_tb (by omega) hk, b0_tb (by omega) hk, b0_tb (by omega) hk, tb_add lt, Nat.testBit_two_pow]
      by_cases y : k = i
      · subst y; simp
      · have : ¬ i = k := fun z => y z.symm
        simp [y, this]
    simp only [f_X3_othersLearning_L5, f_X0_children, cal_eq, h95, if_neg (ix_lt hi (show nc < 2 ^ 31 by omega)), kid6 hi8, bnd_eq, nI_1, ec, eo, e, olF]
    by_cases q1 : i = c
    · rw [if_pos q1, if_pos q1]
    · rw [if_neg q1, if_neg q1]
      by_cases q2 : kd (m.1 4) i 6 = nI t
      · rw [if_pos q2, if_pos q2]
      · rw [if_neg q2, if_neg q2]
  · simp only [f_X3_othersLearning_L5, f_X0_children, cal_eq, h95, if_pos (nI_le (Nat.le_refl nc) (show nc < 2 ^ 31 by omega))]
end
