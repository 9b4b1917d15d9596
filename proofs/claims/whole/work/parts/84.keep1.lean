/-! keepers: rows and sets -/
section
variable {nl B B' : Nat} {ln : Nat → Nat} {V : Nat → (Nat → Int32) → Int32} {m m1 m2 m' : Sg} {j w u : Nat} {a a1 a2 a3 a4 r s law x mo y tr fv : Int32} {f f' f1 f2 g g' : Nat → Int32} {nc ne c d e t M n i : Nat}
/-- alike but for what children are kept from -/
def E8 (f f' : Nat → Int32) : Prop := ∀ k, ¬ (k < 80 ∧ k % 10 = 8) → f' k = f k
theorem E8_kd (h : E8 f f') (hw : w < 10) (hw8 : w ≠ 8) : kd f' c w = kd f c w := h _ (by omega)
theorem E8_od (h : E8 f f') : od f' e w = od f e w := h _ (by omega)
theorem E8_bmo (h : E8 f f') (hn : nc ≤ 8) (he : ne ≤ 4) : E8 (bmo f nc ne) (bmo f' nc ne) := by
  intro k hk
  by_cases h80 : k < 80
  · have e : k = 10 * (k / 10) + k % 10 := by omega
    have h1 := bmo_kd (f := f') hn he (show k / 10 < 8 by omega) (show k % 10 < 10 by omega)
    have h2 := bmo_kd (f := f) hn he (show k / 10 < 8 by omega) (show k % 10 < 10 by omega)
    have bv : bmV f' (k / 10) (k % 10) = bmV f (k / 10) (k % 10) := by
      unfold bmV ln1 ln2 ln6 ln7
      rw [E8_kd h (by decide) (by decide), E8_kd h (by decide) (by decide), E8_kd h (by decide) (by decide), E8_kd h (by decide) (by decide), E8_kd h (by decide) (by decide), E8_kd h (by omega) (by omega)]
    rw [bv, E8_kd h (by omega) (by omega), ← h2] at h1
    unfold kd at h1
    rw [← e] at h1
    exact h1
  · by_cases h97 : k = 97
    · subst h97; rw [bmo_97 hn he, bmo_97 hn he, h 97 (by omega)]
    · by_cases hq : ∃ q, q < 4 ∧ k = 80 + 3 * q + 2
      · obtain ⟨q, q4, e⟩ := hq
        subst e
        have h1 := bmo_od (f := f') hn he q4
        have h2 := bmo_od (f := f) hn he q4
        have ev : elV f' (f' 97 + 1) q = elV f (f 97 + 1) q := by
          unfold elV
          rw [E8_od h, E8_od h, h 97 (by omega)]
        rw [ev, E8_od h, ← h2] at h1
        exact h1
      · have hq' : ∀ q, q < 4 → k ≠ 80 + 3 * q + 2 := fun q h1 h2 => hq ⟨q, h1, h2⟩
        rw [bmo_hi hn he (by omega) hq' h97, bmo_hi hn he (by omega) hq' h97, h k hk]
theorem E8_tr (h : E8 f f') : trW f' a n = trW f a n := by
  unfold trW
  congr 1
  funext q z
  unfold trF ask tri
  rw [E8_od h, E8_od h, E8_od h, h 93 (by omega)]
theorem E8_ask (h : E8 f f') : ask f' e = ask f e := by
  unfold ask tri
  rw [E8_od h, h 93 (by omega)]
theorem E8_lck (h : E8 f f') : lck f' c a = lck f c a := by
  unfold lck
  rw [E8_kd h (by decide) (by decide), E8_kd h (by decide) (by decide), E8_kd h (by decide) (by decide)]
theorem E8_cl {b : Int32} (h : E8 f f') : clM f' a b n = clM f a b n := by
  unfold clM
  congr 1
  funext q z
  unfold clF
  rw [E8_kd h (by decide) (by decide), E8_kd h (by decide) (by decide), E8_lck h, h 92 (by omega)]
theorem E8_nmo (h : E8 f f') (hn : nc ≤ 8) (he : ne ≤ 4) : E8 (nmo f nc ne) (nmo f' nc ne) := by
  have hb := E8_bmo h hn he
  unfold nmo
  rw [E8_tr hb]
  generalize bmo f nc ne = b at *
  generalize bmo f' nc ne = b' at *
  have e1 : rbV b' (b' 98) (clT b' (trW b 0 ne) nc) 0 = rbV b (b 98) (clT b (trW b 0 ne) nc) 0 := by
    unfold rbV clT
    rw [hb 98 (by omega), hb 92 (by omega), E8_ask hb, E8_cl hb, E8_kd hb (by decide) (by decide), E8_kd hb (by decide) (by decide)]
  unfold crn
  rw [e1]
  intro k hk
  by_cases z : k = 98
  · rw [z, pk_us, pk_us]
  · rw [pk_un z, pk_un z]; exact hb k hk
theorem E8_fm (h : E8 f f') (hn : nc ≤ 8) (he : ne ≤ 4) : ∀ i, E8 (fm f nc ne i) (fm f' nc ne i)
  | 0 => h
  | i + 1 => E8_nmo (E8_fm h hn he i) hn he
/-- children of a set kept from a ten -/
def kpG (t : Int32) (s : Int32) (i : Nat) (f : Nat → Int32) : Nat → Int32 := if b0 s i then f else kpR f i t 1
def kpS (f : Nat → Int32) (t s : Int32) (n : Nat) : Nat → Int32 := itr (kpG t s) f n
theorem kpR_o {t : Int32} {k : Nat} (h6 : k ≠ 10 * c + 6) (h7 : k ≠ 10 * c + 7) (h8 : k ≠ 10 * c + 8) : kpR f c t x k = f k := by
  unfold kpR enL
  split
  · rw [pk_un h8]
  · split
    · rw [pk_un h7, pk_un h6, pk_un h8]
    · rw [pk_un h8]
theorem kpS_o {t : Int32} {k : Nat} : ∀ n, (∀ i, i < n → k ≠ 10 * i + 6 ∧ k ≠ 10 * i + 7 ∧ k ≠ 10 * i + 8) → kpS f t s n k = f k
  | 0, _ => rfl
  | n + 1, h => by
    unfold kpS
    rw [itr_s]
    have ih := kpS_o (t := t) n (fun i hi => h i (by omega))
    unfold kpS at ih
    have hn := h n (by omega)
    unfold kpG
    split
    · exact ih
    · rw [kpR_o hn.1 hn.2.1 hn.2.2]; exact ih
theorem E8_kpR {t : Int32} (h : E8 f f') (hc : c < 8) : E8 (kpR f c t 1) (kpR f' c t 1) := by
  intro k hk
  have e6 : kd f' c 6 = kd f c 6 := E8_kd h (by decide) (by decide)
  unfold kpR
  rw [if_neg n10, if_neg n10, e6]
  have k8 : k ≠ 10 * c + 8 := by omega
  by_cases q : kd f c 6 = t
  · rw [if_pos q, if_pos q]
    unfold enL
    by_cases z7 : k = 10 * c + 7
    · rw [z7, pk_us, pk_us]
    · rw [pk_un z7, pk_un z7]
      by_cases z6 : k = 10 * c + 6
      · rw [z6, pk_us, pk_us]
      · rw [pk_un z6, pk_un z6, pk_un k8, pk_un k8]; exact h k hk
  · rw [if_neg q, if_neg q, pk_un k8, pk_un k8]; exact h k hk
theorem E8_kp1 {t : Int32} (h : E8 f f') (hc : c < 8) (hq : ¬ kd f' c 6 = t) : E8 f (kpR f' c t 1) := by
  intro k hk
  unfold kpR
  rw [if_neg n10, if_neg hq, pk_un (by omega)]; exact h k hk
/-- only those who learn the ten count -/
theorem E8_kpS {t s s' : Int32} (hl : ∀ i, i < nc → ¬ b0 s i → b0 s' i → ¬ kd f i 6 = t) (hs : ∀ i, i < nc → b0 s i → b0 s' i) (hn : nc ≤ 8) : ∀ n, n ≤ nc → E8 (kpS f t s' n) (kpS f t s n)
  | 0, _ => fun k _ => (show kpS f t s 0 k = f k from rfl).trans (show kpS f t s' 0 k = f k from rfl).symm
  | n + 1, h => by
    have ih := E8_kpS hl hs hn n (by omega)
    unfold kpS at ih ⊢
    rw [itr_s, itr_s]
    have e6 : kd (itr (kpG t s) f n) n 6 = kd f n 6 := kpS_o (f := f) (t := t) (s := s) n (fun i hi => by omega)
    unfold kpG at *
    by_cases q1 : b0 s n
    · rw [if_pos q1, if_pos (hs n (by omega) q1)]; exact ih
    · rw [if_neg q1]
      by_cases q2 : b0 s' n
      · rw [if_pos q2]
        exact E8_kp1 ih (by omega) (by rw [e6]; exact hl n (by omega) q1 q2)
      · rw [if_neg q2]
        exact E8_kpR ih (by omega)
theorem WF_kpR (hf : WF f nc ne B) (hc : c < nc) (ht : t < 9) : WF (kpR f c (nI t) 1) nc ne B := by
  obtain ⟨h1, h2, h3, h4, h5, h6, h7, h8, h9, h10, h11⟩ := hf
  have hi : ∀ k, 80 ≤ k → kpR f c (nI t) 1 k = f k := fun k hk => kpR_o (by omega) (by omega) (by omega)
  refine ⟨h1, h2, ?_, ?_, ?_, ?_, ?_, ?_, ?_, ?_, ?_⟩
  · rw [hi 95 (by omega)]; exact h3
  · rw [hi 96 (by omega)]; exact h4
  · intro c' hc'
    have kw : ∀ w, w < 10 → w < 6 → kd (kpR f c (nI t) 1) c' w = kd f c' w := fun w hw w1 => kpR_o (by omega) (by omega) (by omega)
    obtain ⟨d0, d1, d2, d3, d4, d5, d6, ⟨b0, b1, b2⟩⟩ := h5 c' hc'
    unfold wfC
    rw [kw 0 (by decide) (by decide), kw 1 (by decide) (by decide), kw 2 (by decide) (by decide), kw 3 (by decide) (by decide), kw 4 (by decide) (by decide), kw 5 (by decide) (by decide)]
    by_cases q : c' = c
    · subst q
      refine ⟨d0, d1, d2, d3, d4, d5, ?_, ?_⟩
      · unfold kpR enL
        rw [if_neg n10]
        split
        · left
          unfold kd
          exact ⟨by rw [pk_un (by omega), pk_us], pk_us⟩
        · have e6 : ∀ y, kd (upd f (10 * c' + 8) y) c' 6 = kd f c' 6 := fun y => pk_un (by omega)
          have e7 : ∀ y, kd (upd f (10 * c' + 8) y) c' 7 = kd f c' 7 := fun y => pk_un (by omega)
          rw [e6, e7]; exact d6
      · have : kd (kpR f c' (nI t) 1) c' 8 = kd f c' 8 ||| tn (nI t) := by
          unfold kpR enL
          rw [if_neg n10, clr_or]
          split
          · unfold kd
            rw [pk_un (by omega), pk_un (by omega), pk_us]
          · exact pk_us
        rw [this, b2]; exact or_tn b1 ht
    · have ko : ∀ w, w < 10 → kd (kpR f c (nI t) 1) c' w = kd f c' w := fun w hw => kpR_o (by omega) (by omega) (by omega)
      rw [ko 6 (by decide), ko 7 (by decide), ko 8 (by decide)]
      exact ⟨d0, d1, d2, d3, d4, d5, d6, b0, b1, b2⟩
  · intro e he
    have := h6 e he
    unfold wfE at this ⊢
    have o : ∀ w, od (kpR f c (nI t) 1) e w = od f e w := fun w => hi _ (by omega)
    rw [o 1, o 2]
    exact this
  · rw [hi 92 (by omega)]; exact h7
  · rw [hi 93 (by omega)]; exact h8
  · rw [hi 94 (by omega)]; exact h9
  · rw [hi 97 (by omega)]; exact h10
  · rw [hi 98 (by omega)]; exact h11
theorem StE_kpR {t : Int32} (hc : c < 8) : StE f (kpR f c t x) := by
  intro k hk
  refine kpR_o ?_ ?_ ?_ <;> · intro z; subst z; unfold stc at hk; simp at hk; omega
theorem CV_kpR {t : Int32} (hv : CV g f) (hc : c < 8) : CV (mkp g c (kd f c 6) t 1 (kd f c 8)) (kpR f c t 1) := by
  have go : ∀ k, k ≠ 7 * c + 3 → k ≠ 7 * c + 4 → k ≠ 7 * c + 5 → mkp g c (kd f c 6) t 1 (kd f c 8) k = g k := by
    intro k h3 h4 h5
    unfold mkp
    rw [if_neg n10]
    split
    · rw [pk_un h4, pk_un h3, pk_un h5]
    · rw [pk_un h5]
  refine ⟨fun c' hc' => ?_, fun e he => ?_, ?_, ?_⟩
  · obtain ⟨q1, q2, q3, q4, q5, q6⟩ := hv.1 c' hc'
    have kw : ∀ w, w < 6 → kd (kpR f c t 1) c' w = kd f c' w := fun w hw => kpR_o (by omega) (by omega) (by omega)
    rw [kw 0 (by decide), kw 1 (by decide), kw 2 (by decide), go _ (by omega) (by omega) (by omega), go (7 * c' + 1) (by omega) (by omega) (by omega), go (7 * c' + 2) (by omega) (by omega) (by omega)]
    refine ⟨q1, q2, q3, ?_⟩
    by_cases q : c' = c
    · subst q
      refine ⟨?_, ?_, ?_⟩
      · unfold mkp kpR enL
        rw [if_neg n10, if_neg n10]
        split
        · unfold kd
          rw [pk_un (by omega), pk_us, pk_un (by omega), pk_us]
        · have e6 : ∀ y, kd (upd f (10 * c' + 8) y) c' 6 = kd f c' 6 := fun y => pk_un (by omega)
          rw [e6, pk_un (by omega)]; exact q4
      · unfold mkp kpR enL
        rw [if_neg n10, if_neg n10]
        split
        · unfold kd
          rw [pk_us, pk_us]
        · have e7 : ∀ y, kd (upd f (10 * c' + 8) y) c' 7 = kd f c' 7 := fun y => pk_un (by omega)
          rw [e7, pk_un (by omega)]; exact q5
      · unfold mkp kpR enL
        rw [if_neg n10, if_neg n10, clr_or]
        split
        · unfold kd
          rw [pk_un (by omega), pk_un (by omega), pk_us, pk_un (by omega), pk_un (by omega), pk_us]
        · rw [pk_us]; exact pk_us.symm
    · have ko : ∀ w, w < 10 → kd (kpR f c t 1) c' w = kd f c' w := fun w hw => kpR_o (by omega) (by omega) (by omega)
      rw [ko 6 (by decide), ko 7 (by decide), ko 8 (by decide), go _ (by omega) (by omega) (by omega), go (7 * c' + 4) (by omega) (by omega) (by omega), go (7 * c' + 5) (by omega) (by omega) (by omega)]
      exact ⟨q4, q5, q6⟩
  · have o : od (kpR f c t 1) e 2 = od f e 2 := kpR_o (by omega) (by omega) (by omega)
    rw [o, go _ (by omega) (by omega) (by omega)]; exact hv.2.1 e he
  · rw [go _ (by omega) (by omega) (by omega), kpR_o (by omega) (by omega) (by omega)]; exact hv.2.2.1
  · rw [go _ (by omega) (by omega) (by omega), kpR_o (by omega) (by omega) (by omega)]; exact hv.2.2.2
theorem WF_kpS (hf : WF f nc ne B) (ht : t < 9) : ∀ n, n ≤ nc → WF (kpS f (nI t) s n) nc ne B
  | 0, _ => hf
  | n + 1, h => by
    unfold kpS
    rw [itr_s]
    have ih := WF_kpS hf ht n (by omega)
    unfold kpS at ih
    unfold kpG at *
    split
    · exact ih
    · exact WF_kpR ih (by omega) ht
/-- how many of the months one rules -/
def cnR (f : Nat → Int32) (nc ne c : Nat) : Nat → Nat
  | 0 => 0
  | i + 1 => cnR f nc ne c i + if fm f nc ne (i + 1) 98 = nI c then 1 else 0
theorem cnR_v : ∀ n, itr (rgF (fun r => decide (r = nI c)) f nc ne) 0 n = nI (cnR f nc ne c n) ∧ cnR f nc ne c n ≤ n
  | 0 => ⟨rfl, Nat.le_refl _⟩
  | n + 1 => by
    obtain ⟨h1, h2⟩ := cnR_v n
    rw [itr_s, h1]
    unfold rgF
    rw [cnR]
    by_cases q : fm f nc ne (n + 1) 98 = nI c
    · rw [if_pos (decide_eq_true q), if_pos q, nI_1]; exact ⟨rfl, by omega⟩
    · rw [if_neg (by simpa using q), if_neg q, Int32.add_zero]; exact ⟨rfl, by omega⟩
theorem cnR_all : ∀ n, cnR f nc ne c n = n ↔ ∀ i, i < n → fm f nc ne (i + 1) 98 = nI c
  | 0 => ⟨fun _ i hi => absurd hi (by omega), fun _ => rfl⟩
  | n + 1 => by
    have ih := cnR_all n
    have hl := (cnR_v (f := f) (nc := nc) (ne := ne) (c := c) n).2
    rw [cnR]
    constructor
    · intro h
      by_cases q : fm f nc ne (n + 1) 98 = nI c
      · rw [if_pos q] at h
        intro i hi
        by_cases z : i = n
        · subst z; exact q
        · exact ih.mp (by omega) i (by omega)
      · rw [if_neg q] at h; omega
    · intro h
      rw [if_pos (h n (by omega)), ih.mpr (fun i hi => h i (by omega))]
/-- bits of numbers -/
def pc8 (s : Nat) : Nat := (s.testBit 0).toNat + (s.testBit 1).toNat + (s.testBit 2).toNat + (s.testBit 3).toNat + (s.testBit 4).toNat + (s.testBit 5).toNat + (s.testBit 6).toNat + (s.testBit 7).toNat
theorem bc_pc : ∀ s, s < 256 → bcV (nI s) = nI (pc8 s) := by decide +kernel
theorem pc8_le {s : Nat} : pc8 s ≤ 8 := by
  unfold pc8
  have : ∀ b : Bool, b.toNat ≤ 1 := by decide
  have h0 := this (s.testBit 0)
  have h1 := this (s.testBit 1)
  have h2 := this (s.testBit 2)
  have h3 := this (s.testBit 3)
  have h4 := this (s.testBit 4)
  have h5 := this (s.testBit 5)
  have h6 := this (s.testBit 6)
  have h7 := this (s.testBit 7)
  omega
theorem tb_and (a b : Bool) : (a && b).toNat ≤ a.toNat ∧ (a.toNat ≤ (a && b).toNat → (a && b) = a) := by
  cases a <;> cases b <;> decide
theorem pc8_and {s l : Nat} (hs : s < 256) (h : ¬ s &&& l = s) : pc8 (s &&& l) < pc8 s := by
  have key : pc8 s ≤ pc8 (s &&& l) → s &&& l = s := by
    intro hle
    apply Nat.eq_of_testBit_eq
    intro i
    unfold pc8 at hle
    simp only [Nat.testBit_and] at hle
    have t := fun i => tb_and (s.testBit i) (l.testBit i)
    have t0 := t 0
    have t1 := t 1
    have t2 := t 2
    have t3 := t 3
    have t4 := t 4
    have t5 := t 5
    have t6 := t 6
    have t7 := t 7
    rw [Nat.testBit_and]
    by_cases hi : i < 8
    · rcases (show i = 0 ∨ i = 1 ∨ i = 2 ∨ i = 3 ∨ i = 4 ∨ i = 5 ∨ i = 6 ∨ i = 7 by omega) with z | z | z | z | z | z | z | z <;> subst z
      · exact t0.2 (by omega)
      · exact t1.2 (by omega)
      · exact t2.2 (by omega)
      · exact t3.2 (by omega)
      · exact t4.2 (by omega)
      · exact t5.2 (by omega)
      · exact t6.2 (by omega)
      · exact t7.2 (by omega)
    · have : s.testBit i = false := Nat.testBit_lt_two_pow (Nat.lt_of_lt_of_le hs (show 2 ^ 8 ≤ 2 ^ i from Nat.pow_le_pow_right (by decide) (by omega)))
      rw [this]; rfl
  rcases Nat.lt_or_ge (pc8 (s &&& l)) (pc8 s) with z | z
  · exact z
  · exact absurd (key z) h
theorem b0_tb {s t : Nat} (hs : s < 2 ^ 31) (ht : t < 32) : b0 (nI s) t ↔ s.testBit t = false := by
  rw [b0_iff ht, BitVec.getLsbD, pk_tn (by omega)]
theorem sub_v {s l : Nat} (hs : s < 256) (hl : l < 256) : nI s &&& (nI l ^^^ (-1)) = 0 ↔ s &&& l = s := by
  rw [b0_zero]
  constructor
  · intro h
    apply Nat.eq_of_testBit_eq
    intro i
    rw [Nat.testBit_and]
    by_cases hi : i < 32
    · have := h i hi
      rw [b0_and hi, b0_not hi, b0_tb (by omega) hi, b0_tb (by omega) hi] at this
      cases h1 : s.testBit i
      · rfl
      · cases h2 : l.testBit i
        · rw [h1, h2] at this; simp at this
        · rfl
    · have : s.testBit i = false := Nat.testBit_lt_two_pow (Nat.lt_of_lt_of_le hs (show 2 ^ 8 ≤ 2 ^ i from Nat.pow_le_pow_right (by decide) (by omega)))
      rw [this]; rfl
  · intro h t ht
    rw [b0_and ht, b0_not ht, b0_tb (by omega) ht, b0_tb (by omega) ht]
    have := congrArg (fun z => Nat.testBit z t) h
    simp only [Nat.testBit_and] at this
    cases h1 : s.testBit t
    · exact Or.inl rfl
    · right
      rw [h1] at this
      cases h2 : l.testBit t
      · rw [h2] at this; cases this
      · decide
end
