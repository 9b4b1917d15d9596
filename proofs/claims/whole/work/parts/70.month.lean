/-! a month: the county's row -/
section
variable {nl B B' : Nat} {ln : Nat → Nat} {m m1 m2 m' : Sg} {j w u : Nat} {a a1 a2 a3 r s law x mo : Int32} {f f' g g' lg lg' : Nat → Int32} {nc ne c e t M M' A nx n : Nat}
def ln1 (f : Nat → Int32) (c : Nat) : Int32 := if kd f c 6 = -1 then kd f c 1 else if kd f c 7 - 1 ≤ 0 then kd f c 1 ||| tn (kd f c 6) else kd f c 1
def ln2 (f : Nat → Int32) (c : Nat) : Int32 := if kd f c 6 = -1 then kd f c 2 else if kd f c 7 - 1 ≤ 0 then kd f c 2 &&& (tn (kd f c 6) ^^^ (-1)) else kd f c 2
def ln6 (f : Nat → Int32) (c : Nat) : Int32 := if kd f c 6 = -1 then -1 else if kd f c 7 - 1 ≤ 0 then -1 else kd f c 6
def ln7 (f : Nat → Int32) (c : Nat) : Int32 := if kd f c 6 = -1 then kd f c 7 else if kd f c 7 - 1 ≤ 0 then 0 else kd f c 7 - 1
def bmV (f : Nat → Int32) (c w : Nat) : Int32 := if w = 0 then kd f c 0 + 1 else if w = 1 then ln1 f c else if w = 2 then ln2 f c else if w = 6 then ln6 f c else if w = 7 then ln7 f c else kd f c w
theorem bmC_at (hw : w < 10) : kd (bmC c f) c w = bmV f c w := by
  unfold bmC goL enL mkR bmV ln1 ln2 ln6 ln7 kd
  by_cases h6 : f (10 * c + 6) = -1
  · rw [if_pos h6]
    by_cases h0 : w = 0
    · subst h0; simp [upd]
    · rw [if_neg h0, pk_un (by omega)]
      simp only [h6, ↓reduceIte]
      by_cases q6 : w = 6
      · subst q6; rw [h6]; simp
      · by_cases q1 : w = 1
        · subst q1; simp
        · by_cases q2 : w = 2
          · subst q2; simp
          · by_cases q7 : w = 7
            · subst q7; simp
            · simp [q1, q2, q6, q7]
  · have e7 : ∀ y, upd f (10 * c) y (10 * c + 7) = f (10 * c + 7) := fun y => pk_un (by omega)
    have e6 : ∀ y, upd f (10 * c) y (10 * c + 6) = f (10 * c + 6) := fun y => pk_un (by omega)
    simp only [h6, ↓reduceIte, e7, e6]
    by_cases h7 : f (10 * c + 7) - 1 ≤ 0
    · simp only [h7, ↓reduceIte]
      rcases (show w = 0 ∨ w = 1 ∨ w = 2 ∨ w = 3 ∨ w = 4 ∨ w = 5 ∨ w = 6 ∨ w = 7 ∨ w = 8 ∨ w = 9 by omega) with h | h | h | h | h | h | h | h | h | h <;> subst h <;> simp [upd, kd]
    · simp only [h7, ↓reduceIte]
      rcases (show w = 0 ∨ w = 1 ∨ w = 2 ∨ w = 3 ∨ w = 4 ∨ w = 5 ∨ w = 6 ∨ w = 7 ∨ w = 8 ∨ w = 9 by omega) with h | h | h | h | h | h | h | h | h | h <;> subst h <;> simp [upd, kd]
theorem bmV_congr (h : ∀ w, w < 10 → kd f' c w = kd f c w) (hw : w < 10) : bmV f' c w = bmV f c w := by
  unfold bmV ln1 ln2 ln6 ln7
  rw [h 0 (by decide), h 1 (by decide), h 2 (by decide), h 6 (by decide), h 7 (by decide), h w hw]
theorem bms_at : ∀ n, n ≤ 8 → ∀ c, c < 8 → ∀ w, w < 10 → kd (itr bmC f n) c w = if c < n then bmV f c w else kd f c w
  | 0, _, c, _, w, _ => by rw [if_neg (by omega)]; rfl
  | n + 1, hn, c, hc, w, hw => by
    rw [itr]
    by_cases q : c = n
    · subst q
      rw [bmC_at hw, if_pos (by omega)]
      exact bmV_congr (fun w hw => by rw [bms_at c (by omega) c hc w hw, if_neg (by omega)]) hw
    · have : kd (bmC n (itr bmC f n)) c w = kd (itr bmC f n) c w := bmC_o (by omega)
      rw [this, bms_at n (by omega) c hc w hw]
      by_cases z : c < n
      · rw [if_pos z, if_pos (by omega)]
      · rw [if_neg z, if_neg (by omega)]
def elV (f : Nat → Int32) (mo : Int32) (e : Nat) : Int32 := if od f e 1 ≤ 0 then od f e 2 else if mo - mo / od f e 1 * od f e 1 = 0 then od f e 2 >>> (1 &&& 31) else od f e 2
theorem bmE_at : od (bmE mo e f) e 2 = elV f mo e := by
  unfold bmE elV
  split
  · rfl
  · split
    · exact pk_us
    · rfl
theorem bmE_n {q k : Nat} (h : k ≠ 80 + 3 * q + 2) : bmE mo q f k = f k := by
  unfold bmE
  split
  · rfl
  · split
    · exact pk_un h
    · rfl
theorem bmEs_at : ∀ n, n ≤ 4 → ∀ e, e < 4 → od (itr (bmE mo) f n) e 2 = if e < n then elV f mo e else od f e 2
  | 0, _, e, _ => by rw [if_neg (by omega)]; rfl
  | n + 1, hn, e, he => by
    rw [itr]
    by_cases q : e = n
    · subst q
      rw [bmE_at, if_pos (by omega)]
      unfold elV
      have h1 : od (itr (bmE mo) f e) e 1 = od f e 1 := bmEs_o (fun q _ => by omega) e (by omega)
      rw [h1, bmEs_at e (by omega) e he, if_neg (show ¬ e < e by omega)]
    · have : od (bmE mo n (itr (bmE mo) f n)) e 2 = od (itr (bmE mo) f n) e 2 := bmE_n (by omega)
      rw [this, bmEs_at n (by omega) e he]
      by_cases z : e < n
      · rw [if_pos z, if_pos (by omega)]
      · rw [if_neg z, if_neg (by omega)]
theorem bmo_kd (hn : nc ≤ 8) (he : ne ≤ 4) (hc : c < 8) (hw : w < 10) : kd (bmo f nc ne) c w = if c < nc then bmV f c w else kd f c w := by
  unfold bmo
  have e : ∀ w, w < 10 → kd (itr (bmE (f 97 + 1)) (upd f 97 (f 97 + 1)) ne) c w = kd f c w := by
    intro w hw
    unfold kd
    rw [bmEs_o (fun q _ => by omega) ne he, pk_un (by omega)]
  rw [bms_at nc hn c hc w hw, bmV_congr e hw, e w hw]
theorem bmo_od (hn : nc ≤ 8) (he : ne ≤ 4) (hc : e < 4) : od (bmo f nc ne) e 2 = if e < ne then elV f (f 97 + 1) e else od f e 2 := by
  unfold bmo
  have e1 : od (itr bmC (itr (bmE (f 97 + 1)) (upd f 97 (f 97 + 1)) ne) nc) e 2 = od (itr (bmE (f 97 + 1)) (upd f 97 (f 97 + 1)) ne) e 2 := bmCs_o (by omega) nc hn
  have e2 : ∀ w, w < 3 → od (upd f 97 (f 97 + 1)) e w = od f e w := fun w hw => pk_un (by omega)
  rw [e1, bmEs_at ne he e hc]
  unfold elV
  rw [e2 1 (by decide), e2 2 (by decide)]
theorem bmo_hi {k : Nat} (hn : nc ≤ 8) (he : ne ≤ 4) (hk : 80 ≤ k) (h : ∀ q, q < 4 → k ≠ 80 + 3 * q + 2) (h7 : k ≠ 97) : bmo f nc ne k = f k := by
  unfold bmo
  rw [bmCs_o hk nc hn, bmEs_o h ne he, pk_un h7]
theorem bmo_97 (hn : nc ≤ 8) (he : ne ≤ 4) : bmo f nc ne 97 = f 97 + 1 := by
  unfold bmo
  rw [bmCs_o (by decide) nc hn, bmEs_o (fun q _ => by omega) ne he, pk_us]
theorem half_fin : ∀ k, k < 10 → nI (2 ^ k - 1) >>> (1 &&& 31) = nI (2 ^ (k - 1) - 1) := by decide
theorem WF_bmo (hf : WF f nc ne B) : WF (bmo f nc ne) nc ne (B + 1) := by
  obtain ⟨h1, h2, h3, h4, h5, h6, h7, h8, h9, ⟨y, y1, y2⟩, h11⟩ := hf
  have hn8 := h1.2
  have hi : ∀ k, 92 ≤ k → k ≠ 97 → bmo f nc ne k = f k := fun k hk hk' => bmo_hi hn8 h2 (by omega) (fun q _ => by omega) hk'
  refine ⟨h1, h2, ?_, ?_, ?_, ?_, ?_, ?_, ?_, ?_, ?_⟩
  · rw [hi 95 (by decide) (by decide)]; exact h3
  · rw [hi 96 (by decide) (by decide)]; exact h4
  · intro c hc
    obtain ⟨⟨a0, a1, a2⟩, ⟨b0, b1, b2⟩, ⟨c0, c1, c2⟩, d3, d4, d5, d6, d8⟩ := h5 c hc
    have e : ∀ w, w < 10 → kd (bmo f nc ne) c w = bmV f c w := fun w hw => by rw [bmo_kd hn8 h2 (by omega) hw, if_pos hc]
    unfold wfC
    rw [e 0 (by decide), e 1 (by decide), e 2 (by decide), e 3 (by decide), e 4 (by decide), e 5 (by decide), e 6 (by decide), e 7 (by decide), e 8 (by decide)]
    refine ⟨⟨a0 + 1, by omega, ?_⟩, ?_, ?_, d3, d4, d5, ?_, d8⟩
    · show kd f c 0 + 1 = _
      rw [a2, nI_1]
    · show ∃ a, a < 512 ∧ ln1 f c = nI a
      unfold ln1
      split
      · exact ⟨b0, b1, b2⟩
      · split
        · rcases d6 with q | ⟨⟨t, t1, t2⟩, _⟩
          · next h _ => exact absurd q.1 h
          · rw [b2, t2]; exact or_tn b1 t1
        · exact ⟨b0, b1, b2⟩
    · show ∃ a, a < 512 ∧ ln2 f c = nI a
      unfold ln2
      split
      · exact ⟨c0, c1, c2⟩
      · split
        · rw [c2]; exact and_lt _ c1
        · exact ⟨c0, c1, c2⟩
    · show ln6 f c = -1 ∧ ln7 f c = 0 ∨ (∃ a, a < 9 ∧ ln6 f c = nI a) ∧ ∃ a, 1 ≤ a ∧ a < 10 ∧ ln7 f c = nI a
      unfold ln6 ln7
      rcases d6 with q | ⟨⟨t, t1, t2⟩, ⟨k, k0, k1, k2⟩⟩
      · rw [if_pos q.1, if_pos q.1]; exact Or.inl ⟨rfl, q.2⟩
      · have n6 : ¬ kd f c 6 = -1 := by rw [t2]; exact nI_m1 (by omega)
        rw [if_neg n6, if_neg n6, k2, show (1 : Int32) = nI 1 from rfl, pk_sub k0]
        by_cases z : k = 1
        · subst z; rw [if_pos (by decide), if_pos (by decide)]; exact Or.inl ⟨rfl, rfl⟩
        · have : ¬ nI (k - 1) ≤ 0 := nI_nle (by omega) (by omega)
          rw [if_neg this, if_neg this]
          exact Or.inr ⟨⟨t, t1, t2⟩, k - 1, by omega, by omega, rfl⟩
  · intro e he
    obtain ⟨p1, ⟨k, k1, k2⟩⟩ := h6 e he
    unfold wfE
    have o1 : od (bmo f nc ne) e 1 = od f e 1 := bmo_hi hn8 h2 (by omega) (fun q _ => by omega) (by omega)
    rw [o1, bmo_od hn8 h2 (by omega), if_pos he]
    refine ⟨p1, ?_⟩
    unfold elV
    split
    · exact ⟨k, k1, k2⟩
    · split
      · rw [k2, half_fin k k1]; exact ⟨k - 1, by omega, rfl⟩
      · exact ⟨k, k1, k2⟩
  · rw [hi 92 (by decide) (by decide)]; exact h7
  · rw [hi 93 (by decide) (by decide)]; exact h8
  · rw [hi 94 (by decide) (by decide)]; exact h9
  · rw [bmo_97 hn8 h2, y2, nI_1]; exact ⟨y + 1, by omega, rfl⟩
  · rw [hi 98 (by decide) (by decide)]; exact h11
/-- who rules behind a month; the row then, before anything is paid -/
def nmo (f : Nat → Int32) (nc ne : Nat) : Nat → Int32 := crn (bmo f nc ne) (trW (bmo f nc ne) 0 ne) nc
theorem rbV_I {r cl mo : Int32} (hr : isI r n) (hl : isI cl n) : isI (rbV f r cl mo) n := by
  unfold rbV
  split
  · exact hl
  · split
    · exact hl
    · split
      · exact hr
      · split
        · exact hr
        · exact hl
theorem WF_98 (hf : WF f nc ne B) (hx : isI x nc) : WF (upd f 98 x) nc ne B := by
  obtain ⟨h1, h2, h3, h4, h5, h6, h7, h8, h9, h10, h11⟩ := hf
  have k : ∀ c w, c < 8 → w < 10 → kd (upd f 98 x) c w = kd f c w := fun c w hc hw => pk_un (by omega)
  have o : ∀ e w, e < 4 → w < 3 → od (upd f 98 x) e w = od f e w := fun e w he hw => pk_un (by omega)
  refine ⟨h1, h2, ?_, ?_, ?_, ?_, ?_, ?_, ?_, ?_, ?_⟩
  · rw [pk_un (by decide)]; exact h3
  · rw [pk_un (by decide)]; exact h4
  · intro c hc
    have := h5 c hc
    have hc8 : c < 8 := by omega
    unfold wfC at this ⊢
    rw [k c 0 hc8 (by decide), k c 1 hc8 (by decide), k c 2 hc8 (by decide), k c 3 hc8 (by decide), k c 4 hc8 (by decide), k c 5 hc8 (by decide), k c 6 hc8 (by decide), k c 7 hc8 (by decide), k c 8 hc8 (by decide)]
    exact this
  · intro e he
    have := h6 e he
    unfold wfE at this ⊢
    rw [o e 1 (by omega) (by decide), o e 2 (by omega) (by decide)]
    exact this
  · rw [pk_un (by decide)]; exact h7
  · rw [pk_un (by decide)]; exact h8
  · rw [pk_un (by decide)]; exact h9
  · rw [pk_un (by decide)]; exact h10
  · rw [pk_us]; exact hx
theorem WF_crn {tr : Int32} (hf : WF f nc ne B) : WF (crn f tr nc) nc ne B := WF_98 hf (rbV_I hf.2.2.2.2.2.2.2.2.2.2 clT_I)
theorem WF_nmo (hf : WF f nc ne B) : WF (nmo f nc ne) nc ne (B + 1) := WF_crn (WF_bmo hf)
theorem StE_bmo (hn : nc ≤ 8) (he : ne ≤ 4) : StE f (bmo f nc ne) := by
  intro k hk
  unfold stc at hk
  by_cases q : k < 80
  · simp [q] at hk
    have hk' : k % 10 = 3 ∨ k % 10 = 4 ∨ k % 10 = 5 := by omega
    have e : k = 10 * (k / 10) + k % 10 := by omega
    have hc : k / 10 < 8 := by omega
    have h := bmo_kd (f := f) hn he hc (show k % 10 < 10 by omega)
    unfold kd at h
    rw [← e] at h
    rw [h]
    split
    · unfold bmV kd
      rw [if_neg (by omega), if_neg (by omega), if_neg (by omega), if_neg (by omega), if_neg (by omega), ← e]
    · rfl
  · refine bmo_hi hn he (by omega) (fun q' hq' => ?_) (fun z => by subst z; simp at hk)
    intro z
    subst z
    simp at hk
    omega
theorem StE_98 (h : StE f f') : StE f (upd f' 98 x) := fun k hk => by
  rw [pk_un (fun z => by subst z; exact absurd hk (by decide))]
  exact h k hk
theorem StE_nmo (hn : nc ≤ 8) (he : ne ≤ 4) : StE f (nmo f nc ne) := StE_98 (StE_bmo hn he)
end
