/-! laws' texts: pieces joined by signs -/
section
variable {nl B B' : Nat} {ln : Nat → Nat} {m m1 m2 m' mc mm mc0 mm0 mc1 mm1 mc2 mm2 : Sg} {j w u : Nat} {a a1 a2 a3 a4 r x c v v1 v2 op : Int32} {L p q k k1 k2 i n off b N t P d f g p' n' : Nat} {tx lt F G : Nat → Int32} {z : Bool} {s s1 s2 : List Int32}
theorem chr_m1 (h : ¬ chr tx L q = -1) : q < L := by
  rcases Nat.lt_or_ge q L with y | y
  · exact y
  · exact absurd (by unfold chr; rw [if_neg (by omega)]) h
theorem PW_to (h : PW L lt k d p n mc p' v mc1 mm1) (hp : p' ≤ q) (hq : q ≤ L) : PW L lt k d p n mc q v (wr mc1 11 1 (nI q)) (wr mm1 27 10 (nI q)) := by
  obtain ⟨s, h1, ⟨t1, t2, t3, t4, t5, t6, t7, t8⟩, h3, h4, h5, h6⟩ := h
  exact ⟨s, by omega, ⟨by rw [wr_at, pk_us], by rw [wr_at, pk_un (by decide)]; exact t2, hq, by rw [wr_at, pk_us], by rw [wr_at, pk_un (by decide)]; exact t5, by rw [wr_at, pk_un (by decide)]; exact t6, by rw [wr_ne (by decide)]; exact t7, by omega⟩, by rw [wr_ne (by decide)]; exact h3, fun i hi => by rw [wr_ne (by decide)]; exact h4 i hi, h5, h6⟩
/-- a piece's codes, a second piece's, a sign -/
theorem bin_w (h1 : s1.length + p ≤ p') (hq : p' ≤ q) (h3 : At (mc1.1 12) n s1) (h4 : ∀ i, i < n → mc1.1 12 i = mc.1 12 i) (h5 : ∀ c, c ∈ s1 → CO c) (h6 : EV lt s1 v1 k) (hk : k2 + 1 ≤ k) (hb : b < 256) (h59 : b ≠ 59) (h63 : b ≠ 63) (h33 : b ≠ 33) (hs : spt 1 (nI b) = -1) (e2 : mc2.1 12 = mc1.1 12) (g1 : s2.length + (q + 1) ≤ t) (g2 : LSt L d t (n + s1.length + s2.length) m mm) (g3 : At (m.1 12) (n + s1.length) s2) (g4 : ∀ i, i < n + s1.length → m.1 12 i = mc2.1 12 i) (g5 : ∀ c, c ∈ s2 → CO c) (g6 : EV lt s2 v2 k2) (hn : n ≤ p) (hL : L ≤ 240) : f_X6_writeSign m (nI b) = some (wr (wr m 12 (n + s1.length + s2.length) (nI (10000 + b))) 10 2 (nI (n + s1.length + s2.length + 1))) ∧ PW L lt k d p n mc t (reck v1 (nI b) v2) (wr (wr m 12 (n + s1.length + s2.length) (nI (10000 + b))) 10 2 (nI (n + s1.length + s2.length + 1))) mm := by
  obtain ⟨t1, t2, t3, t4, t5, t6, t7, t8⟩ := g2
  constructor
  · rw [cws_v t7 (by omega), show (10000 : Int32) = nI 10000 from rfl, nI_add]
  · have el : (s1 ++ s2 ++ [nI (10000 + b)]).length = s1.length + s2.length + 1 := by rw [List.length_append, List.length_append]; rfl
    refine ⟨s1 ++ s2 ++ [nI (10000 + b)], by rw [el]; omega, ?_, ?_, ?_, ?_, ?_⟩
    · rw [el, show n + (s1.length + s2.length + 1) = n + s1.length + s2.length + 1 by omega]
      exact LSt_w ⟨t1, t2, t3, t4, t5, t6, t7, t8⟩ (by omega)
    · rw [w12]
      refine At_app (At_app (At_eq h3 fun i hi => ?_) (At_eq g3 fun i hi => ?_)) ?_
      · rw [pk_un (by omega), g4 i hi, e2]
      · rw [pk_un (by omega)]
      · rw [List.length_append, ← Nat.add_assoc]
        exact At_w
    · intro i hi
      rw [w12, pk_un (by omega), g4 i (by omega), e2, h4 i hi]
    · intro c hc
      rw [List.mem_append, List.mem_append] at hc
      rcases hc with (hc | hc) | hc
      · exact h5 c hc
      · exact g5 c hc
      · have : c = nI (10000 + b) := by simpa using hc
        subst this
        exact .inr ⟨b, hb, h59, h63, rfl⟩
    · have := EV_bin (c := nI (10000 + b)) (k := k) h6 g6 (Nat.le_refl _) hk (by omega) (by rw [co_sub]; exact nI_pos (by omega)) (by rw [co_sub, hs]; decide) (by rw [co_sub]; exact fun e => h33 ((nI_eq (b := 33) (by omega) (by decide)).mp e))
      rw [co_sub] at this
      exact this
/-- a loop over signs, both -/
theorem bin_s {cS : Sg × Int32 → Option (Sg ⊕ (Sg × Int32))} {mS : Sg × Int32 → Option ((Sg × Int32) ⊕ (Sg × Int32))} {RC RM : Sg → Option (Int32 × Sg)} {Q isOp : Int32 → Prop} (T : Tx tx L mc) (M : Mx tx L z off mm) (hnp : n ≤ p) (hk : k2 + 1 ≤ k)
  (IH : ∀ (mc mm : Sg) p n, Tx tx L mc → Mx tx L z off mm → LSt L d p n mc mm → ∃ r v mc' mm', RC mc = some (r, mc') ∧ RM mm = some (v, mm') ∧ Q v ∧ PO L (l6m (mm.1 31)) k2 d p n mc mm v mc' mm')
  (hop : ∀ c, isOp c → ∃ b, b < 256 ∧ c = nI b ∧ b ≠ 59 ∧ b ≠ 63 ∧ b ≠ 33 ∧ spt 1 c = -1)
  (hQ : ∀ c v1 v2, isOp c → Q v1 → Q v2 → Q (reck v1 c v2))
  (h240 : ∀ m, cS (m, nI 240) = some (.inl m))
  (hcb : ∀ m i, i < 240 → FL m → cS (m, nI i) = some (.inl m))
  (hmb : ∀ (m : Sg) v, ¬ m.1 27 11 = -1 → mS (m, v) = some (.inl (m, v)))
  (hcs : ∀ (m : Sg) i q, i < 240 → Tx tx L m → m.1 11 1 = nI q → q ≤ L → m.1 11 2 = -1 → ¬ isOp (chr tx L (sk tx L q)) → cS (m, nI i) = some (.inl (wr m 11 1 (nI (sk tx L q)))))
  (hct : ∀ (m : Sg) i q r m2 m3, i < 240 → Tx tx L m → m.1 11 1 = nI q → q ≤ L → m.1 11 2 = -1 → isOp (chr tx L (sk tx L q)) → RC (wr m 11 1 (nI (sk tx L q + 1))) = some (r, m2) → f_X6_writeSign m2 (chr tx L (sk tx L q)) = some m3 → cS (m, nI i) = some (.inr (m3, nI (i + 1))))
  (hms : ∀ (m : Sg) v q, Mx tx L z off m → m.1 27 10 = nI q → q ≤ L → m.1 27 11 = -1 → ¬ isOp (chr tx L (sk tx L q)) → mS (m, v) = some (.inl (wr m 27 10 (nI (sk tx L q)), v)))
  (hmt : ∀ (m : Sg) v q x m2, Mx tx L z off m → m.1 27 10 = nI q → q ≤ L → m.1 27 11 = -1 → isOp (chr tx L (sk tx L q)) → RM (wr m 27 10 (nI (sk tx L q + 1))) = some (x, m2) → Q v → Q x → mS (m, v) = some (.inr (m2, reck v (chr tx L (sk tx L q)) x))) :
  ∀ F (mc1 mm1 : Sg) v1 i, 242 ≤ F + i → i ≤ 240 → Fr sK mc mc1 → Fr sL mm mm1 → Q v1 → ((∃ p1, i ≤ p1 ∧ PW L (l6m (mm.1 31)) k d p n mc p1 v1 mc1 mm1) ∨ LWb mc1 mm1) → ∃ mc' mm' v', lpO cS F (mc1, nI i) = some mc' ∧ lpO mS F (mm1, v1) = some (mm', v') ∧ Q v' ∧ PO L (l6m (mm.1 31)) k d p n mc mm v' mc' mm'
  | 0, mc1, mm1, v1, i, hF, hi, fc, fm, hq, h => absurd hF (by omega)
  | F + 1, mc1, mm1, v1, i, hF, hi, fc, fm, hq, h => by
    have l240 := T.1
    have T1 := sK_Tx T fc
    have M1 := sL_Mx M fm
    rcases h with ⟨p1, ip, hw⟩ | hw
    · have hw0 := hw
      obtain ⟨s1, h1, ⟨t1, t2, t3, t4, t5, t6, t7, t8⟩, h3, h4, h5, h6⟩ := hw0
      have qge := sk_ge (tx := tx) (L := L) (p := p1)
      have qle := sk_le (tx := tx) t3
      by_cases y : i = 240
      · have nop : ¬ isOp (chr tx L (sk tx L p1)) := fun o => by
          obtain ⟨b, b1, b2, _⟩ := hop _ o
          have : chr tx L (sk tx L p1) = -1 := by unfold chr; rw [if_neg (by omega)]
          rw [this] at b2
          exact nI_m1 (by omega) b2.symm
        have e1 := hms mm1 v1 p1 M1 t4 t3 t5 nop
        have e2 : sk tx L p1 = p1 := by omega
        rw [e2, ← t4, wr_same] at e1
        subst y
        exact ⟨mc1, mm1, v1, by rw [lpO, h240], by rw [lpO, e1], hq, fc, fm, .inl ⟨p1, hw⟩⟩
      · by_cases op : isOp (chr tx L (sk tx L p1))
        · obtain ⟨b, b1, b2, b3, b4, b5, b6⟩ := hop _ op
          have qL : sk tx L p1 < L := chr_m1 (by rw [b2]; exact nI_m1 (by omega))
          obtain ⟨r, v, mc3, mm3, r1, r2, r3, g1, g2, g3⟩ := IH (wr mc1 11 1 (nI (sk tx L p1 + 1))) (wr mm1 27 10 (nI (sk tx L p1 + 1))) (sk tx L p1 + 1) (n + s1.length) (Tx_wr T1 (by decide) (by decide)) (Mx_wr M1 (by decide) (by decide) (by decide)) ⟨by rw [wr_at, pk_us], by rw [wr_at, pk_un (by decide)]; exact t2, by omega, by rw [wr_at, pk_us], by rw [wr_at, pk_un (by decide)]; exact t5, by rw [wr_at, pk_un (by decide)]; exact t6, by rw [wr_ne (by decide)]; exact t7, by omega⟩
          have e31 : (wr mm1 27 10 (nI (sk tx L p1 + 1))).1 31 = mm.1 31 := by
            rw [wr_ne (by decide)]
            exact funext fun i => fm.1 31 i rfl
          rw [e31] at g3
          have em := hmt mm1 v1 p1 v mm3 M1 t4 t3 t5 op r2 hq r3
          have fm3 : Fr sL mm mm3 := (fm.tr (Fr.w1 rfl)).tr g2
          have fc3 : Fr sK mc mc3 := (fc.tr (Fr.w1 rfl)).tr g1
          rcases g3 with ⟨p3, s2, a1, a2, a3, a4, a5, a6⟩ | hb3
          · rw [b2] at b6
            have hnL : n + s1.length + s2.length + 1 ≤ 240 := by have := a2.2.2.1; omega
            obtain ⟨w1, w2⟩ := bin_w (mc := mc) (mc2 := wr mc1 11 1 (nI (sk tx L p1 + 1))) h1 qge h3 h4 h5 h6 hk b1 b3 b4 b5 b6 (wr_ne (by decide)) a1 a2 a3 a4 a5 a6 hnp l240
            rw [← b2] at w1 w2
            have ec := hct mc1 i p1 r mc3 _ (by omega) T1 t1 t3 t2 op r1 w1
            obtain ⟨mc', mm', v', z1, z2, z3, z4⟩ := bin_s T M hnp hk IH hop hQ h240 hcb hmb hcs hct hms hmt F _ mm3 _ (i + 1) (by omega) (by omega) (fc3.tr fr_w12) fm3 (hQ _ _ _ op hq r3) (.inl ⟨p3, by omega, w2⟩)
            exact ⟨mc', mm', v', by rw [lpO, ec]; exact z1, by rw [lpO, em]; exact z2, z3, z4⟩
          · obtain ⟨mc4, w1, w2⟩ := fws_b (a := chr tx L (sk tx L p1)) (LWb_FL hb3)
            have ec := hct mc1 i p1 r mc3 _ (by omega) T1 t1 t3 t2 op r1 w1
            obtain ⟨mc', mm', v', z1, z2, z3, z4⟩ := bin_s T M hnp hk IH hop hQ h240 hcb hmb hcs hct hms hmt F mc4 mm3 _ (i + 1) (by omega) (by omega) (fc3.tr w2.1) fm3 (hQ _ _ _ op hq r3) (.inr (LWb_FO hb3 w2))
            exact ⟨mc', mm', v', by rw [lpO, ec]; exact z1, by rw [lpO, em]; exact z2, z3, z4⟩
        · exact ⟨_, _, v1, by rw [lpO, hcs mc1 i p1 (by omega) T1 t1 t3 t2 op], by rw [lpO, hms mm1 v1 p1 M1 t4 t3 t5 op], hq, fc.tr (Fr.w1 rfl), fm.tr (Fr.w1 rfl), .inl ⟨_, PW_to hw qge qle⟩⟩
    · have ec : cS (mc1, nI i) = some (.inl mc1) := by
        by_cases y : i = 240
        · rw [y]; exact h240 mc1
        · exact hcb mc1 i (by omega) (LWb_FL hw)
      exact ⟨mc1, mm1, v1, by rw [lpO, ec], by rw [lpO, hmb mm1 v1 (LWb_m hw)], hq, fc, fm, .inr hw⟩
theorem either_v (T : Tx tx L m) (hp : m.1 11 1 = nI p) (hL : p ≤ L) (hf : m.1 11 2 = -1) : f_X6_isEither m a1 a2 = some (if chr tx L (sk tx L p) = a1 ∨ chr tx L (sk tx L p) = a2 then 1 else 0, wr m 11 1 (nI (sk tx L p))) := by
  unfold f_X6_isEither
  rw [peek_v T (by decide) (by decide) hp hL hf, cal_eq, bnd_eq]
  by_cases y1 : chr tx L (sk tx L p) = a1
  · rw [if_pos y1, if_pos (.inl y1)]
  · rw [if_neg y1]
    by_cases y2 : chr tx L (sk tx L p) = a2
    · rw [if_pos y2, if_pos (.inr y2)]
    · rw [if_neg y2, if_neg (fun o => o.elim y1 y2)]
end
