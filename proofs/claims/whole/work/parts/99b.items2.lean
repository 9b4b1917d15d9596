/-! texts of counties: items side by side -/
section
variable {nl B B' : Nat} {ln : Nat → Nat} {m m1 m2 m' mc mm mc0 mm0 : Sg} {j w u : Nat} {a a1 a2 a3 a4 r x c lo hi s : Int32} {L p q k i n off b N t1 t2 t3 cnt base : Nat} {tx : Nat → Int32} {z : Bool}
/-- what reading items changes in the model -/
def sW (w : Nat) (a b : Nat) : Bool := (a == 27 && (b == 10 || b == 11)) || a == w
/-- both between two items -/
def RI (tx : Nat → Int32) (L k t1 t2 w base : Nat) (mc0 mm0 : Sg) (s : Sg × Int32 × Int32) (t : Sg × Int32 × Int32) : Prop :=
  t.2.1 = s.2.1 ∧ (∃ cnt, s.2.2 = nI cnt ∧ cnt ≤ cM s.2.1 (strN k)) ∧ Tx tx L s.1 ∧ Mx tx L false 0 t.1 ∧ Fr s9 mc0 s.1 ∧ Fr (sW w) mm0 t.1 ∧
  ((∃ p, s.1.1 8 1 = nI p ∧ s.1.1 8 2 = -1 ∧ p ≤ L ∧ t.1.1 27 10 = nI (sk tx L p) ∧ t.1.1 27 11 = -1 ∧ t.2.2 = spt k (chr tx L (sk tx L p)) ∧ (∀ i, i < strN k → s.1.1 9 i = t.1.1 w (base + i) ∧ ¬ s.1.1 9 i < tab t1 i ∧ ¬ tab t2 i < s.1.1 9 i) ∧ ∀ j, j < base ∨ base + strN k ≤ j → t.1.1 w j = mm0.1 w j) ∨ (∃ e, s.1.1 8 2 = nI e ∧ t.1.1 27 11 = nI e ∧ e < 2 ^ 31 ∧ ¬ t.2.2 = -1))
/-- both after a clause's items: all well at p, or wrong at e -/
def OI (tx : Nat → Int32) (L k t1 t2 w base : Nat) (mc0 mm0 : Sg) (mc mm : Sg) : Prop :=
  Tx tx L mc ∧ Mx tx L false 0 mm ∧ Fr s9 mc0 mc ∧ Fr (sW w) mm0 mm ∧
  ((∃ p, mc.1 8 1 = nI p ∧ mc.1 8 2 = -1 ∧ p ≤ L ∧ mm.1 27 10 = nI p ∧ mm.1 27 11 = -1 ∧ (∀ i, i < strN k → mc.1 9 i = mm.1 w (base + i) ∧ ¬ mc.1 9 i < tab t1 i ∧ ¬ tab t2 i < mc.1 9 i) ∧ ∀ j, j < base ∨ base + strN k ≤ j → mm.1 w j = mm0.1 w j) ∨ (∃ e, mc.1 8 2 = nI e ∧ mm.1 27 11 = nI e ∧ e < 2 ^ 31))
def QI (tx : Nat → Int32) (L k t1 t2 w base : Nat) (mc0 mm0 : Sg) : Sg ⊕ Sg ⊕ Sg → Sg ⊕ Sg → Prop
  | .inl mc, .inr mm => OI tx L k t1 t2 w base mc0 mm0 mc mm
  | .inr (.inl mc), .inl mm => OI tx L k t1 t2 w base mc0 mm0 mc mm ∧ mc.1 8 2 = -1
  | _, _ => False
def itK (t1 t2 : Nat) (x4 x5 : Int32) : Sg × Int32 → Option ((Sg ⊕ Sg ⊕ Sg) ⊕ (Sg × Int32 × Int32)) := fun ((m15, x16) : Sg × Int32) => (if x16 < 0 then some (.inl (.inl m15)) else
  (if 6 ≤ x16 then some (.inl (.inl m15)) else
  (if (Int32.ofNat (tabN t1)) ≤ x16 then some (.inl (.inl m15)) else
  (if x16 < (Int32.ofNat (tabN t2)) then (if ((x4 >>> (x16 &&& 31)) &&& 1) = 0 then calv (f_X2_step 8 m15) (fun m19 => cal (f_X2_number 8 m19 2) (fun x21 m20 => if inr x16 6 = true then (fun m22 => if inr x16 6 = true then if inr x16 (tabN t1) = true then bnd (fun (m26 : Sg) => calv (f_X2_failAtLastDigit 8 m26) (fun m28 => some (.inr (m28, x4 ||| tn x16, x5 + 1)))) (fun (k27 : Sg → Option (((Sg) ⊕ (Sg) ⊕ (Sg)) ⊕ (Sg × Int32 × Int32))) =>
  (if (m22.1 9 x16.toNatClampNeg) < (tab t1 x16.toNatClampNeg) then k27 m22 else
  if inr x16 6 = true then if inr x16 (tabN t2) = true then (if (m22.1 9 x16.toNatClampNeg) ≤ (tab t2 x16.toNatClampNeg) then some (.inr (m22, x4 ||| tn x16, x5 + 1)) else
  k27 m22) else none else none)) else none else none) (wr m20 9 x16.toNatClampNeg x21) else none)) else
  some (.inl (.inr (.inl m15)))) else
  some (.inl (.inl m15))))))
theorem Mx_w (M : Mx tx L false 0 m) (hw : w = 33 ∨ w = 35 ∨ w = 37) {v : Int32} {k : Nat} : Mx tx L false 0 (wr m w k v) := by
  have h1 : (27 : Nat) ≠ w := by omega
  have h2 : rwZ false ≠ w := by show 28 ≠ w; omega
  exact ⟨M.1, by rw [wr_ne h1]; exact M.2.1, by rw [wr_ne h1]; exact M.2.2.1, by rw [wr_ne h1]; exact M.2.2.2.1, fun q hq => by rw [wr_ne h2]; exact M.2.2.2.2 q hq⟩
theorem sim_step (hb : Bt tx L) (hK : KK k t1 t2 t3 a1) (hw : w = 33 ∨ w = 35 ∨ w = 37) (hn : base + strN k ≤ n) (hn48 : n ≤ 48) (s t : Sg × Int32 × Int32) (h : RI tx L k t1 t2 w base mc0 mm0 s t) :
    (∃ x y, f_X1_readItems_L19 k t1 t2 s = some (.inl x) ∧ f_X11_readItems_L45 w n k a1 (nI base) t = some (.inl y) ∧ QI tx L k t1 t2 w base mc0 mm0 x y) ∨ (∃ s' t', f_X1_readItems_L19 k t1 t2 s = some (.inr s') ∧ f_X11_readItems_L45 w n k a1 (nI base) t = some (.inr t') ∧ RI tx L k t1 t2 w base mc0 mm0 s' t' ∧ 8 - s'.2.2.toNatClampNeg < 8 - s.2.2.toNatClampNeg) := by
  obtain ⟨mc, mask, cn⟩ := s
  obtain ⟨mm, mask', sp⟩ := t
  obtain ⟨h1, ⟨cnt, h2, h3⟩, T, M, fc, fm, h4⟩ := h
  dsimp only at h1 h2 h3 T M fc fm h4
  subst h1
  subst h2
  obtain ⟨k5, k0, kt1, kt2, kt3, kf, kr⟩ := hK
  have h6 := str6 k
  have cl := cM_le (s := mask') (strN k)
  have ncl : ¬ nI (strN k) < nI cnt := nI_nlt (by omega) (by omega)
  have l240 := T.1
  rcases h4 with ⟨p, p1, p2, p3, p4, p5, p6, p7, p8⟩ | ⟨e, e1, e2, e3, e4⟩
  · subst p6
    have le := sk_le (tx := tx) p3
    have pk := peek_v T (show 8 ≠ 1 by decide) (show 8 ≠ 2 by decide) p1 p3 p2
    have T1 : Tx tx L (wr mc 8 1 (nI (sk tx L p))) := Tx_wr T (by decide) (by decide)
    have f1 : Fr s9 mc0 (wr mc 8 1 (nI (sk tx L p))) := fc.tr (Fr.w1 rfl)
    have c81 : (wr mc 8 1 (nI (sk tx L p))).1 8 1 = nI (sk tx L p) := by rw [wr_at, pk_us]
    have c82 : (wr mc 8 1 (nI (sk tx L p))).1 8 2 = -1 := by rw [wr_at, pk_un (by decide)]; exact p2
    have c9 : (wr mc 8 1 (nI (sk tx L p))).1 9 = mc.1 9 := wr_ne (by decide)
    -- the component's letter
    have lett : ∀ {ρ : Type} (G : Sg × Int32 → Option ρ), (if 0 ≤ chr tx L (sk tx L p) then cal (f_J0_indexOf_0f7a4 k (wr mc 8 1 (nI (sk tx L p))) (((chr tx L (sk tx L p) : Int32).toUInt32 % 65536).toInt32)) (fun x30 m29 => G (m29, x30)) else G (wr mc 8 1 (nI (sk tx L p)), (-1))) = G (wr mc 8 1 (nI (sk tx L p)), spt k (chr tx L (sk tx L p))) := by
      intro ρ G
      by_cases y : sk tx L p < L
      · obtain ⟨b, b1, b2, b3⟩ := hb _ y
        have ec : chr tx L (sk tx L p) = nI b := by unfold chr; rw [if_pos y, b3]
        rw [ec, if_pos (show (0 : Int32) ≤ nI b from nI_le (a := 0) (by omega) (by omega)), cspot_v k5 b2 k0, cal_eq]
      · have ec : chr tx L (sk tx L p) = -1 := by unfold chr; rw [if_neg y]
        rw [ec, if_neg (by decide), spt_m1 k5]
    have st : f_X1_readItems_L19 k t1 t2 (mc, mask', nI cnt) = itK t1 t2 mask' (nI cnt) (wr mc 8 1 (nI (sk tx L p)), spt k (chr tx L (sk tx L p))) := by
      unfold f_X1_readItems_L19
      dsimp only
      rw [len_v, cal_eq, if_neg ncl, pk, cal_eq]
      exact lett (itK t1 t2 mask' (nI cnt))
    rw [st]
    rcases spt_cases k (chr tx L (sk tx L p)) with y | ⟨i, i1, i2, i3⟩
    · left
      rw [y]
      refine ⟨.inl (wr mc 8 1 (nI (sk tx L p))), .inr mm, ?_, ?_, T1, M, f1, fm, Or.inl ⟨sk tx L p, c81, c82, le, p4, p5, ?_, p8⟩⟩
      · unfold itK
        dsimp only
        rw [if_pos (by decide)]
      · simp only [f_X11_readItems_L45, ↓reduceIte]
      · intro i hi; rw [c9]; exact p7 i hi
    · rw [i2]
      have i6 : i < 6 := by omega
      have n1 : ¬ nI i < 0 := nI_pos (by omega)
      have n2 : ¬ (6 : Int32) ≤ nI i := ix_lt (n := 6) i6 (by decide)
      have n3 : ¬ (Int32.ofNat (strN k)) ≤ nI i := ix_lt i1 (by omega)
      have n4 : nI i < (Int32.ofNat (strN k)) := nI_lt i1 (by omega)
      have nm1 : ¬ nI i = -1 := nI_m1 (by omega)
      have skL : sk tx L p < L := by
        rcases Nat.lt_or_ge (sk tx L p) L with y | y
        · exact y
        · obtain ⟨s, s1, s2⟩ := strB_ok k5 i1
          unfold chr at i3
          rw [if_neg (by omega), s2] at i3
          exact absurd i3 (nI_m1 (by omega))
      by_cases y : b0 mask' i
      · right
        have T2 : Tx tx L (wr mc 8 1 (nI (sk tx L p + 1))) := Tx_wr T (by decide) (by decide)
        obtain ⟨mc', x1, x2, x3, x4⟩ := citem_v (tx := tx) (L := L) (p := sk tx L p + 1) (i := i) (lo := tab t1 i) (hi := tab t2 i) T2 (by rw [wr_at, pk_us]) (by omega) (by rw [wr_at, pk_un (by decide)]; exact p2) i6 (G := fun m28 => (some (.inr (m28, mask' ||| tn (nI i), nI (cnt + 1))) : Option ((Sg ⊕ Sg ⊕ Sg) ⊕ (Sg × Int32 × Int32))))
        have mi := mitem_v (w := w) (n := n) (i := base + i) (lo := tab t1 i) (hi := tab t2 i) hb M p4 skL p5 (by omega) (by omega)
        have clS : itK t1 t2 mask' (nI cnt) (wr mc 8 1 (nI (sk tx L p)), nI i) = some (.inr (mc', mask' ||| tn (nI i), nI (cnt + 1))) := by
          refine Eq.trans ?_ x1
          simp only [itK, kt1, kt2, if_neg n1, if_neg n2, if_neg n3, if_pos n4, if_pos y, f_X2_step, bnd_eq, calv_eq, c81, nI_1, wr_wr2, in_nI i6 (show 6 < 2 ^ 31 by decide), in_nI i1 (show strN k < 2 ^ 31 by omega), ↓reduceIte, nI_clamp (show i < 2 ^ 31 by omega)]
        have cM1 := cM_or (s := mask') (i := i) (by omega) y (strN k) (by omega)
        rw [if_pos i1] at cM1
        have base1 : nI base + nI i = nI (base + i) := nI_add _ _
        cases hw' : itW tx L (sk tx L p + 1) (tab t1 i) (tab t2 i) with
        | some e =>
          have eL := itW_lt (show sk tx L p + 1 ≤ L by omega) hw'
          rw [hw'] at x4 mi
          dsimp only at x4 mi
          have e11 : (wr (wr mm 27 10 (nI e)) 27 11 (nI e)).1 27 11 = nI e := by rw [wr_at, pk_us]
          refine ⟨_, (wr (wr mm 27 10 (nI e)) 27 11 (nI e), mask' ||| tn (nI i), nI i), clS, ?_, ⟨rfl, ⟨cnt + 1, rfl, ?_⟩, x2, Mx_wr (Mx_wr M (by decide) (by decide) (by decide)) (by decide) (by decide) (by decide), (fc.tr (Fr.w1 rfl)).tr x3, (fm.tr (Fr.w1 rfl)).tr (Fr.w1 rfl), Or.inr ⟨e, x4, e11, by omega, nm1⟩⟩, ?_⟩
          · simp only [f_X11_readItems_L45, if_neg nm1, if_pos p5, has_v, cal_eq, if_pos y, ↓reduceIte, bnd_eq, (kf _ i i1).1, (kf _ i i1).2.1, base1, mi, calv_eq, e11, if_neg (show ¬ nI e = -1 from nI_m1 (by omega))]
            rfl
          · dsimp only; omega
          · dsimp only
            rw [nI_clamp (by omega), nI_clamp (by omega)]; omega
        | none =>
          rw [hw'] at x4 mi
          dsimp only at x4 mi
          obtain ⟨x5, x6, x7⟩ := x4
          have sL := sk_le (tx := tx) (show sk tx L p + 1 ≤ L by omega)
          have EL := (nmF_le (tx := tx) (L := L) 2 (sk tx L (sk tx L p + 1)) 0 sL).2
          have inR : ¬ (nmF tx L 2 (sk tx L (sk tx L p + 1)) 0).1 < tab t1 i ∧ ¬ tab t2 i < (nmF tx L 2 (sk tx L (sk tx L p + 1)) 0).1 := by
            unfold itW at hw'
            by_cases d1 : dig (chr tx L (sk tx L (sk tx L p + 1))) = true
            · rw [if_pos d1] at hw'
              split at hw'
              · cases hw'
              · split at hw'
                · cases hw'
                · next z => exact ⟨fun q => z (Or.inl q), fun q => z (Or.inr q)⟩
            · rw [if_neg d1] at hw'; cases hw'
          generalize nmF tx L 2 (sk tx L (sk tx L p + 1)) 0 = E at *
          have w27 : (27 : Nat) ≠ w := by omega
          have M2 : Mx tx L false 0 (wr (wr mm 27 10 (nI E.2)) w (base + i) E.1) := Mx_w (Mx_wr M (by decide) (by decide) (by decide)) hw
          have e10 : (wr (wr mm 27 10 (nI E.2)) w (base + i) E.1).1 27 10 = nI E.2 := by rw [wr_ne w27, wr_at, pk_us]
          have e11 : (wr (wr mm 27 10 (nI E.2)) w (base + i) E.1).1 27 11 = -1 := by rw [wr_ne w27, wr_at, pk_un (by decide)]; exact p5
          have lk := look_v hb M2 e10 EL
          have ew : (wr (wr mm 27 10 (nI E.2)) w (base + i) E.1).1 w = upd (mm.1 w) (base + i) E.1 := by rw [wr_at, wr_ne (Ne.symm w27)]
          have fw : Fr (sW w) mm0 (wr (wr mm 27 10 (nI E.2)) w (base + i) E.1) := (fm.tr (Fr.w1 (by simp [sW]))).tr (Fr.w1 (by simp [sW]))
          generalize wr (wr mm 27 10 (nI E.2)) w (base + i) E.1 = mx at *
          have w2 : ∀ v, (wr mx 27 10 v).1 w = mx.1 w := fun v => wr_ne (Ne.symm w27)
          have c9' : (wr mc 8 1 (nI (sk tx L p + 1))).1 9 = mc.1 9 := wr_ne (by decide)
          refine ⟨_, (wr mx 27 10 (nI (sk tx L E.2)), mask' ||| tn (nI i), spt k (chr tx L (sk tx L E.2))), clS, ?_, ⟨rfl, ⟨cnt + 1, rfl, ?_⟩, x2, Mx_wr M2 (by decide) (by decide) (by decide), (fc.tr (Fr.w1 rfl)).tr x3, fw.tr (Fr.w1 (by simp [sW])), Or.inl ⟨E.2, x5, x6, EL, by rw [wr_at, pk_us], by rw [wr_at, pk_un (by decide)]; exact e11, rfl, ?_, ?_⟩⟩, ?_⟩
          · simp only [f_X11_readItems_L45, if_neg nm1, if_pos p5, has_v, cal_eq, if_pos y, ↓reduceIte, bnd_eq, (kf _ i i1).1, (kf _ i i1).2.1, base1, mi, calv_eq, if_pos e11, lk, mspot_v k5]
            rfl
          · dsimp only; omega
          · intro i' hi'
            dsimp only
            rw [w2, ew, x7, c9']
            by_cases e : i' = i
            · subst e
              rw [pk_us, pk_us]
              exact ⟨rfl, inR⟩
            · rw [pk_un e, pk_un (show base + i' ≠ base + i by omega)]
              exact p7 i' hi'
          · intro j hj
            dsimp only
            rw [w2, ew, pk_un (by omega)]
            exact p8 j hj
          · dsimp only
            rw [nI_clamp (by omega), nI_clamp (by omega)]; omega
      · left
        refine ⟨.inr (.inl (wr mc 8 1 (nI (sk tx L p)))), .inl mm, ?_, ?_, ⟨T1, M, f1, fm, Or.inl ⟨sk tx L p, c81, c82, le, p4, p5, ?_, p8⟩⟩, c82⟩
        · simp only [itK, kt1, kt2, if_neg n1, if_neg n2, if_neg n3, if_pos n4, if_neg y]
        · simp only [f_X11_readItems_L45, if_neg nm1, if_pos p5, has_v, cal_eq, if_neg y, n10, ↓reduceIte]
        · intro i hi; rw [c9]; exact p7 i hi
  · left
    have nf : ¬ mc.1 8 2 = -1 := by rw [e1]; exact nI_m1 e3
    refine ⟨.inl mc, .inr mm, ?_, ?_, T, M, fc, fm, Or.inr ⟨e, e1, e2, e3⟩⟩
    · unfold f_X1_readItems_L19
      dsimp only
      rw [len_v, cal_eq, if_neg ncl, peek_f nf, cal_eq]
      rw [bnd_eq, if_neg (show ¬ (0 : Int32) ≤ -1 by decide)]
      show itK t1 t2 mask' (nI cnt) (mc, -1) = _
      unfold itK
      dsimp only
      rw [if_pos (by decide)]
    · simp only [f_X11_readItems_L45, if_neg e4, e2, if_neg (show ¬ nI e = -1 from nI_m1 e3)]
end
