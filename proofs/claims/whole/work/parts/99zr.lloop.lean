/-! the law's loop -/
section
variable {n : Nf} {b L : Nat} {xs : Nat → Int32}
theorem sub6 {L i : Nat} (hL : L ≤ 3072) (hi : i ≤ 4000) : nI L - 6 < nI i ↔ L < i + 6 := by
  have e : (nI L - 6 : Int32).toInt = (L : Int) - 6 := by
    rw [Int32.toInt_sub]
    have : (nI L).toInt = (L : Int) := nI_toInt (by omega)
    rw [this, show (6 : Int32).toInt = 6 from rfl]
    exact Int.bmod_eq_of_le (by omega) (by omega)
  rw [Int32.lt_iff_toInt_lt, e, nI_toInt (by omega)]
  omega
theorem vL_eq {ad ad' : Nat → Nat} {i : Nat} {o5 o6 : Option Value} (h0 : ad' 0 = ad 0) (h27 : ad' 27 = ad 27) (h44 : ad' 44 = ad 44) : vL b ad' i o5 o6 = vL b ad i o5 o6 := by
  unfold vL
  rw [h0, h27, h44]
/-- one of the calls, by its number -/
theorem l_case (hst : n.1.stackTraces = false) (k : Nat) (hk : k < 64) : ∀ (ad : Nat → Nat) (nl : Nat) (ln : Nat → Nat) (m : Sg) (i B cells slots : Nat) (o5 o6 : Option Value), i + 6 ≤ L → L ≤ 3072 → Rel nl ln B m → B + 60 ≤ 40000 → nl ≤ 4 → cells ≤ 600000 → slots ≤ 7000000 → KL n b L xs ad i B cells slots → LX n b L xs 40 (vL b ad i o5 o6) [.int (nI k)] (wsOf (gOf n ad nl ln) m) cells slots := by
  intro ad nl ln m i B cells slots o5 o6 h6 hL R hB h4 hc hs K
  match k, hk with
  | 0, _ => exact n_tin 244 dL_law_40 (by decide) (by decide) rfl (by decide) (lc_0 ad nl ln m i B cells slots o5 o6 h6 hL R hB h4 hc hs K)
  | 1, _ => exact n_tin 317 dL_law_40 (by decide) (by decide) rfl (by decide) (lc_1 ad nl ln m i B cells slots o5 o6 h6 hL R hB h4 hc hs K)
  | 2, _ => exact n_tin 342 dL_law_40 (by decide) (by decide) rfl (by decide) (lc_2 ad nl ln m i B cells slots o5 o6 h6 hL R hB h4 hc hs K)
  | 3, _ => exact n_tin 367 dL_law_40 (by decide) (by decide) rfl (by decide) (lc_3 ad nl ln m i B cells slots o5 o6 h6 hL R hB h4 hc hs K)
  | 4, _ => exact n_tin 392 dL_law_40 (by decide) (by decide) rfl (by decide) (lc_4 hst ad nl ln m i B cells slots o5 o6 h6 hL R hB h4 hc hs K)
  | 5, _ => exact n_tin 460 dL_law_40 (by decide) (by decide) rfl (by decide) (lc_5 ad nl ln m i B cells slots o5 o6 h6 hL R hB h4 hc hs K)
  | 6, _ => exact n_tin 497 dL_law_40 (by decide) (by decide) rfl (by decide) (lc_6 ad nl ln m i B cells slots o5 o6 h6 hL R hB h4 hc hs K)
  | 7, _ => exact n_tin 522 dL_law_40 (by decide) (by decide) rfl (by decide) (lc_7 ad nl ln m i B cells slots o5 o6 h6 hL R hB h4 hc hs K)
  | 8, _ => exact n_tin 547 dL_law_40 (by decide) (by decide) rfl (by decide) (lc_8 ad nl ln m i B cells slots o5 o6 h6 hL R hB h4 hc hs K)
  | 9, _ => exact n_tin 572 dL_law_40 (by decide) (by decide) rfl (by decide) (lc_9 ad nl ln m i B cells slots o5 o6 h6 hL R hB h4 hc hs K)
  | 10, _ => exact n_tin 609 dL_law_40 (by decide) (by decide) rfl (by decide) (lc_10 ad nl ln m i B cells slots o5 o6 h6 hL R hB h4 hc hs K)
  | 11, _ => exact n_tin 646 dL_law_40 (by decide) (by decide) rfl (by decide) (lc_11 ad nl ln m i B cells slots o5 o6 h6 hL R hB h4 hc hs K)
  | 12, _ => exact n_tin 659 dL_law_40 (by decide) (by decide) rfl (by decide) (lc_12 ad nl ln m i B cells slots o5 o6 h6 hL R hB h4 hc hs K)
  | 13, _ => exact n_tin 696 dL_law_40 (by decide) (by decide) rfl (by decide) (lc_13 ad nl ln m i B cells slots o5 o6 h6 hL R hB h4 hc hs K)
  | 14, _ => exact n_tin 733 dL_law_40 (by decide) (by decide) rfl (by decide) (lc_14 ad nl ln m i B cells slots o5 o6 h6 hL R hB h4 hc hs K)
  | 15, _ => exact n_tin 798 dL_law_40 (by decide) (by decide) rfl (by decide) (lc_15 ad nl ln m i B cells slots o5 o6 h6 hL R hB h4 hc hs K)
  | 16, _ => exact n_tin 835 dL_law_40 (by decide) (by decide) rfl (by decide) (lc_16 ad nl ln m i B cells slots o5 o6 h6 hL R hB h4 hc hs K)
  | 17, _ => exact n_tin 860 dL_law_40 (by decide) (by decide) rfl (by decide) (lc_17 ad nl ln m i B cells slots o5 o6 h6 hL R hB h4 hc hs K)
  | 18, _ => exact n_tin 929 dL_law_40 (by decide) (by decide) rfl (by decide) (lc_18 ad nl ln m i B cells slots o5 o6 h6 hL R hB h4 hc hs K)
  | 19, _ => exact n_tin 942 dL_law_40 (by decide) (by decide) rfl (by decide) (lc_19 ad nl ln m i B cells slots o5 o6 h6 hL R hB h4 hc hs K)
  | 20, _ => exact n_tin 979 dL_law_40 (by decide) (by decide) rfl (by decide) (lc_20 ad nl ln m i B cells slots o5 o6 h6 hL R hB h4 hc hs K)
  | 21, _ => exact n_tin 1016 dL_law_40 (by decide) (by decide) rfl (by decide) (lc_21 ad nl ln m i B cells slots o5 o6 h6 hL R hB h4 hc hs K)
  | 22, _ => exact n_tin 1065 dL_law_40 (by decide) (by decide) rfl (by decide) (lc_22 ad nl ln m i B cells slots o5 o6 h6 hL R hB h4 hc hs K)
  | 23, _ => exact n_tin 1114 dL_law_40 (by decide) (by decide) rfl (by decide) (lc_23 ad nl ln m i B cells slots o5 o6 h6 hL R hB h4 hc hs K)
  | 24, _ => exact n_tin 1163 dL_law_40 (by decide) (by decide) rfl (by decide) (lc_24 ad nl ln m i B cells slots o5 o6 h6 hL R hB h4 hc hs K)
  | 25, _ => exact n_tin 1188 dL_law_40 (by decide) (by decide) rfl (by decide) (lc_25 ad nl ln m i B cells slots o5 o6 h6 hL R hB h4 hc hs K)
  | 26, _ => exact n_tin 1225 dL_law_40 (by decide) (by decide) rfl (by decide) (lc_26 ad nl ln m i B cells slots o5 o6 h6 hL R hB h4 hc hs K)
  | 27, _ => exact n_tin 1286 dL_law_40 (by decide) (by decide) rfl (by decide) (lc_27 ad nl ln m i B cells slots o5 o6 h6 hL R hB h4 hc hs K)
  | 28, _ => exact n_tin 1335 dL_law_40 (by decide) (by decide) rfl (by decide) (lc_28 ad nl ln m i B cells slots o5 o6 h6 hL R hB h4 hc hs K)
  | 29, _ => exact n_tin 1372 dL_law_40 (by decide) (by decide) rfl (by decide) (lc_29 ad nl ln m i B cells slots o5 o6 h6 hL R hB h4 hc hs K)
  | 30, _ => exact n_tin 1409 dL_law_40 (by decide) (by decide) rfl (by decide) (lc_30 ad nl ln m i B cells slots o5 o6 h6 hL R hB h4 hc hs K)
  | 31, _ => exact n_tin 1434 dL_law_40 (by decide) (by decide) rfl (by decide) (lc_31 ad nl ln m i B cells slots o5 o6 h6 hL R hB h4 hc hs K)
  | 32, _ => exact n_tin 1447 dL_law_40 (by decide) (by decide) rfl (by decide) (lc_32 ad nl ln m i B cells slots o5 o6 h6 hL R hB h4 hc hs K)
  | 33, _ => exact n_tin 1472 dL_law_40 (by decide) (by decide) rfl (by decide) (lc_33 ad nl ln m i B cells slots o5 o6 h6 hL R hB h4 hc hs K)
  | 34, _ => exact n_tin 1485 dL_law_40 (by decide) (by decide) rfl (by decide) (lc_34 ad nl ln m i B cells slots o5 o6 h6 hL R hB h4 hc hs K)
  | 35, _ => exact n_tin 1498 dL_law_40 (by decide) (by decide) rfl (by decide) (lc_35 ad nl ln m i B cells slots o5 o6 h6 hL R hB h4 hc hs K)
  | 36, _ => exact n_tin 1523 dL_law_40 (by decide) (by decide) rfl (by decide) (lc_36 ad nl ln m i B cells slots o5 o6 h6 hL R hB h4 hc hs K)
  | 37, _ => exact n_tin 1548 dL_law_40 (by decide) (by decide) rfl (by decide) (lc_37 ad nl ln m i B cells slots o5 o6 h6 hL R hB h4 hc hs K)
  | 38, _ => exact n_tin 1573 dL_law_40 (by decide) (by decide) rfl (by decide) (lc_38 ad nl ln m i B cells slots o5 o6 h6 hL R hB h4 hc hs K)
  | 39, _ => exact n_tin 1598 dL_law_40 (by decide) (by decide) rfl (by decide) (lc_39 ad nl ln m i B cells slots o5 o6 h6 hL R hB h4 hc hs K)
  | 40, _ => exact n_tin 1611 dL_law_40 (by decide) (by decide) rfl (by decide) (lc_40 ad nl ln m i B cells slots o5 o6 h6 hL R hB h4 hc hs K)
  | 41, _ => exact n_tin 1636 dL_law_40 (by decide) (by decide) rfl (by decide) (lc_41 ad nl ln m i B cells slots o5 o6 h6 hL R hB h4 hc hs K)
  | 42, _ => exact n_tin 1673 dL_law_40 (by decide) (by decide) rfl (by decide) (lc_42 ad nl ln m i B cells slots o5 o6 h6 hL R hB h4 hc hs K)
  | 43, _ => exact n_tin 1698 dL_law_40 (by decide) (by decide) rfl (by decide) (lc_43 ad nl ln m i B cells slots o5 o6 h6 hL R hB h4 hc hs K)
  | 44, _ => exact n_tin 1711 dL_law_40 (by decide) (by decide) rfl (by decide) (lc_44 ad nl ln m i B cells slots o5 o6 h6 hL R hB h4 hc hs K)
  | 45, _ => exact n_tin 1724 dL_law_40 (by decide) (by decide) rfl (by decide) (lc_45 ad nl ln m i B cells slots o5 o6 h6 hL R hB h4 hc hs K)
  | 46, _ => exact n_tin 1737 dL_law_40 (by decide) (by decide) rfl (by decide) (lc_46 ad nl ln m i B cells slots o5 o6 h6 hL R hB h4 hc hs K)
  | k + 47, hk => exact n_tout 1762 dL_law_40 (.inr (by rw [nI_toInt (by omega)]; omega)) (by decide) (K ad nl ln m cells slots o5 o6 rfl rfl rfl (Rel_mono R (by omega)) h4 (by omega) (by omega))
set_option maxRecDepth 20000 in
theorem l_loop (hst : n.1.stackTraces = false) (hL : L ≤ 3072) : ∀ t (ad : Nat → Nat) (nl : Nat) (ln : Nat → Nat) (m : Sg) (i j B cells slots : Nat) (o5 o6 : Option Value), L ≤ 6 * t + i → i = 6 * j → j ≤ 512 → Rel nl ln B m → B ≤ 60 * j → nl ≤ 4 → cells ≤ 100 + 3 * j → slots ≤ 20000 + 261 * j → LX n b L xs 23 (vL b ad i o5 o6) [] (wsOf (gOf n ad nl ln) m) cells slots := by
  intro t
  induction t with
  | zero =>
    intro ad nl ln m i j B cells slots o5 o6 hLt hi hj R hB h4 hc hs
    refine n_iload_4 dL_law_23 ?_
    refine n_aloadn_0 dL_law_25 ?_
    refine l_slen dL_law_26 ?_
    refine n_bipush 6 dL_law_27 rfl ?_
    refine n_isub dL_law_29 ?_
    refine n_icmp_gt 1768 dL_law_30 (by decide) (fun _ => ?_) (fun h => absurd ((sub6 hL (by omega)).mpr (by omega)) h)
    refine n_iconst 1 dL_law_1768 rfl ?_
    exact l_end (by omega) (by omega) dL_law_1769
  | succ t ih =>
    intro ad nl ln m i j B cells slots o5 o6 hLt hi hj R hB h4 hc hs
    refine n_iload_4 dL_law_23 ?_
    refine n_aloadn_0 dL_law_25 ?_
    refine l_slen dL_law_26 ?_
    refine n_bipush 6 dL_law_27 rfl ?_
    refine n_isub dL_law_29 ?_
    refine n_icmp_gt 1768 dL_law_30 (by decide) (fun _ => ?_) (fun h => ?_)
    · refine n_iconst 1 dL_law_1768 rfl ?_
      exact l_end (by omega) (by omega) dL_law_1769
    · have h6 : i + 6 ≤ L := by
        rcases Nat.lt_or_ge L (i + 6) with y | y
        · exact absurd ((sub6 hL (by omega)).mpr y) h
        · exact y
      refine n_aloadn_0 dL_law_33 ?_
      refine n_iload_4 dL_law_34 ?_
      refine l_sld (sx0 h6 hL) dL_law_36 ?_
      refine n_bipush 63 dL_law_37 rfl ?_
      refine n_iand dL_law_39 ?_
      rw [pk_and _ (m := 63) 6 rfl]
      refine l_case hst _ (Nat.mod_lt _ (by decide)) ad nl ln m i B cells slots o5 o6 h6 hL R (by omega) h4 (by omega) (by omega) ?_
      intro ad' nl' ln' m' cells' slots' p5 p6 a0 a27 a44 R' h4' hc' hs'
      refine n_iinc_4 6 dL_law_1762 rfl rfl ?_
      rw [show (6 : Int32) = nI 6 from rfl, nI_add]
      refine n_goto 23 dL_law_1765 (by decide) ?_
      have x1 : L ≤ 6 * t + (i + 6) := by omega
      have x2 : i + 6 = 6 * (j + 1) := by omega
      have x3 : j + 1 ≤ 512 := by omega
      have x4 : B + 60 ≤ 60 * (j + 1) := by omega
      have x5 : cells' ≤ 100 + 3 * (j + 1) := by omega
      have x6 : slots' ≤ 20000 + 261 * (j + 1) := by omega
      have key := ih ad' nl' ln' m' (i + 6) (j + 1) (B + 60) cells' slots' p5 p6 x1 x2 x3 R' x4 h4' x5 x6
      rw [vL_eq a0 a27 a44] at key
      exact key
end
