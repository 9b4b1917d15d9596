/-! the law: keep, fevers, text, child -/
theorem lgc_s {y : Int64} : lg_cmp y y = 0 := by
  unfold lg_cmp
  rw [if_neg (Int64.lt_irrefl), if_pos rfl]
theorem lc_14 {n : Nf} {b L : Nat} {xs : Nat → Int32} : CLw n b L xs 733 := by
  intro ad nl ln m i B cells slots o5 o6 h6 hL R hB h4 hc hs K
  by_cases z : (xs (nI i + 3).toNatClampNeg) = 0
  · have h3 : (0 : Int32) = 0 ∨ (0 : Int32) = 1 := by decide
    obtain ⟨r, m1, m2, e1, e2, R2⟩ : QQ nl ln B (f_X10_keep m (xs (nI i + 1).toNatClampNeg) (xs (nI i + 2).toNatClampNeg) 0) (fun m1 => f_X11_keep m1 (xs (nI i + 1).toNatClampNeg) (xs (nI i + 2).toNatClampNeg) 0) := q_keep h3 R
    refine n_aloadn_1 dL_law_733 ?_
    refine n_aloadn_0 dL_law_734 ?_
    refine n_iload_4 dL_law_735 ?_
    refine n_iconst 1 dL_law_737 rfl ?_
    refine n_iadd dL_law_738 ?_
    refine l_sld (sx1 h6 hL) dL_law_739 ?_
    refine n_aloadn_0 dL_law_740 ?_
    refine n_iload_4 dL_law_741 ?_
    refine n_iconst 2 dL_law_743 rfl ?_
    refine n_iadd dL_law_744 ?_
    refine l_sld (sx2 h6 hL) dL_law_745 ?_
    refine n_aloadn_0 dL_law_746 ?_
    refine n_iload_4 dL_law_747 ?_
    refine n_iconst 3 dL_law_749 rfl ?_
    refine n_iadd dL_law_750 ?_
    refine l_sld (sx3 h6 hL) dL_law_751 ?_
    refine n_if_eq 759 dL_law_752 (by decide) (fun _ => ?_) (fun h => absurd z h)
    refine n_iconst 0 dL_law_759 rfl ?_
    refine n_callV (As := [.int (xs (nI i + 1).toNatClampNeg), .int (xs (nI i + 2).toNatClampNeg), .int 0]) rfl (cl_ncl (c_X10_keep e1)) (wsO (g := gOf n ad nl ln) pn_0 pc_0) (q := (RX10, TX10, 11)) rfl ce_X10_keep lk_L_84 rfl ⟨Nat.le_of_ble_eq_true rfl, Nat.le_of_ble_eq_true rfl⟩ ⟨by show _ ≤ 601024; omega, by show _ ≤ 7293034; omega⟩ rfl dL_law_760 ?_
    rintro _ rfl
    refine n_aloadn_2 dL_law_763 ?_
    refine n_aloadn_0 dL_law_764 ?_
    refine n_iload_4 dL_law_765 ?_
    refine n_iconst 1 dL_law_767 rfl ?_
    refine n_iadd dL_law_768 ?_
    refine l_sld (sx1 h6 hL) dL_law_769 ?_
    refine n_aloadn_0 dL_law_770 ?_
    refine n_iload_4 dL_law_771 ?_
    refine n_iconst 2 dL_law_773 rfl ?_
    refine n_iadd dL_law_774 ?_
    refine l_sld (sx2 h6 hL) dL_law_775 ?_
    refine n_aloadn_0 dL_law_776 ?_
    refine n_iload_4 dL_law_777 ?_
    refine n_iconst 3 dL_law_779 rfl ?_
    refine n_iadd dL_law_780 ?_
    refine l_sld (sx3 h6 hL) dL_law_781 ?_
    refine n_if_eq 789 dL_law_782 (by decide) (fun _ => ?_) (fun h => absurd z h)
    refine n_iconst 0 dL_law_789 rfl ?_
    refine n_callV (As := [.int (xs (nI i + 1).toNatClampNeg), .int (xs (nI i + 2).toNatClampNeg), .int 0]) rfl (cl_ncl (c_X11_keep e2)) (wsO (g := gOf n ad nl ln) pn_27 pc_27) (q := (RX11, TX11, 46)) rfl ce_X11_keep lk_L_88 rfl ⟨Nat.le_of_ble_eq_true rfl, Nat.le_of_ble_eq_true rfl⟩ ⟨by show _ ≤ 601024; omega, by show _ ≤ 7293034; omega⟩ rfl dL_law_790 ?_
    rintro _ rfl
    refine n_icmp_eq 1762 dL_law_793 (by decide) (fun _ => ?_) (fun h => absurd rfl h)
    exact K ad nl ln m2 _ _ _ _ rfl rfl rfl (Rel_mono R2 (by omega)) h4 (by omega) (by omega)
  · have h3 : (1 : Int32) = 0 ∨ (1 : Int32) = 1 := by decide
    obtain ⟨r, m1, m2, e1, e2, R2⟩ : QQ nl ln B (f_X10_keep m (xs (nI i + 1).toNatClampNeg) (xs (nI i + 2).toNatClampNeg) 1) (fun m1 => f_X11_keep m1 (xs (nI i + 1).toNatClampNeg) (xs (nI i + 2).toNatClampNeg) 1) := q_keep h3 R
    refine n_aloadn_1 dL_law_733 ?_
    refine n_aloadn_0 dL_law_734 ?_
    refine n_iload_4 dL_law_735 ?_
    refine n_iconst 1 dL_law_737 rfl ?_
    refine n_iadd dL_law_738 ?_
    refine l_sld (sx1 h6 hL) dL_law_739 ?_
    refine n_aloadn_0 dL_law_740 ?_
    refine n_iload_4 dL_law_741 ?_
    refine n_iconst 2 dL_law_743 rfl ?_
    refine n_iadd dL_law_744 ?_
    refine l_sld (sx2 h6 hL) dL_law_745 ?_
    refine n_aloadn_0 dL_law_746 ?_
    refine n_iload_4 dL_law_747 ?_
    refine n_iconst 3 dL_law_749 rfl ?_
    refine n_iadd dL_law_750 ?_
    refine l_sld (sx3 h6 hL) dL_law_751 ?_
    refine n_if_eq 759 dL_law_752 (by decide) (fun h => absurd h z) (fun _ => ?_)
    refine n_iconst 1 dL_law_755 rfl ?_
    refine n_goto 760 dL_law_756 (by decide) ?_
    refine n_callV (As := [.int (xs (nI i + 1).toNatClampNeg), .int (xs (nI i + 2).toNatClampNeg), .int 1]) rfl (cl_ncl (c_X10_keep e1)) (wsO (g := gOf n ad nl ln) pn_0 pc_0) (q := (RX10, TX10, 11)) rfl ce_X10_keep lk_L_84 rfl ⟨Nat.le_of_ble_eq_true rfl, Nat.le_of_ble_eq_true rfl⟩ ⟨by show _ ≤ 601024; omega, by show _ ≤ 7293034; omega⟩ rfl dL_law_760 ?_
    rintro _ rfl
    refine n_aloadn_2 dL_law_763 ?_
    refine n_aloadn_0 dL_law_764 ?_
    refine n_iload_4 dL_law_765 ?_
    refine n_iconst 1 dL_law_767 rfl ?_
    refine n_iadd dL_law_768 ?_
    refine l_sld (sx1 h6 hL) dL_law_769 ?_
    refine n_aloadn_0 dL_law_770 ?_
    refine n_iload_4 dL_law_771 ?_
    refine n_iconst 2 dL_law_773 rfl ?_
    refine n_iadd dL_law_774 ?_
    refine l_sld (sx2 h6 hL) dL_law_775 ?_
    refine n_aloadn_0 dL_law_776 ?_
    refine n_iload_4 dL_law_777 ?_
    refine n_iconst 3 dL_law_779 rfl ?_
    refine n_iadd dL_law_780 ?_
    refine l_sld (sx3 h6 hL) dL_law_781 ?_
    refine n_if_eq 789 dL_law_782 (by decide) (fun h => absurd h z) (fun _ => ?_)
    refine n_iconst 1 dL_law_785 rfl ?_
    refine n_goto 790 dL_law_786 (by decide) ?_
    refine n_callV (As := [.int (xs (nI i + 1).toNatClampNeg), .int (xs (nI i + 2).toNatClampNeg), .int 1]) rfl (cl_ncl (c_X11_keep e2)) (wsO (g := gOf n ad nl ln) pn_27 pc_27) (q := (RX11, TX11, 46)) rfl ce_X11_keep lk_L_88 rfl ⟨Nat.le_of_ble_eq_true rfl, Nat.le_of_ble_eq_true rfl⟩ ⟨by show _ ≤ 601024; omega, by show _ ≤ 7293034; omega⟩ rfl dL_law_790 ?_
    rintro _ rfl
    refine n_icmp_eq 1762 dL_law_793 (by decide) (fun _ => ?_) (fun h => absurd rfl h)
    exact K ad nl ln m2 _ _ _ _ rfl rfl rfl (Rel_mono R2 (by omega)) h4 (by omega) (by omega)
theorem lc_L97 : Cond.constantLong RL 97 4294967295 ∈ gw := gw_tb 2005 (by decide +kernel) (by decide +kernel)
theorem lc_17 {n : Nf} {b L : Nat} {xs : Nat → Int32} : CLw n b L xs 860 := by
  intro ad nl ln m i B cells slots o5 o6 h6 hL R hB h4 hc hs K
  obtain ⟨r, m1, m2, e1, e2, R2⟩ : QQ nl ln (B + 60) (f_X10_fevers nl ln m (xs (nI i + 1).toNatClampNeg) (((xs (nI i + 2).toNatClampNeg).toInt64 <<< ((32 : Int32).toInt64 &&& 63)) ||| ((xs (nI i + 3).toNatClampNeg).toInt64 &&& 4294967295))) (fun m1 => f_X11_fevers m1 (xs (nI i + 1).toNatClampNeg) (((xs (nI i + 2).toNatClampNeg).toInt64 <<< ((32 : Int32).toInt64 &&& 63)) ||| ((xs (nI i + 3).toNatClampNeg).toInt64 &&& 4294967295))) := q_fevers (by omega) R
  refine n_aloadn_1 dL_law_860 ?_
  refine n_aloadn_0 dL_law_861 ?_
  refine n_iload_4 dL_law_862 ?_
  refine n_iconst 1 dL_law_864 rfl ?_
  refine n_iadd dL_law_865 ?_
  refine l_sld (sx1 h6 hL) dL_law_866 ?_
  refine n_aloadn_0 dL_law_867 ?_
  refine n_iload_4 dL_law_868 ?_
  refine n_iconst 2 dL_law_870 rfl ?_
  refine n_iadd dL_law_871 ?_
  refine l_sld (sx2 h6 hL) dL_law_872 ?_
  refine n_i2l dL_law_873 ?_
  refine n_bipush 32 dL_law_874 rfl ?_
  refine n_lshl dL_law_876 ?_
  refine n_aloadn_0 dL_law_877 ?_
  refine n_iload_4 dL_law_878 ?_
  refine n_iconst 3 dL_law_880 rfl ?_
  refine n_iadd dL_law_881 ?_
  refine l_sld (sx3 h6 hL) dL_law_882 ?_
  refine n_i2l dL_law_883 ?_
  refine n_ldc2_w dL_law_884 lc_L97 ?_
  refine n_land dL_law_887 ?_
  refine n_lor dL_law_888 ?_
  refine n_callV (As := [.int (xs (nI i + 1).toNatClampNeg), .long (((xs (nI i + 2).toNatClampNeg).toInt64 <<< ((32 : Int32).toInt64 &&& 63)) ||| ((xs (nI i + 3).toNatClampNeg).toInt64 &&& 4294967295))]) rfl (cl_ncl (c_X10_fevers h4 gOf_X e1)) (wsO (g := gOf n ad nl ln) pn_0 pc_0) (q := (RX10, TX10, 11)) rfl ce_X10_fevers lk_L_99 rfl ⟨Nat.le_of_ble_eq_true rfl, Nat.le_of_ble_eq_true rfl⟩ ⟨by show _ ≤ 601024; omega, by show _ ≤ 7293034; omega⟩ rfl dL_law_889 ?_
  rintro _ rfl
  refine n_aloadn_2 dL_law_892 ?_
  refine n_aloadn_0 dL_law_893 ?_
  refine n_iload_4 dL_law_894 ?_
  refine n_iconst 1 dL_law_896 rfl ?_
  refine n_iadd dL_law_897 ?_
  refine l_sld (sx1 h6 hL) dL_law_898 ?_
  refine n_aloadn_0 dL_law_899 ?_
  refine n_iload_4 dL_law_900 ?_
  refine n_iconst 2 dL_law_902 rfl ?_
  refine n_iadd dL_law_903 ?_
  refine l_sld (sx2 h6 hL) dL_law_904 ?_
  refine n_i2l dL_law_905 ?_
  refine n_bipush 32 dL_law_906 rfl ?_
  refine n_lshl dL_law_908 ?_
  refine n_aloadn_0 dL_law_909 ?_
  refine n_iload_4 dL_law_910 ?_
  refine n_iconst 3 dL_law_912 rfl ?_
  refine n_iadd dL_law_913 ?_
  refine l_sld (sx3 h6 hL) dL_law_914 ?_
  refine n_i2l dL_law_915 ?_
  refine n_ldc2_w dL_law_916 lc_L97 ?_
  refine n_land dL_law_919 ?_
  refine n_lor dL_law_920 ?_
  refine n_callV (As := [.int (xs (nI i + 1).toNatClampNeg), .long (((xs (nI i + 2).toNatClampNeg).toInt64 <<< ((32 : Int32).toInt64 &&& 63)) ||| ((xs (nI i + 3).toNatClampNeg).toInt64 &&& 4294967295))]) rfl (cl_ncl (c_X11_fevers gOf_X e2)) (wsO (g := gOf n ad nl ln) pn_27 pc_27) (q := (RX11, TX11, 46)) rfl ce_X11_fevers lk_L_103 rfl ⟨Nat.le_of_ble_eq_true rfl, Nat.le_of_ble_eq_true rfl⟩ ⟨by show _ ≤ 601024; omega, by show _ ≤ 7293034; omega⟩ rfl dL_law_921 ?_
  rintro _ rfl
  refine n_icmp_eq 1762 dL_law_924 (by decide) (fun _ => ?_) (fun h => absurd rfl h)
  exact K ad nl ln m2 _ _ _ _ rfl rfl rfl R2 h4 (by omega) (by omega)
theorem nw_of {nl N : Nat} {mc : Sg} {F : Nat → Int32} (hF : ∀ k, k < N → F k = mc.1 12 k) : NW nl N mc (mEn (wr mc 1 1 0) nl F) := by
  refine ⟨?_, ?_, fun k hk => ?_, fun p k h1 h2 h3 h4 => ?_⟩
  · rw [mEn_ne (by decide) (by omega) (by omega) (by omega), wr_at, pk_us]
  · unfold mEn
    rw [wrr_ne (by omega), wrr_ne (by omega), wr_ne (by omega), wr_at, pk_us]
  · unfold mEn
    rw [wrr_ne (by omega), wrr_at]; exact hF k hk
  · have no : ∀ q, 45 ≤ q → q % 3 ≠ 1 → p ≠ q := fun q q1 q2 e => by
      subst e
      have := scr_law p k q1 q2
      unfold scr at this
      rw [h1] at this
      cases this
    by_cases e : p = 13
    · subst e
      unfold mEn
      rw [wrr_ne (by omega), wrr_ne (by omega), wr_ne (by omega), wr_at, pk_un (fun e => h3 ⟨rfl, e⟩), wr_ne (by decide)]
    · rw [mEn_ne e (no _ (by omega) (by omega)) h4 (no _ (by omega) (by omega))]
      by_cases e1 : p = 1
      · subst e1
        rw [wr_at, pk_un (fun e => h2 ⟨rfl, e⟩)]
      · rw [wr_ne e1]
theorem lc_3 {n : Nf} {b L : Nat} {xs : Nat → Int32} : CLw n b L xs 367 := by
  intro ad nl ln m i B cells slots o5 o6 h6 hL R hB h4 hc hs K
  by_cases hx : (xs (nI i + 1).toNatClampNeg) = 1 ∧ nl < 4 ∧ ∃ mc, f_X6_read m = some (-1, mc)
  · obtain ⟨y1, y4, mc, hr⟩ := hx
    obtain ⟨V, hv⟩ := R.2.1
    obtain ⟨fr, N, n1, n2, nw⟩ := q_enact R y4 hr
    have h13 : m.1 13 2 = nI nl := hv.1
    have h13c : mc.1 13 2 = nI nl := (fr_ess fr rfl).trans h13
    refine n_aloadn_1 dL_law_367 ?_
    refine n_aloadn_0 dL_law_368 ?_
    refine n_iload_4 dL_law_369 ?_
    refine n_iconst 1 dL_law_371 rfl ?_
    refine n_iadd dL_law_372 ?_
    refine l_sld (sx1 h6 hL) dL_law_373 ?_
    rw [y1]
    refine n_callV (As := [.int 1]) rfl (i_X10_text hr h13 h13c y4 n1 n2) (wsO (g := gOf n ad nl ln) pn_0 pc_0) (q := (RX10, TX10, 11)) rfl ce_X10_text lk_L_34 rfl ⟨Nat.le_of_ble_eq_true rfl, Nat.le_of_ble_eq_true rfl⟩ ⟨by show _ ≤ 601024; omega, by show _ ≤ 7293034; omega⟩ rfl dL_law_374 ?_
    rintro _ ⟨ad', F, hA, hF, rfl⟩
    obtain ⟨m4, e2, R2⟩ := nw _ (nw_of hF)
    have e27 : ad' 27 = ad 27 := hA 27 (by omega)
    have hcc : NCl n 77 yX11_text cX11_text 4 (some .int) [.ref (ad 27), .int 1] (wsOf (gOf n ad' (nl + 1) (lnA ln nl N)) (mEn (wr mc 1 1 0) nl F)) 0 0 (fun w => w = wsOf (gOf n ad' (nl + 1) (lnA ln nl N)) m4) (some (.int (nI nl))) := by
      rw [← e27]; exact cl_ncl (c_X11_text gOf_X e2)
    have hw := wsO (g := gOf n ad' (nl + 1) (lnA ln nl N)) (m := mEn (wr mc 1 1 0) nl F) pn_27 pc_27
    have hw : (wsOf (gOf n ad' (nl + 1) (lnA ln nl N)) (mEn (wr mc 1 1 0) nl F))[27]? = some (ad' 27, _) := hw
    rw [e27] at hw
    refine n_aloadn_2 dL_law_377 ?_
    refine n_aloadn_0 dL_law_378 ?_
    refine n_iload_4 dL_law_379 ?_
    refine n_iconst 1 dL_law_381 rfl ?_
    refine n_iadd dL_law_382 ?_
    refine l_sld (sx1 h6 hL) dL_law_383 ?_
    rw [y1]
    refine n_callV (As := [.int 1]) rfl hcc hw (q := (RX11, TX11, 46)) rfl ce_X11_text lk_L_37 rfl ⟨Nat.le_of_ble_eq_true rfl, Nat.le_of_ble_eq_true rfl⟩ ⟨by show _ ≤ 601024; omega, by show _ ≤ 7293034; omega⟩ rfl dL_law_384 ?_
    rintro _ rfl
    refine n_icmp_eq 1762 dL_law_387 (by decide) (fun _ => ?_) (fun h => absurd rfl h)
    exact K ad' (nl + 1) _ m4 _ _ _ _ (hA 0 (by omega)) e27 (hA 44 (by omega)) (Rel_mono R2 (by omega)) (by omega) (by omega) (by omega)
  · have hh : (xs (nI i + 1).toNatClampNeg) = 1 → nl = 4 ∨ ∃ r mc, f_X6_read m = some (r, mc) ∧ ¬ r = -1 := by
      intro e
      by_cases y : nl = 4
      · exact .inl y
      · obtain ⟨mc, w1, _⟩ := law_q R
        refine .inr ⟨_, mc, w1, fun w => hx ⟨e, by omega, mc, ?_⟩⟩
        rw [w1, w]
    obtain ⟨r, m1, m2, e1, e2, R2⟩ : QQ nl ln B (f_X10_text m (xs (nI i + 1).toNatClampNeg)) (fun m1 => f_X11_text m1 (xs (nI i + 1).toNatClampNeg)) := q_text R hh
    refine n_aloadn_1 dL_law_367 ?_
    refine n_aloadn_0 dL_law_368 ?_
    refine n_iload_4 dL_law_369 ?_
    refine n_iconst 1 dL_law_371 rfl ?_
    refine n_iadd dL_law_372 ?_
    refine l_sld (sx1 h6 hL) dL_law_373 ?_
    refine n_callV (As := [.int (xs (nI i + 1).toNatClampNeg)]) rfl (cl_ncl (c_X10_text gOf_X e1)) (wsO (g := gOf n ad nl ln) pn_0 pc_0) (q := (RX10, TX10, 11)) rfl ce_X10_text lk_L_34 rfl ⟨Nat.le_of_ble_eq_true rfl, Nat.le_of_ble_eq_true rfl⟩ ⟨by show _ ≤ 601024; omega, by show _ ≤ 7293034; omega⟩ rfl dL_law_374 ?_
    rintro _ rfl
    refine n_aloadn_2 dL_law_377 ?_
    refine n_aloadn_0 dL_law_378 ?_
    refine n_iload_4 dL_law_379 ?_
    refine n_iconst 1 dL_law_381 rfl ?_
    refine n_iadd dL_law_382 ?_
    refine l_sld (sx1 h6 hL) dL_law_383 ?_
    refine n_callV (As := [.int (xs (nI i + 1).toNatClampNeg)]) rfl (cl_ncl (c_X11_text gOf_X e2)) (wsO (g := gOf n ad nl ln) pn_27 pc_27) (q := (RX11, TX11, 46)) rfl ce_X11_text lk_L_37 rfl ⟨Nat.le_of_ble_eq_true rfl, Nat.le_of_ble_eq_true rfl⟩ ⟨by show _ ≤ 601024; omega, by show _ ≤ 7293034; omega⟩ rfl dL_law_384 ?_
    rintro _ rfl
    refine n_icmp_eq 1762 dL_law_387 (by decide) (fun _ => ?_) (fun h => absurd rfl h)
    exact K ad nl ln m2 _ _ _ _ rfl rfl rfl (Rel_mono R2 (by omega)) h4 (by omega) (by omega)
theorem lc_4 {n : Nf} {b L : Nat} {xs : Nat → Int32} (hst : n.1.stackTraces = false) : CLw n b L xs 392 := by
  intro ad nl ln m i B cells slots o5 o6 h6 hL R hB h4 hc hs K
  by_cases on : chOn m (xs (nI i + 1).toNatClampNeg) (xs (nI i + 2).toNatClampNeg)
  · obtain ⟨r, m1, e1, f1, k1⟩ := q_child2 R on
    obtain ⟨m2, e2, e0, R2⟩ := k1 (wrl m1 44 r.toInt64) (f1.tr (Fr.w3 rfl))
    have f2 := fr_X11_child (S := fun p _ => p == 27 || p == 31) rfl rfl rfl rfl rfl rfl rfl rfl rfl rfl (fun _ => rfl) e2
    have e44 : m2.2 44 = r.toInt64 := (f2.2 44 rfl).trans (by simp [wrl, va_up])
    refine n_aloadn_1 dL_law_392 ?_
    refine n_aloadn_0 dL_law_393 ?_
    refine n_iload_4 dL_law_394 ?_
    refine n_iconst 1 dL_law_396 rfl ?_
    refine n_iadd dL_law_397 ?_
    refine l_sld (sx1 h6 hL) dL_law_398 ?_
    refine n_aloadn_0 dL_law_399 ?_
    refine n_iload_4 dL_law_400 ?_
    refine n_iconst 2 dL_law_402 rfl ?_
    refine n_iadd dL_law_403 ?_
    refine l_sld (sx2 h6 hL) dL_law_404 ?_
    refine n_aloadn_3 dL_law_405 ?_
    refine l_callC (As := [.ref (ad 0), .int (xs (nI i + 1).toNatClampNeg), .int (xs (nI i + 2).toNatClampNeg), .ref (ad 44)]) rfl (l_child1 h4 e1) rfl ⟨by omega, by omega⟩ rfl dL_law_406 ?_
    rintro _ rfl
    refine n_istore_5 dL_law_409 rfl ?_
    refine n_aloadn_2 dL_law_411 ?_
    refine n_aloadn_0 dL_law_412 ?_
    refine n_iload_4 dL_law_413 ?_
    refine n_iconst 1 dL_law_415 rfl ?_
    refine n_iadd dL_law_416 ?_
    refine l_sld (sx1 h6 hL) dL_law_417 ?_
    refine n_aloadn_0 dL_law_418 ?_
    refine n_iload_4 dL_law_419 ?_
    refine n_iconst 2 dL_law_421 rfl ?_
    refine n_iadd dL_law_422 ?_
    refine l_sld (sx2 h6 hL) dL_law_423 ?_
    refine n_callV (As := [.int (xs (nI i + 1).toNatClampNeg), .int (xs (nI i + 2).toNatClampNeg)]) rfl (cl_ncl (c_X11_child gOf_X e2)) (wsO (g := gOf n ad nl ln) pn_27 pc_27) (q := (RX11, TX11, 46)) rfl ce_X11_child lk_L_43 rfl ⟨Nat.le_of_ble_eq_true rfl, Nat.le_of_ble_eq_true rfl⟩ ⟨by show _ ≤ 601024; omega, by show _ ≤ 7293034; omega⟩ rfl dL_law_424 ?_
    rintro _ rfl
    refine n_istore_6 dL_law_427 rfl ?_
    refine n_aloadn_2 dL_law_429 ?_
    have e4 : f_X11_thrown m2 = some (0, m2) := by unfold f_X11_thrown; rw [e0]
    refine n_callV (As := []) rfl (cl_ncl (c_X11_thrown e4)) (wsO (g := gOf n ad nl ln) pn_27 pc_27) (q := (RX11, TX11, 46)) rfl ce_X11_thrown lk_L_44 rfl ⟨Nat.le_of_ble_eq_true rfl, Nat.le_of_ble_eq_true rfl⟩ ⟨by show _ ≤ 601024; omega, by show _ ≤ 7293034; omega⟩ rfl dL_law_430 ?_
    rintro _ rfl
    refine n_iload_5 dL_law_433 ?_
    refine n_icmp_eq 440 dL_law_435 (by decide) (fun _ => ?_) (fun h => absurd rfl h)
    refine n_iload_5 dL_law_440 ?_
    refine n_if_ne 457 dL_law_442 (by decide) (fun h => absurd rfl h) (fun _ => ?_)
    refine n_aloadn_3 dL_law_445 ?_
    refine n_iconst 0 dL_law_446 rfl ?_
    refine n_lald (i := 44) (N9 := 1) (f := fun _ => m2.2 44) (by rw [ws_get pn_44]; rfl) (by decide) dL_law_447 ?_
    refine n_iload_6 dL_law_448 ?_
    refine n_i2l dL_law_450 ?_
    refine n_lcmp dL_law_451 ?_
    rw [e44, lgc_s]
    refine n_if_eq 457 dL_law_452 (by decide) (fun _ => ?_) (fun h => absurd rfl h)
    refine n_goto 1762 dL_law_457 (by decide) ?_
    exact K ad nl ln m2 _ _ _ _ rfl rfl rfl (Rel_mono R2 (by omega)) h4 (by omega) (by omega)
  · obtain ⟨r, m2, e2, e0, R2⟩ : ∃ r m2, f_X11_child m (xs (nI i + 1).toNatClampNeg) (xs (nI i + 2).toNatClampNeg) = some (r, m2) ∧ m2.1 27 0 = 1 ∧ Rel nl ln B m2 := by
      rcases q_child R with ⟨h, _⟩ | ⟨_, h⟩
      · exact absurd h on
      · exact h
    refine n_aloadn_1 dL_law_392 ?_
    refine n_aloadn_0 dL_law_393 ?_
    refine n_iload_4 dL_law_394 ?_
    refine n_iconst 1 dL_law_396 rfl ?_
    refine n_iadd dL_law_397 ?_
    refine l_sld (sx1 h6 hL) dL_law_398 ?_
    refine n_aloadn_0 dL_law_399 ?_
    refine n_iload_4 dL_law_400 ?_
    refine n_iconst 2 dL_law_402 rfl ?_
    refine n_iadd dL_law_403 ?_
    refine l_sld (sx2 h6 hL) dL_law_404 ?_
    refine n_aloadn_3 dL_law_405 ?_
    refine l_callC (As := [.ref (ad 0), .int (xs (nI i + 1).toNatClampNeg), .int (xs (nI i + 2).toNatClampNeg), .ref (ad 44)]) rfl (l_child2 hst on) rfl ⟨by omega, by omega⟩ rfl dL_law_406 ?_
    rintro _ rfl
    refine n_istore_5 dL_law_409 rfl ?_
    refine n_aloadn_2 dL_law_411 ?_
    refine n_aloadn_0 dL_law_412 ?_
    refine n_iload_4 dL_law_413 ?_
    refine n_iconst 1 dL_law_415 rfl ?_
    refine n_iadd dL_law_416 ?_
    refine l_sld (sx1 h6 hL) dL_law_417 ?_
    refine n_aloadn_0 dL_law_418 ?_
    refine n_iload_4 dL_law_419 ?_
    refine n_iconst 2 dL_law_421 rfl ?_
    refine n_iadd dL_law_422 ?_
    refine l_sld (sx2 h6 hL) dL_law_423 ?_
    refine n_callV (As := [.int (xs (nI i + 1).toNatClampNeg), .int (xs (nI i + 2).toNatClampNeg)]) rfl (cl_ncl (c_X11_child gOf_X e2)) (wsO (g := gOf n ad nl ln) pn_27 pc_27) (q := (RX11, TX11, 46)) rfl ce_X11_child lk_L_43 rfl ⟨Nat.le_of_ble_eq_true rfl, Nat.le_of_ble_eq_true rfl⟩ ⟨by show _ ≤ 601024; omega, by show _ ≤ 7293034; omega⟩ rfl dL_law_424 ?_
    rintro _ rfl
    refine n_istore_6 dL_law_427 rfl ?_
    refine n_aloadn_2 dL_law_429 ?_
    have e4 : f_X11_thrown m2 = some (1, m2) := by unfold f_X11_thrown; rw [e0]
    refine n_callV (As := []) rfl (cl_ncl (c_X11_thrown e4)) (wsO (g := gOf n ad nl ln) pn_27 pc_27) (q := (RX11, TX11, 46)) rfl ce_X11_thrown lk_L_44 rfl ⟨Nat.le_of_ble_eq_true rfl, Nat.le_of_ble_eq_true rfl⟩ ⟨by show _ ≤ 601024; omega, by show _ ≤ 7293034; omega⟩ rfl dL_law_430 ?_
    rintro _ rfl
    refine n_iload_5 dL_law_433 ?_
    refine n_icmp_eq 440 dL_law_435 (by decide) (fun _ => ?_) (fun h => absurd rfl h)
    refine n_iload_5 dL_law_440 ?_
    refine n_if_ne 457 dL_law_442 (by decide) (fun _ => ?_) (fun h => absurd h n10)
    refine n_goto 1762 dL_law_457 (by decide) ?_
    exact K ad nl ln m2 _ _ _ _ rfl rfl rfl (Rel_mono R2 (by omega)) h4 (by omega) (by omega)
