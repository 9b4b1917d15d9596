/-! text takes a law: the machine -/
theorem wsO {g : Cf} {m : Sg} {p ci : Nat} {tm : List Nat} (hp : p < g.N) (hc : ∀ r x, cellR g p r x = .inr (ci, flds g r x tm)) : (wsOf g m)[p]? = some (g.ad p, .inr (ci, flds g (m.1 p) (m.2 p) tm)) := by rw [ws_get hp, hc]
set_option maxRecDepth 8000 in
theorem i_X10_text {n : Nf} {ad : Nat → Nat} {nl N : Nat} {ln : Nat → Nat} {m mc : Sg} (hr : f_X6_read m = some (-1, mc)) (h13 : m.1 13 2 = nI nl) (h13c : mc.1 13 2 = nI nl) (h4 : nl < 4) (hN : N ≤ 240) (h10 : mc.1 10 2 = nI N) : NCl n 76 yX10_text cX10_text 2 (some .int) [.ref (ad 0), .int 1] (wsOf (gOf n ad nl ln) m) 3 261 (fun w => ∃ ad' F, (∀ p, p < 45 + 3 * nl → ad' p = ad p) ∧ (∀ k, k < N → F k = mc.1 12 k) ∧ w = wsOf (gOf n ad' (nl + 1) (lnA ln nl N)) (mEn (wr mc 1 1 0) nl F)) (some (.int (nI nl))) := by
  refine ncl_of (by decide) (Nat.le_of_ble_eq_true rfl) (vs := [some (.ref (ad 0)), some (.int 1)]) rfl rfl ?_
  show NX n (rmn 76 3 261) RX10 cX10_text 2 (some .int) _ _ 0 _ [] _ 0 0
  have hh : f_X5_hasRoom m = some (1, m) := by
    unfold f_X5_hasRoom
    rw [h13, if_neg (show ¬ (4 : Int32) ≤ nI nl from ix_lt (n := 4) h4 (by decide))]
  have hcut : f_X9_cut mc 0 = some (wr mc 1 1 0) := rfl
  refine n_iloadn_1 dX10_text_0 ?_
  refine n_if_ne 53 dX10_text_1 (by decide) (fun _ => ?_) (fun h => absurd h n10)
  refine n_iloadn_1 dX10_text_53 ?_
  refine n_iconst 1 dX10_text_54 rfl ?_
  refine n_icmp_ne 99 dX10_text_55 (by decide) (fun h => absurd rfl h) (fun _ => ?_)
  refine n_aloadn_0 dX10_text_58 ?_
  refine n_get (wsO (g := gOf n ad nl ln) pn_0 pc_0) fo_10_5 (flds_get rfl) dX10_text_59 ?_
  refine n_callV (As := []) rfl (cl_ncl (c_X5_hasRoom hh)) (wsO (g := gOf n ad nl ln) pn_13 pc_13) (q := (RX5, TX5, 4)) rfl ce_X5_hasRoom lk_X10_104 rfl ⟨Nat.le_of_ble_eq_true rfl, Nat.le_of_ble_eq_true rfl⟩ ⟨Nat.le_of_ble_eq_true rfl, Nat.le_of_ble_eq_true rfl⟩ rfl dX10_text_62 ?_
  rintro _ rfl
  refine n_if_eq 99 dX10_text_65 (by decide) (fun h => absurd h n10) (fun _ => ?_)
  refine n_aloadn_0 dX10_text_68 ?_
  refine n_get (wsO (g := gOf n ad nl ln) pn_0 pc_0) fo_10_4 (flds_get rfl) dX10_text_69 ?_
  refine n_callV (As := []) rfl (cl_ncl (c_X6_read gOf_X hr)) (wsO (g := gOf n ad nl ln) pn_10 pc_10) (q := (RX6, TX6, 3)) rfl ce_X6_read lk_X10_93 rfl ⟨Nat.le_of_ble_eq_true rfl, Nat.le_of_ble_eq_true rfl⟩ ⟨Nat.le_of_ble_eq_true rfl, Nat.le_of_ble_eq_true rfl⟩ rfl dX10_text_72 ?_
  rintro _ rfl
  refine n_iconst (-1) dX10_text_75 rfl ?_
  refine n_icmp_ne 99 dX10_text_76 (by decide) (fun h => absurd rfl h) (fun _ => ?_)
  refine n_aloadn_0 dX10_text_79 ?_
  refine n_get (wsO (g := gOf n ad nl ln) pn_0 pc_0) fo_10_0 (flds_get rfl) dX10_text_80 ?_
  refine n_iconst 0 dX10_text_83 rfl ?_
  refine n_callV (As := [.int 0]) rfl (cl_ncl (c_X9_cut hcut)) (wsO (g := gOf n ad nl ln) pn_1 pc_1) (q := (RX9, TX9, 2)) rfl ce_X9_cut lk_X10_86 rfl ⟨Nat.le_of_ble_eq_true rfl, Nat.le_of_ble_eq_true rfl⟩ ⟨Nat.le_of_ble_eq_true rfl, Nat.le_of_ble_eq_true rfl⟩ rfl dX10_text_84 ?_
  rintro _ rfl
  refine n_aloadn_0 dX10_text_87 ?_
  refine n_get (wsO (g := gOf n ad nl ln) pn_0 pc_0) fo_10_5 (flds_get rfl) dX10_text_88 ?_
  refine n_aloadn_0 dX10_text_91 ?_
  refine n_get (wsO (g := gOf n ad nl ln) pn_0 pc_0) fo_10_4 (flds_get rfl) dX10_text_92 ?_
  have w13 : (wr mc 1 1 0).1 13 = mc.1 13 := wr_ne (by decide)
  have w10 : (wr mc 1 1 0).1 10 = mc.1 10 := wr_ne (by decide)
  have w12 : (wr mc 1 1 0).1 12 = mc.1 12 := wr_ne (by decide)
  have ho : (wsOf (gOf n ad nl ln) (wr mc 1 1 0))[13]? = some (ad 13, .inr (5, [.ref (ad 14), .ref (ad 15), .int (nI nl), .int ((wr mc 1 1 0).1 13 3)])) := by
    rw [ws_get pn_13, ← h13c, ← w13]; rfl
  have hl : (wsOf (gOf n ad nl ln) (wr mc 1 1 0))[14]? = some (ad 14, .inl (n.2.2.1 3, 4, .inr (.inr (.inr (.inr (fun k => if k < nl then some (ad (45 + 3 * k)) else none)))))) := by
    rw [ws_get pn_14]; rfl
  have he : (wsOf (gOf n ad nl ln) (wr mc 1 1 0))[10]? = some (ad 10, .inr (6, [.ref (ad 11), .ref (ad 12), .int (nI N)])) := by
    rw [ws_get pn_10, ← h10, ← w10]; rfl
  have hb : (wsOf (gOf n ad nl ln) (wr mc 1 1 0))[12]? = some (ad 12, .inl (n.2.2.1 0, 240, .inl (mc.1 12))) := by
    rw [ws_get pn_12, ← w12]; rfl
  refine n_callV (As := [.ref (ad 10)]) rfl (i_X5_enact ho hl he rfl rfl hb hN h4) ho (q := (RX5, TX5, 4)) rfl ce_X5_enact lk_X10_108 rfl ⟨Nat.le_of_ble_eq_true rfl, Nat.le_of_ble_eq_true rfl⟩ ⟨Nat.le_of_ble_eq_true rfl, by show 0 + 0 + 0 + 0 + (N + 21) ≤ 261; omega⟩ rfl dX10_text_95 ?_
  rintro _ ⟨q, q1, q2, F, hF, rfl⟩
  refine n_iret ⟨fun p => if p = 45 + 3 * nl then q else if p = 46 + 3 * nl then q1 else if p = 47 + 3 * nl then q2 else ad p, F, fun p hp => ?_, hF, ?_⟩ (Nat.le_of_ble_eq_true rfl) (by show 0 + 0 + 0 + 0 + (N + 21) ≤ 261; omega) dX10_text_98
  · dsimp only
    rw [if_neg (by omega), if_neg (by omega), if_neg (by omega)]
  · refine ws_grow (fun p hp => ?_) ?_ ?_ ?_
    · rw [if_neg (by omega), if_neg (by omega), if_neg (by omega)]
    · rw [if_pos rfl]
    · rw [if_neg (by omega), if_pos rfl]
    · rw [if_neg (by omega), if_neg (by omega), if_pos rfl]
