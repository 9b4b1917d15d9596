/-! a law is made -/
theorem dX4_init_0 : decode cX4_init 0 = .ok (.aload_n 0, 1) := by decide +kernel
theorem dX4_init_1 : decode cX4_init 1 = .ok (.invokespecial 3, 3) := by decide +kernel
theorem dX4_init_4 : decode cX4_init 4 = .ok (.aload_n 0, 1) := by decide +kernel
theorem dX4_init_5 : decode cX4_init 5 = .ok (.iconst 0, 1) := by decide +kernel
theorem dX4_init_6 : decode cX4_init 6 = .ok (.aload_n 1, 1) := by decide +kernel
theorem dX4_init_7 : decode cX4_init 7 = .ok (.invokevirtual 9, 3) := by decide +kernel
theorem dX4_init_10 : decode cX4_init 10 = .ok (.invokestatic 15, 3) := by decide +kernel
theorem dX4_init_13 : decode cX4_init 13 = .ok (.newarray .int, 2) := by decide +kernel
theorem dX4_init_15 : decode cX4_init 15 = .ok (.putfield 21, 3) := by decide +kernel
theorem dX4_init_18 : decode cX4_init 18 = .ok (.iconst 0, 1) := by decide +kernel
theorem dX4_init_19 : decode cX4_init 19 = .ok (.istore_n 2, 1) := by decide +kernel
theorem dX4_init_20 : decode cX4_init 20 = .ok (.iload_n 2, 1) := by decide +kernel
theorem dX4_init_21 : decode cX4_init 21 = .ok (.aload_n 0, 1) := by decide +kernel
theorem dX4_init_22 : decode cX4_init 22 = .ok (.getfield 21, 3) := by decide +kernel
theorem dX4_init_25 : decode cX4_init 25 = .ok (.arraylength, 1) := by decide +kernel
theorem dX4_init_26 : decode cX4_init 26 = .ok (.if_icmp .ge 20, 3) := by decide +kernel
theorem dX4_init_29 : decode cX4_init 29 = .ok (.aload_n 0, 1) := by decide +kernel
theorem dX4_init_30 : decode cX4_init 30 = .ok (.getfield 21, 3) := by decide +kernel
theorem dX4_init_33 : decode cX4_init 33 = .ok (.iload_n 2, 1) := by decide +kernel
theorem dX4_init_34 : decode cX4_init 34 = .ok (.aload_n 1, 1) := by decide +kernel
theorem dX4_init_35 : decode cX4_init 35 = .ok (.iload_n 2, 1) := by decide +kernel
theorem dX4_init_36 : decode cX4_init 36 = .ok (.invokevirtual 27, 3) := by decide +kernel
theorem dX4_init_39 : decode cX4_init 39 = .ok (.iastore, 1) := by decide +kernel
theorem dX4_init_40 : decode cX4_init 40 = .ok (.iinc 2 1, 3) := by decide +kernel
theorem dX4_init_43 : decode cX4_init 43 = .ok (.goto (-23), 3) := by decide +kernel
theorem dX4_init_46 : decode cX4_init 46 = .ok (.aload_n 0, 1) := by decide +kernel
theorem dX4_init_47 : decode cX4_init 47 = .ok (.bipush 18, 2) := by decide +kernel
theorem dX4_init_49 : decode cX4_init 49 = .ok (.newarray .int, 2) := by decide +kernel
theorem dX4_init_51 : decode cX4_init 51 = .ok (.putfield 31, 3) := by decide +kernel
theorem dX4_init_54 : decode cX4_init 54 = .ok (.return_, 1) := by decide +kernel
theorem dX5_enact_0 : decode cX5_enact 0 = .ok (.aload_n 0, 1) := by decide +kernel
theorem dX5_enact_1 : decode cX5_enact 1 = .ok (.getfield 25, 3) := by decide +kernel
theorem dX5_enact_4 : decode cX5_enact 4 = .ok (.ifCond .lt 15, 3) := by decide +kernel
theorem dX5_enact_7 : decode cX5_enact 7 = .ok (.aload_n 0, 1) := by decide +kernel
theorem dX5_enact_8 : decode cX5_enact 8 = .ok (.getfield 25, 3) := by decide +kernel
theorem dX5_enact_11 : decode cX5_enact 11 = .ok (.aload_n 0, 1) := by decide +kernel
theorem dX5_enact_12 : decode cX5_enact 12 = .ok (.getfield 13, 3) := by decide +kernel
theorem dX5_enact_15 : decode cX5_enact 15 = .ok (.arraylength, 1) := by decide +kernel
theorem dX5_enact_16 : decode cX5_enact 16 = .ok (.if_icmp .lt 5, 3) := by decide +kernel
theorem dX5_enact_19 : decode cX5_enact 19 = .ok (.iconst (-1), 1) := by decide +kernel
theorem dX5_enact_20 : decode cX5_enact 20 = .ok (.ireturn, 1) := by decide +kernel
theorem dX5_enact_21 : decode cX5_enact 21 = .ok (.aload_n 0, 1) := by decide +kernel
theorem dX5_enact_22 : decode cX5_enact 22 = .ok (.getfield 13, 3) := by decide +kernel
theorem dX5_enact_25 : decode cX5_enact 25 = .ok (.aload_n 0, 1) := by decide +kernel
theorem dX5_enact_26 : decode cX5_enact 26 = .ok (.getfield 25, 3) := by decide +kernel
theorem dX5_enact_29 : decode cX5_enact 29 = .ok (.new 11, 3) := by decide +kernel
theorem dX5_enact_32 : decode cX5_enact 32 = .ok (.dup, 1) := by decide +kernel
theorem dX5_enact_33 : decode cX5_enact 33 = .ok (.aload_n 1, 1) := by decide +kernel
theorem dX5_enact_34 : decode cX5_enact 34 = .ok (.invokespecial 28, 3) := by decide +kernel
theorem dX5_enact_37 : decode cX5_enact 37 = .ok (.aastore, 1) := by decide +kernel
theorem dX5_enact_38 : decode cX5_enact 38 = .ok (.aload_n 0, 1) := by decide +kernel
theorem dX5_enact_39 : decode cX5_enact 39 = .ok (.dup, 1) := by decide +kernel
theorem dX5_enact_40 : decode cX5_enact 40 = .ok (.getfield 25, 3) := by decide +kernel
theorem dX5_enact_43 : decode cX5_enact 43 = .ok (.iconst 1, 1) := by decide +kernel
theorem dX5_enact_44 : decode cX5_enact 44 = .ok (.iadd, 1) := by decide +kernel
theorem dX5_enact_45 : decode cX5_enact 45 = .ok (.putfield 25, 3) := by decide +kernel
theorem dX5_enact_48 : decode cX5_enact 48 = .ok (.aload_n 0, 1) := by decide +kernel
theorem dX5_enact_49 : decode cX5_enact 49 = .ok (.getfield 25, 3) := by decide +kernel
theorem dX5_enact_52 : decode cX5_enact 52 = .ok (.iconst 1, 1) := by decide +kernel
theorem dX5_enact_53 : decode cX5_enact 53 = .ok (.isub, 1) := by decide +kernel
theorem dX5_enact_54 : decode cX5_enact 54 = .ok (.ireturn, 1) := by decide +kernel
theorem ol_X4_3 : Cond.methodLink RX4 3 objectInit ∈ gw := (gw_tb 580 (by decide +kernel) (by decide +kernel))
theorem in_st_4 : Cond.instantiable RX4 3 ∈ gw ∧ Cond.initialized RX4 ∈ gw := ⟨(gw_tb 576 (by decide +kernel) (by decide +kernel)), (gw_tb 19 (by decide +kernel) (by decide +kernel))⟩
theorem ii_X4_init : Cond.instanceMethod yX4_init ∈ gw ∧ Cond.initialized yX4_init.cls ∈ gw ∧ Cond.code yX4_init cX4_init 3 none ∈ gw := ⟨(gw_tb 578 (by decide +kernel) (by decide +kernel)), (gw_tb 19 (by decide +kernel) (by decide +kernel)), (gw_tb 579 (by decide +kernel) (by decide +kernel))⟩
theorem lst_pre {pre t : va_W} {i : Nat} {x : Nat × va_E} (h : pre[i]? = some x) : (pre ++ t)[i]? = some x := by
  have hi : i < pre.length := (List.getElem?_eq_some_iff.mp h).1
  rw [List.getElem?_append_left hi]; exact h
theorem n_length {n : Nf} {ws : va_W} {i a : Nat} {fs : List Value} {x : Int32} (he : ws[i]? = some (a, .inr (6, fs))) (hf : fs[2]? = some (.int x)) : NCl n 1 yX6_length cX6_length 1 (some .int) [.ref a] ws 0 0 (fun w => w = ws) (some (.int x)) := by
  refine ncl_of (by decide) (Nat.le_of_ble_eq_true rfl) (vs := [some (.ref a)]) rfl rfl ?_
  show NX n (rmn 1 0 0) RX6 cX6_length 1 (some .int) _ _ 0 _ [] _ 0 0
  refine n_aloadn_0 dX6_length_0 ?_
  refine n_get he fo_6_2 hf dX6_length_1 ?_
  exact n_iret rfl (Nat.le_refl _) (Nat.le_refl _) dX6_length_4
theorem n_codeAt {n : Nf} {ws : va_W} {i j a b k : Nat} {fs : List Value} {f : Nat → Int32} (he : ws[i]? = some (a, .inr (6, fs))) (hf : fs[1]? = some (.ref b)) (hb : ws[j]? = some (b, .inl (n.2.2.1 0, 240, .inl f))) (hk : k < 240) : NCl n 1 yX6_codeAt cX6_codeAt 2 (some .int) [.ref a, .int (nI k)] ws 0 0 (fun w => w = ws) (some (.int (f k))) := by
  refine ncl_of (by decide) (Nat.le_of_ble_eq_true rfl) (vs := [some (.ref a), some (.int (nI k))]) rfl rfl ?_
  show NX n (rmn 1 0 0) RX6 cX6_codeAt 2 (some .int) _ _ 0 _ [] _ 0 0
  refine n_iloadn_1 dX6_codeAt_0 ?_
  refine n_if_lt 22 dX6_codeAt_1 (by decide) (fun h => absurd h (nI_pos (by omega))) (fun _ => ?_)
  refine n_iloadn_1 dX6_codeAt_4 ?_
  refine n_aloadn_0 dX6_codeAt_5 ?_
  refine n_get he fo_6_1 hf dX6_codeAt_6 ?_
  refine n_alen (t0 := 0) (ty := .int) 240 hb rfl rfl dX6_codeAt_9 ?_
  refine n_icmp_ge 22 dX6_codeAt_10 (by decide) (fun h => absurd h (ix_lt (n := 240) hk (by decide))) (fun _ => ?_)
  refine n_aloadn_0 dX6_codeAt_13 ?_
  refine n_get he fo_6_1 hf dX6_codeAt_14 ?_
  refine n_iloadn_1 dX6_codeAt_17 ?_
  refine n_iald hb (in_nI hk (by decide)) dX6_codeAt_18 ?_
  rw [nI_clamp (by omega)]
  refine n_goto 23 dX6_codeAt_19 (by decide) ?_
  exact n_iret rfl (Nat.le_refl _) (Nat.le_refl _) dX6_codeAt_23
theorem i_X4_init {n : Nf} {pre : va_W} {a r b i j N : Nat} {fs : List Value} {f : Nat → Int32} (he : pre[i]? = some (r, .inr (6, fs))) (hf2 : fs[2]? = some (.int (nI N))) (hf1 : fs[1]? = some (.ref b)) (hb : pre[j]? = some (b, .inl (n.2.2.1 0, 240, .inl f))) (hN : N ≤ 240) : NCl n 2 yX4_init cX4_init 3 none [.ref a, .ref r] (pre ++ [(a, .inr (4, [.null, .null, .int 0]))]) 2 (N + 18) (fun ws => ∃ q1 q2 F, (∀ k, k < N → F k = f k) ∧ ws = pre ++ [(a, .inr (4, [.ref q1, .ref q2, .int 0])), (q1, .inl (n.2.2.1 0, N, .inl F)), (q2, .inl (n.2.2.1 0, 18, .inl (fun _ => 0)))]) none := by
  refine ncl_of (by decide) (Nat.le_of_ble_eq_true rfl) (vs := [some (.ref a), some (.ref r), none]) rfl rfl ?_
  show NX n (rmn 2 2 (N + 18)) RX4 cX4_init 3 none (("<init>" : String) = "<init>") _ 0 _ [] _ 0 0
  refine n_aloadn_0 dX4_init_0 ?_
  refine n_objInit ol_X4_3 (Nat.le_of_ble_eq_true rfl) (Nat.le_of_ble_eq_true rfl) rfl dX4_init_1 ?_
  refine n_aloadn_0 dX4_init_4 ?_
  refine n_iconst 0 dX4_init_5 rfl ?_
  refine n_aloadn_1 dX4_init_6 ?_
  refine n_callV (As := []) rfl (n_length (lst_pre he) hf2) (lst_pre he) (q := (RX6, TX6, 3)) rfl ce_X6_length lk_X4_9 rfl ⟨Nat.le_of_ble_eq_true rfl, Nat.le_of_ble_eq_true rfl⟩ ⟨Nat.zero_le _, Nat.zero_le _⟩ rfl dX4_init_7 ?_
  rintro _ rfl
  refine n_mmax lk_X4_15 (Nat.le_of_ble_eq_true rfl) (Nat.le_of_ble_eq_true rfl) rfl (Nat.zero_le _) (Nat.zero_le _) dX4_init_10 ?_
  have em : (if (0 : Int32) < nI N then nI N else 0) = nI N := by
    rcases Nat.eq_zero_or_pos N with h | h
    · subst h; rfl
    · rw [if_pos (show (0 : Int32) < nI N from nI_lt (a := 0) h (by omega))]
  rw [em]
  refine n_newa (ty := .int) (cA := n.2.2.1 0) (t0 := 0) N (N, .inl (fun _ => 0)) rfl tyd_0 (fun _ _ _ => ra_int) (fun _ => vc_int _ _) (nI_pos (by omega)) (nI_clamp (by omega)) (by show N * 4 ≤ _; omega) ac_int (Nat.le_of_ble_eq_true rfl) (by show 0 + 0 + N ≤ N + 18; omega) dX4_init_13 (fun q1 => ?_)
  refine n_eq (ws' := pre ++ [(a, .inr (4, [.null, .null, .int 0])), (q1, .inl (n.2.2.1 0, N, .inl (fun _ => 0)))]) (List.append_assoc _ _ _) ?_
  refine n_putF (ty := (.array .int)) (x := .ref q1) (lst_get pre _ 0 rfl) fo_4_0 rfl tyX4 tyX4_ok nmX4 rfl rfl (by decide +kernel) rfl rfl (Nat.le_of_ble_eq_true rfl) dX4_init_15 ?_
  refine n_eq (ws' := pre ++ [(a, .inr (4, [.ref q1, .null, .int 0])), (q1, .inl (n.2.2.1 0, N, .inl (fun _ => 0)))]) (lst_set pre _ 0 _) ?_
  refine n_iconst 0 dX4_init_18 rfl ?_
  refine n_istoren_2 dX4_init_19 rfl ?_
  have loop : ∀ t k F, t + k = N → (∀ j, j < k → F j = f j) → NX n (rmn 2 2 (N + 18)) RX4 cX4_init 3 none (("<init>" : String) = "<init>") (fun below args s => MQ below (Qn n (fun ws => ∃ q1 q2 F, (∀ k, k < N → F k = f k) ∧ ws = pre ++ [(a, .inr (4, [.ref q1, .ref q2, .int 0])), (q1, .inl (n.2.2.1 0, N, .inl F)), (q2, .inl (n.2.2.1 0, 18, .inl (fun _ => 0)))]) none) args s 2 (N + 18) n.A) 20 [some (.ref a), some (.ref r), some (.int (nI k))] [] (pre ++ [(a, .inr (4, [.ref q1, .null, .int 0])), (q1, .inl (n.2.2.1 0, N, .inl F))]) 1 N := by
    intro t
    induction t with
    | zero =>
      intro k F hk hF
      have hk : k = N := by omega
      subst hk
      refine n_iloadn_2 dX4_init_20 ?_
      refine n_aloadn_0 dX4_init_21 ?_
      refine n_get (lst_get pre _ 0 rfl) fo_4_0 rfl dX4_init_22 ?_
      refine n_alen (t0 := 0) (ty := .int) (nI k) (lst_get pre _ 1 rfl) rfl rfl dX4_init_25 ?_
      refine n_icmp_ge 46 dX4_init_26 (by decide) (fun _ => ?_) (fun h => absurd (nI_le (Nat.le_refl k) (by omega)) h)
      refine n_aloadn_0 dX4_init_46 ?_
      refine n_bipush 18 dX4_init_47 rfl ?_
      refine n_newa (ty := .int) (cA := n.2.2.1 0) (t0 := 0) 18 (18, .inl (fun _ => 0)) rfl tyd_0 (fun _ _ _ => ra_int) (fun _ => vc_int _ _) (by decide) rfl (by decide +kernel) ac_int (Nat.le_of_ble_eq_true rfl) (Nat.le_refl _) dX4_init_49 (fun q2 => ?_)
      refine n_eq (ws' := pre ++ [(a, .inr (4, [.ref q1, .null, .int 0])), (q1, .inl (n.2.2.1 0, k, .inl F)), (q2, .inl (n.2.2.1 0, 18, .inl (fun _ => 0)))]) (List.append_assoc _ _ _) ?_
      refine n_putF (ty := (.array .int)) (x := .ref q2) (lst_get pre _ 0 rfl) fo_4_1 rfl tyX4 tyX4_ok nmX4 rfl rfl (by decide +kernel) rfl rfl (Nat.le_of_ble_eq_true rfl) dX4_init_51 ?_
      refine n_eq (ws' := pre ++ [(a, .inr (4, [.ref q1, .ref q2, .int 0])), (q1, .inl (n.2.2.1 0, k, .inl F)), (q2, .inl (n.2.2.1 0, 18, .inl (fun _ => 0)))]) (lst_set pre _ 0 _) ?_
      exact n_vret ⟨q1, q2, F, hF, rfl⟩ (Nat.le_refl _) (Nat.le_refl _) dX4_init_54
    | succ t ih =>
      intro k F hk hF
      refine n_iloadn_2 dX4_init_20 ?_
      refine n_aloadn_0 dX4_init_21 ?_
      refine n_get (lst_get pre _ 0 rfl) fo_4_0 rfl dX4_init_22 ?_
      refine n_alen (t0 := 0) (ty := .int) (nI N) (lst_get pre _ 1 rfl) rfl rfl dX4_init_25 ?_
      refine n_icmp_ge 46 dX4_init_26 (by decide) (fun h => absurd h (ix_lt (by omega) (by omega))) (fun _ => ?_)
      refine n_aloadn_0 dX4_init_29 ?_
      refine n_get (lst_get pre _ 0 rfl) fo_4_0 rfl dX4_init_30 ?_
      refine n_iloadn_2 dX4_init_33 ?_
      refine n_aloadn_1 dX4_init_34 ?_
      refine n_iloadn_2 dX4_init_35 ?_
      refine n_callV (As := [.int (nI k)]) rfl (n_codeAt (lst_pre he) hf1 (lst_pre hb) (show k < 240 by omega)) (lst_pre he) (q := (RX6, TX6, 3)) rfl ce_X6_codeAt lk_X4_27 rfl ⟨Nat.le_of_ble_eq_true rfl, Nat.le_of_ble_eq_true rfl⟩ ⟨Nat.le_of_ble_eq_true rfl, by show N + 0 ≤ N + 18; omega⟩ rfl dX4_init_36 ?_
      rintro _ rfl
      refine n_iast (lst_get pre _ 1 rfl) (in_nI (show k < N by omega) (by omega)) dX4_init_39 ?_
      rw [nI_clamp (by omega)]
      refine n_eq (ws' := pre ++ [(a, .inr (4, [.ref q1, .null, .int 0])), (q1, .inl (n.2.2.1 0, N, .inl (upd F k (f k))))]) (lst_set pre _ 1 _) ?_
      refine n_iinc_2 1 dX4_init_40 rfl rfl ?_
      rw [nI_1]
      refine n_goto 20 dX4_init_43 (by decide) ?_
      refine ih (k + 1) (upd F k (f k)) (by omega) (fun j hj => ?_)
      by_cases e : j = k
      · subst e; rw [pk_us]
      · rw [pk_un e]; exact hF j (by omega)
  have key := loop N 0 (fun _ => 0) (by omega) (fun j hj => absurd hj (by omega))
  have e : 0 + 0 + N = N := by omega
  rw [e]
  exact key
