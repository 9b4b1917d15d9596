/-! a law is taken -/
theorem lst_setL {pre t : va_W} {i : Nat} {y : Nat × va_E} (h : i < pre.length) : (pre ++ t).set i y = pre.set i y ++ t := by
  apply List.ext_getElem?
  intro q
  by_cases e : q = i
  · subst e
    rw [List.getElem?_set_self (by rw [List.length_append]; omega), List.getElem?_append_left (by rw [List.length_set]; exact h), List.getElem?_set_self h]
  · rw [List.getElem?_set_ne (Ne.symm e)]
    rcases Nat.lt_or_ge q pre.length with z | z
    · rw [List.getElem?_append_left z, List.getElem?_append_left (by rw [List.length_set]; exact z), List.getElem?_set_ne (Ne.symm e)]
    · rw [List.getElem?_append_right z, List.getElem?_append_right (by rw [List.length_set]; exact z), List.length_set]
theorem lst_lt {pre : va_W} {i : Nat} {x : Nat × va_E} (h : pre[i]? = some x) : i < pre.length := (List.getElem?_eq_some_iff.mp h).1
theorem i_X5_enact {n : Nf} {ws : va_W} {o r la le b io il i j N k : Nat} {h : Int32} {fs : List Value} {f : Nat → Int32} {fl : Nat → Option Nat} (ho : ws[io]? = some (o, .inr (5, [.ref la, .ref le, .int (nI k), .int h]))) (hl : ws[il]? = some (la, .inl (n.2.2.1 3, 4, .inr (.inr (.inr (.inr fl)))))) (he : ws[i]? = some (r, .inr (6, fs))) (hf2 : fs[2]? = some (.int (nI N))) (hf1 : fs[1]? = some (.ref b)) (hb : ws[j]? = some (b, .inl (n.2.2.1 0, 240, .inl f))) (hN : N ≤ 240) (hk : k < 4) : NCl n 3 yX5_enact cX5_enact 2 (some .int) [.ref o, .ref r] ws 3 (N + 21) (fun w => ∃ q q1 q2 F, (∀ k, k < N → F k = f k) ∧ w = ((ws.set il (la, .inl (n.2.2.1 3, 4, .inr (.inr (.inr (.inr (fun j => if j = k then some q else fl j))))))).set io (o, .inr (5, [.ref la, .ref le, .int (nI (k + 1)), .int h]))) ++ [(q, .inr (4, [.ref q1, .ref q2, .int 0])), (q1, .inl (n.2.2.1 0, N, .inl F)), (q2, .inl (n.2.2.1 0, 18, .inl (fun _ => 0)))]) (some (.int (nI k))) := by
  have hne : il ≠ io := fun e => by subst e; rw [ho] at hl; cases hl
  refine ncl_of (by decide) (Nat.le_of_ble_eq_true rfl) (vs := [some (.ref o), some (.ref r)]) rfl rfl ?_
  show NX n (rmn 3 3 (N + 21)) RX5 cX5_enact 2 (some .int) _ _ 0 _ [] _ 0 0
  refine n_aloadn_0 dX5_enact_0 ?_
  refine n_get ho fo_5_2 rfl dX5_enact_1 ?_
  refine n_if_lt 19 dX5_enact_4 (by decide) (fun h => absurd h (nI_pos (by omega))) (fun _ => ?_)
  refine n_aloadn_0 dX5_enact_7 ?_
  refine n_get ho fo_5_2 rfl dX5_enact_8 ?_
  refine n_aloadn_0 dX5_enact_11 ?_
  refine n_get ho fo_5_0 rfl dX5_enact_12 ?_
  refine n_alen (t0 := 3) (ty := .object "CountRule$Law") 4 hl rfl rfl dX5_enact_15 ?_
  refine n_icmp_lt 21 dX5_enact_16 (by decide) (fun _ => ?_) (fun h => absurd (show nI k < 4 from nI_lt (b := 4) hk (by decide)) h)
  refine n_aloadn_0 dX5_enact_21 ?_
  refine n_get ho fo_5_0 rfl dX5_enact_22 ?_
  refine n_aloadn_0 dX5_enact_25 ?_
  refine n_get ho fo_5_2 rfl dX5_enact_26 ?_
  refine n_new tyX4 tyX4_ok in_4 cl_X5_11 in_st_4.1 in_st_4.2 (ci := 4) rfl [.null, .null, .int 0] (by decide) (Nat.le_of_ble_eq_true rfl) (by show 0 + 3 ≤ N + 21; omega) dX5_enact_29 (fun q => ?_)
  refine n_dup dX5_enact_32 rfl ?_
  refine n_aloadn_1 dX5_enact_33 ?_
  refine n_init (na := 1) (As := [.ref r]) rfl (i_X4_init (a := q) he hf2 hf1 hb hN) ii_X4_init.1 ii_X4_init.2.1 ii_X4_init.2.2 lk_X5_28 rfl (by decide +kernel) rfl ⟨Nat.le_of_ble_eq_true rfl, Nat.le_of_ble_eq_true rfl⟩ ⟨Nat.le_of_ble_eq_true rfl, by show 0 + 3 + (N + 18) ≤ N + 21; omega⟩ rfl dX5_enact_34 ?_
  rintro _ ⟨q1, q2, F, hF, rfl⟩
  refine n_astq (f' := fun j => if j = k then some q else fl j) (lst_pre hl) (lst_get ws _ 0 rfl) (in_nI hk (by decide)) dX5_enact_37 (fun j => by rw [nI_clamp (by omega)]) ?_
  rw [lst_setL (lst_lt hl)]
  have ho1 : (ws.set il (la, .inl (n.2.2.1 3, 4, .inr (.inr (.inr (.inr (fun j => if j = k then some q else fl j)))))) )[io]? = some (o, .inr (5, [.ref la, .ref le, .int (nI k), .int h])) := by rw [List.getElem?_set_ne hne]; exact ho
  refine n_aloadn_0 dX5_enact_38 ?_
  refine n_dup dX5_enact_39 rfl ?_
  refine n_get (lst_pre ho1) fo_5_2 rfl dX5_enact_40 ?_
  refine n_iconst 1 dX5_enact_43 rfl ?_
  refine n_iadd dX5_enact_44 ?_
  rw [nI_1]
  refine n_put (ty := .int) (x := .int (nI (k + 1))) (lst_pre ho1) fo_5_2 tyX5 tyX5_ok nmX5 rfl (by decide +kernel) rfl rfl (Nat.le_of_ble_eq_true rfl) dX5_enact_45 ?_
  rw [lst_setL (lst_lt ho1)]
  refine n_aloadn_0 dX5_enact_48 ?_
  refine n_get (fs := [.ref la, .ref le, .int (nI (k + 1)), .int h]) (lst_pre (by rw [List.getElem?_set_self (lst_lt ho1)]; rfl)) fo_5_2 rfl dX5_enact_49 ?_
  refine n_iconst 1 dX5_enact_52 rfl ?_
  refine n_isub dX5_enact_53 ?_
  rw [nI_s1 (by omega), Nat.add_sub_cancel]
  exact n_iret ⟨q, q1, q2, F, hF, rfl⟩ (Nat.le_of_ble_eq_true rfl) (by show 0 + 3 + (N + 18) ≤ N + 21; omega) dX5_enact_54
theorem flds_g {g g' : Cf} {r : Nat → Int32} {x : Int64} (h : ∀ q, q < 45 → g'.ad q = g.ad q) (hs : g'.sa = g.sa) (tm : List Nat) (ht : ∀ c, c ∈ tm → c < 55 ∨ 1000 ≤ c) : flds g' r x tm = flds g r x tm := by
  apply List.ext_getElem?
  intro k
  cases hc : tm[k]? with
  | none => simp [flds, hc]
  | some c =>
    rw [flds_get hc, flds_get hc]
    unfold slotV
    have hm := ht c (List.mem_of_getElem? hc)
    by_cases h0 : c = 0
    · rw [if_pos h0, if_pos h0]
    · rw [if_neg h0, if_neg h0]
      by_cases h1 : c = 1
      · rw [if_pos h1, if_pos h1]
      · rw [if_neg h1, if_neg h1]
        by_cases h2 : c = 2
        · rw [if_pos h2, if_pos h2]
          split
          · rw [h 28 (by decide)]
          · rw [h 29 (by decide)]
        · rw [if_neg h2, if_neg h2]
          by_cases h3 : c < 1000
          · rw [if_pos h3, if_pos h3, h (c - 10) (by omega)]
          · rw [if_neg h3, if_neg h3, hs]
theorem shp_ok : ∀ e, e ∈ shp → ∀ o, e = .inr o → ∀ c, c ∈ o.2 → c < 55 ∨ 1000 ≤ c := by
  have h : ∀ e, e ∈ shp → (match e with
    | .inr o => o.2.all (fun c => decide (c < 55) || decide (1000 ≤ c))
    | .inl _ => true) = true := by decide
  intro e he o ho c hc
  subst ho
  have := h _ he
  have := List.all_eq_true.mp this c hc
  simpa using this
theorem shp_14 : ∀ p, p < 45 → p ≠ 14 → ∀ a : Nat × Nat, shp[p]? = some (.inl a) → a.2 < 3 := by
  have h : ∀ p, p < 45 → p ≠ 14 → (match (shp[p]? : Option ((Nat × Nat) ⊕ (Nat × List Nat))) with
    | some (.inl a) => decide (a.2 < 3)
    | _ => true) = true := by decide
  intro p hp h14 a ha
  have := h p hp h14
  rw [ha] at this
  simpa using this
theorem cellR_g {n : Nf} {ad ad' : Nat → Nat} {nl nl' : Nat} {ln ln' : Nat → Nat} {r : Nat → Int32} {x : Int64} {p : Nat} (h : ∀ q, q < 45 → ad' q = ad q) (hp : p < 45) (h14 : p ≠ 14) : cellR (gOf n ad' nl' ln') p r x = cellR (gOf n ad nl ln) p r x := by
  unfold cellR
  cases hs : shp[p]? with
  | none =>
    rw [List.getElem?_eq_none_iff, shp_len] at hs
    omega
  | some e =>
    cases e with
    | inl a =>
      have h3 := shp_14 p hp h14 a hs
      dsimp only
      unfold arrC
      by_cases h0 : a.2 = 0
      · rw [if_pos h0, if_pos h0]; rfl
      · rw [if_neg h0, if_neg h0]
        by_cases h1 : a.2 = 1
        · rw [if_pos h1, if_pos h1]; rfl
        · rw [if_neg h1, if_neg h1, if_pos (by omega), if_pos (by omega)]; rfl
    | inr o =>
      dsimp only
      rw [flds_g (g := gOf n ad nl ln) (g' := gOf n ad' nl' ln') h rfl o.2 (shp_ok _ (List.mem_of_getElem? hs) o rfl)]
theorem cellR_l {g : Cf} {p : Nat} {r : Nat → Int32} {x : Int64} (hp : 45 ≤ p) : cellR g p r x = (if (p - 45) % 3 = 0 then .inr (4, [.ref (g.ad (p + 1)), .ref (g.ad (p + 2)), .int (r 2)]) else if (p - 45) % 3 = 1 then .inl (g.cA 0, g.ln ((p - 45) / 3), .inl r) else .inl (g.cA 0, 18, .inl r)) := by
  unfold cellR
  have : shp[p]? = none := by rw [List.getElem?_eq_none_iff, shp_len]; exact hp
  rw [this]
def mEn (m : Sg) (nl : Nat) (F : Nat → Int32) : Sg := wrr (wrr (wr (wr m 13 2 (nI (nl + 1))) (45 + 3 * nl) 2 0) (46 + 3 * nl) F) (47 + 3 * nl) (fun _ => 0)
theorem mEn_ne {m : Sg} {nl p : Nat} {F : Nat → Int32} (h1 : p ≠ 13) (h2 : p ≠ 45 + 3 * nl) (h3 : p ≠ 46 + 3 * nl) (h4 : p ≠ 47 + 3 * nl) : (mEn m nl F).1 p = m.1 p := by
  unfold mEn
  rw [wrr_ne h4, wrr_ne h3, wr_ne h2, wr_ne h1]
theorem ws_grow {n : Nf} {ad ad' : Nat → Nat} {nl N q q1 q2 : Nat} {ln : Nat → Nat} {m : Sg} {F : Nat → Int32} (h : ∀ p, p < 45 + 3 * nl → ad' p = ad p) (h0 : ad' (45 + 3 * nl) = q) (h1 : ad' (46 + 3 * nl) = q1) (h2 : ad' (47 + 3 * nl) = q2) : (((wsOf (gOf n ad nl ln) m).set 14 (ad 14, .inl (n.2.2.1 3, 4, .inr (.inr (.inr (.inr (fun j => if j = nl then some q else (if j < nl then some (ad (45 + 3 * j)) else none)))))))).set 13 (ad 13, .inr (5, [.ref (ad 14), .ref (ad 15), .int (nI (nl + 1)), .int (m.1 13 3)]))) ++ [(q, .inr (4, [.ref q1, .ref q2, .int 0])), (q1, .inl (n.2.2.1 0, N, .inl F)), (q2, .inl (n.2.2.1 0, 18, .inl (fun _ => 0)))] = wsOf (gOf n ad' (nl + 1) (lnA ln nl N)) (mEn m nl F) := by
  have hN : (gOf n ad nl ln).N = 45 + 3 * nl := rfl
  have hN' : (gOf n ad' (nl + 1) (lnA ln nl N)).N = 45 + 3 * (nl + 1) := rfl
  have hlen : ∀ (g : Cf) (m : Sg), (wsOf g m).length = g.N := fun g m => by simp [wsOf]
  have e2 : ∀ p, (mEn m nl F).2 p = m.2 p := fun p => rfl
  apply List.ext_getElem?
  intro p
  rcases Nat.lt_or_ge p (45 + 3 * nl) with hp | hp
  · rw [List.getElem?_append_left (by rw [List.length_set, List.length_set, hlen, hN]; exact hp), ws_get (by rw [hN']; omega)]
    by_cases h13 : p = 13
    · subst h13
      rw [List.getElem?_set_self (by rw [List.length_set, hlen, hN]; exact hp)]
      have er : ((mEn m nl F).1 13) = upd (m.1 13) 2 (nI (nl + 1)) := by
        unfold mEn
        rw [wrr_ne (by omega), wrr_ne (by omega), wr_ne (by omega), wr_at]
      rw [er]
      show some (ad 13, _) = some (ad' 13, Sum.inr (5, [Value.ref (ad' 14), Value.ref (ad' 15), Value.int (upd (m.1 13) 2 (nI (nl + 1)) 2), Value.int (upd (m.1 13) 2 (nI (nl + 1)) 3)]))
      rw [h 13 hp, h 14 (by omega), h 15 (by omega), pk_us, pk_un (by decide)]
    · rw [List.getElem?_set_ne (Ne.symm h13)]
      by_cases h14 : p = 14
      · subst h14
        rw [List.getElem?_set_self (by rw [hlen, hN]; exact hp)]
        show some (ad 14, _) = some (ad' 14, Sum.inl (n.2.2.1 3, 4, Sum.inr (Sum.inr (Sum.inr (Sum.inr (fun k => if k < nl + 1 then some (ad' (45 + 3 * k)) else none))))))
        rw [h 14 hp]
        have ef : (fun j => if j = nl then some q else (if j < nl then some (ad (45 + 3 * j)) else none)) = (fun k => if k < nl + 1 then some (ad' (45 + 3 * k)) else none) := funext fun j => by
          by_cases e : j = nl
          · subst e; rw [if_pos rfl, if_pos (by omega), h0]
          · rw [if_neg e]
            by_cases e' : j < nl
            · rw [if_pos e', if_pos (by omega), h _ (by omega)]
            · rw [if_neg e', if_neg (by omega)]
        rw [ef]
      · rw [List.getElem?_set_ne (Ne.symm h14), ws_get (by rw [hN]; exact hp), mEn_ne h13 (by omega) (by omega) (by omega), e2]
        show some (ad p, _) = some (ad' p, _)
        rw [h p hp]
        rcases Nat.lt_or_ge p 45 with h45 | h45
        · rw [cellR_g (n := n) (fun q hq => h q (by omega)) h45 h14]
        · rw [cellR_l h45, cellR_l h45]
          by_cases c0 : (p - 45) % 3 = 0
          · rw [if_pos c0, if_pos c0]
            show some (ad p, Sum.inr (4, [Value.ref (ad (p + 1)), Value.ref (ad (p + 2)), _])) = some (ad p, Sum.inr (4, [Value.ref (ad' (p + 1)), Value.ref (ad' (p + 2)), _]))
            rw [h (p + 1) (by omega), h (p + 2) (by omega)]
          · rw [if_neg c0, if_neg c0]
            by_cases c1 : (p - 45) % 3 = 1
            · rw [if_pos c1, if_pos c1]
              have : lnA ln nl N ((p - 45) / 3) = ln ((p - 45) / 3) := by unfold lnA; rw [if_neg (by omega)]
              show some (ad p, Sum.inl (_, ln ((p - 45) / 3), _)) = some (ad p, Sum.inl (_, lnA ln nl N ((p - 45) / 3), _))
              rw [this]; rfl
            · rw [if_neg c1, if_neg c1]; rfl
  · rw [List.getElem?_append_right (by rw [List.length_set, List.length_set, hlen, hN]; exact hp), List.length_set, List.length_set, hlen, hN]
    rcases Nat.lt_or_ge p (45 + 3 * (nl + 1)) with hp' | hp'
    · rw [ws_get (by rw [hN']; exact hp')]
      rcases (show p = 45 + 3 * nl ∨ p = 46 + 3 * nl ∨ p = 47 + 3 * nl by omega) with e | e | e
      · subst e
        rw [Nat.sub_self, cellR_l (by omega), if_pos (by omega)]
        have er : (mEn m nl F).1 (45 + 3 * nl) 2 = 0 := by
          unfold mEn
          rw [wrr_ne (by omega), wrr_ne (by omega), wr_at, pk_us]
        rw [er]
        show some (q, Sum.inr (4, [Value.ref q1, Value.ref q2, _])) = some (ad' (45 + 3 * nl), Sum.inr (4, [Value.ref (ad' (45 + 3 * nl + 1)), Value.ref (ad' (45 + 3 * nl + 2)), _]))
        rw [h0, show 45 + 3 * nl + 1 = 46 + 3 * nl by omega, show 45 + 3 * nl + 2 = 47 + 3 * nl by omega, h1, h2]
      · subst e
        rw [show 46 + 3 * nl - (45 + 3 * nl) = 1 by omega, cellR_l (by omega), if_neg (by omega), if_pos (by omega)]
        have er : (mEn m nl F).1 (46 + 3 * nl) = F := by
          unfold mEn
          rw [wrr_ne (by omega), wrr_at]
        rw [er]
        have : lnA ln nl N ((46 + 3 * nl - 45) / 3) = N := by unfold lnA; rw [if_pos (by omega)]
        show some (q1, Sum.inl (_, N, _)) = some (ad' (46 + 3 * nl), Sum.inl (_, lnA ln nl N ((46 + 3 * nl - 45) / 3), _))
        rw [this, h1]; rfl
      · subst e
        rw [show 47 + 3 * nl - (45 + 3 * nl) = 2 by omega, cellR_l (by omega), if_neg (by omega), if_neg (by omega)]
        have er : (mEn m nl F).1 (47 + 3 * nl) = (fun _ => 0) := by
          unfold mEn
          rw [wrr_at]
        rw [er]
        show some (q2, _) = some (ad' (47 + 3 * nl), _)
        rw [h2]; rfl
    · rw [List.getElem?_eq_none (by simp only [List.length_cons, List.length_nil]; omega), List.getElem?_eq_none (by rw [hlen, hN']; exact hp')]
