/-! the law from its entry -/
def m00 : Sg := (fun p k => if p = 4 then upd (fun _ => 0) 98 (-1) k else if p = 6 then upd (fun _ => 0) 98 (-1) k else if p = 13 then (if k = 3 then -1 else 0) else if p = 27 then (if k = 31 then -1 else if k = 34 then -1 else 0) else 0, fun _ => 0)
theorem rel_0 {ln : Nat → Nat} : Rel 0 ln 0 m00 := by
  refine ⟨⟨0, by decide, rfl, rfl, fun k hk => absurd hk (Nat.not_lt_zero _)⟩, ⟨fun _ _ => 0, rfl, rfl, by decide, .inl rfl, rfl, fun k hk => absurd hk (Nat.not_lt_zero _)⟩, rfl, rfl, .inl ⟨rfl, rfl, rfl, rfl, rfl, rfl, rfl, rfl, rfl, rfl, rfl, rfl, rfl, rfl, 0, by decide, rfl⟩⟩
theorem cl_L_8 : Cond.classLink RL 8 RX10 ∈ gw := gw_tb 26 (by decide +kernel) (by decide +kernel)
theorem cl_L_16 : Cond.classLink RL 16 RX11 ∈ gw := gw_tb 1374 (by decide +kernel) (by decide +kernel)
theorem ac_long : Cond.arrayClass (newarray.typeOf .long) ∈ gw := gw_tb 2006 (by decide +kernel) (by decide +kernel)
section
variable {n : Nf} {ad : Nat → Nat} {ln : Nat → Nat}
theorem c0_0 : cellR (gOf n ad 0 ln) 0 (m00.1 0) (m00.2 0) = .inr (10, [.ref (ad 1), .ref (ad 3), .ref (ad 5), .ref (ad 7), .ref (ad 10), .ref (ad 13), .ref (ad 16), .ref (ad 21), .ref (ad 23), .int 0, .long 0]) := rfl
theorem c0_1 : cellR (gOf n ad 0 ln) 1 (m00.1 1) (m00.2 1) = .inr (9, [.ref (ad 2), .int 0]) := rfl
theorem c0_2 : cellR (gOf n ad 0 ln) 2 (m00.1 2) (m00.2 2) = .inl (n.2.2.1 0, 240, .inl (fun _ => 0)) := rfl
theorem c0_3 : cellR (gOf n ad 0 ln) 3 (m00.1 3) (m00.2 3) = .inr (0, [.ref (ad 4)]) := rfl
theorem c0_4 : cellR (gOf n ad 0 ln) 4 (m00.1 4) (m00.2 4) = .inl (n.2.2.1 0, 100, .inl (upd (fun _ => 0) 98 (-1))) := rfl
theorem c0_5 : cellR (gOf n ad 0 ln) 5 (m00.1 5) (m00.2 5) = .inr (0, [.ref (ad 6)]) := rfl
theorem c0_6 : cellR (gOf n ad 0 ln) 6 (m00.1 6) (m00.2 6) = .inl (n.2.2.1 0, 100, .inl (upd (fun _ => 0) 98 (-1))) := rfl
theorem c0_7 : cellR (gOf n ad 0 ln) 7 (m00.1 7) (m00.2 7) = .inr (1, [.ref (ad 8), .ref (ad 9), .int 0]) := rfl
theorem c0_8 : cellR (gOf n ad 0 ln) 8 (m00.1 8) (m00.2 8) = .inr (2, [.ref (ad 1), .int 0, .int 0]) := rfl
theorem c0_9 : cellR (gOf n ad 0 ln) 9 (m00.1 9) (m00.2 9) = .inl (n.2.2.1 0, 6, .inl (fun _ => 0)) := rfl
theorem c0_10 : cellR (gOf n ad 0 ln) 10 (m00.1 10) (m00.2 10) = .inr (6, [.ref (ad 11), .ref (ad 12), .int 0]) := rfl
theorem c0_11 : cellR (gOf n ad 0 ln) 11 (m00.1 11) (m00.2 11) = .inr (2, [.ref (ad 1), .int 0, .int 0]) := rfl
theorem c0_12 : cellR (gOf n ad 0 ln) 12 (m00.1 12) (m00.2 12) = .inl (n.2.2.1 0, 240, .inl (fun _ => 0)) := rfl
theorem c0_13 : cellR (gOf n ad 0 ln) 13 (m00.1 13) (m00.2 13) = .inr (5, [.ref (ad 14), .ref (ad 15), .int 0, .int (-1)]) := rfl
theorem c0_14 : cellR (gOf n ad 0 ln) 14 (m00.1 14) (m00.2 14) = .inl (n.2.2.1 3, 4, .inr (.inr (.inr (.inr (fun _ => none))))) := by
  show (Sum.inl (n.2.2.1 3, 4, Sum.inr (Sum.inr (Sum.inr (Sum.inr (fun k => if k < 0 then some (ad (45 + 3 * k)) else none))))) : va_E) = _
  have e : (fun k => if k < 0 then some (ad (45 + 3 * k)) else none) = (fun (_ : Nat) => (none : Option Nat)) := funext fun k => by rw [if_neg (Nat.not_lt_zero k)]
  rw [e]
theorem c0_15 : cellR (gOf n ad 0 ln) 15 (m00.1 15) (m00.2 15) = .inl (n.2.2.1 0, 6, .inl (fun _ => 0)) := rfl
theorem c0_16 : cellR (gOf n ad 0 ln) 16 (m00.1 16) (m00.2 16) = .inr (7, [.ref (ad 17), .ref (ad 18), .ref (ad 19), .ref (ad 20), .int 0, .int 0, .int 0]) := rfl
theorem c0_17 : cellR (gOf n ad 0 ln) 17 (m00.1 17) (m00.2 17) = .inl (n.2.2.1 0, 4000, .inl (fun _ => 0)) := rfl
theorem c0_18 : cellR (gOf n ad 0 ln) 18 (m00.1 18) (m00.2 18) = .inl (n.2.2.1 0, 300, .inl (fun _ => 0)) := rfl
theorem c0_19 : cellR (gOf n ad 0 ln) 19 (m00.1 19) (m00.2 19) = .inl (n.2.2.1 0, 100, .inl (fun _ => 0)) := rfl
theorem c0_20 : cellR (gOf n ad 0 ln) 20 (m00.1 20) (m00.2 20) = .inl (n.2.2.1 0, 300, .inl (fun _ => 0)) := rfl
theorem c0_21 : cellR (gOf n ad 0 ln) 21 (m00.1 21) (m00.2 21) = .inr (8, [.ref (ad 3), .ref (ad 22)]) := rfl
theorem c0_22 : cellR (gOf n ad 0 ln) 22 (m00.1 22) (m00.2 22) = .inl (n.2.2.1 0, 8, .inl (fun _ => 0)) := rfl
theorem c0_23 : cellR (gOf n ad 0 ln) 23 (m00.1 23) (m00.2 23) = .inr (3, [.ref (ad 3), .ref (ad 5), .ref (ad 13), .ref (ad 24), .ref (ad 25), .ref (ad 26), .int 0, .int 0, .int 0, .int 0, .int 0]) := rfl
theorem c0_24 : cellR (gOf n ad 0 ln) 24 (m00.1 24) (m00.2 24) = .inl (n.2.2.1 0, 24, .inl (fun _ => 0)) := rfl
theorem c0_25 : cellR (gOf n ad 0 ln) 25 (m00.1 25) (m00.2 25) = .inl (n.2.2.1 0, 24, .inl (fun _ => 0)) := rfl
theorem c0_26 : cellR (gOf n ad 0 ln) 26 (m00.1 26) (m00.2 26) = .inl (n.2.2.1 0, 64, .inl (fun _ => 0)) := rfl
theorem c0_27f : flds (gOf n ad 0 ln) (m00.1 27) (m00.2 27) [0, 38, 39, 40, 41, 2, 0, 0, 0, 0, 0, 0, 0, 0, 0, 1000, 1001, 0, 42, 43, 44, 45, 46, 47, 0, 0, 0, 0, 0, 48, 49, 0, 0, 1, 0, 0, 0, 50, 51, 0, 0, 0, 0, 52, 53, 0] = [.int 0, .ref (ad 28), .ref (ad 29), .ref (ad 30), .ref (ad 31), .ref (ad 28), .int 0, .int 0, .int 0, .int 0, .int 0, .int 0, .int 0, .int 0, .int 0, .ref (n.2.2.2.2 0), .ref (n.2.2.2.2 1), .int 0, .ref (ad 32), .ref (ad 33), .ref (ad 34), .ref (ad 35), .ref (ad 36), .ref (ad 37), .int 0, .int 0, .int 0, .int 0, .int 0, .ref (ad 38), .ref (ad 39), .int (-1), .int 0, .long 0, .int (-1), .int 0, .int 0, .ref (ad 40), .ref (ad 41), .int 0, .int 0, .int 0, .int 0, .ref (ad 42), .ref (ad 43), .int 0] := by
  apply List.ext_getElem?
  intro k
  match k with
  | 0 => exact (flds_get rfl).trans rfl
  | 1 => exact (flds_get rfl).trans rfl
  | 2 => exact (flds_get rfl).trans rfl
  | 3 => exact (flds_get rfl).trans rfl
  | 4 => exact (flds_get rfl).trans rfl
  | 5 => exact (flds_get rfl).trans rfl
  | 6 => exact (flds_get rfl).trans rfl
  | 7 => exact (flds_get rfl).trans rfl
  | 8 => exact (flds_get rfl).trans rfl
  | 9 => exact (flds_get rfl).trans rfl
  | 10 => exact (flds_get rfl).trans rfl
  | 11 => exact (flds_get rfl).trans rfl
  | 12 => exact (flds_get rfl).trans rfl
  | 13 => exact (flds_get rfl).trans rfl
  | 14 => exact (flds_get rfl).trans rfl
  | 15 => exact (flds_get rfl).trans rfl
  | 16 => exact (flds_get rfl).trans rfl
  | 17 => exact (flds_get rfl).trans rfl
  | 18 => exact (flds_get rfl).trans rfl
  | 19 => exact (flds_get rfl).trans rfl
  | 20 => exact (flds_get rfl).trans rfl
  | 21 => exact (flds_get rfl).trans rfl
  | 22 => exact (flds_get rfl).trans rfl
  | 23 => exact (flds_get rfl).trans rfl
  | 24 => exact (flds_get rfl).trans rfl
  | 25 => exact (flds_get rfl).trans rfl
  | 26 => exact (flds_get rfl).trans rfl
  | 27 => exact (flds_get rfl).trans rfl
  | 28 => exact (flds_get rfl).trans rfl
  | 29 => exact (flds_get rfl).trans rfl
  | 30 => exact (flds_get rfl).trans rfl
  | 31 => exact (flds_get rfl).trans rfl
  | 32 => exact (flds_get rfl).trans rfl
  | 33 => exact (flds_get rfl).trans rfl
  | 34 => exact (flds_get rfl).trans rfl
  | 35 => exact (flds_get rfl).trans rfl
  | 36 => exact (flds_get rfl).trans rfl
  | 37 => exact (flds_get rfl).trans rfl
  | 38 => exact (flds_get rfl).trans rfl
  | 39 => exact (flds_get rfl).trans rfl
  | 40 => exact (flds_get rfl).trans rfl
  | 41 => exact (flds_get rfl).trans rfl
  | 42 => exact (flds_get rfl).trans rfl
  | 43 => exact (flds_get rfl).trans rfl
  | 44 => exact (flds_get rfl).trans rfl
  | 45 => exact (flds_get rfl).trans rfl
  | k + 46 =>
    rw [List.getElem?_eq_none (by simp [flds]), List.getElem?_eq_none (by simp)]
theorem c0_27 : cellR (gOf n ad 0 ln) 27 (m00.1 27) (m00.2 27) = .inr (11, [.int 0, .ref (ad 28), .ref (ad 29), .ref (ad 30), .ref (ad 31), .ref (ad 28), .int 0, .int 0, .int 0, .int 0, .int 0, .int 0, .int 0, .int 0, .int 0, .ref (n.2.2.2.2 0), .ref (n.2.2.2.2 1), .int 0, .ref (ad 32), .ref (ad 33), .ref (ad 34), .ref (ad 35), .ref (ad 36), .ref (ad 37), .int 0, .int 0, .int 0, .int 0, .int 0, .ref (ad 38), .ref (ad 39), .int (-1), .int 0, .long 0, .int (-1), .int 0, .int 0, .ref (ad 40), .ref (ad 41), .int 0, .int 0, .int 0, .int 0, .ref (ad 42), .ref (ad 43), .int 0]) := by
  rw [pc_27, c0_27f]
theorem c0_28 : cellR (gOf n ad 0 ln) 28 (m00.1 28) (m00.2 28) = .inl (n.2.2.1 1, 240, .inl (fun _ => 0)) := rfl
theorem c0_29 : cellR (gOf n ad 0 ln) 29 (m00.1 29) (m00.2 29) = .inl (n.2.2.1 1, 960, .inl (fun _ => 0)) := rfl
theorem c0_30 : cellR (gOf n ad 0 ln) 30 (m00.1 30) (m00.2 30) = .inl (n.2.2.1 0, 4, .inl (fun _ => 0)) := rfl
theorem c0_31 : cellR (gOf n ad 0 ln) 31 (m00.1 31) (m00.2 31) = .inl (n.2.2.1 0, 128, .inl (fun _ => 0)) := rfl
theorem c0_32 : cellR (gOf n ad 0 ln) 32 (m00.1 32) (m00.2 32) = .inl (n.2.2.1 0, 48, .inl (fun _ => 0)) := rfl
theorem c0_33 : cellR (gOf n ad 0 ln) 33 (m00.1 33) (m00.2 33) = .inl (n.2.2.1 0, 48, .inl (fun _ => 0)) := rfl
theorem c0_34 : cellR (gOf n ad 0 ln) 34 (m00.1 34) (m00.2 34) = .inl (n.2.2.1 0, 12, .inl (fun _ => 0)) := rfl
theorem c0_35 : cellR (gOf n ad 0 ln) 35 (m00.1 35) (m00.2 35) = .inl (n.2.2.1 0, 12, .inl (fun _ => 0)) := rfl
theorem c0_36 : cellR (gOf n ad 0 ln) 36 (m00.1 36) (m00.2 36) = .inl (n.2.2.1 0, 3, .inl (fun _ => 0)) := rfl
theorem c0_37 : cellR (gOf n ad 0 ln) 37 (m00.1 37) (m00.2 37) = .inl (n.2.2.1 0, 3, .inl (fun _ => 0)) := rfl
theorem c0_38 : cellR (gOf n ad 0 ln) 38 (m00.1 38) (m00.2 38) = .inl (n.2.2.1 0, 244, .inl (fun _ => 0)) := rfl
theorem c0_39 : cellR (gOf n ad 0 ln) 39 (m00.1 39) (m00.2 39) = .inl (n.2.2.1 0, 244, .inl (fun _ => 0)) := rfl
theorem c0_40 : cellR (gOf n ad 0 ln) 40 (m00.1 40) (m00.2 40) = .inl (n.2.2.1 0, 3, .inl (fun _ => 0)) := rfl
theorem c0_41 : cellR (gOf n ad 0 ln) 41 (m00.1 41) (m00.2 41) = .inl (n.2.2.1 0, 9760, .inl (fun _ => 0)) := rfl
theorem c0_42 : cellR (gOf n ad 0 ln) 42 (m00.1 42) (m00.2 42) = .inl (n.2.2.1 0, 64, .inl (fun _ => 0)) := rfl
theorem c0_43 : cellR (gOf n ad 0 ln) 43 (m00.1 43) (m00.2 43) = .inl (n.2.2.1 0, 244, .inl (fun _ => 0)) := rfl
theorem c0_44 : cellR (gOf n ad 0 ln) 44 (m00.1 44) (m00.2 44) = .inl (n.2.2.1 2, 1, .inr (.inl (fun _ => 0))) := rfl
theorem g_ad {k : Nat} : (gOf n ad 0 ln).ad k = ad k := rfl
theorem ws_0 : ([(ad 0, .inr (10, [.ref (ad 1), .ref (ad 3), .ref (ad 5), .ref (ad 7), .ref (ad 10), .ref (ad 13), .ref (ad 16), .ref (ad 21), .ref (ad 23), .int 0, .long 0])), (ad 1, .inr (9, [.ref (ad 2), .int 0])), (ad 2, .inl (n.2.2.1 0, 240, .inl (fun _ => 0))), (ad 3, .inr (0, [.ref (ad 4)])), (ad 4, .inl (n.2.2.1 0, 100, .inl (upd (fun _ => 0) 98 (-1)))), (ad 5, .inr (0, [.ref (ad 6)])), (ad 6, .inl (n.2.2.1 0, 100, .inl (upd (fun _ => 0) 98 (-1)))), (ad 7, .inr (1, [.ref (ad 8), .ref (ad 9), .int 0])), (ad 8, .inr (2, [.ref (ad 1), .int 0, .int 0])), (ad 9, .inl (n.2.2.1 0, 6, .inl (fun _ => 0))), (ad 10, .inr (6, [.ref (ad 11), .ref (ad 12), .int 0])), (ad 11, .inr (2, [.ref (ad 1), .int 0, .int 0])), (ad 12, .inl (n.2.2.1 0, 240, .inl (fun _ => 0))), (ad 13, .inr (5, [.ref (ad 14), .ref (ad 15), .int 0, .int (-1)])), (ad 14, .inl (n.2.2.1 3, 4, .inr (.inr (.inr (.inr (fun _ => none)))))), (ad 15, .inl (n.2.2.1 0, 6, .inl (fun _ => 0))), (ad 16, .inr (7, [.ref (ad 17), .ref (ad 18), .ref (ad 19), .ref (ad 20), .int 0, .int 0, .int 0])), (ad 17, .inl (n.2.2.1 0, 4000, .inl (fun _ => 0))), (ad 18, .inl (n.2.2.1 0, 300, .inl (fun _ => 0))), (ad 19, .inl (n.2.2.1 0, 100, .inl (fun _ => 0))), (ad 20, .inl (n.2.2.1 0, 300, .inl (fun _ => 0))), (ad 21, .inr (8, [.ref (ad 3), .ref (ad 22)])), (ad 22, .inl (n.2.2.1 0, 8, .inl (fun _ => 0))), (ad 23, .inr (3, [.ref (ad 3), .ref (ad 5), .ref (ad 13), .ref (ad 24), .ref (ad 25), .ref (ad 26), .int 0, .int 0, .int 0, .int 0, .int 0])), (ad 24, .inl (n.2.2.1 0, 24, .inl (fun _ => 0))), (ad 25, .inl (n.2.2.1 0, 24, .inl (fun _ => 0))), (ad 26, .inl (n.2.2.1 0, 64, .inl (fun _ => 0))), (ad 27, .inr (11, [.int 0, .ref (ad 28), .ref (ad 29), .ref (ad 30), .ref (ad 31), .ref (ad 28), .int 0, .int 0, .int 0, .int 0, .int 0, .int 0, .int 0, .int 0, .int 0, .ref (n.2.2.2.2 0), .ref (n.2.2.2.2 1), .int 0, .ref (ad 32), .ref (ad 33), .ref (ad 34), .ref (ad 35), .ref (ad 36), .ref (ad 37), .int 0, .int 0, .int 0, .int 0, .int 0, .ref (ad 38), .ref (ad 39), .int (-1), .int 0, .long 0, .int (-1), .int 0, .int 0, .ref (ad 40), .ref (ad 41), .int 0, .int 0, .int 0, .int 0, .ref (ad 42), .ref (ad 43), .int 0])), (ad 28, .inl (n.2.2.1 1, 240, .inl (fun _ => 0))), (ad 29, .inl (n.2.2.1 1, 960, .inl (fun _ => 0))), (ad 30, .inl (n.2.2.1 0, 4, .inl (fun _ => 0))), (ad 31, .inl (n.2.2.1 0, 128, .inl (fun _ => 0))), (ad 32, .inl (n.2.2.1 0, 48, .inl (fun _ => 0))), (ad 33, .inl (n.2.2.1 0, 48, .inl (fun _ => 0))), (ad 34, .inl (n.2.2.1 0, 12, .inl (fun _ => 0))), (ad 35, .inl (n.2.2.1 0, 12, .inl (fun _ => 0))), (ad 36, .inl (n.2.2.1 0, 3, .inl (fun _ => 0))), (ad 37, .inl (n.2.2.1 0, 3, .inl (fun _ => 0))), (ad 38, .inl (n.2.2.1 0, 244, .inl (fun _ => 0))), (ad 39, .inl (n.2.2.1 0, 244, .inl (fun _ => 0))), (ad 40, .inl (n.2.2.1 0, 3, .inl (fun _ => 0))), (ad 41, .inl (n.2.2.1 0, 9760, .inl (fun _ => 0))), (ad 42, .inl (n.2.2.1 0, 64, .inl (fun _ => 0))), (ad 43, .inl (n.2.2.1 0, 244, .inl (fun _ => 0))), (ad 44, .inl (n.2.2.1 2, 1, .inr (.inl (fun _ => 0))))] : va_W) = wsOf (gOf n ad 0 ln) m00 := by
  unfold wsOf
  have hr : List.range (gOf n ad 0 ln).N = [0, 1, 2, 3, 4, 5, 6, 7, 8, 9, 10, 11, 12, 13, 14, 15, 16, 17, 18, 19, 20, 21, 22, 23, 24, 25, 26, 27, 28, 29, 30, 31, 32, 33, 34, 35, 36, 37, 38, 39, 40, 41, 42, 43, 44] := rfl
  rw [hr]
  simp only [List.map_cons, List.map_nil, c0_0, c0_1, c0_2, c0_3, c0_4, c0_5, c0_6, c0_7, c0_8, c0_9, c0_10, c0_11, c0_12, c0_13, c0_14, c0_15, c0_16, c0_17, c0_18, c0_19, c0_20, c0_21, c0_22, c0_23, c0_24, c0_25, c0_26, c0_27, c0_28, c0_29, c0_30, c0_31, c0_32, c0_33, c0_34, c0_35, c0_36, c0_37, c0_38, c0_39, c0_40, c0_41, c0_42, c0_43, c0_44, g_ad]
end
set_option maxRecDepth 20000 in
set_option maxHeartbeats 4000000 in
theorem l_start {n : Nf} {b L : Nat} {xs : Nat → Int32} (hst : n.1.stackTraces = false) (hL : L ≤ 3072) : LX n b L xs 0 [some (.ref b), none, none, none, none, none, none] [] [] 0 0 := by
  refine n_new tyX10 tyX10_ok in_10 cl_L_8 in_st_10.1 in_st_10.2 (ci := 10) rfl [.null, .null, .null, .null, .null, .null, .null, .null, .null, .int 0, .long 0] (by decide) (Nat.le_of_ble_eq_true rfl) (Nat.le_of_ble_eq_true rfl) dL_law_0 (fun a => ?_)
  refine n_dup dL_law_3 rfl ?_
  refine n_init (na := 0) (As := []) rfl (i_X10_init [] a) ii_X10_init.1 ii_X10_init.2.1 ii_X10_init.2.2 lk_L_15 rfl (by decide +kernel) rfl ⟨Nat.le_of_ble_eq_true rfl, Nat.le_of_ble_eq_true rfl⟩ ⟨Nat.le_of_ble_eq_true rfl, Nat.le_of_ble_eq_true rfl⟩ rfl dL_law_4 ?_
  rintro _ ⟨q1, q2, q3, q4, q5, q6, q7, q8, q9, q10, q11, q12, q13, q14, q15, q16, q17, q18, q19, q20, q21, q22, q23, q24, q25, q26, rfl⟩
  refine n_astoren_1 dL_law_7 rfl ?_
  refine n_new tyX11 tyX11_ok in_11 cl_L_16 in_st_11.1 in_st_11.2 (ci := 11) rfl [.int 0, .null, .null, .null, .null, .null, .int 0, .int 0, .int 0, .int 0, .int 0, .int 0, .int 0, .int 0, .int 0, .null, .null, .int 0, .null, .null, .null, .null, .null, .null, .int 0, .int 0, .int 0, .int 0, .int 0, .null, .null, .int 0, .int 0, .long 0, .int 0, .int 0, .int 0, .null, .null, .int 0, .int 0, .int 0, .int 0, .null, .null, .int 0] (by decide) (Nat.le_of_ble_eq_true rfl) (Nat.le_of_ble_eq_true rfl) dL_law_8 (fun a2 => ?_)
  refine n_dup dL_law_11 rfl ?_
  refine n_init (na := 0) (As := []) rfl (i_X11_init _ a2) ii_X11_init.1 ii_X11_init.2.1 ii_X11_init.2.2 lk_L_18 rfl (by decide +kernel) rfl ⟨Nat.le_of_ble_eq_true rfl, Nat.le_of_ble_eq_true rfl⟩ ⟨Nat.le_of_ble_eq_true rfl, Nat.le_of_ble_eq_true rfl⟩ rfl dL_law_12 ?_
  rintro _ ⟨w1, w2, w3, w4, w5, w6, w7, w8, w9, w10, w11, w12, w13, w14, w15, w16, rfl⟩
  refine n_astoren_2 dL_law_15 rfl ?_
  refine n_iconst 1 dL_law_16 rfl ?_
  refine n_newa (ty := .long) (cA := n.2.2.1 2) (t0 := 2) 1 (1, .inr (.inl (fun _ => 0))) rfl tyd_2 (fun _ _ _ => ra_long) (fun _ => vc_long _ _) (by decide) rfl (by decide +kernel) ac_long (Nat.le_of_ble_eq_true rfl) (Nat.le_of_ble_eq_true rfl) dL_law_17 (fun a3 => ?_)
  refine n_astoren_3 dL_law_19 rfl ?_
  refine n_iconst 0 dL_law_20 rfl ?_
  refine n_istore_4 dL_law_21 rfl ?_
  obtain ⟨ad, rfl, rfl, rfl, rfl, rfl, rfl, rfl, rfl, rfl, rfl, rfl, rfl, rfl, rfl, rfl, rfl, rfl, rfl, rfl, rfl, rfl, rfl, rfl, rfl, rfl, rfl, rfl, rfl, rfl, rfl, rfl, rfl, rfl, rfl, rfl, rfl, rfl, rfl, rfl, rfl, rfl, rfl, rfl, rfl, rfl⟩ : ∃ ad : Nat → Nat, ad 0 = a ∧ ad 1 = q1 ∧ ad 2 = q2 ∧ ad 3 = q3 ∧ ad 4 = q4 ∧ ad 5 = q5 ∧ ad 6 = q6 ∧ ad 7 = q7 ∧ ad 8 = q8 ∧ ad 9 = q9 ∧ ad 10 = q10 ∧ ad 11 = q11 ∧ ad 12 = q12 ∧ ad 13 = q13 ∧ ad 14 = q14 ∧ ad 15 = q15 ∧ ad 16 = q16 ∧ ad 17 = q17 ∧ ad 18 = q18 ∧ ad 19 = q19 ∧ ad 20 = q20 ∧ ad 21 = q21 ∧ ad 22 = q22 ∧ ad 23 = q23 ∧ ad 24 = q24 ∧ ad 25 = q25 ∧ ad 26 = q26 ∧ ad 27 = a2 ∧ ad 28 = w1 ∧ ad 29 = w2 ∧ ad 30 = w3 ∧ ad 31 = w4 ∧ ad 32 = w5 ∧ ad 33 = w6 ∧ ad 34 = w7 ∧ ad 35 = w8 ∧ ad 36 = w9 ∧ ad 37 = w10 ∧ ad 38 = w11 ∧ ad 39 = w12 ∧ ad 40 = w13 ∧ ad 41 = w14 ∧ ad 42 = w15 ∧ ad 43 = w16 ∧ ad 44 = a3 := ⟨fun p => [a, q1, q2, q3, q4, q5, q6, q7, q8, q9, q10, q11, q12, q13, q14, q15, q16, q17, q18, q19, q20, q21, q22, q23, q24, q25, q26, a2, w1, w2, w3, w4, w5, w6, w7, w8, w9, w10, w11, w12, w13, w14, w15, w16, a3].getD p 0, rfl, rfl, rfl, rfl, rfl, rfl, rfl, rfl, rfl, rfl, rfl, rfl, rfl, rfl, rfl, rfl, rfl, rfl, rfl, rfl, rfl, rfl, rfl, rfl, rfl, rfl, rfl, rfl, rfl, rfl, rfl, rfl, rfl, rfl, rfl, rfl, rfl, rfl, rfl, rfl, rfl, rfl, rfl, rfl, rfl⟩
  refine n_eq (ws' := wsOf (gOf n ad 0 (fun _ => 0)) m00) ws_0 ?_
  exact l_loop hst hL 512 ad 0 (fun _ => 0) m00 0 0 0 _ _ none none (by omega) rfl (by decide) rel_0 (by decide) (by decide) (Nat.le_of_ble_eq_true rfl) (Nat.le_of_ble_eq_true rfl)
theorem whole_start {p : Program} {e : Env} {s : State} {m : MethodId} {below : List Frame} {meth : Method} {c : Code} (l : Launch) (hst : l.stackTraces = false) {b L : Nat} {xs : Nat → Int32} (hL : L ≤ 3072) (C0 : lw_At p s m meth c b L xs) : W p l e room_1 s m #[Value.ref b] below meth c s.heap [] 0 0 (lw_Z below #[Value.ref b] s) (entryFrame m ([Value.ref b] : List Value).toArray 7) := by
  obtain ⟨h1, h2, h3, h4, h5, hts, hX, hb, h8, hg⟩ := C0
  have hA : ∀ a : Nat, a < s.heap.size → ¬ (fun q => s.heap.size ≤ q) a := fun a h1 h2 => absurd h1 (Nat.not_lt.mpr h2)
  obtain ⟨sa, hS⟩ := st_XS (A := fun q => s.heap.size ≤ q) hg hts hA
  obtain ⟨D, cA, hK⟩ := st_K hts
  have hZ := st_ZT (A := fun q => s.heap.size ≤ q) hg hts hA
  have hAO := st_AO hts
  rw [lg_entry_eq]
  have hl := lv_entry [Value.ref b] (n := 7) (Nat.le_of_ble_eq_true rfl)
  have e1 : va_P D vwCl [] s.heap := fun k q hk => by simp at hk
  have e2 : va_D (fun q => s.heap.size ≤ q) [] := ⟨fun i j p1 q1 hp => by simp at hp, fun k q hk => by simp at hk⟩
  exact W_mono (l_start (n := (l, D, cA, s.heap.size, sa)) (b := b) (L := L) (xs := xs) hst hL p e s m #[Value.ref b] below meth c s.heap [] _ ⟨h1, h2, h4, h3, h8, h5, fun w hw => hts w (List.mem_filter.mp hw).1, hK, Nat.le_refl _, hS, hAO⟩ (fun h => h.elim) e1 e2 va_S.rf ⟨⟨hl.1, hl.2.1, fun q hq => hl.2.2 q hq⟩, rfl⟩) (fun t h => h ⟨rfl, hX, hb, rfl, hZ⟩)
set_option maxHeartbeats 4000000 in
theorem lw_walk (l : Launch) (hst : l.stackTraces = false) (b : Addr) (xs : List Int32) : MetFree l x (headSpec (Jvm.Cond.code x code maxLocals ret :: tables_1) room_1) (lw_P b xs) (fun _ _ _ _ _ => True) lw_Q := by
  refine MetFree.of_bodyS (code := code) (maxLocals := maxLocals) (ret := ret) (by decide) ?_ ?_
  · intro args s m h hn
    obtain ⟨meth, c, h1, h2, h3, h4, h5, h6, -, -⟩ := Cond.code_spec hn (atoms_spec (ws := Jvm.Cond.code x code maxLocals ret :: tables_1) h _ List.mem_cons_self)
    exact ⟨meth, c, h1, h2, h3, h4, h5, h6⟩
  · intro p e s m args below meth c s₁ B hml0 hP _
    obtain ⟨rfl, hx, hbd, hgv⟩ := hP
    obtain ⟨scr, harrAt, hlist, hof, hsmall⟩ := hx
    obtain ⟨hcb, hkn, -, -⟩ := State.arrayAt?_spec harrAt
    have hown : s.vm.findClass R_law = some m.cls := findClass_of_methodNamed B.named
    have hts0 : ∀ c ∈ (Jvm.Cond.code x code maxLocals ret :: tables_1), c.before #[Value.ref b] s = true := atoms_spec (ws := Jvm.Cond.code x code maxLocals ret :: tables_1) B.pre
    have hts : ∀ w ∈ lw_tbl, w.before #[Value.ref b] s = true := k2_hts_sels lw_privs (fun w hw => hts0 w (List.mem_cons_of_mem _ hw)) lw_privs_ok
    have hml : c.maxLocals = 7 := B.maxLocals_eq (hts0 _ List.mem_cons_self)
    have X₀ : Stand p l e room_1 s m #[Value.ref b] below meth c s₁ [] 0 0 := Stand.of_body B
    have hh0 : s₁.heap = s.heap := by rw [B.state]; rfl
    have hsz : scr.slots.size = xs.length := by rw [← Array.length_toList, hlist, List.length_map]
    have hval : ∀ j : Nat, j < xs.length → scr.slots[j]? = some (.int (xs.getD j 0)) := fun j hj => by
      rw [← Array.getElem?_toList, hlist]
      simp [hj]
    have hbl : b < s.heap.size := (Array.getElem?_eq_some_iff.mp hcb).1
    have hX : va_X b xs.length (fun j => xs.getD j 0) s s.heap := ⟨scr, hcb, hof, hkn, hsz, hval⟩
    have K : W p l e room_1 s m #[Value.ref b] below meth c s₁.heap [] 0 0 (lw_Z below #[Value.ref b] s) (entryFrame m ([Value.ref b] : List Value).toArray 7) := by
      rw [hh0]
      exact whole_start l hst hbd ⟨B.exec, B.bytes, B.returns, hml, hown, hts, hX, hbl, B.notSynchronized, hgv⟩
    obtain ⟨t, a1, o, b1, b2, b3⟩ := K s₁ rfl X₀
    exact ⟨t, o, a1, b1, b2, b3⟩
theorem lw_pre_spec {args : Array Value} {s : State} (h : (Jvm.Cond.and given_1 narrow_1).before args s = true) (hr : rest_1_c.before args s = true) : ∃ (b : Addr) (xs : List Int32), lw_P b xs args s := by
  have hs := flat_of_before _ h
  have hq := flat_of_before _ hr
  have hc : (Cond.count 1).before args s = true := hs _ (by decide +kernel)
  have harr : (Cond.arrayOf (.arg 0) .int).before args s = true := hs _ (by decide +kernel)
  have hle : (Cond.le (.length (.arg 0)) (.int 3072)).before args s = true := hs _ (by decide +kernel)
  have hlen : (Cond.isInt (.length (.arg 0))).before args s = true := hq _ (by decide +kernel)
  have hall : (Cond.all (.arg 0) (.isInt (.elem (.arg 0) (.index 0)))).before args s = true := hq _ (by decide +kernel)
  obtain ⟨b, xs, hb, hx⟩ := State.ints_of_pre rfl harr hlen hall
  have hsm : xs.length < 2 ^ 31 := hx.choose_spec.2.2.2
  have hev : (Term.length (.arg 0)).eval args s none [] s = some (.int xs.length.toInt32) := hx.length_eval hb
  have hv := Cond.le_ints hev (show (Term.int 3072).eval args s none [] s = some (.int 3072) from rfl)
  have hd : xs.length.toInt32 ≤ 3072 := by
    simpa [Cond.before, Cond.holds, hv] using hle
  have hN : xs.length ≤ 3072 := (Int32.ofNat_le_ofNat hsm (by decide)).mp (show Int32.ofNat xs.length ≤ Int32.ofNat 3072 from hd)
  exact ⟨b, xs, Cond.one_arg hc (show args[0]? = some (.ref b) from hb), hx, hN, h⟩
theorem lw_comes (l : Launch) (hst : l.stackTraces = false) : Comes l x (Jvm.Cond.code x code maxLocals ret :: tables_1) room_1 (fun tb e args s => Calls_1 tb e args s ∧ rest_1 tb e args s ∧ Pre_1 tb e args s)
    (fun _ _ args s o t => lw_Q args s o t) := by
  intro p e ha hc hk s m args below hf hfit hheap happ hpre
  obtain ⟨b, xs, hP⟩ := lw_pre_spec hpre.2.2 hpre.2.1
  obtain ⟨k, o, h1, h2, h3, hQ⟩ := lw_walk l hst b xs p e ha hc hk s m args below hf ((Spec.applies_iff_loose hf).mp happ).1 hP trivial
  exact ⟨k, o, h1, h2, h3, hQ⟩
theorem lw_frame {s t : State} {o : Outcome} {args : Array Value} (h : Framed s o t [] 601024 7293034) :
    Framed s o t (fieldLocs frame_1_writes args s ++ arrayLocs frame_1_arrays args s ++ staticLocs frame_1_statics s) 601024 7293034 := h
theorem lw_limb (L : Cond) (hL : ∀ (args : Array Value) (s t : State), L.after args s (.returned (some (.int 1))) t = true) :
    ArmFor flags0 classFile x code maxLocals ret World_1 tables_1 room_1 Calls_1 rest_1 Pre_1
      (fun tb e a s o t => postC L tb e a s o t ∧ Framed s o t (fieldLocs frame_1_writes a s ++ arrayLocs frame_1_arrays a s ++ staticLocs frame_1_statics s) 601024 7293034) := by
  intro l hfl _ _ p e ha hc hk s m args below hf hfit hheap happ hpre
  have hst : l.stackTraces = false := by unfold Launch.stackTraces; rw [hfl]; decide
  obtain ⟨k, o, h1, h2, h3, rfl, hF⟩ := lw_comes l hst p e ha hc hk s m args below hf hfit hheap happ hpre
  exact ⟨k, _, h1, h2, h3, hL args s _, lw_frame hF⟩
theorem i_vc : Claimed_1_1 ∧ Claimed_1_2 := ⟨lw_limb limb_1_1 (fun args s t => by simp [limb_1_1, Cond.after, Cond.holds, Cond.value]), lw_limb limb_1_2 (fun args s t => Cond.after_iff.mpr (by
  first | (rw [show limb_1_2 = Cond.eq .result (.int 1) from rfl, Cond.eq_ints (x := 1) (y := 1) rfl rfl]; simp; done) | (simp [limb_1_2, Cond.value, Term.eval]; done)))⟩
