theorem pn_0 {g : Cf} : 0 < g.N := pl_lt rfl
theorem pc_0 {g : Cf} (r : Nat → Int32) (x : Int64) : cellR g 0 r x = .inr (10, flds g r x [11, 13, 15, 17, 20, 23, 26, 31, 33, 0, 1]) := rfl
theorem pn_1 {g : Cf} : 1 < g.N := pl_lt rfl
theorem pc_1 {g : Cf} (r : Nat → Int32) (x : Int64) : cellR g 1 r x = .inr (9, flds g r x [12, 0]) := rfl
theorem pn_2 {g : Cf} : 2 < g.N := pl_lt rfl
theorem pa_2 {g : Cf} (r : Nat → Int32) (x : Int64) : cellR g 2 r x = .inl (g.cA 0, 240, .inl r) := rfl
theorem pn_3 {g : Cf} : 3 < g.N := pl_lt rfl
theorem pc_3 {g : Cf} (r : Nat → Int32) (x : Int64) : cellR g 3 r x = .inr (0, flds g r x [14]) := rfl
theorem pn_4 {g : Cf} : 4 < g.N := pl_lt rfl
theorem pa_4 {g : Cf} (r : Nat → Int32) (x : Int64) : cellR g 4 r x = .inl (g.cA 0, 100, .inl r) := rfl
theorem pn_5 {g : Cf} : 5 < g.N := pl_lt rfl
theorem pc_5 {g : Cf} (r : Nat → Int32) (x : Int64) : cellR g 5 r x = .inr (0, flds g r x [16]) := rfl
theorem pn_6 {g : Cf} : 6 < g.N := pl_lt rfl
theorem pa_6 {g : Cf} (r : Nat → Int32) (x : Int64) : cellR g 6 r x = .inl (g.cA 0, 100, .inl r) := rfl
theorem pn_7 {g : Cf} : 7 < g.N := pl_lt rfl
theorem pc_7 {g : Cf} (r : Nat → Int32) (x : Int64) : cellR g 7 r x = .inr (1, flds g r x [18, 19, 0]) := rfl
theorem pn_8 {g : Cf} : 8 < g.N := pl_lt rfl
theorem pc_8 {g : Cf} (r : Nat → Int32) (x : Int64) : cellR g 8 r x = .inr (2, flds g r x [11, 0, 0]) := rfl
theorem pn_9 {g : Cf} : 9 < g.N := pl_lt rfl
theorem pa_9 {g : Cf} (r : Nat → Int32) (x : Int64) : cellR g 9 r x = .inl (g.cA 0, 6, .inl r) := rfl
theorem pn_10 {g : Cf} : 10 < g.N := pl_lt rfl
theorem pc_10 {g : Cf} (r : Nat → Int32) (x : Int64) : cellR g 10 r x = .inr (6, flds g r x [21, 22, 0]) := rfl
theorem pn_11 {g : Cf} : 11 < g.N := pl_lt rfl
theorem pc_11 {g : Cf} (r : Nat → Int32) (x : Int64) : cellR g 11 r x = .inr (2, flds g r x [11, 0, 0]) := rfl
theorem pn_12 {g : Cf} : 12 < g.N := pl_lt rfl
theorem pa_12 {g : Cf} (r : Nat → Int32) (x : Int64) : cellR g 12 r x = .inl (g.cA 0, 240, .inl r) := rfl
theorem pn_13 {g : Cf} : 13 < g.N := pl_lt rfl
theorem pc_13 {g : Cf} (r : Nat → Int32) (x : Int64) : cellR g 13 r x = .inr (5, flds g r x [24, 25, 0, 0]) := rfl
theorem pn_14 {g : Cf} : 14 < g.N := pl_lt rfl
theorem pn_15 {g : Cf} : 15 < g.N := pl_lt rfl
theorem pa_15 {g : Cf} (r : Nat → Int32) (x : Int64) : cellR g 15 r x = .inl (g.cA 0, 6, .inl r) := rfl
theorem pn_16 {g : Cf} : 16 < g.N := pl_lt rfl
theorem pc_16 {g : Cf} (r : Nat → Int32) (x : Int64) : cellR g 16 r x = .inr (7, flds g r x [27, 28, 29, 30, 0, 0, 0]) := rfl
theorem pn_17 {g : Cf} : 17 < g.N := pl_lt rfl
theorem pa_17 {g : Cf} (r : Nat → Int32) (x : Int64) : cellR g 17 r x = .inl (g.cA 0, 4000, .inl r) := rfl
theorem pn_18 {g : Cf} : 18 < g.N := pl_lt rfl
theorem pa_18 {g : Cf} (r : Nat → Int32) (x : Int64) : cellR g 18 r x = .inl (g.cA 0, 300, .inl r) := rfl
theorem pn_19 {g : Cf} : 19 < g.N := pl_lt rfl
theorem pa_19 {g : Cf} (r : Nat → Int32) (x : Int64) : cellR g 19 r x = .inl (g.cA 0, 100, .inl r) := rfl
theorem pn_20 {g : Cf} : 20 < g.N := pl_lt rfl
theorem pa_20 {g : Cf} (r : Nat → Int32) (x : Int64) : cellR g 20 r x = .inl (g.cA 0, 300, .inl r) := rfl
theorem pn_21 {g : Cf} : 21 < g.N := pl_lt rfl
theorem pc_21 {g : Cf} (r : Nat → Int32) (x : Int64) : cellR g 21 r x = .inr (8, flds g r x [13, 32]) := rfl
theorem pn_22 {g : Cf} : 22 < g.N := pl_lt rfl
theorem pa_22 {g : Cf} (r : Nat → Int32) (x : Int64) : cellR g 22 r x = .inl (g.cA 0, 8, .inl r) := rfl
theorem pn_23 {g : Cf} : 23 < g.N := pl_lt rfl
theorem pc_23 {g : Cf} (r : Nat → Int32) (x : Int64) : cellR g 23 r x = .inr (3, flds g r x [13, 15, 23, 34, 35, 36, 0, 0, 0, 0, 0]) := rfl
theorem pn_24 {g : Cf} : 24 < g.N := pl_lt rfl
theorem pa_24 {g : Cf} (r : Nat → Int32) (x : Int64) : cellR g 24 r x = .inl (g.cA 0, 24, .inl r) := rfl
theorem pn_25 {g : Cf} : 25 < g.N := pl_lt rfl
theorem pa_25 {g : Cf} (r : Nat → Int32) (x : Int64) : cellR g 25 r x = .inl (g.cA 0, 24, .inl r) := rfl
theorem pn_26 {g : Cf} : 26 < g.N := pl_lt rfl
theorem pa_26 {g : Cf} (r : Nat → Int32) (x : Int64) : cellR g 26 r x = .inl (g.cA 0, 64, .inl r) := rfl
theorem pn_27 {g : Cf} : 27 < g.N := pl_lt rfl
theorem pc_27 {g : Cf} (r : Nat → Int32) (x : Int64) : cellR g 27 r x = .inr (11, flds g r x [0, 38, 39, 40, 41, 2, 0, 0, 0, 0, 0, 0, 0, 0, 0, 1000, 1001, 0, 42, 43, 44, 45, 46, 47, 0, 0, 0, 0, 0, 48, 49, 0, 0, 1, 0, 0, 0, 50, 51, 0, 0, 0, 0, 52, 53, 0]) := rfl
theorem pn_28 {g : Cf} : 28 < g.N := pl_lt rfl
theorem pa_28 {g : Cf} (r : Nat → Int32) (x : Int64) : cellR g 28 r x = .inl (g.cA 1, 240, .inl r) := rfl
theorem pn_29 {g : Cf} : 29 < g.N := pl_lt rfl
theorem pa_29 {g : Cf} (r : Nat → Int32) (x : Int64) : cellR g 29 r x = .inl (g.cA 1, 960, .inl r) := rfl
theorem pn_30 {g : Cf} : 30 < g.N := pl_lt rfl
theorem pa_30 {g : Cf} (r : Nat → Int32) (x : Int64) : cellR g 30 r x = .inl (g.cA 0, 4, .inl r) := rfl
theorem pn_31 {g : Cf} : 31 < g.N := pl_lt rfl
theorem pa_31 {g : Cf} (r : Nat → Int32) (x : Int64) : cellR g 31 r x = .inl (g.cA 0, 128, .inl r) := rfl
theorem pn_32 {g : Cf} : 32 < g.N := pl_lt rfl
theorem pa_32 {g : Cf} (r : Nat → Int32) (x : Int64) : cellR g 32 r x = .inl (g.cA 0, 48, .inl r) := rfl
theorem pn_33 {g : Cf} : 33 < g.N := pl_lt rfl
theorem pa_33 {g : Cf} (r : Nat → Int32) (x : Int64) : cellR g 33 r x = .inl (g.cA 0, 48, .inl r) := rfl
theorem pn_34 {g : Cf} : 34 < g.N := pl_lt rfl
theorem pa_34 {g : Cf} (r : Nat → Int32) (x : Int64) : cellR g 34 r x = .inl (g.cA 0, 12, .inl r) := rfl
theorem pn_35 {g : Cf} : 35 < g.N := pl_lt rfl
theorem pa_35 {g : Cf} (r : Nat → Int32) (x : Int64) : cellR g 35 r x = .inl (g.cA 0, 12, .inl r) := rfl
theorem pn_36 {g : Cf} : 36 < g.N := pl_lt rfl
theorem pa_36 {g : Cf} (r : Nat → Int32) (x : Int64) : cellR g 36 r x = .inl (g.cA 0, 3, .inl r) := rfl
theorem pn_37 {g : Cf} : 37 < g.N := pl_lt rfl
theorem pa_37 {g : Cf} (r : Nat → Int32) (x : Int64) : cellR g 37 r x = .inl (g.cA 0, 3, .inl r) := rfl
theorem pn_38 {g : Cf} : 38 < g.N := pl_lt rfl
theorem pa_38 {g : Cf} (r : Nat → Int32) (x : Int64) : cellR g 38 r x = .inl (g.cA 0, 244, .inl r) := rfl
theorem pn_39 {g : Cf} : 39 < g.N := pl_lt rfl
theorem pa_39 {g : Cf} (r : Nat → Int32) (x : Int64) : cellR g 39 r x = .inl (g.cA 0, 244, .inl r) := rfl
theorem pn_40 {g : Cf} : 40 < g.N := pl_lt rfl
theorem pa_40 {g : Cf} (r : Nat → Int32) (x : Int64) : cellR g 40 r x = .inl (g.cA 0, 3, .inl r) := rfl
theorem pn_41 {g : Cf} : 41 < g.N := pl_lt rfl
theorem pa_41 {g : Cf} (r : Nat → Int32) (x : Int64) : cellR g 41 r x = .inl (g.cA 0, 9760, .inl r) := rfl
theorem pn_42 {g : Cf} : 42 < g.N := pl_lt rfl
theorem pa_42 {g : Cf} (r : Nat → Int32) (x : Int64) : cellR g 42 r x = .inl (g.cA 0, 64, .inl r) := rfl
theorem pn_43 {g : Cf} : 43 < g.N := pl_lt rfl
theorem pa_43 {g : Cf} (r : Nat → Int32) (x : Int64) : cellR g 43 r x = .inl (g.cA 0, 244, .inl r) := rfl
theorem pn_44 {g : Cf} : 44 < g.N := pl_lt rfl
theorem ly_0_0 : u_lay RX0 TX0 0 ∈ gw := (gw_tb 55 (by decide +kernel) (by decide +kernel))
theorem in_0 : ∀ w ∈ u_ws RX0 TX0 1, w ∈ gw := by
  intro w hw
  obtain ⟨k, hk, rfl⟩ := List.mem_map.mp hw
  have hk := List.mem_range.mp hk
  match k, hk with
  | 0, _ => exact ly_0_0
  | z + 1, h => exact absurd h (by omega)
theorem fo_0_0 : FOK 0 0 11 RX0 TX0 1 := ⟨rfl, in_0, by decide, (gw_tb 54 (by decide +kernel) (by decide +kernel))⟩
theorem ly_1_0 : u_lay RX1 TX1 0 ∈ gw := (gw_tb 83 (by decide +kernel) (by decide +kernel))
theorem ly_1_1 : u_lay RX1 TX1 1 ∈ gw := (gw_tb 85 (by decide +kernel) (by decide +kernel))
theorem ly_1_2 : u_lay RX1 TX1 2 ∈ gw := (gw_tb 87 (by decide +kernel) (by decide +kernel))
theorem in_1 : ∀ w ∈ u_ws RX1 TX1 3, w ∈ gw := by
  intro w hw
  obtain ⟨k, hk, rfl⟩ := List.mem_map.mp hw
  have hk := List.mem_range.mp hk
  match k, hk with
  | 0, _ => exact ly_1_0
  | 1, _ => exact ly_1_1
  | 2, _ => exact ly_1_2
  | z + 3, h => exact absurd h (by omega)
theorem fo_1_0 : FOK 1 0 14 RX1 TX1 3 := ⟨rfl, in_1, by decide, (gw_tb 80 (by decide +kernel) (by decide +kernel))⟩
theorem fo_1_1 : FOK 1 1 20 RX1 TX1 3 := ⟨rfl, in_1, by decide, (gw_tb 81 (by decide +kernel) (by decide +kernel))⟩
theorem fo_1_2 : FOK 1 2 32 RX1 TX1 3 := ⟨rfl, in_1, by decide, (gw_tb 82 (by decide +kernel) (by decide +kernel))⟩
theorem fp_1_2 : FPK 1 2 TX1 3 .boolean := ⟨⟨tyX1, tyX1_ok, nmX1⟩, rfl, by decide +kernel⟩
theorem ly_2_0 : u_lay RX2 TX2 0 ∈ gw := (gw_tb 73 (by decide +kernel) (by decide +kernel))
theorem ly_2_1 : u_lay RX2 TX2 1 ∈ gw := (gw_tb 75 (by decide +kernel) (by decide +kernel))
theorem ly_2_2 : u_lay RX2 TX2 2 ∈ gw := (gw_tb 77 (by decide +kernel) (by decide +kernel))
theorem in_2 : ∀ w ∈ u_ws RX2 TX2 3, w ∈ gw := by
  intro w hw
  obtain ⟨k, hk, rfl⟩ := List.mem_map.mp hw
  have hk := List.mem_range.mp hk
  match k, hk with
  | 0, _ => exact ly_2_0
  | 1, _ => exact ly_2_1
  | 2, _ => exact ly_2_2
  | z + 3, h => exact absurd h (by omega)
theorem fo_2_0 : FOK 2 0 9 RX2 TX2 3 := ⟨rfl, in_2, by decide, (gw_tb 70 (by decide +kernel) (by decide +kernel))⟩
theorem fo_2_1 : FOK 2 1 15 RX2 TX2 3 := ⟨rfl, in_2, by decide, (gw_tb 71 (by decide +kernel) (by decide +kernel))⟩
theorem fp_2_1 : FPK 2 1 TX2 3 .int := ⟨⟨tyX2, tyX2_ok, nmX2⟩, rfl, by decide +kernel⟩
theorem fo_2_2 : FOK 2 2 19 RX2 TX2 3 := ⟨rfl, in_2, by decide, (gw_tb 72 (by decide +kernel) (by decide +kernel))⟩
theorem fp_2_2 : FPK 2 2 TX2 3 .int := ⟨⟨tyX2, tyX2_ok, nmX2⟩, rfl, by decide +kernel⟩
theorem ly_3_0 : u_lay RX3 TX3 0 ∈ gw := (gw_tb 187 (by decide +kernel) (by decide +kernel))
theorem ly_3_1 : u_lay RX3 TX3 1 ∈ gw := (gw_tb 189 (by decide +kernel) (by decide +kernel))
theorem ly_3_2 : u_lay RX3 TX3 2 ∈ gw := (gw_tb 191 (by decide +kernel) (by decide +kernel))
theorem ly_3_3 : u_lay RX3 TX3 3 ∈ gw := (gw_tb 193 (by decide +kernel) (by decide +kernel))
theorem ly_3_4 : u_lay RX3 TX3 4 ∈ gw := (gw_tb 195 (by decide +kernel) (by decide +kernel))
theorem ly_3_5 : u_lay RX3 TX3 5 ∈ gw := (gw_tb 197 (by decide +kernel) (by decide +kernel))
theorem ly_3_6 : u_lay RX3 TX3 6 ∈ gw := (gw_tb 199 (by decide +kernel) (by decide +kernel))
theorem ly_3_7 : u_lay RX3 TX3 7 ∈ gw := (gw_tb 201 (by decide +kernel) (by decide +kernel))
theorem ly_3_8 : u_lay RX3 TX3 8 ∈ gw := (gw_tb 203 (by decide +kernel) (by decide +kernel))
theorem ly_3_9 : u_lay RX3 TX3 9 ∈ gw := (gw_tb 205 (by decide +kernel) (by decide +kernel))
theorem ly_3_10 : u_lay RX3 TX3 10 ∈ gw := (gw_tb 207 (by decide +kernel) (by decide +kernel))
theorem in_3 : ∀ w ∈ u_ws RX3 TX3 11, w ∈ gw := by
  intro w hw
  obtain ⟨k, hk, rfl⟩ := List.mem_map.mp hw
  have hk := List.mem_range.mp hk
  match k, hk with
  | 0, _ => exact ly_3_0
  | 1, _ => exact ly_3_1
  | 2, _ => exact ly_3_2
  | 3, _ => exact ly_3_3
  | 4, _ => exact ly_3_4
  | 5, _ => exact ly_3_5
  | 6, _ => exact ly_3_6
  | 7, _ => exact ly_3_7
  | 8, _ => exact ly_3_8
  | 9, _ => exact ly_3_9
  | 10, _ => exact ly_3_10
  | z + 11, h => exact absurd h (by omega)
theorem fo_3_0 : FOK 3 0 9 RX3 TX3 11 := ⟨rfl, in_3, by decide, (gw_tb 176 (by decide +kernel) (by decide +kernel))⟩
theorem fo_3_1 : FOK 3 1 15 RX3 TX3 11 := ⟨rfl, in_3, by decide, (gw_tb 177 (by decide +kernel) (by decide +kernel))⟩
theorem fo_3_2 : FOK 3 2 18 RX3 TX3 11 := ⟨rfl, in_3, by decide, (gw_tb 178 (by decide +kernel) (by decide +kernel))⟩
theorem fo_3_3 : FOK 3 3 22 RX3 TX3 11 := ⟨rfl, in_3, by decide, (gw_tb 179 (by decide +kernel) (by decide +kernel))⟩
theorem fo_3_4 : FOK 3 4 26 RX3 TX3 11 := ⟨rfl, in_3, by decide, (gw_tb 180 (by decide +kernel) (by decide +kernel))⟩
theorem fo_3_5 : FOK 3 5 31 RX3 TX3 11 := ⟨rfl, in_3, by decide, (gw_tb 181 (by decide +kernel) (by decide +kernel))⟩
theorem fo_3_6 : FOK 3 6 34 RX3 TX3 11 := ⟨rfl, in_3, by decide, (gw_tb 182 (by decide +kernel) (by decide +kernel))⟩
theorem fp_3_6 : FPK 3 6 TX3 11 .int := ⟨⟨tyX3, tyX3_ok, nmX3⟩, rfl, by decide +kernel⟩
theorem fo_3_7 : FOK 3 7 38 RX3 TX3 11 := ⟨rfl, in_3, by decide, (gw_tb 183 (by decide +kernel) (by decide +kernel))⟩
theorem fp_3_7 : FPK 3 7 TX3 11 .int := ⟨⟨tyX3, tyX3_ok, nmX3⟩, rfl, by decide +kernel⟩
theorem fo_3_8 : FOK 3 8 41 RX3 TX3 11 := ⟨rfl, in_3, by decide, (gw_tb 184 (by decide +kernel) (by decide +kernel))⟩
theorem fp_3_8 : FPK 3 8 TX3 11 .int := ⟨⟨tyX3, tyX3_ok, nmX3⟩, rfl, by decide +kernel⟩
theorem fo_3_9 : FOK 3 9 44 RX3 TX3 11 := ⟨rfl, in_3, by decide, (gw_tb 185 (by decide +kernel) (by decide +kernel))⟩
theorem fp_3_9 : FPK 3 9 TX3 11 .int := ⟨⟨tyX3, tyX3_ok, nmX3⟩, rfl, by decide +kernel⟩
theorem fo_3_10 : FOK 3 10 47 RX3 TX3 11 := ⟨rfl, in_3, by decide, (gw_tb 186 (by decide +kernel) (by decide +kernel))⟩
theorem fp_3_10 : FPK 3 10 TX3 11 .int := ⟨⟨tyX3, tyX3_ok, nmX3⟩, rfl, by decide +kernel⟩
theorem ly_4_0 : u_lay RX4 TX4 0 ∈ gw := (gw_tb 593 (by decide +kernel) (by decide +kernel))
theorem ly_4_1 : u_lay RX4 TX4 1 ∈ gw := (gw_tb 595 (by decide +kernel) (by decide +kernel))
theorem ly_4_2 : u_lay RX4 TX4 2 ∈ gw := (gw_tb 597 (by decide +kernel) (by decide +kernel))
theorem in_4 : ∀ w ∈ u_ws RX4 TX4 3, w ∈ gw := by
  intro w hw
  obtain ⟨k, hk, rfl⟩ := List.mem_map.mp hw
  have hk := List.mem_range.mp hk
  match k, hk with
  | 0, _ => exact ly_4_0
  | 1, _ => exact ly_4_1
  | 2, _ => exact ly_4_2
  | z + 3, h => exact absurd h (by omega)
theorem fo_4_0 : FOK 4 0 21 RX4 TX4 3 := ⟨rfl, in_4, by decide, (gw_tb 590 (by decide +kernel) (by decide +kernel))⟩
theorem fo_4_1 : FOK 4 1 31 RX4 TX4 3 := ⟨rfl, in_4, by decide, (gw_tb 591 (by decide +kernel) (by decide +kernel))⟩
theorem fo_4_2 : FOK 4 2 34 RX4 TX4 3 := ⟨rfl, in_4, by decide, (gw_tb 592 (by decide +kernel) (by decide +kernel))⟩
theorem fp_4_2 : FPK 4 2 TX4 3 .int := ⟨⟨tyX4, tyX4_ok, nmX4⟩, rfl, by decide +kernel⟩
theorem ly_5_0 : u_lay RX5 TX5 0 ∈ gw := (gw_tb 120 (by decide +kernel) (by decide +kernel))
theorem ly_5_1 : u_lay RX5 TX5 1 ∈ gw := (gw_tb 122 (by decide +kernel) (by decide +kernel))
theorem ly_5_2 : u_lay RX5 TX5 2 ∈ gw := (gw_tb 124 (by decide +kernel) (by decide +kernel))
theorem ly_5_3 : u_lay RX5 TX5 3 ∈ gw := (gw_tb 126 (by decide +kernel) (by decide +kernel))
theorem in_5 : ∀ w ∈ u_ws RX5 TX5 4, w ∈ gw := by
  intro w hw
  obtain ⟨k, hk, rfl⟩ := List.mem_map.mp hw
  have hk := List.mem_range.mp hk
  match k, hk with
  | 0, _ => exact ly_5_0
  | 1, _ => exact ly_5_1
  | 2, _ => exact ly_5_2
  | 3, _ => exact ly_5_3
  | z + 4, h => exact absurd h (by omega)
theorem fo_5_0 : FOK 5 0 13 RX5 TX5 4 := ⟨rfl, in_5, by decide, (gw_tb 116 (by decide +kernel) (by decide +kernel))⟩
theorem fo_5_1 : FOK 5 1 17 RX5 TX5 4 := ⟨rfl, in_5, by decide, (gw_tb 117 (by decide +kernel) (by decide +kernel))⟩
theorem fo_5_2 : FOK 5 2 25 RX5 TX5 4 := ⟨rfl, in_5, by decide, (gw_tb 118 (by decide +kernel) (by decide +kernel))⟩
theorem fp_5_2 : FPK 5 2 TX5 4 .int := ⟨⟨tyX5, tyX5_ok, nmX5⟩, rfl, by decide +kernel⟩
theorem fo_5_3 : FOK 5 3 21 RX5 TX5 4 := ⟨rfl, in_5, by decide, (gw_tb 119 (by decide +kernel) (by decide +kernel))⟩
theorem fp_5_3 : FPK 5 3 TX5 4 .int := ⟨⟨tyX5, tyX5_ok, nmX5⟩, rfl, by decide +kernel⟩
theorem ly_6_0 : u_lay RX6 TX6 0 ∈ gw := (gw_tb 101 (by decide +kernel) (by decide +kernel))
theorem ly_6_1 : u_lay RX6 TX6 1 ∈ gw := (gw_tb 103 (by decide +kernel) (by decide +kernel))
theorem ly_6_2 : u_lay RX6 TX6 2 ∈ gw := (gw_tb 105 (by decide +kernel) (by decide +kernel))
theorem in_6 : ∀ w ∈ u_ws RX6 TX6 3, w ∈ gw := by
  intro w hw
  obtain ⟨k, hk, rfl⟩ := List.mem_map.mp hw
  have hk := List.mem_range.mp hk
  match k, hk with
  | 0, _ => exact ly_6_0
  | 1, _ => exact ly_6_1
  | 2, _ => exact ly_6_2
  | z + 3, h => exact absurd h (by omega)
theorem fo_6_0 : FOK 6 0 12 RX6 TX6 3 := ⟨rfl, in_6, by decide, (gw_tb 98 (by decide +kernel) (by decide +kernel))⟩
theorem fo_6_1 : FOK 6 1 20 RX6 TX6 3 := ⟨rfl, in_6, by decide, (gw_tb 99 (by decide +kernel) (by decide +kernel))⟩
theorem fo_6_2 : FOK 6 2 24 RX6 TX6 3 := ⟨rfl, in_6, by decide, (gw_tb 100 (by decide +kernel) (by decide +kernel))⟩
theorem fp_6_2 : FPK 6 2 TX6 3 .int := ⟨⟨tyX6, tyX6_ok, nmX6⟩, rfl, by decide +kernel⟩
theorem ly_7_0 : u_lay RX7 TX7 0 ∈ gw := (gw_tb 142 (by decide +kernel) (by decide +kernel))
theorem ly_7_1 : u_lay RX7 TX7 1 ∈ gw := (gw_tb 144 (by decide +kernel) (by decide +kernel))
theorem ly_7_2 : u_lay RX7 TX7 2 ∈ gw := (gw_tb 146 (by decide +kernel) (by decide +kernel))
theorem ly_7_3 : u_lay RX7 TX7 3 ∈ gw := (gw_tb 148 (by decide +kernel) (by decide +kernel))
theorem ly_7_4 : u_lay RX7 TX7 4 ∈ gw := (gw_tb 150 (by decide +kernel) (by decide +kernel))
theorem ly_7_5 : u_lay RX7 TX7 5 ∈ gw := (gw_tb 152 (by decide +kernel) (by decide +kernel))
theorem ly_7_6 : u_lay RX7 TX7 6 ∈ gw := (gw_tb 154 (by decide +kernel) (by decide +kernel))
theorem in_7 : ∀ w ∈ u_ws RX7 TX7 7, w ∈ gw := by
  intro w hw
  obtain ⟨k, hk, rfl⟩ := List.mem_map.mp hw
  have hk := List.mem_range.mp hk
  match k, hk with
  | 0, _ => exact ly_7_0
  | 1, _ => exact ly_7_1
  | 2, _ => exact ly_7_2
  | 3, _ => exact ly_7_3
  | 4, _ => exact ly_7_4
  | 5, _ => exact ly_7_5
  | 6, _ => exact ly_7_6
  | z + 7, h => exact absurd h (by omega)
theorem fo_7_0 : FOK 7 0 13 RX7 TX7 7 := ⟨rfl, in_7, by decide, (gw_tb 135 (by decide +kernel) (by decide +kernel))⟩
theorem fo_7_1 : FOK 7 1 17 RX7 TX7 7 := ⟨rfl, in_7, by decide, (gw_tb 136 (by decide +kernel) (by decide +kernel))⟩
theorem fo_7_2 : FOK 7 2 20 RX7 TX7 7 := ⟨rfl, in_7, by decide, (gw_tb 137 (by decide +kernel) (by decide +kernel))⟩
theorem fo_7_3 : FOK 7 3 23 RX7 TX7 7 := ⟨rfl, in_7, by decide, (gw_tb 138 (by decide +kernel) (by decide +kernel))⟩
theorem fo_7_4 : FOK 7 4 34 RX7 TX7 7 := ⟨rfl, in_7, by decide, (gw_tb 139 (by decide +kernel) (by decide +kernel))⟩
theorem fp_7_4 : FPK 7 4 TX7 7 .int := ⟨⟨tyX7, tyX7_ok, nmX7⟩, rfl, by decide +kernel⟩
theorem fo_7_5 : FOK 7 5 26 RX7 TX7 7 := ⟨rfl, in_7, by decide, (gw_tb 140 (by decide +kernel) (by decide +kernel))⟩
theorem fp_7_5 : FPK 7 5 TX7 7 .int := ⟨⟨tyX7, tyX7_ok, nmX7⟩, rfl, by decide +kernel⟩
theorem fo_7_6 : FOK 7 6 30 RX7 TX7 7 := ⟨rfl, in_7, by decide, (gw_tb 141 (by decide +kernel) (by decide +kernel))⟩
theorem fp_7_6 : FPK 7 6 TX7 7 .boolean := ⟨⟨tyX7, tyX7_ok, nmX7⟩, rfl, by decide +kernel⟩
theorem ly_8_0 : u_lay RX8 TX8 0 ∈ gw := (gw_tb 165 (by decide +kernel) (by decide +kernel))
theorem ly_8_1 : u_lay RX8 TX8 1 ∈ gw := (gw_tb 167 (by decide +kernel) (by decide +kernel))
theorem in_8 : ∀ w ∈ u_ws RX8 TX8 2, w ∈ gw := by
  intro w hw
  obtain ⟨k, hk, rfl⟩ := List.mem_map.mp hw
  have hk := List.mem_range.mp hk
  match k, hk with
  | 0, _ => exact ly_8_0
  | 1, _ => exact ly_8_1
  | z + 2, h => exact absurd h (by omega)
theorem fo_8_0 : FOK 8 0 9 RX8 TX8 2 := ⟨rfl, in_8, by decide, (gw_tb 163 (by decide +kernel) (by decide +kernel))⟩
theorem fo_8_1 : FOK 8 1 17 RX8 TX8 2 := ⟨rfl, in_8, by decide, (gw_tb 164 (by decide +kernel) (by decide +kernel))⟩
theorem ly_9_0 : u_lay RX9 TX9 0 ∈ gw := (gw_tb 42 (by decide +kernel) (by decide +kernel))
theorem ly_9_1 : u_lay RX9 TX9 1 ∈ gw := (gw_tb 44 (by decide +kernel) (by decide +kernel))
theorem in_9 : ∀ w ∈ u_ws RX9 TX9 2, w ∈ gw := by
  intro w hw
  obtain ⟨k, hk, rfl⟩ := List.mem_map.mp hw
  have hk := List.mem_range.mp hk
  match k, hk with
  | 0, _ => exact ly_9_0
  | 1, _ => exact ly_9_1
  | z + 2, h => exact absurd h (by omega)
theorem fo_9_0 : FOK 9 0 11 RX9 TX9 2 := ⟨rfl, in_9, by decide, (gw_tb 40 (by decide +kernel) (by decide +kernel))⟩
theorem fo_9_1 : FOK 9 1 15 RX9 TX9 2 := ⟨rfl, in_9, by decide, (gw_tb 41 (by decide +kernel) (by decide +kernel))⟩
theorem fp_9_1 : FPK 9 1 TX9 2 .int := ⟨⟨tyX9, tyX9_ok, nmX9⟩, rfl, by decide +kernel⟩
theorem ly_10_0 : u_lay RX10 TX10 0 ∈ gw := (gw_tb 221 (by decide +kernel) (by decide +kernel))
theorem ly_10_1 : u_lay RX10 TX10 1 ∈ gw := (gw_tb 223 (by decide +kernel) (by decide +kernel))
theorem ly_10_2 : u_lay RX10 TX10 2 ∈ gw := (gw_tb 225 (by decide +kernel) (by decide +kernel))
theorem ly_10_3 : u_lay RX10 TX10 3 ∈ gw := (gw_tb 227 (by decide +kernel) (by decide +kernel))
theorem ly_10_4 : u_lay RX10 TX10 4 ∈ gw := (gw_tb 229 (by decide +kernel) (by decide +kernel))
theorem ly_10_5 : u_lay RX10 TX10 5 ∈ gw := (gw_tb 231 (by decide +kernel) (by decide +kernel))
theorem ly_10_6 : u_lay RX10 TX10 6 ∈ gw := (gw_tb 233 (by decide +kernel) (by decide +kernel))
theorem ly_10_7 : u_lay RX10 TX10 7 ∈ gw := (gw_tb 235 (by decide +kernel) (by decide +kernel))
theorem ly_10_8 : u_lay RX10 TX10 8 ∈ gw := (gw_tb 237 (by decide +kernel) (by decide +kernel))
theorem ly_10_9 : u_lay RX10 TX10 9 ∈ gw := (gw_tb 239 (by decide +kernel) (by decide +kernel))
theorem ly_10_10 : u_lay RX10 TX10 10 ∈ gw := (gw_tb 241 (by decide +kernel) (by decide +kernel))
theorem in_10 : ∀ w ∈ u_ws RX10 TX10 11, w ∈ gw := by
  intro w hw
  obtain ⟨k, hk, rfl⟩ := List.mem_map.mp hw
  have hk := List.mem_range.mp hk
  match k, hk with
  | 0, _ => exact ly_10_0
  | 1, _ => exact ly_10_1
  | 2, _ => exact ly_10_2
  | 3, _ => exact ly_10_3
  | 4, _ => exact ly_10_4
  | 5, _ => exact ly_10_5
  | 6, _ => exact ly_10_6
  | 7, _ => exact ly_10_7
  | 8, _ => exact ly_10_8
  | 9, _ => exact ly_10_9
  | 10, _ => exact ly_10_10
  | z + 11, h => exact absurd h (by omega)
theorem fo_10_0 : FOK 10 0 10 RX10 TX10 11 := ⟨rfl, in_10, by decide, (gw_tb 210 (by decide +kernel) (by decide +kernel))⟩
theorem fo_10_1 : FOK 10 1 19 RX10 TX10 11 := ⟨rfl, in_10, by decide, (gw_tb 211 (by decide +kernel) (by decide +kernel))⟩
theorem fo_10_2 : FOK 10 2 23 RX10 TX10 11 := ⟨rfl, in_10, by decide, (gw_tb 212 (by decide +kernel) (by decide +kernel))⟩
theorem fo_10_3 : FOK 10 3 31 RX10 TX10 11 := ⟨rfl, in_10, by decide, (gw_tb 213 (by decide +kernel) (by decide +kernel))⟩
theorem fo_10_4 : FOK 10 4 38 RX10 TX10 11 := ⟨rfl, in_10, by decide, (gw_tb 214 (by decide +kernel) (by decide +kernel))⟩
theorem fo_10_5 : FOK 10 5 45 RX10 TX10 11 := ⟨rfl, in_10, by decide, (gw_tb 215 (by decide +kernel) (by decide +kernel))⟩
theorem fo_10_6 : FOK 10 6 52 RX10 TX10 11 := ⟨rfl, in_10, by decide, (gw_tb 216 (by decide +kernel) (by decide +kernel))⟩
theorem fo_10_7 : FOK 10 7 61 RX10 TX10 11 := ⟨rfl, in_10, by decide, (gw_tb 217 (by decide +kernel) (by decide +kernel))⟩
theorem fo_10_8 : FOK 10 8 70 RX10 TX10 11 := ⟨rfl, in_10, by decide, (gw_tb 218 (by decide +kernel) (by decide +kernel))⟩
theorem fo_10_9 : FOK 10 9 148 RX10 TX10 11 := ⟨rfl, in_10, by decide, (gw_tb 219 (by decide +kernel) (by decide +kernel))⟩
theorem fp_10_9 : FPK 10 9 TX10 11 .int := ⟨⟨tyX10, tyX10_ok, nmX10⟩, rfl, by decide +kernel⟩
theorem fo_10_10 : FOK 10 10 214 RX10 TX10 11 := ⟨rfl, in_10, by decide, (gw_tb 220 (by decide +kernel) (by decide +kernel))⟩
theorem fp_10_10 : FPK 10 10 TX10 11 .long := ⟨⟨tyX10, tyX10_ok, nmX10⟩, rfl, by decide +kernel⟩
theorem ly_11_0 : u_lay RX11 TX11 0 ∈ gw := (gw_tb 1428 (by decide +kernel) (by decide +kernel))
theorem ly_11_1 : u_lay RX11 TX11 1 ∈ gw := (gw_tb 1430 (by decide +kernel) (by decide +kernel))
theorem ly_11_2 : u_lay RX11 TX11 2 ∈ gw := (gw_tb 1432 (by decide +kernel) (by decide +kernel))
theorem ly_11_3 : u_lay RX11 TX11 3 ∈ gw := (gw_tb 1434 (by decide +kernel) (by decide +kernel))
theorem ly_11_4 : u_lay RX11 TX11 4 ∈ gw := (gw_tb 1436 (by decide +kernel) (by decide +kernel))
theorem ly_11_5 : u_lay RX11 TX11 5 ∈ gw := (gw_tb 1438 (by decide +kernel) (by decide +kernel))
theorem ly_11_6 : u_lay RX11 TX11 6 ∈ gw := (gw_tb 1440 (by decide +kernel) (by decide +kernel))
theorem ly_11_7 : u_lay RX11 TX11 7 ∈ gw := (gw_tb 1442 (by decide +kernel) (by decide +kernel))
theorem ly_11_8 : u_lay RX11 TX11 8 ∈ gw := (gw_tb 1444 (by decide +kernel) (by decide +kernel))
theorem ly_11_9 : u_lay RX11 TX11 9 ∈ gw := (gw_tb 1446 (by decide +kernel) (by decide +kernel))
theorem ly_11_10 : u_lay RX11 TX11 10 ∈ gw := (gw_tb 1448 (by decide +kernel) (by decide +kernel))
theorem ly_11_11 : u_lay RX11 TX11 11 ∈ gw := (gw_tb 1450 (by decide +kernel) (by decide +kernel))
theorem ly_11_12 : u_lay RX11 TX11 12 ∈ gw := (gw_tb 1452 (by decide +kernel) (by decide +kernel))
theorem ly_11_13 : u_lay RX11 TX11 13 ∈ gw := (gw_tb 1454 (by decide +kernel) (by decide +kernel))
theorem ly_11_14 : u_lay RX11 TX11 14 ∈ gw := (gw_tb 1456 (by decide +kernel) (by decide +kernel))
theorem ly_11_15 : u_lay RX11 TX11 15 ∈ gw := (gw_tb 1458 (by decide +kernel) (by decide +kernel))
theorem ly_11_16 : u_lay RX11 TX11 16 ∈ gw := (gw_tb 1460 (by decide +kernel) (by decide +kernel))
theorem ly_11_17 : u_lay RX11 TX11 17 ∈ gw := (gw_tb 1462 (by decide +kernel) (by decide +kernel))
theorem ly_11_18 : u_lay RX11 TX11 18 ∈ gw := (gw_tb 1464 (by decide +kernel) (by decide +kernel))
theorem ly_11_19 : u_lay RX11 TX11 19 ∈ gw := (gw_tb 1466 (by decide +kernel) (by decide +kernel))
theorem ly_11_20 : u_lay RX11 TX11 20 ∈ gw := (gw_tb 1468 (by decide +kernel) (by decide +kernel))
theorem ly_11_21 : u_lay RX11 TX11 21 ∈ gw := (gw_tb 1470 (by decide +kernel) (by decide +kernel))
theorem ly_11_22 : u_lay RX11 TX11 22 ∈ gw := (gw_tb 1472 (by decide +kernel) (by decide +kernel))
theorem ly_11_23 : u_lay RX11 TX11 23 ∈ gw := (gw_tb 1474 (by decide +kernel) (by decide +kernel))
theorem ly_11_24 : u_lay RX11 TX11 24 ∈ gw := (gw_tb 1476 (by decide +kernel) (by decide +kernel))
theorem ly_11_25 : u_lay RX11 TX11 25 ∈ gw := (gw_tb 1478 (by decide +kernel) (by decide +kernel))
theorem ly_11_26 : u_lay RX11 TX11 26 ∈ gw := (gw_tb 1480 (by decide +kernel) (by decide +kernel))
theorem ly_11_27 : u_lay RX11 TX11 27 ∈ gw := (gw_tb 1482 (by decide +kernel) (by decide +kernel))
theorem ly_11_28 : u_lay RX11 TX11 28 ∈ gw := (gw_tb 1484 (by decide +kernel) (by decide +kernel))
theorem ly_11_29 : u_lay RX11 TX11 29 ∈ gw := (gw_tb 1486 (by decide +kernel) (by decide +kernel))
theorem ly_11_30 : u_lay RX11 TX11 30 ∈ gw := (gw_tb 1488 (by decide +kernel) (by decide +kernel))
theorem ly_11_31 : u_lay RX11 TX11 31 ∈ gw := (gw_tb 1490 (by decide +kernel) (by decide +kernel))
theorem ly_11_32 : u_lay RX11 TX11 32 ∈ gw := (gw_tb 1492 (by decide +kernel) (by decide +kernel))
theorem ly_11_33 : u_lay RX11 TX11 33 ∈ gw := (gw_tb 1494 (by decide +kernel) (by decide +kernel))
theorem ly_11_34 : u_lay RX11 TX11 34 ∈ gw := (gw_tb 1496 (by decide +kernel) (by decide +kernel))
theorem ly_11_35 : u_lay RX11 TX11 35 ∈ gw := (gw_tb 1498 (by decide +kernel) (by decide +kernel))
theorem ly_11_36 : u_lay RX11 TX11 36 ∈ gw := (gw_tb 1500 (by decide +kernel) (by decide +kernel))
theorem ly_11_37 : u_lay RX11 TX11 37 ∈ gw := (gw_tb 1502 (by decide +kernel) (by decide +kernel))
theorem ly_11_38 : u_lay RX11 TX11 38 ∈ gw := (gw_tb 1504 (by decide +kernel) (by decide +kernel))
theorem ly_11_39 : u_lay RX11 TX11 39 ∈ gw := (gw_tb 1506 (by decide +kernel) (by decide +kernel))
theorem ly_11_40 : u_lay RX11 TX11 40 ∈ gw := (gw_tb 1508 (by decide +kernel) (by decide +kernel))
theorem ly_11_41 : u_lay RX11 TX11 41 ∈ gw := (gw_tb 1510 (by decide +kernel) (by decide +kernel))
theorem ly_11_42 : u_lay RX11 TX11 42 ∈ gw := (gw_tb 1512 (by decide +kernel) (by decide +kernel))
theorem ly_11_43 : u_lay RX11 TX11 43 ∈ gw := (gw_tb 1514 (by decide +kernel) (by decide +kernel))
theorem ly_11_44 : u_lay RX11 TX11 44 ∈ gw := (gw_tb 1516 (by decide +kernel) (by decide +kernel))
theorem ly_11_45 : u_lay RX11 TX11 45 ∈ gw := (gw_tb 1518 (by decide +kernel) (by decide +kernel))
theorem in_11 : ∀ w ∈ u_ws RX11 TX11 46, w ∈ gw := by
  intro w hw
  obtain ⟨k, hk, rfl⟩ := List.mem_map.mp hw
  have hk := List.mem_range.mp hk
  match k, hk with
  | 0, _ => exact ly_11_0
  | 1, _ => exact ly_11_1
  | 2, _ => exact ly_11_2
  | 3, _ => exact ly_11_3
  | 4, _ => exact ly_11_4
  | 5, _ => exact ly_11_5
  | 6, _ => exact ly_11_6
  | 7, _ => exact ly_11_7
  | 8, _ => exact ly_11_8
  | 9, _ => exact ly_11_9
  | 10, _ => exact ly_11_10
  | 11, _ => exact ly_11_11
  | 12, _ => exact ly_11_12
  | 13, _ => exact ly_11_13
  | 14, _ => exact ly_11_14
  | 15, _ => exact ly_11_15
  | 16, _ => exact ly_11_16
  | 17, _ => exact ly_11_17
  | 18, _ => exact ly_11_18
  | 19, _ => exact ly_11_19
  | 20, _ => exact ly_11_20
  | 21, _ => exact ly_11_21
  | 22, _ => exact ly_11_22
  | 23, _ => exact ly_11_23
  | 24, _ => exact ly_11_24
  | 25, _ => exact ly_11_25
  | 26, _ => exact ly_11_26
  | 27, _ => exact ly_11_27
  | 28, _ => exact ly_11_28
  | 29, _ => exact ly_11_29
  | 30, _ => exact ly_11_30
  | 31, _ => exact ly_11_31
  | 32, _ => exact ly_11_32
  | 33, _ => exact ly_11_33
  | 34, _ => exact ly_11_34
  | 35, _ => exact ly_11_35
  | 36, _ => exact ly_11_36
  | 37, _ => exact ly_11_37
  | 38, _ => exact ly_11_38
  | 39, _ => exact ly_11_39
  | 40, _ => exact ly_11_40
  | 41, _ => exact ly_11_41
  | 42, _ => exact ly_11_42
  | 43, _ => exact ly_11_43
  | 44, _ => exact ly_11_44
  | 45, _ => exact ly_11_45
  | z + 46, h => exact absurd h (by omega)
theorem fo_11_0 : FOK 11 0 80 RX11 TX11 46 := ⟨rfl, in_11, by decide, (gw_tb 1382 (by decide +kernel) (by decide +kernel))⟩
theorem fp_11_0 : FPK 11 0 TX11 46 .int := ⟨⟨tyX11, tyX11_ok, nmX11⟩, rfl, by decide +kernel⟩
theorem fo_11_1 : FOK 11 1 9 RX11 TX11 46 := ⟨rfl, in_11, by decide, (gw_tb 1383 (by decide +kernel) (by decide +kernel))⟩
theorem fo_11_2 : FOK 11 2 13 RX11 TX11 46 := ⟨rfl, in_11, by decide, (gw_tb 1384 (by decide +kernel) (by decide +kernel))⟩
theorem fo_11_3 : FOK 11 3 16 RX11 TX11 46 := ⟨rfl, in_11, by decide, (gw_tb 1385 (by decide +kernel) (by decide +kernel))⟩
theorem fo_11_4 : FOK 11 4 20 RX11 TX11 46 := ⟨rfl, in_11, by decide, (gw_tb 1386 (by decide +kernel) (by decide +kernel))⟩
theorem fo_11_5 : FOK 11 5 23 RX11 TX11 46 := ⟨rfl, in_11, by decide, (gw_tb 1387 (by decide +kernel) (by decide +kernel))⟩
theorem fo_11_6 : FOK 11 6 93 RX11 TX11 46 := ⟨rfl, in_11, by decide, (gw_tb 1388 (by decide +kernel) (by decide +kernel))⟩
theorem fp_11_6 : FPK 11 6 TX11 46 .int := ⟨⟨tyX11, tyX11_ok, nmX11⟩, rfl, by decide +kernel⟩
theorem fo_11_7 : FOK 11 7 255 RX11 TX11 46 := ⟨rfl, in_11, by decide, (gw_tb 1389 (by decide +kernel) (by decide +kernel))⟩
theorem fp_11_7 : FPK 11 7 TX11 46 .int := ⟨⟨tyX11, tyX11_ok, nmX11⟩, rfl, by decide +kernel⟩
theorem fo_11_8 : FOK 11 8 109 RX11 TX11 46 := ⟨rfl, in_11, by decide, (gw_tb 1390 (by decide +kernel) (by decide +kernel))⟩
theorem fp_11_8 : FPK 11 8 TX11 46 .int := ⟨⟨tyX11, tyX11_ok, nmX11⟩, rfl, by decide +kernel⟩
theorem fo_11_9 : FOK 11 9 106 RX11 TX11 46 := ⟨rfl, in_11, by decide, (gw_tb 1391 (by decide +kernel) (by decide +kernel))⟩
theorem fp_11_9 : FPK 11 9 TX11 46 .int := ⟨⟨tyX11, tyX11_ok, nmX11⟩, rfl, by decide +kernel⟩
theorem fo_11_10 : FOK 11 10 103 RX11 TX11 46 := ⟨rfl, in_11, by decide, (gw_tb 1392 (by decide +kernel) (by decide +kernel))⟩
theorem fp_11_10 : FPK 11 10 TX11 46 .int := ⟨⟨tyX11, tyX11_ok, nmX11⟩, rfl, by decide +kernel⟩
theorem fo_11_11 : FOK 11 11 112 RX11 TX11 46 := ⟨rfl, in_11, by decide, (gw_tb 1393 (by decide +kernel) (by decide +kernel))⟩
theorem fp_11_11 : FPK 11 11 TX11 46 .int := ⟨⟨tyX11, tyX11_ok, nmX11⟩, rfl, by decide +kernel⟩
theorem fo_11_12 : FOK 11 12 115 RX11 TX11 46 := ⟨rfl, in_11, by decide, (gw_tb 1394 (by decide +kernel) (by decide +kernel))⟩
theorem fp_11_12 : FPK 11 12 TX11 46 .int := ⟨⟨tyX11, tyX11_ok, nmX11⟩, rfl, by decide +kernel⟩
theorem fo_11_13 : FOK 11 13 185 RX11 TX11 46 := ⟨rfl, in_11, by decide, (gw_tb 1395 (by decide +kernel) (by decide +kernel))⟩
theorem fp_11_13 : FPK 11 13 TX11 46 .int := ⟨⟨tyX11, tyX11_ok, nmX11⟩, rfl, by decide +kernel⟩
theorem fo_11_14 : FOK 11 14 188 RX11 TX11 46 := ⟨rfl, in_11, by decide, (gw_tb 1396 (by decide +kernel) (by decide +kernel))⟩
theorem fp_11_14 : FPK 11 14 TX11 46 .int := ⟨⟨tyX11, tyX11_ok, nmX11⟩, rfl, by decide +kernel⟩
theorem fo_11_15 : FOK 11 15 28 RX11 TX11 46 := ⟨rfl, in_11, by decide, (gw_tb 1397 (by decide +kernel) (by decide +kernel))⟩
theorem fo_11_16 : FOK 11 16 34 RX11 TX11 46 := ⟨rfl, in_11, by decide, (gw_tb 1398 (by decide +kernel) (by decide +kernel))⟩
theorem fo_11_17 : FOK 11 17 181 RX11 TX11 46 := ⟨rfl, in_11, by decide, (gw_tb 1399 (by decide +kernel) (by decide +kernel))⟩
theorem fp_11_17 : FPK 11 17 TX11 46 .boolean := ⟨⟨tyX11, tyX11_ok, nmX11⟩, rfl, by decide +kernel⟩
theorem fo_11_18 : FOK 11 18 37 RX11 TX11 46 := ⟨rfl, in_11, by decide, (gw_tb 1400 (by decide +kernel) (by decide +kernel))⟩
theorem fo_11_19 : FOK 11 19 40 RX11 TX11 46 := ⟨rfl, in_11, by decide, (gw_tb 1401 (by decide +kernel) (by decide +kernel))⟩
theorem fo_11_20 : FOK 11 20 43 RX11 TX11 46 := ⟨rfl, in_11, by decide, (gw_tb 1402 (by decide +kernel) (by decide +kernel))⟩
theorem fo_11_21 : FOK 11 21 46 RX11 TX11 46 := ⟨rfl, in_11, by decide, (gw_tb 1403 (by decide +kernel) (by decide +kernel))⟩
theorem fo_11_22 : FOK 11 22 49 RX11 TX11 46 := ⟨rfl, in_11, by decide, (gw_tb 1404 (by decide +kernel) (by decide +kernel))⟩
theorem fo_11_23 : FOK 11 23 52 RX11 TX11 46 := ⟨rfl, in_11, by decide, (gw_tb 1405 (by decide +kernel) (by decide +kernel))⟩
theorem fo_11_24 : FOK 11 24 260 RX11 TX11 46 := ⟨rfl, in_11, by decide, (gw_tb 1406 (by decide +kernel) (by decide +kernel))⟩
theorem fp_11_24 : FPK 11 24 TX11 46 .int := ⟨⟨tyX11, tyX11_ok, nmX11⟩, rfl, by decide +kernel⟩
theorem fo_11_25 : FOK 11 25 263 RX11 TX11 46 := ⟨rfl, in_11, by decide, (gw_tb 1407 (by decide +kernel) (by decide +kernel))⟩
theorem fp_11_25 : FPK 11 25 TX11 46 .int := ⟨⟨tyX11, tyX11_ok, nmX11⟩, rfl, by decide +kernel⟩
theorem fo_11_26 : FOK 11 26 227 RX11 TX11 46 := ⟨rfl, in_11, by decide, (gw_tb 1408 (by decide +kernel) (by decide +kernel))⟩
theorem fp_11_26 : FPK 11 26 TX11 46 .int := ⟨⟨tyX11, tyX11_ok, nmX11⟩, rfl, by decide +kernel⟩
theorem fo_11_27 : FOK 11 27 230 RX11 TX11 46 := ⟨rfl, in_11, by decide, (gw_tb 1409 (by decide +kernel) (by decide +kernel))⟩
theorem fp_11_27 : FPK 11 27 TX11 46 .int := ⟨⟨tyX11, tyX11_ok, nmX11⟩, rfl, by decide +kernel⟩
theorem fo_11_28 : FOK 11 28 233 RX11 TX11 46 := ⟨rfl, in_11, by decide, (gw_tb 1410 (by decide +kernel) (by decide +kernel))⟩
theorem fp_11_28 : FPK 11 28 TX11 46 .boolean := ⟨⟨tyX11, tyX11_ok, nmX11⟩, rfl, by decide +kernel⟩
theorem fo_11_29 : FOK 11 29 55 RX11 TX11 46 := ⟨rfl, in_11, by decide, (gw_tb 1411 (by decide +kernel) (by decide +kernel))⟩
theorem fo_11_30 : FOK 11 30 58 RX11 TX11 46 := ⟨rfl, in_11, by decide, (gw_tb 1412 (by decide +kernel) (by decide +kernel))⟩
theorem fo_11_31 : FOK 11 31 61 RX11 TX11 46 := ⟨rfl, in_11, by decide, (gw_tb 1413 (by decide +kernel) (by decide +kernel))⟩
theorem fp_11_31 : FPK 11 31 TX11 46 .int := ⟨⟨tyX11, tyX11_ok, nmX11⟩, rfl, by decide +kernel⟩
theorem fo_11_32 : FOK 11 32 311 RX11 TX11 46 := ⟨rfl, in_11, by decide, (gw_tb 1414 (by decide +kernel) (by decide +kernel))⟩
theorem fp_11_32 : FPK 11 32 TX11 46 .int := ⟨⟨tyX11, tyX11_ok, nmX11⟩, rfl, by decide +kernel⟩
theorem fo_11_33 : FOK 11 33 320 RX11 TX11 46 := ⟨rfl, in_11, by decide, (gw_tb 1415 (by decide +kernel) (by decide +kernel))⟩
theorem fp_11_33 : FPK 11 33 TX11 46 .long := ⟨⟨tyX11, tyX11_ok, nmX11⟩, rfl, by decide +kernel⟩
theorem fo_11_34 : FOK 11 34 65 RX11 TX11 46 := ⟨rfl, in_11, by decide, (gw_tb 1416 (by decide +kernel) (by decide +kernel))⟩
theorem fp_11_34 : FPK 11 34 TX11 46 .int := ⟨⟨tyX11, tyX11_ok, nmX11⟩, rfl, by decide +kernel⟩
theorem fo_11_35 : FOK 11 35 328 RX11 TX11 46 := ⟨rfl, in_11, by decide, (gw_tb 1417 (by decide +kernel) (by decide +kernel))⟩
theorem fp_11_35 : FPK 11 35 TX11 46 .int := ⟨⟨tyX11, tyX11_ok, nmX11⟩, rfl, by decide +kernel⟩
theorem fo_11_36 : FOK 11 36 331 RX11 TX11 46 := ⟨rfl, in_11, by decide, (gw_tb 1418 (by decide +kernel) (by decide +kernel))⟩
theorem fp_11_36 : FPK 11 36 TX11 46 .int := ⟨⟨tyX11, tyX11_ok, nmX11⟩, rfl, by decide +kernel⟩
theorem fo_11_37 : FOK 11 37 68 RX11 TX11 46 := ⟨rfl, in_11, by decide, (gw_tb 1419 (by decide +kernel) (by decide +kernel))⟩
theorem fo_11_38 : FOK 11 38 71 RX11 TX11 46 := ⟨rfl, in_11, by decide, (gw_tb 1420 (by decide +kernel) (by decide +kernel))⟩
theorem fo_11_39 : FOK 11 39 266 RX11 TX11 46 := ⟨rfl, in_11, by decide, (gw_tb 1421 (by decide +kernel) (by decide +kernel))⟩
theorem fp_11_39 : FPK 11 39 TX11 46 .int := ⟨⟨tyX11, tyX11_ok, nmX11⟩, rfl, by decide +kernel⟩
theorem fo_11_40 : FOK 11 40 395 RX11 TX11 46 := ⟨rfl, in_11, by decide, (gw_tb 1422 (by decide +kernel) (by decide +kernel))⟩
theorem fp_11_40 : FPK 11 40 TX11 46 .int := ⟨⟨tyX11, tyX11_ok, nmX11⟩, rfl, by decide +kernel⟩
theorem fo_11_41 : FOK 11 41 398 RX11 TX11 46 := ⟨rfl, in_11, by decide, (gw_tb 1423 (by decide +kernel) (by decide +kernel))⟩
theorem fp_11_41 : FPK 11 41 TX11 46 .int := ⟨⟨tyX11, tyX11_ok, nmX11⟩, rfl, by decide +kernel⟩
theorem fo_11_42 : FOK 11 42 401 RX11 TX11 46 := ⟨rfl, in_11, by decide, (gw_tb 1424 (by decide +kernel) (by decide +kernel))⟩
theorem fp_11_42 : FPK 11 42 TX11 46 .int := ⟨⟨tyX11, tyX11_ok, nmX11⟩, rfl, by decide +kernel⟩
theorem fo_11_43 : FOK 11 43 74 RX11 TX11 46 := ⟨rfl, in_11, by decide, (gw_tb 1425 (by decide +kernel) (by decide +kernel))⟩
theorem fo_11_44 : FOK 11 44 77 RX11 TX11 46 := ⟨rfl, in_11, by decide, (gw_tb 1426 (by decide +kernel) (by decide +kernel))⟩
theorem fo_11_45 : FOK 11 45 269 RX11 TX11 46 := ⟨rfl, in_11, by decide, (gw_tb 1427 (by decide +kernel) (by decide +kernel))⟩
theorem fp_11_45 : FPK 11 45 TX11 46 .boolean := ⟨⟨tyX11, tyX11_ok, nmX11⟩, rfl, by decide +kernel⟩
