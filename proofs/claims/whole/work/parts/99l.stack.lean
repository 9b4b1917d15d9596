/-! laws: a stack, and a component's code on it -/
section
variable {nl B B' : Nat} {ln : Nat → Nat} {m m1 m2 m' mc mm mc0 mm0 : Sg} {j w u : Nat} {a a1 a2 a3 a4 r x c v v1 v2 op : Int32} {L p q k k1 k2 i n off b N t P d : Nat} {tx lt : Nat → Int32} {z : Bool} {st st' : List Int32} {s s1 s2 : List Int32}
def hld (y : Int64) : Int32 := (((if ((if (y : Int64) < 1000000 then y else 1000000) : Int64) < (-1000000) then (-1000000) else (if (y : Int64) < 1000000 then y else 1000000)) : Int64).toInt32)
def reck (a op b : Int32) : Int32 := (if op = 38 then a &&& b else
  (if op = 42 then hld (a.toInt64 * b.toInt64) else
  (if op = 43 then hld (a.toInt64 + b.toInt64) else
  (if op = 45 then hld (a.toInt64 - b.toInt64) else
  (if op = 47 then (if b = 0 then 0 else hld (a.toInt64 / b.toInt64)) else
  (if op = 60 then (if b ≤ a then 0 else 1) else
  (if op = 61 then (if a = b then 1 else 0) else
  (if op = 62 then (if a ≤ b then 0 else 1) else
  (if op = 124 then a ||| b else 0)))))))))
theorem i64_0 : a.toInt64 = 0 ↔ a = 0 := by
  constructor
  · intro h
    have : a.toInt64.toInt = (0 : Int64).toInt := by rw [h]
    rw [Int32.toInt_toInt64] at this
    exact Int32.toInt_inj.mp this
  · intro h; rw [h]; rfl
theorem reck_v : f_X4_reckon m a op r = some (reck a op r, m) := by
  unfold f_X4_reckon reck f_X4_held
  by_cases h1 : op = 38
  · rw [if_pos h1, if_pos h1]
  · rw [if_neg h1, if_neg h1]
    by_cases h2 : op = 42
    · rw [if_pos h2, if_pos h2, cal_eq]; rfl
    · rw [if_neg h2, if_neg h2]
      by_cases h3 : op = 43
      · rw [if_pos h3, if_pos h3, cal_eq]; rfl
      · rw [if_neg h3, if_neg h3]
        by_cases h4 : op = 45
        · rw [if_pos h4, if_pos h4, cal_eq]; rfl
        · rw [if_neg h4, if_neg h4]
          by_cases h5 : op = 47
          · rw [if_pos h5, if_pos h5]
            by_cases h0 : r = 0
            · rw [if_pos h0, if_pos h0]
            · have hd : (!(decide (r.toInt64 = 0))) = true := by simp [i64_0, h0]
              rw [if_neg h0, if_neg h0, if_pos hd, cal_eq]; rfl
          · rw [if_neg h5, if_neg h5]
            by_cases h6 : op = 60
            · rw [if_pos h6, if_pos h6]; split <;> rfl
            · rw [if_neg h6, if_neg h6]
              by_cases h7 : op = 61
              · rw [if_pos h7, if_pos h7]; split <;> rfl
              · rw [if_neg h7, if_neg h7]
                by_cases h8 : op = 62
                · rw [if_pos h8, if_pos h8]; split <;> rfl
                · rw [if_neg h8, if_neg h8]
                  split <;> rfl
def pu (v : Int32) (st : List Int32) : Option (List Int32) := if st.length < 18 then some (v :: st) else none
def stp (lt : Nat → Int32) (c : Int32) (st : List Int32) : Option (List Int32) :=
  if c - 10000 < 0 then pu c st
  else if ¬ spt 1 (c - 10000) < 0 then pu (lt (spt 1 (c - 10000)).toNatClampNeg) st
  else if c - 10000 = 33 then (match st with
    | a :: r => pu (1 - a) r
    | [] => none)
  else (match st with
    | b :: a :: r => pu (reck a (c - 10000) b) r
    | _ => none)
def run (lt : Nat → Int32) : List Int32 → List Int32 → Option (List Int32)
  | [], st => some st
  | c :: s, st => match stp lt c st with
    | some st' => run lt s st'
    | none => none
theorem run_app : ∀ (s1 : List Int32) st, run lt (s1 ++ s2) st = (match run lt s1 st with
    | some st' => run lt s2 st'
    | none => none)
  | [], st => rfl
  | c :: s, st => by
    show (match stp lt c st with | some st' => run lt (s ++ s2) st' | none => none) = (match (match stp lt c st with | some st' => run lt s st' | none => none) with | some st' => run lt s2 st' | none => none)
    cases stp lt c st with
    | none => rfl
    | some st' => exact run_app s st'
/-- codes worth v, k cells of the stack -/
def EV (lt : Nat → Int32) (s : List Int32) (v : Int32) (k : Nat) : Prop := ∀ st : List Int32, st.length + k ≤ 18 → run lt s st = some (v :: st)
theorem EV_mono (h : EV lt s v k1) (hk : k1 ≤ k2) : EV lt s v k2 := fun st hs => h st (by omega)
theorem EV_num (h : c - 10000 < 0) (hk : 1 ≤ k) : EV lt [c] c k := by
  intro st hs
  show (match stp lt c st with | some st' => run lt [] st' | none => none) = _
  have : stp lt c st = some (c :: st) := by
    unfold stp pu
    rw [if_pos h, if_pos (by omega)]
  rw [this]; rfl
theorem EV_let (h0 : ¬ c - 10000 < 0) (h : spt 1 (c - 10000) = nI i) (hi : i < 6) (hk : 1 ≤ k) : EV lt [c] (lt i) k := by
  intro st hs
  show (match stp lt c st with | some st' => run lt [] st' | none => none) = _
  have : stp lt c st = some (lt i :: st) := by
    unfold stp pu
    rw [if_neg h0, h, if_pos (nI_pos (by omega)), if_pos (by omega), nI_clamp (by omega)]
  rw [this]; rfl
theorem EV_not (h : EV lt s v k) (hk : 1 ≤ k) : EV lt (s ++ [10033]) (1 - v) k := by
  intro st hs
  rw [run_app, h st hs]
  show (match stp lt 10033 (v :: st) with | some st' => run lt [] st' | none => none) = _
  have : stp lt 10033 (v :: st) = some ((1 - v) :: st) := by
    unfold stp pu
    rw [if_neg (by decide), if_neg (by decide), if_pos (by decide)]
    dsimp only
    rw [if_pos (by omega)]
  rw [this]; rfl
theorem EV_bin (h1 : EV lt s1 v1 k1) (h2 : EV lt s2 v2 k2) (hk1 : k1 ≤ k) (hk2 : k2 + 1 ≤ k) (hk : 1 ≤ k) (hc0 : ¬ c - 10000 < 0) (hc1 : spt 1 (c - 10000) < 0) (hc2 : ¬ c - 10000 = 33) : EV lt (s1 ++ s2 ++ [c]) (reck v1 (c - 10000) v2) k := by
  intro st hs
  rw [run_app, run_app, h1 st (by omega)]
  dsimp only
  rw [h2 (v1 :: st) (by simp only [List.length_cons]; omega)]
  show (match stp lt c (v2 :: v1 :: st) with | some st' => run lt [] st' | none => none) = _
  have : stp lt c (v2 :: v1 :: st) = some (reck v1 (c - 10000) v2 :: st) := by
    unfold stp pu
    rw [if_neg hc0, if_neg (fun z => z hc1), if_neg hc2]
    dsimp only
    rw [if_pos (by omega)]
  rw [this]; rfl
end
