/-! The frame of my own proof: one world for all methods, told by places; 'Cl' a method's contract, 'GX' a point within its body. -/
def gw : List Cond := lw_tbl.filter goodWord
theorem gw_good : GoodIn gw gw := fun w hw => ⟨hw, good_of_word (List.mem_filter.mp hw).2⟩
theorem gw_tb {w : Cond} (i : Nat) (h : tables_1[i]? = some w) (hg : goodWord w = true) : w ∈ gw := List.mem_filter.mpr ⟨List.mem_append_right _ (List.mem_of_getElem? h), hg⟩
theorem gw_sel {w : Cond} (i : Nat) (h : (k2_sels lw_privs)[i]? = some w) (hg : goodWord w = true) : w ∈ gw := List.mem_filter.mpr ⟨List.mem_append_left _ (List.mem_of_getElem? h), hg⟩
/-- what the cells hold: ints by place and index; one long a place -/
abbrev Sg : Type := (Nat → Nat → Int32) × (Nat → Int64)
def wr (m : Sg) (p k : Nat) (v : Int32) : Sg := (va_up m.1 p (upd (m.1 p) k v), m.2)
def wrr (m : Sg) (p : Nat) (f : Nat → Int32) : Sg := (va_up m.1 p f, m.2)
def wrl (m : Sg) (p : Nat) (x : Int64) : Sg := (m.1, va_up m.2 p x)
/-- launch, class numbers, addresses by place, how many laws, their lengths, array classes, first new address, addresses of constants, what holds of constants -/
def Cf : Type := Launch × va_G × (Nat → Nat) × Nat × (Nat → Nat) × (Nat → ClassId) × Nat × (Nat → Nat) × (State → Prop)
def Cf.l (g : Cf) : Launch := g.1
def Cf.D (g : Cf) : va_G := g.2.1
def Cf.ad (g : Cf) : Nat → Nat := g.2.2.1
def Cf.nl (g : Cf) : Nat := g.2.2.2.1
def Cf.ln (g : Cf) : Nat → Nat := g.2.2.2.2.1
def Cf.cA (g : Cf) : Nat → ClassId := g.2.2.2.2.2.1
def Cf.q0 (g : Cf) : Nat := g.2.2.2.2.2.2.1
def Cf.sa (g : Cf) : Nat → Nat := g.2.2.2.2.2.2.2.1
def Cf.X (g : Cf) : State → Prop := g.2.2.2.2.2.2.2.2
def Cf.A (g : Cf) : Nat → Prop := fun q => g.q0 ≤ q
def Cf.tys (g : Cf) : List (ClassId × FieldType) := [(g.cA 0, .int), (g.cA 1, .byte), (g.cA 2, .long), (g.cA 3, .object "CountRule$Law")]
def Cf.N (g : Cf) : Nat := 45 + 3 * g.nl
/-- the shape of a place: an array (length, sort), or an object (its class, its slots: 0 an int, 1 the long, 2 the text, 10 + p the place p, 1000 + k a constant) -/
def shp : List ((Nat × Nat) ⊕ (Nat × List Nat)) := [
  .inr (10, [11, 13, 15, 17, 20, 23, 26, 31, 33, 0, 1]),
  .inr (9, [12, 0]), .inl (240, 0),
  .inr (0, [14]), .inl (100, 0),
  .inr (0, [16]), .inl (100, 0),
  .inr (1, [18, 19, 0]), .inr (2, [11, 0, 0]), .inl (6, 0),
  .inr (6, [21, 22, 0]), .inr (2, [11, 0, 0]), .inl (240, 0),
  .inr (5, [24, 25, 0, 0]), .inl (4, 3), .inl (6, 0),
  .inr (7, [27, 28, 29, 30, 0, 0, 0]), .inl (4000, 0), .inl (300, 0), .inl (100, 0), .inl (300, 0),
  .inr (8, [13, 32]), .inl (8, 0),
  .inr (3, [13, 15, 23, 34, 35, 36, 0, 0, 0, 0, 0]), .inl (24, 0), .inl (24, 0), .inl (64, 0),
  .inr (11, [0, 38, 39, 40, 41, 2, 0, 0, 0, 0, 0, 0, 0, 0, 0, 1000, 1001, 0, 42, 43, 44, 45, 46, 47, 0, 0, 0, 0, 0, 48, 49, 0, 0, 1, 0, 0, 0, 50, 51, 0, 0, 0, 0, 52, 53, 0]),
  .inl (240, 1), .inl (960, 1), .inl (4, 0), .inl (128, 0), .inl (48, 0), .inl (48, 0), .inl (12, 0), .inl (12, 0), .inl (3, 0), .inl (3, 0), .inl (244, 0), .inl (244, 0), .inl (3, 0), .inl (9760, 0), .inl (64, 0), .inl (244, 0),
  .inl (1, 2)]
theorem shp_len : shp.length = 45 := rfl
def slotV (g : Cf) (r : Nat → Int32) (x : Int64) (k c : Nat) : Value :=
  if c = 0 then .int (r k) else if c = 1 then .long x else if c = 2 then .ref (g.ad (if r k = 0 then 28 else 29)) else if c < 1000 then .ref (g.ad (c - 10)) else .ref (g.sa (c - 1000))
def flds (g : Cf) (r : Nat → Int32) (x : Int64) (tm : List Nat) : List Value := tm.mapIdx (fun k c => slotV g r x k c)
def arrC (g : Cf) (n s : Nat) (r : Nat → Int32) (x : Int64) : ClassId × vp_A :=
  if s = 0 then (g.cA 0, n, .inl r) else if s = 1 then (g.cA 1, n, .inl r) else if s = 2 then (g.cA 2, n, .inr (.inl (fun _ => x))) else (g.cA 3, n, .inr (.inr (.inr (.inr (fun k => if k < g.nl then some (g.ad (45 + 3 * k)) else none)))))
def cellR (g : Cf) (p : Nat) (r : Nat → Int32) (x : Int64) : va_E := match shp[p]? with
  | some (.inl a) => .inl (arrC g a.1 a.2 r x)
  | some (.inr o) => .inr (o.1, flds g r x o.2)
  | none => if (p - 45) % 3 = 0 then .inr (4, [.ref (g.ad (p + 1)), .ref (g.ad (p + 2)), .int (r 2)]) else if (p - 45) % 3 = 1 then .inl (g.cA 0, g.ln ((p - 45) / 3), .inl r) else .inl (g.cA 0, 18, .inl r)
def wsOf (g : Cf) (m : Sg) : va_W := (List.range g.N).map (fun p => (g.ad p, cellR g p (m.1 p) (m.2 p)))
theorem ws_get {g : Cf} {m : Sg} {p : Nat} (h : p < g.N) : (wsOf g m)[p]? = some (g.ad p, cellR g p (m.1 p) (m.2 p)) := by
  simp [wsOf, List.getElem?_map, List.getElem?_range h]
theorem ws_set {g : Cf} {m m1 : Sg} {p : Nat} (h1 : ∀ q, q ≠ p → m1.1 q = m.1 q) (h2 : ∀ q, q ≠ p → m1.2 q = m.2 q) {e : va_E} (he : cellR g p (m1.1 p) (m1.2 p) = e) : (wsOf g m).set p (g.ad p, e) = wsOf g m1 := by
  subst he
  apply List.ext_getElem?
  intro q
  by_cases hq : q < g.N
  · rw [ws_get hq]
    by_cases hp : q = p
    · subst hp
      rw [List.getElem?_set_self (by simp [wsOf, hq])]
    · rw [List.getElem?_set_ne (Ne.symm hp), ws_get hq, h1 q hp, h2 q hp]
  · rw [List.getElem?_eq_none (by simp [wsOf]; omega), List.getElem?_eq_none (by simp [wsOf]; omega)]
theorem ws_wrr {g : Cf} {m : Sg} {p : Nat} {f : Nat → Int32} {e : va_E} (he : cellR g p f (m.2 p) = e) : (wsOf g m).set p (g.ad p, e) = wsOf g (wrr m p f) := by
  refine ws_set (g := g) (m := m) (p := p) (m1 := wrr m p f) (fun q hq => by simp [wrr, va_up, hq]) (fun q _ => rfl) ?_
  have e1 : (wrr m p f).1 p = f := by simp [wrr, va_up]
  rw [e1]; exact he
theorem ws_wrl {g : Cf} {m : Sg} {p : Nat} {x : Int64} {e : va_E} (he : cellR g p (m.1 p) x = e) : (wsOf g m).set p (g.ad p, e) = wsOf g (wrl m p x) := by
  refine ws_set (g := g) (m := m) (p := p) (m1 := wrl m p x) (fun q _ => rfl) (fun q hq => by simp [wrl, va_up, hq]) ?_
  have e1 : (wrl m p x).2 p = x := by simp [wrl, va_up]
  rw [e1]; exact he
theorem wr_wrr (m : Sg) (p k : Nat) (v : Int32) : wr m p k v = wrr m p (upd (m.1 p) k v) := rfl
theorem pl_lt {g : Cf} {p : Nat} (h : Nat.blt p 45 = true) : p < g.N := by
  have := Nat.le_of_ble_eq_true h
  unfold Cf.N
  omega
/-- slots of an object's cell -/
theorem flds_get {g : Cf} {r : Nat → Int32} {x : Int64} {tm : List Nat} {k c : Nat} (h : tm[k]? = some c) : (flds g r x tm)[k]? = some (slotV g r x k c) := by
  simp [flds, h]
theorem flds_seti {g : Cf} {r : Nat → Int32} {x : Int64} {tm : List Nat} {k : Nat} {y : Int32} (h : tm[k]? = some 0) : (flds g r x tm).set k (.int y) = flds g (upd r k y) x tm := by
  apply List.ext_getElem?
  intro q
  have hk : k < tm.length := (List.getElem?_eq_some_iff.mp h).1
  by_cases hq : q = k
  · subst hq
    rw [List.getElem?_set_self (by simp [flds, hk]), flds_get h]
    simp [slotV, upd]
  · rw [List.getElem?_set_ne (Ne.symm hq)]
    cases hc : tm[q]? with
    | none => simp [flds, hc]
    | some c => rw [flds_get hc, flds_get hc]; simp [slotV, upd, hq]
theorem flds_setl {g : Cf} {r : Nat → Int32} {x : Int64} {tm : List Nat} {k : Nat} {y : Int64} (h : tm[k]? = some 1) (hu : ∀ j, tm[j]? = some 1 → j = k) : (flds g r x tm).set k (.long y) = flds g r y tm := by
  apply List.ext_getElem?
  intro q
  have hk : k < tm.length := (List.getElem?_eq_some_iff.mp h).1
  by_cases hq : q = k
  · subst hq
    rw [List.getElem?_set_self (by simp [flds, hk]), flds_get h]
    simp [slotV]
  · rw [List.getElem?_set_ne (Ne.symm hq)]
    cases hc : tm[q]? with
    | none => simp [flds, hc]
    | some c =>
      have h1 : c ≠ 1 := fun e => hq (hu q (by rw [hc, e]))
      rw [flds_get hc, flds_get hc]; simp [slotV, h1]
theorem flds_sett {g : Cf} {r : Nat → Int32} {x : Int64} {tm : List Nat} {k : Nat} {y : Int32} (h : tm[k]? = some 2) : (flds g r x tm).set k (.ref (g.ad (if y = 0 then 28 else 29))) = flds g (upd r k y) x tm := by
  apply List.ext_getElem?
  intro q
  have hk : k < tm.length := (List.getElem?_eq_some_iff.mp h).1
  by_cases hq : q = k
  · subst hq
    rw [List.getElem?_set_self (by simp [flds, hk]), flds_get h]
    simp [slotV, upd]
  · rw [List.getElem?_set_ne (Ne.symm hq)]
    cases hc : tm[q]? with
    | none => simp [flds, hc]
    | some c => rw [flds_get hc, flds_get hc]; simp [slotV, upd, hq]
/-- the locals by their places -/
def prs : Nat → List (Option Value) → List (Nat × Value)
  | _, [] => []
  | k, none :: t => prs (k + 1) t
  | k, some v :: t => (k, v) :: prs (k + 1) t
theorem mem_prs {q : Nat × Value} : ∀ {vs : List (Option Value)} {k : Nat}, q ∈ prs k vs ↔ ∃ j, vs[j]? = some (some q.2) ∧ q.1 = k + j
  | [], k => by simp [prs]
  | none :: t, k => by
    rw [prs, mem_prs]
    constructor
    · rintro ⟨j, h1, h2⟩; exact ⟨j + 1, by simpa using h1, by omega⟩
    · rintro ⟨j, h1, h2⟩
      cases j with
      | zero => simp at h1
      | succ j => exact ⟨j, by simpa using h1, by omega⟩
  | some v :: t, k => by
    rw [prs, List.mem_cons, mem_prs]
    constructor
    · rintro (h | ⟨j, h1, h2⟩)
      · subst h; exact ⟨0, by simp, by simp⟩
      · exact ⟨j + 1, by simpa using h1, by omega⟩
    · rintro ⟨j, h1, h2⟩
      cases j with
      | zero => left; obtain ⟨a, b⟩ := q; simp at h1 h2; simp [h1, h2]
      | succ j => right; exact ⟨j, by simpa using h1, by omega⟩
def LV (ls : Array Slot) (nL : Nat) (vs : List (Option Value)) : Prop := lv_has ls nL (prs 0 vs) ∧ vs.length = nL
theorem LV_at {ls : Array Slot} {nL : Nat} {vs : List (Option Value)} (h : LV ls nL vs) {i : Nat} {x : Value} (hi : vs[i]? = some (some x)) : ls[i]? = some (.val x) := h.1.2.2 (i, x) (mem_prs.mpr ⟨i, hi, by simp⟩)
theorem LV_lt {ls : Array Slot} {nL : Nat} {vs : List (Option Value)} (h : LV ls nL vs) {i : Nat} (hi : i < vs.length) : i < nL := h.2 ▸ hi
def wcl (vs : List (Option Value)) (i : Nat) : Bool := match i with
  | 0 => true
  | k + 1 => match vs[k]? with
    | some (some w) => !(w.category == 2)
    | _ => true
theorem LV_set {ls ls' : Array Slot} {nL : Nat} {vs : List (Option Value)} (h : LV ls nL vs) {i : Nat} {y : Value} (hw : wcl vs i = true) (h' : lv_has ls' nL ((i, y) :: (prs 0 vs).filter (fun q => !(q.1 == i) && !(q.1 + 1 == i && q.2.category == 2)))) : LV ls' nL (vs.set i (some y)) := by
  refine ⟨⟨h'.1, h'.2.1, fun q hq => h'.2.2 q ?_⟩, by simpa using h.2⟩
  obtain ⟨j, h1, h2⟩ := mem_prs.mp hq
  by_cases hj : j = i
  · subst hj
    rw [List.getElem?_set_self (by
      rcases Nat.lt_or_ge j vs.length with z | z
      · exact z
      · rw [List.getElem?_eq_none (by simpa using z)] at h1; cases h1)] at h1
    obtain ⟨a, b⟩ := q
    simp at h1 h2
    subst h1; subst h2
    exact List.mem_cons_self
  · rw [List.getElem?_set_ne (Ne.symm hj)] at h1
    refine List.mem_cons_of_mem _ (List.mem_filter.mpr ⟨mem_prs.mpr ⟨j, h1, h2⟩, ?_⟩)
    have e : q.1 = j := by omega
    rw [e]
    cases i with
    | zero => simp [hj]
    | succ k =>
      by_cases hk : j = k
      · subst hk
        have hw' : (!(q.2.category == 2)) = true := by simpa [wcl, h1] using hw
        have hc : (q.2.category == 2) = false := by cases z : (q.2.category == 2) <;> simp_all
        simp [hj, hc]
      · simp [hj, hk]
theorem LV_setl {ls ls' : Array Slot} {nL : Nat} {vs : List (Option Value)} (h : LV ls nL vs) {i : Nat} {y : Value} (hw : wcl vs i = true) (h' : lv_has ls' nL ((i, y) :: (prs 0 vs).filter (fun q => !(q.1 == i) && (!(q.1 == i + 1) && !(q.1 + 1 == i && q.2.category == 2))))) : LV ls' nL ((vs.set i (some y)).set (i + 1) none) := by
  refine ⟨⟨h'.1, h'.2.1, fun q hq => h'.2.2 q ?_⟩, by simpa using h.2⟩
  obtain ⟨j, h1, h2⟩ := mem_prs.mp hq
  by_cases hj1 : j = i + 1
  · subst hj1
    rcases Nat.lt_or_ge (i + 1) ((vs.set i (some y))).length with z | z
    · rw [List.getElem?_set_self z] at h1; cases h1
    · rw [List.getElem?_eq_none (by simpa using z)] at h1; cases h1
  rw [List.getElem?_set_ne (Ne.symm hj1)] at h1
  by_cases hj : j = i
  · subst hj
    rw [List.getElem?_set_self (by
      rcases Nat.lt_or_ge j vs.length with z | z
      · exact z
      · rw [List.getElem?_eq_none (by simpa using z)] at h1; cases h1)] at h1
    obtain ⟨a, b⟩ := q
    simp at h1 h2
    subst h1; subst h2
    exact List.mem_cons_self
  · rw [List.getElem?_set_ne (Ne.symm hj)] at h1
    refine List.mem_cons_of_mem _ (List.mem_filter.mpr ⟨mem_prs.mpr ⟨j, h1, h2⟩, ?_⟩)
    have e : q.1 = j := by omega
    rw [e]
    cases i with
    | zero => simp [hj, hj1]
    | succ k =>
      by_cases hk : j = k
      · subst hk
        have hw' : (!(q.2.category == 2)) = true := by simpa [wcl, h1] using hw
        have hc : (q.2.category == 2) = false := by cases z : (q.2.category == 2) <;> simp_all
        simp [hj, hc]; omega
      · simp [hj, hk, hj1]
def ent : List Value → List (Option Value)
  | [] => []
  | v :: t => some v :: (if v.category = 2 then none :: ent t else ent t)
theorem ent_args : ∀ (vs : List Value) (k : Nat) (q : Nat × Value), (∃ j, (ent vs)[j]? = some (some q.2) ∧ q.1 = k + j) → q ∈ lv_args k vs
  | [], k, q, ⟨j, h, _⟩ => by simp [ent] at h
  | v :: t, k, q, ⟨j, h, h2⟩ => by
    cases j with
    | zero =>
      obtain ⟨a, b⟩ := q
      simp [ent] at h h2
      subst h; subst h2
      simp [lv_args]
    | succ j =>
      rw [ent, List.getElem?_cons_succ] at h
      by_cases hc : v.category = 2
      · rw [if_pos hc] at h
        cases j with
        | zero => simp at h
        | succ j =>
          have := ent_args t (k + 2) q ⟨j, by simpa using h, by omega⟩
          simp [lv_args, hc]
          exact Or.inr this
      · rw [if_neg hc] at h
        have := ent_args t (k + 1) q ⟨j, h, by omega⟩
        have hc1 : v.category = 1 := by rcases lv_cat v with z | z; exact z; exact absurd z hc
        simp [lv_args, hc1]
        exact Or.inr this
