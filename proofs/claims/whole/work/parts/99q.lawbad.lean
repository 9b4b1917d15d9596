/-! laws' texts: once wrong, the component reads on and changes nothing that counts -/
section
variable {nl B B' : Nat} {ln : Nat → Nat} {m m1 m2 m' mc mm mc0 mm0 : Sg} {j w u : Nat} {a a1 a2 a3 a4 r x c v v1 v2 op : Int32} {L p q k k1 k2 i n off b N t P d f : Nat} {tx lt : Nat → Int32} {z : Bool}
/-- wrong already; its code has a length -/
def FL (m : Sg) : Prop := ¬ m.1 11 2 = -1 ∧ ∃ n, n ≤ 240 ∧ m.1 10 2 = nI n
def FO (m m' : Sg) : Prop := Fr sK m m' ∧ m'.1 11 2 = m.1 11 2 ∧ ∃ n, n ≤ 240 ∧ m'.1 10 2 = nI n
theorem FO_tr (h : FO m m1) (k : FO m1 m2) : FO m m2 := ⟨h.1.tr k.1, k.2.1.trans h.2.1, k.2.2⟩
theorem FO_FL (h : FL m) (k : FO m m1) : FL m1 := ⟨by rw [k.2.1]; exact h.1, k.2.2⟩
theorem FO_rf (h : FL m) : FO m m := ⟨Fr.rf, rfl, h.2⟩
theorem fw_b (h : FL m) : ∃ m', f_X6_write m a = some m' ∧ FO m m' := by
  obtain ⟨h1, n, n1, n2⟩ := h
  obtain ⟨m', n', e1, e2, e3, e4, e5⟩ := cw_any (a := a) n2 n1
  exact ⟨m', e1, e2, by rw [e3], n', e5, e4⟩
theorem fws_b (h : FL m) : ∃ m', f_X6_writeSign m a = some m' ∧ FO m m' := by
  obtain ⟨m', e1, e2⟩ := fw_b (a := 10000 + a) h
  exact ⟨m', by unfold f_X6_writeSign; rw [e1, calv_eq], e2⟩
theorem fneeds_b (h : FL m) (ha : ¬ (-1 : Int32) = a) : f_X2_needs 11 m a = some m := by
  unfold f_X2_needs
  rw [peek_f h.1, cal_eq, if_neg ha, fail_f h.1, calv_eq]
theorem ftakes_b (h : FL m) (ha : ¬ (-1 : Int32) = a) : f_X2_takes 11 m a = some (0, m) := by
  unfold f_X2_takes
  rw [peek_f h.1, cal_eq, if_neg ha]
theorem feither_b (h : FL m) (h1 : ¬ (-1 : Int32) = a1) (h2 : ¬ (-1 : Int32) = a2) : f_X6_isEither m a1 a2 = some (0, m) := by
  unfold f_X6_isEither
  rw [peek_f h.1, cal_eq, bnd_eq, if_neg h1, if_neg h2]
theorem fatom_b (h : FL m) : ∃ m', rec6 (f + 1) 6 m a1 a2 = some (0, m') ∧ FO m m' := by
  obtain ⟨m', e1, e2⟩ := fw_b (a := 0) h
  refine ⟨m', ?_, e2⟩
  show ri (f_X6_readAtom (rec6 f) m a1) = _
  unfold f_X6_readAtom
  rw [peek_f h.1, cal_eq, if_neg (by decide), bnd_eq, if_pos (by decide)]
  dsimp only
  rw [num_f h.1, cal_eq, e1, calv_eq]
  rfl
theorem fterm_b (h : FL m) : ∃ m', rec6 (f + 2) 5 m a1 a2 = some (0, m') ∧ FO m m' := by
  obtain ⟨m', e1, e2⟩ := fatom_b (f := f) (a1 := a1) (a2 := 0) h
  refine ⟨m', ?_, e2⟩
  have h' := FO_FL h e2
  show ri (f_X6_readTerm (rec6 (f + 1)) m a1) = _
  unfold f_X6_readTerm
  rw [e1]
  have st : f_X6_readTerm_L7 (rec6 (f + 1)) a1 (m', 0) = some (.inl m') := by
    simp only [f_X6_readTerm_L7, if_neg (show ¬ (240 : Int32) ≤ 0 by decide), feither_b h' (show ¬ (-1 : Int32) = 42 by decide) (show ¬ (-1 : Int32) = 47 by decide), cal_eq, ↓reduceIte]
  show ri (calv (some m') (fun m1 => lpk (f_X6_readTerm_L7 (rec6 (f + 1)) a1) (m1, 0) (fun m4 => some m4))) = _
  rw [calv_eq, lpk_seq (x := m') 0 (fun _ => (m', 0)) (fun i hi => absurd hi (by omega)) st (by decide)]
  rfl
theorem fsum_b (h : FL m) : ∃ m', rec6 (f + 3) 4 m a1 a2 = some (0, m') ∧ FO m m' := by
  obtain ⟨m', e1, e2⟩ := fterm_b (f := f) (a1 := a1) (a2 := 0) h
  refine ⟨m', ?_, e2⟩
  have h' := FO_FL h e2
  show ri (f_X6_readSum (rec6 (f + 2)) m a1) = _
  unfold f_X6_readSum
  rw [e1]
  have st : f_X6_readSum_L7 (rec6 (f + 2)) a1 (m', 0) = some (.inl m') := by
    simp only [f_X6_readSum_L7, if_neg (show ¬ (240 : Int32) ≤ 0 by decide), feither_b h' (show ¬ (-1 : Int32) = 43 by decide) (show ¬ (-1 : Int32) = 45 by decide), cal_eq, ↓reduceIte]
  show ri (calv (some m') (fun m1 => lpk (f_X6_readSum_L7 (rec6 (f + 2)) a1) (m1, 0) (fun m4 => some m4))) = _
  rw [calv_eq, lpk_seq (x := m') 0 (fun _ => (m', 0)) (fun i hi => absurd hi (by omega)) st (by decide)]
  rfl
theorem funit_b (h : FL m) : ∃ m', rec6 (f + 4) 2 m a1 a2 = some (0, m') ∧ FO m m' := by
  obtain ⟨m', e1, e2⟩ := fsum_b (f := f) (a1 := a1) (a2 := 0) h
  refine ⟨m', ?_, e2⟩
  have h' := FO_FL h e2
  show f_X6_readUnit (rec6 (f + 3)) m a1 a2 = _
  unfold f_X6_readUnit
  rw [peek_f h.1, cal_eq, bnd_eq, if_neg (by decide), if_neg (by decide), e1]
  show calv (some m') _ = _
  rw [calv_eq, peek_f h'.1, cal_eq, bnd_eq, if_neg (by decide), if_neg (by decide), if_neg (by decide), fail_f h'.1, calv_eq]
  split <;> rfl
theorem ftruth_b (h : FL m) : ∃ m', rec6 (f + 5) 1 m a1 a2 = some (0, m') ∧ FO m m' := by
  obtain ⟨m', e1, e2⟩ := funit_b (f := f) (a1 := a1) (a2 := a2) h
  refine ⟨m', ?_, e2⟩
  show f_X6_readTruth (rec6 (f + 4)) m a1 a2 = _
  unfold f_X6_readTruth
  rw [e1, cal_eq, if_pos rfl]
theorem fcond_b (h : FL m) : ∃ m', rec6 (f + 6) 0 m a1 a2 = some (0, m') ∧ FO m m' := by
  obtain ⟨m', e1, e2⟩ := ftruth_b (f := f) (a1 := a1) (a2 := a2) h
  refine ⟨m', ?_, e2⟩
  show f_X6_readCondition (rec6 (f + 5)) m a1 a2 = _
  unfold f_X6_readCondition
  rw [e1, cal_eq, if_pos rfl]
end
