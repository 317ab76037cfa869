/-! the class beside the reference: what holds of a world between two calls -/
/-- the piece that a place of a cell belongs to: 0 the finding, 1 rows, 2 the tape, 3 the trace, 4 images, 5 the town and its acts, 9 of no piece -/
def own (t : TA) (j : Nat) : Nat := match t with
  | .inl (k, _) => match k.val with | 0 => 5 | 2 => 4 | 3 => 4 | _ => 9
  | .inr (.inl _) => 1
  | .inr (.inr s) => match s with
    | 0 => 0
    | 2 => if j = 1 ∨ j = 2 then 2 else 9
    | 3 => 2 | 5 => 5 | 6 => 5 | 7 => 5 | 8 => 5 | 9 => 5 | 11 => 3 | 12 => 3
    | 13 => if j = 3 then 0 else if j = 5 ∨ j = 8 then 5 else if j = 10 ∨ j = 17 then 2 else if j = 24 then 3 else 9
    | 14 => 1 | 15 => 1 | 16 => 1
    | 17 => if j < 49 then 5 else if j < 147 then 4 else 9
    | 18 => 4 | 19 => 5 | 20 => 2 | 22 => 3
    | _ => 9
def Same (n : Nat) (w w' : Wd) : Prop := ∀ t j, own t j = n → w' t j = w t j
theorem Same.rf {n : Nat} {w : Wd} : Same n w w := fun _ _ _ => rfl
theorem Same.tr {n : Nat} {w w1 w2 : Wd} (h1 : Same n w w1) (h2 : Same n w1 w2) : Same n w w2 := fun t j e => (h2 t j e).trans (h1 t j e)
theorem Same.set {n : Nat} {w : Wd} {t : TA} {k : Nat} {x : Int32} (h : own t k ≠ n) : Same n w (wset w t k x) := fun t' j e => by
  unfold wset
  by_cases h1 : t' = t
  · subst h1
    by_cases h2 : j = k
    · subst h2
      exact absurd e h
    · rw [if_pos rfl, if_neg h2]
  · rw [if_neg h1]
theorem Same.fr {n : Nat} {w w' : Wd} {k : Fin 6} (h : Fr k w w') (hn : ∀ p j, own (cit k p) j ≠ n) : Same n w w' := fun t j e => by
  rw [h t (fun p z => by subst z; exact hn p j e)]
theorem Same.seer {n : Nat} {w w' : Wd} (h : FrR w w') (hn : n ≠ 9) : Same n w w' := fun t j e => by
  rw [h t (fun p z => by subst z; exact hn e.symm) (fun p z => by subst z; exact hn e.symm) (fun z => by subst z; exact hn e.symm)]
/-- what the reference writes of foretelling alone -/
def FinI (w : Wd) : Prop := w (sg 0) 8 = w (sg 13) 3
def RowI (w : Wd) (r : Nat) : Prop := (w (rw_ (Fin.ofNat 8 r) 0) 1 = nI 0 ∧ w (sg 14) r = nI 0) ∨ (w (rw_ (Fin.ofNat 8 r) 0) 1 = nI 1 ∧ ∃ l n, l ≤ 2 ∧ n ≤ 40 ∧ w (rw_ (Fin.ofNat 8 r) 0) 2 = nI l ∧ w (sg 14) r = nI (l + 1) ∧ w (rw_ (Fin.ofNat 8 r) 0) 3 = nI n ∧ w (sg 15) r = nI n ∧ ∀ i, i < 40 → w (rw_ (Fin.ofNat 8 r) 1) i = w (sg 16) (40 * r + i))
def RowsI (w : Wd) : Prop := ∀ r, r < 8 → RowI w r
def TapI (w : Wd) : Prop := w (sg 2) 2 = w (sg 13) 17 ∧ ∃ n, n ≤ 160 ∧ w (sg 2) 1 = nI n ∧ w (sg 13) 10 = nI n ∧ ∀ i, i < n → ∃ v, v < 256 ∧ w (sg 3) i = nI v ∧ w (sg 20) i = vp_nar .byte (nI v)
def TraI (w : Wd) : Prop := ∃ n, n ≤ 16 ∧ w (sg 11) 1 = nI n ∧ w (sg 13) 24 = nI n ∧ ∀ i, i < n → w (sg 12) i = w (sg 22) i
def MaIs (w : Wd) (b : Nat) (c : Nat → Nat) (nr ti o sp dy : Nat) (wf : Nat → Nat) : Prop := w (sg 17) b = nI (c 0) ∧ w (sg 17) (b + 1) = nI nr ∧ w (sg 17) (b + 2) = nI ti ∧ w (sg 17) (b + 3) = nI (c 3) ∧ w (sg 17) (b + 4) = nI (c 4) ∧ w (sg 17) (b + 5) = nI dy ∧ w (sg 17) (b + 6) = nI o ∧ w (sg 17) (b + 7) = nI sp ∧ (∀ g, g < c 3 → w (sg 17) (b + (8 + 2 * g)) = nI (c (8 + 2 * g)) ∧ w (sg 17) (b + (9 + 2 * g)) = nI (c (9 + 2 * g))) ∧ ∀ p, p < c 4 → w (sg 17) (b + (24 + 5 * p)) = nI (so c p) ∧ w (sg 17) (b + (25 + 5 * p)) = nI (ho c p) ∧ w (sg 17) (b + (26 + 5 * p)) = nI (er c p) ∧ w (sg 17) (b + (27 + 5 * p)) = nI (wf p) ∧ w (sg 17) (b + (28 + 5 * p)) = nI (we c p)
def CtOk (c : Nat → Nat) (nr ti o sp dy : Nat) (wf : Nat → Nat) : Prop := PlOk c ∧ DyOk c nr ti o sp wf ∧ dy ≤ 999 ∧ ∀ p, p < c 4 → 1 ≤ so c p
def ImgI (w : Wd) (k : Nat) : Prop := (w (cit (Fin.ofNat 6 (2 + k)) 0) 0 = nI 0 ∧ w (sg 18) k = nI 0) ∨ (w (sg 18) k = nI 1 ∧ ∃ c nr ti o sp dy wf, CtOk c nr ti o sp dy wf ∧ 0 < c 0 ∧ CiIs w (Fin.ofNat 6 (2 + k)) c nr ti o sp dy wf ∧ MaIs w (49 * (1 + k)) c nr ti o sp dy wf)
def ImgsI (w : Wd) : Prop := ∀ k, k < 2 → ImgI w k
/-- the acts, the oldest first: S i is what was before the act i: open, spent, day, wishes -/
abbrev Sn := Nat × Nat × Nat × (Nat → Nat)
def AcC (w : Wd) (P m x : Nat) (S : Nat → Sn) : Prop := w (sg 5) 0 = nI m ∧ w (sg 5) 1 = nI x ∧ ∀ i, i < m → w (sg 6) ((x + 24 - m + i) % 24) = nI (S i).1 ∧ w (sg 7) ((x + 24 - m + i) % 24) = nI (S i).2.1 ∧ w (sg 8) ((x + 24 - m + i) % 24) = nI (S i).2.2.1 ∧ ∀ p, p < P → w (sg 9) (5 * ((x + 24 - m + i) % 24) + p) = nI ((S i).2.2.2 p)
/-- one act of the reference: it says what to put back -/
def AcM1 (w : Wd) (P i : Nat) (s : Sn) (wf : Nat → Nat) : Prop := w (sg 19) (5 * i) = nI s.1 ∧ w (sg 19) (5 * i + 1) = nI s.2.1 ∧ w (sg 19) (5 * i + 2) = nI s.2.2.1 ∧ ((w (sg 19) (5 * i + 3) = -(nI 1000000) ∧ ∀ p, p < P → s.2.2.2 p = wf p) ∨ ∃ q v, q < P ∧ w (sg 19) (5 * i + 3) = nI q ∧ w (sg 19) (5 * i + 4) = nI v ∧ ∀ p, p < P → s.2.2.2 p = upW wf q v p)
def AcM (w : Wd) (P m : Nat) (S : Nat → Sn) (wf : Nat → Nat) : Prop := w (sg 13) 8 = nI m ∧ ∀ i, i < m → AcM1 w P i (S i) (if i + 1 = m then wf else (S (i + 1)).2.2.2)
def ActI (w : Wd) (c : Nat → Nat) (nr ti : Nat) (wf : Nat → Nat) : Prop := ∃ m x S, m ≤ 24 ∧ x < 24 ∧ AcC w (c 4) m x S ∧ AcM w (c 4) m S wf ∧ ∀ i, i < m → CtOk c nr ti (S i).1 (S i).2.1 (S i).2.2.1 (S i).2.2.2
def TwnI (w : Wd) : Prop := w (sg 13) 5 = nI 0 ∧ ∃ c nr ti o sp dy wf, CtOk c nr ti o sp dy wf ∧ CiIs w 0 c nr ti o sp dy wf ∧ MaIs w 0 c nr ti o sp dy wf ∧ ActI w c nr ti wf
def Inv (w : Wd) : Prop := FinI w ∧ RowsI w ∧ TapI w ∧ TraI w ∧ ImgsI w ∧ TwnI w
theorem FinI.same {w w' : Wd} (h : FinI w) (e : Same 0 w w') : FinI w' := by
  unfold FinI at *
  rw [e _ _ rfl, e _ _ rfl]
  exact h
theorem RowI.same {w w' : Wd} {r : Nat} (h : RowI w r) (e : Same 1 w w') : RowI w' r := by
  rcases h with ⟨h1, h2⟩ | ⟨h1, l, n, h2, h3, h4, h5, h6, h7, h8⟩
  · exact Or.inl ⟨(e _ _ rfl).trans h1, (e _ _ rfl).trans h2⟩
  · exact Or.inr ⟨(e _ _ rfl).trans h1, l, n, h2, h3, (e _ _ rfl).trans h4, (e _ _ rfl).trans h5, (e _ _ rfl).trans h6, (e _ _ rfl).trans h7, fun i hi => by rw [e _ _ rfl, e _ _ rfl]; exact h8 i hi⟩
theorem RowsI.same {w w' : Wd} (h : RowsI w) (e : Same 1 w w') : RowsI w' := fun r hr => (h r hr).same e
theorem TapI.same {w w' : Wd} (h : TapI w) (e : Same 2 w w') : TapI w' := by
  obtain ⟨h1, n, h2, h3, h4, h5⟩ := h
  exact ⟨by rw [e _ _ rfl, e _ _ rfl]; exact h1, n, h2, (e _ _ rfl).trans h3, (e _ _ rfl).trans h4, fun i hi => by rw [e _ _ rfl, e _ _ rfl]; exact h5 i hi⟩
theorem TraI.same {w w' : Wd} (h : TraI w) (e : Same 3 w w') : TraI w' := by
  obtain ⟨n, h2, h3, h4, h5⟩ := h
  exact ⟨n, h2, (e _ _ rfl).trans h3, (e _ _ rfl).trans h4, fun i hi => by rw [e _ _ rfl, e _ _ rfl]; exact h5 i hi⟩
theorem MaIs.of {w w' : Wd} {b : Nat} {c : Nat → Nat} {nr ti o sp dy : Nat} {wf : Nat → Nat} (hc : PlOk c) (h : MaIs w b c nr ti o sp dy wf) (e : ∀ j, j < 49 → w' (sg 17) (b + j) = w (sg 17) (b + j)) : MaIs w' b c nr ti o sp dy wf := by
  obtain ⟨h1, h2, h3, h4, h5, h6, h7, h8, h9, h10⟩ := h
  have e3 := hc.2.1
  have e4 := hc.2.2.1
  refine ⟨(e 0 (by decide)).trans h1, (e 1 (by decide)).trans h2, (e 2 (by decide)).trans h3, (e 3 (by decide)).trans h4, (e 4 (by decide)).trans h5, (e 5 (by decide)).trans h6, (e 6 (by decide)).trans h7, (e 7 (by decide)).trans h8, fun g hg => ?_, fun p hp => ?_⟩
  · obtain ⟨a1, a2⟩ := h9 g hg
    exact ⟨(e _ (by omega)).trans a1, (e _ (by omega)).trans a2⟩
  · obtain ⟨a1, a2, a3, a4, a5⟩ := h10 p hp
    exact ⟨(e _ (by omega)).trans a1, (e _ (by omega)).trans a2, (e _ (by omega)).trans a3, (e _ (by omega)).trans a4, (e _ (by omega)).trans a5⟩
theorem CiIs.fr2 {w w' : Wd} {k : Fin 6} {c : Nat → Nat} {nr ti o sp dy : Nat} {wf : Nat → Nat} (h : CiIs w k c nr ti o sp dy wf) (e : ∀ p j, w' (cit k p) j = w (cit k p) j) : CiIs w' k c nr ti o sp dy wf := h.fr (fun p => funext (e p))
theorem ImgI.same {w w' : Wd} {k : Nat} (hk : k < 2) (h : ImgI w k) (e : Same 4 w w') : ImgI w' k := by
  have ho : ∀ p j, own (cit (Fin.ofNat 6 (2 + k)) p) j = 4 := by
    rcases (by omega : k = 0 ∨ k = 1) with rfl | rfl <;> exact fun _ _ => rfl
  rcases h with ⟨h1, h2⟩ | ⟨h1, c, nr, ti, o, sp, dy, wf, h2, h3, h4, h5⟩
  · exact Or.inl ⟨(e _ _ (ho _ _)).trans h1, (e _ _ rfl).trans h2⟩
  · refine Or.inr ⟨(e _ _ rfl).trans h1, c, nr, ti, o, sp, dy, wf, h2, h3, h4.fr2 (fun p j => e _ _ (ho _ _)), h5.of h2.1 (fun j hj => e _ _ ?_)⟩
    show (if 49 * (1 + k) + j < 49 then 5 else if 49 * (1 + k) + j < 147 then 4 else 9) = 4
    rw [if_neg (by omega), if_pos (by omega)]
theorem ImgsI.same {w w' : Wd} (h : ImgsI w) (e : Same 4 w w') : ImgsI w' := fun k hk => (h k hk).same hk e
theorem AcC.of {w w' : Wd} {P m x : Nat} {S : Nat → Sn} (h : AcC w P m x S) (e : ∀ s, 5 ≤ s → s ≤ 9 → ∀ j, w' (sg s) j = w (sg s) j) : AcC w' P m x S := by
  obtain ⟨h1, h2, h3⟩ := h
  refine ⟨(e 5 (by decide) (by decide) _).trans h1, (e 5 (by decide) (by decide) _).trans h2, fun i hi => ?_⟩
  obtain ⟨a1, a2, a3, a4⟩ := h3 i hi
  exact ⟨(e 6 (by decide) (by decide) _).trans a1, (e 7 (by decide) (by decide) _).trans a2, (e 8 (by decide) (by decide) _).trans a3, fun p hp => (e 9 (by decide) (by decide) _).trans (a4 p hp)⟩
theorem AcM1.of {w w' : Wd} {P i i' : Nat} {s : Sn} {wf : Nat → Nat} (h : AcM1 w P i s wf) (e : ∀ j, j < 5 → w' (sg 19) (5 * i' + j) = w (sg 19) (5 * i + j)) : AcM1 w' P i' s wf := by
  obtain ⟨h1, h2, h3, h4⟩ := h
  refine ⟨(e 0 (by decide)).trans h1, (e 1 (by decide)).trans h2, (e 2 (by decide)).trans h3, ?_⟩
  rcases h4 with ⟨a1, a2⟩ | ⟨q, v, a1, a2, a3, a4⟩
  · exact Or.inl ⟨(e 3 (by decide)).trans a1, a2⟩
  · exact Or.inr ⟨q, v, a1, (e 3 (by decide)).trans a2, (e 4 (by decide)).trans a3, a4⟩
theorem ActI.of {w w' : Wd} {c : Nat → Nat} {nr ti : Nat} {wf : Nat → Nat} (h : ActI w c nr ti wf) (e : ∀ s, 5 ≤ s → s ≤ 9 → ∀ j, w' (sg s) j = w (sg s) j) (e13 : w' (sg 13) 8 = w (sg 13) 8) (e19 : ∀ j, w' (sg 19) j = w (sg 19) j) : ActI w' c nr ti wf := by
  obtain ⟨m, x, S, h1, h2, h3, h4, h5⟩ := h
  exact ⟨m, x, S, h1, h2, h3.of e, ⟨e13.trans h4.1, fun i hi => (h4.2 i hi).of (fun j _ => e19 _)⟩, h5⟩
theorem own_acts : ∀ s, 5 ≤ s → s ≤ 9 → ∀ j, own (sg s) j = 5 := by
  intro s h1 h2 j
  rcases (by omega : s = 5 ∨ s = 6 ∨ s = 7 ∨ s = 8 ∨ s = 9) with rfl | rfl | rfl | rfl | rfl <;> rfl
theorem own_now {j : Nat} (h : j < 49) : own (sg 17) j = 5 := if_pos h
theorem TwnI.same {w w' : Wd} (h : TwnI w) (e : Same 5 w w') : TwnI w' := by
  obtain ⟨h1, c, nr, ti, o, sp, dy, wf, h2, h3, h4, h5⟩ := h
  exact ⟨(e _ _ rfl).trans h1, c, nr, ti, o, sp, dy, wf, h2, h3.fr2 (fun p j => e _ _ rfl), h4.of h2.1 (fun j hj => e _ _ (own_now (by omega))), h5.of (fun s s1 s2 j => e _ _ (own_acts s s1 s2 j)) (e _ _ rfl) (fun j => e _ _ rfl)⟩
theorem Inv.same {w w' : Wd} (h : Inv w) (e : ∀ n, n ≤ 5 → Same n w w') : Inv w' := ⟨h.1.same (e 0 (by decide)), h.2.1.same (e 1 (by decide)), h.2.2.1.same (e 2 (by decide)), h.2.2.2.1.same (e 3 (by decide)), h.2.2.2.2.1.same (e 4 (by decide)), h.2.2.2.2.2.same (e 5 (by decide))⟩
/-- a call of the class and the same call of the reference: the answers are one, and all stays beside -/
def Op (jx jm : Nat) (as : List AV) : Prop := ∀ w, Inv w → ∃ w1 w2 v, Cl 20 jx (vR (sg 0) :: as) w (some (vI v), w1) ∧ Cl 20 jm (vR (sg 13) :: as) w1 (some (vI v), w2) ∧ Inv w2
-- what both sides share
theorem x_within {w : Wd} {x y : Int32} : Cl 1 jX_isWithin [vI x, vI y] w (some (vI (bI (decide (0 ≤ x) && decide (x < y)))), w) := by
  refine Cl.of rfl rfl rfl (lc := [some (vI x), some (vI y)]) rfl ?_
  refine Rn.if1 60 rfl rfl (fun h => ?_) (fun h => ?_)
  · dsimp only [tm_c2P] at h
    rw [decide_eq_false (Int32.not_le.mpr h)]
    exact Rn.zr 60 rfl rfl rfl (by decide) rfl
  · dsimp only [tm_c2P] at h
    rw [decide_eq_true (Int32.not_lt.mp h)]
    refine Rn.if2 60 rfl rfl (fun h2 => ?_) (fun h2 => ?_)
    · dsimp only [tm_c2P] at h2
      rw [decide_eq_false (Int32.not_lt.mpr h2)]
      exact Rn.zr 60 rfl rfl rfl (by decide) rfl
    · dsimp only [tm_c2P] at h2
      rw [decide_eq_true (Int32.not_le.mp h2)]
      exact Rn.zr 60 rfl rfl rfl (by decide) rfl
theorem x_no {w : Wd} {x : Int32} {n : Nat} (hn : n < 2 ^ 31) (h : x < 0 ∨ nI n ≤ x) : Cl 1 jX_isWithin [vI x, vI (nI n)] w (some (vI (bI false)), w) := by
  have k := x_within (w := w) (x := x) (y := nI n)
  rcases h with h | h
  · rw [decide_eq_false (Int32.not_le.mpr h)] at k
    exact k
  · rw [decide_eq_false (Int32.not_lt.mpr h), Bool.and_false] at k
    exact k
theorem x_yes {w : Wd} {j n : Nat} (hn : n < 2 ^ 31) (h : j < n) : Cl 1 jX_isWithin [vI (nI j), vI (nI n)] w (some (vI (bI true)), w) := by
  have k := x_within (w := w) (x := nI j) (y := nI n)
  rw [decide_eq_true (nI_pos' (by omega)), decide_eq_true (nI_lt h hn)] at k
  exact k
theorem m_in {w : Wd} {x y z : Int32} : Cl 1 jM_in [vI x, vI y, vI z] w (some (vI (bI (decide (y ≤ x) && decide (x ≤ z)))), w) := by
  refine Cl.of rfl rfl rfl (lc := [some (vI x), some (vI y), some (vI z)]) rfl ?_
  refine Rn.if2 60 rfl rfl (fun h => ?_) (fun h => ?_)
  · dsimp only [tm_c2P] at h
    rw [decide_eq_false (Int32.not_le.mpr h)]
    exact Rn.zr 60 rfl rfl rfl (by decide) rfl
  · dsimp only [tm_c2P] at h
    rw [decide_eq_true (Int32.not_lt.mp h)]
    refine Rn.if2 60 rfl rfl (fun h2 => ?_) (fun h2 => ?_)
    · dsimp only [tm_c2P] at h2
      rw [decide_eq_false (Int32.not_le.mpr h2)]
      exact Rn.zr 60 rfl rfl rfl (by decide) rfl
    · dsimp only [tm_c2P] at h2
      rw [decide_eq_true (Int32.not_lt.mp h2)]
      exact Rn.zr 60 rfl rfl rfl (by decide) rfl
theorem nI_lt1 {x : Int32} {n : Nat} (hn : n + 1 < 2 ^ 31) (h : nI (n + 1) ≤ x) : nI n < x := Int32.lt_of_lt_of_le (nI_lt (Nat.lt_succ_self n) hn) h
theorem m_no {w : Wd} {x : Int32} {n : Nat} (hn : n + 1 < 2 ^ 31) (h : x < 0 ∨ nI (n + 1) ≤ x) : Cl 1 jM_in [vI x, vI (nI 0), vI (nI n)] w (some (vI (bI false)), w) := by
  have k := m_in (w := w) (x := x) (y := nI 0) (z := nI n)
  rcases h with h | h
  · rw [decide_eq_false (show ¬ nI 0 ≤ x from Int32.not_le.mpr h)] at k
    exact k
  · rw [decide_eq_false (Int32.not_le.mpr (nI_lt1 hn h)), Bool.and_false] at k
    exact k
theorem m_yes {w : Wd} {j n : Nat} (hn : n < 2 ^ 31) (h : j ≤ n) : Cl 1 jM_in [vI (nI j), vI (nI 0), vI (nI n)] w (some (vI (bI true)), w) := by
  have k := m_in (w := w) (x := nI j) (y := nI 0) (z := nI n)
  rw [decide_eq_true (show nI 0 ≤ nI j from nI_pos' (by omega)), decide_eq_true (nI_le h hn)] at k
  exact k
theorem x_found {w : Wd} {x : Int32} : Cl 1 jX_found [vR (sg 0), vI x] w (some (vI (-(nI 1000010) - x)), wset w (sg 0) 8 x) := by
  refine Cl.of rfl rfl rfl (lc := [some (vR (sg 0)), some (vI x)]) rfl ?_
  exact Rn.ir 60 rfl rfl rfl rfl
theorem x_clean {w : Wd} {x : Int32} : Cl 1 jX_clean [vR (sg 0), vI x] w (some (vI x), wset w (sg 0) 8 (nI 0)) := by
  refine Cl.of rfl rfl rfl (lc := [some (vR (sg 0)), some (vI x)]) rfl ?_
  exact Rn.ir 60 rfl rfl rfl rfl
theorem m_finds {w : Wd} {x : Int32} : Cl 1 jM_finds [vR (sg 13), vI x] w (some (vI (-(nI 1000010) - x)), wset w (sg 13) 3 x) := by
  refine Cl.of rfl rfl rfl (lc := [some (vR (sg 13)), some (vI x)]) rfl ?_
  exact Rn.ir 60 rfl rfl rfl rfl
theorem m_well {w : Wd} {x : Int32} : Cl 1 jM_well [vR (sg 13), vI x] w (some (vI x), wset w (sg 13) 3 (nI 0)) := by
  refine Cl.of rfl rfl rfl (lc := [some (vR (sg 13)), some (vI x)]) rfl ?_
  exact Rn.ir 60 rfl rfl rfl rfl
theorem m_isRow_no {w : Wd} {x : Int32} (h : x < 0 ∨ nI 8 ≤ x) : Cl 2 jM_isRow [vI x] w (some (vI (bI false)), w) := by
  refine Cl.of rfl rfl rfl (lc := [some (vI x)]) rfl ?_
  refine Rn.cs 60 rfl rfl rfl rfl (m_no (n := 7) (by decide) h) (by decide) ?_
  exact Rn.zr 60 rfl rfl rfl (by decide) rfl
theorem m_isRow_yes {w : Wd} {j : Nat} (h : j < 8) : Cl 2 jM_isRow [vI (nI j)] w (some (vI (bI true)), w) := by
  refine Cl.of rfl rfl rfl (lc := [some (vI (nI j))]) rfl ?_
  refine Rn.cs 60 rfl rfl rfl rfl (m_yes (n := 7) (by decide) (by omega)) (by decide) ?_
  exact Rn.zr 60 rfl rfl rfl (by decide) rfl
/-- nothing was done: both answer alike -/
theorem op_same {jx jm : Nat} {as : List AV} {w : Wd} {v : Int32} (hi : Inv w) (h1 : Cl 20 jx (vR (sg 0) :: as) w (some (vI v), w)) (h2 : Cl 20 jm (vR (sg 13) :: as) w (some (vI v), w)) : ∃ w1 w2 v, Cl 20 jx (vR (sg 0) :: as) w (some (vI v), w1) ∧ Cl 20 jm (vR (sg 13) :: as) w1 (some (vI v), w2) ∧ Inv w2 := ⟨w, w, v, h1, h2, hi⟩
theorem Inv.fin {w : Wd} {x : Int32} (h : Inv w) : Inv (wset (wset w (sg 0) 8 x) (sg 13) 3 x) := by
  have e : ∀ n, n ≠ 0 → Same n w (wset (wset w (sg 0) 8 x) (sg 13) 3 x) := fun n hn => (Same.set (fun z => hn z.symm)).tr (Same.set (fun z => hn z.symm))
  refine ⟨?_, h.2.1.same (e 1 (by decide)), h.2.2.1.same (e 2 (by decide)), h.2.2.2.1.same (e 3 (by decide)), h.2.2.2.2.1.same (e 4 (by decide)), h.2.2.2.2.2.same (e 5 (by decide))⟩
  show wset (wset w (sg 0) 8 x) (sg 13) 3 x (sg 0) 8 = wset (wset w (sg 0) 8 x) (sg 13) 3 x (sg 13) 3
  rw [wset_s, wset_ne (by decide), wset_s]
/-- a finding: told by both -/
theorem op_found {jx jm : Nat} {as : List AV} {w : Wd} {v x : Int32} (hi : Inv w) (h1 : Cl 20 jx (vR (sg 0) :: as) w (some (vI v), wset w (sg 0) 8 x)) (h2 : Cl 20 jm (vR (sg 13) :: as) (wset w (sg 0) 8 x) (some (vI v), wset (wset w (sg 0) 8 x) (sg 13) 3 x)) : ∃ w1 w2 v, Cl 20 jx (vR (sg 0) :: as) w (some (vI v), w1) ∧ Cl 20 jm (vR (sg 13) :: as) w1 (some (vI v), w2) ∧ Inv w2 := ⟨_, _, v, h1, h2, hi.fin⟩
