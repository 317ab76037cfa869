/-! the rows: row, set, copy, drop -/
theorem RowI.of {w w' : Wd} {r : Nat} (h : RowI w r) (e1 : ∀ p, w' (rw_ (Fin.ofNat 8 r) p) = w (rw_ (Fin.ofNat 8 r) p)) (e14 : w' (sg 14) r = w (sg 14) r) (e15 : w' (sg 15) r = w (sg 15) r) (e16 : ∀ i, i < 40 → w' (sg 16) (40 * r + i) = w (sg 16) (40 * r + i)) : RowI w' r := by
  unfold RowI at *
  rw [e1, e14, e15, e1]
  rcases h with h | ⟨h1, l, n, h2, h3, h4, h5, h6, h7, h8⟩
  · exact Or.inl h
  · exact Or.inr ⟨h1, l, n, h2, h3, h4, h5, h6, h7, fun i hi => by rw [e16 i hi]; exact h8 i hi⟩
theorem Inv.row {w w' : Wd} (h : Inv w) (hf : FinI w') (hr : RowsI w') (e : ∀ n, n ≠ 0 → n ≠ 1 → Same n w w') : Inv w' := ⟨hf, hr, h.2.2.1.same (e 2 (by decide) (by decide)), h.2.2.2.1.same (e 3 (by decide) (by decide)), h.2.2.2.2.1.same (e 4 (by decide) (by decide)), h.2.2.2.2.2.same (e 5 (by decide) (by decide))⟩
theorem rw_ne {r r' : Nat} {p q : Nat} (h1 : r < 8) (h2 : r' < 8) (h : r ≠ r') : rw_ (Fin.ofNat 8 r) p ≠ rw_ (Fin.ofNat 8 r') q := by
  intro z
  have e : (Fin.ofNat 8 r : Fin 8) = Fin.ofNat 8 r' := by
    unfold rw_ at z
    injection z with z
    injection z with z
    exact congrArg Prod.fst z
  have e2 := congrArg Fin.val e
  simp [Fin.ofNat] at e2
  omega
theorem rw_sg {r : Fin 8} {p s : Nat} : rw_ r p ≠ sg s := fun z => by cases z
theorem sg_rw {r : Fin 8} {p s : Nat} : sg s ≠ rw_ r p := fun z => by cases z
theorem rw_p {r : Fin 8} {p q : Nat} (h : p ≠ q) : rw_ r p ≠ rw_ r q := fun z => h (by cases z; rfl)
/-- wset at a run of places -/
def flW (w : Wd) (t : TA) (b : Nat) (v : Nat → Int32) : Nat → Wd
  | 0 => w
  | n + 1 => wset (flW w t b v n) t (b + n) (v n)
theorem flW_in {w : Wd} {t : TA} {b : Nat} {v : Nat → Int32} : ∀ n i, i < n → flW w t b v n t (b + i) = v i
  | 0, i, h => absurd h (by omega)
  | n + 1, i, h => by
    unfold flW
    by_cases e : i = n
    · subst e
      exact wset_s
    · rw [wset_k (by omega)]
      exact flW_in n i (by omega)
theorem flW_out {w : Wd} {t : TA} {b : Nat} {v : Nat → Int32} : ∀ n k, (k < b ∨ b + n ≤ k) → flW w t b v n t k = w t k
  | 0, _, _ => rfl
  | n + 1, k, h => by
    unfold flW
    rw [wset_k (by omega)]
    exact flW_out n k (by omega)
theorem flW_ne {w : Wd} {t t' : TA} {b : Nat} {v : Nat → Int32} (h : t' ≠ t) : ∀ n, flW w t b v n t' = w t'
  | 0 => rfl
  | n + 1 => by
    unfold flW
    rw [wset_ne h]
    exact flW_ne h n
theorem flW_same {m : Nat} {w : Wd} {t : TA} {b : Nat} {v : Nat → Int32} (h : ∀ j, own t j ≠ m) : ∀ n, Same m w (flW w t b v n)
  | 0 => Same.rf
  | n + 1 => (flW_same h n).tr (Same.set (h _))
theorem sp_afill {w : Wd} {r : Fin 8} : Cl 1 jAr_fill [vR (rw_ r 1), vI (nI 0)] w (none, flW w (rw_ r 1) 0 (fun _ => nI 0) 40) := by
  have key : ∀ m i, i + m = 40 → Rn none 0 jAr_fill (5, [some (vR (rw_ r 1)), some (vI (nI 0)), some (vI (nI i)), some (vI (nI 40))], [], flW w (rw_ r 1) 0 (fun _ => nI 0) i) (none, flW w (rw_ r 1) 0 (fun _ => nI 0) 40) := by
    intro m
    induction m with
    | zero =>
      intro i hi
      obtain rfl : i = 40 := by omega
      refine Rn.if2t 60 rfl rfl (nI_le (by omega) (by omega)) ?_
      exact Rn.vr 60 rfl rfl rfl rfl
    | succ m ih =>
      intro i hi
      have k := ih (i + 1) (by omega)
      refine Rn.if2f 60 rfl rfl (nI_ge (by omega) (by omega)) ?_
      refine Rn.as 60 rfl rfl rfl rfl (by omega) ?_
      rw [nI_succ i] at k
      refine Rn.at 2 rfl ?_
      rw [show wset (flW w (rw_ r 1) 0 (fun _ => nI 0) i) (rw_ r 1) i (nI 0) = flW w (rw_ r 1) 0 (fun _ => nI 0) (i + 1) by rw [show flW w (rw_ r 1) 0 (fun _ => nI 0) (i + 1) = wset (flW w (rw_ r 1) 0 (fun _ => nI 0) i) (rw_ r 1) (0 + i) (nI 0) from rfl, Nat.zero_add]]
      exact k
  refine Cl.of rfl rfl rfl (lc := [some (vR (rw_ r 1)), some (vI (nI 0)), none, none]) rfl ?_
  exact Rn.at 5 rfl (key 40 0 (by omega))
def mkW (w : Wd) (r : Fin 8) (l n : Int32) : Wd := flW (wset (wset (wset w (rw_ r 0) 1 (nI 1)) (rw_ r 0) 2 l) (rw_ r 0) 3 n) (rw_ r 1) 0 (fun _ => nI 0) 40
theorem sp_make {w : Wd} {r : Fin 8} {l n : Int32} : Cl 2 jR_make [vR (rw_ r 0), vI l, vI n] w (none, mkW w r l n) := by
  refine Cl.of rfl rfl rfl (lc := [some (vR (rw_ r 0)), some (vI l), some (vI n)]) rfl ?_
  refine Rn.cs 60 rfl rfl rfl rfl sp_afill (by decide) ?_
  exact Rn.vr 60 rfl rfl rfl rfl
theorem m_rowfill {w : Wd} {r : Nat} (hr : r < 8) {a b : AV} {r0 : Rs} (k : Rn none 19 jM_row (80, [some (vR (sg 13)), some (vI (nI r)), some a, some b, some (vI (nI 40))], [], flW w (sg 16) (40 * r) (fun _ => nI 0) 40) r0) : Rn none 19 jM_row (54, [some (vR (sg 13)), some (vI (nI r)), some a, some b, some (vI (nI 0))], [], w) r0 := by
  have key : ∀ m i, i + m = 40 → Rn none 19 jM_row (54, [some (vR (sg 13)), some (vI (nI r)), some a, some b, some (vI (nI i))], [], flW w (sg 16) (40 * r) (fun _ => nI 0) i) r0 := by
    intro m
    induction m with
    | zero =>
      intro i hi
      obtain rfl : i = 40 := by omega
      exact Rn.if2t 60 rfl rfl (nI_le (by omega) (by omega)) k
    | succ m ih =>
      intro i hi
      have k := ih (i + 1) (by omega)
      refine Rn.if2f 60 rfl rfl (nI_ge (by omega) (by omega)) ?_
      refine Rn.as 60 (j := 40 * r + i) rfl rfl rfl (by dsimp only; rw [pk_mul, nI_add]) (by omega) ?_
      rw [nI_succ i] at k
      exact Rn.at 2 rfl k
  exact key 40 0 (by omega)
theorem op_row {x y z : Int32} : Op jX_row jM_row [vI x, vI y, vI z] := by
  intro w hi
  have bad : ∀ {w : Wd}, (x < 0 ∨ nI 8 ≤ x) ∨ (y < 0 ∨ nI 3 ≤ y) ∨ nI 40 < z → Cl 20 jX_row [vR (sg 0), vI x, vI y, vI z] w (some (vI (-(nI 1000001))), w) ∧ Cl 20 jM_row [vR (sg 13), vI x, vI y, vI z] w (some (vI (-(nI 1000001))), w) := by
    intro w h
    constructor
    · refine Cl.of rfl rfl rfl (lc := [some (vR (sg 0)), some (vI x), some (vI y), some (vI z)]) rfl ?_
      by_cases h1 : x < 0 ∨ nI 8 ≤ x
      · refine Rn.cs 60 rfl rfl rfl rfl (x_no (by decide) h1) (by decide) ?_
        refine Rn.if1t 60 rfl rfl (by dsimp only [tm_c2P]; decide) ?_
        exact Rn.ir 60 rfl rfl rfl rfl
      · obtain ⟨j, hj, rfl⟩ := ((pk_ix x (n := 8) (by decide)).resolve_left (fun z => h1 (Or.inl z))).resolve_left (fun z => h1 (Or.inr z))
        refine Rn.cs 60 rfl rfl rfl rfl (x_yes (by decide) hj) (by decide) ?_
        refine Rn.if1f 60 rfl rfl (by dsimp only [tm_c2P]; decide) ?_
        have h := h.resolve_left h1
        refine Rn.if1 60 rfl rfl (fun _ => Rn.ir 60 rfl rfl rfl rfl) (fun h2 => ?_)
        refine Rn.if2 60 rfl rfl (fun _ => Rn.ir 60 rfl rfl rfl rfl) (fun h3 => ?_)
        dsimp only [tm_c2P] at h2 h3
        have hz : nI 40 < z := h.resolve_left (fun q => q.elim h2 (fun q => h3 (nI_lt1 (n := 2) (by decide) q)))
        refine Rn.if2f 60 rfl rfl (Int32.not_le.mpr hz) ?_
        exact Rn.ir 60 rfl rfl rfl rfl
    · refine Cl.of rfl rfl rfl (lc := [some (vR (sg 13)), some (vI x), some (vI y), some (vI z), none]) rfl ?_
      by_cases h1 : x < 0 ∨ nI 8 ≤ x
      · refine Rn.cs 60 rfl rfl rfl rfl (m_isRow_no h1) (by decide) ?_
        refine Rn.if1t 60 rfl rfl (by dsimp only [tm_c2P]; decide) ?_
        exact Rn.ir 60 rfl rfl rfl rfl
      · obtain ⟨j, hj, rfl⟩ := ((pk_ix x (n := 8) (by decide)).resolve_left (fun z => h1 (Or.inl z))).resolve_left (fun z => h1 (Or.inr z))
        refine Rn.cs 60 rfl rfl rfl rfl (m_isRow_yes hj) (by decide) ?_
        refine Rn.if1f 60 rfl rfl (by dsimp only [tm_c2P]; decide) ?_
        have h := h.resolve_left h1
        by_cases h2 : y < 0 ∨ nI 3 ≤ y
        · refine Rn.cs 60 rfl rfl rfl rfl (m_no (n := 2) (by decide) h2) (by decide) ?_
          refine Rn.if1t 60 rfl rfl (by dsimp only [tm_c2P]; decide) ?_
          exact Rn.ir 60 rfl rfl rfl rfl
        · obtain ⟨l, hl, rfl⟩ := ((pk_ix y (n := 3) (by decide)).resolve_left (fun z => h2 (Or.inl z))).resolve_left (fun z => h2 (Or.inr z))
          refine Rn.cs 60 rfl rfl rfl rfl (m_yes (n := 2) (by decide) (by omega)) (by decide) ?_
          refine Rn.if1f 60 rfl rfl (by dsimp only [tm_c2P]; decide) ?_
          refine Rn.if2f 60 rfl rfl (Int32.not_le.mpr (h.resolve_left h2)) ?_
          exact Rn.ir 60 rfl rfl rfl rfl
  by_cases h1 : x < 0 ∨ nI 8 ≤ x
  · obtain ⟨a, b⟩ := bad (w := w) (Or.inl h1)
    exact op_same hi a b
  by_cases h2 : y < 0 ∨ nI 3 ≤ y
  · obtain ⟨a, b⟩ := bad (w := w) (Or.inr (Or.inl h2))
    exact op_same hi a b
  by_cases h3 : nI 40 < z
  · obtain ⟨a, b⟩ := bad (w := w) (Or.inr (Or.inr h3))
    exact op_same hi a b
  clear bad
  obtain ⟨r, hr, rfl⟩ := ((pk_ix x (n := 8) (by decide)).resolve_left (fun z => h1 (Or.inl z))).resolve_left (fun z => h1 (Or.inr z))
  obtain ⟨l, hl, rfl⟩ := ((pk_ix y (n := 3) (by decide)).resolve_left (fun z => h2 (Or.inl z))).resolve_left (fun z => h2 (Or.inr z))
  have cx : ∀ {w : Wd} {r0 : Rs}, Rn none 19 jX_row (27, [some (vR (sg 0)), some (vI (nI r)), some (vI (nI l)), some (vI z)], [], w) r0 → Cl 20 jX_row [vR (sg 0), vI (nI r), vI (nI l), vI z] w r0 := by
    intro w r0 k
    refine Cl.of rfl rfl rfl (lc := [some (vR (sg 0)), some (vI (nI r)), some (vI (nI l)), some (vI z)]) rfl ?_
    refine Rn.cs 60 rfl rfl rfl rfl (x_yes (by decide) hr) (by decide) ?_
    refine Rn.if1f 60 rfl rfl (by dsimp only [tm_c2P]; decide) ?_
    refine Rn.if1f 60 rfl rfl (nI_pos (by omega)) ?_
    refine Rn.if2f 60 rfl rfl (nI_nlt (by omega) (by omega)) ?_
    exact Rn.if2t 60 rfl rfl (Int32.not_lt.mp h3) k
  have cm : ∀ {w : Wd} {r0 : Rs}, Rn none 19 jM_row (25, [some (vR (sg 13)), some (vI (nI r)), some (vI (nI l)), some (vI z), none], [], w) r0 → Cl 20 jM_row [vR (sg 13), vI (nI r), vI (nI l), vI z] w r0 := by
    intro w r0 k
    refine Cl.of rfl rfl rfl (lc := [some (vR (sg 13)), some (vI (nI r)), some (vI (nI l)), some (vI z), none]) rfl ?_
    refine Rn.cs 60 rfl rfl rfl rfl (m_isRow_yes hr) (by decide) ?_
    refine Rn.if1f 60 rfl rfl (by dsimp only [tm_c2P]; decide) ?_
    refine Rn.cs 60 rfl rfl rfl rfl (m_yes (n := 2) (by decide) (by omega)) (by decide) ?_
    refine Rn.if1f 60 rfl rfl (by dsimp only [tm_c2P]; decide) ?_
    exact Rn.if2t 60 rfl rfl (Int32.not_lt.mp h3) k
  by_cases h4 : z < 0
  · refine op_found hi (x := nI 4) (v := -(nI 1000010) - nI 4) (cx ?_) (cm ?_)
    · refine Rn.if1f 60 rfl rfl (Int32.not_le.mpr h4) ?_
      refine Rn.cv 60 rfl rfl rfl rfl rfl x_found (by decide) ?_
      exact Rn.ir 60 rfl rfl rfl rfl
    · refine Rn.if1f 60 rfl rfl (Int32.not_le.mpr h4) ?_
      refine Rn.cv 60 rfl rfl rfl rfl rfl m_finds (by decide) ?_
      exact Rn.ir 60 rfl rfl rfl rfl
  · obtain ⟨n, hn, rfl⟩ := nI_of h4
    have hn40 : n ≤ 40 := by
      have := Int32.not_lt.mp h3
      rw [nJ_le hn (by decide)] at this
      exact this
    refine ⟨wset (mkW w (Fin.ofNat 8 r) (nI l) (nI n)) (sg 0) 8 (nI 0), wset (flW (wset (wset (wset (mkW w (Fin.ofNat 8 r) (nI l) (nI n)) (sg 0) 8 (nI 0)) (sg 14) r (nI l + nI 1)) (sg 15) r (nI n)) (sg 16) (40 * r) (fun _ => nI 0) 40) (sg 13) 3 (nI 0), nI n, cx ?_, cm ?_, ?_⟩
    · refine Rn.if1t 60 rfl rfl (nI_pos' hn) ?_
      refine Rn.row 60 rfl rfl rfl hr ?_
      refine Rn.cv 60 rfl rfl rfl rfl rfl sp_make (by decide) ?_
      refine Rn.cv 60 rfl rfl rfl rfl rfl x_clean (by decide) ?_
      exact Rn.ir 60 rfl rfl rfl rfl
    · refine Rn.if1t 60 rfl rfl (nI_pos' hn) ?_
      refine Rn.as 60 rfl rfl rfl rfl hr ?_
      refine Rn.as 60 rfl rfl rfl rfl hr ?_
      refine Rn.at 2 rfl (m_rowfill hr ?_)
      refine Rn.cv 60 rfl rfl rfl rfl rfl m_well (by decide) ?_
      exact Rn.ir 60 rfl rfl rfl rfl
    · refine hi.row ?_ (fun r' hr' => ?_) (fun n n0 n1 => ?_)
      · unfold FinI
        rw [wset_s, wset_ne (by decide), flW_ne (by decide), wset_ne (by decide), wset_ne (by decide), wset_s]
      · by_cases e : r' = r
        · subst e
          refine Or.inr ⟨?_, l, n, by omega, hn40, ?_, ?_, ?_, ?_, fun i hi => ?_⟩
          · rw [wset_ne rw_sg, flW_ne rw_sg, wset_ne rw_sg, wset_ne rw_sg, wset_ne rw_sg]
            unfold mkW
            rw [flW_ne (rw_p (by decide)), wset_k (by decide), wset_k (by decide), wset_s]
          · rw [wset_ne rw_sg, flW_ne rw_sg, wset_ne rw_sg, wset_ne rw_sg, wset_ne rw_sg]
            unfold mkW
            rw [flW_ne (rw_p (by decide)), wset_k (by decide), wset_s]
          · rw [wset_ne (by decide), flW_ne (by decide), wset_ne (by decide), wset_s, nI_add]
          · rw [wset_ne rw_sg, flW_ne rw_sg, wset_ne rw_sg, wset_ne rw_sg, wset_ne rw_sg]
            unfold mkW
            rw [flW_ne (rw_p (by decide)), wset_s]
          · rw [wset_ne (by decide), flW_ne (by decide), wset_s]
          · have a := flW_in (w := wset (wset (wset w (rw_ (Fin.ofNat 8 r') 0) 1 (nI 1)) (rw_ (Fin.ofNat 8 r') 0) 2 (nI l)) (rw_ (Fin.ofNat 8 r') 0) 3 (nI n)) (t := rw_ (Fin.ofNat 8 r') 1) (b := 0) (v := fun _ => nI 0) 40 i hi
            rw [Nat.zero_add] at a
            rw [wset_ne rw_sg, flW_ne rw_sg, wset_ne rw_sg, wset_ne rw_sg, wset_ne rw_sg, wset_ne (u := sg 16) (t := sg 13) (by decide), flW_in 40 i hi]
            unfold mkW
            exact a
        · refine (hi.2.1 r' hr').of (fun p => ?_) ?_ ?_ (fun i hi => ?_)
          · rw [wset_ne rw_sg, flW_ne rw_sg, wset_ne rw_sg, wset_ne rw_sg, wset_ne rw_sg]
            unfold mkW
            rw [flW_ne (rw_ne hr' hr e), wset_ne (rw_ne hr' hr e), wset_ne (rw_ne hr' hr e), wset_ne (rw_ne hr' hr e)]
          · rw [wset_ne (by decide), flW_ne (by decide), wset_ne (by decide), wset_k e, wset_ne (by decide)]
            unfold mkW
            rw [flW_ne sg_rw, wset_ne sg_rw, wset_ne sg_rw, wset_ne sg_rw]
          · rw [wset_ne (by decide), flW_ne (by decide), wset_k e, wset_ne (by decide), wset_ne (by decide)]
            unfold mkW
            rw [flW_ne sg_rw, wset_ne sg_rw, wset_ne sg_rw, wset_ne sg_rw]
          · rw [wset_ne (by decide), flW_out _ _ (by omega), wset_ne (by decide), wset_ne (by decide), wset_ne (by decide)]
            unfold mkW
            rw [flW_ne sg_rw, wset_ne sg_rw, wset_ne sg_rw, wset_ne sg_rw]
      · refine ((((((((Same.set ?_).tr (Same.set ?_)).tr (Same.set ?_)).tr (flW_same ?_ _)).tr (Same.set ?_)).tr (Same.set ?_)).tr (Same.set ?_)).tr (flW_same ?_ _)).tr (Same.set ?_)
        all_goals first | exact fun z => n1 z.symm | exact fun z => n0 z.symm | exact fun _ z => n1 z.symm
