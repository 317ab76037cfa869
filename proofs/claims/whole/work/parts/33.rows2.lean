/-! set, drop -/
theorem pk_or {x : Int32} {n : Nat} (hn : n < 2 ^ 31) : (x < 0 ∨ nI n ≤ x) ∨ ∃ j, j < n ∧ x = nI j := by
  rcases pk_ix x hn with h | h | h
  · exact Or.inl (Or.inl h)
  · exact Or.inl (Or.inr h)
  · exact Or.inr h
def cuN (l : Nat) (v : Int32) : Int32 := if l = 0 then v.toInt8.toInt32 else if l = 1 then v.toInt16.toInt32 else v
theorem sp_cut {w : Wd} {r : Fin 8} {l : Nat} {v : Int32} (hl : l ≤ 2) (h : w (rw_ r 0) 2 = nI l) : Cl 1 jR_cut [vR (rw_ r 0), vI v] w (some (vI (cuN l v)), w) := by
  refine Cl.of rfl rfl rfl (lc := [some (vR (rw_ r 0)), some (vI v)]) rfl ?_
  rcases (by omega : l = 0 ∨ l = 1 ∨ l = 2) with rfl | rfl | rfl
  · refine Rn.lsw 60 (t := 32) rfl rfl (by rw [h]; rfl) ?_
    exact Rn.ir 60 rfl rfl rfl rfl
  · refine Rn.lsw 60 (t := 35) rfl rfl (by rw [h]; rfl) ?_
    exact Rn.ir 60 rfl rfl rfl rfl
  · refine Rn.lsw 60 (t := 38) rfl rfl (by rw [h]; rfl) ?_
    exact Rn.ir 60 rfl rfl rfl rfl
theorem op_set {x y z : Int32} : Op jX_set jM_set [vI x, vI y, vI z] := by
  intro w hi
  rcases pk_or (x := x) (n := 8) (by decide) with h1 | ⟨r, hr, rfl⟩
  · refine op_same hi (v := -(nI 1000001)) ?_ ?_
    · refine Cl.of rfl rfl rfl (lc := [some (vR (sg 0)), some (vI x), some (vI y), some (vI z), none]) rfl ?_
      refine Rn.cs 60 rfl rfl rfl rfl (x_no (by decide) h1) (by decide) ?_
      refine Rn.if1f 60 rfl rfl (by dsimp only [tm_c2P]; decide) ?_
      exact Rn.ir 60 rfl rfl rfl rfl
    · refine Cl.of rfl rfl rfl (lc := [some (vR (sg 13)), some (vI x), some (vI y), some (vI z), none]) rfl ?_
      refine Rn.cs 60 rfl rfl rfl rfl (m_isRow_no h1) (by decide) ?_
      refine Rn.if1f 60 rfl rfl (by dsimp only [tm_c2P]; decide) ?_
      exact Rn.ir 60 rfl rfl rfl rfl
  have cx : ∀ {w : Wd} {r0 : Rs}, Rn none 19 jX_set (20, [some (vR (sg 0)), some (vI (nI r)), some (vI y), some (vI z), some (vR (rw_ (Fin.ofNat 8 r) 0))], [], w) r0 → Cl 20 jX_set [vR (sg 0), vI (nI r), vI y, vI z] w r0 := by
    intro w r0 k
    refine Cl.of rfl rfl rfl (lc := [some (vR (sg 0)), some (vI (nI r)), some (vI y), some (vI z), none]) rfl ?_
    refine Rn.cs 60 rfl rfl rfl rfl (x_yes (by decide) hr) (by decide) ?_
    refine Rn.if1t 60 rfl rfl (by dsimp only [tm_c2P]; decide) ?_
    refine Rn.row 60 rfl rfl rfl hr ?_
    exact Rn.at 1 rfl k
  have cm : ∀ {w : Wd} {r0 : Rs}, Rn none 19 jM_set (16, [some (vR (sg 13)), some (vI (nI r)), some (vI y), some (vI z), none], [vI (w (sg 14) r)], w) r0 → Cl 20 jM_set [vR (sg 13), vI (nI r), vI y, vI z] w r0 := by
    intro w r0 k
    refine Cl.of rfl rfl rfl (lc := [some (vR (sg 13)), some (vI (nI r)), some (vI y), some (vI z), none]) rfl ?_
    refine Rn.cs 60 rfl rfl rfl rfl (m_isRow_yes hr) (by decide) ?_
    refine Rn.if1t 60 rfl rfl (by dsimp only [tm_c2P]; decide) ?_
    exact Rn.al 60 rfl rfl rfl rfl hr k
  rcases hi.2.1 r hr with ⟨g1, g2⟩ | ⟨g1, l, n, hl, hn, g2, g3, g4, g5, g6⟩
  · refine op_found hi (x := nI 1) (v := -(nI 1000010) - nI 1) (cx ?_) (cm ?_)
    · refine Rn.if1f 60 rfl rfl (by rw [g1]; dsimp only [tm_c2P]; decide) ?_
      refine Rn.cv 60 rfl rfl rfl rfl rfl x_found (by decide) ?_
      exact Rn.ir 60 rfl rfl rfl rfl
    · rw [wset_ne (show sg 14 ≠ sg 0 by decide), g2]
      refine Rn.if1f 60 rfl rfl (by dsimp only [tm_c2P]; decide) ?_
      refine Rn.cv 60 rfl rfl rfl rfl rfl m_finds (by decide) ?_
      exact Rn.ir 60 rfl rfl rfl rfl
  have g0 : ¬ nI (l + 1) = 0 := nI_ne0 (by omega) (by omega)
  rcases pk_or (x := y) (n := n) (by omega) with h1 | ⟨i, hin, rfl⟩
  · refine op_found hi (x := nI 2) (v := -(nI 1000010) - nI 2) (cx ?_) (cm ?_)
    · refine Rn.if1t 60 rfl rfl (by rw [g1]; dsimp only [tm_c2P]; decide) ?_
      refine Rn.cs 60 rfl rfl rfl rfl (by rw [g4]; exact x_no (by omega) h1) (by decide) ?_
      refine Rn.if1f 60 rfl rfl (by dsimp only [tm_c2P]; decide) ?_
      refine Rn.cv 60 rfl rfl rfl rfl rfl x_found (by decide) ?_
      exact Rn.ir 60 rfl rfl rfl rfl
    · rw [wset_ne (show sg 14 ≠ sg 0 by decide), g3]
      refine Rn.if1t 60 rfl rfl g0 ?_
      refine Rn.al 60 rfl rfl rfl rfl hr ?_
      have hs : Cl 1 jM_in [vI y, vI (nI 0), vI (nI n - nI 1)] (wset w (sg 0) 8 (nI 2)) (some (vI (bI false)), wset w (sg 0) 8 (nI 2)) := by
        rcases Nat.eq_zero_or_pos n with h0 | h0
        · subst h0
          have k := m_in (w := wset w (sg 0) 8 (nI 2)) (x := y) (y := nI 0) (z := nI 0 - nI 1)
          rcases h1 with h1 | h1
          · rw [decide_eq_false (show ¬ nI 0 ≤ y from Int32.not_le.mpr h1)] at k
            exact k
          · rw [decide_eq_false (show ¬ y ≤ nI 0 - nI 1 from fun z => absurd (Int32.le_trans h1 z) (by decide)), Bool.and_false] at k
            exact k
        · rw [pk_sub (by omega)]
          exact m_no (by omega) (by rw [show n - 1 + 1 = n by omega]; exact h1)
      refine Rn.cs 60 rfl rfl rfl rfl (by rw [wset_ne (show sg 15 ≠ sg 0 by decide), g5]; exact hs) (by decide) ?_
      refine Rn.if1f 60 rfl rfl (by dsimp only [tm_c2P]; decide) ?_
      refine Rn.cv 60 rfl rfl rfl rfl rfl m_finds (by decide) ?_
      exact Rn.ir 60 rfl rfl rfl rfl
  refine ⟨wset (wset w (rw_ (Fin.ofNat 8 r) 1) i (cuN l z)) (sg 0) 8 (nI 0), wset (wset (wset (wset w (rw_ (Fin.ofNat 8 r) 1) i (cuN l z)) (sg 0) 8 (nI 0)) (sg 16) (40 * r + i) (cuN l z)) (sg 13) 3 (nI 0), cuN l z, cx ?_, cm ?_, ?_⟩
  · refine Rn.if1t 60 rfl rfl (by rw [g1]; dsimp only [tm_c2P]; decide) ?_
    refine Rn.cs 60 rfl rfl rfl rfl (by rw [g4]; exact x_yes (by omega) hin) (by decide) ?_
    refine Rn.if1t 60 rfl rfl (by dsimp only [tm_c2P]; decide) ?_
    refine Rn.cv 60 rfl rfl rfl rfl rfl (sp_cut hl g2) (by decide) ?_
    refine Rn.as 60 rfl rfl rfl rfl (by omega) ?_
    refine Rn.al 60 rfl rfl rfl rfl (by omega) ?_
    refine Rn.cv 60 rfl rfl rfl rfl rfl x_clean (by decide) ?_
    rw [wset_s]
    exact Rn.ir 60 rfl rfl rfl rfl
  · have e14 : wset (wset w (rw_ (Fin.ofNat 8 r) 1) i (cuN l z)) (sg 0) 8 (nI 0) (sg 14) r = nI (l + 1) := by rw [wset_ne (by decide), wset_ne sg_rw, g3]
    have e15 : wset (wset w (rw_ (Fin.ofNat 8 r) 1) i (cuN l z)) (sg 0) 8 (nI 0) (sg 15) r = nI n := by rw [wset_ne (by decide), wset_ne sg_rw, g5]
    rw [e14]
    refine Rn.if1t 60 rfl rfl g0 ?_
    refine Rn.al 60 rfl rfl rfl rfl hr ?_
    refine Rn.cs 60 rfl rfl rfl rfl (by rw [e15]; dsimp only; rw [pk_sub (by omega)]; exact m_yes (by omega) (by omega)) (by decide) ?_
    refine Rn.if1t 60 rfl rfl (by dsimp only [tm_c2P]; decide) ?_
    refine Rn.al 60 rfl rfl rfl rfl hr ?_
    rw [e14]
    have fin : ∀ {w : Wd}, Rn none 19 jM_set (78, [some (vR (sg 13)), some (vI (nI r)), some (vI (nI i)), some (vI z), none], [vI (cuN l z)], w) (some (vI (cuN l z)), wset (wset w (sg 16) (40 * r + i) (cuN l z)) (sg 13) 3 (nI 0)) := by
      intro w
      refine Rn.as 60 (j := 40 * r + i) rfl rfl rfl (by dsimp only; rw [pk_mul, nI_add]) (by omega) ?_
      refine Rn.cv 60 rfl rfl rfl rfl rfl m_well (by decide) ?_
      exact Rn.ir 60 rfl rfl rfl rfl
    rcases (by omega : l = 0 ∨ l = 1 ∨ l = 2) with rfl | rfl | rfl
    · refine Rn.if2f 60 rfl rfl (by dsimp only [tm_c2P]; decide) ?_
      exact Rn.at 3 rfl fin
    · refine Rn.if2t 60 rfl rfl (by dsimp only [tm_c2P]; decide) ?_
      refine Rn.al 60 rfl rfl rfl rfl hr ?_
      rw [e14]
      refine Rn.if2f 60 rfl rfl (by dsimp only [tm_c2P]; decide) ?_
      exact Rn.at 3 rfl fin
    · refine Rn.if2t 60 rfl rfl (by dsimp only [tm_c2P]; decide) ?_
      refine Rn.al 60 rfl rfl rfl rfl hr ?_
      rw [e14]
      refine Rn.if2t 60 rfl rfl (by dsimp only [tm_c2P]; decide) ?_
      exact Rn.at 1 rfl fin
  · refine hi.row ?_ (fun r' hr' => ?_) (fun m n0 n1 => ?_)
    · unfold FinI
      rw [wset_s, wset_ne (by decide), wset_ne (by decide), wset_s]
    · by_cases e : r' = r
      · subst e
        refine Or.inr ⟨?_, l, n, hl, hn, ?_, ?_, ?_, ?_, fun j hj => ?_⟩
        · rw [wset_ne rw_sg, wset_ne rw_sg, wset_ne rw_sg, wset_ne (rw_p (by decide)), g1]
        · rw [wset_ne rw_sg, wset_ne rw_sg, wset_ne rw_sg, wset_ne (rw_p (by decide)), g2]
        · rw [wset_ne (by decide), wset_ne (by decide), wset_ne (by decide), wset_ne sg_rw, g3]
        · rw [wset_ne rw_sg, wset_ne rw_sg, wset_ne rw_sg, wset_ne (rw_p (by decide)), g4]
        · rw [wset_ne (by decide), wset_ne (by decide), wset_ne (by decide), wset_ne sg_rw, g5]
        · rw [wset_ne rw_sg, wset_ne rw_sg, wset_ne rw_sg, wset_ne (u := sg 16) (t := sg 13) (by decide)]
          by_cases ej : j = i
          · subst ej
            rw [wset_s, wset_s]
          · rw [wset_k ej, wset_k (by omega), wset_ne (u := sg 16) (t := sg 0) (by decide), wset_ne sg_rw, g6 j hj]
      · refine (hi.2.1 r' hr').of (fun p => ?_) ?_ ?_ (fun j hj => ?_)
        · rw [wset_ne rw_sg, wset_ne rw_sg, wset_ne rw_sg, wset_ne (rw_ne hr' hr e)]
        · rw [wset_ne (by decide), wset_ne (by decide), wset_ne (by decide), wset_ne sg_rw]
        · rw [wset_ne (by decide), wset_ne (by decide), wset_ne (by decide), wset_ne sg_rw]
        · rw [wset_ne (by decide), wset_k (by omega), wset_ne (by decide), wset_ne sg_rw]
    · refine (((Same.set ?_).tr (Same.set ?_)).tr (Same.set ?_)).tr (Same.set ?_)
      all_goals first | exact fun z => n1 z.symm | exact fun z => n0 z.symm
theorem op_drop {x : Int32} : Op jX_drop jM_drop [vI x] := by
  intro w hi
  rcases pk_or (x := x) (n := 8) (by decide) with h1 | ⟨r, hr, rfl⟩
  · refine op_same hi (v := -(nI 1000001)) ?_ ?_
    · refine Cl.of rfl rfl rfl (lc := [some (vR (sg 0)), some (vI x), none]) rfl ?_
      refine Rn.cs 60 rfl rfl rfl rfl (x_no (by decide) h1) (by decide) ?_
      refine Rn.if1f 60 rfl rfl (by dsimp only [tm_c2P]; decide) ?_
      exact Rn.ir 60 rfl rfl rfl rfl
    · refine Cl.of rfl rfl rfl (lc := [some (vR (sg 13)), some (vI x)]) rfl ?_
      refine Rn.cs 60 rfl rfl rfl rfl (m_isRow_no h1) (by decide) ?_
      refine Rn.if1f 60 rfl rfl (by dsimp only [tm_c2P]; decide) ?_
      exact Rn.ir 60 rfl rfl rfl rfl
  have cx : ∀ {w : Wd} {r0 : Rs}, Rn none 19 jX_drop (19, [some (vR (sg 0)), some (vI (nI r)), some (vR (rw_ (Fin.ofNat 8 r) 0))], [], w) r0 → Cl 20 jX_drop [vR (sg 0), vI (nI r)] w r0 := by
    intro w r0 k
    refine Cl.of rfl rfl rfl (lc := [some (vR (sg 0)), some (vI (nI r)), none]) rfl ?_
    refine Rn.cs 60 rfl rfl rfl rfl (x_yes (by decide) hr) (by decide) ?_
    refine Rn.if1t 60 rfl rfl (by dsimp only [tm_c2P]; decide) ?_
    refine Rn.row 60 rfl rfl rfl hr ?_
    exact Rn.at 1 rfl k
  have cm : ∀ {w : Wd} {r0 : Rs}, Rn none 19 jM_drop (16, [some (vR (sg 13)), some (vI (nI r))], [vI (w (sg 14) r)], w) r0 → Cl 20 jM_drop [vR (sg 13), vI (nI r)] w r0 := by
    intro w r0 k
    refine Cl.of rfl rfl rfl (lc := [some (vR (sg 13)), some (vI (nI r))]) rfl ?_
    refine Rn.cs 60 rfl rfl rfl rfl (m_isRow_yes hr) (by decide) ?_
    refine Rn.if1t 60 rfl rfl (by dsimp only [tm_c2P]; decide) ?_
    exact Rn.al 60 rfl rfl rfl rfl hr k
  rcases hi.2.1 r hr with ⟨g1, g2⟩ | ⟨g1, l, n, hl, hn, g2, g3, g4, g5, g6⟩
  · refine op_found hi (x := nI 1) (v := -(nI 1000010) - nI 1) (cx ?_) (cm ?_)
    · refine Rn.if1f 60 rfl rfl (by rw [g1]; dsimp only [tm_c2P]; decide) ?_
      refine Rn.cv 60 rfl rfl rfl rfl rfl x_found (by decide) ?_
      exact Rn.ir 60 rfl rfl rfl rfl
    · rw [wset_ne (show sg 14 ≠ sg 0 by decide), g2]
      refine Rn.if1f 60 rfl rfl (by dsimp only [tm_c2P]; decide) ?_
      refine Rn.cv 60 rfl rfl rfl rfl rfl m_finds (by decide) ?_
      exact Rn.ir 60 rfl rfl rfl rfl
  refine ⟨wset (wset w (rw_ (Fin.ofNat 8 r) 0) 1 (nI 0)) (sg 0) 8 (nI 0), wset (wset (wset (wset w (rw_ (Fin.ofNat 8 r) 0) 1 (nI 0)) (sg 0) 8 (nI 0)) (sg 14) r (nI 0)) (sg 13) 3 (nI 0), nI n, cx ?_, cm ?_, ?_⟩
  · refine Rn.if1t 60 rfl rfl (by rw [g1]; dsimp only [tm_c2P]; decide) ?_
    refine Rn.cv 60 rfl rfl rfl rfl rfl x_clean (by decide) ?_
    rw [wset_k (by decide), g4]
    exact Rn.ir 60 rfl rfl rfl rfl
  · rw [wset_ne (show sg 14 ≠ sg 0 by decide), wset_ne sg_rw, g3]
    refine Rn.if1t 60 rfl rfl (nI_ne0 (by omega) (by omega)) ?_
    refine Rn.as 60 rfl rfl rfl rfl hr ?_
    refine Rn.al 60 rfl rfl rfl rfl hr ?_
    refine Rn.cv 60 rfl rfl rfl rfl rfl m_well (by decide) ?_
    rw [wset_ne (show sg 15 ≠ sg 14 by decide), wset_ne (show sg 15 ≠ sg 0 by decide), wset_ne sg_rw, g5]
    exact Rn.ir 60 rfl rfl rfl rfl
  · refine hi.row ?_ (fun r' hr' => ?_) (fun m n0 n1 => ?_)
    · unfold FinI
      rw [wset_s, wset_ne (by decide), wset_ne (by decide), wset_s]
    · by_cases e : r' = r
      · subst e
        refine Or.inl ⟨?_, ?_⟩
        · rw [wset_ne rw_sg, wset_ne rw_sg, wset_ne rw_sg, wset_s]
        · rw [wset_ne (by decide), wset_s]
      · refine (hi.2.1 r' hr').of (fun p => ?_) ?_ ?_ (fun j hj => ?_)
        · rw [wset_ne rw_sg, wset_ne rw_sg, wset_ne rw_sg, wset_ne (rw_ne hr' hr e)]
        · rw [wset_ne (by decide), wset_k e, wset_ne (by decide), wset_ne sg_rw]
        · rw [wset_ne (by decide), wset_ne (by decide), wset_ne (by decide), wset_ne sg_rw]
        · rw [wset_ne (by decide), wset_ne (by decide), wset_ne (by decide), wset_ne sg_rw]
    · refine (((Same.set ?_).tr (Same.set ?_)).tr (Same.set ?_)).tr (Same.set ?_)
      all_goals first | exact fun z => n1 z.symm | exact fun z => n0 z.symm
