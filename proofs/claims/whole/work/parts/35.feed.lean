/-! status, fault, feed -/
theorem op_status : Op jX_status jM_status [] := by
  intro w hi
  refine op_same hi (v := w (sg 0) 8) ?_ ?_
  · refine Cl.of rfl rfl rfl (lc := [some (vR (sg 0))]) rfl ?_
    exact Rn.ir 60 rfl rfl rfl rfl
  · refine Cl.of rfl rfl rfl (lc := [some (vR (sg 13))]) rfl ?_
    rw [hi.1]
    exact Rn.ir 60 rfl rfl rfl rfl
theorem op_fault : Op jX_fault jM_fault [] := by
  intro w hi
  refine op_same hi (v := w (sg 2) 2) ?_ ?_
  · refine Cl.of rfl rfl rfl (lc := [some (vR (sg 0))]) rfl ?_
    exact Rn.ir 60 rfl rfl rfl rfl
  · refine Cl.of rfl rfl rfl (lc := [some (vR (sg 13))]) rfl ?_
    rw [hi.2.2.1.1]
    exact Rn.ir 60 rfl rfl rfl rfl
theorem Inv.tape {w w' : Wd} (h : Inv w) (ht : TapI w') (e : ∀ n, n ≠ 2 → n ≠ 9 → Same n w w') : Inv w' := ⟨h.1.same (e 0 (by decide) (by decide)), h.2.1.same (e 1 (by decide) (by decide)), ht, h.2.2.2.1.same (e 3 (by decide) (by decide)), h.2.2.2.2.1.same (e 4 (by decide) (by decide)), h.2.2.2.2.2.same (e 5 (by decide) (by decide))⟩
theorem sp_add {w : Wd} {n : Nat} {x : Int32} (h : w (sg 2) 1 = nI n) (hn : n < 160) : Cl 1 jT_add [vR (sg 2), vI x] w (some (vI (bI true)), wset (wset w (sg 3) n x) (sg 2) 1 (nI (n + 1))) := by
  refine Cl.of rfl rfl rfl (lc := [some (vR (sg 2)), some (vI x)]) rfl ?_
  refine Rn.if2t 60 rfl rfl (by dsimp only [tm_c2P]; rw [h]; exact nI_lt hn (by decide)) ?_
  refine Rn.as 60 rfl rfl rfl h hn ?_
  refine Rn.zr 60 rfl rfl rfl (by decide) ?_
  rw [wset_ne (show sg 2 ≠ sg 3 by decide), h]
  dsimp only
  rw [nI_add]
  rfl
theorem op_feed {x : Int32} : Op jX_feed jM_feed [vI x] := by
  intro w hi
  rcases pk_or (x := x) (n := 256) (by decide) with h1 | ⟨v, hv, rfl⟩
  · refine op_same hi (v := -(nI 1000001)) ?_ ?_
    · refine Cl.of rfl rfl rfl (lc := [some (vR (sg 0)), some (vI x)]) rfl ?_
      refine Rn.if1 60 rfl rfl (fun _ => Rn.ir 60 rfl rfl rfl rfl) (fun h2 => ?_)
      refine Rn.if2f 60 rfl rfl (Int32.not_le.mpr (nI_lt1 (n := 255) (by decide) (h1.resolve_left h2))) ?_
      exact Rn.ir 60 rfl rfl rfl rfl
    · refine Cl.of rfl rfl rfl (lc := [some (vR (sg 13)), some (vI x)]) rfl ?_
      refine Rn.cs 60 rfl rfl rfl rfl (m_no (n := 255) (by decide) h1) (by decide) ?_
      refine Rn.if1f 60 rfl rfl (by dsimp only [tm_c2P]; decide) ?_
      exact Rn.ir 60 rfl rfl rfl rfl
  obtain ⟨g0, n, g1, g2, g3, g4⟩ := hi.2.2.1
  have cx : ∀ {r0 : Rs}, Rn none 19 jX_feed (14, [some (vR (sg 0)), some (vI (nI v))], [], w) r0 → Cl 20 jX_feed [vR (sg 0), vI (nI v)] w r0 := by
    intro r0 k
    refine Cl.of rfl rfl rfl (lc := [some (vR (sg 0)), some (vI (nI v))]) rfl ?_
    refine Rn.if1f 60 rfl rfl (nI_pos (by omega)) ?_
    exact Rn.if2t 60 rfl rfl (nI_le (by omega) (by decide)) k
  have cm : ∀ {w : Wd} {r0 : Rs}, Rn none 19 jM_feed (14, [some (vR (sg 13)), some (vI (nI v))], [], w) r0 → Cl 20 jM_feed [vR (sg 13), vI (nI v)] w r0 := by
    intro w r0 k
    refine Cl.of rfl rfl rfl (lc := [some (vR (sg 13)), some (vI (nI v))]) rfl ?_
    refine Rn.cs 60 rfl rfl rfl rfl (m_yes (n := 255) (by decide) (by omega)) (by decide) ?_
    exact Rn.if1t 60 rfl rfl (by dsimp only [tm_c2P]; decide) k
  by_cases hn : n = 160
  · subst hn
    refine op_same hi (v := -(nI 1000003)) (cx ?_) (cm ?_)
    · have ha : Cl 1 jT_add [vR (sg 2), vI (nI v)] w (some (vI (bI false)), w) := by
        refine Cl.of rfl rfl rfl (lc := [some (vR (sg 2)), some (vI (nI v))]) rfl ?_
        refine Rn.if2f 60 rfl rfl (by dsimp only [tm_c2P]; rw [g2]; decide) ?_
        exact Rn.zr 60 rfl rfl rfl (by decide) rfl
      refine Rn.cv 60 rfl rfl rfl rfl rfl ha (by decide) ?_
      refine Rn.if1t 60 rfl rfl (by dsimp only [tm_c2P]; decide) ?_
      exact Rn.ir 60 rfl rfl rfl rfl
    · refine Rn.if2f 60 rfl rfl (by dsimp only [tm_c2P]; rw [g3]; decide) ?_
      exact Rn.ir 60 rfl rfl rfl rfl
  · refine ⟨wset (wset w (sg 3) n (nI v)) (sg 2) 1 (nI (n + 1)), wset (wset (wset (wset w (sg 3) n (nI v)) (sg 2) 1 (nI (n + 1))) (sg 20) n (vp_nar .byte ((nI v).toInt8.toInt32))) (sg 13) 10 (nI (n + 1)), nI (n + 1), cx ?_, cm ?_, ?_⟩
    · refine Rn.cv 60 rfl rfl rfl rfl rfl (sp_add g2 (by omega)) (by decide) ?_
      refine Rn.if1f 60 rfl rfl (by dsimp only [tm_c2P]; decide) ?_
      refine Rn.ir 60 rfl rfl rfl ?_
      rw [wset_s]
    · have e10 : wset (wset w (sg 3) n (nI v)) (sg 2) 1 (nI (n + 1)) (sg 13) 10 = nI n := by rw [wset_ne (by decide), wset_ne (by decide), g3]
      refine Rn.if2t 60 rfl rfl (by dsimp only [tm_c2P]; rw [e10, nI_eq (by omega) (by decide)]; exact hn) ?_
      refine Rn.bas 60 (y := 1) rfl rfl rfl e10 (by omega) ?_
      refine Rn.ir 60 rfl rfl rfl ?_
      rw [wset_s, wset_ne (show sg 13 ≠ sg 20 by decide), e10]
      dsimp only
      rw [nI_add]
      rfl
    · have hnar : ∀ v, v < 256 → vp_nar .byte ((nI v).toInt8.toInt32) = vp_nar .byte (nI v) := by decide +kernel
      refine hi.tape ⟨?_, n + 1, by omega, ?_, wset_s, fun i hin => ?_⟩ (fun m m2 m9 => ?_)
      · rw [wset_ne (by decide), wset_ne (by decide), wset_k (by decide), wset_ne (by decide), wset_k (by decide), wset_ne (by decide), wset_ne (by decide), wset_ne (by decide)]
        exact g0
      · rw [wset_ne (by decide), wset_ne (by decide), wset_s]
      · rw [wset_ne (u := sg 3) (t := sg 13) (by decide), wset_ne (u := sg 3) (t := sg 20) (by decide), wset_ne (u := sg 3) (t := sg 2) (by decide), wset_ne (u := sg 20) (t := sg 13) (by decide)]
        by_cases e : i = n
        · subst e
          exact ⟨v, hv, wset_s, by rw [wset_s]; exact hnar v hv⟩
        · rw [wset_k e, wset_k e, wset_ne (by decide), wset_ne (by decide)]
          exact g4 i (by omega)
      · refine (((Same.set ?_).tr (Same.set ?_)).tr (Same.set ?_)).tr (Same.set ?_)
        all_goals exact fun z => m2 z.symm
