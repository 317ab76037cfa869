/-! undo -/
theorem MaIs.cw {w : Wd} {b : Nat} {c : Nat → Nat} {nr ti o sp dy : Nat} {wf wf' : Nat → Nat} (h : MaIs w b c nr ti o sp dy wf) (e : ∀ p, p < c 4 → wf p = wf' p) : MaIs w b c nr ti o sp dy wf' := by
  obtain ⟨h1, h2, h3, h4, h5, h6, h7, h8, h9, h10⟩ := h
  exact ⟨h1, h2, h3, h4, h5, h6, h7, h8, h9, fun p hp => by rw [← e p hp]; exact h10 p hp⟩
def tbW (w : Wd) (m x o sp dy : Nat) : Wd := cpW (wset (wset (wset (wset (wset w (sg 5) 1 (nI x)) (sg 5) 0 (nI m)) (cit 0 0) 12 (nI o)) (cit 0 0) 13 (nI sp)) (cit 0 0) 14 (nI dy)) (sg 9) (cit 0 7) (x * 5) 0 5
theorem sp_takeBack {w : Wd} {c : Nat → Nat} {nr ti o sp dy m x : Nat} {wf : Nat → Nat} {S : Nat → Sn} (hc : PlOk c) (hci : CiIs w 0 c nr ti o sp dy wf) (hm : m < 24) (hx : x < 24) (h : AcC w (c 4) (m + 1) x S) : Cl 2 jA_takeBack [vR (sg 5), vR (cit 0 0)] w (some (vI (bI true)), tbW w m ((x + 23) % 24) (S m).1 (S m).2.1 (S m).2.2.1) ∧ AcC (tbW w m ((x + 23) % 24) (S m).1 (S m).2.1 (S m).2.2.1) (c 4) m ((x + 23) % 24) S ∧ CiIs (tbW w m ((x + 23) % 24) (S m).1 (S m).2.1 (S m).2.2.1) 0 c nr ti (S m).1 (S m).2.1 (S m).2.2.1 (S m).2.2.2 := by
  have hc4 := hc.2.2.1
  obtain ⟨h0, h1, h2⟩ := h
  obtain ⟨g1, g2, g3, g4⟩ := h2 m (by omega)
  have ej : (x + 24 - (m + 1) + m) % 24 = (x + 23) % 24 := by omega
  rw [ej] at g1 g2 g3 g4
  have hj : (x + 23) % 24 < 24 := Nat.mod_lt _ (by decide)
  generalize hjj : (x + 23) % 24 = j at *
  refine ⟨?_, ⟨?_, ?_, fun i hi => ?_⟩, ?_⟩
  · refine Cl.of rfl rfl rfl (lc := [some (vR (sg 5)), some (vR (cit 0 0))]) rfl ?_
    refine Rn.if1t 60 rfl rfl (by dsimp only [tm_c2P]; rw [h0]; exact nI_ne0 (by omega) (by omega)) ?_
    have ex : (nI x + nI 24 - nI 1) - (nI x + nI 24 - nI 1) / nI 24 * nI 24 = nI j := by
      rw [nI_add, pk_sub (by omega), pk_rem (by omega) (by decide) (by decide), show x + 24 - 1 = x + 23 by omega, hjj]
    have ek : wset w (sg 5) 1 (nI j) (sg 5) 0 - nI 1 = nI m := by
      rw [wset_k (by decide), h0, pk_sub (by omega)]
      rfl
    refine Rn.at 15 (x := (35, [some (vR (sg 5)), some (vR (cit 0 0))], [], wset (wset w (sg 5) 1 (nI j)) (sg 5) 0 (nI m))) (by rw [← ek, ← ex, ← h1]; rfl) ?_
    have n1 : ∀ {W : Wd} {k : Nat} {z : Int32}, W (sg 5) 1 = nI j → wset W (cit 0 0) k z (sg 5) 1 = nI j := fun hW => by rw [wset_ne sg_cit]; exact hW
    have n0 : wset (wset w (sg 5) 1 (nI j)) (sg 5) 0 (nI m) (sg 5) 1 = nI j := by rw [wset_k (by decide), wset_s]
    have r : ∀ s, s ≠ 5 → wset (wset w (sg 5) 1 (nI j)) (sg 5) 0 (nI m) (sg s) = w (sg s) := fun s hs => by rw [wset_ne (sg_ne hs), wset_ne (sg_ne hs)]
    refine Rn.al 60 rfl rfl rfl n0 hj ?_
    rw [r 6 (by decide), g1]
    refine Rn.al 60 rfl rfl rfl (n1 n0) hj ?_
    rw [wset_ne sg_cit, r 7 (by decide), g2]
    refine Rn.al 60 rfl rfl rfl (n1 (n1 n0)) hj ?_
    rw [wset_ne sg_cit, wset_ne sg_cit, r 8 (by decide), g3]
    have cp := cl_copy (w := wset (wset (wset (wset (wset w (sg 5) 1 (nI j)) (sg 5) 0 (nI m)) (cit 0 0) 12 (nI (S m).1)) (cit 0 0) 13 (nI (S m).2.1)) (cit 0 0) 14 (nI (S m).2.2.1)) (s := sg 9) (d := cit 0 7) (a := j * 5) (b := 0) (n := 5) (n0 := 120) (n1 := 5) rfl rfl (by omega) (by omega)
    rw [← pk_mul, ← n1 (k := 14) (z := nI (S m).2.2.1) (n1 (k := 13) (z := nI (S m).2.1) (n1 (k := 12) (z := nI (S m).1) n0))] at cp
    refine Rn.cs 60 rfl rfl rfl rfl cp (by decide) ?_
    exact Rn.zr 60 rfl rfl rfl (by decide) rfl
  · unfold tbW
    rw [cpW_ne sg_cit, wset_ne sg_cit, wset_ne sg_cit, wset_ne sg_cit, wset_s]
  · unfold tbW
    rw [cpW_ne sg_cit, wset_ne sg_cit, wset_ne sg_cit, wset_ne sg_cit, wset_k (by decide), wset_s]
  · obtain ⟨f1, f2, f3, f4⟩ := h2 i (by omega)
    rw [show (x + 24 - (m + 1) + i) % 24 = (j + 24 - m + i) % 24 by omega] at f1 f2 f3 f4
    have r : ∀ s, s ≠ 5 → tbW w m j (S m).1 (S m).2.1 (S m).2.2.1 (sg s) = w (sg s) := fun s hs => by
      unfold tbW
      rw [cpW_ne sg_cit, wset_ne sg_cit, wset_ne sg_cit, wset_ne sg_cit, wset_ne (sg_ne hs), wset_ne (sg_ne hs)]
    rw [r 6 (by decide), r 7 (by decide), r 8 (by decide), r 9 (by decide)]
    exact ⟨f1, f2, f3, f4⟩
  · obtain ⟨c1, ⟨d1, d2, d3, d4, d5, d6⟩, c3⟩ := hci
    have r0 : ∀ k, tbW w m j (S m).1 (S m).2.1 (S m).2.2.1 (cit 0 0) k = if k = 14 then nI (S m).2.2.1 else if k = 13 then nI (S m).2.1 else if k = 12 then nI (S m).1 else w (cit 0 0) k := by
      intro k
      unfold tbW
      rw [cpW_ne (cit_p (by decide))]
      by_cases e14 : k = 14
      · subst e14
        rw [wset_s, if_pos rfl]
      · rw [wset_k e14, if_neg e14]
        by_cases e13 : k = 13
        · subst e13
          rw [wset_s, if_pos rfl]
        · rw [wset_k e13, if_neg e13]
          by_cases e12 : k = 12
          · subst e12
            rw [wset_s, if_pos rfl]
          · rw [wset_k e12, if_neg e12, wset_ne cit_sg, wset_ne cit_sg]
    have rp : ∀ p, p ≠ 0 → p ≠ 7 → tbW w m j (S m).1 (S m).2.1 (S m).2.2.1 (cit 0 p) = w (cit 0 p) := by
      intro p hp hp7
      unfold tbW
      rw [cpW_ne (cit_p hp7), wset_ne (cit_p hp), wset_ne (cit_p hp), wset_ne (cit_p hp), wset_ne cit_sg, wset_ne cit_sg]
    refine ⟨c1.of (r0 0) (r0 3) (r0 4) (fun p p1 p2 => rp p (by omega) (by omega)), ⟨(r0 1).trans d1, (r0 2).trans d2, r0 12, r0 13, r0 14, fun p hp => ?_⟩, ?_⟩
    · unfold tbW cpW va_cpy
      rw [if_pos rfl, if_pos (by omega), wset_ne sg_cit, wset_ne sg_cit, wset_ne sg_cit, wset_ne (sg_ne (by decide)), wset_ne (sg_ne (by decide)), show j * 5 + (p - 0) = 5 * j + p by omega]
      exact g4 p hp
    · rcases c3 with z | ⟨mo, z1, z2, z3⟩
      · exact Or.inl ((r0 16).trans z)
      · exact Or.inr ⟨mo, z1, (r0 16).trans z2, z3.of (rp 8 (by decide) (by decide))⟩
