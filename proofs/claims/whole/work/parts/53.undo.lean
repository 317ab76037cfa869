/-! undo -/
theorem MaIs.cw {w : Wd} {b : Nat} {c : Nat → Nat} {nr ti o sp dy : Nat} {wf wf' : Nat → Nat} (h : MaIs w b c nr ti o sp dy wf) (e : ∀ p, p < c 4 → wf p = wf' p) : MaIs w b c nr ti o sp dy wf' := by
  obtain ⟨h1, h2, h3, h4, h5, h6, h7, h8, h9, h10⟩ := h
  exact ⟨h1, h2, h3, h4, h5, h6, h7, h8, h9, fun p hp => by rw [← e p hp]; exact h10 p hp⟩
def tbW (w : Wd) (m x o sp dy : Nat) : Wd := cpW (wset (wset (wset (wset (wset w (sg 5) 1 (nI x)) (sg 5) 0 (nI m)) (cit 0 0) 12 (nI o)) (cit 0 0) 13 (nI sp)) (cit 0 0) 14 (nI dy)) (sg 9) (cit 0 7) (x * 5) 0 5
theorem sp_takeBack {w : Wd} {c : Nat → Nat} {nr ti o sp dy m x : Nat} {wf : Nat → Nat} {S : Nat → Sn} (hc : PlOk c) (hci : CiIs w 0 c nr ti o sp dy wf) (hm : m < 24) (hx : x < 24) (h : AcC w (c 4) (m + 1) x S) : Cl 2 jA_takeBack [vR (sg 5), vR (cit 0 0)] w (some (vI (bI true)), tbW w m ((x + 23) % 24) (S m).1 (S m).2.1 (S m).2.2.1) ∧ AcC (tbW w m ((x + 23) % 24) (S m).1 (S m).2.1 (S m).2.2.1) (c 4) m ((x + 23) % 24) S ∧ CiIs (tbW w m ((x + 23) % 24) (S m).1 (S m).2.1 (S m).2.2.1) 0 c nr ti (S m).1 (S m).2.1 (S m).2.2.1 (S m).2.2.2 := by
  have hc4 := hc.2.2.1
  obtain ⟨h0, h1, h2⟩ := h
  obtain ⟨g1, g2, g3, g4⟩ := h2 m (by omega)
  have ej : (x + 24 - (m + 1) + m) % 24 = (x + 23) % 24 := by omega
  rw [ej] at g1 g2 g3 g4
  have hj : (x + 23) % 24 < 24 := Nat.mod_lt _ (by decide)
  generalize hjj : (x + 23) % 24 = j at *
  refine ⟨?_, ⟨?_, ?_, fun i hi => ?_⟩, ?_⟩
  · refine Cl.of rfl rfl rfl (lc := [some (vR (sg 5)), some (vR (cit 0 0))]) rfl ?_
    refine Rn.if1t 60 rfl rfl (by dsimp only [tm_c2P]; rw [h0]; exact nI_ne0 (by omega) (by omega)) ?_
    have ex : (nI x + nI 24 - nI 1) - (nI x + nI 24 - nI 1) / nI 24 * nI 24 = nI j := by
      rw [nI_add, pk_sub (by omega), pk_rem (by omega) (by decide) (by decide), show x + 24 - 1 = x + 23 by omega, hjj]
    have ek : wset w (sg 5) 1 (nI j) (sg 5) 0 - nI 1 = nI m := by
      rw [wset_k (by decide), h0, pk_sub (by omega)]
      rfl
    refine Rn.at 16 (x := (35, [some (vR (sg 5)), some (vR (cit 0 0))], [], wset (wset w (sg 5) 1 (nI j)) (sg 5) 0 (nI m))) (by rw [← ek, ← ex, ← h1]; rfl) ?_
    have n1 : ∀ {W : Wd} {k : Nat} {z : Int32}, W (sg 5) 1 = nI j → wset W (cit 0 0) k z (sg 5) 1 = nI j := fun hW => by rw [wset_ne sg_cit]; exact hW
    have n0 : wset (wset w (sg 5) 1 (nI j)) (sg 5) 0 (nI m) (sg 5) 1 = nI j := by rw [wset_k (by decide), wset_s]
    have r : ∀ s, s ≠ 5 → wset (wset w (sg 5) 1 (nI j)) (sg 5) 0 (nI m) (sg s) = w (sg s) := fun s hs => by rw [wset_ne (sg_ne hs), wset_ne (sg_ne hs)]
    refine Rn.al 60 rfl rfl rfl n0 hj ?_
    rw [r 6 (by decide), g1]
    refine Rn.al 60 rfl rfl rfl (n1 n0) hj ?_
    rw [wset_ne sg_cit, r 7 (by decide), g2]
    refine Rn.al 60 rfl rfl rfl (n1 (n1 n0)) hj ?_
    rw [wset_ne sg_cit, wset_ne sg_cit, r 8 (by decide), g3]
    have cp := cl_copy (w := wset (wset (wset (wset (wset w (sg 5) 1 (nI j)) (sg 5) 0 (nI m)) (cit 0 0) 12 (nI (S m).1)) (cit 0 0) 13 (nI (S m).2.1)) (cit 0 0) 14 (nI (S m).2.2.1)) (s := sg 9) (d := cit 0 7) (a := j * 5) (b := 0) (n := 5) (n0 := 120) (n1 := 5) rfl rfl (by omega) (by omega)
    rw [← pk_mul, ← n1 (k := 14) (z := nI (S m).2.2.1) (n1 (k := 13) (z := nI (S m).2.1) (n1 (k := 12) (z := nI (S m).1) n0))] at cp
    refine Rn.cs 60 rfl rfl rfl rfl cp (by decide) ?_
    exact Rn.zr 60 rfl rfl rfl (by decide) rfl
  · unfold tbW
    rw [cpW_ne sg_cit, wset_ne sg_cit, wset_ne sg_cit, wset_ne sg_cit, wset_s]
  · unfold tbW
    rw [cpW_ne sg_cit, wset_ne sg_cit, wset_ne sg_cit, wset_ne sg_cit, wset_k (by decide), wset_s]
  · obtain ⟨f1, f2, f3, f4⟩ := h2 i (by omega)
    rw [show (x + 24 - (m + 1) + i) % 24 = (j + 24 - m + i) % 24 by omega] at f1 f2 f3 f4
    have r : ∀ s, s ≠ 5 → tbW w m j (S m).1 (S m).2.1 (S m).2.2.1 (sg s) = w (sg s) := fun s hs => by
      unfold tbW
      rw [cpW_ne sg_cit, wset_ne sg_cit, wset_ne sg_cit, wset_ne sg_cit, wset_ne (sg_ne hs), wset_ne (sg_ne hs)]
    rw [r 6 (by decide), r 7 (by decide), r 8 (by decide), r 9 (by decide)]
    exact ⟨f1, f2, f3, f4⟩
  · obtain ⟨c1, ⟨d1, d2, d3, d4, d5, d6⟩, c3⟩ := hci
    have r0 : ∀ k, tbW w m j (S m).1 (S m).2.1 (S m).2.2.1 (cit 0 0) k = if k = 14 then nI (S m).2.2.1 else if k = 13 then nI (S m).2.1 else if k = 12 then nI (S m).1 else w (cit 0 0) k := by
      intro k
      unfold tbW
      rw [cpW_ne (cit_p (by decide))]
      by_cases e14 : k = 14
      · subst e14
        rw [wset_s, if_pos rfl]
      · rw [wset_k e14, if_neg e14]
        by_cases e13 : k = 13
        · subst e13
          rw [wset_s, if_pos rfl]
        · rw [wset_k e13, if_neg e13]
          by_cases e12 : k = 12
          · subst e12
            rw [wset_s, if_pos rfl]
          · rw [wset_k e12, if_neg e12, wset_ne cit_sg, wset_ne cit_sg]
    have rp : ∀ p, p ≠ 0 → p ≠ 7 → tbW w m j (S m).1 (S m).2.1 (S m).2.2.1 (cit 0 p) = w (cit 0 p) := by
      intro p hp hp7
      unfold tbW
      rw [cpW_ne (cit_p hp7), wset_ne (cit_p hp), wset_ne (cit_p hp), wset_ne (cit_p hp), wset_ne cit_sg, wset_ne cit_sg]
    refine ⟨c1.of (r0 0) (r0 3) (r0 4) (fun p p1 p2 => rp p (by omega) (by omega)), ⟨(r0 1).trans d1, (r0 2).trans d2, r0 12, r0 13, r0 14, fun p hp => ?_⟩, ?_⟩
    · unfold tbW cpW va_cpy
      rw [if_pos rfl, if_pos (by omega), wset_ne sg_cit, wset_ne sg_cit, wset_ne sg_cit, wset_ne (sg_ne (by decide)), wset_ne (sg_ne (by decide)), show j * 5 + (p - 0) = 5 * j + p by omega]
      exact g4 p hp
    · rcases c3 with z | ⟨mo, z1, z2, z3⟩
      · exact Or.inl ((r0 16).trans z)
      · exact Or.inr ⟨mo, z1, (r0 16).trans z2, z3.of (rp 8 (by decide) (by decide))⟩
theorem AcM.cut {w w' : Wd} {P m : Nat} {S : Nat → Sn} {wf : Nat → Nat} (h : AcM w P (m + 1) S wf) (e13 : w' (sg 13) 8 = nI m) (e19 : w' (sg 19) = w (sg 19)) : AcM w' P m S (S m).2.2.2 := by
  refine ⟨e13, fun i hi => ?_⟩
  have h1 := h.2 i (by omega)
  rw [if_neg (by omega)] at h1
  have h2 : AcM1 w P i (S i) (if i + 1 = m then (S m).2.2.2 else (S (i + 1)).2.2.2) := by
    by_cases e : i + 1 = m
    · rw [if_pos e]
      subst e
      exact h1
    · rw [if_neg e]
      exact h1
  exact h2.of (fun j _ => by rw [e19])
theorem op_undo : Op jX_undo jM_undo [] := by
  intro w hi
  obtain ⟨hb, c, nr, ti, o, sp, dy, wf, hok, hci, hma, m0, xx, S, hm, hx, hac, ham, hos⟩ := id hi.2.2.2.2.2
  have hM : Mt w c nr ti o sp dy wf := ⟨hb, hma⟩
  have hc := hok.1
  have hc4 := hc.2.2.1
  cases m0 with
  | zero =>
    refine op_same hi (v := -(nI 1000002)) ?_ ?_
    · have tb : Cl 1 jA_takeBack [vR (sg 5), vR (cit 0 0)] w (some (vI (bI false)), w) := by
        refine Cl.of rfl rfl rfl (lc := [some (vR (sg 5)), some (vR (cit 0 0))]) rfl ?_
        refine Rn.if1f 60 rfl rfl (by dsimp only [tm_c2P]; rw [hac.1]; decide) ?_
        exact Rn.zr 60 rfl rfl rfl (by decide) rfl
      refine Cl.of rfl rfl rfl (lc := [some (vR (sg 0))]) rfl ?_
      refine Rn.cv 60 rfl rfl rfl rfl rfl tb (by decide) ?_
      refine Rn.if1t 60 rfl rfl (by dsimp only [tm_c2P]; decide) ?_
      exact Rn.ir 60 rfl rfl rfl rfl
    · refine Cl.of rfl rfl rfl (lc := [some (vR (sg 13)), none]) rfl ?_
      refine Rn.if1f 60 rfl rfl (by dsimp only [tm_c2P]; rw [ham.1]; decide) ?_
      exact Rn.ir 60 rfl rfl rfl rfl
  | succ m =>
    obtain ⟨k1, k2, k3⟩ := sp_takeBack hc hci (by omega) hx hac
    have ok' := hos m (by omega)
    generalize hw1 : tbW w m ((xx + 23) % 24) (S m).1 (S m).2.1 (S m).2.2.1 = w1 at *
    have esg : ∀ s, s ≠ 5 → w1 (sg s) = w (sg s) := fun s hs => by
      rw [← hw1]
      unfold tbW
      rw [cpW_ne sg_cit, wset_ne sg_cit, wset_ne sg_cit, wset_ne sg_cit, wset_ne (sg_ne hs), wset_ne (sg_ne hs)]
    have hM1 : Mt w1 c nr ti o sp dy wf := ⟨by rw [esg 13 (by decide)]; exact hb, hma.fr (esg 17 (by decide))⟩
    have hM2 : Mt (wset w1 (sg 13) 8 (nI m)) c nr ti o sp dy wf := ⟨by rw [wset_k (by decide)]; exact hM1.1, hM1.2.fr (wset_ne (sg_ne (by decide)))⟩
    have hM3 := hM2.opn (o' := (S m).1)
    have hM4 := hM3.spent (sp' := (S m).2.1)
    have hM5 := hM4.day (dy' := (S m).2.2.1)
    have hr := ham.2 m (by omega)
    rw [if_pos rfl] at hr
    obtain ⟨r1, r2, r3, r4⟩ := hr
    generalize hw5 : wset (wset (wset (wset w1 (sg 13) 8 (nI m)) (sg 17) 6 (nI (S m).1)) (sg 17) 7 (nI (S m).2.1)) (sg 17) 5 (nI (S m).2.2.1) = w5 at *
    have e19 : ∀ {W : Wd}, (W = wset w1 (sg 13) 8 (nI m) ∨ W = wset (wset w1 (sg 13) 8 (nI m)) (sg 17) 6 (nI (S m).1) ∨ W = wset (wset (wset w1 (sg 13) 8 (nI m)) (sg 17) 6 (nI (S m).1)) (sg 17) 7 (nI (S m).2.1) ∨ W = w5) → W (sg 19) = w (sg 19) ∧ W (sg 13) 8 = nI m := by
      intro W h
      rcases h with h | h | h | h
      · subst h
        exact ⟨by rw [wset_ne (sg_ne (by decide)), esg 19 (by decide)], wset_s⟩
      · subst h
        exact ⟨by rw [wset_ne (sg_ne (by decide)), wset_ne (sg_ne (by decide)), esg 19 (by decide)], by rw [wset_ne (sg_ne (by decide)), wset_s]⟩
      · subst h
        exact ⟨by rw [wset_ne (sg_ne (by decide)), wset_ne (sg_ne (by decide)), wset_ne (sg_ne (by decide)), esg 19 (by decide)], by rw [wset_ne (sg_ne (by decide)), wset_ne (sg_ne (by decide)), wset_s]⟩
      · subst h
        rw [← hw5]
        exact ⟨by rw [wset_ne (sg_ne (by decide)), wset_ne (sg_ne (by decide)), wset_ne (sg_ne (by decide)), wset_ne (sg_ne (by decide)), esg 19 (by decide)], by rw [wset_ne (sg_ne (by decide)), wset_ne (sg_ne (by decide)), wset_ne (sg_ne (by decide)), wset_s]⟩
    have body : ∀ r, Rn none 19 jM_undo (88, [some (vR (sg 13)), some (vI (w (sg 19) (5 * m + 3)))], [], w5) r → Cl 20 jM_undo [vR (sg 13)] w1 r := by
      intro r k
      refine Cl.of rfl rfl rfl (lc := [some (vR (sg 13)), none]) rfl ?_
      have e8 : w1 (sg 13) 8 = nI (m + 1) := by rw [esg 13 (by decide)]; exact ham.1
      refine Rn.if1t 60 rfl rfl (by dsimp only [tm_c2P]; rw [e8]; exact nI_ne0 (by omega) (by omega)) ?_
      refine Rn.at 6 (x := (20, [some (vR (sg 13)), none], [], wset w1 (sg 13) 8 (nI m))) (by rw [show nI m = w1 (sg 13) 8 - nI 1 by rw [e8, pk_sub (by omega)]; rfl]; rfl) ?_
      obtain ⟨a1, a2⟩ := e19 (Or.inl rfl)
      refine Rn.al 60 (j := 5 * m) rfl rfl rfl (by dsimp only; rw [a2, pk_mul]) (by omega) ?_
      rw [a1, r1]
      refine Rn.cv 60 rfl rfl rfl rfl rfl (m_put (k := 6) hM2.1 rfl (by decide)) (by decide) ?_
      obtain ⟨a1, a2⟩ := e19 (Or.inr (Or.inl rfl))
      refine Rn.al 60 (j := 5 * m + 1) rfl rfl rfl (by dsimp only; rw [a2, pk_mul, nI_add]) (by omega) ?_
      rw [a1, r2]
      refine Rn.cv 60 rfl rfl rfl rfl rfl (m_put (k := 7) hM3.1 rfl (by decide)) (by decide) ?_
      obtain ⟨a1, a2⟩ := e19 (Or.inr (Or.inr (Or.inl rfl)))
      refine Rn.al 60 (j := 5 * m + 2) rfl rfl rfl (by dsimp only; rw [a2, pk_mul, nI_add]) (by omega) ?_
      rw [a1, r3]
      refine Rn.cv 60 rfl rfl rfl rfl rfl (m_put (k := 5) hM4.1 rfl (by decide)) (by decide) ?_
      rw [hw5]
      obtain ⟨a1, a2⟩ := e19 (Or.inr (Or.inr (Or.inr rfl)))
      refine Rn.al 60 (j := 5 * m + 3) rfl rfl rfl (by dsimp only; rw [a2, pk_mul, nI_add]) (by omega) ?_
      rw [a1]
      exact Rn.at 1 rfl k
    obtain ⟨a19, a8⟩ := e19 (Or.inr (Or.inr (Or.inr rfl)))
    have xs : Cl 20 jX_undo [vR (sg 0)] w (some (vI (nI m)), w1) := by
      refine Cl.of rfl rfl rfl (lc := [some (vR (sg 0))]) rfl ?_
      refine Rn.cv 60 rfl rfl rfl rfl rfl k1 (by decide) ?_
      refine Rn.if1f 60 rfl rfl (by dsimp only [tm_c2P]; decide) ?_
      refine Rn.ir 60 rfl rfl rfl ?_
      rw [k2.1]
    have fin : ∀ {w6 : Wd}, Cl 20 jM_undo [vR (sg 13)] w1 (some (vI (nI m)), w6) → Mt w6 c nr ti (S m).1 (S m).2.1 (S m).2.2.1 (S m).2.2.2 → (∀ t, t ≠ sg 17 → w6 t = w5 t) → (∀ j, 49 ≤ j → w6 (sg 17) j = w5 (sg 17) j) → ∃ w1 w2 v, Cl 20 jX_undo [vR (sg 0)] w (some (vI v), w1) ∧ Cl 20 jM_undo [vR (sg 13)] w1 (some (vI v), w2) ∧ Inv w2 := by
      intro w6 hcl hM6 f1 f2
      have f5 : ∀ t, t ≠ sg 17 → t ≠ sg 13 → w6 t = w1 t := fun t h1 h2 => by
        rw [f1 t h1, ← hw5, wset_ne h1, wset_ne h1, wset_ne h1, wset_ne h2]
      refine ⟨w1, w6, nI m, xs, hcl, hi.twn ⟨hM6.1, c, nr, ti, _, _, _, _, ok', k3.fr (fun p => f5 _ cit_sg cit_sg), hM6.2, m, (xx + 23) % 24, S, by omega, Nat.mod_lt _ (by decide), k2.of (fun s s1 s2 j => by rw [f5 _ (sg_ne (by omega)) (sg_ne (by omega))]), ham.cut (by rw [f1 _ (sg_ne (by decide))]; exact a8) (by rw [f1 _ (sg_ne (by decide))]; exact a19), fun i hi => hos i (by omega)⟩ (fun n h5 h9 => ?_)⟩
      intro t j e
      by_cases h17 : t = sg 17
      · subst h17
        have hj : 49 ≤ j := by
          apply Classical.byContradiction
          intro z
          rw [own_now (by omega)] at e
          exact h5 e.symm
        rw [f2 j hj, ← hw5, wset_k (by omega), wset_k (by omega), wset_k (by omega), wset_ne (sg_ne (by decide)), esg 17 (by decide)]
      · by_cases h13 : t = sg 13
        · subst h13
          have hj : j ≠ 8 := fun z => by subst z; exact h5 e.symm
          rw [f1 _ (sg_ne (by decide)), ← hw5, wset_ne (sg_ne (by decide)), wset_ne (sg_ne (by decide)), wset_ne (sg_ne (by decide)), wset_k hj, esg 13 (by decide)]
        · rw [f5 t h17 h13, ← hw1]
          unfold tbW
          have hcit : ∀ p, t ≠ cit 0 p := fun p z => by subst z; exact h5 e.symm
          have h5' : t ≠ sg 5 := fun z => by subst z; exact h5 e.symm
          rw [cpW_ne (hcit 7), wset_ne (hcit 0), wset_ne (hcit 0), wset_ne (hcit 0), wset_ne h5', wset_ne h5']
    rcases r4 with ⟨q1, q2⟩ | ⟨q, v, q1, q2, q3, q4⟩
    · refine fin (w6 := w5) (body _ ?_) ⟨hM5.1, hM5.2.cw (fun p hp => (q2 p hp).symm)⟩ (fun _ _ => rfl) (fun _ _ => rfl)
      rw [q1]
      refine Rn.if2t 60 rfl rfl rfl ?_
      rw [← a8]
      exact Rn.ir 60 rfl rfl rfl rfl
    · have hM6 := hM5.wish hc (p := q) (v := v)
      refine fin (w6 := wset w5 (sg 17) (27 + 5 * q) (nI v)) (body _ ?_) ⟨hM6.1, hM6.2.cw (fun p hp => (q4 p hp).symm)⟩ (fun t ht => wset_ne ht) (fun j hj => wset_k (by omega))
      rw [q2]
      refine Rn.if2f 60 rfl rfl ?_ ?_
      · dsimp only [tm_c2P]
        intro z
        have z2 := congrArg Int32.toInt z
        rw [nI_toInt (by omega)] at z2
        have e : (-(nI 1000000)).toInt = -1000000 := by decide
        omega
      refine Rn.al 60 (j := 5 * m + 4) rfl rfl rfl (by dsimp only; rw [a8, pk_mul, nI_add]) (by omega) ?_
      rw [a19, q3]
      refine Rn.cv 60 rfl rfl rfl rfl rfl (m_put (k := 27 + 5 * q) hM5.1 (by dsimp only; rw [pk_mul, nI_add, nI_add, show 24 + 5 * q + 3 = 27 + 5 * q by omega]) (by omega)) (by decide) ?_
      refine Rn.ir 60 rfl rfl rfl ?_
      rw [wset_ne (show sg 13 ≠ sg 17 by decide), a8]
