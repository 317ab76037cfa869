/-! ask: bodies by sort; the reference's -/
def szB (s : Nat) : Nat := if s = 1 ∨ s = 3 then 11 else if s = 2 then 12 else if s = 4 then 13 else 14
def mkB (s : Nat) : Nat := if s = 1 then 21 else if s = 2 then 24 else if s = 3 then 22 else 23
theorem x_sizeBody {w : Wd} {s : Nat} (h1 : 1 ≤ s) (h5 : s ≤ 5) : Cl 1 jB_sizeBody [vI (nI s)] w (some (vI (nI (szB s))), w) := by
  refine Cl.of rfl rfl rfl (lc := [some (vI (nI s))]) rfl ?_
  rcases (by omega : s = 1 ∨ s = 2 ∨ s = 3 ∨ s = 4 ∨ s = 5) with rfl | rfl | rfl | rfl | rfl
  · exact Rn.tsw 60 (t := 36) rfl rfl rfl (Rn.ir 60 rfl rfl rfl rfl)
  · exact Rn.tsw 60 (t := 39) rfl rfl rfl (Rn.ir 60 rfl rfl rfl rfl)
  · exact Rn.tsw 60 (t := 36) rfl rfl rfl (Rn.ir 60 rfl rfl rfl rfl)
  · exact Rn.tsw 60 (t := 42) rfl rfl rfl (Rn.ir 60 rfl rfl rfl rfl)
  · exact Rn.tsw 60 (t := 45) rfl rfl rfl (Rn.ir 60 rfl rfl rfl rfl)
theorem x_markBody {w : Wd} {s : Nat} (h1 : 1 ≤ s) (h5 : s ≤ 5) : Cl 1 jB_markBody [vI (nI s)] w (some (vI (nI (mkB s))), w) := by
  refine Cl.of rfl rfl rfl (lc := [some (vI (nI s))]) rfl ?_
  rcases (by omega : s = 1 ∨ s = 2 ∨ s = 3 ∨ s = 4 ∨ s = 5) with rfl | rfl | rfl | rfl | rfl
  · exact Rn.tsw 60 (t := 36) rfl rfl rfl (Rn.ir 60 rfl rfl rfl rfl)
  · exact Rn.tsw 60 (t := 45) rfl rfl rfl (Rn.ir 60 rfl rfl rfl rfl)
  · exact Rn.tsw 60 (t := 39) rfl rfl rfl (Rn.ir 60 rfl rfl rfl rfl)
  · exact Rn.tsw 60 (t := 42) rfl rfl rfl (Rn.ir 60 rfl rfl rfl rfl)
  · exact Rn.tsw 60 (t := 42) rfl rfl rfl (Rn.ir 60 rfl rfl rfl rfl)
theorem BX.up {c : Nat → Nat} {o p b D D' h h' : Nat} {V : Int32} {L : List Nat} (H : BX c o p b D h V L) (hD : D ≤ D') (hh : h ≤ h') : BX c o p b D' h' V L := by
  intro w ls dp h1 h2 h3 h4
  obtain ⟨w', a1, a2⟩ := H w ls dp h1 h2 h3 (by omega)
  exact ⟨w', a1.up hD, a2⟩
/-- the mark of one who vetoes (4) or a stranger (5) -/
theorem bx23 {c : Nat → Nat} {o p b : Nat} {V : Int32} {L : List Nat} (hc : PlOk c) (hp : p < c 4) (h1 : 1 ≤ so c p) (hb : szB (so c p) = b) (hB : BX c o p b 4 2 V L) : BX c o p 23 5 3 (nI p - V) (23 :: 20 :: L) := by
  intro w ls dp hpl ho ht h12
  have s5 := (hc.2.2.2.2 p hp).1
  obtain ⟨w1, f1, f2, f3⟩ := bx_head (b := 23) (d := 4) hc hp (by decide) (show dp ≤ 12 by omega) hpl ht
  obtain ⟨w2, g1, g2, g3⟩ := bx20 (o := o) hc hp w1 _ (dp + 1) (hpl.tf f1) (op12 ho f1) f2 (by omega)
  obtain ⟨w3, i1, i2, i3⟩ := hB w2 _ (dp + 1) ((hpl.tf f1).tf g2) (op12 (op12 ho f1) g2) g3 (by omega)
  refine ⟨w3, f3 _ ?_, (f1.tr g2).tr i2, i3⟩
  refine Rn.tsw 60 (t := 217) rfl rfl rfl ?_
  refine Rn.cs 60 rfl rfl rfl rfl g1 (by decide) ?_
  have sb := x_sizeBody (w := w2) h1 s5
  rw [hb] at sb
  refine Rn.cs 60 rfl rfl rfl rfl sb (by decide) ?_
  refine Rn.cs 60 rfl rfl rfl rfl i1 (by decide) ?_
  exact Rn.ir 60 rfl rfl rfl rfl
theorem bx11 {c : Nat → Nat} {o p b : Nat} {V : Int32} {L : List Nat} (hc : PlOk c) (hp : p < c 4) (h1 : 1 ≤ so c p) (hb : mkB (so c p) = b) (hB : BX c o p b 5 3 V L) : BX c o p 11 6 4 (nI (we c p) + V) (11 :: 10 :: L) := by
  intro w ls dp hpl ho ht h12
  have s5 := (hc.2.2.2.2 p hp).1
  obtain ⟨w1, f1, f2, f3⟩ := bx_head (b := 11) (d := 5) hc hp (by decide) (show dp ≤ 12 by omega) hpl ht
  obtain ⟨w2, g1, g2, g3⟩ := bx10 (o := o) hc hp w1 _ (dp + 1) (hpl.tf f1) (op12 ho f1) f2 (by omega)
  obtain ⟨w3, i1, i2, i3⟩ := hB w2 _ (dp + 1) ((hpl.tf f1).tf g2) (op12 (op12 ho f1) g2) g3 (by omega)
  refine ⟨w3, f3 _ ?_, (f1.tr g2).tr i2, i3⟩
  refine Rn.tsw 60 (t := 111) rfl rfl rfl ?_
  refine Rn.cs 60 rfl rfl rfl rfl g1 (by decide) ?_
  have sb := x_markBody (w := w2) h1 s5
  rw [hb] at sb
  refine Rn.cs 60 rfl rfl rfl rfl sb (by decide) ?_
  refine Rn.cs 60 rfl rfl rfl rfl i1 (by decide) ?_
  exact Rn.ir 60 rfl rfl rfl rfl
theorem bx12 {c : Nat → Nat} {o p : Nat} {V : Int32} {L : List Nat} (hc : PlOk c) (hp : p < c 4) (hB : BX c o p 11 6 4 V L) : BX c o p 12 7 5 (-V) (12 :: L) := by
  intro w ls dp hpl ho ht h12
  obtain ⟨w1, f1, f2, f3⟩ := bx_head (b := 12) (d := 6) hc hp (by decide) (show dp ≤ 12 by omega) hpl ht
  obtain ⟨w2, g1, g2, g3⟩ := hB w1 _ (dp + 1) (hpl.tf f1) (op12 ho f1) f2 (by omega)
  refine ⟨w2, f3 _ ?_, f1.tr g2, g3⟩
  refine Rn.tsw 60 (t := 136) rfl rfl rfl ?_
  refine Rn.cs 60 rfl rfl rfl rfl g1 (by decide) ?_
  exact Rn.ir 60 rfl rfl rfl rfl
-- the reference's
theorem mx10 {c : Nat → Nat} {o p : Nat} (hc : PlOk c) (hp : p < c 4) : MX c o p jM_size10 3 (nI (we c p)) [10] := by
  intro w ls nr ti sp dy wf hM ht
  obtain ⟨w1, f1, f2, f3⟩ := m_leaves (b := 10) ht
  refine ⟨w1, ?_, f2, f3⟩
  refine Cl.of rfl rfl rfl (lc := [some (vR (sg 13)), some (vI (nI p))]) rfl ?_
  refine Rn.cv 60 rfl rfl rfl rfl rfl f1 (by decide) ?_
  refine Rn.cv 60 rfl rfl rfl rfl rfl (m_we hc (hM.ufr f2).pl hp) (by decide) ?_
  exact Rn.ir 60 rfl rfl rfl rfl
theorem mx20 {c : Nat → Nat} {o p : Nat} : MX c o p jM_mark20 2 (nI p) [20] := by
  intro w ls nr ti sp dy wf hM ht
  obtain ⟨w1, f1, f2, f3⟩ := m_leaves (b := 20) ht
  refine ⟨w1, ?_, f2, f3⟩
  refine Cl.of rfl rfl rfl (lc := [some (vR (sg 13)), some (vI (nI p))]) rfl ?_
  refine Rn.cv 60 rfl rfl rfl rfl rfl f1 (by decide) ?_
  exact Rn.ir 60 rfl rfl rfl rfl
theorem mx13 {c : Nat → Nat} {o p : Nat} (hc : PlOk c) (hp : p < c 4) : MX c o p jM_size13 4 (nI (we c p) - nI 100) [13, 10] := by
  intro w ls nr ti sp dy wf hM ht
  obtain ⟨w1, f1, f2, f3⟩ := m_leaves (b := 13) ht
  obtain ⟨w2, g1, g2, g3⟩ := mx10 (o := o) hc hp w1 _ nr ti sp dy wf (hM.ufr f2) f3
  refine ⟨w2, ?_, f2.tr g2, g3⟩
  refine Cl.of rfl rfl rfl (lc := [some (vR (sg 13)), some (vI (nI p))]) rfl ?_
  refine Rn.cv 60 rfl rfl rfl rfl rfl f1 (by decide) ?_
  refine Rn.cv 60 rfl rfl rfl rfl rfl g1 (by decide) ?_
  exact Rn.ir 60 rfl rfl rfl rfl
theorem mx14 {c : Nat → Nat} {o p : Nat} (hc : PlOk c) (hp : p < c 4) : MX c o p jM_size14 5 (nI 2 * (nI (we c p) - nI 100)) [14, 13, 10] := by
  intro w ls nr ti sp dy wf hM ht
  obtain ⟨w1, f1, f2, f3⟩ := m_leaves (b := 14) ht
  obtain ⟨w2, g1, g2, g3⟩ := mx13 (o := o) hc hp w1 _ nr ti sp dy wf (hM.ufr f2) f3
  refine ⟨w2, ?_, f2.tr g2, g3⟩
  refine Cl.of rfl rfl rfl (lc := [some (vR (sg 13)), some (vI (nI p))]) rfl ?_
  refine Rn.cv 60 rfl rfl rfl rfl rfl f1 (by decide) ?_
  refine Rn.cv 60 rfl rfl rfl rfl rfl g1 (by decide) ?_
  exact Rn.ir 60 rfl rfl rfl rfl
theorem mx21 {c : Nat → Nat} {o p : Nat} (hc : PlOk c) (hp : p < c 4) (h8 : o < 256) : MX c o p jM_mark21 3 (v21 c o p) [21, 20] := by
  intro w ls nr ti sp dy wf hM ht
  obtain ⟨_, q1, _, _⟩ := hc.2.2.2.2 p hp
  obtain ⟨w1, f1, f2, f3⟩ := m_leaves (b := 21) ht
  obtain ⟨w2, g1, g2, g3⟩ := mx20 (o := o) w1 _ nr ti sp dy wf (hM.ufr f2) f3
  have hM2 := (hM.ufr f2).ufr g2
  refine ⟨w2, ?_, f2.tr g2, g3⟩
  refine Cl.of rfl rfl rfl (lc := [some (vR (sg 13)), some (vI (nI p))]) rfl ?_
  refine Rn.cv 60 rfl rfl rfl rfl rfl f1 (by decide) ?_
  refine Rn.cv 60 rfl rfl rfl rfl rfl g1 (by decide) ?_
  refine Rn.cv 60 rfl rfl rfl rfl rfl (m_ho hc hM2.pl hp) (by decide) ?_
  refine Rn.cv 60 rfl rfl rfl rfl rfl (m_get (k := 6) (v := nI o) hM2.1 rfl (by decide) hM2.2.2.2.2.2.2.2.1) (by decide) ?_
  refine Rn.cv 60 rfl rfl rfl rfl rfl (m_reachBy hc hM2.pl h8 q1) (by decide) ?_
  refine Rn.cs 60 rfl rfl rfl rfl (m_manyOf (by have := rc_lt hc o q1; omega)) (by decide) ?_
  exact Rn.ir 60 rfl rfl rfl rfl
theorem mx22 {c : Nat → Nat} {o p : Nat} (hc : PlOk c) (hp : p < c 4) (h8 : o < 256) : MX c o p jM_mark22 4 (v21 c o p - nI 1000) [22, 21, 20] := by
  intro w ls nr ti sp dy wf hM ht
  obtain ⟨w1, f1, f2, f3⟩ := m_leaves (b := 22) ht
  obtain ⟨w2, g1, g2, g3⟩ := mx21 (o := o) hc hp h8 w1 _ nr ti sp dy wf (hM.ufr f2) f3
  refine ⟨w2, ?_, f2.tr g2, g3⟩
  refine Cl.of rfl rfl rfl (lc := [some (vR (sg 13)), some (vI (nI p))]) rfl ?_
  refine Rn.cv 60 rfl rfl rfl rfl rfl f1 (by decide) ?_
  refine Rn.cv 60 rfl rfl rfl rfl rfl g1 (by decide) ?_
  exact Rn.ir 60 rfl rfl rfl rfl
theorem mx24 {c : Nat → Nat} {o p : Nat} (hc : PlOk c) (hp : p < c 4) (h8 : o < 256) : MX c o p jM_mark24 4 (nI 2 * v21 c o p) [24, 21, 20] := by
  intro w ls nr ti sp dy wf hM ht
  obtain ⟨w1, f1, f2, f3⟩ := m_leaves (b := 24) ht
  obtain ⟨w2, g1, g2, g3⟩ := mx21 (o := o) hc hp h8 w1 _ nr ti sp dy wf (hM.ufr f2) f3
  refine ⟨w2, ?_, f2.tr g2, g3⟩
  refine Cl.of rfl rfl rfl (lc := [some (vR (sg 13)), some (vI (nI p))]) rfl ?_
  refine Rn.cv 60 rfl rfl rfl rfl rfl f1 (by decide) ?_
  refine Rn.cv 60 rfl rfl rfl rfl rfl g1 (by decide) ?_
  exact Rn.ir 60 rfl rfl rfl rfl
theorem mx23 {c : Nat → Nat} {o p : Nat} {V : Int32} {L : List Nat} (hc : PlOk c) (hp : p < c 4) (hB : (so c p = 5 → MX c o p jM_size14 5 V L) ∧ (so c p ≠ 5 → MX c o p jM_size13 5 V L)) : MX c o p jM_mark23 6 (nI p - V) (23 :: 20 :: L) := by
  intro w ls nr ti sp dy wf hM ht
  have s5 := (hc.2.2.2.2 p hp).1
  obtain ⟨w1, f1, f2, f3⟩ := m_leaves (b := 23) ht
  obtain ⟨w2, g1, g2, g3⟩ := mx20 (o := o) w1 _ nr ti sp dy wf (hM.ufr f2) f3
  have hM2 := (hM.ufr f2).ufr g2
  have go : ∀ w3, Rn none 5 jM_mark23 (19, [some (vR (sg 13)), some (vI (nI p)), some (vI (nI p))], [vI (nI (so c p)), vI (nI p)], w2) (some (vI (nI p - V)), w3) → Cl 6 jM_mark23 [vR (sg 13), vI (nI p)] w (some (vI (nI p - V)), w3) := by
    intro w3 k
    refine Cl.of rfl rfl rfl (lc := [some (vR (sg 13)), some (vI (nI p)), none]) rfl ?_
    refine Rn.cv 60 rfl rfl rfl rfl rfl f1 (by decide) ?_
    refine Rn.cv 60 rfl rfl rfl rfl rfl g1 (by decide) ?_
    exact Rn.cv 60 rfl rfl rfl rfl rfl (m_so hc hM2.pl hp) (by decide) k
  by_cases e : so c p = 5
  · obtain ⟨w3, i1, i2, i3⟩ := hB.1 e w2 _ nr ti sp dy wf hM2 g3
    refine ⟨w3, go w3 ?_, (f2.tr g2).tr i2, i3⟩
    refine Rn.if2f 60 rfl rfl (by dsimp only [tm_c2P]; rw [e]; exact fun z => z rfl) ?_
    refine Rn.cv 60 rfl rfl rfl rfl rfl i1 (by decide) ?_
    exact Rn.ir 60 rfl rfl rfl rfl
  · obtain ⟨w3, i1, i2, i3⟩ := hB.2 e w2 _ nr ti sp dy wf hM2 g3
    refine ⟨w3, go w3 ?_, (f2.tr g2).tr i2, i3⟩
    refine Rn.if2t 60 rfl rfl (by dsimp only [tm_c2P]; rw [nI_eq (by omega) (by decide)]; exact e) ?_
    refine Rn.cv 60 rfl rfl rfl rfl rfl i1 (by decide) ?_
    exact Rn.ir 60 rfl rfl rfl rfl
