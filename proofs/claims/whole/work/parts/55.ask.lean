/-! ask: the bodies begun, left in the trace -/
def psh (ls : List Nat) (b : Nat) : List Nat := if ls.length < 16 then ls ++ [b] else ls
def TrX (w : Wd) (ls : List Nat) : Prop := ls.length ≤ 16 ∧ w (sg 11) 1 = nI ls.length ∧ ∀ i, i < ls.length → w (sg 12) i = nI (ls.getD i 0)
def TrM (w : Wd) (ls : List Nat) : Prop := ls.length ≤ 16 ∧ w (sg 13) 24 = nI ls.length ∧ ∀ i, i < ls.length → w (sg 22) i = nI (ls.getD i 0)
def TFr (w w' : Wd) : Prop := ∀ t, t ≠ sg 11 → t ≠ sg 12 → w' t = w t
def UFr (w w' : Wd) : Prop := (∀ t, t ≠ sg 13 → t ≠ sg 22 → w' t = w t) ∧ ∀ j, j ≠ 24 → w' (sg 13) j = w (sg 13) j
theorem TFr.tr {w w1 w2 : Wd} (h1 : TFr w w1) (h2 : TFr w1 w2) : TFr w w2 := fun t a b => (h2 t a b).trans (h1 t a b)
theorem UFr.tr {w w1 w2 : Wd} (h1 : UFr w w1) (h2 : UFr w1 w2) : UFr w w2 := ⟨fun t a b => (h2.1 t a b).trans (h1.1 t a b), fun j a => (h2.2 j a).trans (h1.2 j a)⟩
theorem Mt.ufr {w w' : Wd} {c : Nat → Nat} {nr ti o sp dy : Nat} {wf : Nat → Nat} (h : Mt w c nr ti o sp dy wf) (f : UFr w w') : Mt w' c nr ti o sp dy wf := ⟨(f.2 5 (by decide)).trans h.1, h.2.fr (f.1 _ (sg_ne (by decide)) (sg_ne (by decide)))⟩
theorem getD_app {ls : List Nat} {b i : Nat} (h : i < ls.length + 1) : (ls ++ [b]).getD i 0 = if i = ls.length then b else ls.getD i 0 := by
  by_cases e : i = ls.length
  · subst e
    simp [List.getD]
  · rw [if_neg e]
    simp [List.getD, List.getElem?_append, show i < ls.length by omega]
theorem x_leave {w : Wd} {ls : List Nat} {b : Nat} (h : TrX w ls) : ∃ w', Cl 1 jB_leave [vR (sg 11), vI (nI b)] w (none, w') ∧ TFr w w' ∧ TrX w' (psh ls b) := by
  obtain ⟨h1, h2, h3⟩ := h
  unfold psh
  by_cases e : ls.length < 16
  · rw [if_pos e]
    refine ⟨wset (wset w (sg 12) ls.length (nI b)) (sg 11) 1 (nI (ls.length + 1)), ?_, fun t a b => by rw [wset_ne a, wset_ne b], ?_⟩
    · refine Cl.of rfl rfl rfl (lc := [some (vR (sg 11)), some (vI (nI b))]) rfl ?_
      refine Rn.if2f 60 rfl rfl (by dsimp only [tm_c2P]; rw [h2]; exact nI_ge e (by decide)) ?_
      refine Rn.as 60 rfl rfl rfl h2 e ?_
      refine Rn.vr 60 rfl rfl rfl ?_
      rw [wset_ne (sg_ne (by decide)), h2]
      dsimp only
      rw [nI_add]
    · refine ⟨by rw [List.length_append]; exact e, ?_, fun i hi => ?_⟩
      · rw [wset_s, List.length_append]
        rfl
      · rw [List.length_append] at hi
        have hi : i < ls.length + 1 := hi
        rw [wset_ne (sg_ne (by decide)), getD_app hi]
        by_cases ei : i = ls.length
        · subst ei
          rw [wset_s, if_pos rfl]
        · rw [wset_k ei, if_neg ei]
          exact h3 i (by omega)
  · rw [if_neg e]
    refine ⟨w, ?_, fun _ _ _ => rfl, h1, h2, h3⟩
    refine Cl.of rfl rfl rfl (lc := [some (vR (sg 11)), some (vI (nI b))]) rfl ?_
    refine Rn.if2t 60 rfl rfl (by dsimp only [tm_c2P]; rw [h2]; exact nI_le (by omega) (by omega)) ?_
    exact Rn.vr 60 rfl rfl rfl rfl
theorem m_leaves {w : Wd} {ls : List Nat} {b : Nat} (h : TrM w ls) : ∃ w', Cl 1 jM_leaves [vR (sg 13), vI (nI b)] w (none, w') ∧ UFr w w' ∧ TrM w' (psh ls b) := by
  obtain ⟨h1, h2, h3⟩ := h
  unfold psh
  by_cases e : ls.length < 16
  · rw [if_pos e]
    refine ⟨wset (wset w (sg 22) ls.length (nI b)) (sg 13) 24 (nI (ls.length + 1)), ?_, ⟨fun t a b => by rw [wset_ne a, wset_ne b], fun j hj => by rw [wset_k hj, wset_ne (sg_ne (by decide))]⟩, ?_⟩
    · refine Cl.of rfl rfl rfl (lc := [some (vR (sg 13)), some (vI (nI b))]) rfl ?_
      refine Rn.if2f 60 rfl rfl (by dsimp only [tm_c2P]; rw [h2]; exact nI_ge e (by decide)) ?_
      refine Rn.as 60 rfl rfl rfl h2 e ?_
      refine Rn.vr 60 rfl rfl rfl ?_
      rw [wset_ne (sg_ne (by decide)), h2]
      dsimp only
      rw [nI_add]
    · refine ⟨by rw [List.length_append]; exact e, ?_, fun i hi => ?_⟩
      · rw [wset_s, List.length_append]
        rfl
      · rw [List.length_append] at hi
        have hi : i < ls.length + 1 := hi
        rw [wset_ne (sg_ne (by decide)), getD_app hi]
        by_cases ei : i = ls.length
        · subst ei
          rw [wset_s, if_pos rfl]
        · rw [wset_k ei, if_neg ei]
          exact h3 i (by omega)
  · rw [if_neg e]
    refine ⟨w, ?_, ⟨fun _ _ _ => rfl, fun _ _ => rfl⟩, h1, h2, h3⟩
    refine Cl.of rfl rfl rfl (lc := [some (vR (sg 13)), some (vI (nI b))]) rfl ?_
    refine Rn.if2t 60 rfl rfl (by dsimp only [tm_c2P]; rw [h2]; exact nI_le (by omega) (by omega)) ?_
    exact Rn.vr 60 rfl rfl rfl rfl
/-- a body of the class: what it answers and which bodies it leaves, from any place of the trace -/
def BX (c : Nat → Nat) (o p b D h : Nat) (V : Int32) (L : List Nat) : Prop := ∀ w ls dp, PlIs w 0 c → w (cit 0 0) 12 = nI o → TrX w ls → dp + h ≤ 12 → ∃ w', Cl D jB_begin [vR (sg 11), vR (cit 0 0), vI (nI p), vI (nI b), vI (nI dp)] w (some (vI V), w') ∧ TFr w w' ∧ TrX w' (L.foldl psh ls)
def MX (c : Nat → Nat) (o p J D : Nat) (V : Int32) (L : List Nat) : Prop := ∀ w ls nr ti sp dy wf, Mt w c nr ti o sp dy wf → TrM w ls → ∃ w', Cl D J [vR (sg 13), vI (nI p)] w (some (vI V), w') ∧ UFr w w' ∧ TrM w' (L.foldl psh ls)
theorem bx_head {c : Nat → Nat} {p b d dp : Nat} {w : Wd} {ls : List Nat} (hc : PlOk c) (hp : p < c 4) (hd : 1 ≤ d) (h12 : dp ≤ 12) (hpl : PlIs w 0 c) (ht : TrX w ls) : ∃ w1, TFr w w1 ∧ TrX w1 (psh ls b) ∧ ∀ r, Rn none d jB_begin (28, [some (vR (sg 11)), some (vR (cit 0 0)), some (vI (nI p)), some (vI (nI b)), some (vI (nI dp)), some (vI (nI (dp + 1))), some (vI (nI (so c p)))], [], w1) r → Cl (d + 1) jB_begin [vR (sg 11), vR (cit 0 0), vI (nI p), vI (nI b), vI (nI dp)] w r := by
  have hc4 := hc.2.2.1
  obtain ⟨w1, f1, f2, f3⟩ := x_leave (b := b) ht
  refine ⟨w1, f2, f3, fun r k => ?_⟩
  refine Cl.of rfl rfl rfl (lc := [some (vR (sg 11)), some (vR (cit 0 0)), some (vI (nI p)), some (vI (nI b)), some (vI (nI dp)), none, none]) rfl ?_
  refine Rn.if2t 60 rfl rfl (nI_le h12 (by decide)) ?_
  refine Rn.cv 60 rfl rfl rfl rfl rfl f1 hd ?_
  refine Rn.al 60 rfl rfl rfl rfl (by omega) ?_
  rw [f2 _ cit_sg cit_sg, (hpl.2.2.2.2 p hp).1]
  rw [← nI_add dp 1] at k
  exact Rn.at 1 rfl k
theorem PlIs.tf {w w' : Wd} {c : Nat → Nat} (h : PlIs w 0 c) (f : TFr w w') : PlIs w' 0 c := h.of (by rw [f _ cit_sg cit_sg]) (by rw [f _ cit_sg cit_sg]) (by rw [f _ cit_sg cit_sg]) (fun p _ _ => f _ cit_sg cit_sg)
theorem op12 {w w' : Wd} {o : Nat} (h : w (cit 0 0) 12 = nI o) (f : TFr w w') : w' (cit 0 0) 12 = nI o := by rw [f _ cit_sg cit_sg]; exact h
theorem bx10 {c : Nat → Nat} {o p : Nat} (hc : PlOk c) (hp : p < c 4) : BX c o p 10 2 0 (nI (we c p)) [10] := by
  intro w ls dp hpl ho ht h12
  have hc4 := hc.2.2.1
  obtain ⟨w1, f1, f2, f3⟩ := bx_head (b := 10) hc hp (Nat.le_refl 1) (show dp ≤ 12 by omega) hpl ht
  refine ⟨w1, f3 _ ?_, f1, f2⟩
  refine Rn.tsw 60 (t := 104) rfl rfl rfl ?_
  refine Rn.al 60 rfl rfl rfl rfl (by omega) ?_
  rw [((hpl.tf f1).2.2.2.2 p hp).2.2.2]
  exact Rn.ir 60 rfl rfl rfl rfl
theorem bx20 {c : Nat → Nat} {o p : Nat} (hc : PlOk c) (hp : p < c 4) : BX c o p 20 2 0 (nI p) [20] := by
  intro w ls dp hpl ho ht h12
  obtain ⟨w1, f1, f2, f3⟩ := bx_head (b := 20) hc hp (Nat.le_refl 1) (show dp ≤ 12 by omega) hpl ht
  refine ⟨w1, f3 _ ?_, f1, f2⟩
  refine Rn.tsw 60 (t := 175) rfl rfl rfl ?_
  exact Rn.ir 60 rfl rfl rfl rfl
theorem bx13 {c : Nat → Nat} {o p : Nat} (hc : PlOk c) (hp : p < c 4) : BX c o p 13 3 1 (nI (we c p) - nI 100) [13, 10] := by
  intro w ls dp hpl ho ht h12
  obtain ⟨w1, f1, f2, f3⟩ := bx_head (b := 13) (d := 2) hc hp (by decide) (show dp ≤ 12 by omega) hpl ht
  obtain ⟨w2, g1, g2, g3⟩ := bx10 (o := o) hc hp w1 _ (dp + 1) (hpl.tf f1) (op12 ho f1) f2 (by omega)
  refine ⟨w2, f3 _ ?_, f1.tr g2, g3⟩
  refine Rn.tsw 60 (t := 148) rfl rfl rfl ?_
  refine Rn.cs 60 rfl rfl rfl rfl g1 (by decide) ?_
  exact Rn.ir 60 rfl rfl rfl rfl
theorem bx14 {c : Nat → Nat} {o p : Nat} (hc : PlOk c) (hp : p < c 4) : BX c o p 14 4 2 (nI 2 * (nI (we c p) - nI 100)) [14, 13, 10] := by
  intro w ls dp hpl ho ht h12
  obtain ⟨w1, f1, f2, f3⟩ := bx_head (b := 14) (d := 3) hc hp (by decide) (show dp ≤ 12 by omega) hpl ht
  obtain ⟨w2, g1, g2, g3⟩ := bx13 (o := o) hc hp w1 _ (dp + 1) (hpl.tf f1) (op12 ho f1) f2 (by omega)
  refine ⟨w2, f3 _ ?_, f1.tr g2, g3⟩
  refine Rn.tsw 60 (t := 162) rfl rfl rfl ?_
  refine Rn.cs 60 rfl rfl rfl rfl g1 (by decide) ?_
  exact Rn.ir 60 rfl rfl rfl rfl
def v21 (c : Nat → Nat) (o p : Nat) : Int32 := nI p + nI (cnt (rc c o (ho c p)))
theorem bx21 {c : Nat → Nat} {o p : Nat} (hc : PlOk c) (hp : p < c 4) (h8 : o < 256) : BX c o p 21 3 1 (v21 c o p) [21, 20] := by
  intro w ls dp hpl ho ht h12
  have hc4 := hc.2.2.1
  obtain ⟨_, q1, _, _⟩ := hc.2.2.2.2 p hp
  obtain ⟨w1, f1, f2, f3⟩ := bx_head (b := 21) (d := 2) hc hp (by decide) (show dp ≤ 12 by omega) hpl ht
  obtain ⟨w2, g1, g2, g3⟩ := bx20 (o := o) hc hp w1 _ (dp + 1) (hpl.tf f1) (op12 ho f1) f2 (by omega)
  refine ⟨w2, f3 _ ?_, f1.tr g2, g3⟩
  have hpl2 := (hpl.tf f1).tf g2
  refine Rn.tsw 60 (t := 177) rfl rfl rfl ?_
  refine Rn.cs 60 rfl rfl rfl rfl g1 (by decide) ?_
  refine Rn.al 60 rfl rfl rfl rfl (by omega) ?_
  rw [(hpl2.2.2.2.2 p hp).2.1]
  refine Rn.cv 60 rfl rfl rfl rfl rfl (sp_reachedFrom hc hpl2 (op12 (op12 ho f1) g2) h8 q1) (by decide) ?_
  refine Rn.cs 60 rfl rfl rfl rfl (sp_bitCount (by have := rc_lt hc o q1; omega)) (by decide) ?_
  exact Rn.ir 60 rfl rfl rfl rfl
theorem bx22 {c : Nat → Nat} {o p : Nat} (hc : PlOk c) (hp : p < c 4) (h8 : o < 256) : BX c o p 22 4 2 (v21 c o p - nI 1000) [22, 21, 20] := by
  intro w ls dp hpl ho ht h12
  obtain ⟨w1, f1, f2, f3⟩ := bx_head (b := 22) (d := 3) hc hp (by decide) (show dp ≤ 12 by omega) hpl ht
  obtain ⟨w2, g1, g2, g3⟩ := bx21 (o := o) hc hp h8 w1 _ (dp + 1) (hpl.tf f1) (op12 ho f1) f2 (by omega)
  refine ⟨w2, f3 _ ?_, f1.tr g2, g3⟩
  refine Rn.tsw 60 (t := 202) rfl rfl rfl ?_
  refine Rn.cs 60 rfl rfl rfl rfl g1 (by decide) ?_
  exact Rn.ir 60 rfl rfl rfl rfl
theorem bx24 {c : Nat → Nat} {o p : Nat} (hc : PlOk c) (hp : p < c 4) (h8 : o < 256) : BX c o p 24 4 2 (nI 2 * v21 c o p) [24, 21, 20] := by
  intro w ls dp hpl ho ht h12
  obtain ⟨w1, f1, f2, f3⟩ := bx_head (b := 24) (d := 3) hc hp (by decide) (show dp ≤ 12 by omega) hpl ht
  obtain ⟨w2, g1, g2, g3⟩ := bx21 (o := o) hc hp h8 w1 _ (dp + 1) (hpl.tf f1) (op12 ho f1) f2 (by omega)
  refine ⟨w2, f3 _ ?_, f1.tr g2, g3⟩
  refine Rn.tsw 60 (t := 242) rfl rfl rfl ?_
  refine Rn.cs 60 rfl rfl rfl rfl g1 (by decide) ?_
  exact Rn.ir 60 rfl rfl rfl rfl
