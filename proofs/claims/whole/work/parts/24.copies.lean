/-! copies of a city; a wish changed -/
def cpW (w : Wd) (s d : TA) (a b n : Nat) : Wd := fun t j => if t = d then va_cpy (w s) (w d) a b n j else w t j
theorem cpW_ne {w : Wd} {s d u : TA} {a b n : Nat} (h : u ≠ d) : cpW w s d a b n u = w u := by
  funext j
  unfold cpW
  rw [if_neg h]
theorem cpW_in {w : Wd} {s d : TA} {n j : Nat} (h : j < n) : cpW w s d 0 0 n d j = w s j := by
  unfold cpW va_cpy
  rw [if_pos rfl, if_pos (by omega)]
  congr 1
  omega
theorem cl_copy {w : Wd} {s d : TA} {a b n n0 n1 : Nat} (hs : tm_arr s = some (0, n0)) (hd : tm_arr d = some (0, n1)) (h0 : a + n ≤ n0) (h1 : b + n ≤ n1) : Cl 1 999 [vR s, vI (nI a), vR d, vI (nI b), vI (nI n)] w (none, cpW w s d a b n) := by
  have m0 := tm_arr_le hs
  have m1 := tm_arr_le hd
  refine Cl.jdk rfl ?_
  simp only [tm_jdk, hs, hd]
  rw [if_pos ⟨nI_pos (by omega), nI_pos (by omega), nI_pos (by omega), by rw [nI_clamp (by omega), nI_clamp (by omega)]; exact h0, by rw [nI_clamp (by omega), nI_clamp (by omega)]; exact h1⟩, nI_clamp (by omega), nI_clamp (by omega), nI_clamp (by omega)]
  rfl
theorem cit_k {k k' : Fin 6} {p q : Nat} (h : k ≠ k') : cit k p ≠ cit k' q := fun e => h (by cases e; rfl)
theorem sp_beginAs {w : Wd} {k k' : Fin 6} {c : Nat → Nat} {nr ti o sp dy : Nat} {wf : Nat → Nat} (hk : k ≠ k') (hc : PlOk c) (hp : PlIs w k c) (hT : TbIs w k c) (hd : DyIs w k' c nr ti o sp dy wf) : ∃ w', Cl 2 jC_beginAs [vR (cit k 0), vR (cit k' 0)] w (none, w') ∧ Fr k w w' ∧ CiIs w' k c nr ti o sp dy wf := by
  have hc4 := hc.2.2.1
  obtain ⟨d1, d2, d3, d4, d5, d6⟩ := hd
  have ne : ∀ {p q : Nat}, cit k' p ≠ cit k q := fun z => hk (by cases z; rfl)
  refine ⟨cpW (wset (wset (wset (wset (wset w (cit k 0) 1 (nI nr)) (cit k 0) 2 (nI ti)) (cit k 0) 12 (nI o)) (cit k 0) 13 (nI sp)) (cit k 0) 14 (nI dy)) (cit k' 7) (cit k 7) 0 0 5, ?_, fun t ht => ?_, ?_, ?_, ?_⟩
  · refine Cl.of rfl rfl rfl (lc := [some (vR (cit k 0)), some (vR (cit k' 0))]) rfl ?_
    refine Rn.cs 60 rfl rfl rfl rfl (cl_copy (n0 := 5) (n1 := 5) rfl rfl (by decide) (by decide)) (by decide) ?_
    refine Rn.vr 60 rfl rfl rfl ?_
    have hne : ∀ (w : Wd) (j : Nat) (x : Int32), wset w (cit k 0) j x (cit k' 0) = w (cit k' 0) := fun _ _ _ => wset_ne ne
    simp only [hne, d1, d2, d3, d4, d5]
  · rw [cpW_ne (ht 7), wset_ne (ht 0), wset_ne (ht 0), wset_ne (ht 0), wset_ne (ht 0), wset_ne (ht 0)]
  · refine hp.of ?_ ?_ ?_ (fun q q1 q2 => ?_)
    · rw [cpW_ne (cit_p (by decide)), wset_k (by decide), wset_k (by decide), wset_k (by decide), wset_k (by decide), wset_k (by decide)]
    · rw [cpW_ne (cit_p (by decide)), wset_k (by decide), wset_k (by decide), wset_k (by decide), wset_k (by decide), wset_k (by decide)]
    · rw [cpW_ne (cit_p (by decide)), wset_k (by decide), wset_k (by decide), wset_k (by decide), wset_k (by decide), wset_k (by decide)]
    · rw [cpW_ne (cit_p (by omega)), wset_ne (cit_p (by omega)), wset_ne (cit_p (by omega)), wset_ne (cit_p (by omega)), wset_ne (cit_p (by omega)), wset_ne (cit_p (by omega))]
  · refine ⟨?_, ?_, ?_, ?_, ?_, fun p hp => ?_⟩
    · rw [cpW_ne (cit_p (by decide)), wset_k (by decide), wset_k (by decide), wset_k (by decide), wset_k (by decide), wset_s]
    · rw [cpW_ne (cit_p (by decide)), wset_k (by decide), wset_k (by decide), wset_k (by decide), wset_s]
    · rw [cpW_ne (cit_p (by decide)), wset_k (by decide), wset_k (by decide), wset_s]
    · rw [cpW_ne (cit_p (by decide)), wset_k (by decide), wset_s]
    · rw [cpW_ne (cit_p (by decide)), wset_s]
    · rw [cpW_in (by omega), wset_ne ne, wset_ne ne, wset_ne ne, wset_ne ne, wset_ne ne]
      exact d6 p hp
  · have e16 : cpW (wset (wset (wset (wset (wset w (cit k 0) 1 (nI nr)) (cit k 0) 2 (nI ti)) (cit k 0) 12 (nI o)) (cit k 0) 13 (nI sp)) (cit k 0) 14 (nI dy)) (cit k' 7) (cit k 7) 0 0 5 (cit k 0) 16 = w (cit k 0) 16 := by
      rw [cpW_ne (cit_p (by decide)), wset_k (by decide), wset_k (by decide), wset_k (by decide), wset_k (by decide), wset_k (by decide)]
    rcases hT with h | ⟨mo, h1, h2, h3⟩
    · exact Or.inl (e16.trans h)
    · refine Or.inr ⟨mo, h1, e16.trans h2, h3.of ?_⟩
      rw [cpW_ne (cit_p (by decide)), wset_ne (cit_p (by decide)), wset_ne (cit_p (by decide)), wset_ne (cit_p (by decide)), wset_ne (cit_p (by decide)), wset_ne (cit_p (by decide))]
/-- the plan, as become lays it -/
def bcW (w : Wd) (k k' : Fin 6) (c : Nat → Nat) : Wd := wset (cpW (cpW (cpW (cpW (cpW (cpW (wset (wset (wset w (cit k 0) 0 (nI (c 0))) (cit k 0) 3 (nI (c 3))) (cit k 0) 4 (nI (c 4))) (cit k' 1) (cit k 1) 0 0 8) (cit k' 2) (cit k 2) 0 0 8) (cit k' 3) (cit k 3) 0 0 5) (cit k' 4) (cit k 4) 0 0 5) (cit k' 5) (cit k 5) 0 0 5) (cit k' 6) (cit k 6) 0 0 5) (cit k 0) 16 (-(nI 1))
theorem sp_become {w : Wd} {k k' : Fin 6} {c : Nat → Nat} {nr ti o sp dy : Nat} {wf : Nat → Nat} (hk : k ≠ k') (hc : PlOk c) (hp : PlIs w k' c) (hd : DyIs w k' c nr ti o sp dy wf) : ∃ w', Cl 3 jC_become [vR (cit k 0), vR (cit k' 0)] w (none, w') ∧ Fr k w w' ∧ CiIs w' k c nr ti o sp dy wf := by
  have hc4 := hc.2.2.1
  have hc3 := hc.2.1
  have ne : ∀ {p q : Nat}, cit k' p ≠ cit k q := fun z => hk (by cases z; rfl)
  have fr : Fr k w (bcW w k k' c) := fun t ht => by
    unfold bcW
    rw [wset_ne (ht 0), cpW_ne (ht 6), cpW_ne (ht 5), cpW_ne (ht 4), cpW_ne (ht 3), cpW_ne (ht 2), cpW_ne (ht 1), wset_ne (ht 0), wset_ne (ht 0), wset_ne (ht 0)]
  have p0 : ∀ j, bcW w k k' c (cit k 0) j = if j = 16 then -(nI 1) else if j = 4 then nI (c 4) else if j = 3 then nI (c 3) else if j = 0 then nI (c 0) else w (cit k 0) j := by
    intro j
    unfold bcW
    by_cases h16 : j = 16
    · subst h16
      rw [wset_s, if_pos rfl]
    · rw [wset_k h16, if_neg h16, cpW_ne (cit_p (by decide)), cpW_ne (cit_p (by decide)), cpW_ne (cit_p (by decide)), cpW_ne (cit_p (by decide)), cpW_ne (cit_p (by decide)), cpW_ne (cit_p (by decide))]
      by_cases h4 : j = 4
      · subst h4
        rw [wset_s, if_pos rfl]
      · rw [wset_k h4, if_neg h4]
        by_cases h3 : j = 3
        · subst h3
          rw [wset_s, if_pos rfl]
        · rw [wset_k h3, if_neg h3]
          by_cases h0 : j = 0
          · subst h0
            rw [wset_s, if_pos rfl]
          · rw [wset_k h0, if_neg h0]
  have src : ∀ p, w (cit k' p) = w (cit k' p) := fun _ => rfl
  have hpl : PlIs (bcW w k k' c) k c := by
    obtain ⟨a1, a2, a3, a4, a5⟩ := hp
    refine ⟨p0 0, p0 3, p0 4, fun g hg => ?_, fun p hp => ?_⟩
    · obtain ⟨e1, e2⟩ := a4 g hg
      constructor
      · unfold bcW
        rw [wset_ne (cit_p (by decide)), cpW_ne (cit_p (by decide)), cpW_ne (cit_p (by decide)), cpW_ne (cit_p (by decide)), cpW_ne (cit_p (by decide)), cpW_ne (cit_p (by decide)), cpW_in (by omega), wset_ne ne, wset_ne ne, wset_ne ne]
        exact e1
      · unfold bcW
        rw [wset_ne (cit_p (by decide)), cpW_ne (cit_p (by decide)), cpW_ne (cit_p (by decide)), cpW_ne (cit_p (by decide)), cpW_ne (cit_p (by decide)), cpW_in (by omega), cpW_ne ne, wset_ne ne, wset_ne ne, wset_ne ne]
        exact e2
    · obtain ⟨e1, e2, e3, e4⟩ := a5 p hp
      refine ⟨?_, ?_, ?_, ?_⟩
      · unfold bcW
        rw [wset_ne (cit_p (by decide)), cpW_ne (cit_p (by decide)), cpW_ne (cit_p (by decide)), cpW_ne (cit_p (by decide)), cpW_in (by omega), cpW_ne ne, cpW_ne ne, wset_ne ne, wset_ne ne, wset_ne ne]
        exact e1
      · unfold bcW
        rw [wset_ne (cit_p (by decide)), cpW_ne (cit_p (by decide)), cpW_ne (cit_p (by decide)), cpW_in (by omega), cpW_ne ne, cpW_ne ne, cpW_ne ne, wset_ne ne, wset_ne ne, wset_ne ne]
        exact e2
      · unfold bcW
        rw [wset_ne (cit_p (by decide)), cpW_ne (cit_p (by decide)), cpW_in (by omega), cpW_ne ne, cpW_ne ne, cpW_ne ne, cpW_ne ne, wset_ne ne, wset_ne ne, wset_ne ne]
        exact e3
      · unfold bcW
        rw [wset_ne (cit_p (by decide)), cpW_in (by omega), cpW_ne ne, cpW_ne ne, cpW_ne ne, cpW_ne ne, cpW_ne ne, wset_ne ne, wset_ne ne, wset_ne ne]
        exact e4
  have hkd : ∀ p, bcW w k k' c (cit k' p) = w (cit k' p) := fun p => fr _ (fun q => ne)
  have hdd : DyIs (bcW w k k' c) k' c nr ti o sp dy wf := hd.of (fun j _ => by rw [hkd]) (hkd 7)
  obtain ⟨w', g1, g2, g3⟩ := sp_beginAs hk hc hpl (Or.inl (p0 16)) hdd
  refine ⟨w', ?_, fr.tr g2, g3⟩
  refine Cl.of rfl rfl rfl (lc := [some (vR (cit k 0)), some (vR (cit k' 0))]) rfl ?_
  refine Rn.cs 60 rfl rfl rfl rfl (cl_copy (n0 := 8) (n1 := 8) rfl rfl (by decide) (by decide)) (by decide) ?_
  refine Rn.cs 60 rfl rfl rfl rfl (cl_copy (n0 := 8) (n1 := 8) rfl rfl (by decide) (by decide)) (by decide) ?_
  refine Rn.cs 60 rfl rfl rfl rfl (cl_copy (n0 := 5) (n1 := 5) rfl rfl (by decide) (by decide)) (by decide) ?_
  refine Rn.cs 60 rfl rfl rfl rfl (cl_copy (n0 := 5) (n1 := 5) rfl rfl (by decide) (by decide)) (by decide) ?_
  refine Rn.cs 60 rfl rfl rfl rfl (cl_copy (n0 := 5) (n1 := 5) rfl rfl (by decide) (by decide)) (by decide) ?_
  refine Rn.cs 60 rfl rfl rfl rfl (cl_copy (n0 := 5) (n1 := 5) rfl rfl (by decide) (by decide)) (by decide) ?_
  have hne : ∀ (w : Wd) (j : Nat) (x : Int32), wset w (cit k 0) j x (cit k' 0) = w (cit k' 0) := fun _ _ _ => wset_ne ne
  rw [hne, hne, hne, hp.1, hp.2.1, hp.2.2.1]
  refine Rn.cv 60 rfl rfl rfl rfl rfl g1 (by decide) ?_
  exact Rn.vr 60 rfl rfl rfl rfl
def sbN (f g : Nat) (b : Bool) : Nat := (f &&& (255 ^^^ 2 ^ g)) ||| bif b then 2 ^ g else 0
def upW (wf : Nat → Nat) (p v : Nat) : Nat → Nat := fun q => if q = p then v else wf q
theorem nJ_clr : ∀ g, g < 8 → ∀ f, f < 256 → nI f &&& (nI (2 ^ g) ^^^ -(nI 1)) = nI (f &&& (255 ^^^ 2 ^ g)) := by decide +kernel
theorem sbN_lt {f g : Nat} {b : Bool} (hf : f < 256) (hg : g < 8) : sbN f g b < 256 := by
  unfold sbN
  refine Nat.or_lt_two_pow (n := 8) (Nat.lt_of_le_of_lt Nat.and_le_left hf) ?_
  cases b
  · show 0 < 2 ^ 8
    decide
  · exact Nat.pow_lt_pow_right (by decide) hg
theorem sp_wishSo {w : Wd} {k : Fin 6} {c : Nat → Nat} {nr ti o sp dy p g : Nat} {wf : Nat → Nat} (b : Bool) (hc : PlOk c) (h : CiIs w k c nr ti o sp dy wf) (hw : wf p < 256) (hp : p < c 4) (hg : g < 8) : ∃ w', Cl 1 jC_wishSo [vR (cit k 0), vI (nI p), vI (nI g), vI (bI b)] w (none, w') ∧ Fr k w w' ∧ CiIs w' k c nr ti o sp dy (upW wf p (sbN (wf p) g b)) := by
  have hc4 := hc.2.2.1
  obtain ⟨h1, ⟨d1, d2, d3, d4, d5, d6⟩, h3⟩ := h
  refine ⟨wset w (cit k 7) p (nI (sbN (wf p) g b)), ?_, fun t ht => wset_ne (ht 7), ?_, ?_, ?_⟩
  · refine Cl.of rfl rfl rfl (lc := [some (vR (cit k 0)), some (vI (nI p)), some (vI (nI g)), some (vI (bI b))]) rfl ?_
    refine Rn.al 60 rfl rfl rfl rfl (by omega) ?_
    rw [d6 p hp]
    refine Rn.as 60 rfl rfl rfl rfl (by omega) ?_
    refine Rn.vr 60 rfl rfl rfl ?_
    dsimp only
    rw [nJ_1shl (by omega), nJ_clr g hg _ hw]
    congr 2
    unfold sbN
    rw [← nJ_or]
    congr 1
    cases b
    · rw [bI_f, nJ_shl (by omega) (by rw [Nat.zero_mul]; decide), Nat.zero_mul]
      rfl
    · rw [bI_t, nJ_1shl (by omega)]
      rfl
  · exact h1.of (by rw [wset_ne (cit_p (by decide))]) (by rw [wset_ne (cit_p (by decide))]) (by rw [wset_ne (cit_p (by decide))]) (fun q q1 q2 => wset_ne (cit_p (by omega)))
  · refine ⟨by rw [wset_ne (cit_p (by decide))]; exact d1, by rw [wset_ne (cit_p (by decide))]; exact d2, by rw [wset_ne (cit_p (by decide))]; exact d3, by rw [wset_ne (cit_p (by decide))]; exact d4, by rw [wset_ne (cit_p (by decide))]; exact d5, fun q hq => ?_⟩
    unfold upW
    by_cases e : q = p
    · subst e
      rw [wset_s, if_pos rfl]
    · rw [wset_k e, if_neg e]
      exact d6 q hq
  · rcases h3 with z | ⟨mo, z1, z2, z3⟩
    · exact Or.inl (by rw [wset_ne (cit_p (by decide))]; exact z)
    · exact Or.inr ⟨mo, z1, by rw [wset_ne (cit_p (by decide))]; exact z2, z3.of (wset_ne (cit_p (by decide)))⟩
theorem sp_isLike {w : Wd} {k k' : Fin 6} {o sp o' sp' : Nat} (h1 : w (cit k 0) 12 = nI o) (h2 : w (cit k 0) 13 = nI sp) (h3 : w (cit k' 0) 12 = nI o') (h4 : w (cit k' 0) 13 = nI sp') (l1 : o < 256) (l2 : sp < 32) (l3 : o' < 256) (l4 : sp' < 32) : Cl 1 jC_isLike [vR (cit k 0), vR (cit k' 0)] w (some (vI (bI (decide ((o, sp) = (o', sp'))))), w) := by
  refine Cl.of rfl rfl rfl (lc := [some (vR (cit k 0)), some (vR (cit k' 0))]) rfl ?_
  refine Rn.if2 60 rfl rfl (fun h => ?_) (fun h => ?_)
  · dsimp only [tm_c2P] at h
    rw [h1, h3, nI_eq (by omega) (by omega)] at h
    refine Rn.zr 60 rfl rfl rfl (by decide) ?_
    rw [decide_eq_false (fun z => h (by cases z; rfl))]
    rfl
  · dsimp only [tm_c2P] at h
    rw [h1, h3, nI_eq (by omega) (by omega), Classical.not_not] at h
    refine Rn.if2 60 rfl rfl (fun h5 => ?_) (fun h5 => ?_)
    · dsimp only [tm_c2P] at h5
      rw [h2, h4, nI_eq (by omega) (by omega)] at h5
      refine Rn.zr 60 rfl rfl rfl (by decide) ?_
      rw [decide_eq_false (fun z => h5 (by cases z; rfl))]
      rfl
    · dsimp only [tm_c2P] at h5
      rw [h2, h4, nI_eq (by omega) (by omega), Classical.not_not] at h5
      refine Rn.zr 60 rfl rfl rfl (by decide) ?_
      rw [decide_eq_true (by rw [h, h5])]
      rfl
