/-! the class's city: steps measured, votes, dawn -/
def fillW (w : Wd) (t : TA) (m : Nat) (x : Int32) : Wd := fun t' j => if t' = t then (if j < m then x else w t j) else w t' j
theorem fillW_ne {w : Wd} {t u : TA} {m : Nat} {x : Int32} (h : u ≠ t) : fillW w t m x u = w u := by
  funext j
  unfold fillW
  rw [if_neg h]
theorem fillW_lt {w : Wd} {t : TA} {m j : Nat} {x : Int32} (h : j < m) : fillW w t m x t j = x := by
  unfold fillW
  rw [if_pos rfl, if_pos h]
theorem fillW_0 {w : Wd} {t : TA} {x : Int32} : fillW w t 0 x = w := by
  funext u j
  unfold fillW
  by_cases h : u = t
  · rw [if_pos h, if_neg (by omega), h]
  · rw [if_neg h]
theorem fillW_s {w : Wd} {t : TA} {m : Nat} {x : Int32} : wset (fillW w t m x) t m x = fillW w t (m + 1) x := by
  funext u j
  by_cases h : u = t
  · subst h
    by_cases h2 : j = m
    · subst h2
      simp [wset, fillW]
    · by_cases h3 : j < m
      · simp [wset, fillW, h2, h3, show j < m + 1 by omega]
      · simp [wset, fillW, h2, h3, show ¬ j < m + 1 by omega]
  · simp [wset, fillW, h]
theorem sp_fill {w : Wd} {t : TA} {m : Nat} {x : Int32} (ht : tm_arr t = some (0, m)) : Cl 1 jAr_fill [vR t, vI x] w (none, fillW w t m x) := by
  have hm := tm_arr_le ht
  refine Cl.of rfl rfl rfl (lc := [some (vR t), some (vI x), none, none]) rfl ?_
  have key : ∀ n i, i + n = m → Rn none 0 jAr_fill (5, [some (vR t), some (vI x), some (vI (nI i)), some (vI (nI m))], [], fillW w t i x) (none, fillW w t m x) := by
    intro n
    induction n with
    | zero =>
      intro i hi
      obtain rfl : i = m := by omega
      refine Rn.if2t 60 rfl rfl (nI_le (Nat.le_refl _) (by omega)) ?_
      exact Rn.vr 60 rfl rfl rfl rfl
    | succ n ih =>
      intro i hi
      refine Rn.if2f 60 rfl rfl (nI_ge (by omega) (by omega)) ?_
      refine Rn.as 60 rfl rfl ht rfl (by omega) ?_
      have ih := ih (i + 1) (by omega)
      rw [nI_succ, ← fillW_s] at ih
      exact Rn.at 2 rfl ih
  have k := key m 0 (by omega)
  rw [fillW_0] at k
  refine Rn.at 3 (x := (3, [some (vR t), some (vI x), some (vI (nI 0)), none], [vR t], w)) rfl ?_
  refine Rn.sem (ins := .arraylength) rfl (y := (4, [some (vR t), some (vI x), some (vI (nI 0)), none], [vI (nI m)], w)) ?_ ?_
  · show tm_len none (3 + 1) [some (vR t), some (vI x), some (vI (nI 0)), none] [vR t] w = _
    unfold tm_len
    dsimp only
    rw [ht]
    rfl
  · exact Rn.at 1 rfl k
def MfI (c : Nat → Nat) (k : Fin 6) (o p : Nat) (w0 w : Wd) (pa i : Nat) : Prop := (∀ t, t ≠ cit k 8 → w t = w0 t) ∧ (∀ x, (∀ g, g < c 3 → x ≠ 8 * p + g) → w (cit k 8) x = w0 (cit k 8) x) ∧ ∀ g, g < c 3 → w (cit k 8) (8 * p + g) = nI (stT c o (2 ^ ho c p) g (if g < i then pa + 1 else pa))
theorem PlIs.of {w w' : Wd} {k : Fin 6} {c : Nat → Nat} (h : PlIs w k c) (h0 : w' (cit k 0) 0 = w (cit k 0) 0) (h3 : w' (cit k 0) 3 = w (cit k 0) 3) (h4 : w' (cit k 0) 4 = w (cit k 0) 4) (hp : ∀ p, 1 ≤ p → p ≤ 6 → w' (cit k p) = w (cit k p)) : PlIs w' k c := by
  obtain ⟨a1, a2, a3, a4, a5⟩ := h
  refine ⟨h0.trans a1, h3.trans a2, h4.trans a3, fun g hg => ?_, fun p hp' => ?_⟩
  · rw [hp 1 (by decide) (by decide), hp 2 (by decide) (by decide)]
    exact a4 g hg
  · rw [hp 3 (by decide) (by decide), hp 4 (by decide) (by decide), hp 5 (by decide) (by decide), hp 6 (by decide) (by decide)]
    exact a5 p hp'
theorem sp_mf_in {w0 : Wd} {k : Fin 6} {c : Nat → Nat} {o p pa : Nat} {r : Rs} (hc : PlOk c) (hp : PlIs w0 k c) (hop : w0 (cit k 0) 12 = nI o) (h8 : o < 256) (hpl : p < c 4) (hpa : pa < c 0) : ∀ n g m w x6, g + n = c 3 → MfI c k o p w0 w pa g → ∃ w' x6', MfI c k o p w0 w' pa (c 3) ∧ ∀ r, Rn none 1 jC_measureFor (102, [some (vR (cit k 0)), some (vI (nI p)), some (vI (nI (lvs c o (2 ^ ho c p) pa))), some (vI (nI pa)), some (vI (nI (lvN c o (lvs c o (2 ^ ho c p) pa) n g m))), some (vI (nI (c 3))), x6'], [], w') r → Rn none 1 jC_measureFor (25, [some (vR (cit k 0)), some (vI (nI p)), some (vI (nI (lvs c o (2 ^ ho c p) pa))), some (vI (nI pa)), some (vI (nI m)), some (vI (nI g)), x6], [], w) r := by
  have hc4 := hc.2.2.1
  have hc3 := hc.2.1
  have hc0 := hc.1
  intro n
  induction n with
  | zero =>
    intro g m w x6 hg hI
    obtain rfl : g = c 3 := by omega
    refine ⟨w, x6, hI, fun r k1 => ?_⟩
    have hpw : w (cit k 0) 3 = nI (c 3) := by rw [hI.1 _ (cit_p (by decide))]; exact hp.2.1
    exact Rn.if2t 60 rfl rfl (by dsimp only [tm_c2P]; rw [hpw]; exact nI_le (Nat.le_refl _) (by omega)) k1
  | succ n ih =>
    intro g m w x6 hg hI
    have hgl : g < c 3 := by omega
    have e0 : w (cit k 0) = w0 (cit k 0) := hI.1 _ (cit_p (by decide))
    have hpw : PlIs w k c := hp.of (by rw [e0]) (by rw [e0]) (by rw [e0]) (fun q h1 h2 => hI.1 _ (cit_p (by omega)))
    have how : w (cit k 0) 12 = nI o := by rw [e0]; exact hop
    have hpass : MfI c k o p w0 w pa (g + 1) → tch c (lvs c o (2 ^ ho c p) pa) g = false ∨ True := fun _ => Or.inr trivial
    have hstart : ∀ {r}, Rn none 1 jC_measureFor (42, [some (vR (cit k 0)), some (vI (nI p)), some (vI (nI (lvs c o (2 ^ ho c p) pa))), some (vI (nI pa)), some (vI (nI m)), some (vI (nI g)), x6], [vI (nI (lvs c o (2 ^ ho c p) pa) &&& nI (eN c g))], w) r → Rn none 1 jC_measureFor (25, [some (vR (cit k 0)), some (vI (nI p)), some (vI (nI (lvs c o (2 ^ ho c p) pa))), some (vI (nI pa)), some (vI (nI m)), some (vI (nI g)), x6], [], w) r := by
      intro r k1
      refine Rn.if2f 60 rfl rfl (by dsimp only [tm_c2P]; rw [hpw.2.1]; exact nI_ge hgl (by omega)) ?_
      refine Rn.cv 60 rfl rfl rfl rfl rfl (sp_endsOf hc hpw hgl) (by decide) ?_
      exact Rn.at 1 rfl k1
    cases ht : tch c (lvs c o (2 ^ ho c p) pa) g with
    | false =>
      have hI2 : MfI c k o p w0 w pa (g + 1) := by
        refine ⟨hI.1, hI.2.1, fun g' hg' => ?_⟩
        rw [hI.2.2 g' hg']
        by_cases e : g' = g
        · subst e
          rw [if_neg (by omega), if_pos (by omega)]
          rw [show stT c o (2 ^ ho c p) g' (pa + 1) = stT c o (2 ^ ho c p) g' pa by rw [stT, ht, cond_false]]
        · by_cases e2 : g' < g
          · rw [if_pos e2, if_pos (by omega)]
          · rw [if_neg e2, if_neg (by omega)]
      obtain ⟨w', x6', h1, h2⟩ := ih (g + 1) m w x6 (by omega) hI2
      refine ⟨w', x6', h1, fun r k1 => hstart ?_⟩
      refine Rn.if1t 60 rfl rfl ((tch_nI hc hgl _).mpr ht) ?_
      have h3 := h2 r (by
        have e : lvN c o (lvs c o (2 ^ ho c p) pa) (n + 1) g m = lvN c o (lvs c o (2 ^ ho c p) pa) n (g + 1) m := by
          rw [lvN, ht, Bool.and_false, cond_false]
        rw [e] at k1
        exact k1)
      rw [nI_succ g] at h3
      exact Rn.at 2 rfl h3
    | true =>
      have hv : w (cit k 8) (8 * p + g) = nI (stT c o (2 ^ ho c p) g pa) := by
        rw [hI.2.2 g hgl, if_neg (by omega)]
      have hT := stT_100 (c := c) (o := o) (s := 2 ^ ho c p) (g := g) pa
      have hI2 : MfI c k o p w0 (wset w (cit k 8) (8 * p + g) (nI (min (stT c o (2 ^ ho c p) g pa) pa))) pa (g + 1) := by
        refine ⟨fun t hne => (wset_ne hne).trans (hI.1 t hne), fun x hx => ?_, fun g' hg' => ?_⟩
        · rw [wset_k (hx g hgl)]
          exact hI.2.1 x hx
        · by_cases e : g' = g
          · subst e
            rw [wset_s, if_pos (by omega), stT, ht, cond_true]
          · rw [wset_k (by omega), hI.2.2 g' hg']
            by_cases e2 : g' < g
            · rw [if_pos e2, if_pos (by omega)]
            · rw [if_neg e2, if_neg (by omega)]
      obtain ⟨w', x6', h1, h2⟩ := ih (g + 1) (bif o.testBit g then m ||| eN c g else m) (wset w (cit k 8) (8 * p + g) (nI (min (stT c o (2 ^ ho c p) g pa) pa))) (some (vI (nI (8 * p + g)))) (by omega) hI2
      refine ⟨w', x6', h1, fun r k1 => hstart ?_⟩
      have h3 := h2 r (by
        have e : lvN c o (lvs c o (2 ^ ho c p) pa) (n + 1) g m = lvN c o (lvs c o (2 ^ ho c p) pa) n (g + 1) (bif o.testBit g then m ||| eN c g else m) := by
          rw [lvN, ht, Bool.and_true]
        rw [e] at k1
        exact k1)
      rw [nI_succ g] at h3
      have ht2 : ¬ nI (lvs c o (2 ^ ho c p) pa) &&& nI (eN c g) = 0 := by rw [tch_nI hc hgl, ht]; exact fun z => by cases z
      refine Rn.if1f 60 rfl rfl ht2 ?_
      have ei : nI p * nI 8 + nI g = nI (8 * p + g) := by rw [pk_mul, nI_add, Nat.mul_comm]
      have e7 : tm_adv none jC_measureFor 5 45 [some (vR (cit k 0)), some (vI (nI p)), some (vI (nI (lvs c o (2 ^ ho c p) pa))), some (vI (nI pa)), some (vI (nI m)), some (vI (nI g)), x6] [] w = (52, [some (vR (cit k 0)), some (vI (nI p)), some (vI (nI (lvs c o (2 ^ ho c p) pa))), some (vI (nI pa)), some (vI (nI m)), some (vI (nI g)), x6], [vI (nI p * nI 8 + nI g)], w) := rfl
      refine Rn.at 5 e7 ?_
      rw [ei]
      refine Rn.al 60 rfl rfl rfl rfl (by omega) ?_
      rw [hv]
      refine Rn.cs 60 rfl rfl rfl rfl (Cl.jdk rfl rfl) (by decide) ?_
      rw [nJ_min (by omega) (by omega)]
      refine Rn.as 60 rfl rfl rfl rfl (by omega) ?_
      have hnw : wset w (cit k 8) (8 * p + g) (nI (min (stT c o (2 ^ ho c p) g pa) pa)) (cit k 0) = w (cit k 0) := wset_ne (cit_p (by decide))
      have hpw2 : PlIs (wset w (cit k 8) (8 * p + g) (nI (min (stT c o (2 ^ ho c p) g pa) pa))) k c := hpw.of (by rw [hnw]) (by rw [hnw]) (by rw [hnw]) (fun q h1 h2 => wset_ne (cit_p (by omega)))
      refine Rn.cv 60 rfl rfl rfl rfl rfl (sp_isOpen (o := o) (by rw [hnw]; exact how) (by omega) h8) (by decide) ?_
      refine Rn.if1 60 rfl rfl (fun h => ?_) (fun h => ?_)
      · dsimp only [tm_c2P] at h
        rw [bI_eq0] at h
        rw [h, cond_false] at h3
        rw [← Nat.or_zero m, ← nJ_or] at h3
        exact Rn.at 5 rfl h3
      · dsimp only [tm_c2P] at h
        rw [bI_eq0, Bool.not_eq_false] at h
        rw [h, cond_true, ← nJ_or] at h3
        refine Rn.cv 60 rfl rfl rfl rfl rfl (sp_endsOf hc hpw2 hgl) (by decide) ?_
        exact Rn.at 5 rfl h3

theorem sp_measureFor {w0 : Wd} {k : Fin 6} {c : Nat → Nat} {o p : Nat} (hc : PlOk c) (hp : PlIs w0 k c) (hop : w0 (cit k 0) 12 = nI o) (h8 : o < 256) (hpl : p < c 4) (hT : ∀ g, g < c 3 → w0 (cit k 8) (8 * p + g) = nI 100) : ∃ w', Cl 2 jC_measureFor [vR (cit k 0), vI (nI p)] w0 (none, w') ∧ (∀ t, t ≠ cit k 8 → w' t = w0 t) ∧ (∀ x, (∀ g, g < c 3 → x ≠ 8 * p + g) → w' (cit k 8) x = w0 (cit k 8) x) ∧ ∀ g, g < c 3 → w' (cit k 8) (8 * p + g) = nI (st c o p g) := by
  obtain ⟨b1, b2, b3, b4⟩ := hc.2.2.2.2 p hpl
  obtain ⟨a1, a2, a3, a4⟩ := hp.2.2.2.2 p hpl
  have hc4 := hc.2.2.1
  have hc3 := hc.2.1
  have hc0 := hc.1
  have key : ∀ n pa w x4 x5 x6, pa + n = c 0 → MfI c k o p w0 w pa 0 → ∃ w', MfI c k o p w0 w' (c 0) 0 ∧ Rn none 1 jC_measureFor (11, [some (vR (cit k 0)), some (vI (nI p)), some (vI (nI (lvs c o (2 ^ ho c p) pa))), some (vI (nI pa)), x4, x5, x6], [], w) (none, w') := by
    intro n
    induction n with
    | zero =>
      intro pa w x4 x5 x6 hpa hI
      obtain rfl : pa = c 0 := by omega
      refine ⟨w, hI, ?_⟩
      have hpw : w (cit k 0) 0 = nI (c 0) := by rw [hI.1 _ (cit_p (by decide))]; exact hp.1
      refine Rn.if2t 60 rfl rfl (by dsimp only [tm_c2P]; rw [hpw]; exact nI_le (Nat.le_refl _) (by omega)) ?_
      exact Rn.vr 60 rfl rfl rfl rfl
    | succ n ih =>
      intro pa w x4 x5 x6 hpa hI
      obtain ⟨w1, x6', hI1, h1⟩ := sp_mf_in (r := (none, w)) hc hp hop h8 hpl (pa := pa) (by omega) (c 3) 0 (lvs c o (2 ^ ho c p) pa) w x6 (by omega) hI
      have hI2 : MfI c k o p w0 w1 (pa + 1) 0 := by
        refine ⟨hI1.1, hI1.2.1, fun g hg => ?_⟩
        rw [hI1.2.2 g hg, if_pos hg, if_neg (by omega)]
      obtain ⟨w2, hI3, h2⟩ := ih (pa + 1) w1 (some (vI (nI (lvs c o (2 ^ ho c p) (pa + 1))))) (some (vI (nI (c 3)))) x6' (by omega) hI2
      refine ⟨w2, hI3, ?_⟩
      have hpw : w (cit k 0) 0 = nI (c 0) := by rw [hI.1 _ (cit_p (by decide))]; exact hp.1
      refine Rn.if2f 60 rfl rfl (by dsimp only [tm_c2P]; rw [hpw]; exact nI_ge (by omega) (by omega)) ?_
      refine Rn.at 4 rfl (h1 _ ?_)
      rw [nI_succ pa] at h2
      exact Rn.at 4 rfl h2
  obtain ⟨w', hI, h⟩ := key (c 0) 0 w0 none none none (by omega) ⟨fun _ _ => rfl, fun _ _ => rfl, fun g hg => by rw [hT g hg, if_neg (by omega)]; rfl⟩
  refine ⟨w', ?_, hI.1, hI.2.1, fun g hg => ?_⟩
  · refine Cl.of rfl rfl rfl (lc := [some (vR (cit k 0)), some (vI (nI p)), none, none, none, none, none]) rfl ?_
    refine Rn.al 60 rfl rfl rfl rfl (by omega) ?_
    rw [a2]
    rw [show lvs c o (2 ^ ho c p) 0 = 2 ^ ho c p from rfl, ← nJ_1shl (by omega)] at h
    exact Rn.at 4 rfl h
  · rw [hI.2.2 g hg, if_neg (by omega), st_eq hc o b2]
    rfl
/-- measured: the table holds for the gates that are open now -/
theorem sp_measure {w : Wd} {k : Fin 6} {c : Nat → Nat} {o : Nat} (hc : PlOk c) (hp : PlIs w k c) (hop : w (cit k 0) 12 = nI o) (h8 : o < 256) (hT : TbIs w k c) : ∃ w', Cl 3 jC_measure [vR (cit k 0)] w (none, w') ∧ (∀ t, t ≠ cit k 0 → t ≠ cit k 8 → w' t = w t) ∧ (∀ j, j ≠ 16 → w' (cit k 0) j = w (cit k 0) j) ∧ w' (cit k 0) 16 = nI o ∧ Tab w' k c o := by
  have hc4 := hc.2.2.1
  have hc3 := hc.2.1
  by_cases hm : w (cit k 0) 16 = nI o
  · refine ⟨w, ?_, fun _ _ _ => rfl, fun _ _ => rfl, hm, ?_⟩
    · refine Cl.of rfl rfl rfl (lc := [some (vR (cit k 0)), none]) rfl ?_
      refine Rn.if2f 60 rfl rfl (by dsimp only [tm_c2P]; rw [hm, hop]; exact fun z => z rfl) ?_
      exact Rn.vr 60 rfl rfl rfl rfl
    · rcases hT with h | ⟨mo, h1, h2, h3⟩
      · exact absurd (h.symm.trans hm) (nJ_m1 h8)
      · have e : mo = o := (nI_eq (by omega) (by omega)).mp (h2.symm.trans hm)
        subst e
        exact h3
  · have e0 : ∀ j, j ≠ 16 → fillW (wset w (cit k 0) 16 (nI o)) (cit k 8) 40 (nI 100) (cit k 0) j = w (cit k 0) j := fun j hj => by
      rw [fillW_ne (cit_p (by decide)), wset_k hj]
    have key : ∀ n p w1, p + n = c 4 → (∀ t, t ≠ cit k 0 → t ≠ cit k 8 → w1 t = w t) → (∀ j, j ≠ 16 → w1 (cit k 0) j = w (cit k 0) j) → w1 (cit k 0) 16 = nI o → (∀ q, q < p → ∀ g, g < c 3 → w1 (cit k 8) (8 * q + g) = nI (st c o q g)) → (∀ q, p ≤ q → q < c 4 → ∀ g, g < c 3 → w1 (cit k 8) (8 * q + g) = nI 100) → ∃ w', Rn none 2 jC_measure (31, [some (vR (cit k 0)), some (vI (nI p))], [], w1) (none, w') ∧ (∀ t, t ≠ cit k 0 → t ≠ cit k 8 → w' t = w t) ∧ (∀ j, j ≠ 16 → w' (cit k 0) j = w (cit k 0) j) ∧ w' (cit k 0) 16 = nI o ∧ Tab w' k c o := by
      intro n
      induction n with
      | zero =>
        intro p w1 hpn h1 h2 h3 h4 h5
        obtain rfl : p = c 4 := by omega
        refine ⟨w1, ?_, h1, h2, h3, h4⟩
        refine Rn.if2t 60 rfl rfl (by dsimp only [tm_c2P]; rw [h2 4 (by decide), hp.2.2.1]; exact nI_le (Nat.le_refl _) (by omega)) ?_
        exact Rn.vr 60 rfl rfl rfl rfl
      | succ n ih =>
        intro p w1 hpn h1 h2 h3 h4 h5
        have hpw : PlIs w1 k c := hp.of (h2 0 (by decide)) (h2 3 (by decide)) (h2 4 (by decide)) (fun q g1 g2 => h1 _ (cit_p (by omega)) (cit_p (by omega)))
        obtain ⟨w2, g1, g2, g3, g4⟩ := sp_measureFor hc hpw (by rw [h2 12 (by decide)]; exact hop) h8 (p := p) (by omega) (h5 p (Nat.le_refl _) (by omega))
        have gz : w2 (cit k 0) = w1 (cit k 0) := g2 _ (cit_p (by decide))
        obtain ⟨w', f1, f2, f3, f4, f5⟩ := ih (p + 1) w2 (by omega) (fun t a b => (g2 t b).trans (h1 t a b)) (fun j hj => by rw [gz]; exact h2 j hj) (by rw [gz]; exact h3) (fun q hq g hg => by
          by_cases e : q = p
          · subst e
            exact g4 g hg
          · rw [g3 _ (fun g' hg' => by omega)]
            exact h4 q (by omega) g hg) (fun q hq hq2 g hg => by
          rw [g3 _ (fun g' hg' => by omega)]
          exact h5 q (by omega) hq2 g hg)
        refine ⟨w', ?_, f2, f3, f4, f5⟩
        refine Rn.if2f 60 rfl rfl (by dsimp only [tm_c2P]; rw [h2 4 (by decide), hp.2.2.1]; exact nI_ge (by omega) (by omega)) ?_
        refine Rn.cv 60 rfl rfl rfl rfl rfl g1 (by decide) ?_
        rw [nI_succ p] at f1
        exact Rn.at 2 rfl f1
    obtain ⟨w', f1, f2⟩ := key (c 4) 0 (fillW (wset w (cit k 0) 16 (nI o)) (cit k 8) 40 (nI 100)) (by omega) (fun t a b => by rw [fillW_ne b, wset_ne a]) e0 (by rw [fillW_ne (cit_p (by decide)), wset_s]) (fun q hq => absurd hq (by omega)) (fun q _ hq g hg => fillW_lt (by omega))
    refine ⟨w', ?_, f2⟩
    refine Cl.of rfl rfl rfl (lc := [some (vR (cit k 0)), none]) rfl ?_
    refine Rn.if2t 60 rfl rfl (by dsimp only [tm_c2P]; rw [hop]; exact hm) ?_
    refine Rn.cs 60 rfl rfl rfl rfl (sp_fill (m := 40) rfl) (by decide) ?_
    rw [hop]
    exact Rn.at 2 rfl f1
