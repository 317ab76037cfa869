/-! image, restore -/
def ccW (w : Wd) (a b n : Nat) : Wd := fun t k => if t = sg 17 ∧ 49 * b ≤ k ∧ k < 49 * b + n then w (sg 17) (49 * a + (k - 49 * b)) else w t k
theorem ccW_ne {w : Wd} {a b n : Nat} {t : TA} (h : t ≠ sg 17) : ccW w a b n t = w t := funext (fun k => if_neg (fun z => h z.1))
theorem ccW_out {w : Wd} {a b n k : Nat} (h : k < 49 * b ∨ 49 * b + n ≤ k) : ccW w a b n (sg 17) k = w (sg 17) k := if_neg (fun z => by omega)
theorem ccW_in {w : Wd} {a b j : Nat} (h : j < 49) : ccW w a b 49 (sg 17) (49 * b + j) = w (sg 17) (49 * a + j) := by
  unfold ccW
  rw [if_pos ⟨rfl, by omega, by omega⟩, show 49 * b + j - 49 * b = j by omega]
theorem ccW_s {w : Wd} {a b n : Nat} : wset (ccW w a b n) (sg 17) (49 * b + n) (w (sg 17) (49 * a + n)) = ccW w a b (n + 1) := by
  funext t k
  unfold wset ccW
  by_cases h : t = sg 17
  · subst h
    rw [if_pos rfl]
    by_cases e : k = 49 * b + n
    · subst e
      rw [if_pos rfl, if_pos ⟨rfl, by omega, by omega⟩, show 49 * b + n - 49 * b = n by omega]
    · rw [if_neg e]
      by_cases e2 : 49 * b ≤ k ∧ k < 49 * b + n
      · rw [if_pos ⟨rfl, e2⟩, if_pos ⟨rfl, by omega, by omega⟩]
      · rw [if_neg (fun z => e2 z.2), if_neg (fun z => by omega)]
  · rw [if_neg h, if_neg (fun z => h z.1), if_neg (fun z => h z.1)]
theorem ccW_0 {w : Wd} {a b : Nat} : ccW w a b 0 = w := by
  funext t k
  exact if_neg (fun z => by omega)
theorem m_copyCity {w : Wd} {a b : Nat} (ha : a < 4) (hb : b < 4) (hab : a ≠ b) : Cl 1 jM_copyCity [vR (sg 13), vI (nI a), vI (nI b)] w (none, ccW w a b 49) := by
  have key : ∀ m k, k + m = 49 → Rn none 0 jM_copyCity (2, [some (vR (sg 13)), some (vI (nI a)), some (vI (nI b)), some (vI (nI k))], [], ccW w a b k) (none, ccW w a b 49) := by
    intro m
    induction m with
    | zero =>
      intro k hk
      obtain rfl : k = 49 := by omega
      refine Rn.if2t 60 rfl rfl (by dsimp only [tm_c2P]; decide) ?_
      exact Rn.vr 60 rfl rfl rfl rfl
    | succ m ih =>
      intro k hk
      have k1 := ih (k + 1) (by omega)
      refine Rn.if2f 60 rfl rfl (nI_ge (by omega) (by omega)) ?_
      refine Rn.al 60 (j := 49 * a + k) rfl rfl rfl (by dsimp only; rw [pk_mul, nI_add]) (by omega) ?_
      refine Rn.as 60 (j := 49 * b + k) rfl rfl rfl (by dsimp only; rw [pk_mul, nI_add]) (by omega) ?_
      rw [ccW_out (show 49 * a + k < 49 * b ∨ 49 * b + k ≤ 49 * a + k by omega), ccW_s]
      rw [nI_succ k] at k1
      exact Rn.at 2 rfl k1
  refine Cl.of rfl rfl rfl (lc := [some (vR (sg 13)), some (vI (nI a)), some (vI (nI b)), none]) rfl ?_
  have k0 := key 49 0 (by omega)
  rw [ccW_0] at k0
  exact Rn.at 2 rfl k0
theorem MaIs.cc {w w' : Wd} {a b : Nat} {c : Nat → Nat} {nr ti o sp dy : Nat} {wf : Nat → Nat} (hc : PlOk c) (h : MaIs w a c nr ti o sp dy wf) (e : ∀ j, j < 49 → w' (sg 17) (b + j) = w (sg 17) (a + j)) : MaIs w' b c nr ti o sp dy wf := by
  obtain ⟨h1, h2, h3, h4, h5, h6, h7, h8, h9, h10⟩ := h
  have e3 := hc.2.1
  have e4 := hc.2.2.1
  refine ⟨(e 0 (by decide)).trans h1, (e 1 (by decide)).trans h2, (e 2 (by decide)).trans h3, (e 3 (by decide)).trans h4, (e 4 (by decide)).trans h5, (e 5 (by decide)).trans h6, (e 6 (by decide)).trans h7, (e 7 (by decide)).trans h8, fun g hg => ?_, fun p hp => ?_⟩
  · obtain ⟨a1, a2⟩ := h9 g hg
    exact ⟨(e _ (by omega)).trans a1, (e _ (by omega)).trans a2⟩
  · obtain ⟨a1, a2, a3, a4, a5⟩ := h10 p hp
    exact ⟨(e _ (by omega)).trans a1, (e _ (by omega)).trans a2, (e _ (by omega)).trans a3, (e _ (by omega)).trans a4, (e _ (by omega)).trans a5⟩
theorem ik_ne {k : Nat} (hk : k < 2) : (Fin.ofNat 6 (2 + k) : Fin 6) ≠ 0 := by
  rcases (by omega : k = 0 ∨ k = 1) with rfl | rfl <;> decide
theorem own_img {k p j : Nat} (hk : k < 2) : own (cit (Fin.ofNat 6 (2 + k)) p) j = 4 := by
  rcases (by omega : k = 0 ∨ k = 1) with rfl | rfl <;> rfl
theorem Inv.img {w w' : Wd} (h : Inv w) (ht : ImgsI w') (e : ∀ n, n ≠ 4 → n ≠ 9 → Same n w w') : Inv w' := ⟨h.1.same (e 0 (by decide) (by decide)), h.2.1.same (e 1 (by decide) (by decide)), h.2.2.1.same (e 2 (by decide) (by decide)), h.2.2.2.1.same (e 3 (by decide) (by decide)), ht, h.2.2.2.2.2.same (e 5 (by decide) (by decide))⟩
theorem ImgI.of {w w' : Wd} {k : Nat} (h : ImgI w k) (e1 : ∀ p, w' (cit (Fin.ofNat 6 (2 + k)) p) = w (cit (Fin.ofNat 6 (2 + k)) p)) (e2 : w' (sg 18) k = w (sg 18) k) (e3 : ∀ j, j < 49 → w' (sg 17) (49 * (1 + k) + j) = w (sg 17) (49 * (1 + k) + j)) : ImgI w' k := by
  rcases h with ⟨h1, h2⟩ | ⟨h1, c, nr, ti, o, sp, dy, wf, h2, h3, h4, h5⟩
  · exact Or.inl ⟨by rw [e1]; exact h1, e2.trans h2⟩
  · exact Or.inr ⟨e2.trans h1, c, nr, ti, o, sp, dy, wf, h2, h3, h4.fr e1, h5.cc h2.1 e3⟩
theorem op_image {x : Int32} : Op jX_image jM_image [vI x] := by
  intro w hi
  obtain ⟨hb, c, nr, ti, o, sp, dy, wf, hok, hci, hma, hact⟩ := id hi.2.2.2.2.2
  have hM : Mt w c nr ti o sp dy wf := ⟨hb, hma⟩
  have hc := hok.1
  have hc0 := hc.1
  rcases pk_or (x := x) (n := 2) (by omega) with h1 | ⟨k, hk, rfl⟩
  · refine op_same hi (v := -(nI 1000001)) ?_ ?_
    · refine Cl.of rfl rfl rfl (lc := [some (vR (sg 0)), some (vI x)]) rfl ?_
      refine Rn.cs 60 rfl rfl rfl rfl (x_no (by decide) h1) (by decide) ?_
      refine Rn.if1f 60 rfl rfl (by dsimp only [tm_c2P]; decide) ?_
      exact Rn.ir 60 rfl rfl rfl rfl
    · refine Cl.of rfl rfl rfl (lc := [some (vR (sg 13)), some (vI x)]) rfl ?_
      refine Rn.cs 60 rfl rfl rfl rfl (m_no (n := 1) (by decide) h1) (by decide) ?_
      refine Rn.if1f 60 rfl rfl (by dsimp only [tm_c2P]; decide) ?_
      exact Rn.ir 60 rfl rfl rfl rfl
  have cx : ∀ {r0 : Rs}, Rn none 19 jX_image (18, [some (vR (sg 0)), some (vI (nI k))], [vI (bI (decide (0 < c 0)))], w) r0 → Cl 20 jX_image [vR (sg 0), vI (nI k)] w r0 := by
    intro r0 kk
    refine Cl.of rfl rfl rfl (lc := [some (vR (sg 0)), some (vI (nI k))]) rfl ?_
    refine Rn.cs 60 rfl rfl rfl rfl (x_yes (by decide) hk) (by decide) ?_
    refine Rn.if1t 60 rfl rfl (by dsimp only [tm_c2P]; decide) ?_
    exact Rn.cv 60 rfl rfl rfl rfl rfl (x_there hc hci) (by decide) kk
  have cm : ∀ {w : Wd} {r0 : Rs}, Mt w c nr ti o sp dy wf → Rn none 19 jM_image (16, [some (vR (sg 13)), some (vI (nI k))], [vI (bI (decide (0 < c 0)))], w) r0 → Cl 20 jM_image [vR (sg 13), vI (nI k)] w r0 := by
    intro w r0 hM kk
    refine Cl.of rfl rfl rfl (lc := [some (vR (sg 13)), some (vI (nI k))]) rfl ?_
    refine Rn.cs 60 rfl rfl rfl rfl (m_yes (n := 1) (by decide) (by omega)) (by decide) ?_
    refine Rn.if1t 60 rfl rfl (by dsimp only [tm_c2P]; decide) ?_
    exact Rn.cv 60 rfl rfl rfl rfl rfl (m_hasCity hc hM.pl) (by decide) kk
  by_cases h0 : 0 < c 0
  · rw [decide_eq_true h0] at cx cm
    obtain ⟨w1, f1, f2, f3⟩ := sp_become (k := Fin.ofNat 6 (2 + k)) (k' := 0) (ik_ne hk) hc hci.1 hci.2.1
    have esg : ∀ s, w1 (sg s) = w (sg s) := fun s => f2 _ (fun p => sg_cit)
    have hM1 : Mt w1 c nr ti o sp dy wf := ⟨by rw [esg]; exact hb, hma.fr (esg 17)⟩
    have cc := m_copyCity (w := w1) (a := 0) (b := 1 + k) (by decide) (by omega) (by omega)
    refine ⟨w1, wset (ccW w1 0 (1 + k) 49) (sg 18) k (nI 1), nI 1, cx ?_, cm hM1 ?_, ?_⟩
    · refine Rn.if1t 60 rfl rfl (by dsimp only [tm_c2P]; decide) ?_
      refine Rn.img 60 rfl rfl rfl hk ?_
      refine Rn.cv 60 rfl rfl rfl rfl rfl f1 (by decide) ?_
      exact Rn.ir 60 rfl rfl rfl rfl
    · refine Rn.if1t 60 rfl rfl (by dsimp only [tm_c2P]; decide) ?_
      rw [← nI_add 1 k] at cc
      refine Rn.cv 60 rfl rfl rfl rfl rfl cc (by decide) ?_
      refine Rn.bas 60 (y := 0) rfl rfl rfl rfl (by omega) ?_
      exact Rn.ir 60 rfl rfl rfl rfl
    · refine hi.img (fun q hq => ?_) (fun n h4 h9 => ?_)
      · by_cases e : q = k
        · subst e
          refine Or.inr ⟨wset_s, c, nr, ti, o, sp, dy, wf, hok, h0, f3.fr (fun p => by rw [wset_ne cit_sg, ccW_ne cit_sg]), hM1.2.cc hc (fun j hj => ?_)⟩
          rw [wset_ne (sg_ne (by decide)), ccW_in hj]
        · refine (hi.2.2.2.2.1 q hq).of (fun p => ?_) ?_ (fun j hj => ?_)
          · rw [wset_ne cit_sg, ccW_ne cit_sg]
            refine f2 _ (fun p' z => e ?_)
            have z2 : (Fin.ofNat 6 (2 + q) : Fin 6) = Fin.ofNat 6 (2 + k) := by
              unfold cit at z
              injection z with z
              exact congrArg Prod.fst z
            have z3 := congrArg Fin.val z2
            simp [Fin.ofNat] at z3
            omega
          · rw [wset_k e, ccW_ne (sg_ne (by decide)), esg]
          · rw [wset_ne (sg_ne (by decide)), ccW_out (by omega), esg]
      · refine Same.tr (w1 := ccW w1 0 (1 + k) 49) (Same.tr (w1 := w1) (Same.fr f2 (fun p j z => h4 ((own_img hk).symm.trans z).symm)) (fun t j e => ?_)) (Same.set (fun z => h4 z.symm))
        by_cases h17 : t = sg 17
        · subst h17
          refine ccW_out ?_
          apply Classical.byContradiction
          intro z
          have e4 : own (sg 17) j = 4 := by
            show (if j < 49 then 5 else if j < 147 then 4 else 9) = 4
            rw [if_neg (by omega), if_pos (by omega)]
          exact h4 (e4.symm.trans e).symm
        · rw [ccW_ne h17]
  · rw [decide_eq_false h0] at cx cm
    refine op_same hi (v := -(nI 1000002)) (cx ?_) (cm hM ?_)
    · refine Rn.if1f 60 rfl rfl (by dsimp only [tm_c2P]; decide) ?_
      exact Rn.ir 60 rfl rfl rfl rfl
    · refine Rn.if1f 60 rfl rfl (by dsimp only [tm_c2P]; decide) ?_
      exact Rn.ir 60 rfl rfl rfl rfl
theorem sp_forgetAll {w : Wd} : Cl 1 jA_forgetAll [vR (sg 5)] w (none, wset (wset w (sg 5) 0 (nI 0)) (sg 5) 1 (nI 0)) := by
  refine Cl.of rfl rfl rfl (lc := [some (vR (sg 5))]) rfl ?_
  exact Rn.vr 60 rfl rfl rfl rfl
theorem op_restore {x : Int32} : Op jX_restore jM_restore [vI x] := by
  intro w hi
  obtain ⟨hb, c, nr, ti, o, sp, dy, wf, hok, hci, hma, hact⟩ := id hi.2.2.2.2.2
  rcases pk_or (x := x) (n := 2) (by omega) with h1 | ⟨k, hk, rfl⟩
  · refine op_same hi (v := -(nI 1000001)) ?_ ?_
    · refine Cl.of rfl rfl rfl (lc := [some (vR (sg 0)), some (vI x)]) rfl ?_
      refine Rn.cs 60 rfl rfl rfl rfl (x_no (by decide) h1) (by decide) ?_
      refine Rn.if1f 60 rfl rfl (by dsimp only [tm_c2P]; decide) ?_
      exact Rn.ir 60 rfl rfl rfl rfl
    · refine Cl.of rfl rfl rfl (lc := [some (vR (sg 13)), some (vI x)]) rfl ?_
      refine Rn.cs 60 rfl rfl rfl rfl (m_no (n := 1) (by decide) h1) (by decide) ?_
      refine Rn.if1f 60 rfl rfl (by dsimp only [tm_c2P]; decide) ?_
      exact Rn.ir 60 rfl rfl rfl rfl
  have cx : ∀ {a : Nat} {r0 : Rs}, w (cit (Fin.ofNat 6 (2 + k)) 0) 0 = nI a → a < 2 ^ 31 → Rn none 19 jX_restore (20, [some (vR (sg 0)), some (vI (nI k))], [vI (bI (decide (0 < a)))], w) r0 → Cl 20 jX_restore [vR (sg 0), vI (nI k)] w r0 := by
    intro a r0 ha ha2 kk
    refine Cl.of rfl rfl rfl (lc := [some (vR (sg 0)), some (vI (nI k))]) rfl ?_
    refine Rn.cs 60 rfl rfl rfl rfl (x_yes (by decide) hk) (by decide) ?_
    refine Rn.if1t 60 rfl rfl (by dsimp only [tm_c2P]; decide) ?_
    refine Rn.img 60 rfl rfl rfl hk ?_
    exact Rn.cv 60 rfl rfl rfl rfl rfl (sp_isThere ha ha2) (by decide) kk
  have cm : ∀ {w : Wd} {r0 : Rs}, Rn none 19 jM_restore (18, [some (vR (sg 13)), some (vI (nI k))], [vI (w (sg 18) k)], w) r0 → Cl 20 jM_restore [vR (sg 13), vI (nI k)] w r0 := by
    intro w r0 kk
    refine Cl.of rfl rfl rfl (lc := [some (vR (sg 13)), some (vI (nI k))]) rfl ?_
    refine Rn.cs 60 rfl rfl rfl rfl (m_yes (n := 1) (by decide) (by omega)) (by decide) ?_
    refine Rn.if1t 60 rfl rfl (by dsimp only [tm_c2P]; decide) ?_
    exact Rn.bal 60 (y := 0) rfl rfl rfl rfl (by omega) kk
  rcases hi.2.2.2.2.1 k hk with ⟨g1, g2⟩ | ⟨g1, c', nr', ti', o', sp', dy', wf', g2, g3, g4, g5⟩
  · refine op_same hi (v := -(nI 1000002)) (cx g1 (by decide) ?_) (cm ?_)
    · refine Rn.if1f 60 rfl rfl (by dsimp only [tm_c2P]; decide) ?_
      exact Rn.ir 60 rfl rfl rfl rfl
    · rw [g2]
      refine Rn.if1f 60 rfl rfl (by dsimp only [tm_c2P]; decide) ?_
      exact Rn.ir 60 rfl rfl rfl rfl
  have hc' := g2.1
  have hc0' := hc'.1
  obtain ⟨w1, f1, f2, f3⟩ := sp_become (k := 0) (k' := Fin.ofNat 6 (2 + k)) (fun z => ik_ne hk z.symm) hc' g4.1 g4.2.1
  have esg : ∀ s, w1 (sg s) = w (sg s) := fun s => f2 _ (fun p => sg_cit)
  generalize hw2 : wset (wset w1 (sg 5) 0 (nI 0)) (sg 5) 1 (nI 0) = w2
  have e2 : ∀ t, t ≠ sg 5 → w2 t = w1 t := fun t ht => by rw [← hw2, wset_ne ht, wset_ne ht]
  have cc := m_copyCity (w := w2) (a := 1 + k) (b := 0) (by omega) (by decide) (by omega)
  have e3 : ∀ t, t ≠ sg 17 → t ≠ sg 13 → wset (ccW w2 (1 + k) 0 49) (sg 13) 8 (nI 0) t = w2 t := fun t h1 h2 => by rw [wset_ne h2, ccW_ne h1]
  refine ⟨w2, wset (ccW w2 (1 + k) 0 49) (sg 13) 8 (nI 0), nI 1, cx g4.1.1 (by omega) ?_, cm ?_, hi.twn ⟨?_, c', nr', ti', o', sp', dy', wf', g2, ?_, ?_, 0, 0, fun _ => (0, 0, 0, fun _ => 0), by decide, by decide, ⟨?_, ?_, fun i hi => absurd hi (by omega)⟩, ⟨wset_s, fun i hi => absurd hi (by omega)⟩, fun i hi => absurd hi (by omega)⟩ (fun n h5 h9 => ?_)⟩
  · rw [decide_eq_true g3]
    refine Rn.if1t 60 rfl rfl (by dsimp only [tm_c2P]; decide) ?_
    refine Rn.img 60 rfl rfl rfl hk ?_
    refine Rn.cv 60 rfl rfl rfl rfl rfl f1 (by decide) ?_
    refine Rn.cv 60 rfl rfl rfl rfl rfl sp_forgetAll (by decide) ?_
    rw [hw2]
    exact Rn.ir 60 rfl rfl rfl rfl
  · rw [e2 _ (sg_ne (by decide)), esg, g1]
    refine Rn.if1t 60 rfl rfl (by dsimp only [tm_c2P]; decide) ?_
    rw [← nI_add 1 k] at cc
    refine Rn.cv 60 rfl rfl rfl rfl rfl cc (by decide) ?_
    exact Rn.ir 60 rfl rfl rfl rfl
  · rw [wset_k (by decide), ccW_ne (sg_ne (by decide)), e2 _ (sg_ne (by decide)), esg]
    exact hb
  · exact f3.fr (fun p => by rw [e3 _ cit_sg cit_sg, e2 _ cit_sg])
  · refine g5.cc hc' (fun j hj => ?_)
    have ci := ccW_in (w := w2) (a := 1 + k) (b := 0) hj
    rw [Nat.mul_zero] at ci
    rw [wset_ne (sg_ne (by decide)), ci, e2 _ (sg_ne (by decide)), esg]
  · rw [e3 _ (sg_ne (by decide)) (sg_ne (by decide)), ← hw2, wset_k (by decide), wset_s]
  · rw [e3 _ (sg_ne (by decide)) (sg_ne (by decide)), ← hw2, wset_s]
  · refine Same.tr (w1 := ccW w2 (1 + k) 0 49) (Same.tr (w1 := w2) (Same.tr (w1 := w1) (Same.fr f2 (fun p j z => h5 z.symm)) (fun t j e => ?_)) (fun t j e => ?_)) (Same.set (fun z => h5 z.symm))
    · rw [e2 t (fun z => by subst z; exact h5 e.symm)]
    · by_cases h17 : t = sg 17
      · subst h17
        refine ccW_out ?_
        apply Classical.byContradiction
        intro z
        rw [own_now (by omega)] at e
        exact h5 e.symm
      · rw [ccW_ne h17]
