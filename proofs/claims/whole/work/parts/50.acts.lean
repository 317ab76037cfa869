/-! acts kept: the ring of the class, the row of the reference -/
def kpM (m : Nat) : Nat := if m < 24 then m else 23
def kpT (m : Nat) (S : Nat → Sn) : Nat → Sn := fun i => S (if m < 24 then i else i + 1)
def kpS (m : Nat) (S : Nat → Sn) (s : Sn) : Nat → Sn := fun i => if i = kpM m then s else kpT m S i
theorem kp_min {m : Nat} (h : m ≤ 24) : min (m + 1) 24 = kpM m + 1 := by
  unfold kpM
  split <;> omega
theorem kpM_le {m : Nat} : kpM m ≤ 23 := by
  unfold kpM
  split <;> omega
def kpW (w : Wd) (m x : Nat) (o sp dy : Nat) : Wd := wset (wset (cpW (wset (wset (wset w (sg 6) x (nI o)) (sg 7) x (nI sp)) (sg 8) x (nI dy)) (cit 0 7) (sg 9) 0 (x * 5) 5) (sg 5) 1 (nI ((x + 1) % 24))) (sg 5) 0 (nI (kpM m + 1))
theorem sg_ne {a b : Nat} (h : a ≠ b) : sg a ≠ sg b := fun z => h (by cases z; rfl)
theorem sp_keep {w : Wd} {c : Nat → Nat} {nr ti o sp dy m x : Nat} {wf : Nat → Nat} {S : Nat → Sn} (hc : PlOk c) (hd : DyIs w 0 c nr ti o sp dy wf) (hm : m ≤ 24) (hx : x < 24) (h : AcC w (c 4) m x S) : Cl 2 jA_keep [vR (sg 5), vR (cit 0 0)] w (none, kpW w m x o sp dy) ∧ AcC (kpW w m x o sp dy) (c 4) (kpM m + 1) ((x + 1) % 24) (kpS m S (o, sp, dy, wf)) := by
  have hc4 := hc.2.2.1
  obtain ⟨h0, h1, h2⟩ := h
  obtain ⟨d1, d2, d3, d4, d5, d6⟩ := hd
  constructor
  · refine Cl.of rfl rfl rfl (lc := [some (vR (sg 5)), some (vR (cit 0 0))]) rfl ?_
    refine Rn.as 60 rfl rfl rfl h1 hx ?_
    rw [d3]
    refine Rn.as 60 rfl rfl rfl (by rw [wset_ne (sg_ne (by decide))]; exact h1) hx ?_
    rw [wset_ne cit_sg, d4]
    refine Rn.as 60 rfl rfl rfl (by rw [wset_ne (sg_ne (by decide)), wset_ne (sg_ne (by decide))]; exact h1) hx ?_
    rw [wset_ne cit_sg, wset_ne cit_sg, d5]
    have e1 : ∀ t, wset (wset (wset w (sg 6) x (nI o)) (sg 7) x (nI sp)) (sg 8) x (nI dy) (sg 5) t = w (sg 5) t := fun t => by rw [wset_ne (sg_ne (by decide)), wset_ne (sg_ne (by decide)), wset_ne (sg_ne (by decide))]
    have cp := cl_copy (w := wset (wset (wset w (sg 6) x (nI o)) (sg 7) x (nI sp)) (sg 8) x (nI dy)) (s := cit 0 7) (d := sg 9) (a := 0) (b := x * 5) (n := 5) (n0 := 5) (n1 := 120) rfl rfl (by omega) (by omega)
    rw [← pk_mul, ← h1, ← e1 1] at cp
    refine Rn.cs 60 rfl rfl rfl rfl cp (by decide) ?_
    have e2 : cpW (wset (wset (wset w (sg 6) x (nI o)) (sg 7) x (nI sp)) (sg 8) x (nI dy)) (cit 0 7) (sg 9) 0 (x * 5) 5 (sg 5) 1 = nI x := by rw [cpW_ne (sg_ne (by decide)), e1, h1]
    have e3 : cpW (wset (wset (wset w (sg 6) x (nI o)) (sg 7) x (nI sp)) (sg 8) x (nI dy)) (cit 0 7) (sg 9) 0 (x * 5) 5 (sg 5) 0 = nI m := by rw [cpW_ne (sg_ne (by decide)), e1, h0]
    refine Rn.cs 60 rfl rfl rfl rfl (Cl.jdk rfl rfl) (by decide) ?_
    refine Rn.vr 60 rfl rfl rfl ?_
    unfold kpW
    dsimp only
    have e4 : ∀ z, z = nI (m + 1) → (if nI 24 < z then nI 24 else z) = nI (kpM m + 1) := by
      intro z hz
      subst hz
      rw [nJ_min (by omega) (by decide), kp_min hm]
    rw [wset_k (show (0 : Nat) ≠ 1 by decide), e2, e3, nI_add x 1, pk_rem (by omega) (by decide) (by decide), e4 _ (nI_add m 1)]
  · have sl : ∀ i, i < kpM m + 1 → ∃ j, j = ((x + 1) % 24 + 24 - (kpM m + 1) + i) % 24 ∧ ((i = kpM m ∧ j = x) ∨ (i ≠ kpM m ∧ j ≠ x ∧ (if m < 24 then i else i + 1) < m ∧ j = (x + 24 - m + (if m < 24 then i else i + 1)) % 24)) := by
      intro i hi
      refine ⟨_, rfl, ?_⟩
      unfold kpM at *
      by_cases e : m < 24
      · rw [if_pos e] at *
        rw [if_pos e]
        by_cases ei : i = m
        · exact Or.inl ⟨ei, by omega⟩
        · exact Or.inr ⟨ei, by omega, by omega, by omega⟩
      · rw [if_neg e] at *
        rw [if_neg e]
        by_cases ei : i = 23
        · exact Or.inl ⟨ei, by omega⟩
        · exact Or.inr ⟨ei, by omega, by omega, by omega⟩
    refine ⟨?_, ?_, fun i hi => ?_⟩
    · unfold kpW
      rw [wset_s]
    · unfold kpW
      rw [wset_k (by decide), wset_s]
    · obtain ⟨j, e1, e2⟩ := sl i hi
      rw [← e1]
      have k6 : kpW w m x o sp dy (sg 6) j = if j = x then nI o else w (sg 6) j := by
        unfold kpW
        rw [wset_ne (sg_ne (by decide)), wset_ne (sg_ne (by decide)), cpW_ne (sg_ne (by decide)), wset_ne (sg_ne (by decide)), wset_ne (sg_ne (by decide))]
        by_cases e : j = x
        · subst e
          rw [wset_s, if_pos rfl]
        · rw [wset_k e, if_neg e]
      have k7 : kpW w m x o sp dy (sg 7) j = if j = x then nI sp else w (sg 7) j := by
        unfold kpW
        rw [wset_ne (sg_ne (by decide)), wset_ne (sg_ne (by decide)), cpW_ne (sg_ne (by decide)), wset_ne (sg_ne (by decide))]
        by_cases e : j = x
        · subst e
          rw [wset_s, if_pos rfl]
        · rw [wset_k e, wset_ne (sg_ne (by decide)), if_neg e]
      have k8 : kpW w m x o sp dy (sg 8) j = if j = x then nI dy else w (sg 8) j := by
        unfold kpW
        rw [wset_ne (sg_ne (by decide)), wset_ne (sg_ne (by decide)), cpW_ne (sg_ne (by decide))]
        by_cases e : j = x
        · subst e
          rw [wset_s, if_pos rfl]
        · rw [wset_k e, wset_ne (sg_ne (by decide)), wset_ne (sg_ne (by decide)), if_neg e]
      have k9 : ∀ p, p < 5 → kpW w m x o sp dy (sg 9) (5 * j + p) = if j = x then w (cit 0 7) p else w (sg 9) (5 * j + p) := by
        intro p hp
        unfold kpW
        rw [wset_ne (sg_ne (by decide)), wset_ne (sg_ne (by decide))]
        unfold cpW va_cpy
        rw [if_pos rfl]
        by_cases e : j = x
        · subst e
          rw [if_pos (by omega), if_pos rfl, wset_ne cit_sg, wset_ne cit_sg, wset_ne cit_sg]
          congr 1
          omega
        · rw [if_neg (by omega), if_neg e, wset_ne (sg_ne (by decide)), wset_ne (sg_ne (by decide)), wset_ne (sg_ne (by decide))]
      rw [k6, k7, k8]
      rcases e2 with ⟨f1, f2⟩ | ⟨f1, f2, f3, f4⟩
      · unfold kpS
        rw [if_pos f1, if_pos f2, if_pos f2, if_pos f2]
        refine ⟨rfl, rfl, rfl, fun p hp => ?_⟩
        rw [k9 p (by omega), if_pos f2]
        exact d6 p hp
      · unfold kpS kpT
        rw [if_neg f1, if_neg f2, if_neg f2, if_neg f2]
        obtain ⟨g1, g2, g3, g4⟩ := h2 _ f3
        rw [← f4] at g1 g2 g3 g4
        refine ⟨g1, g2, g3, fun p hp => ?_⟩
        rw [k9 p (by omega), if_neg f2]
        exact g4 p hp
/-- the reference's row of acts, moved down by one act, k places of it -/
def shW (w : Wd) (n : Nat) : Wd := fun t k => if t = sg 19 ∧ k < n then w (sg 19) (5 + k) else w t k
theorem shW_ne {w : Wd} {n : Nat} {t : TA} (h : t ≠ sg 19) : shW w n t = w t := funext (fun k => if_neg (fun z => h z.1))
theorem shW_s {w : Wd} {n : Nat} : wset (shW w n) (sg 19) n (w (sg 19) (5 + n)) = shW w (n + 1) := by
  funext t k
  unfold wset shW
  by_cases h : t = sg 19
  · subst h
    rw [if_pos rfl]
    by_cases e : k = n
    · subst e
      rw [if_pos rfl, if_pos ⟨rfl, by omega⟩]
    · rw [if_neg e]
      by_cases e2 : k < n
      · rw [if_pos ⟨rfl, e2⟩, if_pos ⟨rfl, by omega⟩]
      · rw [if_neg (fun z => e2 z.2), if_neg (fun z => by omega)]
  · rw [if_neg h, if_neg (fun z => h z.1), if_neg (fun z => h z.1)]
theorem shW_0 {w : Wd} : shW w 0 = w := by
  funext t k
  exact if_neg (fun z => by omega)
/-- how a call of the reference names who acts -/
def knY (P : Nat) (wf : Nat → Nat) (y : Int32) (wf' : Nat → Nat) : Prop := (y = -(nI 1000000) ∧ ∀ p, p < P → wf p = wf' p) ∨ ∃ q, q < P ∧ y = nI q ∧ ∀ p, p < P → wf p = upW wf' q (wf q) p
def AFr (w w' : Wd) : Prop := (∀ t, t ≠ sg 13 → t ≠ sg 19 → w' t = w t) ∧ ∀ j, j ≠ 8 → w' (sg 13) j = w (sg 13) j
theorem m_know {w : Wd} {c : Nat → Nat} {nr ti o sp dy m : Nat} {wf : Nat → Nat} {S : Nat → Sn} {y : Int32} (hc : PlOk c) (hM : Mt w c nr ti o sp dy wf) (hm : m ≤ 24) (h : AcM w (c 4) m S wf) (hy : y = -(nI 1000000) ∨ ∃ q, q < c 4 ∧ y = nI q) : ∃ w', Cl 3 jM_know [vR (sg 13), vI y] w (none, w') ∧ AFr w w' ∧ ∀ wf', knY (c 4) wf y wf' → AcM w' (c 4) (kpM m + 1) (kpS m S (o, sp, dy, wf)) wf' := by
  have hc4 := hc.2.2.1
  -- room for one more
  have first : ∃ w1 x2, AFr w w1 ∧ AcM w1 (c 4) (kpM m) (kpT m S) wf ∧ ∀ r, Rn none 2 jM_know (47, [some (vR (sg 13)), some (vI y), x2], [], w1) r → Rn none 2 jM_know (0, [some (vR (sg 13)), some (vI y), none], [], w) r := by
    by_cases e : m < 24
    · refine ⟨w, none, ⟨fun _ _ _ => rfl, fun _ _ => rfl⟩, ?_, fun r k => ?_⟩
      · have e1 : kpM m = m := if_pos e
        have e2 : kpT m S = S := by funext i; unfold kpT; rw [if_pos e]
        rw [e1, e2]
        exact h
      · exact Rn.if2t 60 rfl rfl (by dsimp only [tm_c2P]; rw [h.1, nI_eq (by omega) (by decide)]; omega) k
    · obtain rfl : m = 24 := by omega
      refine ⟨wset (shW w 115) (sg 13) 8 (nI 23), some (vI (nI 115)), ⟨fun t h1 h2 => by rw [wset_ne h1, shW_ne h2], fun j hj => by rw [wset_k hj, shW_ne (sg_ne (by decide))]⟩, ⟨wset_s, fun i hi => ?_⟩, fun r k => ?_⟩
      · have hi : i < 23 := hi
        have h1 := h.2 (i + 1) (by omega)
        have e3 : (if i + 1 + 1 = 24 then wf else (S (i + 1 + 1)).2.2.2) = (if i + 1 = kpM 24 then wf else (kpT 24 S (i + 1)).2.2.2) := by
          have ek : kpM 24 = 23 := by decide
          have et : kpT 24 S (i + 1) = S (i + 1 + 1) := by unfold kpT; rw [if_neg (by decide)]
          rw [ek, et]
          by_cases e : i + 1 = 23
          · rw [if_pos e, if_pos (by omega)]
          · rw [if_neg e, if_neg (by omega)]
        rw [e3] at h1
        have e4 : kpT 24 S i = S (i + 1) := by unfold kpT; rw [if_neg (by decide)]
        rw [e4]
        refine h1.of (fun j hj => ?_)
        rw [wset_ne (sg_ne (by decide))]
        unfold shW
        rw [if_pos ⟨rfl, by omega⟩]
        congr 1
        omega
      · have key : ∀ n q, q + n = 115 → Rn none 2 jM_know (11, [some (vR (sg 13)), some (vI y), some (vI (nI q))], [], shW w q) r := by
          intro n
          induction n with
          | zero =>
            intro q hq
            obtain rfl : q = 115 := by omega
            refine Rn.if2t 60 rfl rfl (by dsimp only [tm_c2P]; decide) ?_
            have e8 : shW w 115 (sg 13) 8 = nI 24 := by rw [shW_ne (sg_ne (by decide))]; exact h.1
            rw [show nI 23 = nI 24 - nI 1 from (pk_sub (show 1 ≤ 24 by decide)).symm, ← e8] at k
            exact Rn.at 6 rfl k
          | succ n ih =>
            intro q hq
            have k1 := ih (q + 1) (by omega)
            refine Rn.if2f 60 rfl rfl (nI_ge (by omega) (by omega)) ?_
            refine Rn.al 60 (j := 5 + q) rfl rfl rfl (by dsimp only; rw [nI_add]) (by omega) ?_
            refine Rn.as 60 rfl rfl rfl rfl (by omega) ?_
            have e5 : shW w q (sg 19) (5 + q) = w (sg 19) (5 + q) := if_neg (fun z => by omega)
            rw [e5, shW_s]
            rw [nI_succ q] at k1
            exact Rn.at 2 rfl k1
        have k0 := key 115 0 (by omega)
        rw [shW_0] at k0
        refine Rn.if2f 60 rfl rfl (by dsimp only [tm_c2P]; rw [h.1]; exact fun z => z rfl) ?_
        exact Rn.at 2 rfl k0
  obtain ⟨w1, x2, a1, a2, a3⟩ := first
  have hk := kpM_le (m := m)
  generalize hk1 : kpM m = m1 at *
  have hM1 : Mt w1 c nr ti o sp dy wf := ⟨by rw [a1.2 5 (by decide)]; exact hM.1, hM.2.fr (a1.1 _ (sg_ne (by decide)) (sg_ne (by decide)))⟩
  have up : ∀ {W : Wd} {j : Nat} {z : Int32}, Mt W c nr ti o sp dy wf → Mt (wset W (sg 19) j z) c nr ti o sp dy wf := fun hW => ⟨by rw [wset_ne (sg_ne (by decide))]; exact hW.1, hW.2.fr (wset_ne (sg_ne (by decide)))⟩
  have um : ∀ {W : Wd} {j : Nat} {z : Int32}, W (sg 13) 8 = nI m1 → wset W (sg 19) j z (sg 13) 8 = nI m1 := fun hW => by rw [wset_ne (sg_ne (by decide))]; exact hW
  have go : ∀ {W : Wd}, Mt W c nr ti o sp dy wf → W (sg 17) 6 = nI o ∧ W (sg 17) 7 = nI sp ∧ W (sg 17) 5 = nI dy ∧ ∀ p, p < c 4 → W (sg 17) (27 + 5 * p) = nI (wf p) := by
    intro W hW
    obtain ⟨_, _, _, _, _, _, q6, q7, q8, _, q10⟩ := hW
    simp only [Nat.zero_add] at q6 q7 q8 q10
    exact ⟨q7, q8, q6, fun p hp => (q10 p hp).2.2.2.1⟩
  generalize hw4 : wset (wset (wset (wset w1 (sg 19) (5 * m1) (nI o)) (sg 19) (5 * m1 + 1) (nI sp)) (sg 19) (5 * m1 + 2) (nI dy)) (sg 19) (5 * m1 + 3) y = w4
  have hM2 := up (j := 5 * m1) (z := nI o) hM1
  have hM3 := up (j := 5 * m1 + 1) (z := nI sp) hM2
  have hM4 := up (j := 5 * m1 + 2) (z := nI dy) hM3
  have hM5 := up (j := 5 * m1 + 3) (z := y) hM4
  have hm5 := um (j := 5 * m1 + 3) (z := y) (um (j := 5 * m1 + 2) (z := nI dy) (um (j := 5 * m1 + 1) (z := nI sp) (um (j := 5 * m1) (z := nI o) a2.1)))
  have body : ∀ r, Rn none 2 jM_know (127, [some (vR (sg 13)), some (vI y), x2], [vI (nI 5 * nI m1 + nI 4), vR (sg 19)], w4) r → Rn none 2 jM_know (0, [some (vR (sg 13)), some (vI y), none], [], w) r := by
    intro r k
    rw [← hw4] at k
    refine a3 r ?_
    refine Rn.cv 60 rfl rfl rfl rfl rfl (m_get (k := 6) (v := nI o) hM1.1 rfl (by decide) (go hM1).1) (by decide) ?_
    refine Rn.as 60 (j := 5 * m1) rfl rfl rfl (by dsimp only; rw [a2.1, pk_mul]) (by omega) ?_
    refine Rn.cv 60 rfl rfl rfl rfl rfl (m_get (k := 7) (v := nI sp) hM2.1 rfl (by decide) (go hM2).2.1) (by decide) ?_
    refine Rn.as 60 (j := 5 * m1 + 1) rfl rfl rfl (by dsimp only; rw [um a2.1, pk_mul, nI_add]) (by omega) ?_
    refine Rn.cv 60 rfl rfl rfl rfl rfl (m_get (k := 5) (v := nI dy) hM3.1 rfl (by decide) (go hM3).2.2.1) (by decide) ?_
    refine Rn.as 60 (j := 5 * m1 + 2) rfl rfl rfl (by dsimp only; rw [um (um a2.1), pk_mul, nI_add]) (by omega) ?_
    refine Rn.as 60 (j := 5 * m1 + 3) rfl rfl rfl (by dsimp only; rw [um (um (um a2.1)), pk_mul, nI_add]) (by omega) ?_
    rw [← hm5] at k
    exact Rn.at 8 rfl k
  rw [hw4] at hM5 hm5
  have fin : ∀ v, ∃ w', (∀ r, Rn none 2 jM_know (154, [some (vR (sg 13)), some (vI y), x2], [], w') r → Rn none 2 jM_know (143, [some (vR (sg 13)), some (vI y), x2], [vI v, vI (nI 5 * nI m1 + nI 4), vR (sg 19)], w4) r) ∧ w' = wset (wset w4 (sg 19) (5 * m1 + 4) v) (sg 13) 8 (nI (m1 + 1)) := by
    intro v
    refine ⟨_, fun r k => ?_, rfl⟩
    refine Rn.as 60 (j := 5 * m1 + 4) rfl rfl rfl (by rw [pk_mul, nI_add]) (by omega) ?_
    rw [← nI_add m1 1, ← um (j := 5 * m1 + 4) (z := v) hm5] at k
    exact Rn.at 6 rfl k
  have res : ∀ v, (y ≠ -(nI 1000000) → ∀ q, q < c 4 → y = nI q → v = nI (wf q)) → AFr w (wset (wset w4 (sg 19) (5 * m1 + 4) v) (sg 13) 8 (nI (m1 + 1))) ∧ ∀ wf', knY (c 4) wf y wf' → AcM (wset (wset w4 (sg 19) (5 * m1 + 4) v) (sg 13) 8 (nI (m1 + 1))) (c 4) (m1 + 1) (kpS m S (o, sp, dy, wf)) wf' := by
    intro v hv
    subst hw4
    refine ⟨⟨fun t h1 h2 => by rw [wset_ne h1, wset_ne h2, wset_ne h2, wset_ne h2, wset_ne h2, wset_ne h2]; exact a1.1 t h1 h2, fun j hj => by rw [wset_k hj, wset_ne (sg_ne (by decide)), wset_ne (sg_ne (by decide)), wset_ne (sg_ne (by decide)), wset_ne (sg_ne (by decide)), wset_ne (sg_ne (by decide))]; exact a1.2 j hj⟩, fun wf' hk' => ⟨wset_s, fun i hi => ?_⟩⟩
    by_cases ei : i = m1
    · subst ei
      have e1 : kpS m S (o, sp, dy, wf) i = (o, sp, dy, wf) := by unfold kpS; rw [if_pos hk1.symm]
      rw [e1, if_pos rfl]
      refine ⟨?_, ?_, ?_, ?_⟩
      · rw [wset_ne (sg_ne (by decide)), wset_k (by omega), wset_k (by omega), wset_k (by omega), wset_k (by omega), wset_s]
      · rw [wset_ne (sg_ne (by decide)), wset_k (by omega), wset_k (by omega), wset_k (by omega), wset_s]
      · rw [wset_ne (sg_ne (by decide)), wset_k (by omega), wset_k (by omega), wset_s]
      · rw [wset_ne (sg_ne (by decide)), wset_k (by omega), wset_s, wset_s]
        rcases hk' with ⟨y1, y2⟩ | ⟨q, y1, y2, y3⟩
        · exact Or.inl ⟨y1, y2⟩
        · refine Or.inr ⟨q, wf q, y1, y2, ?_, y3⟩
          refine hv ?_ q y1 y2
          rw [y2]
          intro z
          have z2 := congrArg Int32.toInt z
          rw [nI_toInt (by omega)] at z2
          have e : (-(nI 1000000)).toInt = -1000000 := by decide
          omega
    · have e1 : kpS m S (o, sp, dy, wf) i = kpT m S i := by unfold kpS; rw [if_neg (by omega)]
      have h1 := a2.2 i (by omega)
      have e3 : (if i + 1 = m1 then wf else (kpT m S (i + 1)).2.2.2) = (if i + 1 = m1 + 1 then wf' else (kpS m S (o, sp, dy, wf) (i + 1)).2.2.2) := by
        rw [if_neg (show ¬ i + 1 = m1 + 1 by omega)]
        unfold kpS
        by_cases e : i + 1 = m1
        · rw [if_pos e, if_pos (by omega)]
        · rw [if_neg e, if_neg (by omega)]
      rw [e1, ← e3]
      refine h1.of (fun j hj => ?_)
      rw [wset_ne (sg_ne (by decide)), wset_k (by omega), wset_k (by omega), wset_k (by omega), wset_k (by omega), wset_k (by omega)]
  rcases hy with hy | ⟨q, hq, hy⟩
  · obtain ⟨w', f1, f2⟩ := fin (nI 0)
    obtain ⟨r1, r2⟩ := res (nI 0) (fun z => absurd hy z)
    rw [← f2] at r1 r2
    refine ⟨w', ?_, r1, r2⟩
    refine Cl.of rfl rfl rfl (lc := [some (vR (sg 13)), some (vI y), none]) rfl (body _ ?_)
    refine Rn.if2f 60 rfl rfl (fun z => z hy) ?_
    refine Rn.at 2 rfl (f1 _ ?_)
    exact Rn.vr 60 rfl rfl rfl rfl
  · obtain ⟨w', f1, f2⟩ := fin (nI (wf q))
    obtain ⟨r1, r2⟩ := res (nI (wf q)) (fun _ q' h1 h2 => by
      rw [hy, nI_eq (by omega) (by omega)] at h2
      rw [h2])
    rw [← f2] at r1 r2
    refine ⟨w', ?_, r1, r2⟩
    refine Cl.of rfl rfl rfl (lc := [some (vR (sg 13)), some (vI y), none]) rfl (body _ ?_)
    subst hy
    refine Rn.if2t 60 rfl rfl ?_ ?_
    · dsimp only [tm_c2P]
      intro z
      have z2 := congrArg Int32.toInt z
      rw [nI_toInt (by omega)] at z2
      have e : (-(nI 1000000)).toInt = -1000000 := by decide
      omega
    refine Rn.cv 60 rfl rfl rfl rfl rfl (m_pers (p := q) (k := 3) (v := nI (wf q)) hM5.1 (by omega) (by rw [show 24 + 5 * q + 3 = 27 + 5 * q by omega]; exact (go hM5).2.2.2 q hq)) (by decide) ?_
    refine f1 _ ?_
    exact Rn.vr 60 rfl rfl rfl rfl
