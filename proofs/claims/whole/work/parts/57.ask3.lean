/-! ask: the call -/
theorem MX.up {c : Nat → Nat} {o p J D D' : Nat} {V : Int32} {L : List Nat} (H : MX c o p J D V L) (hD : D ≤ D') : MX c o p J D' V L := by
  intro w ls nr ti sp dy wf h1 h2
  obtain ⟨w', a1, a2⟩ := H w ls nr ti sp dy wf h1 h2
  exact ⟨w', a1.up hD, a2⟩
theorem marks {c : Nat → Nat} {o p : Nat} (hc : PlOk c) (hp : p < c 4) (h8 : o < 256) (s1 : 1 ≤ so c p) : ∃ V L, BX c o p (mkB (so c p)) 5 3 V L ∧ MX c o p jM_markOf 7 V L := by
  have s5 := (hc.2.2.2.2 p hp).1
  have head : ∀ {w : Wd} {r : Rs}, MPl w c → Rn none 6 jM_markOf (9, [some (vR (sg 13)), some (vI (nI p)), some (vI (nI (so c p)))], [vI (nI 1), vI (nI (so c p))], w) r → Cl 7 jM_markOf [vR (sg 13), vI (nI p)] w r := by
    intro w r hM k
    refine Cl.of rfl rfl rfl (lc := [some (vR (sg 13)), some (vI (nI p)), none]) rfl ?_
    refine Rn.cv 60 rfl rfl rfl rfl rfl (m_so hc hM hp) (by decide) ?_
    exact Rn.at 3 rfl k
  rcases (by omega : so c p = 1 ∨ so c p = 2 ∨ so c p = 3 ∨ so c p = 4 ∨ so c p = 5) with e | e | e | e | e
  · refine ⟨v21 c o p, [21, 20], ?_, fun w ls nr ti sp dy wf hM ht => ?_⟩
    · rw [e]
      exact (bx21 hc hp h8).up (by decide) (by decide)
    · obtain ⟨w1, f1, f2⟩ := mx21 hc hp h8 w ls nr ti sp dy wf hM ht
      refine ⟨w1, head hM.pl ?_, f2⟩
      rw [e]
      refine Rn.if2f 60 rfl rfl (by dsimp only [tm_c2P]; decide) ?_
      refine Rn.cv 60 rfl rfl rfl rfl rfl f1 (by decide) ?_
      exact Rn.ir 60 rfl rfl rfl rfl
  · refine ⟨nI 2 * v21 c o p, [24, 21, 20], ?_, fun w ls nr ti sp dy wf hM ht => ?_⟩
    · rw [e]
      exact (bx24 hc hp h8).up (by decide) (by decide)
    · obtain ⟨w1, f1, f2⟩ := mx24 hc hp h8 w ls nr ti sp dy wf hM ht
      refine ⟨w1, head hM.pl ?_, f2⟩
      rw [e]
      refine Rn.if2t 60 rfl rfl (by dsimp only [tm_c2P]; decide) ?_
      refine Rn.if2f 60 rfl rfl (by dsimp only [tm_c2P]; decide) ?_
      refine Rn.cv 60 rfl rfl rfl rfl rfl f1 (by decide) ?_
      exact Rn.ir 60 rfl rfl rfl rfl
  · refine ⟨v21 c o p - nI 1000, [22, 21, 20], ?_, fun w ls nr ti sp dy wf hM ht => ?_⟩
    · rw [e]
      exact (bx22 hc hp h8).up (by decide) (by decide)
    · obtain ⟨w1, f1, f2⟩ := mx22 hc hp h8 w ls nr ti sp dy wf hM ht
      refine ⟨w1, head hM.pl ?_, f2⟩
      rw [e]
      refine Rn.if2t 60 rfl rfl (by dsimp only [tm_c2P]; decide) ?_
      refine Rn.if2t 60 rfl rfl (by dsimp only [tm_c2P]; decide) ?_
      refine Rn.if2f 60 rfl rfl (by dsimp only [tm_c2P]; decide) ?_
      refine Rn.cv 60 rfl rfl rfl rfl rfl f1 (by decide) ?_
      exact Rn.ir 60 rfl rfl rfl rfl
  · have hB : BX c o p 13 4 2 (nI (we c p) - nI 100) [13, 10] := (bx13 hc hp).up (by decide) (by decide)
    refine ⟨nI p - (nI (we c p) - nI 100), [23, 20, 13, 10], ?_, fun w ls nr ti sp dy wf hM ht => ?_⟩
    · have h := bx23 hc hp s1 (by rw [e]; rfl) hB
      rw [e]
      exact h
    · obtain ⟨w1, f1, f2⟩ := mx23 (o := o) (V := nI (we c p) - nI 100) (L := [13, 10]) hc hp ⟨fun z => by omega, fun _ => (mx13 hc hp).up (by decide)⟩ w ls nr ti sp dy wf hM ht
      refine ⟨w1, head hM.pl ?_, f2⟩
      rw [e]
      refine Rn.if2t 60 rfl rfl (by dsimp only [tm_c2P]; decide) ?_
      refine Rn.if2t 60 rfl rfl (by dsimp only [tm_c2P]; decide) ?_
      refine Rn.if2t 60 rfl rfl (by dsimp only [tm_c2P]; decide) ?_
      refine Rn.cv 60 rfl rfl rfl rfl rfl f1 (by decide) ?_
      exact Rn.ir 60 rfl rfl rfl rfl
  · have hB : BX c o p 14 4 2 (nI 2 * (nI (we c p) - nI 100)) [14, 13, 10] := bx14 hc hp
    refine ⟨nI p - nI 2 * (nI (we c p) - nI 100), [23, 20, 14, 13, 10], ?_, fun w ls nr ti sp dy wf hM ht => ?_⟩
    · have h := bx23 hc hp s1 (by rw [e]; rfl) hB
      rw [e]
      exact h
    · obtain ⟨w1, f1, f2⟩ := mx23 (o := o) (V := nI 2 * (nI (we c p) - nI 100)) (L := [14, 13, 10]) hc hp ⟨fun _ => mx14 hc hp, fun z => absurd e z⟩ w ls nr ti sp dy wf hM ht
      refine ⟨w1, head hM.pl ?_, f2⟩
      rw [e]
      refine Rn.if2t 60 rfl rfl (by dsimp only [tm_c2P]; decide) ?_
      refine Rn.if2t 60 rfl rfl (by dsimp only [tm_c2P]; decide) ?_
      refine Rn.if2t 60 rfl rfl (by dsimp only [tm_c2P]; decide) ?_
      refine Rn.cv 60 rfl rfl rfl rfl rfl f1 (by decide) ?_
      exact Rn.ir 60 rfl rfl rfl rfl
theorem mx11 {c : Nat → Nat} {o p : Nat} {V : Int32} {L : List Nat} (hc : PlOk c) (hp : p < c 4) (hB : MX c o p jM_markOf 7 V L) : MX c o p jM_size11 8 (nI (we c p) + V) (11 :: 10 :: L) := by
  intro w ls nr ti sp dy wf hM ht
  obtain ⟨w1, f1, f2, f3⟩ := m_leaves (b := 11) ht
  obtain ⟨w2, g1, g2, g3⟩ := mx10 (o := o) hc hp w1 _ nr ti sp dy wf (hM.ufr f2) f3
  obtain ⟨w3, i1, i2, i3⟩ := hB w2 _ nr ti sp dy wf ((hM.ufr f2).ufr g2) g3
  refine ⟨w3, ?_, (f2.tr g2).tr i2, i3⟩
  refine Cl.of rfl rfl rfl (lc := [some (vR (sg 13)), some (vI (nI p)), none]) rfl ?_
  refine Rn.cv 60 rfl rfl rfl rfl rfl f1 (by decide) ?_
  refine Rn.cv 60 rfl rfl rfl rfl rfl g1 (by decide) ?_
  refine Rn.cv 60 rfl rfl rfl rfl rfl i1 (by decide) ?_
  exact Rn.ir 60 rfl rfl rfl rfl
theorem mx12 {c : Nat → Nat} {o p : Nat} {V : Int32} {L : List Nat} (hB : MX c o p jM_size11 8 V L) : MX c o p jM_size12 9 (-V) (12 :: L) := by
  intro w ls nr ti sp dy wf hM ht
  obtain ⟨w1, f1, f2, f3⟩ := m_leaves (b := 12) ht
  obtain ⟨w2, g1, g2, g3⟩ := hB w1 _ nr ti sp dy wf (hM.ufr f2) f3
  refine ⟨w2, ?_, f2.tr g2, g3⟩
  refine Cl.of rfl rfl rfl (lc := [some (vR (sg 13)), some (vI (nI p))]) rfl ?_
  refine Rn.cv 60 rfl rfl rfl rfl rfl f1 (by decide) ?_
  refine Rn.cv 60 rfl rfl rfl rfl rfl g1 (by decide) ?_
  exact Rn.ir 60 rfl rfl rfl rfl
theorem sizes {c : Nat → Nat} {o p : Nat} (hc : PlOk c) (hp : p < c 4) (h8 : o < 256) (s1 : 1 ≤ so c p) : ∃ V L, BX c o p (szB (so c p)) 7 5 V L ∧ MX c o p jM_sizeOf 10 V L := by
  have s5 := (hc.2.2.2.2 p hp).1
  obtain ⟨V, L, hb, hm⟩ := marks hc hp h8 s1
  have b11 := bx11 hc hp s1 rfl hb
  have m11 := mx11 hc hp hm
  have head : ∀ {w : Wd} {r : Rs}, MPl w c → Rn none 9 jM_sizeOf (9, [some (vR (sg 13)), some (vI (nI p)), some (vI (nI (so c p)))], [vI (nI 2), vI (nI (so c p))], w) r → Cl 10 jM_sizeOf [vR (sg 13), vI (nI p)] w r := by
    intro w r hM k
    refine Cl.of rfl rfl rfl (lc := [some (vR (sg 13)), some (vI (nI p)), none]) rfl ?_
    refine Rn.cv 60 rfl rfl rfl rfl rfl (m_so hc hM hp) (by decide) ?_
    exact Rn.at 3 rfl k
  rcases (by omega : (so c p = 1 ∨ so c p = 3) ∨ so c p = 2 ∨ so c p = 4 ∨ so c p = 5) with e | e | e | e
  · refine ⟨nI (we c p) + V, 11 :: 10 :: L, ?_, fun w ls nr ti sp dy wf hM ht => ?_⟩
    · have es : szB (so c p) = 11 := by unfold szB; rw [if_pos e]
      rw [es]
      exact b11.up (by decide) (by decide)
    · obtain ⟨w1, f1, f2⟩ := m11 w ls nr ti sp dy wf hM ht
      refine ⟨w1, head hM.pl ?_, f2⟩
      refine Rn.if2t 60 rfl rfl (by dsimp only [tm_c2P]; rw [nI_eq (by omega) (by decide)]; omega) ?_
      refine Rn.if2f 60 rfl rfl (nI_ge (by omega) (by decide)) ?_
      refine Rn.cv 60 rfl rfl rfl rfl rfl f1 (by decide) ?_
      exact Rn.ir 60 rfl rfl rfl rfl
  · refine ⟨-(nI (we c p) + V), 12 :: 11 :: 10 :: L, ?_, fun w ls nr ti sp dy wf hM ht => ?_⟩
    · rw [e]
      exact bx12 hc hp b11
    · obtain ⟨w1, f1, f2⟩ := mx12 m11 w ls nr ti sp dy wf hM ht
      refine ⟨w1, head hM.pl ?_, f2⟩
      rw [e]
      refine Rn.if2f 60 rfl rfl (by dsimp only [tm_c2P]; decide) ?_
      refine Rn.cv 60 rfl rfl rfl rfl rfl f1 (by decide) ?_
      exact Rn.ir 60 rfl rfl rfl rfl
  · refine ⟨nI (we c p) - nI 100, [13, 10], ?_, fun w ls nr ti sp dy wf hM ht => ?_⟩
    · rw [e]
      exact (bx13 hc hp).up (by decide) (by decide)
    · obtain ⟨w1, f1, f2⟩ := mx13 (o := o) hc hp w ls nr ti sp dy wf hM ht
      refine ⟨w1, head hM.pl ?_, f2⟩
      rw [e]
      refine Rn.if2t 60 rfl rfl (by dsimp only [tm_c2P]; decide) ?_
      refine Rn.if2t 60 rfl rfl (by dsimp only [tm_c2P]; decide) ?_
      refine Rn.if2f 60 rfl rfl (by dsimp only [tm_c2P]; decide) ?_
      refine Rn.cv 60 rfl rfl rfl rfl rfl f1 (by decide) ?_
      exact Rn.ir 60 rfl rfl rfl rfl
  · refine ⟨nI 2 * (nI (we c p) - nI 100), [14, 13, 10], ?_, fun w ls nr ti sp dy wf hM ht => ?_⟩
    · rw [e]
      exact (bx14 hc hp).up (by decide) (by decide)
    · obtain ⟨w1, f1, f2⟩ := mx14 (o := o) hc hp w ls nr ti sp dy wf hM ht
      refine ⟨w1, head hM.pl ?_, f2⟩
      rw [e]
      refine Rn.if2t 60 rfl rfl (by dsimp only [tm_c2P]; decide) ?_
      refine Rn.if2t 60 rfl rfl (by dsimp only [tm_c2P]; decide) ?_
      refine Rn.if2t 60 rfl rfl (by dsimp only [tm_c2P]; decide) ?_
      refine Rn.cv 60 rfl rfl rfl rfl rfl f1 (by decide) ?_
      exact Rn.ir 60 rfl rfl rfl rfl
theorem TrX.zero {w : Wd} : TrX (wset w (sg 11) 1 (nI 0)) [] := ⟨by decide, wset_s, fun i hi => absurd hi (by show ¬ i < 0; omega)⟩
theorem TrM.zero {w : Wd} : TrM (wset w (sg 13) 24 (nI 0)) [] := ⟨by decide, wset_s, fun i hi => absurd hi (by show ¬ i < 0; omega)⟩
theorem Inv.tra {w w' : Wd} (h : Inv w) (ht : TraI w') (e : ∀ n, n ≠ 3 → Same n w w') : Inv w' := ⟨h.1.same (e 0 (by decide)), h.2.1.same (e 1 (by decide)), h.2.2.1.same (e 2 (by decide)), ht, h.2.2.2.2.1.same (e 4 (by decide)), h.2.2.2.2.2.same (e 5 (by decide))⟩
theorem op_ask {x y : Int32} : Op jX_ask jM_ask [vI x, vI y] := by
  intro w hi
  obtain ⟨hb, c, nr, ti, o, sp, dy, wf, hok, hci, hma, hact⟩ := id hi.2.2.2.2.2
  have hM : Mt w c nr ti o sp dy wf := ⟨hb, hma⟩
  have hc := hok.1
  have hd := hok.2.1
  have hc4 := hc.2.2.1
  have x4 : w (cit 0 0) 4 = nI (c 4) := hci.1.2.2.1
  rcases pk_or (x := x) (n := c 4) (by omega) with h1 | ⟨p, hp, rfl⟩
  · refine op_same hi (v := -(nI 1000001)) ?_ ?_
    · refine Cl.of rfl rfl rfl (lc := [some (vR (sg 0)), some (vI x), some (vI y), none]) rfl ?_
      refine Rn.cs 60 rfl rfl rfl rfl (by rw [x4]; exact x_no (by omega) h1) (by decide) ?_
      refine Rn.if1t 60 rfl rfl (by dsimp only [tm_c2P]; decide) ?_
      exact Rn.ir 60 rfl rfl rfl rfl
    · refine Cl.of rfl rfl rfl (lc := [some (vR (sg 13)), some (vI x), some (vI y)]) rfl ?_
      refine Rn.cv 60 rfl rfl rfl rfl rfl (m_pno hc hM.pl h1) (by decide) ?_
      refine Rn.if1t 60 rfl rfl (by dsimp only [tm_c2P]; decide) ?_
      exact Rn.ir 60 rfl rfl rfl rfl
  have cx : ∀ {r0 : Rs}, Rn none 19 jX_ask (14, [some (vR (sg 0)), some (vI (nI p)), some (vI y), none], [], w) r0 → Cl 20 jX_ask [vR (sg 0), vI (nI p), vI y] w r0 := by
    intro r0 k
    refine Cl.of rfl rfl rfl (lc := [some (vR (sg 0)), some (vI (nI p)), some (vI y), none]) rfl ?_
    refine Rn.cs 60 rfl rfl rfl rfl (by rw [x4]; exact x_yes (by omega) hp) (by decide) ?_
    exact Rn.if1f 60 rfl rfl (by dsimp only [tm_c2P]; decide) k
  have cm : ∀ {w : Wd} {r0 : Rs}, MPl w c → Rn none 19 jM_ask (8, [some (vR (sg 13)), some (vI (nI p)), some (vI y)], [], w) r0 → Cl 20 jM_ask [vR (sg 13), vI (nI p), vI y] w r0 := by
    intro w r0 hpl k
    refine Cl.of rfl rfl rfl (lc := [some (vR (sg 13)), some (vI (nI p)), some (vI y)]) rfl ?_
    refine Rn.cv 60 rfl rfl rfl rfl rfl (m_pyes hc hpl hp) (by decide) ?_
    exact Rn.if1f 60 rfl rfl (by dsimp only [tm_c2P]; decide) k
  rcases pk_or (x := y) (n := 2) (by omega) with h1 | ⟨k, hk, rfl⟩
  · refine op_same hi (v := -(nI 1000001)) (cx ?_) (cm hM.pl ?_)
    · refine Rn.if1 60 rfl rfl (fun _ => Rn.ir 60 rfl rfl rfl rfl) (fun h2 => ?_)
      refine Rn.if2f 60 rfl rfl (Int32.not_le.mpr (nI_lt1 (n := 1) (by decide) (h1.resolve_left h2))) ?_
      exact Rn.ir 60 rfl rfl rfl rfl
    · refine Rn.cs 60 rfl rfl rfl rfl (m_no (n := 1) (by decide) h1) (by decide) ?_
      refine Rn.if1f 60 rfl rfl (by dsimp only [tm_c2P]; decide) ?_
      exact Rn.ir 60 rfl rfl rfl rfl
  have s1 := hok.2.2.2 p hp
  have s5 := (hc.2.2.2.2 p hp).1
  have all : ∀ {b J D V L}, BX c o p b 7 5 V L → MX c o p J D V L → D ≤ 19 → (∀ r0, Rn none 19 jX_ask (60, [some (vR (sg 0)), some (vI (nI p)), some (vI (nI k)), some (vI (nI (so c p)))], [vI (nI b), vI (nI p), vR (cit 0 0), vR (sg 11)], w) r0 → Rn none 19 jX_ask (26, [some (vR (sg 0)), some (vI (nI p)), some (vI (nI k)), none], [], w) r0) → (∀ W w2, Cl D J [vR (sg 13), vI (nI p)] W (some (vI V), w2) → Rn none 19 jM_ask (25, [some (vR (sg 13)), some (vI (nI p)), some (vI (nI k))], [], W) (some (vI V), w2)) → ∃ w1 w2 v, Cl 20 jX_ask [vR (sg 0), vI (nI p), vI (nI k)] w (some (vI v), w1) ∧ Cl 20 jM_ask [vR (sg 13), vI (nI p), vI (nI k)] w1 (some (vI v), w2) ∧ Inv w2 := by
    intro b J D V L hB hJ hD kx km
    have hp0 : PlIs (wset w (sg 11) 1 (nI 0)) 0 c := hci.1.of (by rw [wset_ne cit_sg]) (by rw [wset_ne cit_sg]) (by rw [wset_ne cit_sg]) (fun p _ _ => wset_ne cit_sg)
    obtain ⟨w1, f1, f2, f3⟩ := hB (wset w (sg 11) 1 (nI 0)) [] 0 hp0 (by rw [wset_ne cit_sg]; exact hci.2.1.2.2.1) TrX.zero (by decide)
    have e1 : ∀ t, t ≠ sg 11 → t ≠ sg 12 → w1 t = w t := fun t h1 h2 => (f2 t h1 h2).trans (wset_ne h1)
    have hM1 : Mt w1 c nr ti o sp dy wf := ⟨by rw [e1 _ (sg_ne (by decide)) (sg_ne (by decide))]; exact hb, hma.fr (e1 _ (sg_ne (by decide)) (sg_ne (by decide)))⟩
    have hM2 : Mt (wset w1 (sg 13) 24 (nI 0)) c nr ti o sp dy wf := ⟨by rw [wset_k (by decide)]; exact hM1.1, hM1.2.fr (wset_ne (sg_ne (by decide)))⟩
    obtain ⟨w2, g1, g2, g3⟩ := hJ (wset w1 (sg 13) 24 (nI 0)) [] nr ti sp dy wf hM2 TrM.zero
    refine ⟨w1, w2, V, cx ?_, cm hM1.pl ?_, hi.tra ⟨(L.foldl psh []).length, f3.1, ?_, g3.2.1, fun i hi => ?_⟩ (fun n h3 => ?_)⟩
    · refine Rn.if1f 60 rfl rfl (nI_pos (by omega)) ?_
      refine Rn.if2t 60 rfl rfl (nI_le (by omega) (by decide)) ?_
      refine kx _ ?_
      have an : Cl 8 jB_answer [vR (sg 11), vR (cit 0 0), vI (nI p), vI (nI b)] w (some (vI V), w1) := by
        refine Cl.of rfl rfl rfl (lc := [some (vR (sg 11)), some (vR (cit 0 0)), some (vI (nI p)), some (vI (nI b))]) rfl ?_
        refine Rn.cs 60 rfl rfl rfl rfl f1 (by decide) ?_
        exact Rn.ir 60 rfl rfl rfl rfl
      refine Rn.cv 60 rfl rfl rfl rfl rfl an (by decide) ?_
      exact Rn.ir 60 rfl rfl rfl rfl
    · refine Rn.cs 60 rfl rfl rfl rfl (m_yes (n := 1) (by decide) (by omega)) (by decide) ?_
      refine Rn.if1t 60 rfl rfl (by dsimp only [tm_c2P]; decide) ?_
      exact Rn.at 3 rfl (km _ _ g1)
    · rw [g2.1 _ (sg_ne (by decide)) (sg_ne (by decide)), wset_ne (sg_ne (by decide))]
      exact f3.2.1
    · rw [g2.1 _ (sg_ne (by decide)) (sg_ne (by decide)), wset_ne (sg_ne (by decide)), f3.2.2 i hi, g3.2.2 i hi]
    · intro t j e
      by_cases h13 : t = sg 13
      · subst h13
        have hj : j ≠ 24 := fun z => by subst z; exact h3 e.symm
        rw [g2.2 j hj, wset_k hj, e1 _ (sg_ne (by decide)) (sg_ne (by decide))]
      · have n22 : t ≠ sg 22 := fun z => by subst z; exact h3 e.symm
        rw [g2.1 t h13 n22, wset_ne h13, e1 t (fun z => by subst z; exact h3 e.symm) (fun z => by subst z; exact h3 e.symm)]
  rcases (by omega : k = 0 ∨ k = 1) with rfl | rfl
  · obtain ⟨V, L, hB, hJ⟩ := sizes hc hp hd.2.2.1 s1
    refine all hB hJ (by decide) (fun r0 kk => ?_) (fun W w2 hcl => ?_)
    · refine Rn.al 60 rfl rfl rfl rfl (by omega) ?_
      rw [(hci.1.2.2.2.2 p hp).1]
      refine Rn.if1f 60 rfl rfl (by dsimp only [tm_c2P]; decide) ?_
      refine Rn.cs 60 rfl rfl rfl rfl (x_sizeBody s1 s5) (by decide) ?_
      exact Rn.at 1 rfl kk
    · refine Rn.if1f 60 rfl rfl (by dsimp only [tm_c2P]; decide) ?_
      refine Rn.cv 60 rfl rfl rfl rfl rfl hcl (by decide) ?_
      exact Rn.ir 60 rfl rfl rfl rfl
  · obtain ⟨V, L, hB, hJ⟩ := marks hc hp hd.2.2.1 s1
    refine all (hB.up (by decide) (by decide)) hJ (by decide) (fun r0 kk => ?_) (fun W w2 hcl => ?_)
    · refine Rn.al 60 rfl rfl rfl rfl (by omega) ?_
      rw [(hci.1.2.2.2.2 p hp).1]
      refine Rn.if1t 60 rfl rfl (by dsimp only [tm_c2P]; decide) ?_
      exact Rn.cs 60 rfl rfl rfl rfl (x_markBody s1 s5) (by decide) kk
    · refine Rn.if1t 60 rfl rfl (by dsimp only [tm_c2P]; decide) ?_
      refine Rn.cv 60 rfl rfl rfl rfl rfl hcl (by decide) ?_
      exact Rn.ir 60 rfl rfl rfl rfl
