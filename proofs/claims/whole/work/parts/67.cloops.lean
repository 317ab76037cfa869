/-! the class reads: the loops, all -/
theorem gC_3 {c : Nat → Nat} {u v : Nat} : gC c u v 3 = c 3 + 1 := if_pos rfl
theorem gC_a {c : Nat → Nat} {u v : Nat} : gC c u v (8 + 2 * c 3) = u := by
  unfold gC
  rw [if_neg (by omega), if_pos rfl]
theorem gC_b {c : Nat → Nat} {u v : Nat} : gC c u v (9 + 2 * c 3) = v := by
  unfold gC
  rw [if_neg (by omega), if_neg (by omega), if_pos rfl]
theorem gC_n {c : Nat → Nat} {u v k : Nat} (h1 : k ≠ 3) (h2 : k ≠ 8 + 2 * c 3) (h3 : k ≠ 9 + 2 * c 3) : gC c u v k = c k := by
  unfold gC
  rw [if_neg h1, if_neg h2, if_neg h3]
theorem qC_4 {c : Nat → Nat} {s h e g : Nat} : qC c s h e g 4 = c 4 + 1 := if_pos rfl
theorem qC_s {c : Nat → Nat} {s h e g : Nat} : qC c s h e g (24 + 5 * c 4) = s := by
  unfold qC
  rw [if_neg (by omega), if_pos rfl]
theorem qC_h {c : Nat → Nat} {s h e g : Nat} : qC c s h e g (25 + 5 * c 4) = h := by
  unfold qC
  rw [if_neg (by omega), if_neg (by omega), if_pos rfl]
theorem qC_e {c : Nat → Nat} {s h e g : Nat} : qC c s h e g (26 + 5 * c 4) = e := by
  unfold qC
  rw [if_neg (by omega), if_neg (by omega), if_neg (by omega), if_pos rfl]
theorem qC_g {c : Nat → Nat} {s h e g : Nat} : qC c s h e g (28 + 5 * c 4) = g := by
  unfold qC
  rw [if_neg (by omega), if_neg (by omega), if_neg (by omega), if_neg (by omega), if_pos rfl]
theorem qC_n {c : Nat → Nat} {s h e g k : Nat} (h1 : k ≠ 4) (h2 : k ≠ 24 + 5 * c 4) (h3 : k ≠ 25 + 5 * c 4) (h4 : k ≠ 26 + 5 * c 4) (h5 : k ≠ 28 + 5 * c 4) : qC c s h e g k = c k := by
  unfold qC
  rw [if_neg h1, if_neg h2, if_neg h3, if_neg h4, if_neg h5]
def Dft (w : Wd) (c : Nat → Nat) (nr ti o : Nat) (wf : Nat → Nat) : Prop := PlIs w 1 c ∧ DyIs w 1 c nr ti o 0 0 wf ∧ w (cit 1 0) 16 = -(nI 1)
theorem Dft.gate {w W : Wd} {c : Nat → Nat} {nr ti o o' u v : Nat} {wf : Nat → Nat} (h : Dft w c nr ti o wf) (h3 : c 3 < 8) (h4 : c 4 ≤ 5) (e : ∀ p, W (cit 1 p) = (wset (wset (wset (wset w (cit 1 1) (c 3) (nI u)) (cit 1 2) (c 3) (nI v)) (cit 1 0) 12 (nI o')) (cit 1 0) 3 (nI (c 3 + 1))) (cit 1 p)) : Dft W (gC c u v) nr ti o' wf := by
  obtain ⟨⟨p0, p3, p4, pg, pp⟩, ⟨d1, d2, d12, d13, d14, dw⟩, m⟩ := h
  have e0 : ∀ j, j ≠ 3 → j ≠ 12 → W (cit 1 0) j = w (cit 1 0) j := fun j a b => by rw [e, wset_k a, wset_k b, wset_ne (cit_p (by decide)), wset_ne (cit_p (by decide))]
  have ep : ∀ p, 3 ≤ p → W (cit 1 p) = w (cit 1 p) := fun p hp => by rw [e, wset_ne (cit_p (by omega)), wset_ne (cit_p (by omega)), wset_ne (cit_p (by omega)), wset_ne (cit_p (by omega))]
  have g4 : gC c u v 4 = c 4 := gC_n (by decide) (by omega) (by omega)
  refine ⟨⟨?_, ?_, ?_, fun g hg => ?_, fun p hp => ?_⟩, ⟨(e0 1 (by decide) (by decide)).trans d1, (e0 2 (by decide) (by decide)).trans d2, ?_, (e0 13 (by decide) (by decide)).trans d13, (e0 14 (by decide) (by decide)).trans d14, fun p hp => ?_⟩, (e0 16 (by decide) (by decide)).trans m⟩
  · rw [e0 0 (by decide) (by decide), gC_n (by decide) (by omega) (by omega)]
    exact p0
  · rw [e, wset_s, gC_3]
  · rw [e0 4 (by decide) (by decide), g4]
    exact p4
  · rw [gC_3] at hg
    by_cases q : g = c 3
    · subst q
      refine ⟨?_, ?_⟩
      · rw [gC_a, e, wset_ne (cit_p (by decide)), wset_ne (cit_p (by decide)), wset_ne (cit_p (by decide)), wset_s]
      · rw [gC_b, e, wset_ne (cit_p (by decide)), wset_ne (cit_p (by decide)), wset_s]
    · refine ⟨?_, ?_⟩
      · rw [gC_n (by omega) (by omega) (by omega), e, wset_ne (cit_p (by decide)), wset_ne (cit_p (by decide)), wset_ne (cit_p (by decide)), wset_k q]
        exact (pg g (by omega)).1
      · rw [gC_n (by omega) (by omega) (by omega), e, wset_ne (cit_p (by decide)), wset_ne (cit_p (by decide)), wset_k q, wset_ne (cit_p (by decide))]
        exact (pg g (by omega)).2
  · rw [g4] at hp
    have s1 : so (gC c u v) p = so c p := gC_n (by omega) (by omega) (by omega)
    have s2 : ho (gC c u v) p = ho c p := gC_n (by omega) (by omega) (by omega)
    have s3 : er (gC c u v) p = er c p := gC_n (by omega) (by omega) (by omega)
    have s4 : we (gC c u v) p = we c p := gC_n (by omega) (by omega) (by omega)
    rw [s1, s2, s3, s4, ep 3 (by decide), ep 4 (by decide), ep 5 (by decide), ep 6 (by decide)]
    exact pp p hp
  · rw [e, wset_k (by decide), wset_s]
  · rw [g4] at hp
    rw [ep 7 (by decide)]
    exact dw p hp
theorem Dft.pers {w W : Wd} {c : Nat → Nat} {nr ti o s h e g v : Nat} {wf : Nat → Nat} (hd : Dft w c nr ti o wf) (h3 : c 3 ≤ 8) (h4 : c 4 < 5) (ew : ∀ p, W (cit 1 p) = (wset (wset (wset (wset (wset (wset w (cit 1 3) (c 4) (nI s)) (cit 1 4) (c 4) (nI h)) (cit 1 5) (c 4) (nI e)) (cit 1 7) (c 4) (nI v)) (cit 1 6) (c 4) (nI g)) (cit 1 0) 4 (nI (c 4 + 1))) (cit 1 p)) : Dft W (qC c s h e g) nr ti o (upW wf (c 4) v) := by
  obtain ⟨⟨p0, p3, p4, pg, pp⟩, ⟨d1, d2, d12, d13, d14, dw⟩, m⟩ := hd
  have e0 : ∀ j, j ≠ 4 → W (cit 1 0) j = w (cit 1 0) j := fun j a => by rw [ew, wset_k a, wset_ne (cit_p (by decide)), wset_ne (cit_p (by decide)), wset_ne (cit_p (by decide)), wset_ne (cit_p (by decide)), wset_ne (cit_p (by decide))]
  have e12 : ∀ p, p = 1 ∨ p = 2 → W (cit 1 p) = w (cit 1 p) := fun p hp => by rw [ew, wset_ne (cit_p (by omega)), wset_ne (cit_p (by omega)), wset_ne (cit_p (by omega)), wset_ne (cit_p (by omega)), wset_ne (cit_p (by omega)), wset_ne (cit_p (by omega))]
  have r3 : W (cit 1 3) = wset w (cit 1 3) (c 4) (nI s) (cit 1 3) := by rw [ew, wset_ne (cit_p (by decide)), wset_ne (cit_p (by decide)), wset_ne (cit_p (by decide)), wset_ne (cit_p (by decide)), wset_ne (cit_p (by decide))]
  have r4 : W (cit 1 4) = wset w (cit 1 4) (c 4) (nI h) (cit 1 4) := by
    rw [ew, wset_ne (cit_p (by decide)), wset_ne (cit_p (by decide)), wset_ne (cit_p (by decide)), wset_ne (cit_p (by decide))]
    exact wset_cg (wset_ne (cit_p (by decide))) (wset_ne (cit_p (by decide)))
  have r5 : W (cit 1 5) = wset w (cit 1 5) (c 4) (nI e) (cit 1 5) := by
    rw [ew, wset_ne (cit_p (by decide)), wset_ne (cit_p (by decide)), wset_ne (cit_p (by decide))]
    refine wset_cg ?_ ?_ <;> rw [wset_ne (cit_p (by decide)), wset_ne (cit_p (by decide))]
  have r7 : W (cit 1 7) = wset w (cit 1 7) (c 4) (nI v) (cit 1 7) := by
    rw [ew, wset_ne (cit_p (by decide)), wset_ne (cit_p (by decide))]
    refine wset_cg ?_ ?_ <;> rw [wset_ne (cit_p (by decide)), wset_ne (cit_p (by decide)), wset_ne (cit_p (by decide))]
  have r6 : W (cit 1 6) = wset w (cit 1 6) (c 4) (nI g) (cit 1 6) := by
    rw [ew, wset_ne (cit_p (by decide))]
    refine wset_cg ?_ ?_ <;> rw [wset_ne (cit_p (by decide)), wset_ne (cit_p (by decide)), wset_ne (cit_p (by decide)), wset_ne (cit_p (by decide))]
  have g3 : qC c s h e g 3 = c 3 := qC_n (by decide) (by omega) (by omega) (by omega) (by omega)
  refine ⟨⟨?_, ?_, ?_, fun q hq => ?_, fun p hp => ?_⟩, ⟨(e0 1 (by decide)).trans d1, (e0 2 (by decide)).trans d2, (e0 12 (by decide)).trans d12, (e0 13 (by decide)).trans d13, (e0 14 (by decide)).trans d14, fun p hp => ?_⟩, (e0 16 (by decide)).trans m⟩
  · rw [e0 0 (by decide), qC_n (by decide) (by omega) (by omega) (by omega) (by omega)]
    exact p0
  · rw [e0 3 (by decide), g3]
    exact p3
  · rw [ew, wset_s, qC_4]
  · rw [g3] at hq
    rw [e12 1 (Or.inl rfl), e12 2 (Or.inr rfl), qC_n (by omega) (by omega) (by omega) (by omega) (by omega), qC_n (by omega) (by omega) (by omega) (by omega) (by omega)]
    exact pg q hq
  · rw [qC_4] at hp
    rw [r3, r4, r5, r6]
    by_cases q : p = c 4
    · subst q
      rw [wset_s, wset_s, wset_s, wset_s]
      refine ⟨?_, ?_, ?_, ?_⟩
      · show nI s = nI (qC c s h e g (24 + 5 * c 4))
        rw [qC_s]
      · show nI h = nI (qC c s h e g (25 + 5 * c 4))
        rw [qC_h]
      · show nI e = nI (qC c s h e g (26 + 5 * c 4))
        rw [qC_e]
      · show nI g = nI (qC c s h e g (28 + 5 * c 4))
        rw [qC_g]
    · have s1 : so (qC c s h e g) p = so c p := qC_n (by omega) (by omega) (by omega) (by omega) (by omega)
      have s2 : ho (qC c s h e g) p = ho c p := qC_n (by omega) (by omega) (by omega) (by omega) (by omega)
      have s3 : er (qC c s h e g) p = er c p := qC_n (by omega) (by omega) (by omega) (by omega) (by omega)
      have s4 : we (qC c s h e g) p = we c p := qC_n (by omega) (by omega) (by omega) (by omega) (by omega)
      rw [s1, s2, s3, s4, wset_k q, wset_k q, wset_k q, wset_k q]
      exact pp p (by omega)
  · rw [qC_4] at hp
    rw [r7]
    unfold upW
    by_cases q : p = c 4
    · rw [if_pos q, q, wset_s]
    · rw [if_neg q, wset_k q]
      exact dw p (by omega)
theorem wset_cc {w w' : Wd} (h : ∀ p, w (cit 1 p) = w' (cit 1 p)) {q j : Nat} {x : Int32} : ∀ p, wset w (cit 1 q) j x (cit 1 p) = wset w' (cit 1 q) j x (cit 1 p) := fun p => wset_cg (h p) (h q)
theorem tsw_o2 {pc t : Nat} {d lo hi : Int} {offs : Array Int} {lc : Lc} {r : List AV} {w : Wd} {x : Int32} (h : x.toInt < lo ∨ hi < x.toInt) (ht : tm_jmp pc d = some t) : tm_tsw pc d lo hi offs lc (.inl x :: r) w = some (.inr (t, lc, r, w)) := by
  unfold tm_tsw
  dsimp only
  rw [if_pos h, ht]
  rfl
theorem sp_sortOf {w : Wd} {v : Nat} (h : v < 256) : Cl 1 jT_sortOf [vI (nI v)] w (some (vI (nI (sof v))), w) := by
  refine Cl.of rfl rfl rfl (lc := [some (vI (nI v))]) rfl ?_
  by_cases h1 : v < 109 ∨ 120 < v
  · have e : sof v = 0 := by
      unfold sof
      rw [if_neg (by omega), if_neg (by omega), if_neg (by omega), if_neg (by omega), if_neg (by omega)]
    rw [e]
    refine Rn.tsw 60 (t := 74) rfl rfl (tsw_o2 (by rw [nI_toInt (by omega)]; omega) rfl) ?_
    exact Rn.ir 60 rfl rfl rfl rfl
  · rcases (by omega : v = 109 ∨ v = 110 ∨ v = 111 ∨ v = 112 ∨ v = 113 ∨ v = 114 ∨ v = 115 ∨ v = 116 ∨ v = 117 ∨ v = 118 ∨ v = 119 ∨ v = 120) with rfl | rfl | rfl | rfl | rfl | rfl | rfl | rfl | rfl | rfl | rfl | rfl
    · exact Rn.tsw 60 (t := 68) rfl rfl rfl (Rn.ir 60 rfl rfl rfl rfl)
    · exact Rn.tsw 60 (t := 74) rfl rfl rfl (Rn.ir 60 rfl rfl rfl rfl)
    · exact Rn.tsw 60 (t := 74) rfl rfl rfl (Rn.ir 60 rfl rfl rfl rfl)
    · exact Rn.tsw 60 (t := 74) rfl rfl rfl (Rn.ir 60 rfl rfl rfl rfl)
    · exact Rn.tsw 60 (t := 74) rfl rfl rfl (Rn.ir 60 rfl rfl rfl rfl)
    · exact Rn.tsw 60 (t := 74) rfl rfl rfl (Rn.ir 60 rfl rfl rfl rfl)
    · exact Rn.tsw 60 (t := 72) rfl rfl rfl (Rn.ir 60 rfl rfl rfl rfl)
    · exact Rn.tsw 60 (t := 74) rfl rfl rfl (Rn.ir 60 rfl rfl rfl rfl)
    · exact Rn.tsw 60 (t := 74) rfl rfl rfl (Rn.ir 60 rfl rfl rfl rfl)
    · exact Rn.tsw 60 (t := 64) rfl rfl rfl (Rn.ir 60 rfl rfl rfl rfl)
    · exact Rn.tsw 60 (t := 66) rfl rfl rfl (Rn.ir 60 rfl rfl rfl rfl)
    · exact Rn.tsw 60 (t := 70) rfl rfl rfl (Rn.ir 60 rfl rfl rfl rfl)
theorem sof5 {v : Nat} : sof v ≤ 5 := by
  unfold sof
  repeat' split
  all_goals omega
/-- one place on -/
theorem TpC.on {w : Wd} {N a : Nat} {B : Nat → Nat} (h : TpC w N B a) (hl : a < N) : wset w (sg 2) 4 (w (sg 2) 4 + nI 1) = wset w (sg 2) 4 (nI (a + 1)) ∧ YFr w (wset w (sg 2) 4 (nI (a + 1))) ∧ TpC (wset w (sg 2) 4 (nI (a + 1))) N B (a + 1) := ⟨by rw [h.2.2.2.2.1, nI_add], YFr.set (by decide), h.at (PFr.set (by decide)) (by omega) wset_s⟩
theorem sp_gates {N nr ti : Nat} {B : Nat → Nat} {wf : Nat → Nat} : ∀ n c o a w, n + c 3 = 8 → 1 ≤ c 0 ∧ c 0 ≤ 6 → c 4 ≤ 5 → Dft w c nr ti o wf → TpC w N B a → (∃ f w', pGs B N n c o a = .inl f ∧ Rn none 4 jT_readGates (2, [some (vR (sg 2)), some (vR (cit 1 0)), some (vI (nI (c 3)))], [], w) (some (vI (bI false)), w') ∧ CFr w w' ∧ Flt w' f.1 f.2) ∨ ∃ q w', pGs B N n c o a = .inr q ∧ Rn none 4 jT_readGates (2, [some (vR (sg 2)), some (vR (cit 1 0)), some (vI (nI (c 3)))], [], w) (some (vI (bI true)), w') ∧ CFr w w' ∧ w' (sg 2) 2 = w (sg 2) 2 ∧ Dft w' q.1 nr ti q.2.1 wf ∧ TpC w' N B q.2.2 := by
  intro n
  induction n with
  | zero =>
    intro c o a w hn h0 h4 hd ht
    obtain ⟨hN, hB, ha, t1, t4, t3⟩ := id ht
    have e3 : c 3 = 8 := by omega
    unfold pGs
    have st : ∀ {r : Rs}, (a < N → Rn none 4 jT_readGates (30, [some (vR (sg 2)), some (vR (cit 1 0)), some (vI (nI (c 3)))], [vI (nI 103), vI (nI (B a))], w) r) → (N ≤ a → Rn none 4 jT_readGates (83, [some (vR (sg 2)), some (vR (cit 1 0)), some (vI (nI (c 3)))], [], w) r) → Rn none 4 jT_readGates (2, [some (vR (sg 2)), some (vR (cit 1 0)), some (vI (nI (c 3)))], [], w) r := by
      intro r kf kt
      refine Rn.if2f 60 rfl rfl (by dsimp only [tm_c2P]; rw [e3]; decide) ?_
      refine Rn.if2 60 rfl rfl (fun z => ?_) (fun z => ?_)
      · dsimp only [tm_c2P] at z
        rw [t1, t4, nJ_le (by omega) (by omega)] at z
        exact kt z
      · dsimp only [tm_c2P] at z
        rw [t1, t4, nJ_le (by omega) (by omega)] at z
        refine Rn.al 60 rfl rfl rfl t4 (by omega) ?_
        rw [t3 a (by omega)]
        exact Rn.at 1 rfl (kf (by omega))
    by_cases q : a < N ∧ B a = 103
    · rw [if_pos q]
      refine Or.inl ⟨(3, a), wset (wset w (sg 2) 2 (nI 3)) (sg 2) 3 (nI a), rfl, st (fun _ => ?_) (fun z => absurd z (by omega)), ((PFr.set (by decide)).tr (PFr.set (by decide))).c, by rw [wset_k (by decide), wset_s], wset_s⟩
      refine Rn.if2f 60 rfl rfl (by dsimp only [tm_c2P]; rw [q.2]; exact fun z => z rfl) ?_
      refine Rn.if2f 60 rfl rfl (by dsimp only [tm_c2P]; rw [e3]; exact fun z => z rfl) ?_
      rw [← t4]
      refine Rn.cv 60 rfl rfl rfl rfl rfl sp_refuse (by decide) ?_
      exact Rn.zr 60 rfl rfl rfl (by decide) rfl
    · rw [if_neg q]
      refine Or.inr ⟨(c, o, a), w, rfl, st (fun hl => ?_) (fun _ => ?_), CFr.rf, rfl, hd, ht⟩
      · have hb := hB a hl
        refine Rn.if2t 60 rfl rfl (by dsimp only [tm_c2P]; rw [nI_eq (by omega) (by decide)]; exact fun z => q ⟨hl, z⟩) ?_
        exact Rn.zr 60 rfl rfl rfl (by decide) rfl
      · exact Rn.zr 60 rfl rfl rfl (by decide) rfl
  | succ n ih =>
    intro c o a w hn h0 h4 hd ht
    obtain ⟨hN, hB, ha, t1, t4, t3⟩ := id ht
    unfold pGs
    have st : ∀ {r : Rs}, (a < N → Rn none 4 jT_readGates (30, [some (vR (sg 2)), some (vR (cit 1 0)), some (vI (nI (c 3)))], [vI (nI 103), vI (nI (B a))], w) r) → (N ≤ a → Rn none 4 jT_readGates (83, [some (vR (sg 2)), some (vR (cit 1 0)), some (vI (nI (c 3)))], [], w) r) → Rn none 4 jT_readGates (2, [some (vR (sg 2)), some (vR (cit 1 0)), some (vI (nI (c 3)))], [], w) r := by
      intro r kf kt
      refine Rn.if2f 60 rfl rfl (by dsimp only [tm_c2P]; rw [nJ_lt (by decide) (by omega)]; omega) ?_
      refine Rn.if2 60 rfl rfl (fun z => ?_) (fun z => ?_)
      · dsimp only [tm_c2P] at z
        rw [t1, t4, nJ_le (by omega) (by omega)] at z
        exact kt z
      · dsimp only [tm_c2P] at z
        rw [t1, t4, nJ_le (by omega) (by omega)] at z
        refine Rn.al 60 rfl rfl rfl t4 (by omega) ?_
        rw [t3 a (by omega)]
        exact Rn.at 1 rfl (kf (by omega))
    by_cases q : a < N ∧ B a = 103
    · rw [if_pos q]
      obtain ⟨o1, o2, o3⟩ := ht.on q.1
      generalize hw1 : wset w (sg 2) 4 (nI (a + 1)) = w1 at o1 o2 o3
      have c1 : ∀ p, w1 (cit 1 p) = w (cit 1 p) := fun p => o2.1 _ cit_sg
      have fr1 : CFr w w1 := o2.p.c
      have st2 : ∀ {r : Rs}, Rn none 4 jT_readGates (59, [some (vR (sg 2)), some (vR (cit 1 0)), some (vI (nI (c 3)))], [], w1) r → Rn none 4 jT_readGates (2, [some (vR (sg 2)), some (vR (cit 1 0)), some (vI (nI (c 3)))], [], w) r := by
        intro r kk
        refine st (fun _ => ?_) (fun z => absurd z (by omega))
        refine Rn.if2f 60 rfl rfl (by dsimp only [tm_c2P]; rw [q.2]; exact fun z => z rfl) ?_
        refine Rn.if2t 60 rfl rfl (by dsimp only [tm_c2P]; rw [nI_eq (by omega) (by decide)]; omega) ?_
        exact Rn.at 6 (x := (59, [some (vR (sg 2)), some (vR (cit 1 0)), some (vI (nI (c 3)))], [], wset w (sg 2) 4 (w (sg 2) 4 + nI 1))) rfl (by rw [o1]; exact kk)
      rcases sp_readGate (i := c 3) (P := c 0) (o := o) o3 (by omega) h0 (by rw [c1]; exact hd.1.1) (by rw [c1]; exact hd.2.1.2.2.1) with ⟨f, w', g1, g2, g3, g4⟩ | ⟨v, w2, g1, g2, g3⟩
      · rw [g1]
        refine Or.inl ⟨f, w', rfl, st2 ?_, fr1.tr g3, g4⟩
        refine Rn.cv 60 rfl rfl rfl rfl rfl g2 (by decide) ?_
        refine Rn.if1f 60 rfl rfl (by dsimp only [tm_c2P]; decide) ?_
        exact Rn.zr 60 rfl rfl rfl (by decide) rfl
      · rw [g1]
        obtain ⟨k1, k2, k3, k4⟩ := id g3
        have hd2 : Dft (wset w2 (cit 1 0) 3 (nI (c 3 + 1))) (gC c v.1 v.2.1) nr ti (o ||| v.2.2.1 * 2 ^ c 3) wf := hd.gate (by omega) h4 (wset_cc (fun p => (k4 p).trans (wset_cc (wset_cc (wset_cc c1)) p)))
        have st3 : ∀ {r : Rs}, Rn none 4 jT_readGates (2, [some (vR (sg 2)), some (vR (cit 1 0)), some (vI (nI (c 3 + 1)))], [], wset w2 (cit 1 0) 3 (nI (c 3 + 1))) r → Rn none 4 jT_readGates (2, [some (vR (sg 2)), some (vR (cit 1 0)), some (vI (nI (c 3)))], [], w) r := by
          intro r kk
          refine st2 ?_
          refine Rn.cv 60 rfl rfl rfl rfl rfl g2 (by decide) ?_
          refine Rn.if1t 60 rfl rfl (by dsimp only [tm_c2P]; decide) ?_
          exact Rn.at 7 (x := (2, [some (vR (sg 2)), some (vR (cit 1 0)), some (vI (nI (c 3) + nI 1))], [], wset w2 (cit 1 0) 3 (nI (c 3) + nI 1))) rfl (by rw [nI_add]; exact kk)
        have fr2 : CFr w (wset w2 (cit 1 0) 3 (nI (c 3 + 1))) := (fr1.tr k2).tr CFr.wc
        have x2 : wset w2 (cit 1 0) 3 (nI (c 3 + 1)) (sg 2) 2 = w (sg 2) 2 := by
          rw [wset_ne sg_cit, k3]
          exact o2.2 2 (by decide)
        have e0 : gC c v.1 v.2.1 0 = c 0 := gC_n (by decide) (by omega) (by omega)
        have e4 : gC c v.1 v.2.1 4 = c 4 := gC_n (by decide) (by omega) (by omega)
        have ih2 := ih (gC c v.1 v.2.1) (o ||| v.2.2.1 * 2 ^ c 3) v.2.2.2 _ (by rw [gC_3]; omega) (by rw [e0]; exact h0) (by rw [e4]; exact h4) hd2 k1.wc
        rw [gC_3] at ih2
        rcases ih2 with ⟨f, w', i1, i2, i3, i4⟩ | ⟨v', w', i1, i2, i3, i4, i5, i6⟩
        · exact Or.inl ⟨f, w', i1, st3 i2, fr2.tr i3, i4⟩
        · exact Or.inr ⟨v', w', i1, st3 i2, fr2.tr i3, i4.trans x2, i5, i6⟩
    · rw [if_neg q]
      refine Or.inr ⟨(c, o, a), w, rfl, st (fun hl => ?_) (fun _ => ?_), CFr.rf, rfl, hd, ht⟩
      · have hb := hB a hl
        refine Rn.if2t 60 rfl rfl (by dsimp only [tm_c2P]; rw [nI_eq (by omega) (by decide)]; exact fun z => q ⟨hl, z⟩) ?_
        exact Rn.zr 60 rfl rfl rfl (by decide) rfl
      · exact Rn.zr 60 rfl rfl rfl (by decide) rfl
