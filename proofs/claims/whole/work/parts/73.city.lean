/-! city: the class, then the reference -/
def zfW (w : Wd) (n : Nat) : Wd := fun t k => if t = sg 17 ∧ 147 ≤ k ∧ k < 147 + n then nI 0 else w t k
theorem zfW_0 {w : Wd} : zfW w 0 = w := by
  funext t k
  exact if_neg (fun z => by omega)
theorem zfW_s {w : Wd} {n : Nat} : wset (zfW w n) (sg 17) (147 + n) (nI 0) = zfW w (n + 1) := by
  funext t k
  unfold wset zfW
  by_cases h : t = sg 17
  · subst h
    rw [if_pos rfl]
    by_cases e : k = 147 + n
    · subst e
      rw [if_pos rfl, if_pos ⟨rfl, by omega, by omega⟩]
    · rw [if_neg e]
      by_cases e2 : 147 ≤ k ∧ k < 147 + n
      · rw [if_pos ⟨rfl, e2⟩, if_pos ⟨rfl, by omega, by omega⟩]
      · rw [if_neg (fun z => e2 z.2), if_neg (fun z => by omega)]
  · rw [if_neg h, if_neg (fun z => h z.1), if_neg (fun z => h z.1)]
theorem zfW_ne {w : Wd} {n : Nat} {t : TA} (h : t ≠ sg 17) : zfW w n t = w t := funext (fun k => if_neg (fun z => h z.1))
theorem zfW_out {w : Wd} {n k : Nat} (h : k < 147 ∨ 147 + n ≤ k) : zfW w n (sg 17) k = w (sg 17) k := if_neg (fun z => by omega)
theorem zfW_in {w : Wd} {n j : Nat} (h : j < n) : zfW w n (sg 17) (147 + j) = nI 0 := if_pos ⟨rfl, by omega, by omega⟩
theorem pHead_eq {B : Nat → Nat} {N : Nat} : pHead B N = bd (pS B N 0 112) fun a1 => bd (pNS B N a1 2 6 44) fun q2 => bd (pNS B N q2.2 0 3 44) fun q4 => bd (pNS B N q4.2 0 2 59) fun q6 => .inr (q2.1, q4.1, q6.1, q6.2) := by
  unfold pHead pNS
  cases h1 : pS B N 0 112 with
  | inl f => rfl
  | inr q1 =>
  dsimp only [bd]
  cases h2 : pN B N q1 2 6 with
  | inl f => rfl
  | inr q2 =>
  dsimp only [bd]
  cases h3 : pS B N q2.2 44 with
  | inl f => rfl
  | inr q3 =>
  dsimp only [bd]
  cases h4 : pN B N q3 0 3 with
  | inl f => rfl
  | inr q4 =>
  dsimp only [bd]
  cases h5 : pS B N q4.2 44 with
  | inl f => rfl
  | inr q5 =>
  dsimp only [bd]
  cases h6 : pN B N q5 0 2 with
  | inl f => rfl
  | inr q6 =>
  dsimp only [bd]
  cases h7 : pS B N q6.2 59 with
  | inl f => rfl
  | inr q7 => rfl
theorem f_74 {w W : Wd} {f : Ft} {x1 : Option AV} (h : FSt w W f) : ∃ W', FSt w W' f ∧ ∀ r, Rn none 6 jM_city (87, [some (vR (sg 13)), x1], [], W') r → Rn none 6 jM_city (74, [some (vR (sg 13)), x1], [], W) r := by
  refine ⟨_, h.put (j := 147 + 2) (x := W (sg 13) 14) (by omega), fun r kk => ?_⟩
  refine Rn.cv 60 rfl rfl rfl rfl rfl (r_numF h) (by decide) ?_
  exact Rn.cv 60 rfl rfl rfl rfl rfl (r_put (k := 2) h.2.2.2.1 rfl (by decide)) (by decide) kk
theorem f_61 {w W : Wd} {f : Ft} {x1 : Option AV} (h : FSt w W f) : ∃ W', FSt w W' f ∧ ∀ r, Rn none 6 jM_city (87, [some (vR (sg 13)), x1], [], W') r → Rn none 6 jM_city (61, [some (vR (sg 13)), x1], [], W) r := by
  obtain ⟨W', a1, a2⟩ := f_74 (x1 := x1) (h.put (j := 147 + 1) (x := W (sg 13) 14) (by omega))
  refine ⟨W', a1, fun r kk => ?_⟩
  refine Rn.cv 60 rfl rfl rfl rfl rfl (r_numF h) (by decide) ?_
  exact Rn.cv 60 rfl rfl rfl rfl rfl (r_put (k := 1) h.2.2.2.1 rfl (by decide)) (by decide) (a2 r kk)
theorem f_47 {w W : Wd} {f : Ft} {x1 : Option AV} (h : FSt w W f) : ∃ W', FSt w W' f ∧ ∀ r, Rn none 6 jM_city (87, [some (vR (sg 13)), x1], [], W') r → Rn none 6 jM_city (47, [some (vR (sg 13)), x1], [], W) r := by
  obtain ⟨W', a1, a2⟩ := f_61 (x1 := x1) (h.put (j := 147 + 0) (x := W (sg 13) 14) (by omega))
  refine ⟨W', a1, fun r kk => ?_⟩
  refine Rn.cv 60 rfl rfl rfl rfl rfl (r_numF h) (by decide) ?_
  exact Rn.cv 60 rfl rfl rfl rfl rfl (r_put (k := 0) h.2.2.2.1 rfl (by decide)) (by decide) (a2 r kk)
theorem r_head {w W : Wd} {N : Nat} {B : Nat → Nat} {x1 : Option AV} (h : RSt w W W N B 0) (hz : ∀ j, j < 49 → W (sg 17) (147 + j) = nI 0) : (∃ f W', pHead B N = .inl f ∧ FSt w W' f ∧ ∀ r, Rn none 6 jM_city (87, [some (vR (sg 13)), x1], [], W') r → Rn none 6 jM_city (41, [some (vR (sg 13)), x1], [], W) r) ∨ ∃ q W', pHead B N = .inr q ∧ RSt w W' W' N B q.2.2.2 ∧ MaIs W' 147 (c1 q.1) q.2.1 q.2.2.1 0 0 0 (fun _ => 0) ∧ ∀ r, Rn none 6 jM_city (87, [some (vR (sg 13)), x1], [], W') r → Rn none 6 jM_city (41, [some (vR (sg 13)), x1], [], W) r := by
  rw [pHead_eq]
  rcases r_sign (z := 112) h (by decide) with ⟨f, W', g1, g2, g3⟩ | ⟨a1, W1, g1, g2, s1⟩
  · rw [g1]
    obtain ⟨W2, b1, b2⟩ := f_47 (x1 := x1) g3
    exact Or.inl ⟨f, W2, rfl, b1, fun r kk => Rn.cv 60 rfl rfl rfl rfl rfl g2 (by decide) (b2 r kk)⟩
  rw [g1]
  show (∃ f W', (bd (pNS B N a1 2 6 44) fun q2 => bd (pNS B N q2.2 0 3 44) fun q4 => bd (pNS B N q4.2 0 2 59) fun q6 => .inr (q2.1, q4.1, q6.1, q6.2)) = .inl f ∧ _) ∨ ∃ q W', (bd (pNS B N a1 2 6 44) fun q2 => bd (pNS B N q2.2 0 3 44) fun q4 => bd (pNS B N q4.2 0 2 59) fun q6 => .inr (q2.1, q4.1, q6.1, q6.2)) = .inr q ∧ _
  have k1 : ∀ {r : Rs}, Rn none 6 jM_city (47, [some (vR (sg 13)), x1], [], W1) r → Rn none 6 jM_city (41, [some (vR (sg 13)), x1], [], W) r := fun kk => Rn.cv 60 rfl rfl rfl rfl rfl g2 (by decide) kk
  rcases r_num (lo := 2) (hi := 6) (z := 44) s1 (by decide) (by decide) (by decide) with ⟨f, v, W', e1, e2, e3⟩ | ⟨q2, W2, e1, e2, s2⟩
  · rw [e1]
    obtain ⟨W3, b1, b2⟩ := f_61 (x1 := x1) (e3.put (j := 147 + 0) (x := v) (by omega))
    refine Or.inl ⟨f, W3, rfl, b1, fun r kk => k1 ?_⟩
    refine Rn.cv 60 rfl rfl rfl rfl rfl e2 (by decide) ?_
    exact Rn.cv 60 rfl rfl rfl rfl rfl (r_put (k := 0) e3.2.2.2.1 rfl (by decide)) (by decide) (b2 r kk)
  rw [e1]
  show (∃ f W', (bd (pNS B N q2.2 0 3 44) fun q4 => bd (pNS B N q4.2 0 2 59) fun q6 => .inr (q2.1, q4.1, q6.1, q6.2)) = .inl f ∧ _) ∨ ∃ q W', (bd (pNS B N q2.2 0 3 44) fun q4 => bd (pNS B N q4.2 0 2 59) fun q6 => .inr (q2.1, q4.1, q6.1, q6.2)) = .inr q ∧ _
  have t2 := s2.put (j := 147 + 0) (x := nI q2.1) (by omega)
  have k2 : ∀ {r : Rs}, Rn none 6 jM_city (61, [some (vR (sg 13)), x1], [], wset W2 (sg 17) (147 + 0) (nI q2.1)) r → Rn none 6 jM_city (41, [some (vR (sg 13)), x1], [], W) r := by
    intro r kk
    refine k1 ?_
    refine Rn.cv 60 rfl rfl rfl rfl rfl e2 (by decide) ?_
    exact Rn.cv 60 rfl rfl rfl rfl rfl (r_put (k := 0) s2.2.2.2.2.1 rfl (by decide)) (by decide) kk
  rcases r_num (lo := 0) (hi := 3) (z := 44) t2 (by decide) (by decide) (by decide) with ⟨f, v, W', e3, e4, e5⟩ | ⟨q4, W3, e3, e4, s3⟩
  · rw [e3]
    obtain ⟨W4, b1, b2⟩ := f_74 (x1 := x1) (e5.put (j := 147 + 1) (x := v) (by omega))
    refine Or.inl ⟨f, W4, rfl, b1, fun r kk => k2 ?_⟩
    refine Rn.cv 60 rfl rfl rfl rfl rfl e4 (by decide) ?_
    exact Rn.cv 60 rfl rfl rfl rfl rfl (r_put (k := 1) e5.2.2.2.1 rfl (by decide)) (by decide) (b2 r kk)
  rw [e3]
  show (∃ f W', (bd (pNS B N q4.2 0 2 59) fun q6 => .inr (q2.1, q4.1, q6.1, q6.2)) = .inl f ∧ _) ∨ ∃ q W', (bd (pNS B N q4.2 0 2 59) fun q6 => .inr (q2.1, q4.1, q6.1, q6.2)) = .inr q ∧ _
  have t3 := s3.put (j := 147 + 1) (x := nI q4.1) (by omega)
  have k3 : ∀ {r : Rs}, Rn none 6 jM_city (74, [some (vR (sg 13)), x1], [], wset W3 (sg 17) (147 + 1) (nI q4.1)) r → Rn none 6 jM_city (41, [some (vR (sg 13)), x1], [], W) r := by
    intro r kk
    refine k2 ?_
    refine Rn.cv 60 rfl rfl rfl rfl rfl e4 (by decide) ?_
    exact Rn.cv 60 rfl rfl rfl rfl rfl (r_put (k := 1) s3.2.2.2.2.1 rfl (by decide)) (by decide) kk
  rcases r_num (lo := 0) (hi := 2) (z := 59) t3 (by decide) (by decide) (by decide) with ⟨f, v, W', e5, e6, e7⟩ | ⟨q6, W4, e5, e6, s4⟩
  · rw [e5]
    refine Or.inl ⟨f, _, rfl, e7.put (j := 147 + 2) (x := v) (by omega), fun r kk => k3 ?_⟩
    refine Rn.cv 60 rfl rfl rfl rfl rfl e6 (by decide) ?_
    exact Rn.cv 60 rfl rfl rfl rfl rfl (r_put (k := 2) e7.2.2.2.1 rfl (by decide)) (by decide) kk
  rw [e5]
  have t4 := s4.put (j := 147 + 2) (x := nI q6.1) (by omega)
  refine Or.inr ⟨(q2.1, q4.1, q6.1, q6.2), _, rfl, t4.self, ?_, fun r kk => k3 ?_⟩
  · have e17 := t4.2.2.2.2.2.2
    have hz2 : ∀ j, 3 ≤ j → j < 49 → wset W4 (sg 17) (147 + 2) (nI q6.1) (sg 17) (147 + j) = nI 0 := fun j h1 h2 => by rw [e17, wset_k (by omega), wset_k (by omega), wset_k (by omega)]; exact hz j h2
    exact ⟨by rw [e17, wset_k (by omega), wset_k (by omega)]; exact wset_s, by rw [e17, wset_k (by omega)]; exact wset_s, wset_s, hz2 3 (by decide) (by decide), hz2 4 (by decide) (by decide), hz2 5 (by decide) (by decide), hz2 6 (by decide) (by decide), hz2 7 (by decide) (by decide), fun g hg => absurd hg (Nat.not_lt_zero g), fun p hp => absurd hp (Nat.not_lt_zero p)⟩
  · refine Rn.cv 60 rfl rfl rfl rfl rfl e6 (by decide) ?_
    exact Rn.cv 60 rfl rfl rfl rfl rfl (r_put (k := 2) s4.2.2.2.2.1 rfl (by decide)) (by decide) kk
/-- the reference reads a text, up to where it ends -/
theorem r_text {w : Wd} {N : Nat} {B : Nat → Nat} (ht : TpM w N B) : (∃ f W' x1, pCity B N = .inl f ∧ FSt (wset w (sg 13) 5 (nI 147)) W' f ∧ ∀ r, Rn none 6 jM_city (131, [some (vR (sg 13)), x1], [], W') r → Cl 7 jM_city [vR (sg 13)] w r) ∨ ∃ q W' x1, pCity B N = .inr q ∧ W' (sg 13) 15 = nI 0 ∧ RFr (wset w (sg 13) 5 (nI 147)) W' ∧ MaIs W' 147 q.1 q.2.1 q.2.2.1 q.2.2.2.1 0 0 q.2.2.2.2 ∧ ∀ r, Rn none 6 jM_city (131, [some (vR (sg 13)), x1], [], W') r → Cl 7 jM_city [vR (sg 13)] w r := by
  generalize hb : wset w (sg 13) 5 (nI 147) = wb
  have b5 : wb (sg 13) 5 = nI 147 := by rw [← hb]; exact wset_s
  have key : ∀ m k r, k + m = 49 → Rn none 6 jM_city (27, [some (vR (sg 13)), some (vI (nI 49))], [], zfW wb 49) r → Rn none 6 jM_city (9, [some (vR (sg 13)), some (vI (nI k))], [], zfW wb k) r := by
    intro m
    induction m with
    | zero =>
      intro k r hk kk
      obtain rfl : k = 49 := by omega
      exact Rn.if2t 60 rfl rfl (by dsimp only [tm_c2P]; decide) kk
    | succ m ih =>
      intro k r hk kk
      have k1 := ih (k + 1) r (by omega) kk
      refine Rn.if2f 60 rfl rfl (nI_ge (by omega) (by decide)) ?_
      refine Rn.cv 60 rfl rfl rfl rfl rfl (r_put (k := k) (by rw [zfW_ne (sg_ne (by decide))]; exact b5) rfl (by omega)) (by decide) ?_
      rw [zfW_s]
      exact Rn.at 2 (x := (9, [some (vR (sg 13)), some (vI (nI k + nI 1))], [], zfW wb (k + 1))) rfl (by rw [nI_add]; exact k1)
  generalize hW0 : wset (wset (zfW wb 49) (sg 13) 11 (nI 0)) (sg 13) 15 (nI 0) = W0
  have e0 : ∀ t, t ≠ sg 13 → t ≠ sg 17 → W0 t = wb t := fun t h1 h2 => by rw [← hW0, wset_ne h1, wset_ne h1, zfW_ne h2]
  have e13 : ∀ j, j ≠ 11 → j ≠ 15 → W0 (sg 13) j = wb (sg 13) j := fun j h1 h2 => by rw [← hW0, wset_k h2, wset_k h1, zfW_ne (sg_ne (by decide))]
  have e17 : W0 (sg 17) = zfW wb 49 (sg 17) := by rw [← hW0, wset_ne (sg_ne (by decide)), wset_ne (sg_ne (by decide))]
  have f0 : RFr wb W0 := ⟨e0, fun j hj => e13 j (by omega) (by omega), fun j hj => by rw [e17]; exact zfW_out (by omega)⟩
  have k0 : ∀ {r : Rs}, Rn none 6 jM_city (37, [some (vR (sg 13)), some (vI (nI 49))], [], W0) r → Cl 7 jM_city [vR (sg 13)] w r := by
    intro r kk
    refine Cl.of rfl rfl rfl (lc := [some (vR (sg 13)), none]) rfl ?_
    refine Rn.at 5 (x := (9, [some (vR (sg 13)), some (vI (nI 0))], [], wset w (sg 13) 5 (nI 147))) rfl ?_
    rw [hb, ← zfW_0 (w := wb)]
    refine key 49 0 r (by omega) ?_
    refine Rn.at 6 (x := (37, [some (vR (sg 13)), some (vI (nI 49))], [], wset (wset (zfW wb 49) (sg 13) 11 (nI 0)) (sg 13) 15 (nI 0))) rfl ?_
    rw [hW0]
    exact kk
  have t0 : TpM W0 N B := ⟨ht.1, ht.2.1, by rw [e13 10 (by decide) (by decide), ← hb, wset_k (by decide)]; exact ht.2.2.1, fun i hi => by rw [e0 _ (sg_ne (by decide)) (sg_ne (by decide)), ← hb, wset_ne (sg_ne (by decide))]; exact ht.2.2.2 i hi⟩
  have z11 : W0 (sg 13) 11 = nI 0 := by rw [← hW0, wset_k (by decide), wset_s]
  have z15 : W0 (sg 13) 15 = nI 0 := by rw [← hW0, wset_s]
  obtain ⟨W1, n1, n2, n3⟩ := m_next (a := 0) t0 (Nat.zero_le _) z11
  have s1 : RSt wb W1 W1 N B 0 := ⟨t0.k n2, Nat.zero_le _, n3, (n2.2 15 (by decide)).trans z15, (n2.2 5 (by decide)).trans ((e13 5 (by decide) (by decide)).trans b5), f0.tr n2.r, rfl⟩
  have hz : ∀ j, j < 49 → W1 (sg 17) (147 + j) = nI 0 := fun j hj => by rw [n2.1 _ (sg_ne (by decide)), e17]; exact zfW_in hj
  have k1 : ∀ {r : Rs}, Rn none 6 jM_city (41, [some (vR (sg 13)), some (vI (nI 49))], [], W1) r → Cl 7 jM_city [vR (sg 13)] w r := fun kk => k0 (Rn.cv 60 rfl rfl rfl rfl rfl n1 (by decide) kk)
  unfold pCity
  rcases r_head (x1 := some (vI (nI 49))) s1 hz with ⟨f, W', g1, g2, g3⟩ | ⟨v, W2, g1, g2, g3, g4⟩
  · rw [g1]
    exact Or.inl ⟨f, W', _, rfl, g2, fun r kk => k1 (g3 r (f_87 g2 (f_110 g2 kk)))⟩
  rw [g1]
  have hv := pHead_c g1
  have h01 : 1 ≤ c1 v.1 0 ∧ c1 v.1 0 ≤ 6 := ⟨by show 1 ≤ v.1; omega, by show v.1 ≤ 6; omega⟩
  rcases r_gates (x1 := some (vI (nI 49))) 8 (c1 v.1) 0 v.2.2.2 W2 rfl h01 (Nat.zero_le _) g3 g2 with ⟨f, W', g5, g6, g7⟩ | ⟨u, W3, g5, g6, g7, g8⟩
  · refine Or.inl ⟨f, W', _, ?_, g6, fun r kk => k1 (g4 r (g7 r (f_110 g6 kk)))⟩
    show bd (pGs B N 8 (c1 v.1) 0 v.2.2.2) _ = _
    rw [g5]
    rfl
  have hc2 := pGs_c 8 (c1 v.1) 0 v.2.2.2 u rfl g5
  have e4 : u.1 4 = 0 := hc2.2.1
  have eb : ∀ {X : Type} {F : ((Nat → Nat) × Nat × Nat) → Ft ⊕ X}, bd (pGs B N 8 (c1 v.1) 0 v.2.2.2) F = F u := fun {X F} => by rw [g5]; rfl
  rcases r_people (x1 := some (vI (nI 49))) 5 u.1 (fun _ => 0) u.2.2 W3 (by omega) (by rw [hc2.1]; exact h01) hc2.2.2 g7 g6 with ⟨f, W', g11, g12, g13⟩ | ⟨s, W4, g11, g12, g13, g14, g15⟩
  · refine Or.inl ⟨f, W', _, ?_, g12, fun r kk => k1 (g4 r (g8 r (g13 r kk)))⟩
    show bd (pGs B N 8 (c1 v.1) 0 v.2.2.2) _ = _
    rw [eb, g11]
    rfl
  · refine Or.inr ⟨(s.1, v.2.1, v.2.2.1, u.2.1, s.2), W4, _, ?_, g12, g13, g14, fun r kk => k1 (g4 r (g8 r (g15 r kk)))⟩
    show bd (pGs B N 8 (c1 v.1) 0 v.2.2.2) _ = _
    rw [eb, g11]
    rfl
theorem op_city : Op jX_city jM_city [] := by
  intro w hi
  obtain ⟨hb, c, nr, ti, o, sp, dy, wf, hok, hci, hma, hact⟩ := id hi.2.2.2.2.2
  obtain ⟨g0, N, hN, g2, g3, g4⟩ := hi.2.2.1
  obtain ⟨B, hB⟩ : ∃ B : Nat → Nat, ∀ i, i < N → B i < 256 ∧ w (sg 3) i = nI (B i) ∧ w (sg 20) i = vp_nar .byte (nI (B i)) := ⟨fun i => if h : i < N then Classical.choose (g4 i h) else 0, fun i hi => by
    have k := Classical.choose_spec (g4 i hi)
    simp only [dif_pos hi]
    exact k⟩
  have htc : TpC (wset w (sg 2) 4 (nI 0)) N B 0 := ⟨hN, fun i hi => (hB i hi).1, Nat.zero_le _, by rw [wset_k (by decide)]; exact g2, wset_s, fun i hi => by rw [wset_ne (sg_ne (by decide))]; exact (hB i hi).2.1⟩
  have htm : TpM w N B := ⟨hN, fun i hi => (hB i hi).1, g3, fun i hi => (hB i hi).2.2⟩
  have cx : ∀ {b : Bool} {w' : Wd} {r : Rs}, Cl 6 jT_readAll [vR (sg 2), vR (cit 1 0)] w (some (vI (bI b)), w') → Rn none 19 jX_city (21, [some (vR (sg 0)), some (vI (bI b))], [vI (bI b)], wset w' (sg 2) 1 (nI 0)) r → Cl 20 jX_city [vR (sg 0)] w r := by
    intro b w' r hc kk
    refine Cl.of rfl rfl rfl (lc := [some (vR (sg 0)), none]) rfl ?_
    refine Rn.cv 60 rfl rfl rfl rfl rfl hc (by decide) ?_
    exact Rn.at 6 rfl kk
  have own13 : ∀ j, own (sg 13) j ≠ 2 → own (sg 13) j ≠ 9 → j = 3 ∨ j = 5 ∨ j = 8 ∨ j = 24 := by
    intro j h1 h2
    have e : own (sg 13) j = if j = 3 then 0 else if j = 5 ∨ j = 8 then 5 else if j = 10 ∨ j = 17 then 2 else if j = 24 then 3 else 9 := rfl
    rw [e] at h1 h2
    split at h1
    · omega
    split at h1
    · omega
    split at h1
    · exact absurd rfl h1
    split at h1
    · omega
    · next q1 q2 q3 q4 =>
      rw [if_neg q1, if_neg q2, if_neg q3, if_neg q4] at h2
      exact absurd rfl h2
  have own17 : ∀ j, own (sg 17) j ≠ 9 → j < 147 := by
    intro j h
    have e : own (sg 17) j = if j < 49 then 5 else if j < 147 then 4 else 9 := rfl
    rw [e] at h
    apply Classical.byContradiction
    intro q
    rw [if_neg (by omega), if_neg q] at h
    exact h rfl
  have own2 : ∀ j, own (sg 2) j = 2 ∨ own (sg 2) j = 9 := by
    intro j
    have e : own (sg 2) j = if j = 1 ∨ j = 2 then 2 else 9 := rfl
    rw [e]
    split
    · exact Or.inl rfl
    · exact Or.inr rfl
  have t1 : ∀ {w' : Wd}, CFr w w' → TpM (wset w' (sg 2) 1 (nI 0)) N B := fun f => ⟨hN, fun i hi => (hB i hi).1, by rw [wset_ne (sg_ne (by decide)), f.1 _ (sg_ne (by decide)) (fun p => sg_cit)]; exact g3, fun i hi => by rw [wset_ne (sg_ne (by decide)), f.1 _ (sg_ne (by decide)) (fun p => sg_cit)]; exact (hB i hi).2.2⟩
  rcases sp_readAll (a := 0) htc with ⟨f, w', a1, a2, a3, a4⟩ | ⟨q, w', a1, a2, a3, a4, a5⟩
  · -- a fault
    have hm := r_text (t1 a3)
    rw [a1] at hm
    rcases hm with ⟨f', W, x1, b1, b2, b3⟩ | ⟨q, W, x1, b1, _⟩
    · cases b1
      obtain ⟨c1, c2, c3, c4, c5⟩ := b2
      refine ⟨wset w' (sg 2) 1 (nI 0), wset (wset (wset W (sg 13) 5 (nI 0)) (sg 13) 10 (nI 0)) (sg 13) 17 (nI f.1), -(nI 1000100) - nI f.2, cx a2 ?_, (b3 _ ?_).up (by decide), hi.tape ?_ (fun n h2 h9 t j e => ?_)⟩
      · refine Rn.if1f 60 rfl rfl (by dsimp only [tm_c2P]; decide) ?_
        refine Rn.ir 60 rfl rfl rfl ?_
        rw [wset_k (by decide), a4.2]
      · refine Rn.if1f 60 rfl rfl (by
          dsimp only [tm_c2P]
          rw [wset_k (by decide), wset_k (by decide), c2]
          exact nI_ne0 (by omega) (by omega)) ?_
        refine Rn.ir 60 rfl rfl rfl ?_
        rw [wset_k (by decide), wset_k (by decide), wset_k (by decide), wset_k (by decide), wset_k (by decide), c2, c3]
      · refine ⟨?_, 0, Nat.zero_le _, ?_, ?_, fun i hi => absurd hi (Nat.not_lt_zero i)⟩
        · rw [wset_s, wset_ne (sg_ne (by decide)), wset_ne (sg_ne (by decide)), wset_ne (sg_ne (by decide)), c5.1 _ (sg_ne (by decide)) (sg_ne (by decide)), wset_ne (sg_ne (by decide)), wset_k (by decide)]
          exact a4.1
        · rw [wset_ne (sg_ne (by decide)), wset_ne (sg_ne (by decide)), wset_ne (sg_ne (by decide)), c5.1 _ (sg_ne (by decide)) (sg_ne (by decide)), wset_ne (sg_ne (by decide)), wset_s]
        · rw [wset_k (by decide), wset_s]
      · subst e
        by_cases h13 : t = sg 13
        · subst h13
          rcases own13 j h2 h9 with rfl | rfl | rfl | rfl
          · rw [wset_k (by decide), wset_k (by decide), wset_k (by decide), c5.2.1 _ (by decide), wset_k (by decide), wset_ne (sg_ne (by decide)), a3.1 _ (sg_ne (by decide)) (fun p => sg_cit)]
          · rw [wset_k (by decide), wset_k (by decide), wset_s, hb]
          · rw [wset_k (by decide), wset_k (by decide), wset_k (by decide), c5.2.1 _ (by decide), wset_k (by decide), wset_ne (sg_ne (by decide)), a3.1 _ (sg_ne (by decide)) (fun p => sg_cit)]
          · rw [wset_k (by decide), wset_k (by decide), wset_k (by decide), c5.2.1 _ (by decide), wset_k (by decide), wset_ne (sg_ne (by decide)), a3.1 _ (sg_ne (by decide)) (fun p => sg_cit)]
        have hs2 : t ≠ sg 2 := fun z => by subst z; exact (own2 j).elim h2 h9
        have hc1 : ∀ p, t ≠ cit 1 p := fun p z => by subst z; exact h9 rfl
        rw [wset_ne h13, wset_ne h13, wset_ne h13]
        by_cases h17 : t = sg 17
        · subst h17
          rw [c5.2.2 j (own17 j h9), wset_ne h13, wset_ne hs2, a3.1 _ hs2 hc1]
        · rw [c5.1 t h13 h17, wset_ne h13, wset_ne hs2, a3.1 _ hs2 hc1]
    · cases b1
  · -- a city
    have hok' := pCity_ok a1
    obtain ⟨d1, d2, d3⟩ := a5
    obtain ⟨w1, f1, f2, f3⟩ := sp_become (w := wset w' (sg 2) 1 (nI 0)) (k := 0) (k' := 1) (by decide) hok'.1 (c := q.1) (nr := q.2.1) (ti := q.2.2.1) (o := q.2.2.2.1) (sp := 0) (dy := 0) (wf := q.2.2.2.2) (by
      unfold PlIs
      rw [wset_ne cit_sg, wset_ne cit_sg, wset_ne cit_sg, wset_ne cit_sg, wset_ne cit_sg, wset_ne cit_sg, wset_ne cit_sg]
      exact d1) (by
      unfold DyIs
      rw [wset_ne cit_sg, wset_ne cit_sg]
      exact d2)
    have kx := fun (r : Rs) => cx (r := r) a2
    generalize hw2 : wset (wset w1 (sg 5) 0 (nI 0)) (sg 5) 1 (nI 0) = w2
    have n2 : ∀ t, t ≠ sg 5 → w2 t = w1 t := fun t h => by rw [← hw2, wset_ne h, wset_ne h]
    have n1 : ∀ t, t ≠ sg 5 → (∀ p, t ≠ cit 0 p) → t ≠ sg 2 → (∀ p, t ≠ cit 1 p) → w2 t = w t := fun t h1 h2 h3 h4 => by rw [n2 t h1, f2 t h2, wset_ne h3, a3.1 t h3 h4]
    have ns : ∀ j, j ≠ 5 → j ≠ 2 → w2 (sg j) = w (sg j) := fun j h1 h2 => n1 _ (sg_ne h1) (fun p => sg_cit) (sg_ne h2) (fun p => sg_cit)
    have hm := r_text (w := w2) (N := N) (B := B) ⟨hN, fun i hi => (hB i hi).1, by rw [ns 13 (by decide) (by decide)]; exact g3, fun i hi => by rw [ns 20 (by decide) (by decide)]; exact (hB i hi).2.2⟩
    rw [a1] at hm
    rcases hm with ⟨f, W, x1, b1, _⟩ | ⟨q', W, x1, b1, b2, b3, b4, b5⟩
    · cases b1
    cases b1
    generalize hW2 : wset (wset W (sg 13) 5 (nI 0)) (sg 13) 10 (nI 0) = W2
    have m2 : ∀ t, t ≠ sg 13 → W2 t = W t := fun t h => by rw [← hW2, wset_ne h, wset_ne h]
    have cc := m_copyCity (w := W2) (a := 3) (b := 0) (by decide) (by decide) (by decide)
    have ci : ∀ j, j < 49 → ccW W2 3 0 49 (sg 17) (0 + j) = W (sg 17) (147 + j) := fun j hj => by
      have k := ccW_in (w := W2) (a := 3) (b := 0) hj
      rw [m2 _ (sg_ne (by decide))] at k
      exact k
    generalize hF : wset (ccW W2 3 0 49) (sg 13) 8 (nI 0) = wF
    have F1 : ∀ t, t ≠ sg 13 → t ≠ sg 17 → wF t = w2 t := fun t h1 h2 => by rw [← hF, wset_ne h1, ccW_ne h2, m2 t h1, b3.1 t h1 h2, wset_ne h1]
    have F13 : ∀ j, j ≠ 8 → j ≠ 10 → j ≠ 5 → (j < 11 ∨ 16 < j) → wF (sg 13) j = w (sg 13) j := fun j h1 h2 h3 h4 => by rw [← hF, wset_k h1, ccW_ne (sg_ne (by decide)), ← hW2, wset_k h2, wset_k h3, b3.2.1 j h4, wset_k h3, ns 13 (by decide) (by decide)]
    have F17 : ∀ j, j < 49 → wF (sg 17) (0 + j) = W (sg 17) (147 + j) := fun j hj => by
      rw [← hF, wset_ne (sg_ne (by decide))]
      exact ci j hj
    have G17 : ∀ j, 49 ≤ j → j < 147 → wF (sg 17) j = w (sg 17) j := fun j h1 h2 => by rw [← hF, wset_ne (sg_ne (by decide)), ccW_out (Or.inr (by omega)), m2 _ (sg_ne (by decide)), b3.2.2 j h2, wset_ne (sg_ne (by decide)), ns 17 (by decide) (by decide)]
    have sm : ∀ n, n ≠ 2 → n ≠ 5 → n ≠ 9 → Same n w wF := by
      intro n h2 h5 h9 t j e
      subst e
      by_cases h13 : t = sg 13
      · subst h13
        rcases own13 j h2 h9 with rfl | rfl | rfl | rfl
        · exact F13 3 (by decide) (by decide) (by decide) (by decide)
        · exact absurd rfl h5
        · exact absurd rfl h5
        · exact F13 24 (by decide) (by decide) (by decide) (by decide)
      by_cases h17 : t = sg 17
      · subst h17
        have h147 := own17 j h9
        refine G17 j ?_ h147
        apply Classical.byContradiction
        intro z
        exact h5 (own_now (by omega))
      rw [F1 t h13 h17]
      refine congrFun (?_ : w2 t = w t) j
      exact n1 t (fun z => by subst z; exact h5 rfl) (fun p z => by subst z; exact h5 rfl) (fun z => by subst z; exact (own2 j).elim h2 h9) (fun p z => by subst z; exact h9 rfl)
    refine ⟨w2, wF, nI (q.1 0), kx _ ?_, (b5 _ ?_).up (by decide), hi.1.same (sm 0 (by decide) (by decide) (by decide)), hi.2.1.same (sm 1 (by decide) (by decide) (by decide)), ⟨?_, 0, Nat.zero_le _, ?_, ?_, fun i hi => absurd hi (Nat.not_lt_zero i)⟩, hi.2.2.2.1.same (sm 3 (by decide) (by decide) (by decide)), hi.2.2.2.2.1.same (sm 4 (by decide) (by decide) (by decide)), ?_, q.1, q.2.1, q.2.2.1, q.2.2.2.1, 0, 0, q.2.2.2.2, hok', ?_, b4.cc hok'.1 F17, 0, 0, fun _ => (0, 0, 0, fun _ => 0), by decide, by decide, ⟨?_, ?_, fun i hi => absurd hi (Nat.not_lt_zero i)⟩, ⟨?_, fun i hi => absurd hi (Nat.not_lt_zero i)⟩, fun i hi => absurd hi (Nat.not_lt_zero i)⟩
    · refine Rn.if1t 60 rfl rfl (by dsimp only [tm_c2P]; decide) ?_
      refine Rn.cv 60 rfl rfl rfl rfl rfl f1 (by decide) ?_
      refine Rn.cv 60 rfl rfl rfl rfl rfl sp_forgetAll (by decide) ?_
      rw [hw2]
      refine Rn.ir 60 rfl rfl rfl ?_
      rw [n2 _ cit_sg, f3.1.1]
    · refine Rn.at 6 (x := (141, [some (vR (sg 13)), x1], [], wset (wset W (sg 13) 5 (nI 0)) (sg 13) 10 (nI 0))) rfl ?_
      rw [hW2]
      refine Rn.if1t 60 rfl rfl (by dsimp only [tm_c2P]; rw [← hW2, wset_k (by decide), wset_k (by decide), b2]; rfl) ?_
      refine Rn.cv 60 rfl rfl rfl rfl rfl cc (by decide) ?_
      refine Rn.at 3 (x := (175, [some (vR (sg 13)), x1], [], wset (ccW W2 3 0 49) (sg 13) 8 (nI 0))) rfl ?_
      rw [hF]
      refine Rn.al 60 (j := 0) rfl rfl rfl rfl (by decide) ?_
      refine Rn.ir 60 rfl rfl rfl ?_
      rw [show wF (sg 17) 0 = nI (q.1 0) from (F17 0 (by decide)).trans b4.1]
    · rw [F1 _ (sg_ne (by decide)) (sg_ne (by decide)), n2 _ (sg_ne (by decide)), f2 _ (fun p => sg_cit), wset_k (by decide), a4, F13 17 (by decide) (by decide) (by decide) (by decide)]
      exact g0
    · rw [F1 _ (sg_ne (by decide)) (sg_ne (by decide)), n2 _ (sg_ne (by decide)), f2 _ (fun p => sg_cit), wset_s]
    · rw [← hF, wset_k (by decide), ccW_ne (sg_ne (by decide)), ← hW2, wset_s]
    · rw [← hF, wset_k (by decide), ccW_ne (sg_ne (by decide)), ← hW2, wset_k (by decide), wset_s]
    · exact f3.fr (fun p => by rw [F1 _ cit_sg cit_sg, n2 _ cit_sg])
    · rw [F1 _ (sg_ne (by decide)) (sg_ne (by decide)), ← hw2, wset_k (by decide), wset_s]
    · rw [F1 _ (sg_ne (by decide)) (sg_ne (by decide)), ← hw2, wset_s]
    · rw [← hF, wset_s]
