/-! the reference reads a gate, a person -/
theorem r_get {W : Wd} {x v : Int32} {k : Nat} (hb : W (sg 13) 5 = nI 147) (hx : x = nI k) (hk : k < 49) (hv : W (sg 17) (147 + k) = v) : Cl 1 jM_get [vR (sg 13), vI x] W (some (vI v), W) := by
  subst hx hv
  refine Cl.of rfl rfl rfl (lc := [some (vR (sg 13)), some (vI (nI k))]) rfl ?_
  refine Rn.al 60 (j := 147 + k) rfl rfl rfl (by dsimp only; rw [hb, nI_add]) (by omega) ?_
  exact Rn.ir 60 rfl rfl rfl rfl
theorem r_put {W : Wd} {x v : Int32} {k : Nat} (hb : W (sg 13) 5 = nI 147) (hx : x = nI k) (hk : k < 49) : Cl 1 jM_put [vR (sg 13), vI x, vI v] W (none, wset W (sg 17) (147 + k) v) := by
  subst hx
  refine Cl.of rfl rfl rfl (lc := [some (vR (sg 13)), some (vI (nI k)), some (vI v)]) rfl ?_
  refine Rn.as 60 (j := 147 + k) rfl rfl rfl (by dsimp only; rw [hb, nI_add]) (by omega) ?_
  exact Rn.vr 60 rfl rfl rfl rfl
theorem RSt.get {w W V : Wd} {N a k : Nat} {x v : Int32} {B : Nat → Nat} (h : RSt w W V N B a) (hx : x = nI k) (hk : k < 49) (hv : V (sg 17) (147 + k) = v) : Cl 1 jM_get [vR (sg 13), vI x] W (some (vI v), W) := r_get h.2.2.2.2.1 hx hk (by rw [h.2.2.2.2.2.2]; exact hv)
theorem r_kindOf {W : Wd} {x : Int32} {v : Nat} (h : ∀ z, sgn z = true → (x = nI z ↔ v = z)) : Cl 1 jM_kindOf [vI x] W (some (vI (nI (sof v))), W) := by
  refine Cl.of rfl rfl rfl (lc := [some (vI x)]) rfl ?_
  have h1 := h 118 (by decide)
  have h2 := h 119 (by decide)
  have h3 := h 109 (by decide)
  have h4 := h 120 (by decide)
  have h5 := h 115 (by decide)
  unfold sof
  by_cases e1 : v = 118
  · rw [if_pos e1]
    refine Rn.if2f 60 rfl rfl (fun z => z (h1.mpr e1)) ?_
    exact Rn.ir 60 rfl rfl rfl rfl
  rw [if_neg e1]
  refine Rn.if2t 60 rfl rfl (fun z => e1 (h1.mp z)) ?_
  by_cases e2 : v = 119
  · rw [if_pos e2]
    refine Rn.if2f 60 rfl rfl (fun z => z (h2.mpr e2)) ?_
    exact Rn.ir 60 rfl rfl rfl rfl
  rw [if_neg e2]
  refine Rn.if2t 60 rfl rfl (fun z => e2 (h2.mp z)) ?_
  by_cases e3 : v = 109
  · rw [if_pos e3]
    refine Rn.if2f 60 rfl rfl (fun z => z (h3.mpr e3)) ?_
    exact Rn.ir 60 rfl rfl rfl rfl
  rw [if_neg e3]
  refine Rn.if2t 60 rfl rfl (fun z => e3 (h3.mp z)) ?_
  by_cases e4 : v = 120
  · rw [if_pos e4]
    refine Rn.if2f 60 rfl rfl (fun z => z (h4.mpr e4)) ?_
    exact Rn.ir 60 rfl rfl rfl rfl
  rw [if_neg e4]
  refine Rn.if2t 60 rfl rfl (fun z => e4 (h4.mp z)) ?_
  by_cases e5 : v = 115
  · rw [if_pos e5]
    refine Rn.if2f 60 rfl rfl (fun z => z (h5.mpr e5)) ?_
    exact Rn.ir 60 rfl rfl rfl rfl
  rw [if_neg e5]
  refine Rn.if2t 60 rfl rfl (fun z => e5 (h5.mp z)) ?_
  exact Rn.ir 60 rfl rfl rfl rfl
theorem RSt.kind {w W V : Wd} {N a : Nat} {B : Nat → Nat} (h : RSt w W V N B a) (hl : a < N) : Cl 1 jM_kindOf [vI (W (sg 13) 13)] W (some (vI (nI (sof (B a)))), W) := by
  rw [h.2.2.1.2.1]
  refine r_kindOf (fun z hz => ⟨fun e => ?_, fun e => by rw [tkn_sign hl e hz]⟩)
  apply Classical.byContradiction
  intro q
  exact tkn_nosign h.1.2.1 (fun k => q k.2) hz e
theorem pN_hi {B : Nat → Nat} {N a lo hi : Nat} {q : Nat × Nat} (e : pN B N a lo hi = .inr q) : lo ≤ q.1 ∧ q.1 ≤ hi := by
  obtain ⟨_, h2, rfl⟩ := pN_ok e
  exact ⟨by show lo ≤ (nm B N a).2; omega, by show (nm B N a).2 ≤ hi; omega⟩
theorem pGate_eq {B : Nat → Nat} {N P a : Nat} (hP : P ≤ 6) : pGate B N P a = bd (pNS B N a 0 (P - 1) 44) fun q1 => bd (pNB B N q1.2 0 (P - 1) (nI q1.1)) fun q3 => bd (pS B N q3.2 44) fun a4 => bd (pNS B N a4 0 1 59) fun q5 => .inr (q1.1, q3.1, q5.1, q5.2) := by
  unfold pGate pNS pNB
  cases h1 : pN B N a 0 (P - 1) with
  | inl f => rfl
  | inr q1 =>
  dsimp only [bd]
  cases h2 : pS B N q1.2 44 with
  | inl f => rfl
  | inr q2 =>
  dsimp only [bd]
  cases h3 : pN B N q2 0 (P - 1) with
  | inl f => rfl
  | inr q3 =>
  dsimp only [bd]
  have l1 := pN_hi h1
  have l3 := pN_hi h3
  by_cases e : q1.1 = q3.1
  · rw [if_pos e, if_pos (by rw [e])]
  rw [if_neg e, if_neg (by rw [nI_eq (by omega) (by omega)]; exact fun z => e z.symm)]
  dsimp only [bd]
  cases h4 : pS B N q3.2 44 with
  | inl f => rfl
  | inr q4 =>
  dsimp only [bd]
  cases h5 : pN B N q4 0 1 with
  | inl f => rfl
  | inr q5 =>
  dsimp only [bd]
  cases h6 : pS B N q5.2 59 with
  | inl f => rfl
  | inr q6 => rfl
theorem pNS_hi {B : Nat → Nat} {N a lo hi z : Nat} {q : Nat × Nat} (e : pNS B N a lo hi z = .inr q) : lo ≤ q.1 ∧ q.1 ≤ hi := by
  unfold pNS at e
  cases h1 : pN B N a lo hi with
  | inl f =>
    rw [h1] at e
    cases e
  | inr p =>
    rw [h1] at e
    dsimp only [bd] at e
    cases h2 : pS B N p.2 z with
    | inl f =>
      rw [h2] at e
      cases e
    | inr b =>
      rw [h2] at e
      cases e
      show lo ≤ p.1 ∧ p.1 ≤ hi
      exact pN_hi h1
theorem rg68 {w W : Wd} {f : Ft} {x1 x2 x3 x4 x5 : Option AV} (h : FSt w W f) : Rn none 5 jM_readGate (68, [some (vR (sg 13)), x1, x2, x3, x4, x5], [], W) (none, W) := by
  refine Rn.if1t 60 rfl rfl h.ne ?_
  exact Rn.vr 60 rfl rfl rfl rfl
theorem rg58 {w W : Wd} {f : Ft} {x1 x2 x3 x4 x5 : Option AV} (h : FSt w W f) : Rn none 5 jM_readGate (58, [some (vR (sg 13)), x1, x2, x3, x4, x5], [], W) (none, W) := by
  refine Rn.cv 60 rfl rfl rfl rfl rfl (r_numF h) (by decide) ?_
  exact Rn.at 1 rfl (rg68 h)
theorem rg52 {w W : Wd} {f : Ft} {x1 x2 x3 x4 x5 : Option AV} (h : FSt w W f) : Rn none 5 jM_readGate (52, [some (vR (sg 13)), x1, x2, x3, x4, x5], [], W) (none, W) := by
  refine Rn.cv 60 rfl rfl rfl rfl rfl (r_signF h) (by decide) ?_
  exact rg58 h
theorem rg43 {w W : Wd} {f : Ft} {i1 i3 : Int32} {x2 x4 x5 : Option AV} (h : FSt w W f) : Rn none 5 jM_readGate (43, [some (vR (sg 13)), some (vI i1), x2, some (vI i3), x4, x5], [], W) (none, W) := by
  refine Rn.cv 60 rfl rfl rfl rfl rfl (r_nbF h) (by decide) ?_
  exact Rn.at 1 rfl (rg52 h)
theorem r_gate8 {w W V : Wd} {N a : Nat} {B : Nat → Nat} (h : RSt w W V N B a) (v3 : V (sg 17) (147 + 3) = nI 8) : ∃ W', Cl 6 jM_readGate [vR (sg 13)] W (none, W') ∧ FSt w W' (3, a) := by
  refine ⟨_, ?_, h.fail (by decide)⟩
  refine Cl.of rfl rfl rfl (lc := [some (vR (sg 13)), none, none, none, none, none]) rfl ?_
  refine Rn.cv 60 rfl rfl rfl rfl rfl (h.get rfl (by decide) v3) (by decide) ?_
  refine Rn.if2f 60 rfl rfl (fun z => z rfl) ?_
  refine Rn.cv 60 rfl rfl rfl rfl rfl (m_fails0 h.2.2.2.1 h.2.2.1.1) (by decide) ?_
  exact Rn.vr 60 rfl rfl rfl rfl
theorem r_gate {w W V : Wd} {N a P m o : Nat} {B : Nat → Nat} (h : RSt w W V N B a) (hl : a < N) (hb : B a = 103) (hm : m < 8) (hP : 1 ≤ P ∧ P ≤ 6) (v0 : V (sg 17) (147 + 0) = nI P) (v3 : V (sg 17) (147 + 3) = nI m) (v6 : V (sg 17) (147 + 6) = nI o) : (∃ f W', pGate B N P (a + 1) = .inl f ∧ Cl 6 jM_readGate [vR (sg 13)] W (none, W') ∧ FSt w W' f) ∨ ∃ q W', pGate B N P (a + 1) = .inr q ∧ Cl 6 jM_readGate [vR (sg 13)] W (none, W') ∧ RSt w W' (wset (wset (wset (wset V (sg 17) (147 + (8 + 2 * m)) (nI q.1)) (sg 17) (147 + (8 + 2 * m + 1)) (nI q.2.1)) (sg 17) (147 + 6) (nI (o ||| q.2.2.1 * 2 ^ m))) (sg 17) (147 + 3) (nI (m + 1))) N B q.2.2.2 := by
  rw [pGate_eq hP.2]
  obtain ⟨W1, n1, s1⟩ := h.next (a' := a + 1) (by rw [tkn_sign hl hb (by decide)])
  have k1 : ∀ {r : Rs}, Rn none 5 jM_readGate (34, [some (vR (sg 13)), some (vI (nI (P - 1))), some (vI (nI m)), none, none, none], [], W1) r → Cl 6 jM_readGate [vR (sg 13)] W r := by
    intro r kk
    refine Cl.of rfl rfl rfl (lc := [some (vR (sg 13)), none, none, none, none, none]) rfl ?_
    refine Rn.cv 60 rfl rfl rfl rfl rfl (h.get rfl (by decide) v3) (by decide) ?_
    refine Rn.if2t 60 rfl rfl (by dsimp only [tm_c2P]; rw [nI_eq (by omega) (by decide)]; omega) ?_
    refine Rn.cv 60 rfl rfl rfl rfl rfl n1 (by decide) ?_
    refine Rn.cv 60 rfl rfl rfl rfl rfl (s1.get rfl (by decide) v0) (by decide) ?_
    refine Rn.cv 60 rfl rfl rfl rfl rfl (s1.get rfl (by decide) v3) (by decide) ?_
    exact Rn.at 1 (x := (34, [some (vR (sg 13)), some (vI (nI P - nI 1)), some (vI (nI m)), none, none, none], [], W1)) rfl (by rw [pk_sub hP.1]; exact kk)
  rcases r_num (lo := 0) (hi := P - 1) (z := 44) s1 (by decide) (by omega) (by decide) with ⟨f, v, W', e1, e2, e3⟩ | ⟨q1, W2, e1, e2, s2⟩
  · rw [e1]
    refine Or.inl ⟨f, W', rfl, k1 ?_, e3⟩
    refine Rn.cv 60 rfl rfl rfl rfl rfl e2 (by decide) ?_
    exact Rn.at 1 rfl (rg43 e3)
  have l1 := pNS_hi e1
  rw [e1]
  show (∃ f W', (bd (pNB B N q1.2 0 (P - 1) (nI q1.1)) fun q3 => bd (pS B N q3.2 44) fun a4 => bd (pNS B N a4 0 1 59) fun q5 => .inr (q1.1, q3.1, q5.1, q5.2)) = .inl f ∧ _) ∨ ∃ q W', (bd (pNB B N q1.2 0 (P - 1) (nI q1.1)) fun q3 => bd (pS B N q3.2 44) fun a4 => bd (pNS B N a4 0 1 59) fun q5 => .inr (q1.1, q3.1, q5.1, q5.2)) = .inr q ∧ _
  have k2 : ∀ {r : Rs}, Rn none 5 jM_readGate (43, [some (vR (sg 13)), some (vI (nI (P - 1))), some (vI (nI m)), some (vI (nI q1.1)), none, none], [], W2) r → Cl 6 jM_readGate [vR (sg 13)] W r := by
    intro r kk
    refine k1 ?_
    refine Rn.cv 60 rfl rfl rfl rfl rfl e2 (by decide) ?_
    exact Rn.at 1 rfl kk
  rcases r_nb (lo := 0) (hi := P - 1) (y := nI q1.1) s2 (by decide) (by omega) with ⟨f, v, W', e3, e4, e5⟩ | ⟨q3, W3, e3, e4, s3⟩
  · rw [e3]
    refine Or.inl ⟨f, W', rfl, k2 ?_, e5⟩
    refine Rn.cv 60 rfl rfl rfl rfl rfl e4 (by decide) ?_
    exact Rn.at 1 rfl (rg52 e5)
  rw [e3]
  show (∃ f W', (bd (pS B N q3.2 44) fun a4 => bd (pNS B N a4 0 1 59) fun q5 => .inr (q1.1, q3.1, q5.1, q5.2)) = .inl f ∧ _) ∨ ∃ q W', (bd (pS B N q3.2 44) fun a4 => bd (pNS B N a4 0 1 59) fun q5 => .inr (q1.1, q3.1, q5.1, q5.2)) = .inr q ∧ _
  have k3 : ∀ {r : Rs}, Rn none 5 jM_readGate (52, [some (vR (sg 13)), some (vI (nI (P - 1))), some (vI (nI m)), some (vI (nI q1.1)), some (vI (nI q3.1)), none], [], W3) r → Cl 6 jM_readGate [vR (sg 13)] W r := by
    intro r kk
    refine k2 ?_
    refine Rn.cv 60 rfl rfl rfl rfl rfl e4 (by decide) ?_
    exact Rn.at 1 rfl kk
  rcases r_sign (z := 44) s3 (by decide) with ⟨f, W', g1, g2, g3⟩ | ⟨a4, W4, g1, g2, s4⟩
  · rw [g1]
    refine Or.inl ⟨f, W', rfl, k3 ?_, g3⟩
    refine Rn.cv 60 rfl rfl rfl rfl rfl g2 (by decide) ?_
    exact rg58 g3
  rw [g1]
  show (∃ f W', (bd (pNS B N a4 0 1 59) fun q5 => .inr (q1.1, q3.1, q5.1, q5.2)) = .inl f ∧ _) ∨ ∃ q W', (bd (pNS B N a4 0 1 59) fun q5 => .inr (q1.1, q3.1, q5.1, q5.2)) = .inr q ∧ _
  have k4 : ∀ {r : Rs}, Rn none 5 jM_readGate (58, [some (vR (sg 13)), some (vI (nI (P - 1))), some (vI (nI m)), some (vI (nI q1.1)), some (vI (nI q3.1)), none], [], W4) r → Cl 6 jM_readGate [vR (sg 13)] W r := by
    intro r kk
    refine k3 ?_
    exact Rn.cv 60 rfl rfl rfl rfl rfl g2 (by decide) kk
  rcases r_num (lo := 0) (hi := 1) (z := 59) s4 (by decide) (by decide) (by decide) with ⟨f, v, W', e5, e6, e7⟩ | ⟨q5, W5, e5, e6, s5⟩
  · rw [e5]
    refine Or.inl ⟨f, W', rfl, k4 ?_, e7⟩
    refine Rn.cv 60 rfl rfl rfl rfl rfl e6 (by decide) ?_
    exact Rn.at 1 rfl (rg68 e7)
  have l5 := pNS_hi e5
  rw [e5]
  have hb : q5.1 * 2 ^ m < 2 ^ 32 := by
    have z1 : 2 ^ m ≤ 2 ^ 7 := Nat.pow_le_pow_right (by decide) (by omega)
    have z2 : q5.1 * 2 ^ m ≤ 1 * 2 ^ 7 := Nat.mul_le_mul l5.2 z1
    omega
  have t1 : RSt w (wset W5 (sg 17) (147 + (8 + 2 * m)) (nI q1.1)) _ N B q5.2 := s5.put (by omega)
  have t2 : RSt w (wset (wset W5 (sg 17) (147 + (8 + 2 * m)) (nI q1.1)) (sg 17) (147 + (8 + 2 * m + 1)) (nI q3.1)) _ N B q5.2 := t1.put (by omega)
  have t3 : RSt w (wset (wset (wset W5 (sg 17) (147 + (8 + 2 * m)) (nI q1.1)) (sg 17) (147 + (8 + 2 * m + 1)) (nI q3.1)) (sg 17) (147 + 6) (nI (o ||| q5.1 * 2 ^ m))) _ N B q5.2 := t2.put (by omega)
  refine Or.inr ⟨(q1.1, q3.1, q5.1, q5.2), _, rfl, k4 ?_, t3.put (j := 147 + 3) (x := nI (m + 1)) (by omega)⟩
  refine Rn.cv 60 rfl rfl rfl rfl rfl e6 (by decide) ?_
  refine Rn.if1f 60 rfl rfl (by dsimp only [tm_c2P]; rw [s5.2.2.2.1]; decide) ?_
  refine Rn.cv 60 rfl rfl rfl rfl rfl (r_put (k := 8 + 2 * m) s5.2.2.2.2.1 (by dsimp only; rw [pk_mul, nI_add]) (by omega)) (by decide) ?_
  refine Rn.cv 60 rfl rfl rfl rfl rfl (r_put (k := 8 + 2 * m + 1) t1.2.2.2.2.1 (by dsimp only; rw [pk_mul, nI_add, nI_add]) (by omega)) (by decide) ?_
  refine Rn.cv 60 rfl rfl rfl rfl rfl (t2.get (k := 6) (v := nI o) rfl (by decide) (by rw [wset_k (by omega), wset_k (by omega)]; exact v6)) (by decide) ?_
  have p3 := r_put (k := 6) (x := nI 6) (v := nI (o ||| q5.1 * 2 ^ m)) t2.2.2.2.2.1 rfl (by decide)
  rw [← nJ_or, ← nJ_shl (by omega) hb] at p3
  refine Rn.cv 60 rfl rfl rfl rfl rfl p3 (by decide) ?_
  rw [nJ_shl (by omega) hb, nJ_or]
  have p4 := r_put (k := 3) (x := nI 3) (v := nI (m + 1)) t3.2.2.2.2.1 rfl (by decide)
  rw [← nI_add m 1] at p4
  refine Rn.cv 60 rfl rfl rfl rfl rfl p4 (by decide) ?_
  rw [nI_add]
  exact Rn.vr 60 rfl rfl rfl rfl
