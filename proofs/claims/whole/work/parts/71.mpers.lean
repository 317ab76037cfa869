/-! the reference reads a person -/
theorem pPers_eq {B : Nat → Nat} {N P M a : Nat} : pPers B N P M a = bd (pNS B N a 0 (P - 1) 44) fun q1 => bd (pNS B N q1.2 0 (P - 1) 44) fun q3 => bd (pNS B N q3.2 0 (2 ^ M - 1) 44) fun q5 => bd (pNS B N q5.2 0 20 59) fun q7 => .inr (q1.1, q3.1, q5.1, q7.1, q7.2) := by
  unfold pPers pNS
  cases h1 : pN B N a 0 (P - 1) with
  | inl f => rfl
  | inr q1 =>
  dsimp only [bd]
  cases h2 : pS B N q1.2 44 with
  | inl f => rfl
  | inr q2 =>
  dsimp only [bd]
  cases h3 : pN B N q2 0 (P - 1) with
  | inl f => rfl
  | inr q3 =>
  dsimp only [bd]
  cases h4 : pS B N q3.2 44 with
  | inl f => rfl
  | inr q4 =>
  dsimp only [bd]
  cases h5 : pN B N q4 0 (2 ^ M - 1) with
  | inl f => rfl
  | inr q5 =>
  dsimp only [bd]
  cases h6 : pS B N q5.2 44 with
  | inl f => rfl
  | inr q6 =>
  dsimp only [bd]
  cases h7 : pN B N q6 0 20 with
  | inl f => rfl
  | inr q7 =>
  dsimp only [bd]
  cases h8 : pS B N q7.2 59 with
  | inl f => rfl
  | inr q8 => rfl
theorem rp105 {w W : Wd} {f : Ft} {x1 x2 x3 x4 x5 x6 x7 : Option AV} (h : FSt w W f) : Rn none 5 jM_readPerson (105, [some (vR (sg 13)), x1, x2, x3, x4, x5, x6, x7], [], W) (none, W) := by
  refine Rn.if1t 60 rfl rfl h.ne ?_
  exact Rn.vr 60 rfl rfl rfl rfl
theorem rp94 {w W : Wd} {f : Ft} {x1 x2 x3 x4 x5 x6 x7 : Option AV} (h : FSt w W f) : Rn none 5 jM_readPerson (94, [some (vR (sg 13)), x1, x2, x3, x4, x5, x6, x7], [], W) (none, W) := by
  refine Rn.cv 60 rfl rfl rfl rfl rfl (r_numF h) (by decide) ?_
  exact Rn.at 1 rfl (rp105 h)
theorem rp76 {w W : Wd} {f : Ft} {x1 x2 x3 x4 x5 x6 x7 : Option AV} (h : FSt w W f) : Rn none 5 jM_readPerson (76, [some (vR (sg 13)), x1, x2, x3, x4, x5, x6, x7], [], W) (none, W) := by
  refine Rn.cv 60 rfl rfl rfl rfl rfl (r_get (k := 3) h.2.2.2.1 rfl (by decide) rfl) (by decide) ?_
  refine Rn.cv 60 rfl rfl rfl rfl rfl (r_numF h) (by decide) ?_
  exact Rn.at 1 rfl (rp94 h)
theorem rp66 {w W : Wd} {f : Ft} {i2 : Int32} {x1 x3 x4 x5 x6 x7 : Option AV} (h : FSt w W f) : Rn none 5 jM_readPerson (66, [some (vR (sg 13)), x1, some (vI i2), x3, x4, x5, x6, x7], [], W) (none, W) := by
  refine Rn.cv 60 rfl rfl rfl rfl rfl (r_numF h) (by decide) ?_
  exact Rn.at 1 rfl (rp76 h)
theorem r_pers0 {w W V : Wd} {N a : Nat} {B : Nat → Nat} (h : RSt w W V N B a) (hl : a < N) (hs : sof (B a) = 0) : ∃ W', Cl 6 jM_readPerson [vR (sg 13)] W (none, W') ∧ FSt w W' (1, a) := by
  have kk := h.kind hl
  rw [hs] at kk
  refine ⟨_, ?_, h.fail (by decide)⟩
  refine Cl.of rfl rfl rfl (lc := [some (vR (sg 13)), none, none, none, none, none, none, none]) rfl ?_
  refine Rn.cs 60 rfl rfl rfl rfl kk (by decide) ?_
  refine Rn.if1f 60 rfl rfl (fun z => z rfl) ?_
  refine Rn.cv 60 rfl rfl rfl rfl rfl (m_fails0 h.2.2.2.1 h.2.2.1.1) (by decide) ?_
  exact Rn.vr 60 rfl rfl rfl rfl
theorem r_pers5 {w W V : Wd} {N a : Nat} {B : Nat → Nat} (h : RSt w W V N B a) (hl : a < N) (hs : ¬ sof (B a) = 0) (v4 : V (sg 17) (147 + 4) = nI 5) : ∃ W', Cl 6 jM_readPerson [vR (sg 13)] W (none, W') ∧ FSt w W' (3, a) := by
  have h5 := sof5 (v := B a)
  refine ⟨_, ?_, h.fail (by decide)⟩
  refine Cl.of rfl rfl rfl (lc := [some (vR (sg 13)), none, none, none, none, none, none, none]) rfl ?_
  refine Rn.cs 60 rfl rfl rfl rfl (h.kind hl) (by decide) ?_
  refine Rn.if1t 60 rfl rfl (nI_ne0 (by omega) (by omega)) ?_
  refine Rn.cv 60 rfl rfl rfl rfl rfl (h.get rfl (by decide) v4) (by decide) ?_
  refine Rn.if2f 60 rfl rfl (fun z => z rfl) ?_
  refine Rn.cv 60 rfl rfl rfl rfl rfl (m_fails0 h.2.2.2.1 h.2.2.1.1) (by decide) ?_
  exact Rn.vr 60 rfl rfl rfl rfl
theorem sof_sgn {v : Nat} (h : ¬ sof v = 0) : sgn v = true := by
  unfold sof at h
  unfold sgn
  simp only [Bool.or_eq_true, Bool.and_eq_true, decide_eq_true_eq]
  split at h
  · omega
  split at h
  · omega
  split at h
  · omega
  split at h
  · omega
  split at h
  · omega
  exact absurd rfl h
theorem r_pers {w W V : Wd} {N a P M m : Nat} {B : Nat → Nat} (h : RSt w W V N B a) (hl : a < N) (hs : ¬ sof (B a) = 0) (hm : m < 5) (hP : 1 ≤ P ∧ P ≤ 6) (hM : M ≤ 8) (v0 : V (sg 17) (147 + 0) = nI P) (v3 : V (sg 17) (147 + 3) = nI M) (v4 : V (sg 17) (147 + 4) = nI m) : (∃ f W', pPers B N P M (a + 1) = .inl f ∧ Cl 6 jM_readPerson [vR (sg 13)] W (none, W') ∧ FSt w W' f) ∨ ∃ q W', pPers B N P M (a + 1) = .inr q ∧ Cl 6 jM_readPerson [vR (sg 13)] W (none, W') ∧ RSt w W' (wset (wset (wset (wset (wset (wset V (sg 17) (147 + (24 + 5 * m)) (nI (sof (B a)))) (sg 17) (147 + (24 + 5 * m + 1)) (nI q.1)) (sg 17) (147 + (24 + 5 * m + 2)) (nI q.2.1)) (sg 17) (147 + (24 + 5 * m + 3)) (nI q.2.2.1)) (sg 17) (147 + (24 + 5 * m + 4)) (nI q.2.2.2.1)) (sg 17) (147 + 4) (nI (m + 1))) N B q.2.2.2.2 := by
  have h5 := sof5 (v := B a)
  have hM2 : 2 ^ M ≤ 256 := Nat.pow_le_pow_right (n := 2) (by decide) hM
  rw [pPers_eq]
  obtain ⟨W1, n1, s1⟩ := h.next (a' := a + 1) (by rw [tkn_sign hl rfl (sof_sgn hs)])
  have k1 : ∀ {r : Rs}, Rn none 5 jM_readPerson (56, [some (vR (sg 13)), some (vI (nI (sof (B a)))), some (vI (nI (P - 1))), some (vI (nI (24 + 5 * m))), none, none, none, none], [], W1) r → Cl 6 jM_readPerson [vR (sg 13)] W r := by
    intro r kk
    refine Cl.of rfl rfl rfl (lc := [some (vR (sg 13)), none, none, none, none, none, none, none]) rfl ?_
    refine Rn.cs 60 rfl rfl rfl rfl (h.kind hl) (by decide) ?_
    refine Rn.if1t 60 rfl rfl (nI_ne0 (by omega) (by omega)) ?_
    refine Rn.cv 60 rfl rfl rfl rfl rfl (h.get rfl (by decide) v4) (by decide) ?_
    refine Rn.if2t 60 rfl rfl (by dsimp only [tm_c2P]; rw [nI_eq (by omega) (by decide)]; omega) ?_
    refine Rn.cv 60 rfl rfl rfl rfl rfl n1 (by decide) ?_
    refine Rn.cv 60 rfl rfl rfl rfl rfl (s1.get rfl (by decide) v0) (by decide) ?_
    refine Rn.cv 60 rfl rfl rfl rfl rfl (s1.get rfl (by decide) v4) (by decide) ?_
    exact Rn.at 3 (x := (56, [some (vR (sg 13)), some (vI (nI (sof (B a)))), some (vI (nI P - nI 1)), some (vI (nI 24 + nI 5 * nI m)), none, none, none, none], [], W1)) rfl (by rw [pk_sub hP.1, pk_mul, nI_add]; exact kk)
  rcases r_num (lo := 0) (hi := P - 1) (z := 44) s1 (by decide) (by omega) (by decide) with ⟨f, v, W', e1, e2, e3⟩ | ⟨q1, W2, e1, e2, s2⟩
  · rw [e1]
    refine Or.inl ⟨f, W', rfl, k1 ?_, e3⟩
    refine Rn.cv 60 rfl rfl rfl rfl rfl e2 (by decide) ?_
    exact Rn.at 1 rfl (rp66 e3)
  rw [e1]
  show (∃ f W', (bd (pNS B N q1.2 0 (P - 1) 44) fun q3 => bd (pNS B N q3.2 0 (2 ^ M - 1) 44) fun q5 => bd (pNS B N q5.2 0 20 59) fun q7 => .inr (q1.1, q3.1, q5.1, q7.1, q7.2)) = .inl f ∧ _) ∨ ∃ q W', (bd (pNS B N q1.2 0 (P - 1) 44) fun q3 => bd (pNS B N q3.2 0 (2 ^ M - 1) 44) fun q5 => bd (pNS B N q5.2 0 20 59) fun q7 => .inr (q1.1, q3.1, q5.1, q7.1, q7.2)) = .inr q ∧ _
  have k2 : ∀ {r : Rs}, Rn none 5 jM_readPerson (66, [some (vR (sg 13)), some (vI (nI (sof (B a)))), some (vI (nI (P - 1))), some (vI (nI (24 + 5 * m))), some (vI (nI q1.1)), none, none, none], [], W2) r → Cl 6 jM_readPerson [vR (sg 13)] W r := by
    intro r kk
    refine k1 ?_
    refine Rn.cv 60 rfl rfl rfl rfl rfl e2 (by decide) ?_
    exact Rn.at 1 rfl kk
  rcases r_num (lo := 0) (hi := P - 1) (z := 44) s2 (by decide) (by omega) (by decide) with ⟨f, v, W', e3, e4, e5⟩ | ⟨q3, W3, e3, e4, s3⟩
  · rw [e3]
    refine Or.inl ⟨f, W', rfl, k2 ?_, e5⟩
    refine Rn.cv 60 rfl rfl rfl rfl rfl e4 (by decide) ?_
    exact Rn.at 1 rfl (rp76 e5)
  rw [e3]
  show (∃ f W', (bd (pNS B N q3.2 0 (2 ^ M - 1) 44) fun q5 => bd (pNS B N q5.2 0 20 59) fun q7 => .inr (q1.1, q3.1, q5.1, q7.1, q7.2)) = .inl f ∧ _) ∨ ∃ q W', (bd (pNS B N q3.2 0 (2 ^ M - 1) 44) fun q5 => bd (pNS B N q5.2 0 20 59) fun q7 => .inr (q1.1, q3.1, q5.1, q7.1, q7.2)) = .inr q ∧ _
  have k3 : ∀ {r : Rs}, Rn none 5 jM_readPerson (76, [some (vR (sg 13)), some (vI (nI (sof (B a)))), some (vI (nI (P - 1))), some (vI (nI (24 + 5 * m))), some (vI (nI q1.1)), some (vI (nI q3.1)), none, none], [], W3) r → Cl 6 jM_readPerson [vR (sg 13)] W r := by
    intro r kk
    refine k2 ?_
    refine Rn.cv 60 rfl rfl rfl rfl rfl e4 (by decide) ?_
    exact Rn.at 1 rfl kk
  have eM : nI (2 ^ M - 1) = nI 1 <<< (nI M &&& 31) - nI 1 := by rw [nJ_1shl (by omega), pk_sub Nat.one_le_two_pow]
  rcases r_num (lo := 0) (hi := 2 ^ M - 1) (z := 44) s3 (by decide) (by omega) (by decide) with ⟨f, v, W', e5, e6, e7⟩ | ⟨q5, W4, e5, e6, s4⟩
  · rw [eM] at e6
    rw [e5]
    refine Or.inl ⟨f, W', rfl, k3 ?_, e7⟩
    refine Rn.cv 60 rfl rfl rfl rfl rfl (s3.get rfl (by decide) v3) (by decide) ?_
    refine Rn.cv 60 rfl rfl rfl rfl rfl e6 (by decide) ?_
    exact Rn.at 1 rfl (rp94 e7)
  rw [eM] at e6
  rw [e5]
  show (∃ f W', (bd (pNS B N q5.2 0 20 59) fun q7 => .inr (q1.1, q3.1, q5.1, q7.1, q7.2)) = .inl f ∧ _) ∨ ∃ q W', (bd (pNS B N q5.2 0 20 59) fun q7 => .inr (q1.1, q3.1, q5.1, q7.1, q7.2)) = .inr q ∧ _
  have k4 : ∀ {r : Rs}, Rn none 5 jM_readPerson (94, [some (vR (sg 13)), some (vI (nI (sof (B a)))), some (vI (nI (P - 1))), some (vI (nI (24 + 5 * m))), some (vI (nI q1.1)), some (vI (nI q3.1)), some (vI (nI q5.1)), none], [], W4) r → Cl 6 jM_readPerson [vR (sg 13)] W r := by
    intro r kk
    refine k3 ?_
    refine Rn.cv 60 rfl rfl rfl rfl rfl (s3.get rfl (by decide) v3) (by decide) ?_
    refine Rn.cv 60 rfl rfl rfl rfl rfl e6 (by decide) ?_
    exact Rn.at 1 rfl kk
  rcases r_num (lo := 0) (hi := 20) (z := 59) s4 (by decide) (by decide) (by decide) with ⟨f, v, W', e7, e8, e9⟩ | ⟨q7, W5, e7, e8, s5⟩
  · rw [e7]
    refine Or.inl ⟨f, W', rfl, k4 ?_, e9⟩
    refine Rn.cv 60 rfl rfl rfl rfl rfl e8 (by decide) ?_
    exact Rn.at 1 rfl (rp105 e9)
  rw [e7]
  have t1 : RSt w (wset W5 (sg 17) (147 + (24 + 5 * m)) (nI (sof (B a)))) _ N B q7.2 := s5.put (by omega)
  have t2 := t1.put (j := 147 + (24 + 5 * m + 1)) (x := nI q1.1) (by omega)
  have t3 := t2.put (j := 147 + (24 + 5 * m + 2)) (x := nI q3.1) (by omega)
  have t4 := t3.put (j := 147 + (24 + 5 * m + 3)) (x := nI q5.1) (by omega)
  have t5 := t4.put (j := 147 + (24 + 5 * m + 4)) (x := nI q7.1) (by omega)
  refine Or.inr ⟨(q1.1, q3.1, q5.1, q7.1, q7.2), _, rfl, k4 ?_, t5.put (j := 147 + 4) (x := nI (m + 1)) (by omega)⟩
  refine Rn.cv 60 rfl rfl rfl rfl rfl e8 (by decide) ?_
  refine Rn.if1f 60 rfl rfl (by dsimp only [tm_c2P]; rw [s5.2.2.2.1]; decide) ?_
  refine Rn.cv 60 rfl rfl rfl rfl rfl (r_put (k := 24 + 5 * m) s5.2.2.2.2.1 (by dsimp only; rw [nI_add, Nat.add_zero]) (by omega)) (by decide) ?_
  refine Rn.cv 60 rfl rfl rfl rfl rfl (r_put (k := 24 + 5 * m + 1) t1.2.2.2.2.1 (by dsimp only; rw [nI_add]) (by omega)) (by decide) ?_
  refine Rn.cv 60 rfl rfl rfl rfl rfl (r_put (k := 24 + 5 * m + 2) t2.2.2.2.2.1 (by dsimp only; rw [nI_add]) (by omega)) (by decide) ?_
  refine Rn.cv 60 rfl rfl rfl rfl rfl (r_put (k := 24 + 5 * m + 3) t3.2.2.2.2.1 (by dsimp only; rw [nI_add]) (by omega)) (by decide) ?_
  refine Rn.cv 60 rfl rfl rfl rfl rfl (r_put (k := 24 + 5 * m + 4) t4.2.2.2.2.1 (by dsimp only; rw [nI_add]) (by omega)) (by decide) ?_
  refine Rn.cv 60 rfl rfl rfl rfl rfl (t5.get (k := 4) (v := nI m) rfl (by decide) (by rw [wset_k (by omega), wset_k (by omega), wset_k (by omega), wset_k (by omega), wset_k (by omega)]; exact v4)) (by decide) ?_
  have p6 := r_put (k := 4) (x := nI 4) (v := nI (m + 1)) t5.2.2.2.2.1 rfl (by decide)
  rw [← nI_add m 1] at p6
  refine Rn.cv 60 rfl rfl rfl rfl rfl p6 (by decide) ?_
  rw [nI_add]
  exact Rn.vr 60 rfl rfl rfl rfl
