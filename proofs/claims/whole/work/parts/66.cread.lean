/-! the class reads: head, gate, person -/
theorem sp_readHead {w : Wd} {N : Nat} {B : Nat → Nat} (ht : TpC w N B 0) : (∃ f w', pHead B N = .inl f ∧ Cl 4 jT_readHead [vR (sg 2), vR (cit 1 0)] w (some (vI (bI false)), w') ∧ CFr w w' ∧ Flt w' f.1 f.2) ∨ ∃ q w', pHead B N = .inr q ∧ Cl 4 jT_readHead [vR (sg 2), vR (cit 1 0)] w (some (vI (bI true)), w') ∧ CSt w w' (wset (wset (wset w (cit 1 0) 0 (nI q.1)) (cit 1 0) 1 (nI q.2.1)) (cit 1 0) 2 (nI q.2.2.1)) N B q.2.2.2 := by
  have s0 := CSt.rf ht
  have k0 : ∀ {r : Rs}, Rn none 3 jT_readHead (0, [some (vR (sg 2)), some (vR (cit 1 0))], [], w) r → Cl 4 jT_readHead [vR (sg 2), vR (cit 1 0)] w r := fun kk => Cl.of rfl rfl rfl (lc := [some (vR (sg 2)), some (vR (cit 1 0))]) rfl kk
  cases h1 : pS B N 0 112 with
  | inl f =>
    obtain ⟨w', a1, a2, a3⟩ := c_sNo s0.1 (by decide) h1
    refine Or.inl ⟨f, w', by simp only [pHead, bd, h1], k0 (Rn.cv 60 rfl rfl rfl rfl rfl a1 (by decide) (Rn.if1t 60 rfl rfl (by dsimp only [tm_c2P]; decide) (Rn.zr 60 rfl rfl rfl (by decide) rfl))), s0.2.1.tr a2.c, a3⟩
  | inr q1 =>
    obtain ⟨w1, a1, b1, d1⟩ := c_sYes s0.1 (by decide) h1
    have s1 : CSt w w1 (w) N B q1 := s0.take b1 d1
    have k1 : ∀ {r : Rs}, Rn none 3 jT_readHead (9, [some (vR (sg 2)), some (vR (cit 1 0))], [], w1) r → Cl 4 jT_readHead [vR (sg 2), vR (cit 1 0)] w r := fun kk => k0 (Rn.cv 60 rfl rfl rfl rfl rfl a1 (by decide) (Rn.if1f 60 rfl rfl (by dsimp only [tm_c2P]; decide) kk))
    cases h2 : pN B N q1 2 (6) with
    | inl f =>
      obtain ⟨w', a1, a2, a3⟩ := c_nNo s1.1 (by decide) (by decide) h2
      refine Or.inl ⟨f, w', by simp only [pHead, bd, h1, h2], k1 (Rn.cv 60 rfl rfl rfl rfl rfl a1 (by decide) (Rn.if1f 60 rfl rfl (by dsimp only [tm_c2P]; decide) (Rn.zr 60 rfl rfl rfl (by decide) rfl))), s1.2.1.tr a2.c, a3⟩
    | inr q2 =>
      obtain ⟨w2, a2, b2, d2, g2⟩ := c_nYes s1.1 (by decide) (by decide) h2
      have l2 := pN_le s1.1.2.2.1 h2
      have s2 : CSt w w2 (w) N B q2.2 := s1.take b2 d2
      have k2 : ∀ {r : Rs}, Rn none 3 jT_readHead (21, [some (vR (sg 2)), some (vR (cit 1 0))], [], w2) r → Cl 4 jT_readHead [vR (sg 2), vR (cit 1 0)] w r := fun kk => k1 (Rn.cv 60 rfl rfl rfl rfl rfl a2 (by decide) (Rn.if1t 60 rfl rfl (by dsimp only [tm_c2P]; decide) kk))
      have k2p : ∀ {r : Rs}, Rn none 3 jT_readHead (29, [some (vR (sg 2)), some (vR (cit 1 0))], [], wset w2 (cit 1 0) 0 (nI q2.1)) r → Cl 4 jT_readHead [vR (sg 2), vR (cit 1 0)] w r := fun kk => k2 (Rn.at 4 (x := (29, [some (vR (sg 2)), some (vR (cit 1 0))], [], wset w2 (cit 1 0) 0 (w2 (sg 2) 5))) rfl (by rw [g2]; exact kk))
      have s2p : CSt w (wset w2 (cit 1 0) 0 (nI q2.1)) (wset (w) (cit 1 0) 0 (nI q2.1)) N B q2.2 := s2.put
      cases h3 : pS B N q2.2 44 with
      | inl f =>
        obtain ⟨w', a1, a2, a3⟩ := c_sNo s2p.1 (by decide) h3
        refine Or.inl ⟨f, w', by simp only [pHead, bd, h1, h2, h3], k2p (Rn.cv 60 rfl rfl rfl rfl rfl a1 (by decide) (Rn.if1t 60 rfl rfl (by dsimp only [tm_c2P]; decide) (Rn.zr 60 rfl rfl rfl (by decide) rfl))), s2p.2.1.tr a2.c, a3⟩
      | inr q3 =>
        obtain ⟨w3, a3, b3, d3⟩ := c_sYes s2p.1 (by decide) h3
        have s3 : CSt w w3 (wset (w) (cit 1 0) 0 (nI q2.1)) N B q3 := s2p.take b3 d3
        have k3 : ∀ {r : Rs}, Rn none 3 jT_readHead (38, [some (vR (sg 2)), some (vR (cit 1 0))], [], w3) r → Cl 4 jT_readHead [vR (sg 2), vR (cit 1 0)] w r := fun kk => k2p (Rn.cv 60 rfl rfl rfl rfl rfl a3 (by decide) (Rn.if1f 60 rfl rfl (by dsimp only [tm_c2P]; decide) kk))
        cases h4 : pN B N q3 0 (3) with
        | inl f =>
          obtain ⟨w', a1, a2, a3⟩ := c_nNo s3.1 (by decide) (by decide) h4
          refine Or.inl ⟨f, w', by simp only [pHead, bd, h1, h2, h3, h4], k3 (Rn.cv 60 rfl rfl rfl rfl rfl a1 (by decide) (Rn.if1f 60 rfl rfl (by dsimp only [tm_c2P]; decide) (Rn.zr 60 rfl rfl rfl (by decide) rfl))), s3.2.1.tr a2.c, a3⟩
        | inr q4 =>
          obtain ⟨w4, a4, b4, d4, g4⟩ := c_nYes s3.1 (by decide) (by decide) h4
          have l4 := pN_le s3.1.2.2.1 h4
          have s4 : CSt w w4 (wset (w) (cit 1 0) 0 (nI q2.1)) N B q4.2 := s3.take b4 d4
          have k4 : ∀ {r : Rs}, Rn none 3 jT_readHead (49, [some (vR (sg 2)), some (vR (cit 1 0))], [], w4) r → Cl 4 jT_readHead [vR (sg 2), vR (cit 1 0)] w r := fun kk => k3 (Rn.cv 60 rfl rfl rfl rfl rfl a4 (by decide) (Rn.if1t 60 rfl rfl (by dsimp only [tm_c2P]; decide) kk))
          have k4p : ∀ {r : Rs}, Rn none 3 jT_readHead (57, [some (vR (sg 2)), some (vR (cit 1 0))], [], wset w4 (cit 1 0) 1 (nI q4.1)) r → Cl 4 jT_readHead [vR (sg 2), vR (cit 1 0)] w r := fun kk => k4 (Rn.at 4 (x := (57, [some (vR (sg 2)), some (vR (cit 1 0))], [], wset w4 (cit 1 0) 1 (w4 (sg 2) 5))) rfl (by rw [g4]; exact kk))
          have s4p : CSt w (wset w4 (cit 1 0) 1 (nI q4.1)) (wset (wset (w) (cit 1 0) 0 (nI q2.1)) (cit 1 0) 1 (nI q4.1)) N B q4.2 := s4.put
          cases h5 : pS B N q4.2 44 with
          | inl f =>
            obtain ⟨w', a1, a2, a3⟩ := c_sNo s4p.1 (by decide) h5
            refine Or.inl ⟨f, w', by simp only [pHead, bd, h1, h2, h3, h4, h5], k4p (Rn.cv 60 rfl rfl rfl rfl rfl a1 (by decide) (Rn.if1t 60 rfl rfl (by dsimp only [tm_c2P]; decide) (Rn.zr 60 rfl rfl rfl (by decide) rfl))), s4p.2.1.tr a2.c, a3⟩
          | inr q5 =>
            obtain ⟨w5, a5, b5, d5⟩ := c_sYes s4p.1 (by decide) h5
            have s5 : CSt w w5 (wset (wset (w) (cit 1 0) 0 (nI q2.1)) (cit 1 0) 1 (nI q4.1)) N B q5 := s4p.take b5 d5
            have k5 : ∀ {r : Rs}, Rn none 3 jT_readHead (66, [some (vR (sg 2)), some (vR (cit 1 0))], [], w5) r → Cl 4 jT_readHead [vR (sg 2), vR (cit 1 0)] w r := fun kk => k4p (Rn.cv 60 rfl rfl rfl rfl rfl a5 (by decide) (Rn.if1f 60 rfl rfl (by dsimp only [tm_c2P]; decide) kk))
            cases h6 : pN B N q5 0 (2) with
            | inl f =>
              obtain ⟨w', a1, a2, a3⟩ := c_nNo s5.1 (by decide) (by decide) h6
              refine Or.inl ⟨f, w', by simp only [pHead, bd, h1, h2, h3, h4, h5, h6], k5 (Rn.cv 60 rfl rfl rfl rfl rfl a1 (by decide) (Rn.if1f 60 rfl rfl (by dsimp only [tm_c2P]; decide) (Rn.zr 60 rfl rfl rfl (by decide) rfl))), s5.2.1.tr a2.c, a3⟩
            | inr q6 =>
              obtain ⟨w6, a6, b6, d6, g6⟩ := c_nYes s5.1 (by decide) (by decide) h6
              have l6 := pN_le s5.1.2.2.1 h6
              have s6 : CSt w w6 (wset (wset (w) (cit 1 0) 0 (nI q2.1)) (cit 1 0) 1 (nI q4.1)) N B q6.2 := s5.take b6 d6
              have k6 : ∀ {r : Rs}, Rn none 3 jT_readHead (77, [some (vR (sg 2)), some (vR (cit 1 0))], [], w6) r → Cl 4 jT_readHead [vR (sg 2), vR (cit 1 0)] w r := fun kk => k5 (Rn.cv 60 rfl rfl rfl rfl rfl a6 (by decide) (Rn.if1t 60 rfl rfl (by dsimp only [tm_c2P]; decide) kk))
              have k6p : ∀ {r : Rs}, Rn none 3 jT_readHead (85, [some (vR (sg 2)), some (vR (cit 1 0))], [], wset w6 (cit 1 0) 2 (nI q6.1)) r → Cl 4 jT_readHead [vR (sg 2), vR (cit 1 0)] w r := fun kk => k6 (Rn.at 4 (x := (85, [some (vR (sg 2)), some (vR (cit 1 0))], [], wset w6 (cit 1 0) 2 (w6 (sg 2) 5))) rfl (by rw [g6]; exact kk))
              have s6p : CSt w (wset w6 (cit 1 0) 2 (nI q6.1)) (wset (wset (wset (w) (cit 1 0) 0 (nI q2.1)) (cit 1 0) 1 (nI q4.1)) (cit 1 0) 2 (nI q6.1)) N B q6.2 := s6.put
              cases h7 : pS B N q6.2 59 with
              | inl f =>
                obtain ⟨w', a1, a2, a3⟩ := c_sNo s6p.1 (by decide) h7
                refine Or.inl ⟨f, w', by simp only [pHead, bd, h1, h2, h3, h4, h5, h6, h7], k6p (Rn.cv 60 rfl rfl rfl rfl rfl a1 (by decide) (Rn.zr 60 rfl rfl rfl (by decide) rfl)), s6p.2.1.tr a2.c, a3⟩
              | inr q7 =>
                obtain ⟨w7, a7, b7, d7⟩ := c_sYes s6p.1 (by decide) h7
                have s7 : CSt w w7 (wset (wset (wset (w) (cit 1 0) 0 (nI q2.1)) (cit 1 0) 1 (nI q4.1)) (cit 1 0) 2 (nI q6.1)) N B q7 := s6p.take b7 d7
                exact Or.inr ⟨(q2.1, q4.1, q6.1, q7), w7, by simp only [pHead, bd, h1, h2, h3, h4, h5, h6, h7], k6p (Rn.cv 60 rfl rfl rfl rfl rfl a7 (by decide) (Rn.zr 60 rfl rfl rfl (by decide) rfl)), s7⟩
theorem sp_readGate {w : Wd} {N a i P o : Nat} {B : Nat → Nat} (ht : TpC w N B a) (hi : i < 8) (hP : 1 ≤ P ∧ P ≤ 6) (hp : w (cit 1 0) 0 = nI P) (ho : w (cit 1 0) 12 = nI o) : (∃ f w', pGate B N P a = .inl f ∧ Cl 4 jT_readGate [vR (sg 2), vR (cit 1 0), vI (nI i)] w (some (vI (bI false)), w') ∧ CFr w w' ∧ Flt w' f.1 f.2) ∨ ∃ q w', pGate B N P a = .inr q ∧ Cl 4 jT_readGate [vR (sg 2), vR (cit 1 0), vI (nI i)] w (some (vI (bI true)), w') ∧ CSt w w' (wset (wset (wset w (cit 1 1) i (nI q.1)) (cit 1 2) i (nI q.2.1)) (cit 1 0) 12 (nI (o ||| q.2.2.1 * 2 ^ i))) N B q.2.2.2 := by
  have s0 := CSt.rf ht
  have k0 : ∀ {r : Rs}, Rn none 3 jT_readGate (0, [some (vR (sg 2)), some (vR (cit 1 0)), some (vI (nI i)), none], [], w) r → Cl 4 jT_readGate [vR (sg 2), vR (cit 1 0), vI (nI i)] w r := fun kk => Cl.of rfl rfl rfl (lc := [some (vR (sg 2)), some (vR (cit 1 0)), some (vI (nI i)), none]) rfl kk
  have e1 : nI (P - 1) = w (cit 1 0) 0 - nI 1 := by rw [hp, pk_sub hP.1]
  cases h1 : pN B N a 0 (P - 1) with
  | inl f =>
    obtain ⟨w', a1, a2, a3⟩ := c_nNo s0.1 (by decide) (by omega) h1
    rw [e1] at a1
    refine Or.inl ⟨f, w', by simp only [pGate, bd, h1], k0 (Rn.cv 60 rfl rfl rfl rfl rfl a1 (by decide) (Rn.if1f 60 rfl rfl (by dsimp only [tm_c2P]; decide) (Rn.zr 60 rfl rfl rfl (by decide) rfl))), s0.2.1.tr a2.c, a3⟩
  | inr q1 =>
    obtain ⟨w1, a1, b1, d1, g1⟩ := c_nYes s0.1 (by decide) (by omega) h1
    have l1 := pN_le s0.1.2.2.1 h1
    rw [e1] at a1
    have s1 : CSt w w1 (w) N B q1.2 := s0.take b1 d1
    have k1 : ∀ {r : Rs}, Rn none 3 jT_readGate (16, [some (vR (sg 2)), some (vR (cit 1 0)), some (vI (nI i)), none], [], w1) r → Cl 4 jT_readGate [vR (sg 2), vR (cit 1 0), vI (nI i)] w r := fun kk => k0 (Rn.cv 60 rfl rfl rfl rfl rfl a1 (by decide) (Rn.if1t 60 rfl rfl (by dsimp only [tm_c2P]; decide) kk))
    have k1p : ∀ {r : Rs}, Rn none 3 jT_readGate (26, [some (vR (sg 2)), some (vR (cit 1 0)), some (vI (nI i)), none], [], wset w1 (cit 1 1) i (nI q1.1)) r → Cl 4 jT_readGate [vR (sg 2), vR (cit 1 0), vI (nI i)] w r := fun kk => k1 (Rn.as 60 rfl rfl rfl rfl hi (by rw [g1]; exact kk))
    have s1p : CSt w (wset w1 (cit 1 1) i (nI q1.1)) (wset (w) (cit 1 1) i (nI q1.1)) N B q1.2 := s1.put
    cases h2 : pS B N q1.2 44 with
    | inl f =>
      obtain ⟨w', a1, a2, a3⟩ := c_sNo s1p.1 (by decide) h2
      refine Or.inl ⟨f, w', by simp only [pGate, bd, h1, h2], k1p (Rn.cv 60 rfl rfl rfl rfl rfl a1 (by decide) (Rn.if1f 60 rfl rfl (by dsimp only [tm_c2P]; decide) (Rn.zr 60 rfl rfl rfl (by decide) rfl))), s1p.2.1.tr a2.c, a3⟩
    | inr q2 =>
      obtain ⟨w2, a2, b2, d2⟩ := c_sYes s1p.1 (by decide) h2
      have s2 : CSt w w2 (wset (w) (cit 1 1) i (nI q1.1)) N B q2 := s1p.take b2 d2
      have k2 : ∀ {r : Rs}, Rn none 3 jT_readGate (37, [some (vR (sg 2)), some (vR (cit 1 0)), some (vI (nI i)), none], [], w2) r → Cl 4 jT_readGate [vR (sg 2), vR (cit 1 0), vI (nI i)] w r := fun kk => k1p (Rn.cv 60 rfl rfl rfl rfl rfl a2 (by decide) (Rn.if1t 60 rfl rfl (by dsimp only [tm_c2P]; decide) kk))
      have k2l : ∀ {r : Rs}, Rn none 3 jT_readGate (42, [some (vR (sg 2)), some (vR (cit 1 0)), some (vI (nI i)), some (vI (w2 (sg 2) 4))], [], w2) r → Cl 4 jT_readGate [vR (sg 2), vR (cit 1 0), vI (nI i)] w r := fun kk => k2 (Rn.at 3 rfl kk)
      have e3 : nI (P - 1) = w2 (cit 1 0) 0 - nI 1 := by rw [s2.2.2.2 0, wset_ne (cit_p (by decide)), hp, pk_sub hP.1]
      cases h3 : pN B N q2 0 (P - 1) with
      | inl f =>
        obtain ⟨w', a1, a2, a3⟩ := c_nNo s2.1 (by decide) (by omega) h3
        rw [e3] at a1
        refine Or.inl ⟨f, w', by simp only [pGate, bd, h1, h2, h3], k2l (Rn.cv 60 rfl rfl rfl rfl rfl a1 (by decide) (Rn.if1f 60 rfl rfl (by dsimp only [tm_c2P]; decide) (Rn.zr 60 rfl rfl rfl (by decide) rfl))), s2.2.1.tr a2.c, a3⟩
      | inr q3 =>
        obtain ⟨w3, a3, b3, d3, g3⟩ := c_nYes s2.1 (by decide) (by omega) h3
        have l3 := pN_le s2.1.2.2.1 h3
        rw [e3] at a3
        have s3 : CSt w w3 (wset (w) (cit 1 1) i (nI q1.1)) N B q3.2 := s2.take b3 d3
        have k3 : ∀ {r : Rs}, Rn none 3 jT_readGate (58, [some (vR (sg 2)), some (vR (cit 1 0)), some (vI (nI i)), some (vI (w2 (sg 2) 4))], [], w3) r → Cl 4 jT_readGate [vR (sg 2), vR (cit 1 0), vI (nI i)] w r := fun kk => k2l (Rn.cv 60 rfl rfl rfl rfl rfl a3 (by decide) (Rn.if1t 60 rfl rfl (by dsimp only [tm_c2P]; decide) kk))
        have k3p : ∀ {r : Rs}, Rn none 3 jT_readGate (68, [some (vR (sg 2)), some (vR (cit 1 0)), some (vI (nI i)), some (vI (w2 (sg 2) 4))], [], wset w3 (cit 1 2) i (nI q3.1)) r → Cl 4 jT_readGate [vR (sg 2), vR (cit 1 0), vI (nI i)] w r := fun kk => k3 (Rn.as 60 rfl rfl rfl rfl hi (by rw [g3]; exact kk))
        have s3p : CSt w (wset w3 (cit 1 2) i (nI q3.1)) (wset (wset (w) (cit 1 1) i (nI q1.1)) (cit 1 2) i (nI q3.1)) N B q3.2 := s3.put
        have e1f : (wset w3 (cit 1 2) i (nI q3.1)) (cit 1 1) i = nI q1.1 := by rw [s3p.2.2.2 1, wset_ne (cit_p (by decide)), wset_s]
        have e5 : (wset w3 (cit 1 2) i (nI q3.1)) (sg 2) 5 = nI q3.1 := by rw [wset_ne sg_cit, g3]
        by_cases hu : q1.1 = q3.1
        · refine Or.inl ⟨(2, q2), _, by simp only [pGate, bd, h1, h2, h3]; rw [if_pos hu], k3p (Rn.al 60 rfl rfl rfl rfl hi (Rn.if2f 60 rfl rfl ?_ (Rn.cv 60 rfl rfl rfl rfl rfl sp_refuse (by decide) (Rn.zr 60 rfl rfl rfl (by decide) rfl)))), s3p.2.1.tr ((PFr.set (by decide)).tr (PFr.set (by decide))).c, ?_, ?_⟩
          · dsimp only [tm_c2P]
            rw [e1f, e5, hu]
            exact fun z => z rfl
          · rw [wset_k (by decide), wset_s]
          · rw [wset_s]
            exact d2.2.2.2.2.1
        have k3q : ∀ {r : Rs}, Rn none 3 jT_readGate (88, [some (vR (sg 2)), some (vR (cit 1 0)), some (vI (nI i)), some (vI (w2 (sg 2) 4))], [], (wset w3 (cit 1 2) i (nI q3.1))) r → Cl 4 jT_readGate [vR (sg 2), vR (cit 1 0), vI (nI i)] w r := fun kk => k3p (Rn.al 60 rfl rfl rfl rfl hi (Rn.if2t 60 rfl rfl (by dsimp only [tm_c2P]; rw [e1f, e5, nI_eq (by omega) (by omega)]; exact hu) kk))
        cases h4 : pS B N q3.2 44 with
        | inl f =>
          obtain ⟨w', a1, a2, a3⟩ := c_sNo s3p.1 (by decide) h4
          refine Or.inl ⟨f, w', by simp only [pGate, bd, h1, h2, h3, if_neg hu, h4], k3q (Rn.cv 60 rfl rfl rfl rfl rfl a1 (by decide) (Rn.if1t 60 rfl rfl (by dsimp only [tm_c2P]; decide) (Rn.zr 60 rfl rfl rfl (by decide) rfl))), s3p.2.1.tr a2.c, a3⟩
        | inr q4 =>
          obtain ⟨w4, a4, b4, d4⟩ := c_sYes s3p.1 (by decide) h4
          have s4 : CSt w w4 (wset (wset (w) (cit 1 1) i (nI q1.1)) (cit 1 2) i (nI q3.1)) N B q4 := s3p.take b4 d4
          have k4 : ∀ {r : Rs}, Rn none 3 jT_readGate (97, [some (vR (sg 2)), some (vR (cit 1 0)), some (vI (nI i)), some (vI (w2 (sg 2) 4))], [], w4) r → Cl 4 jT_readGate [vR (sg 2), vR (cit 1 0), vI (nI i)] w r := fun kk => k3q (Rn.cv 60 rfl rfl rfl rfl rfl a4 (by decide) (Rn.if1f 60 rfl rfl (by dsimp only [tm_c2P]; decide) kk))
          cases h5 : pN B N q4 0 (1) with
          | inl f =>
            obtain ⟨w', a1, a2, a3⟩ := c_nNo s4.1 (by decide) (by decide) h5
            refine Or.inl ⟨f, w', by simp only [pGate, bd, h1, h2, h3, if_neg hu, h4, h5], k4 (Rn.cv 60 rfl rfl rfl rfl rfl a1 (by decide) (Rn.if1f 60 rfl rfl (by dsimp only [tm_c2P]; decide) (Rn.zr 60 rfl rfl rfl (by decide) rfl))), s4.2.1.tr a2.c, a3⟩
          | inr q5 =>
            obtain ⟨w5, a5, b5, d5, g5⟩ := c_nYes s4.1 (by decide) (by decide) h5
            have l5 := pN_le s4.1.2.2.1 h5
            have s5 : CSt w w5 (wset (wset (w) (cit 1 1) i (nI q1.1)) (cit 1 2) i (nI q3.1)) N B q5.2 := s4.take b5 d5
            have k5 : ∀ {r : Rs}, Rn none 3 jT_readGate (108, [some (vR (sg 2)), some (vR (cit 1 0)), some (vI (nI i)), some (vI (w2 (sg 2) 4))], [], w5) r → Cl 4 jT_readGate [vR (sg 2), vR (cit 1 0), vI (nI i)] w r := fun kk => k4 (Rn.cv 60 rfl rfl rfl rfl rfl a5 (by decide) (Rn.if1t 60 rfl rfl (by dsimp only [tm_c2P]; decide) kk))
            have hb : q5.1 * 2 ^ i < 2 ^ 32 := by
              have z1 : 2 ^ i ≤ 2 ^ 7 := Nat.pow_le_pow_right (by decide) (by omega)
              have z2 : q5.1 * 2 ^ i ≤ 1 * 2 ^ 7 := Nat.mul_le_mul l5.2.2 z1
              omega
            have e12 : w5 (cit 1 0) 12 ||| w5 (sg 2) 5 <<< (nI i &&& 31) = nI (o ||| q5.1 * 2 ^ i) := by rw [s5.2.2.2 0, wset_ne (cit_p (by decide)), wset_ne (cit_p (by decide)), ho, g5, nJ_shl (by omega) hb, nJ_or]
            have k5p : ∀ {r : Rs}, Rn none 3 jT_readGate (123, [some (vR (sg 2)), some (vR (cit 1 0)), some (vI (nI i)), some (vI (w2 (sg 2) 4))], [], wset w5 (cit 1 0) 12 (nI (o ||| q5.1 * 2 ^ i))) r → Cl 4 jT_readGate [vR (sg 2), vR (cit 1 0), vI (nI i)] w r := fun kk => k5 (Rn.at 9 (x := (123, [some (vR (sg 2)), some (vR (cit 1 0)), some (vI (nI i)), some (vI (w2 (sg 2) 4))], [], wset w5 (cit 1 0) 12 (w5 (cit 1 0) 12 ||| w5 (sg 2) 5 <<< (nI i &&& 31)))) rfl (by rw [e12]; exact kk))
            have s5p : CSt w (wset w5 (cit 1 0) 12 (nI (o ||| q5.1 * 2 ^ i))) (wset (wset (wset (w) (cit 1 1) i (nI q1.1)) (cit 1 2) i (nI q3.1)) (cit 1 0) 12 (nI (o ||| q5.1 * 2 ^ i))) N B q5.2 := s5.put
            cases h6 : pS B N q5.2 59 with
            | inl f =>
              obtain ⟨w', a1, a2, a3⟩ := c_sNo s5p.1 (by decide) h6
              refine Or.inl ⟨f, w', by simp only [pGate, bd, h1, h2, h3, if_neg hu, h4, h5, h6], k5p (Rn.cv 60 rfl rfl rfl rfl rfl a1 (by decide) (Rn.zr 60 rfl rfl rfl (by decide) rfl)), s5p.2.1.tr a2.c, a3⟩
            | inr q6 =>
              obtain ⟨w6, a6, b6, d6⟩ := c_sYes s5p.1 (by decide) h6
              have s6 : CSt w w6 (wset (wset (wset (w) (cit 1 1) i (nI q1.1)) (cit 1 2) i (nI q3.1)) (cit 1 0) 12 (nI (o ||| q5.1 * 2 ^ i))) N B q6 := s5p.take b6 d6
              exact Or.inr ⟨(q1.1, q3.1, q5.1, q6), w6, by simp only [pGate, bd, h1, h2, h3, if_neg hu, h4, h5, h6], k5p (Rn.cv 60 rfl rfl rfl rfl rfl a6 (by decide) (Rn.zr 60 rfl rfl rfl (by decide) rfl)), s6⟩
theorem sp_readPerson {w : Wd} {N a i P M : Nat} {B : Nat → Nat} (ht : TpC w N B a) (hi : i < 5) (hP : 1 ≤ P ∧ P ≤ 6) (hM : M ≤ 8) (hp : w (cit 1 0) 0 = nI P) (hm : w (cit 1 0) 3 = nI M) : (∃ f w', pPers B N P M a = .inl f ∧ Cl 4 jT_readPerson [vR (sg 2), vR (cit 1 0), vI (nI i)] w (some (vI (bI false)), w') ∧ CFr w w' ∧ Flt w' f.1 f.2) ∨ ∃ q w', pPers B N P M a = .inr q ∧ Cl 4 jT_readPerson [vR (sg 2), vR (cit 1 0), vI (nI i)] w (some (vI (bI true)), w') ∧ CSt w w' (wset (wset (wset (wset w (cit 1 4) i (nI q.1)) (cit 1 5) i (nI q.2.1)) (cit 1 7) i (nI q.2.2.1)) (cit 1 6) i (nI q.2.2.2.1)) N B q.2.2.2.2 := by
  have s0 := CSt.rf ht
  have hM2 : 2 ^ M ≤ 256 := Nat.pow_le_pow_right (n := 2) (by decide) hM
  have k0 : ∀ {r : Rs}, Rn none 3 jT_readPerson (0, [some (vR (sg 2)), some (vR (cit 1 0)), some (vI (nI i))], [], w) r → Cl 4 jT_readPerson [vR (sg 2), vR (cit 1 0), vI (nI i)] w r := fun kk => Cl.of rfl rfl rfl (lc := [some (vR (sg 2)), some (vR (cit 1 0)), some (vI (nI i))]) rfl kk
  have e1 : nI (P - 1) = w (cit 1 0) 0 - nI 1 := by rw [hp, pk_sub hP.1]
  cases h1 : pN B N a 0 (P - 1) with
  | inl f =>
    obtain ⟨w', a1, a2, a3⟩ := c_nNo s0.1 (by decide) (by omega) h1
    rw [e1] at a1
    refine Or.inl ⟨f, w', by simp only [pPers, bd, h1], k0 (Rn.cv 60 rfl rfl rfl rfl rfl a1 (by decide) (Rn.if1f 60 rfl rfl (by dsimp only [tm_c2P]; decide) (Rn.zr 60 rfl rfl rfl (by decide) rfl))), s0.2.1.tr a2.c, a3⟩
  | inr q1 =>
    obtain ⟨w1, a1, b1, d1, g1⟩ := c_nYes s0.1 (by decide) (by omega) h1
    have l1 := pN_le s0.1.2.2.1 h1
    rw [e1] at a1
    have s1 : CSt w w1 (w) N B q1.2 := s0.take b1 d1
    have k1 : ∀ {r : Rs}, Rn none 3 jT_readPerson (16, [some (vR (sg 2)), some (vR (cit 1 0)), some (vI (nI i))], [], w1) r → Cl 4 jT_readPerson [vR (sg 2), vR (cit 1 0), vI (nI i)] w r := fun kk => k0 (Rn.cv 60 rfl rfl rfl rfl rfl a1 (by decide) (Rn.if1t 60 rfl rfl (by dsimp only [tm_c2P]; decide) kk))
    have k1p : ∀ {r : Rs}, Rn none 3 jT_readPerson (26, [some (vR (sg 2)), some (vR (cit 1 0)), some (vI (nI i))], [], wset w1 (cit 1 4) i (nI q1.1)) r → Cl 4 jT_readPerson [vR (sg 2), vR (cit 1 0), vI (nI i)] w r := fun kk => k1 (Rn.as 60 rfl rfl rfl rfl hi (by rw [g1]; exact kk))
    have s1p : CSt w (wset w1 (cit 1 4) i (nI q1.1)) (wset (w) (cit 1 4) i (nI q1.1)) N B q1.2 := s1.put
    cases h2 : pS B N q1.2 44 with
    | inl f =>
      obtain ⟨w', a1, a2, a3⟩ := c_sNo s1p.1 (by decide) h2
      refine Or.inl ⟨f, w', by simp only [pPers, bd, h1, h2], k1p (Rn.cv 60 rfl rfl rfl rfl rfl a1 (by decide) (Rn.if1t 60 rfl rfl (by dsimp only [tm_c2P]; decide) (Rn.zr 60 rfl rfl rfl (by decide) rfl))), s1p.2.1.tr a2.c, a3⟩
    | inr q2 =>
      obtain ⟨w2, a2, b2, d2⟩ := c_sYes s1p.1 (by decide) h2
      have s2 : CSt w w2 (wset (w) (cit 1 4) i (nI q1.1)) N B q2 := s1p.take b2 d2
      have k2 : ∀ {r : Rs}, Rn none 3 jT_readPerson (35, [some (vR (sg 2)), some (vR (cit 1 0)), some (vI (nI i))], [], w2) r → Cl 4 jT_readPerson [vR (sg 2), vR (cit 1 0), vI (nI i)] w r := fun kk => k1p (Rn.cv 60 rfl rfl rfl rfl rfl a2 (by decide) (Rn.if1f 60 rfl rfl (by dsimp only [tm_c2P]; decide) kk))
      have e3 : nI (P - 1) = w2 (cit 1 0) 0 - nI 1 := by rw [s2.2.2.2 0, wset_ne (cit_p (by decide)), hp, pk_sub hP.1]
      cases h3 : pN B N q2 0 (P - 1) with
      | inl f =>
        obtain ⟨w', a1, a2, a3⟩ := c_nNo s2.1 (by decide) (by omega) h3
        rw [e3] at a1
        refine Or.inl ⟨f, w', by simp only [pPers, bd, h1, h2, h3], k2 (Rn.cv 60 rfl rfl rfl rfl rfl a1 (by decide) (Rn.if1f 60 rfl rfl (by dsimp only [tm_c2P]; decide) (Rn.zr 60 rfl rfl rfl (by decide) rfl))), s2.2.1.tr a2.c, a3⟩
      | inr q3 =>
        obtain ⟨w3, a3, b3, d3, g3⟩ := c_nYes s2.1 (by decide) (by omega) h3
        have l3 := pN_le s2.1.2.2.1 h3
        rw [e3] at a3
        have s3 : CSt w w3 (wset (w) (cit 1 4) i (nI q1.1)) N B q3.2 := s2.take b3 d3
        have k3 : ∀ {r : Rs}, Rn none 3 jT_readPerson (51, [some (vR (sg 2)), some (vR (cit 1 0)), some (vI (nI i))], [], w3) r → Cl 4 jT_readPerson [vR (sg 2), vR (cit 1 0), vI (nI i)] w r := fun kk => k2 (Rn.cv 60 rfl rfl rfl rfl rfl a3 (by decide) (Rn.if1t 60 rfl rfl (by dsimp only [tm_c2P]; decide) kk))
        have k3p : ∀ {r : Rs}, Rn none 3 jT_readPerson (61, [some (vR (sg 2)), some (vR (cit 1 0)), some (vI (nI i))], [], wset w3 (cit 1 5) i (nI q3.1)) r → Cl 4 jT_readPerson [vR (sg 2), vR (cit 1 0), vI (nI i)] w r := fun kk => k3 (Rn.as 60 rfl rfl rfl rfl hi (by rw [g3]; exact kk))
        have s3p : CSt w (wset w3 (cit 1 5) i (nI q3.1)) (wset (wset (w) (cit 1 4) i (nI q1.1)) (cit 1 5) i (nI q3.1)) N B q3.2 := s3.put
        cases h4 : pS B N q3.2 44 with
        | inl f =>
          obtain ⟨w', a1, a2, a3⟩ := c_sNo s3p.1 (by decide) h4
          refine Or.inl ⟨f, w', by simp only [pPers, bd, h1, h2, h3, h4], k3p (Rn.cv 60 rfl rfl rfl rfl rfl a1 (by decide) (Rn.if1t 60 rfl rfl (by dsimp only [tm_c2P]; decide) (Rn.zr 60 rfl rfl rfl (by decide) rfl))), s3p.2.1.tr a2.c, a3⟩
        | inr q4 =>
          obtain ⟨w4, a4, b4, d4⟩ := c_sYes s3p.1 (by decide) h4
          have s4 : CSt w w4 (wset (wset (w) (cit 1 4) i (nI q1.1)) (cit 1 5) i (nI q3.1)) N B q4 := s3p.take b4 d4
          have k4 : ∀ {r : Rs}, Rn none 3 jT_readPerson (70, [some (vR (sg 2)), some (vR (cit 1 0)), some (vI (nI i))], [], w4) r → Cl 4 jT_readPerson [vR (sg 2), vR (cit 1 0), vI (nI i)] w r := fun kk => k3p (Rn.cv 60 rfl rfl rfl rfl rfl a4 (by decide) (Rn.if1f 60 rfl rfl (by dsimp only [tm_c2P]; decide) kk))
          have v5 := sp_allGates (w := w4) (k := 1) (a := M) (by rw [s4.2.2.2 0, wset_ne (cit_p (by decide)), wset_ne (cit_p (by decide)), hm]) hM
          cases h5 : pN B N q4 0 (2 ^ M - 1) with
          | inl f =>
            obtain ⟨w', a1, a2, a3⟩ := c_nNo s4.1 (by decide) (by omega) h5
            refine Or.inl ⟨f, w', by simp only [pPers, bd, h1, h2, h3, h4, h5], k4 (Rn.cv 60 rfl rfl rfl rfl rfl v5 (by decide) (Rn.cv 60 rfl rfl rfl rfl rfl a1 (by decide) (Rn.if1f 60 rfl rfl (by dsimp only [tm_c2P]; decide) (Rn.zr 60 rfl rfl rfl (by decide) rfl)))), s4.2.1.tr a2.c, a3⟩
          | inr q5 =>
            obtain ⟨w5, a5, b5, d5, g5⟩ := c_nYes s4.1 (by decide) (by omega) h5
            have l5 := pN_le s4.1.2.2.1 h5
            have s5 : CSt w w5 (wset (wset (w) (cit 1 4) i (nI q1.1)) (cit 1 5) i (nI q3.1)) N B q5.2 := s4.take b5 d5
            have k5 : ∀ {r : Rs}, Rn none 3 jT_readPerson (84, [some (vR (sg 2)), some (vR (cit 1 0)), some (vI (nI i))], [], w5) r → Cl 4 jT_readPerson [vR (sg 2), vR (cit 1 0), vI (nI i)] w r := fun kk => k4 (Rn.cv 60 rfl rfl rfl rfl rfl v5 (by decide) (Rn.cv 60 rfl rfl rfl rfl rfl a5 (by decide) (Rn.if1t 60 rfl rfl (by dsimp only [tm_c2P]; decide) kk)))
            have k5p : ∀ {r : Rs}, Rn none 3 jT_readPerson (94, [some (vR (sg 2)), some (vR (cit 1 0)), some (vI (nI i))], [], wset w5 (cit 1 7) i (nI q5.1)) r → Cl 4 jT_readPerson [vR (sg 2), vR (cit 1 0), vI (nI i)] w r := fun kk => k5 (Rn.as 60 rfl rfl rfl rfl hi (by rw [g5]; exact kk))
            have s5p : CSt w (wset w5 (cit 1 7) i (nI q5.1)) (wset (wset (wset (w) (cit 1 4) i (nI q1.1)) (cit 1 5) i (nI q3.1)) (cit 1 7) i (nI q5.1)) N B q5.2 := s5.put
            cases h6 : pS B N q5.2 44 with
            | inl f =>
              obtain ⟨w', a1, a2, a3⟩ := c_sNo s5p.1 (by decide) h6
              refine Or.inl ⟨f, w', by simp only [pPers, bd, h1, h2, h3, h4, h5, h6], k5p (Rn.cv 60 rfl rfl rfl rfl rfl a1 (by decide) (Rn.if1t 60 rfl rfl (by dsimp only [tm_c2P]; decide) (Rn.zr 60 rfl rfl rfl (by decide) rfl))), s5p.2.1.tr a2.c, a3⟩
            | inr q6 =>
              obtain ⟨w6, a6, b6, d6⟩ := c_sYes s5p.1 (by decide) h6
              have s6 : CSt w w6 (wset (wset (wset (w) (cit 1 4) i (nI q1.1)) (cit 1 5) i (nI q3.1)) (cit 1 7) i (nI q5.1)) N B q6 := s5p.take b6 d6
              have k6 : ∀ {r : Rs}, Rn none 3 jT_readPerson (103, [some (vR (sg 2)), some (vR (cit 1 0)), some (vI (nI i))], [], w6) r → Cl 4 jT_readPerson [vR (sg 2), vR (cit 1 0), vI (nI i)] w r := fun kk => k5p (Rn.cv 60 rfl rfl rfl rfl rfl a6 (by decide) (Rn.if1f 60 rfl rfl (by dsimp only [tm_c2P]; decide) kk))
              cases h7 : pN B N q6 0 (20) with
              | inl f =>
                obtain ⟨w', a1, a2, a3⟩ := c_nNo s6.1 (by decide) (by decide) h7
                refine Or.inl ⟨f, w', by simp only [pPers, bd, h1, h2, h3, h4, h5, h6, h7], k6 (Rn.cv 60 rfl rfl rfl rfl rfl a1 (by decide) (Rn.if1f 60 rfl rfl (by dsimp only [tm_c2P]; decide) (Rn.zr 60 rfl rfl rfl (by decide) rfl))), s6.2.1.tr a2.c, a3⟩
              | inr q7 =>
                obtain ⟨w7, a7, b7, d7, g7⟩ := c_nYes s6.1 (by decide) (by decide) h7
                have l7 := pN_le s6.1.2.2.1 h7
                have s7 : CSt w w7 (wset (wset (wset (w) (cit 1 4) i (nI q1.1)) (cit 1 5) i (nI q3.1)) (cit 1 7) i (nI q5.1)) N B q7.2 := s6.take b7 d7
                have k7 : ∀ {r : Rs}, Rn none 3 jT_readPerson (115, [some (vR (sg 2)), some (vR (cit 1 0)), some (vI (nI i))], [], w7) r → Cl 4 jT_readPerson [vR (sg 2), vR (cit 1 0), vI (nI i)] w r := fun kk => k6 (Rn.cv 60 rfl rfl rfl rfl rfl a7 (by decide) (Rn.if1t 60 rfl rfl (by dsimp only [tm_c2P]; decide) kk))
                have k7p : ∀ {r : Rs}, Rn none 3 jT_readPerson (125, [some (vR (sg 2)), some (vR (cit 1 0)), some (vI (nI i))], [], wset w7 (cit 1 6) i (nI q7.1)) r → Cl 4 jT_readPerson [vR (sg 2), vR (cit 1 0), vI (nI i)] w r := fun kk => k7 (Rn.as 60 rfl rfl rfl rfl hi (by rw [g7]; exact kk))
                have s7p : CSt w (wset w7 (cit 1 6) i (nI q7.1)) (wset (wset (wset (wset (w) (cit 1 4) i (nI q1.1)) (cit 1 5) i (nI q3.1)) (cit 1 7) i (nI q5.1)) (cit 1 6) i (nI q7.1)) N B q7.2 := s7.put
                cases h8 : pS B N q7.2 59 with
                | inl f =>
                  obtain ⟨w', a1, a2, a3⟩ := c_sNo s7p.1 (by decide) h8
                  refine Or.inl ⟨f, w', by simp only [pPers, bd, h1, h2, h3, h4, h5, h6, h7, h8], k7p (Rn.cv 60 rfl rfl rfl rfl rfl a1 (by decide) (Rn.zr 60 rfl rfl rfl (by decide) rfl)), s7p.2.1.tr a2.c, a3⟩
                | inr q8 =>
                  obtain ⟨w8, a8, b8, d8⟩ := c_sYes s7p.1 (by decide) h8
                  have s8 : CSt w w8 (wset (wset (wset (wset (w) (cit 1 4) i (nI q1.1)) (cit 1 5) i (nI q3.1)) (cit 1 7) i (nI q5.1)) (cit 1 6) i (nI q7.1)) N B q8 := s7p.take b8 d8
                  exact Or.inr ⟨(q1.1, q3.1, q5.1, q7.1, q8), w8, by simp only [pPers, bd, h1, h2, h3, h4, h5, h6, h7, h8], k7p (Rn.cv 60 rfl rfl rfl rfl rfl a8 (by decide) (Rn.zr 60 rfl rfl rfl (by decide) rfl)), s8⟩
