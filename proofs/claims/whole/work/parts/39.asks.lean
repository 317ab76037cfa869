/-! what is asked of the town: person, gate, reach, steps, votes, kind, as, trace, count -/
theorem toInt_out {x : Int32} {n : Nat} (hn : n + 1 < 2 ^ 31) (h : x < 0 ∨ nI (n + 1) ≤ x) : x.toInt < 0 ∨ (n : Int) < x.toInt := by
  rcases h with h | h
  · left
    rw [Int32.lt_iff_toInt_lt] at h
    exact h
  · right
    rw [Int32.le_iff_toInt_le, nI_toInt hn] at h
    omega
theorem tsw_out {pc t : Nat} {d : Int} {offs : Array Int} {lc : Lc} {r : List AV} {w : Wd} {x : Int32} (n : Nat) {hi : Int} (hh : hi = n) (hn : n + 1 < 2 ^ 31) (h : x < 0 ∨ nI (n + 1) ≤ x) (ht : tm_jmp pc d = some t) : tm_tsw pc d 0 hi offs lc (.inl x :: r) w = some (.inr (t, lc, r, w)) := by
  subst hh
  unfold tm_tsw
  dsimp only
  rw [if_pos (toInt_out hn h), ht]
  rfl
theorem m_pno {w : Wd} {c : Nat → Nat} {x : Int32} (hc : PlOk c) (h : MPl w c) (hx : x < 0 ∨ nI (c 4) ≤ x) : Cl 2 jM_isPerson [vR (sg 13), vI x] w (some (vI (bI false)), w) := by
  have k := m_isPerson hc h (x := x)
  rw [in_no (by have := hc.2.2.1; omega) hx] at k
  exact k
theorem m_pyes {w : Wd} {c : Nat → Nat} {p : Nat} (hc : PlOk c) (h : MPl w c) (hp : p < c 4) : Cl 2 jM_isPerson [vR (sg 13), vI (nI p)] w (some (vI (bI true)), w) := by
  have k := m_isPerson hc h (x := nI p)
  rw [in_yes (by have := hc.2.2.1; omega) hp] at k
  exact k
theorem m_gno {w : Wd} {c : Nat → Nat} {x : Int32} (hc : PlOk c) (h : MPl w c) (hx : x < 0 ∨ nI (c 3) ≤ x) : Cl 2 jM_isGate [vR (sg 13), vI x] w (some (vI (bI false)), w) := by
  have k := m_isGate hc h (x := x)
  rw [in_no (by have := hc.2.1; omega) hx] at k
  exact k
theorem m_gyes {w : Wd} {c : Nat → Nat} {g : Nat} (hc : PlOk c) (h : MPl w c) (hg : g < c 3) : Cl 2 jM_isGate [vR (sg 13), vI (nI g)] w (some (vI (bI true)), w) := by
  have k := m_isGate hc h (x := nI g)
  rw [in_yes (by have := hc.2.1; omega) hg] at k
  exact k
theorem m_pers' {w : Wd} {p k : Nat} {x v : Int32} (hb : w (sg 13) 5 = nI 0) (hx : x = nI k) (hk : 24 + 5 * p + k < 196) (hv : w (sg 17) (24 + 5 * p + k) = v) : Cl 2 jM_personal [vR (sg 13), vI (nI p), vI x] w (some (vI v), w) := by
  subst hx
  exact m_pers hb hk hv
theorem op_person {x y : Int32} : Op jX_person jM_person [vI x, vI y] := by
  intro w hi
  obtain ⟨hb, c, nr, ti, o, sp, dy, wf, hok, hci, hma, hact⟩ := id hi.2.2.2.2.2
  have hpl := hma.pl hb
  have hc := hok.1
  have hc4 := hc.2.2.1
  have x4 : w (cit 0 0) 4 = nI (c 4) := hci.1.2.2.1
  rcases pk_or (x := x) (n := c 4) (by omega) with h1 | ⟨p, hp, rfl⟩
  · refine op_same hi (v := -(nI 1000001)) ?_ ?_
    · refine Cl.of rfl rfl rfl (lc := [some (vR (sg 0)), some (vI x), some (vI y)]) rfl ?_
      refine Rn.cs 60 rfl rfl rfl rfl (by rw [x4]; exact x_no (by omega) h1) (by decide) ?_
      refine Rn.if1f 60 rfl rfl (by dsimp only [tm_c2P]; decide) ?_
      exact Rn.ir 60 rfl rfl rfl rfl
    · refine Cl.of rfl rfl rfl (lc := [some (vR (sg 13)), some (vI x), some (vI y)]) rfl ?_
      refine Rn.cv 60 rfl rfl rfl rfl rfl (m_pno hc hpl h1) (by decide) ?_
      refine Rn.if1t 60 rfl rfl (by dsimp only [tm_c2P]; decide) ?_
      exact Rn.ir 60 rfl rfl rfl rfl
  have cx : ∀ {r0 : Rs}, Rn none 19 jX_person (17, [some (vR (sg 0)), some (vI (nI p)), some (vI y)], [], w) r0 → Cl 20 jX_person [vR (sg 0), vI (nI p), vI y] w r0 := by
    intro r0 k
    refine Cl.of rfl rfl rfl (lc := [some (vR (sg 0)), some (vI (nI p)), some (vI y)]) rfl ?_
    refine Rn.cs 60 rfl rfl rfl rfl (by rw [x4]; exact x_yes (by omega) hp) (by decide) ?_
    exact Rn.if1t 60 rfl rfl (by dsimp only [tm_c2P]; decide) k
  have cm : ∀ {r0 : Rs}, Rn none 19 jM_person (8, [some (vR (sg 13)), some (vI (nI p)), some (vI y)], [], w) r0 → Cl 20 jM_person [vR (sg 13), vI (nI p), vI y] w r0 := by
    intro r0 k
    refine Cl.of rfl rfl rfl (lc := [some (vR (sg 13)), some (vI (nI p)), some (vI y)]) rfl ?_
    refine Rn.cv 60 rfl rfl rfl rfl rfl (m_pyes hc hpl hp) (by decide) ?_
    exact Rn.if1f 60 rfl rfl (by dsimp only [tm_c2P]; decide) k
  rcases pk_or (x := y) (n := 5) (by decide) with h1 | ⟨k, hk, rfl⟩
  · refine op_same hi (v := -(nI 1000001)) (cx ?_) (cm ?_)
    · refine Rn.tsw 60 (t := 104) rfl rfl (tsw_out 4 rfl (by decide) h1 rfl) ?_
      exact Rn.ir 60 rfl rfl rfl rfl
    · refine Rn.cs 60 rfl rfl rfl rfl (m_no (n := 4) (by decide) h1) (by decide) ?_
      refine Rn.if1f 60 rfl rfl (by dsimp only [tm_c2P]; decide) ?_
      exact Rn.ir 60 rfl rfl rfl rfl
  have dm : ∀ {r0 : Rs}, Rn none 19 jM_person (20, [some (vR (sg 13)), some (vI (nI p)), some (vI (nI k))], [], w) r0 → Cl 20 jM_person [vR (sg 13), vI (nI p), vI (nI k)] w r0 := by
    intro r0 kk
    refine cm ?_
    refine Rn.cs 60 rfl rfl rfl rfl (m_yes (n := 4) (by decide) (by omega)) (by decide) ?_
    exact Rn.if1t 60 rfl rfl (by dsimp only [tm_c2P]; decide) kk
  obtain ⟨p1, p2, p3, p4⟩ := hci.1.2.2.2.2 p hp
  have p5 := hci.2.1.2.2.2.2.2 p hp
  have p6 := hci.2.1.2.2.2.1
  obtain ⟨m1, m2, m3, m4, m5, m6, m7, m8, m9, m10⟩ := hma
  obtain ⟨n1, n2, n3, n4, n5⟩ := m10 p hp
  simp only [Nat.zero_add] at n1 n2 n3 n4 n5 m8
  rcases (by omega : k = 0 ∨ k = 1 ∨ k = 2 ∨ k = 3 ∨ k = 4) with rfl | rfl | rfl | rfl | rfl
  · refine op_same hi (v := nI (ho c p)) (cx ?_) (dm ?_)
    · refine Rn.tsw 60 (t := 52) rfl rfl rfl ?_
      refine Rn.al 60 rfl rfl rfl rfl (by omega) ?_
      rw [p2]
      exact Rn.ir 60 rfl rfl rfl rfl
    · refine Rn.if2t 60 rfl rfl (by dsimp only [tm_c2P]; decide) ?_
      refine Rn.cv 60 rfl rfl rfl rfl rfl (m_pers' (p := p) (k := 1) (v := nI (ho c p)) hb rfl (by omega) (by rw [show 24 + 5 * p + 1 = 25 + 5 * p by omega]; exact n2)) (by decide) ?_
      exact Rn.ir 60 rfl rfl rfl rfl
  · refine op_same hi (v := nI (er c p)) (cx ?_) (dm ?_)
    · refine Rn.tsw 60 (t := 62) rfl rfl rfl ?_
      refine Rn.al 60 rfl rfl rfl rfl (by omega) ?_
      rw [p3]
      exact Rn.ir 60 rfl rfl rfl rfl
    · refine Rn.if2t 60 rfl rfl (by dsimp only [tm_c2P]; decide) ?_
      refine Rn.cv 60 rfl rfl rfl rfl rfl (m_pers' (p := p) (k := 2) (v := nI (er c p)) hb rfl (by omega) (by rw [show 24 + 5 * p + 2 = 26 + 5 * p by omega]; exact n3)) (by decide) ?_
      exact Rn.ir 60 rfl rfl rfl rfl
  · refine op_same hi (v := nI (wf p)) (cx ?_) (dm ?_)
    · refine Rn.tsw 60 (t := 72) rfl rfl rfl ?_
      refine Rn.al 60 rfl rfl rfl rfl (by omega) ?_
      rw [p5]
      exact Rn.ir 60 rfl rfl rfl rfl
    · refine Rn.if2t 60 rfl rfl (by dsimp only [tm_c2P]; decide) ?_
      refine Rn.cv 60 rfl rfl rfl rfl rfl (m_pers' (p := p) (k := 3) (v := nI (wf p)) hb rfl (by omega) (by rw [show 24 + 5 * p + 3 = 27 + 5 * p by omega]; exact n4)) (by decide) ?_
      exact Rn.ir 60 rfl rfl rfl rfl
  · refine op_same hi (v := nI (we c p)) (cx ?_) (dm ?_)
    · refine Rn.tsw 60 (t := 82) rfl rfl rfl ?_
      refine Rn.al 60 rfl rfl rfl rfl (by omega) ?_
      rw [p4]
      exact Rn.ir 60 rfl rfl rfl rfl
    · refine Rn.if2t 60 rfl rfl (by dsimp only [tm_c2P]; decide) ?_
      refine Rn.cv 60 rfl rfl rfl rfl rfl (m_pers' (p := p) (k := 4) (v := nI (we c p)) hb rfl (by omega) (by rw [show 24 + 5 * p + 4 = 28 + 5 * p by omega]; exact n5)) (by decide) ?_
      exact Rn.ir 60 rfl rfl rfl rfl
  · refine op_same hi (v := nI sp >>> (nI p &&& 31) &&& nI 1) (cx ?_) (dm ?_)
    · refine Rn.tsw 60 (t := 92) rfl rfl rfl ?_
      rw [← p6]
      exact Rn.ir 60 rfl rfl rfl rfl
    · refine Rn.if2f 60 rfl rfl (by dsimp only [tm_c2P]; decide) ?_
      refine Rn.cv 60 rfl rfl rfl rfl rfl (m_get (k := 7) (v := nI sp) hb rfl (by decide) m8) (by decide) ?_
      exact Rn.ir 60 rfl rfl rfl rfl
theorem op_gate {x y : Int32} : Op jX_gate jM_gate [vI x, vI y] := by
  intro w hi
  obtain ⟨hb, c, nr, ti, o, sp, dy, wf, hok, hci, hma, hact⟩ := id hi.2.2.2.2.2
  have hpl := hma.pl hb
  have hc := hok.1
  have hc3 := hc.2.1
  have x3 : w (cit 0 0) 3 = nI (c 3) := hci.1.2.1
  rcases pk_or (x := x) (n := c 3) (by omega) with h1 | ⟨g, hg, rfl⟩
  · refine op_same hi (v := -(nI 1000001)) ?_ ?_
    · refine Cl.of rfl rfl rfl (lc := [some (vR (sg 0)), some (vI x), some (vI y)]) rfl ?_
      refine Rn.cs 60 rfl rfl rfl rfl (by rw [x3]; exact x_no (by omega) h1) (by decide) ?_
      refine Rn.if1f 60 rfl rfl (by dsimp only [tm_c2P]; decide) ?_
      exact Rn.ir 60 rfl rfl rfl rfl
    · refine Cl.of rfl rfl rfl (lc := [some (vR (sg 13)), some (vI x), some (vI y)]) rfl ?_
      refine Rn.cv 60 rfl rfl rfl rfl rfl (m_gno hc hpl h1) (by decide) ?_
      refine Rn.if1t 60 rfl rfl (by dsimp only [tm_c2P]; decide) ?_
      exact Rn.ir 60 rfl rfl rfl rfl
  have cx : ∀ {r0 : Rs}, Rn none 19 jX_gate (17, [some (vR (sg 0)), some (vI (nI g)), some (vI y)], [], w) r0 → Cl 20 jX_gate [vR (sg 0), vI (nI g), vI y] w r0 := by
    intro r0 k
    refine Cl.of rfl rfl rfl (lc := [some (vR (sg 0)), some (vI (nI g)), some (vI y)]) rfl ?_
    refine Rn.cs 60 rfl rfl rfl rfl (by rw [x3]; exact x_yes (by omega) hg) (by decide) ?_
    exact Rn.if1t 60 rfl rfl (by dsimp only [tm_c2P]; decide) k
  have cm : ∀ {r0 : Rs}, Rn none 19 jM_gate (8, [some (vR (sg 13)), some (vI (nI g)), some (vI y)], [], w) r0 → Cl 20 jM_gate [vR (sg 13), vI (nI g), vI y] w r0 := by
    intro r0 k
    refine Cl.of rfl rfl rfl (lc := [some (vR (sg 13)), some (vI (nI g)), some (vI y)]) rfl ?_
    refine Rn.cv 60 rfl rfl rfl rfl rfl (m_gyes hc hpl hg) (by decide) ?_
    exact Rn.if1f 60 rfl rfl (by dsimp only [tm_c2P]; decide) k
  rcases pk_or (x := y) (n := 3) (by decide) with h1 | ⟨k, hk, rfl⟩
  · refine op_same hi (v := -(nI 1000001)) (cx ?_) (cm ?_)
    · refine Rn.tsw 60 (t := 76) rfl rfl (tsw_out 2 rfl (by decide) h1 rfl) ?_
      exact Rn.ir 60 rfl rfl rfl rfl
    · refine Rn.cs 60 rfl rfl rfl rfl (m_no (n := 2) (by decide) h1) (by decide) ?_
      refine Rn.if1f 60 rfl rfl (by dsimp only [tm_c2P]; decide) ?_
      exact Rn.ir 60 rfl rfl rfl rfl
  have dm : ∀ {r0 : Rs}, Rn none 19 jM_gate (20, [some (vR (sg 13)), some (vI (nI g)), some (vI (nI k))], [], w) r0 → Cl 20 jM_gate [vR (sg 13), vI (nI g), vI (nI k)] w r0 := by
    intro r0 kk
    refine cm ?_
    refine Rn.cs 60 rfl rfl rfl rfl (m_yes (n := 2) (by decide) (by omega)) (by decide) ?_
    exact Rn.if1t 60 rfl rfl (by dsimp only [tm_c2P]; decide) kk
  obtain ⟨p1, p2⟩ := hci.1.2.2.2.1 g hg
  have p6 := hci.2.1.2.2.1
  obtain ⟨m1, m2, m3, m4, m5, m6, m7, m8, m9, m10⟩ := hma
  obtain ⟨n1, n2⟩ := m9 g hg
  simp only [Nat.zero_add] at n1 n2 m7
  rcases (by omega : k = 0 ∨ k = 1 ∨ k = 2) with rfl | rfl | rfl
  · refine op_same hi (v := nI (c (8 + 2 * g))) (cx ?_) (dm ?_)
    · refine Rn.tsw 60 (t := 44) rfl rfl rfl ?_
      refine Rn.al 60 rfl rfl rfl rfl (by omega) ?_
      rw [p1]
      exact Rn.ir 60 rfl rfl rfl rfl
    · refine Rn.if2t 60 rfl rfl (by dsimp only [tm_c2P]; decide) ?_
      refine Rn.cv 60 rfl rfl rfl rfl rfl (m_get (k := 8 + 2 * g) (v := nI (c (8 + 2 * g))) hb (by dsimp only; rw [pk_mul, nI_add, nI_add]; rfl) (by omega) n1) (by decide) ?_
      exact Rn.ir 60 rfl rfl rfl rfl
  · refine op_same hi (v := nI (c (9 + 2 * g))) (cx ?_) (dm ?_)
    · refine Rn.tsw 60 (t := 54) rfl rfl rfl ?_
      refine Rn.al 60 rfl rfl rfl rfl (by omega) ?_
      rw [p2]
      exact Rn.ir 60 rfl rfl rfl rfl
    · refine Rn.if2t 60 rfl rfl (by dsimp only [tm_c2P]; decide) ?_
      refine Rn.cv 60 rfl rfl rfl rfl rfl (m_get (k := 9 + 2 * g) (v := nI (c (9 + 2 * g))) hb (by dsimp only; rw [pk_mul, nI_add, nI_add, show 8 + 2 * g + 1 = 9 + 2 * g by omega]) (by omega) n2) (by decide) ?_
      exact Rn.ir 60 rfl rfl rfl rfl
  · refine op_same hi (v := nI o >>> (nI g &&& 31) &&& nI 1) (cx ?_) (dm ?_)
    · refine Rn.tsw 60 (t := 64) rfl rfl rfl ?_
      rw [← p6]
      exact Rn.ir 60 rfl rfl rfl rfl
    · refine Rn.if2f 60 rfl rfl (by dsimp only [tm_c2P]; decide) ?_
      refine Rn.cv 60 rfl rfl rfl rfl rfl (m_get (k := 6) (v := nI o) hb rfl (by decide) m7) (by decide) ?_
      exact Rn.ir 60 rfl rfl rfl rfl
theorem op_reach {x : Int32} : Op jX_reach jM_reach [vI x] := by
  intro w hi
  obtain ⟨hb, c, nr, ti, o, sp, dy, wf, hok, hci, hma, hact⟩ := id hi.2.2.2.2.2
  have hpl := hma.pl hb
  have hc := hok.1
  have hc0 := hc.1
  have x0 : w (cit 0 0) 0 = nI (c 0) := hci.1.1
  rcases pk_or (x := x) (n := c 0) (by omega) with h1 | ⟨q, hq, rfl⟩
  · refine op_same hi (v := -(nI 1000001)) ?_ ?_
    · refine Cl.of rfl rfl rfl (lc := [some (vR (sg 0)), some (vI x)]) rfl ?_
      refine Rn.cs 60 rfl rfl rfl rfl (by rw [x0]; exact x_no (by omega) h1) (by decide) ?_
      refine Rn.if1t 60 rfl rfl (by dsimp only [tm_c2P]; decide) ?_
      exact Rn.ir 60 rfl rfl rfl rfl
    · refine Cl.of rfl rfl rfl (lc := [some (vR (sg 13)), some (vI x)]) rfl ?_
      have k := m_in (w := w) (x := x) (y := nI 0) (z := nI (c 0) - nI 1)
      rw [in_no (by omega) h1] at k
      refine Rn.cv 60 rfl rfl rfl rfl rfl (m_Q hpl) (by decide) ?_
      refine Rn.cs 60 rfl rfl rfl rfl k (by decide) ?_
      refine Rn.if1t 60 rfl rfl (by dsimp only [tm_c2P]; decide) ?_
      exact Rn.ir 60 rfl rfl rfl rfl
  · refine op_same hi (v := nI (rc c o q)) ?_ ?_
    · refine Cl.of rfl rfl rfl (lc := [some (vR (sg 0)), some (vI (nI q))]) rfl ?_
      refine Rn.cs 60 rfl rfl rfl rfl (by rw [x0]; exact x_yes (by omega) hq) (by decide) ?_
      refine Rn.if1f 60 rfl rfl (by dsimp only [tm_c2P]; decide) ?_
      refine Rn.cv 60 rfl rfl rfl rfl rfl (sp_reachedFrom hc hci.1 hci.2.1.2.2.1 hok.2.1.2.2.1 hq) (by decide) ?_
      exact Rn.ir 60 rfl rfl rfl rfl
    · refine Cl.of rfl rfl rfl (lc := [some (vR (sg 13)), some (vI (nI q))]) rfl ?_
      have k := m_in (w := w) (x := nI q) (y := nI 0) (z := nI (c 0) - nI 1)
      rw [in_yes (by omega) hq] at k
      refine Rn.cv 60 rfl rfl rfl rfl rfl (m_Q hpl) (by decide) ?_
      refine Rn.cs 60 rfl rfl rfl rfl k (by decide) ?_
      refine Rn.if1f 60 rfl rfl (by dsimp only [tm_c2P]; decide) ?_
      refine Rn.cv 60 rfl rfl rfl rfl rfl (m_get (k := 6) (v := nI o) hb rfl (by decide) hma.2.2.2.2.2.2.1) (by decide) ?_
      refine Rn.cv 60 rfl rfl rfl rfl rfl (m_reachBy hc hpl hok.2.1.2.2.1 hq) (by decide) ?_
      exact Rn.ir 60 rfl rfl rfl rfl
theorem op_kind {x : Int32} : Op jX_kind jM_kind [vI x] := by
  intro w hi
  obtain ⟨hb, c, nr, ti, o, sp, dy, wf, hok, hci, hma, hact⟩ := id hi.2.2.2.2.2
  have hpl := hma.pl hb
  have hc := hok.1
  have hc4 := hc.2.2.1
  have x4 : w (cit 0 0) 4 = nI (c 4) := hci.1.2.2.1
  rcases pk_or (x := x) (n := c 4) (by omega) with h1 | ⟨p, hp, rfl⟩
  · refine op_same hi (v := -(nI 1000001)) ?_ ?_
    · refine Cl.of rfl rfl rfl (lc := [some (vR (sg 0)), some (vI x)]) rfl ?_
      refine Rn.cs 60 rfl rfl rfl rfl (by rw [x4]; exact x_no (by omega) h1) (by decide) ?_
      refine Rn.if1t 60 rfl rfl (by dsimp only [tm_c2P]; decide) ?_
      exact Rn.ir 60 rfl rfl rfl rfl
    · refine Cl.of rfl rfl rfl (lc := [some (vR (sg 13)), some (vI x)]) rfl ?_
      refine Rn.cv 60 rfl rfl rfl rfl rfl (m_pno hc hpl h1) (by decide) ?_
      refine Rn.if1t 60 rfl rfl (by dsimp only [tm_c2P]; decide) ?_
      exact Rn.ir 60 rfl rfl rfl rfl
  · refine op_same hi (v := nI (so c p)) ?_ ?_
    · refine Cl.of rfl rfl rfl (lc := [some (vR (sg 0)), some (vI (nI p))]) rfl ?_
      refine Rn.cs 60 rfl rfl rfl rfl (by rw [x4]; exact x_yes (by omega) hp) (by decide) ?_
      refine Rn.if1f 60 rfl rfl (by dsimp only [tm_c2P]; decide) ?_
      refine Rn.al 60 rfl rfl rfl rfl (by omega) ?_
      rw [(hci.1.2.2.2.2 p hp).1]
      exact Rn.ir 60 rfl rfl rfl rfl
    · refine Cl.of rfl rfl rfl (lc := [some (vR (sg 13)), some (vI (nI p))]) rfl ?_
      refine Rn.cv 60 rfl rfl rfl rfl rfl (m_pyes hc hpl hp) (by decide) ?_
      refine Rn.if1f 60 rfl rfl (by dsimp only [tm_c2P]; decide) ?_
      refine Rn.cv 60 rfl rfl rfl rfl rfl (m_so hc hpl hp) (by decide) ?_
      exact Rn.ir 60 rfl rfl rfl rfl
theorem op_trace {x : Int32} : Op jX_trace jM_trace [vI x] := by
  intro w hi
  obtain ⟨n, hn, h1, h2, h3⟩ := id hi.2.2.2.1
  rcases pk_or (x := x) (n := n) (by omega) with h | ⟨i, hin, rfl⟩
  · refine op_same hi (v := -(nI 1000000)) ?_ ?_
    · refine Cl.of rfl rfl rfl (lc := [some (vR (sg 0)), some (vI x)]) rfl ?_
      refine Rn.cs 60 rfl rfl rfl rfl (by rw [h1]; exact x_no (by omega) h) (by decide) ?_
      refine Rn.if1t 60 rfl rfl (by dsimp only [tm_c2P]; decide) ?_
      exact Rn.ir 60 rfl rfl rfl rfl
    · refine Cl.of rfl rfl rfl (lc := [some (vR (sg 13)), some (vI x)]) rfl ?_
      have k := m_in (w := w) (x := x) (y := nI 0) (z := nI n - nI 1)
      rw [in_no (by omega) h, ← h2] at k
      refine Rn.cs 60 rfl rfl rfl rfl k (by decide) ?_
      refine Rn.if1t 60 rfl rfl (by dsimp only [tm_c2P]; decide) ?_
      exact Rn.ir 60 rfl rfl rfl rfl
  · refine op_same hi (v := w (sg 12) i) ?_ ?_
    · refine Cl.of rfl rfl rfl (lc := [some (vR (sg 0)), some (vI (nI i))]) rfl ?_
      refine Rn.cs 60 rfl rfl rfl rfl (by rw [h1]; exact x_yes (by omega) hin) (by decide) ?_
      refine Rn.if1f 60 rfl rfl (by dsimp only [tm_c2P]; decide) ?_
      refine Rn.al 60 rfl rfl rfl rfl (by omega) ?_
      exact Rn.ir 60 rfl rfl rfl rfl
    · refine Cl.of rfl rfl rfl (lc := [some (vR (sg 13)), some (vI (nI i))]) rfl ?_
      have k := m_in (w := w) (x := nI i) (y := nI 0) (z := nI n - nI 1)
      rw [in_yes (by omega) hin, ← h2] at k
      refine Rn.cs 60 rfl rfl rfl rfl k (by decide) ?_
      refine Rn.if1f 60 rfl rfl (by dsimp only [tm_c2P]; decide) ?_
      refine Rn.al 60 rfl rfl rfl rfl (by omega) ?_
      rw [h3 i hin]
      exact Rn.ir 60 rfl rfl rfl rfl
