/-! the reference's token, held against the text; its sign, its numbers -/
theorem nmN_ge {B : Nat → Nat} {N a : Nat} : ∀ n i v, i ≤ (nmN B N a n i v).1
  | 0, i, v => Nat.le_refl i
  | n + 1, i, v => by
    unfold nmN
    split
    · exact Nat.le_trans (Nat.le_succ i) (nmN_ge n (i + 1) _)
    · exact Nat.le_refl i
theorem nm_ge1 {B : Nat → Nat} {N a : Nat} (h : a < N) (hf : fig (B a) = true) : a + 1 ≤ (nm B N a).1 := by
  unfold nm
  obtain ⟨k, hk⟩ : ∃ k, N - a = k + 1 := ⟨N - a - 1, by omega⟩
  rw [hk]
  unfold nmN
  rw [if_pos ⟨h, hf⟩]
  exact nmN_ge _ _ _
theorem nm_eq {B : Nat → Nat} {N a : Nat} (h : ¬ (a < N ∧ fig (B a) = true)) : (nm B N a).1 = a := by
  unfold nm
  cases hk : N - a with
  | zero => rfl
  | succ k =>
    unfold nmN
    rw [if_neg h]
theorem sgn_ge {v : Nat} (h : sgn v = true) : v = 44 ∨ v = 59 ∨ (97 ≤ v ∧ v ≤ 122) := by
  unfold sgn at h
  simp only [Bool.or_eq_true, Bool.and_eq_true, decide_eq_true_eq] at h
  omega
theorem sgn_fig {v : Nat} (h : sgn v = true) : ¬ fig v = true := by
  have k := sgn_ge h
  unfold fig
  simp only [Bool.and_eq_true, decide_eq_true_eq]
  omega
theorem tkn_sign {B : Nat → Nat} {N a z : Nat} (h : a < N) (e : B a = z) (hz : sgn z = true) : tkn B N a = (nI z, 0, a + 1) := by
  unfold tkn
  rw [if_neg (by omega), if_neg (by rw [e]; exact sgn_fig hz), if_pos (by rw [e]; exact hz), e]
theorem nm1_ne {v : Nat} (h : v < 2 ^ 31) : -(nI 1) ≠ nI v := by
  intro e
  have h1 := congrArg Int32.toInt e
  rw [nI_toInt h] at h1
  have h2 : (-(nI 1)).toInt = -1 := by decide
  omega
theorem tkn_nosign {B : Nat → Nat} {N a z : Nat} (hB : ∀ i, i < N → B i < 256) (h : ¬ (a < N ∧ B a = z)) (hz : sgn z = true) : ¬ (tkn B N a).1 = nI z := by
  have k := sgn_ge hz
  unfold tkn
  split
  · show ¬ nI 0 = nI z
    rw [nI_eq (by decide) (by omega)]
    omega
  · next h1 =>
    split
    · show ¬ (if a + 3 < (nm B N a).1 then -(nI 1) else nI 1) = nI z
      split
      · exact nm1_ne (by omega)
      · rw [nI_eq (by decide) (by omega)]
        omega
    · show ¬ (if sgn (B a) = true then nI (B a) else -(nI 1)) = nI z
      have hb := hB a (by omega)
      split
      · rw [nI_eq (by omega) (by omega)]
        exact fun e => h ⟨by omega, e⟩
      · exact nm1_ne (by omega)
theorem tkn_num {B : Nat → Nat} {N a : Nat} (h : ¬ ((nm B N a).1 = a ∨ a + 3 < (nm B N a).1)) : tkn B N a = (nI 1, (nm B N a).2, (nm B N a).1) := by
  by_cases q : a < N ∧ fig (B a) = true
  · unfold tkn
    rw [if_neg (by omega), if_pos q.2, if_neg (fun z => h (Or.inr z))]
  · exact absurd (Or.inl (nm_eq q)) h
theorem tkn_nonum {B : Nat → Nat} {N a : Nat} (hB : ∀ i, i < N → B i < 256) (h : (nm B N a).1 = a ∨ a + 3 < (nm B N a).1) : ¬ (tkn B N a).1 = nI 1 := by
  unfold tkn
  split
  · show ¬ nI 0 = nI 1
    decide
  · next h1 =>
    split
    · next hf =>
      have h2 := nm_ge1 (B := B) (N := N) (a := a) (by omega) hf
      show ¬ (if a + 3 < (nm B N a).1 then -(nI 1) else nI 1) = nI 1
      rw [if_pos (by omega)]
      exact nm1_ne (by decide)
    · show ¬ (if sgn (B a) = true then nI (B a) else -(nI 1)) = nI 1
      have hb := hB a (by omega)
      split
      · next hs =>
        have k := sgn_ge hs
        rw [nI_eq (by omega) (by decide)]
        omega
      · exact nm1_ne (by decide)
theorem tkn_end {B : Nat → Nat} {N a : Nat} (h : N ≤ a) : (tkn B N a).1 = nI 0 := by
  unfold tkn
  rw [if_pos h]
theorem tkn_in {B : Nat → Nat} {N a : Nat} (hB : ∀ i, i < N → B i < 256) (h : a < N) : ¬ (tkn B N a).1 = nI 0 := by
  unfold tkn
  rw [if_neg (by omega)]
  split
  · show ¬ (if a + 3 < (nm B N a).1 then -(nI 1) else nI 1) = nI 0
    split
    · exact nm1_ne (by decide)
    · decide
  · show ¬ (if sgn (B a) = true then nI (B a) else -(nI 1)) = nI 0
    have hb := hB a h
    split
    · next hs =>
      have k := sgn_ge hs
      rw [nI_eq (by omega) (by decide)]
      omega
    · exact nm1_ne (by decide)
/-- the reference reads: what stays; a token stands at a; a fault was told -/
def RFr (w W : Wd) : Prop := (∀ t, t ≠ sg 13 → t ≠ sg 17 → W t = w t) ∧ (∀ j, j < 11 ∨ 16 < j → W (sg 13) j = w (sg 13) j) ∧ ∀ j, j < 147 → W (sg 17) j = w (sg 17) j
theorem RFr.tr {w w1 w2 : Wd} (h1 : RFr w w1) (h2 : RFr w1 w2) : RFr w w2 := ⟨fun t a b => (h2.1 t a b).trans (h1.1 t a b), fun j a => (h2.2.1 j a).trans (h1.2.1 j a), fun j a => (h2.2.2 j a).trans (h1.2.2 j a)⟩
theorem RFr.set {w : Wd} {j : Nat} {x : Int32} (h : 11 ≤ j ∧ j ≤ 16) : RFr w (wset w (sg 13) j x) := ⟨fun t a _ => wset_ne a, fun i a => wset_k (by omega), fun i _ => by rw [wset_ne (sg_ne (by decide))]⟩
theorem RFr.now {w : Wd} {j : Nat} {x : Int32} (h : 147 ≤ j) : RFr w (wset w (sg 17) j x) := ⟨fun t _ a => wset_ne a, fun i _ => by rw [wset_ne (sg_ne (by decide))], fun i a => wset_k (by omega)⟩
theorem KFr.r {w w' : Wd} (h : KFr w w') : RFr w w' := ⟨fun t a _ => h.1 t a, fun j a => h.2 j (by omega), fun j _ => by rw [h.1 _ (sg_ne (by decide))]⟩
def RSt (w W V : Wd) (N : Nat) (B : Nat → Nat) (a : Nat) : Prop := TpM W N B ∧ a ≤ N ∧ TkM W N B a ∧ W (sg 13) 15 = nI 0 ∧ W (sg 13) 5 = nI 147 ∧ RFr w W ∧ W (sg 17) = V (sg 17)
def FSt (w W : Wd) (f : Ft) : Prop := (1 ≤ f.1 ∧ f.1 ≤ 3) ∧ W (sg 13) 15 = nI f.1 ∧ W (sg 13) 16 = nI f.2 ∧ W (sg 13) 5 = nI 147 ∧ RFr w W
theorem RSt.k {w W W' V : Wd} {N a a' : Nat} {B : Nat → Nat} (h : RSt w W V N B a) (f : KFr W W') (ha : a' ≤ N) (t : TkM W' N B a') : RSt w W' V N B a' := ⟨h.1.k f, ha, t, (f.2 15 (by decide)).trans h.2.2.2.1, (f.2 5 (by decide)).trans h.2.2.2.2.1, h.2.2.2.2.2.1.tr f.r, (f.1 _ (sg_ne (by decide))).trans h.2.2.2.2.2.2⟩
theorem RSt.fail {w W V : Wd} {N a n : Nat} {B : Nat → Nat} (h : RSt w W V N B a) (hn : 1 ≤ n ∧ n ≤ 3) : FSt w (wset (wset W (sg 13) 15 (nI n)) (sg 13) 16 (nI a)) (n, a) := ⟨hn, by rw [wset_k (by decide), wset_s], wset_s, by rw [wset_k (by decide), wset_k (by decide)]; exact h.2.2.2.2.1, h.2.2.2.2.2.1.tr ((RFr.set (by decide)).tr (RFr.set (by decide)))⟩
theorem RSt.put {w W V : Wd} {N a j : Nat} {x : Int32} {B : Nat → Nat} (h : RSt w W V N B a) (hj : 147 ≤ j) : RSt w (wset W (sg 17) j x) (wset V (sg 17) j x) N B a := by
  obtain ⟨⟨t1, t2, t3, t4⟩, ha, ⟨k1, k2, k3, k4⟩, h15, h5, hf, hv⟩ := h
  have e : wset W (sg 17) j x (sg 13) = W (sg 13) := wset_ne (sg_ne (by decide))
  exact ⟨⟨t1, t2, by rw [e]; exact t3, fun i hi => by rw [wset_ne (sg_ne (by decide))]; exact t4 i hi⟩, ha, ⟨by rw [e]; exact k1, by rw [e]; exact k2, by rw [e]; exact k3, by rw [e]; exact k4⟩, by rw [e]; exact h15, by rw [e]; exact h5, hf.tr (RFr.now hj), wset_cg hv hv⟩
theorem FSt.put {w W : Wd} {f : Ft} {j : Nat} {x : Int32} (h : FSt w W f) (hj : 147 ≤ j) : FSt w (wset W (sg 17) j x) f := by
  have e : wset W (sg 17) j x (sg 13) = W (sg 13) := wset_ne (sg_ne (by decide))
  exact ⟨h.1, by rw [e]; exact h.2.1, by rw [e]; exact h.2.2.1, by rw [e]; exact h.2.2.2.1, h.2.2.2.2.tr (RFr.now hj)⟩
theorem RSt.self {w W V : Wd} {N a : Nat} {B : Nat → Nat} (h : RSt w W V N B a) : RSt w W W N B a := ⟨h.1, h.2.1, h.2.2.1, h.2.2.2.1, h.2.2.2.2.1, h.2.2.2.2.2.1, rfl⟩
theorem FSt.ne {w W : Wd} {f : Ft} (h : FSt w W f) : ¬ W (sg 13) 15 = nI 0 := by
  rw [h.2.1, nI_eq (by have := h.1; omega) (by decide)]
  have := h.1
  omega
/-- the next token -/
theorem RSt.next {w W V : Wd} {N a a' : Nat} {B : Nat → Nat} (h : RSt w W V N B a) (e : (tkn B N a).2.2 = a') : ∃ W', Cl 2 jM_next [vR (sg 13)] W (none, W') ∧ RSt w W' V N B a' := by
  have hl := tkn_le (B := B) h.2.1
  rw [e] at hl
  obtain ⟨W', a1, a2, a3⟩ := m_next h.1 hl (by rw [h.2.2.1.2.2.2, e])
  exact ⟨W', a1, h.k a2 hl a3⟩
theorem r_signF {w W : Wd} {f : Ft} {x : Int32} (h : FSt w W f) : Cl 1 jM_sign [vR (sg 13), vI x] W (none, W) := m_signF (f := f.1) (by have := h.1; omega) (by have := h.1; omega) h.2.1
theorem r_sign {w W V : Wd} {N a z : Nat} {B : Nat → Nat} (h : RSt w W V N B a) (hz : sgn z = true) : (∃ f W', pS B N a z = .inl f ∧ Cl 3 jM_sign [vR (sg 13), vI (nI z)] W (none, W') ∧ FSt w W' f) ∨ ∃ q W', pS B N a z = .inr q ∧ Cl 3 jM_sign [vR (sg 13), vI (nI z)] W (none, W') ∧ RSt w W' V N B q := by
  cases e : pS B N a z with
  | inl f =>
    obtain ⟨e1, rfl⟩ := pS_no e
    exact Or.inl ⟨_, _, rfl, (m_signNo h.2.2.2.1 h.2.2.1.1 (by rw [h.2.2.1.2.1]; exact tkn_nosign h.1.2.1 e1 hz)).up (by decide), h.fail (by decide)⟩
  | inr q =>
    obtain ⟨e1, e2, rfl⟩ := pS_ok e
    have et := tkn_sign e1 e2 hz
    obtain ⟨W', a1, a2⟩ := h.next (a' := a + 1) (by rw [et])
    exact Or.inr ⟨_, W', rfl, m_signYes h.2.2.2.1 (by rw [h.2.2.1.2.1, et]) a1, a2⟩
theorem m_inN {w : Wd} {v lo hi : Nat} (hv : v < 2 ^ 31) (hlo : lo < 2 ^ 31) (hhi : hi < 2 ^ 31) : Cl 1 jM_in [vI (nI v), vI (nI lo), vI (nI hi)] w (some (vI (bI (decide (lo ≤ v) && decide (v ≤ hi)))), w) := by
  have k := m_in (w := w) (x := nI v) (y := nI lo) (z := nI hi)
  rw [show decide (nI lo ≤ nI v) = decide (lo ≤ v) from decide_eq_decide.mpr (nJ_le hlo hv), show decide (nI v ≤ nI hi) = decide (v ≤ hi) from decide_eq_decide.mpr (nJ_le hv hhi)] at k
  exact k
theorem r_nbF {w W : Wd} {f : Ft} {x y z : Int32} (h : FSt w W f) : Cl 1 jM_numberBut [vR (sg 13), vI x, vI y, vI z] W (some (vI (W (sg 13) 14)), W) := by
  refine Cl.of rfl rfl rfl (lc := [some (vR (sg 13)), some (vI x), some (vI y), some (vI z), none]) rfl ?_
  refine Rn.if1t 60 rfl rfl h.ne ?_
  exact Rn.ir 60 rfl rfl rfl rfl
/-- but: what it must not be -/
def pNB (B : Nat → Nat) (N a lo hi : Nat) (y : Int32) : Ft ⊕ (Nat × Nat) := bd (pN B N a lo hi) fun q => if nI q.1 = y then .inl (2, a) else .inr q
theorem r_nb {w W V : Wd} {N a lo hi : Nat} {y : Int32} {B : Nat → Nat} (h : RSt w W V N B a) (hlo : lo < 256) (hhi : hi < 256) : (∃ f v W', pNB B N a lo hi y = .inl f ∧ Cl 3 jM_numberBut [vR (sg 13), vI (nI lo), vI (nI hi), vI y] W (some (vI v), W') ∧ FSt w W' f) ∨ ∃ q W', pNB B N a lo hi y = .inr q ∧ Cl 3 jM_numberBut [vR (sg 13), vI (nI lo), vI (nI hi), vI y] W (some (vI (nI q.1)), W') ∧ RSt w W' V N B q.2 := by
  have hN := h.1.1
  have h0 : ∀ {r : Rs}, Rn none 2 jM_numberBut (18, [some (vR (sg 13)), some (vI (nI lo)), some (vI (nI hi)), some (vI y), some (vI (W (sg 13) 14))], [vI (nI 1), vI (W (sg 13) 13)], W) r → Cl 3 jM_numberBut [vR (sg 13), vI (nI lo), vI (nI hi), vI y] W r := by
    intro r kk
    refine Cl.of rfl rfl rfl (lc := [some (vR (sg 13)), some (vI (nI lo)), some (vI (nI hi)), some (vI y), none]) rfl ?_
    refine Rn.if1f 60 rfl rfl (by dsimp only [tm_c2P]; rw [h.2.2.2.1]; decide) ?_
    exact Rn.at 3 rfl kk
  have hok := nmN_ok (B := B) (N := N) (a := a) (N - a) a 0 (Or.inl ⟨rfl, rfl⟩) h.2.1
  have hv : (nm B N a).2 < 1000 := by
    have := hok.1
    unfold nmI at this
    show (nmN B N a (N - a) a 0).2 < 1000
    omega
  unfold pNB pN
  by_cases q1 : (nm B N a).1 = a ∨ a + 3 < (nm B N a).1
  · rw [if_pos q1]
    refine Or.inl ⟨(1, a), W (sg 13) 14, _, rfl, h0 ?_, h.fail (by decide)⟩
    refine Rn.if2f 60 rfl rfl (by dsimp only [tm_c2P]; rw [h.2.2.1.2.1]; exact tkn_nonum h.1.2.1 q1) ?_
    refine Rn.cv 60 rfl rfl rfl rfl rfl (m_fails0 h.2.2.2.1 h.2.2.1.1) (by decide) ?_
    exact Rn.ir 60 rfl rfl rfl rfl
  rw [if_neg q1]
  have et := tkn_num q1
  have e13 : W (sg 13) 13 = nI 1 := by rw [h.2.2.1.2.1, et]
  have e14 : W (sg 13) 14 = nI (nm B N a).2 := by rw [h.2.2.1.2.2.1, et]
  have mi := m_inN (w := W) (v := (nm B N a).2) (lo := lo) (hi := hi) (by omega) (by omega) (by omega)
  rw [← e14] at mi
  have f2 : ∀ {v : Int32}, Rn none 2 jM_numberBut (49, [some (vR (sg 13)), some (vI (nI lo)), some (vI (nI hi)), some (vI y), some (vI v)], [], W) (some (vI v), wset (wset W (sg 13) 15 (nI 2)) (sg 13) 16 (nI a)) := by
    intro v
    refine Rn.cv 60 rfl rfl rfl rfl rfl (m_fails0 h.2.2.2.1 h.2.2.1.1) (by decide) ?_
    exact Rn.ir 60 rfl rfl rfl rfl
  by_cases q2 : (nm B N a).2 < lo ∨ hi < (nm B N a).2
  · rw [if_pos q2]
    refine Or.inl ⟨(2, a), W (sg 13) 14, _, rfl, h0 ?_, h.fail (by decide)⟩
    refine Rn.if2t 60 rfl rfl e13 ?_
    have eb : (decide (lo ≤ (nm B N a).2) && decide ((nm B N a).2 ≤ hi)) = false := by
      rw [Bool.and_eq_false_iff, decide_eq_false_iff_not, decide_eq_false_iff_not]
      omega
    rw [eb] at mi
    refine Rn.cs 60 rfl rfl rfl rfl mi (by decide) ?_
    refine Rn.if1t 60 rfl rfl (by dsimp only [tm_c2P]; decide) ?_
    exact f2
  rw [if_neg q2]
  have eb : (decide (lo ≤ (nm B N a).2) && decide ((nm B N a).2 ≤ hi)) = true := by
    rw [Bool.and_eq_true, decide_eq_true_eq, decide_eq_true_eq]
    omega
  rw [eb] at mi
  by_cases q3 : nI (nm B N a).2 = y
  · refine Or.inl ⟨(2, a), W (sg 13) 14, _, if_pos q3, h0 ?_, h.fail (by decide)⟩
    refine Rn.if2t 60 rfl rfl e13 ?_
    refine Rn.cs 60 rfl rfl rfl rfl mi (by decide) ?_
    refine Rn.if1f 60 rfl rfl (by dsimp only [tm_c2P]; decide) ?_
    refine Rn.if2f 60 rfl rfl (by dsimp only [tm_c2P]; rw [e14]; exact fun z => z q3) ?_
    exact f2
  · obtain ⟨W', a1, a2⟩ := h.next (a' := (nm B N a).1) (by rw [et])
    refine Or.inr ⟨((nm B N a).2, (nm B N a).1), W', if_neg q3, h0 ?_, a2⟩
    refine Rn.if2t 60 rfl rfl e13 ?_
    refine Rn.cs 60 rfl rfl rfl rfl mi (by decide) ?_
    refine Rn.if1f 60 rfl rfl (by dsimp only [tm_c2P]; decide) ?_
    refine Rn.if2t 60 rfl rfl (by dsimp only [tm_c2P]; rw [e14]; exact q3) ?_
    refine Rn.cv 60 rfl rfl rfl rfl rfl a1 (by decide) ?_
    refine Rn.ir 60 rfl rfl rfl ?_
    rw [e14]
def pNS (B : Nat → Nat) (N a lo hi z : Nat) : Ft ⊕ (Nat × Nat) := bd (pN B N a lo hi) fun q => bd (pS B N q.2 z) fun b => .inr (q.1, b)
theorem r_numF {w W : Wd} {f : Ft} {x y z : Int32} (h : FSt w W f) : Cl 2 jM_number [vR (sg 13), vI x, vI y, vI z] W (some (vI (W (sg 13) 14)), W) := by
  refine Cl.of rfl rfl rfl (lc := [some (vR (sg 13)), some (vI x), some (vI y), some (vI z), none]) rfl ?_
  refine Rn.cv 60 rfl rfl rfl rfl rfl (r_nbF h) (by decide) ?_
  refine Rn.cv 60 rfl rfl rfl rfl rfl (r_signF h) (by decide) ?_
  exact Rn.ir 60 rfl rfl rfl rfl
theorem pNB_no {B : Nat → Nat} {N a lo hi : Nat} (ha : a ≤ N) (hhi : hi < 256) : pNB B N a lo hi (-(nI 1)) = pN B N a lo hi := by
  unfold pNB
  cases e : pN B N a lo hi with
  | inl f => rfl
  | inr q =>
    have := pN_le ha e
    exact if_neg (fun z => nm1_ne (v := q.1) (by omega) z.symm)
theorem r_num {w W V : Wd} {N a lo hi z : Nat} {B : Nat → Nat} (h : RSt w W V N B a) (hlo : lo < 256) (hhi : hi < 256) (hz : sgn z = true) : (∃ f v W', pNS B N a lo hi z = .inl f ∧ Cl 4 jM_number [vR (sg 13), vI (nI lo), vI (nI hi), vI (nI z)] W (some (vI v), W') ∧ FSt w W' f) ∨ ∃ q W', pNS B N a lo hi z = .inr q ∧ Cl 4 jM_number [vR (sg 13), vI (nI lo), vI (nI hi), vI (nI z)] W (some (vI (nI q.1)), W') ∧ RSt w W' V N B q.2 := by
  have k := r_nb (y := -(nI 1)) h hlo hhi
  rw [pNB_no h.2.1 hhi] at k
  unfold pNS
  have h0 : ∀ {v : Int32} {W1 : Wd} {r : Rs}, Cl 3 jM_numberBut [vR (sg 13), vI (nI lo), vI (nI hi), vI (-(nI 1))] W (some (vI v), W1) → Rn none 3 jM_number (9, [some (vR (sg 13)), some (vI (nI lo)), some (vI (nI hi)), some (vI (nI z)), some (vI v)], [], W1) r → Cl 4 jM_number [vR (sg 13), vI (nI lo), vI (nI hi), vI (nI z)] W r := by
    intro v W1 r hc kk
    refine Cl.of rfl rfl rfl (lc := [some (vR (sg 13)), some (vI (nI lo)), some (vI (nI hi)), some (vI (nI z)), none]) rfl ?_
    refine Rn.cv 60 rfl rfl rfl rfl rfl hc (by decide) ?_
    exact Rn.at 1 rfl kk
  rcases k with ⟨f, v, W1, e1, e2, e3⟩ | ⟨q, W1, e1, e2, e3⟩
  · rw [e1]
    refine Or.inl ⟨f, v, W1, rfl, h0 e2 ?_, e3⟩
    refine Rn.cv 60 rfl rfl rfl rfl rfl (r_signF e3) (by decide) ?_
    exact Rn.ir 60 rfl rfl rfl rfl
  · rw [e1]
    rcases r_sign e3 hz with ⟨f, W2, g1, g2, g3⟩ | ⟨b, W2, g1, g2, g3⟩
    · refine Or.inl ⟨f, nI q.1, W2, ?_, h0 e2 ?_, g3⟩
      · show bd (pS B N q.2 z) _ = _
        rw [g1]
        rfl
      · refine Rn.cv 60 rfl rfl rfl rfl rfl g2 (by decide) ?_
        exact Rn.ir 60 rfl rfl rfl rfl
    · refine Or.inr ⟨(q.1, b), W2, ?_, h0 e2 ?_, g3⟩
      · show bd (pS B N q.2 z) _ = _
        rw [g1]
        rfl
      · refine Rn.cv 60 rfl rfl rfl rfl rfl g2 (by decide) ?_
        exact Rn.ir 60 rfl rfl rfl rfl
