/-! what a text says is a city; the reference's loops -/
theorem bd_inr {X Y : Type} {x : Ft ⊕ X} {F : X → Ft ⊕ Y} {q : Y} (h : bd x F = .inr q) : ∃ v, x = .inr v ∧ F v = .inr q := by
  cases x with
  | inl f => cases h
  | inr v => exact ⟨v, rfl, h⟩
theorem pGate_hi {B : Nat → Nat} {N P a : Nat} {q : Nat × Nat × Nat × Nat} (h : pGate B N P a = .inr q) : q.1 ≤ P - 1 ∧ q.2.1 ≤ P - 1 ∧ q.2.2.1 ≤ 1 := by
  unfold pGate at h
  obtain ⟨q1, h1, h⟩ := bd_inr h
  obtain ⟨a2, h2, h⟩ := bd_inr h
  obtain ⟨q3, h3, h⟩ := bd_inr h
  split at h
  · cases h
  obtain ⟨a4, h4, h⟩ := bd_inr h
  obtain ⟨q5, h5, h⟩ := bd_inr h
  obtain ⟨a6, h6, h⟩ := bd_inr h
  cases h
  exact ⟨(pN_hi h1).2, (pN_hi h3).2, (pN_hi h5).2⟩
theorem pPers_hi {B : Nat → Nat} {N P M a : Nat} {q : Nat × Nat × Nat × Nat × Nat} (h : pPers B N P M a = .inr q) : q.1 ≤ P - 1 ∧ q.2.1 ≤ P - 1 ∧ q.2.2.1 ≤ 2 ^ M - 1 ∧ q.2.2.2.1 ≤ 20 := by
  unfold pPers at h
  obtain ⟨q1, h1, h⟩ := bd_inr h
  obtain ⟨a2, h2, h⟩ := bd_inr h
  obtain ⟨q3, h3, h⟩ := bd_inr h
  obtain ⟨a4, h4, h⟩ := bd_inr h
  obtain ⟨q5, h5, h⟩ := bd_inr h
  obtain ⟨a6, h6, h⟩ := bd_inr h
  obtain ⟨q7, h7, h⟩ := bd_inr h
  obtain ⟨a8, h8, h⟩ := bd_inr h
  cases h
  exact ⟨(pN_hi h1).2, (pN_hi h3).2, (pN_hi h5).2, (pN_hi h7).2⟩
theorem CtOk.gate {c : Nat → Nat} {nr ti o u v s : Nat} {wf : Nat → Nat} (h : CtOk c nr ti o 0 0 wf) (h3 : c 3 < 8) (hu : u < c 0) (hv : v < c 0) (hs : s ≤ 1) : CtOk (gC c u v) nr ti (o ||| s * 2 ^ c 3) 0 0 wf := by
  obtain ⟨⟨p0, p3, p4, pg, pp⟩, ⟨d1, d2, d3, d4, d5⟩, d6, d7⟩ := h
  have e0 : gC c u v 0 = c 0 := gC_n (by decide) (by omega) (by omega)
  have e4 : gC c u v 4 = c 4 := gC_n (by decide) (by omega) (by omega)
  have s1 : ∀ p, so (gC c u v) p = so c p := fun p => gC_n (by omega) (by omega) (by omega)
  have s2 : ∀ p, ho (gC c u v) p = ho c p := fun p => gC_n (by omega) (by omega) (by omega)
  have s3 : ∀ p, er (gC c u v) p = er c p := fun p => gC_n (by omega) (by omega) (by omega)
  have s4 : ∀ p, we (gC c u v) p = we c p := fun p => gC_n (by omega) (by omega) (by omega)
  refine ⟨⟨by rw [e0]; exact p0, by rw [gC_3]; omega, by rw [e4]; exact p4, fun g hg => ?_, fun p hp => ?_⟩, ⟨d1, d2, ?_, d4, fun p hp => ?_⟩, d6, fun p hp => ?_⟩
  · rw [gC_3] at hg
    rw [e0]
    by_cases q : g = c 3
    · subst q
      rw [gC_a, gC_b]
      exact ⟨hu, hv⟩
    · rw [gC_n (by omega) (by omega) (by omega), gC_n (by omega) (by omega) (by omega)]
      exact pg g (by omega)
  · rw [e4] at hp
    rw [s1, s2, s3, s4, e0]
    exact pp p hp
  · have z1 : 2 ^ c 3 ≤ 2 ^ 7 := Nat.pow_le_pow_right (by decide) (by omega)
    have z2 : s * 2 ^ c 3 ≤ 1 * 2 ^ 7 := Nat.mul_le_mul hs z1
    exact Nat.or_lt_two_pow (n := 8) d3 (by omega)
  · rw [e4] at hp
    exact d5 p hp
  · rw [e4] at hp
    rw [s1]
    exact d7 p hp
theorem CtOk.pers {c : Nat → Nat} {nr ti o s h e g v : Nat} {wf : Nat → Nat} (hk : CtOk c nr ti o 0 0 wf) (h4 : c 4 < 5) (hs : 1 ≤ s ∧ s ≤ 5) (hh : h < c 0) (he : e < c 0) (hg : g ≤ 20) (hv : v < 256) : CtOk (qC c s h e g) nr ti o 0 0 (upW wf (c 4) v) := by
  obtain ⟨⟨p0, p3, p4, pg, pp⟩, ⟨d1, d2, d3, d4, d5⟩, d6, d7⟩ := hk
  have e0 : qC c s h e g 0 = c 0 := qC_n (by decide) (by omega) (by omega) (by omega) (by omega)
  have e3 : qC c s h e g 3 = c 3 := qC_n (by decide) (by omega) (by omega) (by omega) (by omega)
  have f1 : so (qC c s h e g) (c 4) = s := qC_s
  have f2 : ho (qC c s h e g) (c 4) = h := qC_h
  have f3 : er (qC c s h e g) (c 4) = e := qC_e
  have f4 : we (qC c s h e g) (c 4) = g := qC_g
  have s1 : ∀ p, p ≠ c 4 → so (qC c s h e g) p = so c p := fun p q => qC_n (by omega) (by omega) (by omega) (by omega) (by omega)
  have s2 : ∀ p, p ≠ c 4 → ho (qC c s h e g) p = ho c p := fun p q => qC_n (by omega) (by omega) (by omega) (by omega) (by omega)
  have s3 : ∀ p, p ≠ c 4 → er (qC c s h e g) p = er c p := fun p q => qC_n (by omega) (by omega) (by omega) (by omega) (by omega)
  have s4 : ∀ p, p ≠ c 4 → we (qC c s h e g) p = we c p := fun p q => qC_n (by omega) (by omega) (by omega) (by omega) (by omega)
  refine ⟨⟨by rw [e0]; exact p0, by rw [e3]; exact p3, by rw [qC_4]; omega, fun q hq => ?_, fun p hp => ?_⟩, ⟨d1, d2, d3, d4, fun p hp => ?_⟩, d6, fun p hp => ?_⟩
  · rw [e3] at hq
    rw [e0, qC_n (by omega) (by omega) (by omega) (by omega) (by omega), qC_n (by omega) (by omega) (by omega) (by omega) (by omega)]
    exact pg q hq
  · rw [qC_4] at hp
    rw [e0]
    by_cases q : p = c 4
    · subst q
      rw [f1, f2, f3, f4]
      exact ⟨hs.2, hh, he, hg⟩
    · rw [s1 p q, s2 p q, s3 p q, s4 p q]
      exact pp p (by omega)
  · rw [qC_4] at hp
    unfold upW
    by_cases q : p = c 4
    · rw [if_pos q]
      exact hv
    · rw [if_neg q]
      exact d5 p (by omega)
  · rw [qC_4] at hp
    by_cases q : p = c 4
    · subst q
      rw [f1]
      exact hs.1
    · rw [s1 p q]
      exact d7 p (by omega)
theorem pGs_ok {B : Nat → Nat} {N nr ti : Nat} {wf : Nat → Nat} : ∀ n c o a q, n + c 3 = 8 → 1 ≤ c 0 → CtOk c nr ti o 0 0 wf → pGs B N n c o a = .inr q → CtOk q.1 nr ti q.2.1 0 0 wf := by
  intro n
  induction n with
  | zero =>
    intro c o a q hn h0 hk h
    unfold pGs at h
    split at h
    · cases h
    · cases h
      exact hk
  | succ n ih =>
    intro c o a q hn h0 hk h
    unfold pGs at h
    split at h
    · obtain ⟨v, h1, h⟩ := bd_inr h
      have l := pGate_hi h1
      exact ih _ _ _ q (by rw [gC_3]; omega) (by rw [gC_n (by decide) (by omega) (by omega)]; exact h0) (hk.gate (by omega) (by omega) (by omega) l.2.2) h
    · cases h
      exact hk
theorem pPs_ok {B : Nat → Nat} {N nr ti o : Nat} : ∀ n c wf a q, n + c 4 = 5 → 1 ≤ c 0 → CtOk c nr ti o 0 0 wf → pPs B N n c wf a = .inr q → CtOk q.1 nr ti o 0 0 q.2 := by
  intro n
  induction n with
  | zero =>
    intro c wf a q hn h0 hk h
    unfold pPs at h
    split at h
    · split at h <;> cases h
    · cases h
      exact hk
  | succ n ih =>
    intro c wf a q hn h0 hk h
    unfold pPs at h
    split at h
    · split at h
      · cases h
      · next hs =>
        obtain ⟨v, h1, h⟩ := bd_inr h
        have l := pPers_hi h1
        have h5 := sof5 (v := B a)
        have hM : 2 ^ c 3 ≤ 256 := Nat.pow_le_pow_right (n := 2) (by decide) hk.1.2.1
        exact ih _ _ _ q (by rw [qC_4]; omega) (by rw [qC_n (by decide) (by omega) (by omega) (by omega) (by omega)]; exact h0) (hk.pers (by omega) (by omega) (by omega) (by omega) l.2.2.2 (by omega)) h
    · cases h
      exact hk
theorem pCity_ok {B : Nat → Nat} {N : Nat} {q : (Nat → Nat) × Nat × Nat × Nat × (Nat → Nat)} (h : pCity B N = .inr q) : CtOk q.1 q.2.1 q.2.2.1 q.2.2.2.1 0 0 q.2.2.2.2 := by
  unfold pCity at h
  obtain ⟨v, h1, h⟩ := bd_inr h
  obtain ⟨u, h2, h⟩ := bd_inr h
  obtain ⟨s, h3, h⟩ := bd_inr h
  cases h
  have l := pHead_c h1
  have k0 : CtOk (c1 v.1) v.2.1 v.2.2.1 0 0 0 (fun _ => 0) := ⟨⟨l.1.2, Nat.zero_le _, Nat.zero_le _, fun g hg => absurd hg (Nat.not_lt_zero g), fun p hp => absurd hp (Nat.not_lt_zero p)⟩, ⟨l.2.1, l.2.2, by decide, by decide, fun p hp => absurd hp (Nat.not_lt_zero p)⟩, Nat.zero_le _, fun p hp => absurd hp (Nat.not_lt_zero p)⟩
  have k1 := pGs_ok 8 (c1 v.1) 0 v.2.2.2 u rfl (by show 1 ≤ v.1; omega) k0 h2
  have k2 := pGs_c 8 (c1 v.1) 0 v.2.2.2 u rfl h2
  have e4 : u.1 4 = 0 := k2.2.1
  have e0 : u.1 0 = v.1 := k2.1
  exact pPs_ok 5 u.1 (fun _ => 0) u.2.2 s (by omega) (by omega) k1 h3
theorem MaIs.gate {w W : Wd} {c : Nat → Nat} {nr ti o o' u v : Nat} {wf : Nat → Nat} (h : MaIs w 147 c nr ti o 0 0 wf) (h3 : c 3 < 8) (h4 : c 4 ≤ 5) (e : W (sg 17) = (wset (wset (wset (wset w (sg 17) (147 + (8 + 2 * c 3)) (nI u)) (sg 17) (147 + (8 + 2 * c 3 + 1)) (nI v)) (sg 17) (147 + 6) (nI o')) (sg 17) (147 + 3) (nI (c 3 + 1))) (sg 17)) : MaIs W 147 (gC c u v) nr ti o' 0 0 wf := by
  obtain ⟨a1, a2, a3, a4, a5, a6, a7, a8, a9, a10⟩ := h
  have n : ∀ j, j ≠ 147 + 3 → j ≠ 147 + 6 → j ≠ 147 + (8 + 2 * c 3 + 1) → j ≠ 147 + (8 + 2 * c 3) → W (sg 17) j = w (sg 17) j := fun j b1 b2 b3 b4 => by rw [e, wset_k b1, wset_k b2, wset_k b3, wset_k b4]
  have g4 : gC c u v 4 = c 4 := gC_n (by decide) (by omega) (by omega)
  refine ⟨?_, (n _ (by omega) (by omega) (by omega) (by omega)).trans a2, (n _ (by omega) (by omega) (by omega) (by omega)).trans a3, ?_, ?_, (n _ (by omega) (by omega) (by omega) (by omega)).trans a6, ?_, (n _ (by omega) (by omega) (by omega) (by omega)).trans a8, fun g hg => ?_, fun p hp => ?_⟩
  · rw [n _ (by omega) (by omega) (by omega) (by omega), gC_n (by decide) (by omega) (by omega)]
    exact a1
  · rw [e, wset_s, gC_3]
  · rw [n _ (by omega) (by omega) (by omega) (by omega), g4]
    exact a5
  · rw [e, wset_k (by omega), wset_s]
  · rw [gC_3] at hg
    by_cases q : g = c 3
    · subst q
      rw [gC_a, gC_b]
      refine ⟨?_, ?_⟩
      · rw [e, wset_k (by omega), wset_k (by omega), wset_k (by omega), wset_s]
      · rw [e, show 147 + (9 + 2 * c 3) = 147 + (8 + 2 * c 3 + 1) by omega, wset_k (by omega), wset_k (by omega), wset_s]
    · rw [gC_n (by omega) (by omega) (by omega), gC_n (by omega) (by omega) (by omega), n _ (by omega) (by omega) (by omega) (by omega), n _ (by omega) (by omega) (by omega) (by omega)]
      exact a9 g (by omega)
  · rw [g4] at hp
    have s1 : so (gC c u v) p = so c p := gC_n (by omega) (by omega) (by omega)
    have s2 : ho (gC c u v) p = ho c p := gC_n (by omega) (by omega) (by omega)
    have s3 : er (gC c u v) p = er c p := gC_n (by omega) (by omega) (by omega)
    have s4 : we (gC c u v) p = we c p := gC_n (by omega) (by omega) (by omega)
    rw [s1, s2, s3, s4, n _ (by omega) (by omega) (by omega) (by omega), n _ (by omega) (by omega) (by omega) (by omega), n _ (by omega) (by omega) (by omega) (by omega), n _ (by omega) (by omega) (by omega) (by omega), n _ (by omega) (by omega) (by omega) (by omega)]
    exact a10 p hp
theorem MaIs.pers {w W : Wd} {c : Nat → Nat} {nr ti o s h e g v : Nat} {wf : Nat → Nat} (hk : MaIs w 147 c nr ti o 0 0 wf) (h3 : c 3 ≤ 8) (h4 : c 4 < 5) (ew : W (sg 17) = (wset (wset (wset (wset (wset (wset w (sg 17) (147 + (24 + 5 * c 4)) (nI s)) (sg 17) (147 + (24 + 5 * c 4 + 1)) (nI h)) (sg 17) (147 + (24 + 5 * c 4 + 2)) (nI e)) (sg 17) (147 + (24 + 5 * c 4 + 3)) (nI v)) (sg 17) (147 + (24 + 5 * c 4 + 4)) (nI g)) (sg 17) (147 + 4) (nI (c 4 + 1))) (sg 17)) : MaIs W 147 (qC c s h e g) nr ti o 0 0 (upW wf (c 4) v) := by
  obtain ⟨a1, a2, a3, a4, a5, a6, a7, a8, a9, a10⟩ := hk
  have n : ∀ j, j ≠ 147 + 4 → (j < 147 + (24 + 5 * c 4) ∨ 147 + (24 + 5 * c 4 + 4) < j) → W (sg 17) j = w (sg 17) j := fun j b1 b2 => by rw [ew, wset_k b1, wset_k (by omega), wset_k (by omega), wset_k (by omega), wset_k (by omega), wset_k (by omega)]
  have g3 : qC c s h e g 3 = c 3 := qC_n (by decide) (by omega) (by omega) (by omega) (by omega)
  refine ⟨?_, (n _ (by omega) (by omega)).trans a2, (n _ (by omega) (by omega)).trans a3, ?_, ?_, (n _ (by omega) (by omega)).trans a6, (n _ (by omega) (by omega)).trans a7, (n _ (by omega) (by omega)).trans a8, fun q hq => ?_, fun p hp => ?_⟩
  · rw [n _ (by omega) (by omega), qC_n (by decide) (by omega) (by omega) (by omega) (by omega)]
    exact a1
  · rw [n _ (by omega) (by omega), g3]
    exact a4
  · rw [ew, wset_s, qC_4]
  · rw [g3] at hq
    rw [n _ (by omega) (by omega), n _ (by omega) (by omega), qC_n (by omega) (by omega) (by omega) (by omega) (by omega), qC_n (by omega) (by omega) (by omega) (by omega) (by omega)]
    exact a9 q hq
  · rw [qC_4] at hp
    by_cases q : p = c 4
    · subst q
      refine ⟨?_, ?_, ?_, ?_, ?_⟩
      · show W (sg 17) (147 + (24 + 5 * c 4)) = nI (qC c s h e g (24 + 5 * c 4))
        rw [qC_s, ew, wset_k (by omega), wset_k (by omega), wset_k (by omega), wset_k (by omega), wset_k (by omega), wset_s]
      · show W (sg 17) (147 + (25 + 5 * c 4)) = nI (qC c s h e g (25 + 5 * c 4))
        rw [qC_h, ew, show 147 + (25 + 5 * c 4) = 147 + (24 + 5 * c 4 + 1) by omega, wset_k (by omega), wset_k (by omega), wset_k (by omega), wset_k (by omega), wset_s]
      · show W (sg 17) (147 + (26 + 5 * c 4)) = nI (qC c s h e g (26 + 5 * c 4))
        rw [qC_e, ew, show 147 + (26 + 5 * c 4) = 147 + (24 + 5 * c 4 + 2) by omega, wset_k (by omega), wset_k (by omega), wset_k (by omega), wset_s]
      · unfold upW
        rw [if_pos rfl, ew, show 147 + (27 + 5 * c 4) = 147 + (24 + 5 * c 4 + 3) by omega, wset_k (by omega), wset_k (by omega), wset_s]
      · show W (sg 17) (147 + (28 + 5 * c 4)) = nI (qC c s h e g (28 + 5 * c 4))
        rw [qC_g, ew, show 147 + (28 + 5 * c 4) = 147 + (24 + 5 * c 4 + 4) by omega, wset_k (by omega), wset_s]
    · have s1 : so (qC c s h e g) p = so c p := qC_n (by omega) (by omega) (by omega) (by omega) (by omega)
      have s2 : ho (qC c s h e g) p = ho c p := qC_n (by omega) (by omega) (by omega) (by omega) (by omega)
      have s3 : er (qC c s h e g) p = er c p := qC_n (by omega) (by omega) (by omega) (by omega) (by omega)
      have s4 : we (qC c s h e g) p = we c p := qC_n (by omega) (by omega) (by omega) (by omega) (by omega)
      have s5 : upW wf (c 4) v p = wf p := if_neg q
      rw [s1, s2, s3, s4, s5, n _ (by omega) (by omega), n _ (by omega) (by omega), n _ (by omega) (by omega), n _ (by omega) (by omega), n _ (by omega) (by omega)]
      exact a10 p (by omega)
theorem f_87 {w W : Wd} {f : Ft} {x1 : Option AV} (h : FSt w W f) {r : Rs} (k : Rn none 6 jM_city (110, [some (vR (sg 13)), x1], [], W) r) : Rn none 6 jM_city (87, [some (vR (sg 13)), x1], [], W) r := Rn.if1t 60 rfl rfl h.ne k
theorem f_110 {w W : Wd} {f : Ft} {x1 : Option AV} (h : FSt w W f) {r : Rs} (k : Rn none 6 jM_city (131, [some (vR (sg 13)), x1], [], W) r) : Rn none 6 jM_city (110, [some (vR (sg 13)), x1], [], W) r := Rn.if1t 60 rfl rfl h.ne k
theorem r_gates {w : Wd} {N nr ti : Nat} {B : Nat → Nat} {wf : Nat → Nat} {x1 : Option AV} : ∀ n c o a W, n + c 3 = 8 → 1 ≤ c 0 ∧ c 0 ≤ 6 → c 4 ≤ 5 → MaIs W 147 c nr ti o 0 0 wf → RSt w W W N B a → (∃ f W', pGs B N n c o a = .inl f ∧ FSt w W' f ∧ ∀ r, Rn none 6 jM_city (110, [some (vR (sg 13)), x1], [], W') r → Rn none 6 jM_city (87, [some (vR (sg 13)), x1], [], W) r) ∨ ∃ q W', pGs B N n c o a = .inr q ∧ RSt w W' W' N B q.2.2 ∧ MaIs W' 147 q.1 nr ti q.2.1 0 0 wf ∧ ∀ r, Rn none 6 jM_city (110, [some (vR (sg 13)), x1], [], W') r → Rn none 6 jM_city (87, [some (vR (sg 13)), x1], [], W) r := by
  have yes : ∀ {a : Nat} {W : Wd} {r : Rs}, RSt w W W N B a → a < N ∧ B a = 103 → Rn none 6 jM_city (103, [some (vR (sg 13)), x1], [], W) r → Rn none 6 jM_city (87, [some (vR (sg 13)), x1], [], W) r := by
    intro a W r h q kk
    refine Rn.if1f 60 rfl rfl (by dsimp only [tm_c2P]; rw [h.2.2.2.1]; decide) ?_
    exact Rn.if2f 60 rfl rfl (by dsimp only [tm_c2P]; rw [h.2.2.1.2.1, tkn_sign q.1 q.2 (by decide)]; exact fun z => z rfl) kk
  have no : ∀ {a : Nat} {W : Wd} {r : Rs}, RSt w W W N B a → ¬ (a < N ∧ B a = 103) → Rn none 6 jM_city (110, [some (vR (sg 13)), x1], [], W) r → Rn none 6 jM_city (87, [some (vR (sg 13)), x1], [], W) r := by
    intro a W r h q kk
    refine Rn.if1f 60 rfl rfl (by dsimp only [tm_c2P]; rw [h.2.2.2.1]; decide) ?_
    exact Rn.if2t 60 rfl rfl (by dsimp only [tm_c2P]; rw [h.2.2.1.2.1]; exact tkn_nosign h.1.2.1 q (by decide)) kk
  intro n
  induction n with
  | zero =>
    intro c o a W hn h0 h4 hm h
    unfold pGs
    by_cases q : a < N ∧ B a = 103
    · rw [if_pos q]
      obtain ⟨W', a1, a2⟩ := r_gate8 h (by rw [hm.2.2.2.1, show c 3 = 8 by omega])
      refine Or.inl ⟨(3, a), W', rfl, a2, fun r kk => yes h q ?_⟩
      refine Rn.cv 60 rfl rfl rfl rfl rfl a1 (by decide) ?_
      exact Rn.at 1 rfl (f_87 a2 kk)
    · rw [if_neg q]
      exact Or.inr ⟨(c, o, a), W, rfl, h, hm, fun r kk => no h q kk⟩
  | succ n ih =>
    intro c o a W hn h0 h4 hm h
    unfold pGs
    by_cases q : a < N ∧ B a = 103
    · rw [if_pos q]
      rcases r_gate (P := c 0) (m := c 3) (o := o) h q.1 q.2 (by omega) h0 hm.1 hm.2.2.2.1 hm.2.2.2.2.2.2.1 with ⟨f, W', g1, g2, g3⟩ | ⟨v, W2, g1, g2, g3⟩
      · rw [g1]
        refine Or.inl ⟨f, W', rfl, g3, fun r kk => yes h q ?_⟩
        refine Rn.cv 60 rfl rfl rfl rfl rfl g2 (by decide) ?_
        exact Rn.at 1 rfl (f_87 g3 kk)
      · rw [g1]
        have hm2 : MaIs W2 147 (gC c v.1 v.2.1) nr ti (o ||| v.2.2.1 * 2 ^ c 3) 0 0 wf := hm.gate (by omega) h4 g3.2.2.2.2.2.2
        have e0 : gC c v.1 v.2.1 0 = c 0 := gC_n (by decide) (by omega) (by omega)
        have e4 : gC c v.1 v.2.1 4 = c 4 := gC_n (by decide) (by omega) (by omega)
        have st : ∀ {r : Rs}, Rn none 6 jM_city (87, [some (vR (sg 13)), x1], [], W2) r → Rn none 6 jM_city (87, [some (vR (sg 13)), x1], [], W) r := by
          intro r kk
          refine yes h q ?_
          refine Rn.cv 60 rfl rfl rfl rfl rfl g2 (by decide) ?_
          exact Rn.at 1 rfl kk
        rcases ih (gC c v.1 v.2.1) (o ||| v.2.2.1 * 2 ^ c 3) v.2.2.2 W2 (by rw [gC_3]; omega) (by rw [e0]; exact h0) (by rw [e4]; exact h4) hm2 g3.self with ⟨f, W', i1, i2, i3⟩ | ⟨v', W', i1, i2, i3, i4⟩
        · exact Or.inl ⟨f, W', i1, i2, fun r kk => st (i3 r kk)⟩
        · exact Or.inr ⟨v', W', i1, i2, i3, fun r kk => st (i4 r kk)⟩
    · rw [if_neg q]
      exact Or.inr ⟨(c, o, a), W, rfl, h, hm, fun r kk => no h q kk⟩
theorem r_people {w : Wd} {N nr ti o : Nat} {B : Nat → Nat} {x1 : Option AV} : ∀ n c wf a W, n + c 4 = 5 → 1 ≤ c 0 ∧ c 0 ≤ 6 → c 3 ≤ 8 → MaIs W 147 c nr ti o 0 0 wf → RSt w W W N B a → (∃ f W', pPs B N n c wf a = .inl f ∧ FSt w W' f ∧ ∀ r, Rn none 6 jM_city (131, [some (vR (sg 13)), x1], [], W') r → Rn none 6 jM_city (110, [some (vR (sg 13)), x1], [], W) r) ∨ ∃ q W', pPs B N n c wf a = .inr q ∧ W' (sg 13) 15 = nI 0 ∧ RFr w W' ∧ MaIs W' 147 q.1 nr ti o 0 0 q.2 ∧ ∀ r, Rn none 6 jM_city (131, [some (vR (sg 13)), x1], [], W') r → Rn none 6 jM_city (110, [some (vR (sg 13)), x1], [], W) r := by
  have yes : ∀ {a : Nat} {W : Wd} {r : Rs}, RSt w W W N B a → a < N → Rn none 6 jM_city (124, [some (vR (sg 13)), x1], [], W) r → Rn none 6 jM_city (110, [some (vR (sg 13)), x1], [], W) r := by
    intro a W r h q kk
    refine Rn.if1f 60 rfl rfl (by dsimp only [tm_c2P]; rw [h.2.2.2.1]; decide) ?_
    exact Rn.if1f 60 rfl rfl (by dsimp only [tm_c2P]; rw [h.2.2.1.2.1]; exact tkn_in h.1.2.1 q) kk
  have no : ∀ {a : Nat} {W : Wd} {r : Rs}, RSt w W W N B a → ¬ a < N → Rn none 6 jM_city (131, [some (vR (sg 13)), x1], [], W) r → Rn none 6 jM_city (110, [some (vR (sg 13)), x1], [], W) r := by
    intro a W r h q kk
    refine Rn.if1f 60 rfl rfl (by dsimp only [tm_c2P]; rw [h.2.2.2.1]; decide) ?_
    exact Rn.if1t 60 rfl rfl (by dsimp only [tm_c2P]; rw [h.2.2.1.2.1, tkn_end (by omega)]; rfl) kk
  intro n
  induction n with
  | zero =>
    intro c wf a W hn h0 h3 hm h
    unfold pPs
    by_cases q : a < N
    · rw [if_pos q]
      by_cases hs : sof (B a) = 0
      · rw [if_pos hs]
        obtain ⟨W', a1, a2⟩ := r_pers0 h q hs
        refine Or.inl ⟨(1, a), W', rfl, a2, fun r kk => yes h q ?_⟩
        refine Rn.cv 60 rfl rfl rfl rfl rfl a1 (by decide) ?_
        exact Rn.at 1 rfl (f_110 a2 kk)
      · rw [if_neg hs]
        obtain ⟨W', a1, a2⟩ := r_pers5 h q hs (by rw [hm.2.2.2.2.1, show c 4 = 5 by omega])
        refine Or.inl ⟨(3, a), W', rfl, a2, fun r kk => yes h q ?_⟩
        refine Rn.cv 60 rfl rfl rfl rfl rfl a1 (by decide) ?_
        exact Rn.at 1 rfl (f_110 a2 kk)
    · rw [if_neg q]
      exact Or.inr ⟨(c, wf), W, rfl, h.2.2.2.1, h.2.2.2.2.2.1, hm, fun r kk => no h q kk⟩
  | succ n ih =>
    intro c wf a W hn h0 h3 hm h
    unfold pPs
    by_cases q : a < N
    · rw [if_pos q]
      by_cases hs : sof (B a) = 0
      · rw [if_pos hs]
        obtain ⟨W', a1, a2⟩ := r_pers0 h q hs
        refine Or.inl ⟨(1, a), W', rfl, a2, fun r kk => yes h q ?_⟩
        refine Rn.cv 60 rfl rfl rfl rfl rfl a1 (by decide) ?_
        exact Rn.at 1 rfl (f_110 a2 kk)
      rw [if_neg hs]
      rcases r_pers (P := c 0) (M := c 3) (m := c 4) h q hs (by omega) h0 h3 hm.1 hm.2.2.2.1 hm.2.2.2.2.1 with ⟨f, W', g1, g2, g3⟩ | ⟨v, W2, g1, g2, g3⟩
      · rw [g1]
        refine Or.inl ⟨f, W', rfl, g3, fun r kk => yes h q ?_⟩
        refine Rn.cv 60 rfl rfl rfl rfl rfl g2 (by decide) ?_
        exact Rn.at 1 rfl (f_110 g3 kk)
      · rw [g1]
        have hm2 : MaIs W2 147 (qC c (sof (B a)) v.1 v.2.1 v.2.2.2.1) nr ti o 0 0 (upW wf (c 4) v.2.2.1) := hm.pers h3 (by omega) g3.2.2.2.2.2.2
        have e0 : qC c (sof (B a)) v.1 v.2.1 v.2.2.2.1 0 = c 0 := qC_n (by decide) (by omega) (by omega) (by omega) (by omega)
        have e3 : qC c (sof (B a)) v.1 v.2.1 v.2.2.2.1 3 = c 3 := qC_n (by decide) (by omega) (by omega) (by omega) (by omega)
        have st : ∀ {r : Rs}, Rn none 6 jM_city (110, [some (vR (sg 13)), x1], [], W2) r → Rn none 6 jM_city (110, [some (vR (sg 13)), x1], [], W) r := by
          intro r kk
          refine yes h q ?_
          refine Rn.cv 60 rfl rfl rfl rfl rfl g2 (by decide) ?_
          exact Rn.at 1 rfl kk
        rcases ih (qC c (sof (B a)) v.1 v.2.1 v.2.2.2.1) (upW wf (c 4) v.2.2.1) v.2.2.2.2 W2 (by rw [qC_4]; omega) (by rw [e0]; exact h0) (by rw [e3]; exact h3) hm2 g3.self with ⟨f, W', i1, i2, i3⟩ | ⟨v', W', i1, i2, i3, i4, i5⟩
        · exact Or.inl ⟨f, W', i1, i2, fun r kk => st (i3 r kk)⟩
        · exact Or.inr ⟨v', W', i1, i2, i3, i4, fun r kk => st (i5 r kk)⟩
    · rw [if_neg q]
      exact Or.inr ⟨(c, wf), W, rfl, h.2.2.2.1, h.2.2.2.2.2.1, hm, fun r kk => no h q kk⟩
