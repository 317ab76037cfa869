/-! opened, asked of both -/
theorem vlP_yes {P p : Nat} {b : Bool} (hP : P < 2 ^ 31) (h : p < P) : vlP P (nI p) (bI b) = true := by
  unfold vlP
  rw [decide_eq_true (nI_pos' (by omega)), decide_eq_true (nI_lt h hP)]
  cases b <;> decide
theorem vlP_of {P : Nat} {x y : Int32} (hP : P < 2 ^ 31) (h : vlP P x y = true) : x.toNatClampNeg < P ∧ x = nI x.toNatClampNeg ∧ y = bI (decide (y = nI 1)) := by
  unfold vlP at h
  simp only [Bool.and_eq_true, decide_eq_true_eq] at h
  obtain ⟨⟨h1, h2⟩, h3, h4⟩ := h
  obtain ⟨j, hj, rfl⟩ := nI_of (Int32.not_lt.mpr h1)
  obtain ⟨k, hk, rfl⟩ := nI_of (Int32.not_lt.mpr h3)
  rw [nJ_lt hj hP] at h2
  rw [nJ_le hk (by decide)] at h4
  refine ⟨by rw [nI_clamp hj]; exact h2, by rw [nI_clamp hj], ?_⟩
  rcases (by omega : k = 0 ∨ k = 1) with rfl | rfl
  · decide
  · decide
theorem apN_all {P : Nat} {X Y : Nat → Int32} : ∀ n k, apN P X Y n k = true → ∀ j, k ≤ j → j < k + n → vlP P (X j) (Y j) = true
  | 0, k, _, j, h1, h2 => absurd h2 (by omega)
  | n + 1, k, h, j, h1, h2 => by
    unfold apN at h
    rw [Bool.and_eq_true] at h
    by_cases e : j = k
    · subst e
      exact h.1
    · exact apN_all n (k + 1) h.2 j (by omega) (by omega)
theorem m_pis {w : Wd} {c : Nat → Nat} {x : Int32} (hc : PlOk c) (h : MPl w c) : Cl 2 jM_isPerson [vR (sg 13), vI x] w (some (vI (bI (decide (0 ≤ x) && decide (x < nI (c 4))))), w) := by
  have hc4 := hc.2.2.1
  rcases pk_or (x := x) (n := c 4) (by omega) with h1 | ⟨p, hp, rfl⟩
  · have k := m_pno hc h h1
    rw [show (decide (0 ≤ x) && decide (x < nI (c 4))) = false from by
      rcases h1 with h1 | h1
      · rw [decide_eq_false (Int32.not_le.mpr h1), Bool.false_and]
      · rw [decide_eq_false (Int32.not_lt.mpr h1), Bool.and_false]]
    exact k
  · have k := m_pyes hc h hp
    rw [decide_eq_true (nI_pos' (by omega)), decide_eq_true (nI_lt hp (by omega))]
    exact k
def opW (x6 x7 x8 x9 x10 x11 x12 x13 : Option AV) (r i n k fr : Nat) : Lc := [some (vR (sg 13)), some (vI (nI r)), some (vI (nI i)), some (vI (nI n)), some (vI (nI k)), some (vI (nI fr)), x6, x7, x8, x9, x10, x11, x12, x13]
/-- the pairs looked through -/
theorem m_pairs {w : Wd} {c : Nat → Nat} {r i n k : Nat} {X Y : Nat → Int32} (hc : PlOk c) (h : MPl w c) (hr : r < 8) (hn : i + 2 * n ≤ 40) (hX : ∀ k, k < n → w (sg 16) (40 * r + (i + 2 * k)) = X k) (hY : ∀ k, k < n → w (sg 16) (40 * r + (i + 2 * k + 1)) = Y k) {x7 x8 x9 x10 x11 x12 x13 : Option AV} {r0 : Rs} (kt : apN (c 4) X Y n 0 = true → Rn none 19 jM_opened (146, opW (some (vI (nI n))) x7 x8 x9 x10 x11 x12 x13 r i n k (40 * r + i), [], w) r0) (kf : apN (c 4) X Y n 0 = false → ∀ x6, Rn none 19 jM_opened (137, opW x6 x7 x8 x9 x10 x11 x12 x13 r i n k (40 * r + i), [], w) r0) : Rn none 19 jM_opened (90, opW (some (vI (nI 0))) x7 x8 x9 x10 x11 x12 x13 r i n k (40 * r + i), [], w) r0 := by
  generalize hA : apN (c 4) X Y n 0 = A at kt kf
  have key : ∀ m q, q + m = n → A = apN (c 4) X Y m q → Rn none 19 jM_opened (90, opW (some (vI (nI q))) x7 x8 x9 x10 x11 x12 x13 r i n k (40 * r + i), [], w) r0 := by
    intro m
    induction m with
    | zero =>
      intro q hq e
      obtain rfl : q = n := by omega
      refine Rn.if2t 60 rfl rfl (nI_le (Nat.le_refl _) (by omega)) ?_
      exact kt e
    | succ m ih =>
      intro q hq e
      unfold apN vlP at e
      rw [e] at kt kf
      refine Rn.if2f 60 rfl rfl (nI_ge (by omega) (by omega)) ?_
      refine Rn.al 60 (j := 40 * r + (i + 2 * q)) rfl rfl rfl (by dsimp only; rw [pk_mul, nI_add, Nat.add_assoc]) (by omega) ?_
      rw [hX q (by omega)]
      refine Rn.cv 60 rfl rfl rfl rfl rfl (m_pis hc h) (by decide) ?_
      cases e1 : decide (0 ≤ X q) && decide (X q < nI (c 4)) with
      | false =>
        rw [e1] at kf
        refine Rn.if1t 60 rfl rfl (by dsimp only [tm_c2P]; decide) ?_
        exact kf rfl _
      | true =>
        rw [e1] at kf kt
        refine Rn.if1f 60 rfl rfl (by dsimp only [tm_c2P]; decide) ?_
        refine Rn.al 60 (j := 40 * r + (i + 2 * q + 1)) rfl rfl rfl (by dsimp only; rw [pk_mul, nI_add, nI_add, show 40 * r + i + 2 * q + 1 = 40 * r + (i + 2 * q + 1) by omega]) (by omega) ?_
        rw [hY q (by omega)]
        refine Rn.cs 60 rfl rfl rfl rfl m_in (by decide) ?_
        have z0 : decide (nI 0 ≤ Y q) = decide (0 ≤ Y q) := rfl
        rw [z0]
        cases e2 : decide (0 ≤ Y q) && decide (Y q ≤ nI 1) with
        | false =>
          rw [e2] at kf
          refine Rn.if1f 60 rfl rfl (by dsimp only [tm_c2P]; decide) ?_
          exact kf rfl _
        | true =>
          rw [e1, e2] at e
          have k2 := ih (q + 1) (by omega) e
          refine Rn.if1t 60 rfl rfl (by dsimp only [tm_c2P]; decide) ?_
          unfold opW at k2
          rw [nI_succ q] at k2
          exact Rn.at 2 rfl k2
  exact key n 0 (by omega) hA.symm
/-- what is held of a number of sets -/
def sbA (A : Nat) (q : Nat × Nat × Nat) : Prop := q.2.1 &&& A = q.2.1 ∧ q.2.2 &&& A = q.2.2
theorem sbA_Q {t : Nat → Bool} {A s : Nat} {q : Nat × Nat × Nat} (h : sbA A q) : sbA A (fsQ t s q) := by
  unfold fsQ
  split
  · refine ⟨?_, ?_⟩
    · show (q.2.1 &&& s) &&& A = q.2.1 &&& s
      rw [Nat.and_assoc, Nat.and_comm s A, ← Nat.and_assoc, h.1]
    · show (q.2.2 &&& (s ^^^ 4294967295)) &&& A = q.2.2 &&& (s ^^^ 4294967295)
      rw [Nat.and_assoc, Nat.and_comm (s ^^^ 4294967295) A, ← Nat.and_assoc, h.2]
  · exact h
/-- one set of gates, tried by the reference -/
theorem m_oneset {w : Wd} {c : Nat → Nat} {r i n k s A : Nat} {pr : Nat → Nat} {iv : Nat → Bool} {q : Nat × Nat × Nat} (hc : PlOk c) (h : MPl w c) (hr : r < 8) (hn : i + 2 * n ≤ 40) (hX : ∀ k, k < n → w (sg 16) (40 * r + (i + 2 * k)) = nI (pr k)) (hY : ∀ k, k < n → w (sg 16) (40 * r + (i + 2 * k + 1)) = bI (iv k)) (hp : ∀ k, k < n → pr k < 5) (hs : s ≤ A) (hA : A < 256) (hq : sbA A q) {x11 x12 x13 : Option AV} {r0 : Rs} (kk : ∀ x11 x12 x13, Rn none 19 jM_opened (171, opW (some (vI (nI A))) (some (vI (nI (fsQ (fun s => alN pr iv (bs (gl c s) (c 4)) n) s q).1))) (some (vI (nI (fsQ (fun s => alN pr iv (bs (gl c s) (c 4)) n) s q).2.1))) (some (vI (nI (fsQ (fun s => alN pr iv (bs (gl c s) (c 4)) n) s q).2.2))) (some (vI (nI (s + 1)))) x11 x12 x13 r i n k (40 * r + i), [], w) r0) : Rn none 19 jM_opened (171, opW (some (vI (nI A))) (some (vI (nI q.1))) (some (vI (nI q.2.1))) (some (vI (nI q.2.2))) (some (vI (nI s))) x11 x12 x13 r i n k (40 * r + i), [], w) r0 := by
  have hc4 := hc.2.2.1
  have hG : bs (gl c s) (c 4) < 32 := bs_lt hc4
  have key : ∀ m p, p + m = n → Rn none 19 jM_opened (192, opW (some (vI (nI A))) (some (vI (nI q.1))) (some (vI (nI q.2.1))) (some (vI (nI q.2.2))) (some (vI (nI s))) (some (vI (nI (bs (gl c s) (c 4))))) (some (vI (bI (alN pr iv (bs (gl c s) (c 4)) p)))) (some (vI (nI p))) r i n k (40 * r + i), [], w) r0 := by
    intro m
    induction m with
    | zero =>
      intro p hpn
      obtain rfl : p = n := by omega
      refine Rn.if2t 60 rfl rfl (nI_le (Nat.le_refl _) (by omega)) ?_
      have k1 := kk (some (vI (nI (bs (gl c s) (c 4))))) (some (vI (bI (alN pr iv (bs (gl c s) (c 4)) p)))) (some (vI (nI p)))
      cases e : alN pr iv (bs (gl c s) (c 4)) p with
      | true =>
        have eq1 : fsQ (fun s => alN pr iv (bs (gl c s) (c 4)) p) s q = (q.1 + 1, q.2.1 &&& s, q.2.2 &&& (s ^^^ 4294967295)) := if_pos e
        rw [eq1, e] at k1
        have ee : nI (q.2.2 &&& (s ^^^ 4294967295)) = (nI A &&& (nI s ^^^ -(nI 1))) &&& nI q.2.2 := by
          rw [m1_nI, nJ_xor, nJ_and, nJ_and, Nat.and_comm _ q.2.2, ← Nat.and_assoc, hq.2]
        have e2 : nI (q.2.1 &&& s) = nI q.2.1 &&& nI s := (nJ_and _ _).symm
        have e3 : nI (q.2.2 &&& (s ^^^ 4294967295)) = nI q.2.2 &&& (nI A &&& (nI s ^^^ -(nI 1))) := by
          rw [m1_nI, nJ_xor, nJ_and, nJ_and, ← Nat.and_assoc, hq.2]
        unfold opW at k1
        dsimp only at k1
        rw [e2, e3, ← nI_add q.1 1, nI_succ s] at k1
        refine Rn.if1f 60 rfl rfl (by dsimp only [tm_c2P]; decide) ?_
        refine Rn.if1f 60 rfl rfl (by dsimp only [tm_c2P]; decide) ?_
        refine Rn.if1f 60 rfl rfl (by dsimp only [tm_c2P]; decide) ?_
        exact Rn.at 10 rfl k1
      | false =>
        have eq1 : fsQ (fun s => alN pr iv (bs (gl c s) (c 4)) p) s q = q := if_neg (by show ¬ alN pr iv (bs (gl c s) (c 4)) p = true; rw [e]; decide)
        rw [eq1, e] at k1
        have e2 : nI q.2.1 = nI q.2.1 &&& nI A := by rw [nJ_and, hq.1]
        have e3 : nI q.2.2 = nI q.2.2 &&& nI A := by rw [nJ_and, hq.2]
        have e1 : nI q.1 = nI q.1 + nI 0 := by rw [nI_add, Nat.add_zero]
        unfold opW at k1
        rw [e1, e2, e3, nI_succ s] at k1
        refine Rn.if1t 60 rfl rfl (by dsimp only [tm_c2P]; decide) ?_
        refine Rn.if1t 60 rfl rfl (by dsimp only [tm_c2P]; decide) ?_
        refine Rn.if1t 60 rfl rfl (by dsimp only [tm_c2P]; decide) ?_
        exact Rn.at 5 rfl k1
    | succ m ih =>
      intro p hpn
      have k1 := ih (p + 1) (by omega)
      rw [show alN pr iv (bs (gl c s) (c 4)) (p + 1) = (alN pr iv (bs (gl c s) (c 4)) p && decide ((bs (gl c s) (c 4)).testBit (pr p) = iv p)) from rfl] at k1
      unfold opW at k1
      rw [nI_succ p] at k1
      refine Rn.if2f 60 rfl rfl (nI_ge (by omega) (by omega)) ?_
      cases e : alN pr iv (bs (gl c s) (c 4)) p with
      | false =>
        rw [e, Bool.false_and] at k1
        refine Rn.if1t 60 rfl rfl (by dsimp only [tm_c2P]; decide) ?_
        exact Rn.at 4 rfl k1
      | true =>
        rw [e, Bool.true_and] at k1
        refine Rn.if1f 60 rfl rfl (by dsimp only [tm_c2P]; decide) ?_
        refine Rn.al 60 (j := 40 * r + (i + 2 * p)) rfl rfl rfl (by dsimp only; rw [pk_mul, nI_add, Nat.add_assoc]) (by omega) ?_
        rw [hX p (by omega)]
        refine Rn.al 60 (j := 40 * r + (i + 2 * p + 1)) rfl rfl rfl (by dsimp only; rw [pk_mul, nI_add, nI_add, show 40 * r + i + 2 * p + 1 = 40 * r + (i + 2 * p + 1) by omega]) (by omega) ?_
        rw [hY p (by omega)]
        have p5 := hp p (by omega)
        by_cases eb : (bs (gl c s) (c 4)).testBit (pr p) = iv p
        · rw [decide_eq_true eb] at k1
          refine Rn.if2f 60 rfl rfl (by dsimp only [tm_c2P]; rw [nJ_bit (by omega) (by omega), eb]; exact fun z => z rfl) ?_
          exact Rn.at 5 rfl k1
        · rw [decide_eq_false eb] at k1
          refine Rn.if2t 60 rfl rfl (by dsimp only [tm_c2P]; rw [nJ_bit (by omega) (by omega), bI_inj]; exact eb) ?_
          exact Rn.at 4 rfl k1
  refine Rn.if2f 60 rfl rfl (nI_nlt hs (by omega)) ?_
  refine Rn.cv 60 rfl rfl rfl rfl rfl (m_gladBy hc h (show s < 256 by omega)) (by decide) ?_
  exact Rn.at 5 rfl (key n 0 (by omega))
