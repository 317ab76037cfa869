/-! the reference's town: what is reached, steps, walled in, glad -/
def MPl (w : Wd) (c : Nat → Nat) : Prop := w (sg 13) 5 = nI 0 ∧ w (sg 17) 0 = nI (c 0) ∧ w (sg 17) 3 = nI (c 3) ∧ w (sg 17) 4 = nI (c 4) ∧ (∀ g, g < c 3 → w (sg 17) (8 + 2 * g) = nI (c (8 + 2 * g)) ∧ w (sg 17) (9 + 2 * g) = nI (c (9 + 2 * g))) ∧ ∀ p, p < c 4 → w (sg 17) (24 + 5 * p) = nI (so c p) ∧ w (sg 17) (25 + 5 * p) = nI (ho c p) ∧ w (sg 17) (26 + 5 * p) = nI (er c p) ∧ w (sg 17) (28 + 5 * p) = nI (we c p)
theorem MPl.fr {w w' : Wd} {c : Nat → Nat} (h : MPl w c) (e5 : w' (sg 13) 5 = w (sg 13) 5) (e17 : w' (sg 17) = w (sg 17)) : MPl w' c := by
  unfold MPl
  rw [e5, e17]
  exact h
theorem m_get {w : Wd} {x v : Int32} {k : Nat} (hb : w (sg 13) 5 = nI 0) (hx : x = nI k) (hk : k < 196) (hv : w (sg 17) k = v) : Cl 1 jM_get [vR (sg 13), vI x] w (some (vI v), w) := by
  subst hx
  refine Cl.of rfl rfl rfl (lc := [some (vR (sg 13)), some (vI (nI k))]) rfl ?_
  refine Rn.al 60 (j := k) rfl rfl rfl (by dsimp only; rw [hb, nI_add, Nat.zero_add]) hk ?_
  rw [hv]
  exact Rn.ir 60 rfl rfl rfl rfl
theorem m_gA {w : Wd} {c : Nat → Nat} {g : Nat} (hc : PlOk c) (h : MPl w c) (hg : g < c 3) : Cl 1 jM_get [vR (sg 13), vI (nI 8 + nI 2 * nI g)] w (some (vI (nI (c (8 + 2 * g)))), w) := m_get h.1 (by rw [pk_mul, nI_add]) (by have := hc.2.1; omega) (h.2.2.2.2.1 g hg).1
theorem m_gB {w : Wd} {c : Nat → Nat} {g : Nat} (hc : PlOk c) (h : MPl w c) (hg : g < c 3) : Cl 1 jM_get [vR (sg 13), vI (nI 8 + nI 2 * nI g + nI 1)] w (some (vI (nI (c (9 + 2 * g)))), w) := m_get (k := 9 + 2 * g) h.1 (by rw [pk_mul, nI_add, nI_add, show 8 + 2 * g + 1 = 9 + 2 * g by omega]) (by have := hc.2.1; omega) (h.2.2.2.2.1 g hg).2
theorem m_pers {w : Wd} {p k : Nat} {v : Int32} (hb : w (sg 13) 5 = nI 0) (hk : 24 + 5 * p + k < 196) (hv : w (sg 17) (24 + 5 * p + k) = v) : Cl 2 jM_personal [vR (sg 13), vI (nI p), vI (nI k)] w (some (vI v), w) := by
  refine Cl.of rfl rfl rfl (lc := [some (vR (sg 13)), some (vI (nI p)), some (vI (nI k))]) rfl ?_
  refine Rn.cv 60 rfl rfl rfl rfl rfl (m_get (k := 24 + 5 * p + k) hb (by dsimp only; rw [pk_mul, nI_add, nI_add]) hk hv) (by decide) ?_
  exact Rn.ir 60 rfl rfl rfl rfl
theorem m_so {w : Wd} {c : Nat → Nat} {p : Nat} (hc : PlOk c) (h : MPl w c) (hp : p < c 4) : Cl 2 jM_personal [vR (sg 13), vI (nI p), vI (nI 0)] w (some (vI (nI (so c p))), w) := m_pers h.1 (by have := hc.2.2.1; omega) (h.2.2.2.2.2 p hp).1
theorem m_ho {w : Wd} {c : Nat → Nat} {p : Nat} (hc : PlOk c) (h : MPl w c) (hp : p < c 4) : Cl 2 jM_personal [vR (sg 13), vI (nI p), vI (nI 1)] w (some (vI (nI (ho c p))), w) := m_pers h.1 (by have := hc.2.2.1; omega) (by rw [show 24 + 5 * p + 1 = 25 + 5 * p by omega]; exact (h.2.2.2.2.2 p hp).2.1)
theorem m_er {w : Wd} {c : Nat → Nat} {p : Nat} (hc : PlOk c) (h : MPl w c) (hp : p < c 4) : Cl 2 jM_personal [vR (sg 13), vI (nI p), vI (nI 2)] w (some (vI (nI (er c p))), w) := m_pers h.1 (by have := hc.2.2.1; omega) (by rw [show 24 + 5 * p + 2 = 26 + 5 * p by omega]; exact (h.2.2.2.2.2 p hp).2.2.1)
theorem m_we {w : Wd} {c : Nat → Nat} {p : Nat} (hc : PlOk c) (h : MPl w c) (hp : p < c 4) : Cl 2 jM_personal [vR (sg 13), vI (nI p), vI (nI 4)] w (some (vI (nI (we c p))), w) := m_pers h.1 (by have := hc.2.2.1; omega) (by rw [show 24 + 5 * p + 4 = 28 + 5 * p by omega]; exact (h.2.2.2.2.2 p hp).2.2.2)
theorem m_G {w : Wd} {c : Nat → Nat} (h : MPl w c) : Cl 1 jM_get [vR (sg 13), vI (nI 3)] w (some (vI (nI (c 3))), w) := m_get h.1 rfl (by decide) h.2.2.1
theorem m_P {w : Wd} {c : Nat → Nat} (h : MPl w c) : Cl 1 jM_get [vR (sg 13), vI (nI 4)] w (some (vI (nI (c 4))), w) := m_get h.1 rfl (by decide) h.2.2.2.1
theorem m_Q {w : Wd} {c : Nat → Nat} (h : MPl w c) : Cl 1 jM_get [vR (sg 13), vI (nI 0)] w (some (vI (nI (c 0))), w) := m_get h.1 rfl (by decide) h.2.1
theorem m_ends {c : Nat → Nat} (hc : PlOk c) {g : Nat} (hg : g < c 3) : nI 1 <<< (nI (c (8 + 2 * g)) &&& 31) ||| nI 1 <<< (nI (c (9 + 2 * g)) &&& 31) = nI (eN c g) := by
  obtain ⟨a1, a2⟩ := hc.2.2.2.1 g hg
  have h0 := hc.1
  rw [nJ_1shl (by omega), nJ_1shl (by omega), nJ_or]
  rfl
theorem m_isGate {w : Wd} {c : Nat → Nat} (hc : PlOk c) (h : MPl w c) {x : Int32} : Cl 2 jM_isGate [vR (sg 13), vI x] w (some (vI (bI (decide (nI 0 ≤ x) && decide (x ≤ nI (c 3) - nI 1)))), w) := by
  refine Cl.of rfl rfl rfl (lc := [some (vR (sg 13)), some (vI x)]) rfl ?_
  refine Rn.cv 60 rfl rfl rfl rfl rfl (m_G h) (by decide) ?_
  refine Rn.cs 60 rfl rfl rfl rfl m_in (by decide) ?_
  exact Rn.zr 60 rfl rfl rfl (by cases (decide (nI 0 ≤ x) && decide (x ≤ nI (c 3) - nI 1)) <;> decide) rfl
theorem m_isPerson {w : Wd} {c : Nat → Nat} (hc : PlOk c) (h : MPl w c) {x : Int32} : Cl 2 jM_isPerson [vR (sg 13), vI x] w (some (vI (bI (decide (nI 0 ≤ x) && decide (x ≤ nI (c 4) - nI 1)))), w) := by
  refine Cl.of rfl rfl rfl (lc := [some (vR (sg 13)), some (vI x)]) rfl ?_
  refine Rn.cv 60 rfl rfl rfl rfl rfl (m_P h) (by decide) ?_
  refine Rn.cs 60 rfl rfl rfl rfl m_in (by decide) ?_
  exact Rn.zr 60 rfl rfl rfl (by cases (decide (nI 0 ≤ x) && decide (x ≤ nI (c 4) - nI 1)) <;> decide) rfl
theorem in_yes {j n : Nat} (hn : n < 2 ^ 31) (h : j < n) : (decide (nI 0 ≤ nI j) && decide (nI j ≤ nI n - nI 1)) = true := by
  rw [pk_sub (by omega), decide_eq_true (show nI 0 ≤ nI j from nI_pos' (by omega)), decide_eq_true (nI_le (show j ≤ n - 1 by omega) (by omega))]
  rfl
theorem in_no {x : Int32} {n : Nat} (hn : n < 2 ^ 31) (h : x < 0 ∨ nI n ≤ x) : (decide (nI 0 ≤ x) && decide (x ≤ nI n - nI 1)) = false := by
  rcases h with h | h
  · rw [decide_eq_false (show ¬ nI 0 ≤ x from Int32.not_le.mpr h), Bool.false_and]
  · rcases Nat.eq_zero_or_pos n with h0 | h0
    · subst h0
      rw [decide_eq_false (show ¬ x ≤ nI 0 - nI 1 from fun z => absurd (Int32.le_trans h z) (by decide)), Bool.and_false]
    · rw [pk_sub (by omega), decide_eq_false (show ¬ x ≤ nI (n - 1) from Int32.not_le.mpr (nI_lt1 (by omega) (by rw [show n - 1 + 1 = n by omega]; exact h))), Bool.and_false]
theorem m_reachBy {w : Wd} {c : Nat → Nat} {o q : Nat} (hc : PlOk c) (h : MPl w c) (h8 : o < 256) (hq : q < c 0) : Cl 2 jM_reachBy [vR (sg 13), vI (nI q), vI (nI o)] w (some (vI (nI (rc c o q))), w) := by
  have hc3 := hc.2.1
  have hc0 := hc.1
  have inner : ∀ n g s i x6, g + n = c 3 → ∃ x6', ∀ r, Rn none 1 jM_reachBy (90, [some (vR (sg 13)), some (vI (nI q)), some (vI (nI o)), some (vI (nI (psN c o n g s))), some (vI (nI i)), some (vI (nI (c 3))), x6'], [], w) r → Rn none 1 jM_reachBy (17, [some (vR (sg 13)), some (vI (nI q)), some (vI (nI o)), some (vI (nI s)), some (vI (nI i)), some (vI (nI g)), x6], [], w) r := by
    intro n
    induction n with
    | zero =>
      intro g s i x6 hg
      obtain rfl : g = c 3 := by omega
      refine ⟨x6, fun r k => ?_⟩
      refine Rn.cv 60 rfl rfl rfl rfl rfl (m_G h) (by decide) ?_
      exact Rn.if2t 60 rfl rfl (nI_le (Nat.le_refl _) (by omega)) k
    | succ n ih =>
      intro g s i x6 hg
      have hgl : g < c 3 := by omega
      obtain ⟨x6', ih⟩ := ih (g + 1) (bif o.testBit g && tch c s g then s ||| eN c g else s) i (some (vI (nI (eN c g)))) (by omega)
      refine ⟨x6', fun r k => ?_⟩
      have k1 := ih r (by unfold psN at k; exact k)
      rw [nI_succ g] at k1
      refine Rn.cv 60 rfl rfl rfl rfl rfl (m_G h) (by decide) ?_
      refine Rn.if2f 60 rfl rfl (nI_ge hgl (by omega)) ?_
      refine Rn.cv 60 rfl rfl rfl rfl rfl (m_gA hc h hgl) (by decide) ?_
      refine Rn.cv 60 rfl rfl rfl rfl rfl (m_gB hc h hgl) (by decide) ?_
      refine Rn.at 3 (x := (58, [some (vR (sg 13)), some (vI (nI q)), some (vI (nI o)), some (vI (nI s)), some (vI (nI i)), some (vI (nI g)), some (vI (nI (eN c g)))], [], w)) (by rw [← m_ends hc hgl]; rfl) ?_
      have no : (o.testBit g && tch c s g) = false → Rn none 1 jM_reachBy (81, [some (vR (sg 13)), some (vI (nI q)), some (vI (nI o)), some (vI (nI s)), some (vI (nI i)), some (vI (nI g)), some (vI (nI (eN c g)))], [vI (nI s)], w) r := by
        intro e
        rw [e, cond_false, ← Nat.or_zero s, ← nJ_or] at k1
        exact Rn.at 5 rfl k1
      cases ho : o.testBit g with
      | false =>
        refine Rn.if2t 60 rfl rfl (by dsimp only [tm_c2P]; rw [nJ_bit (by omega) (by omega), bI_eq1, ho]; exact fun z => by cases z) ?_
        exact no (by rw [ho, Bool.false_and])
      | true =>
        refine Rn.if2f 60 rfl rfl (by dsimp only [tm_c2P]; rw [nJ_bit (by omega) (by omega), bI_eq1, ho]; exact fun z => z rfl) ?_
        cases ht : tch c s g with
        | false =>
          refine Rn.if1t 60 rfl rfl ((tch_nI hc hgl s).mpr ht) ?_
          exact no (by rw [ht, Bool.and_false])
        | true =>
          refine Rn.if1f 60 rfl rfl (by dsimp only [tm_c2P]; rw [tch_nI hc hgl s, ht]; exact fun z => by cases z) ?_
          rw [ho, ht, Bool.and_self, cond_true, ← nJ_or] at k1
          exact Rn.at 6 rfl k1
  have outer : ∀ n i s x5 x6, i + n = 6 → Rn none 1 jM_reachBy (7, [some (vR (sg 13)), some (vI (nI q)), some (vI (nI o)), some (vI (nI s)), some (vI (nI i)), x5, x6], [], w) (some (vI (nI (rcN c o n s))), w) := by
    intro n
    induction n with
    | zero =>
      intro i s x5 x6 hi
      obtain rfl : i = 6 := by omega
      refine Rn.if2t 60 rfl rfl (by dsimp only [tm_c2P]; decide) ?_
      exact Rn.ir 60 rfl rfl rfl rfl
    | succ n ih =>
      intro i s x5 x6 hi
      obtain ⟨x6', k⟩ := inner (c 3) 0 s i x6 (by omega)
      refine Rn.if2f 60 rfl rfl (nI_ge (by omega) (by omega)) ?_
      refine Rn.at 2 rfl (k _ ?_)
      have k2 := ih (i + 1) (psN c o (c 3) 0 s) (some (vI (nI (c 3)))) x6' (by omega)
      rw [nI_succ i] at k2
      unfold rcN
      exact Rn.at 2 rfl k2
  refine Cl.of rfl rfl rfl (lc := [some (vR (sg 13)), some (vI (nI q)), some (vI (nI o)), none, none, none, none]) rfl ?_
  have k := outer 6 0 (2 ^ q) none none (by omega)
  rw [← nJ_1shl (by omega)] at k
  exact Rn.at 6 rfl k
theorem stT_none {c : Nat → Nat} {o s g : Nat} : ∀ k, (∀ j, j < k → tch c (lvs c o s j) g = false) → stT c o s g k = 100
  | 0, _ => rfl
  | k + 1, h => by
    unfold stT
    rw [h k (by omega), cond_false]
    exact stT_none k (fun j hj => h j (by omega))
theorem stT_first {c : Nat → Nat} {o s g n : Nat} (h : ∀ j, j < n → tch c (lvs c o s j) g = false) (ht : tch c (lvs c o s n) g = true) (hn : n ≤ 100) : ∀ k, stT c o s g (n + 1 + k) = n
  | 0 => by
    show stT c o s g (n + 1) = n
    unfold stT
    rw [ht, cond_true, stT_none n h]
    omega
  | k + 1 => by
    show stT c o s g ((n + 1 + k) + 1) = n
    unfold stT
    rw [stT_first h ht hn k]
    cases tch c (lvs c o s (n + 1 + k)) g
    · rfl
    · show min n (n + 1 + k) = n
      omega
/-- steps as told: none is the number for none -/
def sI (s : Nat) : Int32 := if s = 100 then -(nI 1000000) else nI s
theorem m_stepsBy {w : Wd} {c : Nat → Nat} {o q g : Nat} (hc : PlOk c) (h : MPl w c) (h8 : o < 256) (hq : q < c 0) (hg : g < c 3) : Cl 2 jM_stepsBy [vR (sg 13), vI (nI q), vI (nI g), vI (nI o)] w (some (vI (sI (stT c o (2 ^ q) g 6))), w) := by
  have hc3 := hc.2.1
  have hc0 := hc.1
  have inner : ∀ n i m j s x9, i + n = c 3 → ∃ x9', ∀ r, Rn none 1 jM_stepsBy (138, [some (vR (sg 13)), some (vI (nI q)), some (vI (nI g)), some (vI (nI o)), some (vI (nI (eN c g))), some (vI (nI s)), some (vI (nI j)), some (vI (nI (lvN c o s n i m))), some (vI (nI (c 3))), x9'], [], w) r → Rn none 1 jM_stepsBy (62, [some (vR (sg 13)), some (vI (nI q)), some (vI (nI g)), some (vI (nI o)), some (vI (nI (eN c g))), some (vI (nI s)), some (vI (nI j)), some (vI (nI m)), some (vI (nI i)), x9], [], w) r := by
    intro n
    induction n with
    | zero =>
      intro i m j s x9 hi
      obtain rfl : i = c 3 := by omega
      refine ⟨x9, fun r k => ?_⟩
      refine Rn.cv 60 rfl rfl rfl rfl rfl (m_G h) (by decide) ?_
      exact Rn.if2t 60 rfl rfl (nI_le (Nat.le_refl _) (by omega)) k
    | succ n ih =>
      intro i m j s x9 hi
      have hil : i < c 3 := by omega
      obtain ⟨x9', ih⟩ := ih (i + 1) (bif o.testBit i && tch c s i then m ||| eN c i else m) j s (some (vI (nI (eN c i)))) (by omega)
      refine ⟨x9', fun r k => ?_⟩
      have k1 := ih r (by unfold lvN at k; exact k)
      rw [nI_succ i] at k1
      refine Rn.cv 60 rfl rfl rfl rfl rfl (m_G h) (by decide) ?_
      refine Rn.if2f 60 rfl rfl (nI_ge hil (by omega)) ?_
      refine Rn.cv 60 rfl rfl rfl rfl rfl (m_gA hc h hil) (by decide) ?_
      refine Rn.cv 60 rfl rfl rfl rfl rfl (m_gB hc h hil) (by decide) ?_
      refine Rn.at 3 (x := (103, [some (vR (sg 13)), some (vI (nI q)), some (vI (nI g)), some (vI (nI o)), some (vI (nI (eN c g))), some (vI (nI s)), some (vI (nI j)), some (vI (nI m)), some (vI (nI i)), some (vI (nI (eN c i)))], [], w)) (by rw [← m_ends hc hil]; rfl) ?_
      have no : (o.testBit i && tch c s i) = false → Rn none 1 jM_stepsBy (128, [some (vR (sg 13)), some (vI (nI q)), some (vI (nI g)), some (vI (nI o)), some (vI (nI (eN c g))), some (vI (nI s)), some (vI (nI j)), some (vI (nI m)), some (vI (nI i)), some (vI (nI (eN c i)))], [vI (nI m)], w) r := by
        intro e
        rw [e, cond_false, ← Nat.or_zero m, ← nJ_or] at k1
        exact Rn.at 5 rfl k1
      cases ho : o.testBit i with
      | false =>
        refine Rn.if2t 60 rfl rfl (by dsimp only [tm_c2P]; rw [nJ_bit (by omega) (by omega), bI_eq1, ho]; exact fun z => by cases z) ?_
        exact no (by rw [ho, Bool.false_and])
      | true =>
        refine Rn.if2f 60 rfl rfl (by dsimp only [tm_c2P]; rw [nJ_bit (by omega) (by omega), bI_eq1, ho]; exact fun z => z rfl) ?_
        cases ht : tch c s i with
        | false =>
          refine Rn.if1t 60 rfl rfl ((tch_nI hc hil s).mpr ht) ?_
          exact no (by rw [ht, Bool.and_false])
        | true =>
          refine Rn.if1f 60 rfl rfl (by dsimp only [tm_c2P]; rw [tch_nI hc hil s, ht]; exact fun z => by cases z) ?_
          rw [ho, ht, Bool.and_self, cond_true, ← nJ_or] at k1
          exact Rn.at 6 rfl k1
  have outer : ∀ n j x7 x8 x9, j + n = 6 → (∀ i, i < j → tch c (lvs c o (2 ^ q) i) g = false) → Rn none 1 jM_stepsBy (37, [some (vR (sg 13)), some (vI (nI q)), some (vI (nI g)), some (vI (nI o)), some (vI (nI (eN c g))), some (vI (nI (lvs c o (2 ^ q) j))), some (vI (nI j)), x7, x8, x9], [], w) (some (vI (sI (stT c o (2 ^ q) g 6))), w) := by
    intro n
    induction n with
    | zero =>
      intro j x7 x8 x9 hj hno
      obtain rfl : j = 6 := by omega
      refine Rn.if2t 60 rfl rfl (by dsimp only [tm_c2P]; decide) ?_
      rw [stT_none 6 hno]
      exact Rn.ir 60 rfl rfl rfl rfl
    | succ n ih =>
      intro j x7 x8 x9 hj hno
      refine Rn.if2f 60 rfl rfl (nI_ge (by omega) (by omega)) ?_
      cases ht : tch c (lvs c o (2 ^ q) j) g with
      | true =>
        refine Rn.if1f 60 rfl rfl (by dsimp only [tm_c2P]; rw [tch_nI hc hg _, ht]; exact fun z => by cases z) ?_
        have e := stT_first hno ht (by omega) (5 - j)
        rw [show j + 1 + (5 - j) = 6 by omega] at e
        rw [e]
        refine Rn.ir 60 rfl rfl rfl ?_
        unfold sI
        rw [if_neg (by omega)]
      | false =>
        refine Rn.if1t 60 rfl rfl ((tch_nI hc hg _).mpr ht) ?_
        obtain ⟨x9', k⟩ := inner (c 3) 0 (lvs c o (2 ^ q) j) j (lvs c o (2 ^ q) j) x9 (by omega)
        refine Rn.at 4 rfl (k _ ?_)
        have k2 := ih (j + 1) (some (vI (nI (lvs c o (2 ^ q) (j + 1))))) (some (vI (nI (c 3)))) x9' (by omega) (fun i hi => by
          by_cases e : i = j
          · subst e
            exact ht
          · exact hno i (by omega))
        rw [nI_succ j] at k2
        exact Rn.at 4 rfl k2
  refine Cl.of rfl rfl rfl (lc := [some (vR (sg 13)), some (vI (nI q)), some (vI (nI g)), some (vI (nI o)), none, none, none, none, none, none]) rfl ?_
  refine Rn.cv 60 rfl rfl rfl rfl rfl (m_gA hc h hg) (by decide) ?_
  refine Rn.cv 60 rfl rfl rfl rfl rfl (m_gB hc h hg) (by decide) ?_
  refine Rn.at 3 (x := (29, [some (vR (sg 13)), some (vI (nI q)), some (vI (nI g)), some (vI (nI o)), some (vI (nI (eN c g))), none, none, none, none, none], [], w)) (by rw [← m_ends hc hg]; rfl) ?_
  have k := outer 6 0 none none none (by omega) (fun i hi => absurd hi (by omega))
  rw [show lvs c o (2 ^ q) 0 = 2 ^ q from rfl, ← nJ_1shl (by omega)] at k
  exact Rn.at 6 rfl k
