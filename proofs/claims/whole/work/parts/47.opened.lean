/-! opened -/
def vlP (P : Nat) (x y : Int32) : Bool := (decide (0 ≤ x) && decide (x < nI P)) && (decide (0 ≤ y) && decide (y ≤ nI 1))
def apN (P : Nat) (X Y : Nat → Int32) : Nat → Nat → Bool
  | 0, _ => true
  | n + 1, k => vlP P (X k) (Y k) && apN P X Y n (k + 1)
theorem x_arePairs {w : Wd} {r : Fin 8} {P i n : Nat} {X Y : Nat → Int32} (h4 : w (cit 0 0) 4 = nI P) (hn : i + 2 * n ≤ 40) (hX : ∀ k, k < n → w (rw_ r 1) (i + 2 * k) = X k) (hY : ∀ k, k < n → w (rw_ r 1) (i + 2 * k + 1) = Y k) : Cl 2 jX_arePairs [vR (sg 0), vR (rw_ r 0), vI (nI i), vI (nI n)] w (some (vI (bI (apN P X Y n 0))), w) := by
  have key : ∀ m k x5, k + m = n → Rn none 1 jX_arePairs (3, [some (vR (sg 0)), some (vR (rw_ r 0)), some (vI (nI i)), some (vI (nI n)), some (vI (nI k)), x5], [], w) (some (vI (bI (apN P X Y m k))), w) := by
    intro m
    induction m with
    | zero =>
      intro k x5 hk
      obtain rfl : k = n := by omega
      refine Rn.if2t 60 rfl rfl (nI_le (Nat.le_refl _) (by omega)) ?_
      exact Rn.zr 60 rfl rfl rfl (by decide) rfl
    | succ m ih =>
      intro k x5 hk
      refine Rn.if2f 60 rfl rfl (nI_ge (by omega) (by omega)) ?_
      refine Rn.al 60 (j := i + 2 * k + 1) rfl rfl rfl (by dsimp only; rw [pk_mul, nI_add, nI_add]) (by omega) ?_
      rw [hY k (by omega)]
      refine Rn.al 60 (j := i + 2 * k) rfl rfl rfl (by dsimp only; rw [pk_mul, nI_add]) (by omega) ?_
      rw [hX k (by omega)]
      have hw := x_within (w := w) (x := X k) (y := nI P)
      rw [← h4] at hw
      refine Rn.cs 60 rfl rfl rfl rfl hw (by decide) ?_
      rw [h4]
      unfold apN vlP
      cases e : decide (0 ≤ X k) && decide (X k < nI P) with
      | false =>
        refine Rn.if1t 60 rfl rfl (by dsimp only [tm_c2P]; decide) ?_
        exact Rn.zr 60 rfl rfl rfl (by decide) rfl
      | true =>
        refine Rn.if1f 60 rfl rfl (by dsimp only [tm_c2P]; decide) ?_
        refine Rn.if1 60 rfl rfl (fun h => ?_) (fun h => ?_)
        · dsimp only [tm_c2P] at h
          rw [decide_eq_false (Int32.not_le.mpr h)]
          exact Rn.zr 60 rfl rfl rfl (by decide) rfl
        · dsimp only [tm_c2P] at h
          rw [decide_eq_true (Int32.not_lt.mp h)]
          have k2 := ih (k + 1) (some (vI (Y k))) (by omega)
          rw [nI_succ k] at k2
          refine Rn.if2 60 rfl rfl (fun h2 => ?_) (fun h2 => ?_)
          · dsimp only [tm_c2P] at h2
            rw [decide_eq_true h2]
            exact Rn.at 2 rfl k2
          · dsimp only [tm_c2P] at h2
            rw [decide_eq_false h2]
            exact Rn.zr 60 rfl rfl rfl (by decide) rfl
  refine Cl.of rfl rfl rfl (lc := [some (vR (sg 0)), some (vR (rw_ r 0)), some (vI (nI i)), some (vI (nI n)), none, none]) rfl ?_
  exact Rn.at 2 rfl (key n 0 none (by omega))
def ptN (pr : Nat → Nat) (iv : Nat → Bool) (b : Bool) : Nat → Nat
  | 0 => 0
  | n + 1 => if iv n = b then ptN pr iv b n ||| 2 ^ pr n else ptN pr iv b n
theorem ptN_lt {pr : Nat → Nat} {iv : Nat → Bool} {b : Bool} : ∀ n, (∀ k, k < n → pr k < 5) → ptN pr iv b n < 32
  | 0, _ => by show 0 < 32; decide
  | n + 1, h => by
    have ih := ptN_lt (pr := pr) (iv := iv) (b := b) n (fun k hk => h k (by omega))
    unfold ptN
    split
    · exact Nat.or_lt_two_pow (n := 5) ih (Nat.pow_lt_pow_right (by decide) (h n (by omega)))
    · exact ih
theorem ptN_bit {pr : Nat → Nat} {iv : Nat → Bool} {b : Bool} : ∀ n j, (ptN pr iv b n).testBit j = true ↔ ∃ k, k < n ∧ iv k = b ∧ pr k = j
  | 0, j => by
    unfold ptN
    rw [Nat.zero_testBit]
    exact ⟨fun z => (by cases z), fun ⟨k, h, _⟩ => absurd h (by omega)⟩
  | n + 1, j => by
    unfold ptN
    split
    · next h =>
      rw [Nat.testBit_or, Bool.or_eq_true, ptN_bit n j]
      constructor
      · rintro (⟨k, h1, h2⟩ | h1)
        · exact ⟨k, by omega, h2⟩
        · exact ⟨n, by omega, h, by
            apply Classical.byContradiction
            intro z
            rw [Nat.testBit_two_pow_of_ne z] at h1
            cases h1⟩
      · rintro ⟨k, h1, h2, h3⟩
        by_cases e : k = n
        · subst e
          subst h3
          exact Or.inr Nat.testBit_two_pow_self
        · exact Or.inl ⟨k, by omega, h2, h3⟩
    · next h =>
      rw [ptN_bit n j]
      constructor
      · rintro ⟨k, h1, h2⟩
        exact ⟨k, by omega, h2⟩
      · rintro ⟨k, h1, h2, h3⟩
        exact ⟨k, by
          by_cases e : k = n
          · subst e
            exact absurd h2 h
          · omega, h2, h3⟩
theorem x_peopleTold {w : Wd} {r : Fin 8} {i n : Nat} {pr : Nat → Nat} {iv : Nat → Bool} (b : Bool) (hn : i + 2 * n ≤ 40) (hX : ∀ k, k < n → w (rw_ r 1) (i + 2 * k) = nI (pr k)) (hY : ∀ k, k < n → w (rw_ r 1) (i + 2 * k + 1) = bI (iv k)) (hp : ∀ k, k < n → pr k < 5) : Cl 1 jX_peopleTold [vR (rw_ r 0), vI (nI i), vI (nI n), vI (bI b)] w (some (vI (nI (ptN pr iv b n))), w) := by
  have key : ∀ m k, k + m = n → Rn none 0 jX_peopleTold (6, [some (vR (rw_ r 0)), some (vI (nI i)), some (vI (nI n)), some (vI (bI b)), some (vI (nI (ptN pr iv b k))), some (vI (nI k))], [], w) (some (vI (nI (ptN pr iv b n))), w) := by
    intro m
    induction m with
    | zero =>
      intro k hk
      obtain rfl : k = n := by omega
      refine Rn.if2t 60 rfl rfl (nI_le (Nat.le_refl _) (by omega)) ?_
      exact Rn.ir 60 rfl rfl rfl rfl
    | succ m ih =>
      intro k hk
      have k2 := ih (k + 1) (by omega)
      rw [nI_succ k] at k2
      refine Rn.if2f 60 rfl rfl (nI_ge (by omega) (by omega)) ?_
      refine Rn.al 60 (j := i + 2 * k + 1) rfl rfl rfl (by dsimp only; rw [pk_mul, nI_add, nI_add]) (by omega) ?_
      rw [hY k (by omega)]
      rw [show ptN pr iv b (k + 1) = if iv k = b then ptN pr iv b k ||| 2 ^ pr k else ptN pr iv b k from rfl] at k2
      by_cases e : iv k = b
      · rw [if_pos e, ← nJ_or, ← nJ_1shl (show pr k < 32 by have := hp k (by omega); omega)] at k2
        refine Rn.if2f 60 rfl rfl (by dsimp only [tm_c2P]; rw [e]; exact fun z => z rfl) ?_
        refine Rn.al 60 (j := i + 2 * k) rfl rfl rfl (by dsimp only; rw [pk_mul, nI_add]) (by omega) ?_
        rw [hX k (by omega)]
        exact Rn.at 5 rfl k2
      · rw [if_neg e] at k2
        refine Rn.if2t 60 rfl rfl (by dsimp only [tm_c2P]; rw [bI_inj]; exact e) ?_
        exact Rn.at 2 rfl k2
  refine Cl.of rfl rfl rfl (lc := [some (vR (rw_ r 0)), some (vI (nI i)), some (vI (nI n)), some (vI (bI b)), none, none]) rfl ?_
  exact Rn.at 4 rfl (key n 0 (by omega))
def alN (pr : Nat → Nat) (iv : Nat → Bool) (s : Nat) : Nat → Bool
  | 0 => true
  | n + 1 => alN pr iv s n && decide (s.testBit (pr n) = iv n)
theorem alN_iff {pr : Nat → Nat} {iv : Nat → Bool} {s : Nat} : ∀ n, alN pr iv s n = true ↔ ∀ k, k < n → s.testBit (pr k) = iv k
  | 0 => ⟨fun _ k hk => absurd hk (by omega), fun _ => rfl⟩
  | n + 1 => by
    unfold alN
    rw [Bool.and_eq_true, alN_iff n, decide_eq_true_eq]
    constructor
    · rintro ⟨h1, h2⟩ k hk
      by_cases e : k = n
      · subst e
        exact h2
      · exact h1 k (by omega)
    · intro h
      exact ⟨fun k hk => h k (by omega), h n (by omega)⟩
theorem fsT_al {c : Nat → Nat} {pr : Nat → Nat} {iv : Nat → Bool} {n s : Nat} : fsT c (ptN pr iv true n) (ptN pr iv false n) s = alN pr iv (bs (gl c s) (c 4)) n := by
  rw [Bool.eq_iff_iff, alN_iff]
  unfold fsT
  generalize bs (gl c s) (c 4) = G
  rw [Bool.and_eq_true, decide_eq_true_eq, decide_eq_true_eq]
  constructor
  · rintro ⟨h1, h2⟩ k hk
    cases e : iv k with
    | true =>
      have hb := (ptN_bit (pr := pr) (iv := iv) (b := true) n (pr k)).mpr ⟨k, hk, e, rfl⟩
      rw [← h1, Nat.testBit_and, Bool.and_eq_true] at hb
      exact hb.1
    | false =>
      have hb := (ptN_bit (pr := pr) (iv := iv) (b := false) n (pr k)).mpr ⟨k, hk, e, rfl⟩
      have h3 : (G &&& ptN pr iv false n).testBit (pr k) = false := by rw [h2]; exact Nat.zero_testBit _
      rw [Nat.testBit_and, hb, Bool.and_true] at h3
      exact h3
  · intro h
    constructor
    · apply Nat.eq_of_testBit_eq
      intro j
      rw [Nat.testBit_and]
      cases e : (ptN pr iv true n).testBit j with
      | false => rw [Bool.and_false]
      | true =>
        obtain ⟨k, h1, h2, h3⟩ := (ptN_bit n j).mp e
        rw [Bool.and_true, ← h3, h k h1, h2]
    · apply Nat.eq_of_testBit_eq
      intro j
      rw [Nat.testBit_and, Nat.zero_testBit]
      cases e : (ptN pr iv false n).testBit j with
      | false => rw [Bool.and_false]
      | true =>
        obtain ⟨k, h1, h2, h3⟩ := (ptN_bit n j).mp e
        rw [Bool.and_true, ← h3, h k h1, h2]
def saS (q : Nat × Nat × Nat) (k : Nat) : Int32 := if k = 0 then nI q.1 else if q.1 = 0 then -(nI 1000000) else if k = 1 then nI q.2.1 else nI q.2.2
theorem x_setsAnswer {w : Wd} {q : Nat × Nat × Nat} {k : Nat} (h : FsIs w q) (hq : q.1 < 2 ^ 31) (hk : k < 3) : Cl 1 jX_setsAnswer [vR (sg 0), vI (nI k)] w (some (vI (saS q k)), w) := by
  obtain ⟨h1, h2, h3⟩ := h
  refine Cl.of rfl rfl rfl (lc := [some (vR (sg 0)), some (vI (nI k))]) rfl ?_
  unfold saS
  by_cases e0 : k = 0
  · rw [if_pos e0]
    refine Rn.if1f 60 rfl rfl (by dsimp only [tm_c2P]; rw [e0]; decide) ?_
    rw [← h1]
    exact Rn.ir 60 rfl rfl rfl rfl
  · rw [if_neg e0]
    refine Rn.if1t 60 rfl rfl (nI_ne0 (by omega) (by omega)) ?_
    by_cases e1 : q.1 = 0
    · rw [if_pos e1]
      refine Rn.if1f 60 rfl rfl (by dsimp only [tm_c2P]; rw [h1, e1]; decide) ?_
      exact Rn.ir 60 rfl rfl rfl rfl
    · rw [if_neg e1]
      refine Rn.if1t 60 rfl rfl (by dsimp only [tm_c2P]; rw [h1]; exact nI_ne0 (by omega) hq) ?_
      by_cases e2 : k = 1
      · rw [if_pos e2]
        refine Rn.if2f 60 rfl rfl (by dsimp only [tm_c2P]; rw [e2]; exact fun z => z rfl) ?_
        rw [← h2]
        exact Rn.ir 60 rfl rfl rfl rfl
      · rw [if_neg e2]
        refine Rn.if2t 60 rfl rfl (by dsimp only [tm_c2P]; rw [nI_eq (by omega) (by decide)]; exact e2) ?_
        rw [← h3]
        exact Rn.ir 60 rfl rfl rfl rfl
