
def eN (c : Nat → Nat) (g : Nat) : Nat := 2 ^ c (8 + 2 * g) ||| 2 ^ c (9 + 2 * g)
def psN (c : Nat → Nat) (o : Nat) : Nat → Nat → Nat → Nat
  | 0, _, s => s
  | n + 1, g, s => psN c o n (g + 1) (bif o.testBit g && !decide (s &&& eN c g = 0) then s ||| eN c g else s)
def rcN (c : Nat → Nat) (o : Nat) : Nat → Nat → Nat
  | 0, s => s
  | n + 1, s => rcN c o n (psN c o (c 3) 0 s)
/-- a city's plan: what no dawn changes -/
def PlOk (c : Nat → Nat) : Prop := c 0 ≤ 6 ∧ c 3 ≤ 8 ∧ c 4 ≤ 5 ∧ (∀ g, g < c 3 → c (8 + 2 * g) < 6 ∧ c (9 + 2 * g) < 6)
def PlIs (w : Wd) (k : Fin 6) (c : Nat → Nat) : Prop := w (cit k 0) 0 = nI (c 0) ∧ w (cit k 0) 3 = nI (c 3) ∧ w (cit k 0) 4 = nI (c 4) ∧ ∀ g, g < c 3 → w (cit k 1) g = nI (c (8 + 2 * g)) ∧ w (cit k 2) g = nI (c (9 + 2 * g))
theorem eN_lt {c : Nat → Nat} (h : PlOk c) {g : Nat} (hg : g < c 3) : eN c g < 64 := Nat.or_lt_two_pow (n := 6) (Nat.pow_lt_pow_right (by decide) (h.2.2.2 g hg).1) (Nat.pow_lt_pow_right (by decide) (h.2.2.2 g hg).2)
theorem sp_isOpen {w : Wd} {k : Fin 6} {g o : Nat} (ho : w (cit k 0) 12 = nI o) (hg : g < 8) (h8 : o < 256) : Cl 1 jC_isOpen [vR (cit k 0), vI (nI g)] w (some (vI (bI (o.testBit g))), w) := by
  refine Cl.of rfl rfl rfl (lc := [some (vR (cit k 0)), some (vI (nI g))]) rfl ?_
  refine Rn.if2 60 rfl rfl (fun h => ?_) (fun h => ?_)
  · refine Rn.zr 60 rfl rfl rfl (by decide) ?_
    dsimp only [tm_c2P] at h
    rw [ho, nJ_bit (by omega) (by omega), bI_eq1] at h
    rw [Bool.eq_false_iff.mpr h]
    rfl
  · refine Rn.zr 60 rfl rfl rfl (by decide) ?_
    dsimp only [tm_c2P] at h
    rw [ho, nJ_bit (by omega) (by omega), bI_eq1, Classical.not_not] at h
    rw [h]
    rfl
theorem sp_endsOf {w : Wd} {k : Fin 6} {c : Nat → Nat} (hc : PlOk c) (hp : PlIs w k c) {g : Nat} (hg : g < c 3) : Cl 1 jC_endsOf [vR (cit k 0), vI (nI g)] w (some (vI (nI (eN c g))), w) := by
  obtain ⟨h1, h2⟩ := hp.2.2.2 g hg
  obtain ⟨h3, h4⟩ := hc.2.2.2 g hg
  have h8 := hc.2.1
  refine Cl.of rfl rfl rfl (lc := [some (vR (cit k 0)), some (vI (nI g))]) rfl ?_
  refine Rn.al 60 rfl rfl rfl rfl (by omega) ?_
  refine Rn.al 60 rfl rfl rfl rfl (by omega) ?_
  refine Rn.ir 60 rfl rfl rfl ?_
  dsimp only
  rw [h1, h2, nJ_1shl (by omega), nJ_1shl (by omega), nJ_or]
  rfl
theorem sp_reach_in {w : Wd} {k : Fin 6} {c : Nat → Nat} {o : Nat} {pl pa : Int32} {r : Rs} (hc : PlOk c) (hp : PlIs w k c) (ho : w (cit k 0) 12 = nI o) (h8 : o < 256) : ∀ n g s, g + n = c 3 → Rn none 1 jC_reachedFrom (61, [some (vR (cit k 0)), some (vI pl), some (vI (nI (psN c o n g s))), some (vI pa), some (vI (nI (c 3)))], [], w) r → Rn none 1 jC_reachedFrom (17, [some (vR (cit k 0)), some (vI pl), some (vI (nI s)), some (vI pa), some (vI (nI g))], [], w) r := by
  have hc3 := hc.2.1
  intro n
  induction n with
  | zero =>
    intro g s hg k1
    have e : g = c 3 := by omega
    subst e
    exact Rn.if2t 60 rfl rfl (by dsimp only [tm_c2P]; rw [hp.2.1]; exact nI_le (Nat.le_refl _) (by omega)) k1
  | succ n ih =>
    intro g s hg k1
    have hgl : g < c 3 := by omega
    have hel := eN_lt hc hgl
    have hnz : ∀ x : Nat, nI x &&& nI (eN c g) = 0 ↔ x &&& eN c g = 0 := fun x => by
      rw [nJ_and, nJ_eq0 (Nat.lt_of_lt_of_le (nJ_and_lt hel) (by decide))]
    refine Rn.if2f 60 rfl rfl (by dsimp only [tm_c2P]; rw [hp.2.1]; exact nI_ge hgl (by omega)) ?_
    refine Rn.cv 60 rfl rfl rfl rfl rfl (sp_isOpen ho (by omega) h8) (by decide) ?_
    have ih := ih (g + 1) (bif o.testBit g && !decide (s &&& eN c g = 0) then s ||| eN c g else s) (by omega) k1
    rw [nI_succ g] at ih
    refine Rn.if1 60 rfl rfl (fun h => ?_) (fun h => ?_)
    · dsimp only [tm_c2P] at h
      rw [bI_eq0] at h
      rw [h] at ih
      exact Rn.at 2 rfl ih
    · dsimp only [tm_c2P] at h
      rw [bI_eq0, Bool.not_eq_false] at h
      rw [h] at ih
      refine Rn.cv 60 rfl rfl rfl rfl rfl (sp_endsOf hc hp hgl) (by decide) ?_
      refine Rn.if1 60 rfl rfl (fun h => ?_) (fun h => ?_)
      · dsimp only [tm_c2P] at h
        rw [hnz] at h
        rw [h] at ih
        exact Rn.at 2 rfl ih
      · dsimp only [tm_c2P] at h
        rw [hnz] at h
        rw [decide_eq_false h] at ih
        refine Rn.cv 60 rfl rfl rfl rfl rfl (sp_endsOf hc hp hgl) (by decide) ?_
        rw [show (bif true && !false then s ||| eN c g else s) = s ||| eN c g from rfl, ← nJ_or] at ih
        exact Rn.at 4 rfl ih
theorem sp_reachedFrom {w : Wd} {k : Fin 6} {c : Nat → Nat} {o : Nat} (hc : PlOk c) (hp : PlIs w k c) (ho : w (cit k 0) 12 = nI o) (h8 : o < 256) {p : Nat} (hpl : p < 6) : Cl 2 jC_reachedFrom [vR (cit k 0), vI (nI p)] w (some (vI (nI (rcN c o (c 0 - 1) (2 ^ p)))), w) := by
  have hc0 := hc.1
  refine Cl.of rfl rfl rfl (lc := [some (vR (cit k 0)), some (vI (nI p)), none, none, none]) rfl ?_
  have key : ∀ n pa s x, 1 ≤ pa → (pa + n = c 0 ∨ (n = 0 ∧ c 0 ≤ pa)) → pa ≤ 6 → Rn none 1 jC_reachedFrom (6, [some (vR (cit k 0)), some (vI (nI p)), some (vI (nI s)), some (vI (nI pa)), x], [], w) (some (vI (nI (rcN c o n s))), w) := by
    intro n
    induction n with
    | zero =>
      intro pa s x h1 h2 h3
      refine Rn.if2t 60 rfl rfl (by dsimp only [tm_c2P]; rw [hp.1]; exact nI_le (by omega) (by omega)) ?_
      exact Rn.ir 60 rfl rfl rfl rfl
    | succ n ih =>
      intro pa s x h1 h2 h3
      have h4 : pa + n + 1 = c 0 := by omega
      refine Rn.if2f 60 rfl rfl (by dsimp only [tm_c2P]; rw [hp.1]; exact nI_ge (by omega) (by omega)) ?_
      refine Rn.at 2 rfl (sp_reach_in hc hp ho h8 (c 3) 0 s (by omega) ?_)
      have ih := ih (pa + 1) (psN c o (c 3) 0 s) (some (vI (nI (c 3)))) (by omega) (by omega) (by omega)
      rw [nI_succ] at ih
      exact Rn.at 2 rfl ih
  have k2 := key (c 0 - 1) 1 (2 ^ p) none (by omega) (by omega) (by omega)
  rw [← nJ_1shl (by omega)] at k2
  exact Rn.at 6 rfl k2
