/-! THE CLASS'S CITY: k names which of the six; each method by what it answers and changes -/
def PlIs (w : Wd) (k : Fin 6) (c : Nat → Nat) : Prop := w (cit k 0) 0 = nI (c 0) ∧ w (cit k 0) 3 = nI (c 3) ∧ w (cit k 0) 4 = nI (c 4) ∧ (∀ g, g < c 3 → w (cit k 1) g = nI (c (8 + 2 * g)) ∧ w (cit k 2) g = nI (c (9 + 2 * g))) ∧ ∀ p, p < c 4 → w (cit k 3) p = nI (so c p) ∧ w (cit k 4) p = nI (ho c p) ∧ w (cit k 5) p = nI (er c p) ∧ w (cit k 6) p = nI (we c p)
def Tab (w : Wd) (k : Fin 6) (c : Nat → Nat) (o : Nat) : Prop := ∀ p, p < c 4 → ∀ g, g < c 3 → w (cit k 8) (8 * p + g) = nI (st c o p g)
def TbIs (w : Wd) (k : Fin 6) (c : Nat → Nat) : Prop := w (cit k 0) 16 = -(nI 1) ∨ ∃ mo, mo < 256 ∧ w (cit k 0) 16 = nI mo ∧ Tab w k c mo
def DyIs (w : Wd) (k : Fin 6) (c : Nat → Nat) (nr ti o sp dy : Nat) (wf : Nat → Nat) : Prop := w (cit k 0) 1 = nI nr ∧ w (cit k 0) 2 = nI ti ∧ w (cit k 0) 12 = nI o ∧ w (cit k 0) 13 = nI sp ∧ w (cit k 0) 14 = nI dy ∧ ∀ p, p < c 4 → w (cit k 7) p = nI (wf p)
def DyOk (c : Nat → Nat) (nr ti o sp : Nat) (wf : Nat → Nat) : Prop := nr ≤ 3 ∧ ti ≤ 2 ∧ o < 256 ∧ sp < 32 ∧ ∀ p, p < c 4 → wf p < 256
def Fr (k : Fin 6) (w w' : Wd) : Prop := ∀ t, (∀ p, t ≠ cit k p) → w' t = w t
theorem Fr.rf {k : Fin 6} {w : Wd} : Fr k w w := fun _ _ => rfl
theorem Fr.tr {k : Fin 6} {w w1 w2 : Wd} (h1 : Fr k w w1) (h2 : Fr k w1 w2) : Fr k w w2 := fun t ht => (h2 t ht).trans (h1 t ht)
theorem Fr.set {k : Fin 6} {w : Wd} {p j : Nat} {x : Int32} : Fr k w (wset w (cit k p) j x) := fun t ht => wset_ne (ht p)
theorem wset_s {w : Wd} {t : TA} {k : Nat} {x : Int32} : wset w t k x t k = x := by simp [wset]
theorem wset_k {w : Wd} {t : TA} {k j : Nat} {x : Int32} (h : j ≠ k) : wset w t k x t j = w t j := by simp [wset, h]
theorem cit_p {k : Fin 6} {p q : Nat} (h : p ≠ q) : cit k p ≠ cit k q := fun e => h (by cases e; rfl)
theorem nJ_max0 {a b : Nat} (ha : a < 2 ^ 30) (hb : b < 2 ^ 30) : (if nI 0 < nI a - nI b then nI a - nI b else nI 0) = nI (a - b) := by
  rcases Nat.lt_or_ge a b with h | h
  · have h1 := pk_sneg hb h
    have h2 : ¬ nI 0 < nI a - nI b := fun z => Int32.lt_irrefl (Int32.lt_trans z h1)
    rw [if_neg h2, show a - b = 0 by omega]
  · rw [pk_sub h]
    by_cases h2 : nI 0 < nI (a - b)
    · rw [if_pos h2]
    · rw [if_neg h2]
      rw [nJ_lt (by decide) (by omega)] at h2
      rw [show a - b = 0 by omega]
theorem nJ_min {a b : Nat} (ha : a < 2 ^ 31) (hb : b < 2 ^ 31) : (if nI b < nI a then nI b else nI a) = nI (min a b) := by
  by_cases h : nI b < nI a
  · rw [if_pos h]
    rw [nJ_lt hb ha] at h
    rw [Nat.min_eq_right (by omega)]
  · rw [if_neg h]
    rw [nJ_lt hb ha] at h
    rw [Nat.min_eq_left (by omega)]
theorem nJ_m1 {o : Nat} (h : o < 256) : ¬ -(nI 1) = nI o := by
  intro e
  have h1 := congrArg Int32.toInt e
  rw [nI_toInt (by omega)] at h1
  have h2 : (-(nI 1)).toInt = -1 := by decide
  omega
theorem bI_f0 : bI false = 0 := by decide
theorem bI_t0 : ¬ bI true = 0 := by decide
theorem sp_isThere {w : Wd} {k : Fin 6} {a : Nat} (h : w (cit k 0) 0 = nI a) (ha : a < 2 ^ 31) : Cl 1 jC_isThere [vR (cit k 0)] w (some (vI (bI (decide (0 < a)))), w) := by
  refine Cl.of rfl rfl rfl (lc := [some (vR (cit k 0))]) rfl ?_
  refine Rn.if1 60 rfl rfl (fun h1 => ?_) (fun h1 => ?_)
  · refine Rn.zr 60 rfl rfl rfl (by decide) ?_
    dsimp only [tm_c2P] at h1
    rw [h, show (0 : Int32) = nI 0 from rfl, nJ_le ha (by decide)] at h1
    rw [decide_eq_false (by omega)]
    rfl
  · refine Rn.zr 60 rfl rfl rfl (by decide) ?_
    dsimp only [tm_c2P] at h1
    rw [h, show (0 : Int32) = nI 0 from rfl, nJ_le ha (by decide)] at h1
    rw [decide_eq_true (by omega)]
    rfl
theorem sp_allGates {w : Wd} {k : Fin 6} {a : Nat} (h : w (cit k 0) 3 = nI a) (ha : a ≤ 8) : Cl 1 jC_allGates [vR (cit k 0)] w (some (vI (nI (2 ^ a - 1))), w) := by
  refine Cl.of rfl rfl rfl (lc := [some (vR (cit k 0))]) rfl ?_
  refine Rn.ir 60 rfl rfl rfl ?_
  dsimp only
  rw [h, nJ_1shl (by omega), pk_sub (Nat.one_le_two_pow)]
theorem sp_isGateSet {w : Wd} {k : Fin 6} {a : Nat} (h : w (cit k 0) 3 = nI a) (ha : a ≤ 8) (x : Int32) : ∃ b : Bool, Cl 2 jC_isGateSet [vR (cit k 0), vI x] w (some (vI (bI b)), w) ∧ (b = true ↔ ∃ j, j < 2 ^ a ∧ x = nI j) := by
  have hp : 2 ^ a ≤ 256 := Nat.pow_le_pow_right (n := 2) (by decide) ha
  have hp1 : 1 ≤ 2 ^ a := Nat.one_le_two_pow
  rcases pk_ix x (n := 2 ^ a) (by omega) with hx | hx | ⟨j, hj, rfl⟩
  · refine ⟨false, ?_, ⟨fun z => (by cases z), fun ⟨j, h1, h2⟩ => ?_⟩⟩
    · refine Cl.of rfl rfl rfl (lc := [some (vR (cit k 0)), some (vI x)]) rfl ?_
      refine Rn.if1t 60 rfl rfl hx ?_
      exact Rn.zr 60 rfl rfl rfl (by decide) rfl
    · subst h2
      exact absurd hx (nI_pos (by omega))
  · have h0 : ¬ x < 0 := by
      intro hx0
      rw [Int32.lt_iff_toInt_lt] at hx0
      rw [Int32.le_iff_toInt_le, nI_toInt (by omega)] at hx
      have : (0 : Int32).toInt = 0 := by decide
      omega
    refine ⟨false, ?_, ⟨fun z => (by cases z), fun ⟨j, h1, h2⟩ => ?_⟩⟩
    · refine Cl.of rfl rfl rfl (lc := [some (vR (cit k 0)), some (vI x)]) rfl ?_
      refine Rn.if1f 60 rfl rfl h0 ?_
      refine Rn.cv 60 rfl rfl rfl rfl rfl (sp_allGates h ha) (by decide) ?_
      refine Rn.if2t 60 rfl rfl ?_ ?_
      · dsimp only [tm_c2P]
        rw [Int32.lt_iff_toInt_lt, nI_toInt (by omega)]
        rw [Int32.le_iff_toInt_le, nI_toInt (by omega)] at hx
        omega
      · exact Rn.zr 60 rfl rfl rfl (by decide) rfl
    · subst h2
      rw [nJ_le (by omega) (by omega)] at hx
      omega
  · refine ⟨true, ?_, ⟨fun _ => ⟨j, hj, rfl⟩, fun _ => rfl⟩⟩
    refine Cl.of rfl rfl rfl (lc := [some (vR (cit k 0)), some (vI (nI j))]) rfl ?_
    refine Rn.if1f 60 rfl rfl (nI_pos (by omega)) ?_
    refine Rn.cv 60 rfl rfl rfl rfl rfl (sp_allGates h ha) (by decide) ?_
    refine Rn.if2f 60 rfl rfl ?_ ?_
    · dsimp only [tm_c2P]
      rw [nJ_lt (by omega) (by omega)]
      omega
    · exact Rn.zr 60 rfl rfl rfl (by decide) rfl
theorem sp_isOpen {w : Wd} {k : Fin 6} {g o : Nat} (ho : w (cit k 0) 12 = nI o) (hg : g < 8) (h8 : o < 256) : Cl 1 jC_isOpen [vR (cit k 0), vI (nI g)] w (some (vI (bI (o.testBit g))), w) := by
  refine Cl.of rfl rfl rfl (lc := [some (vR (cit k 0)), some (vI (nI g))]) rfl ?_
  refine Rn.if2 60 rfl rfl (fun h => ?_) (fun h => ?_)
  · refine Rn.zr 60 rfl rfl rfl (by decide) ?_
    dsimp only [tm_c2P] at h
    rw [ho, nJ_bit (by omega) (by omega), bI_eq1] at h
    rw [Bool.eq_false_iff.mpr h]
    rfl
  · refine Rn.zr 60 rfl rfl rfl (by decide) ?_
    dsimp only [tm_c2P] at h
    rw [ho, nJ_bit (by omega) (by omega), bI_eq1, Classical.not_not] at h
    rw [h]
    rfl
theorem sp_endsOf {w : Wd} {k : Fin 6} {c : Nat → Nat} (hc : PlOk c) (hp : PlIs w k c) {g : Nat} (hg : g < c 3) : Cl 1 jC_endsOf [vR (cit k 0), vI (nI g)] w (some (vI (nI (eN c g))), w) := by
  obtain ⟨h1, h2⟩ := hp.2.2.2.1 g hg
  obtain ⟨h3, h4⟩ := hc.2.2.2.1 g hg
  have h8 := hc.2.1
  have h0 := hc.1
  refine Cl.of rfl rfl rfl (lc := [some (vR (cit k 0)), some (vI (nI g))]) rfl ?_
  refine Rn.al 60 rfl rfl rfl rfl (by omega) ?_
  refine Rn.al 60 rfl rfl rfl rfl (by omega) ?_
  refine Rn.ir 60 rfl rfl rfl ?_
  dsimp only
  rw [h1, h2, nJ_1shl (by omega), nJ_1shl (by omega), nJ_or]
  rfl
theorem tch_nI {c : Nat → Nat} (hc : PlOk c) {g : Nat} (hg : g < c 3) (s : Nat) : nI s &&& nI (eN c g) = 0 ↔ tch c s g = false := by
  have hel := eN_lt hc hg
  rw [nJ_and, nJ_eq0 (Nat.lt_of_lt_of_le (nJ_and_lt hel) (by decide))]
  unfold tch
  simp
theorem sp_reach_in {w : Wd} {k : Fin 6} {c : Nat → Nat} {o : Nat} {pl pa : Int32} {r : Rs} (hc : PlOk c) (hp : PlIs w k c) (ho : w (cit k 0) 12 = nI o) (h8 : o < 256) : ∀ n g s, g + n = c 3 → Rn none 1 jC_reachedFrom (61, [some (vR (cit k 0)), some (vI pl), some (vI (nI (psN c o n g s))), some (vI pa), some (vI (nI (c 3)))], [], w) r → Rn none 1 jC_reachedFrom (17, [some (vR (cit k 0)), some (vI pl), some (vI (nI s)), some (vI pa), some (vI (nI g))], [], w) r := by
  have hc3 := hc.2.1
  intro n
  induction n with
  | zero =>
    intro g s hg k1
    have e : g = c 3 := by omega
    subst e
    exact Rn.if2t 60 rfl rfl (by dsimp only [tm_c2P]; rw [hp.2.1]; exact nI_le (Nat.le_refl _) (by omega)) k1
  | succ n ih =>
    intro g s hg k1
    have hgl : g < c 3 := by omega
    refine Rn.if2f 60 rfl rfl (by dsimp only [tm_c2P]; rw [hp.2.1]; exact nI_ge hgl (by omega)) ?_
    refine Rn.cv 60 rfl rfl rfl rfl rfl (sp_isOpen ho (by omega) h8) (by decide) ?_
    have ih := ih (g + 1) (bif o.testBit g && tch c s g then s ||| eN c g else s) (by omega) k1
    rw [nI_succ g] at ih
    refine Rn.if1 60 rfl rfl (fun h => ?_) (fun h => ?_)
    · dsimp only [tm_c2P] at h
      rw [bI_eq0] at h
      rw [h] at ih
      exact Rn.at 2 rfl ih
    · dsimp only [tm_c2P] at h
      rw [bI_eq0, Bool.not_eq_false] at h
      rw [h] at ih
      refine Rn.cv 60 rfl rfl rfl rfl rfl (sp_endsOf hc hp hgl) (by decide) ?_
      refine Rn.if1 60 rfl rfl (fun h => ?_) (fun h => ?_)
      · dsimp only [tm_c2P] at h
        rw [tch_nI hc hgl] at h
        rw [h] at ih
        exact Rn.at 2 rfl ih
      · dsimp only [tm_c2P] at h
        rw [tch_nI hc hgl, Bool.not_eq_false] at h
        rw [h] at ih
        refine Rn.cv 60 rfl rfl rfl rfl rfl (sp_endsOf hc hp hgl) (by decide) ?_
        rw [show (bif true && true then s ||| eN c g else s) = s ||| eN c g from rfl, ← nJ_or] at ih
        exact Rn.at 4 rfl ih
theorem sp_reachedFrom {w : Wd} {k : Fin 6} {c : Nat → Nat} {o : Nat} (hc : PlOk c) (hp : PlIs w k c) (ho : w (cit k 0) 12 = nI o) (h8 : o < 256) {p : Nat} (hpl : p < c 0) : Cl 2 jC_reachedFrom [vR (cit k 0), vI (nI p)] w (some (vI (nI (rc c o p))), w) := by
  have hc0 := hc.1
  refine Cl.of rfl rfl rfl (lc := [some (vR (cit k 0)), some (vI (nI p)), none, none, none]) rfl ?_
  have key : ∀ n pa s x, 1 ≤ pa → (pa + n = c 0 ∨ (n = 0 ∧ c 0 ≤ pa)) → pa ≤ 6 → Rn none 1 jC_reachedFrom (6, [some (vR (cit k 0)), some (vI (nI p)), some (vI (nI s)), some (vI (nI pa)), x], [], w) (some (vI (nI (rcN c o n s))), w) := by
    intro n
    induction n with
    | zero =>
      intro pa s x h1 h2 h3
      refine Rn.if2t 60 rfl rfl (by dsimp only [tm_c2P]; rw [hp.1]; exact nI_le (by omega) (by omega)) ?_
      exact Rn.ir 60 rfl rfl rfl rfl
    | succ n ih =>
      intro pa s x h1 h2 h3
      have h4 : pa + n + 1 = c 0 := by omega
      refine Rn.if2f 60 rfl rfl (by dsimp only [tm_c2P]; rw [hp.1]; exact nI_ge (by omega) (by omega)) ?_
      refine Rn.at 2 rfl (sp_reach_in hc hp ho h8 (c 3) 0 s (by omega) ?_)
      have ih := ih (pa + 1) (psN c o (c 3) 0 s) (some (vI (nI (c 3)))) (by omega) (by omega) (by omega)
      rw [nI_succ] at ih
      exact Rn.at 2 rfl ih
  have k2 := key (c 0 - 1) 1 (2 ^ p) none (by omega) (by omega) (by omega)
  rw [← nJ_1shl (by omega), rc_eq hc o hpl] at k2
  exact Rn.at 6 rfl k2
theorem rc_lt {c : Nat → Nat} (hc : PlOk c) (o : Nat) {p : Nat} (hp : p < c 0) : rc c o p < 64 := Nat.lt_of_lt_of_le (rcN_lt hc o 6 _ (Nat.pow_lt_pow_right (by decide) hp)) (p2_le hc.1)
theorem sp_isGlad {w : Wd} {k : Fin 6} {c : Nat → Nat} {o : Nat} (hc : PlOk c) (hp : PlIs w k c) (ho : w (cit k 0) 12 = nI o) (h8 : o < 256) {p : Nat} (hpl : p < c 4) : Cl 3 jC_isGlad [vR (cit k 0), vI (nI p)] w (some (vI (bI (gl c o p))), w) := by
  obtain ⟨a1, a2, a3, a4⟩ := hp.2.2.2.2 p hpl
  obtain ⟨b1, b2, b3, b4⟩ := hc.2.2.2.2 p hpl
  have hc4 := hc.2.2.1
  have hc0 := hc.1
  have hr := rc_lt hc o b2
  refine Cl.of rfl rfl rfl (lc := [some (vR (cit k 0)), some (vI (nI p))]) rfl ?_
  refine Rn.al 60 rfl rfl rfl rfl (by omega) ?_
  rw [a2]
  refine Rn.cv 60 rfl rfl rfl rfl rfl (sp_reachedFrom hc hp ho h8 b2) (by decide) ?_
  refine Rn.al 60 rfl rfl rfl rfl (by omega) ?_
  rw [a3]
  refine Rn.if2 60 rfl rfl (fun h => ?_) (fun h => ?_)
  · dsimp only [tm_c2P] at h
    rw [nJ_bit (by omega) (by omega), bI_eq1] at h
    refine Rn.zr 60 rfl rfl rfl (by decide) ?_
    unfold gl
    rw [Bool.eq_false_iff.mpr h]
    rfl
  · dsimp only [tm_c2P] at h
    rw [nJ_bit (by omega) (by omega), bI_eq1, Classical.not_not] at h
    refine Rn.zr 60 rfl rfl rfl (by decide) ?_
    unfold gl
    rw [h]
    rfl
theorem sp_glad {w : Wd} {k : Fin 6} {c : Nat → Nat} {o : Nat} (hc : PlOk c) (hp : PlIs w k c) (ho : w (cit k 0) 12 = nI o) (h8 : o < 256) : Cl 4 jC_glad [vR (cit k 0)] w (some (vI (nI (bs (gl c o) (c 4)))), w) := by
  have hc4 := hc.2.2.1
  refine Cl.of rfl rfl rfl (lc := [some (vR (cit k 0)), none, none]) rfl ?_
  have key : ∀ n p s, p + n = c 4 → Rn none 3 jC_glad (4, [some (vR (cit k 0)), some (vI (nI s)), some (vI (nI p))], [], w) (some (vI (nI (bsN (gl c o) n p s))), w) := by
    intro n
    induction n with
    | zero =>
      intro p s h1
      refine Rn.if2t 60 rfl rfl (by dsimp only [tm_c2P]; rw [hp.2.2.1]; exact nI_le (by omega) (by omega)) ?_
      exact Rn.ir 60 rfl rfl rfl rfl
    | succ n ih =>
      intro p s h1
      have ih := ih (p + 1) (s ||| bif gl c o p then 2 ^ p else 0) (by omega)
      rw [nI_succ, ← nJ_or] at ih
      unfold bsN
      refine Rn.if2f 60 rfl rfl (by dsimp only [tm_c2P]; rw [hp.2.2.1]; exact nI_ge (by omega) (by omega)) ?_
      refine Rn.cv 60 rfl rfl rfl rfl rfl (sp_isGlad hc hp ho h8 (by omega)) (by decide) ?_
      refine Rn.if1 60 rfl rfl (fun h => ?_) (fun h => ?_)
      · dsimp only [tm_c2P] at h
        rw [bI_eq0] at h
        rw [h] at ih ⊢
        exact Rn.at 5 rfl ih
      · dsimp only [tm_c2P] at h
        rw [bI_eq0, Bool.not_eq_false] at h
        rw [h] at ih ⊢
        rw [show (bif true then 2 ^ p else 0) = 2 ^ p from rfl, ← nJ_1shl (by omega)] at ih
        exact Rn.at 8 rfl ih
  exact Rn.at 4 rfl (key (c 4) 0 0 (by omega))
theorem sp_isWalledIn {w : Wd} {k : Fin 6} {c : Nat → Nat} {o : Nat} (hc : PlOk c) (hp : PlIs w k c) (hop : w (cit k 0) 12 = nI o) (h8 : o < 256) {p : Nat} (hpl : p < c 4) : Cl 1 jC_isWalledIn [vR (cit k 0), vI (nI p)] w (some (vI (bI (wd c o p))), w) := by
  obtain ⟨a1, a2, a3, a4⟩ := hp.2.2.2.2 p hpl
  obtain ⟨b1, b2, b3, b4⟩ := hc.2.2.2.2 p hpl
  have hc4 := hc.2.2.1
  have hc3 := hc.2.1
  have hc0 := hc.1
  refine Cl.of rfl rfl rfl (lc := [some (vR (cit k 0)), some (vI (nI p)), none, none, none]) rfl ?_
  refine Rn.al 60 rfl rfl rfl rfl (by omega) ?_
  rw [a2]
  have key : ∀ n g x, g + n = c 3 → Rn none 0 jC_isWalledIn (9, [some (vR (cit k 0)), some (vI (nI p)), some (vI (nI (ho c p))), some (vI (nI g)), x], [], w) (some (vI (bI (wdN c o p n g))), w) := by
    intro n
    induction n with
    | zero =>
      intro g x h1
      refine Rn.if2t 60 rfl rfl (by dsimp only [tm_c2P]; rw [hp.2.1]; exact nI_le (by omega) (by omega)) ?_
      exact Rn.zr 60 rfl rfl rfl (by decide) rfl
    | succ n ih =>
      intro g x h1
      have hgl : g < c 3 := by omega
      obtain ⟨e1, e2⟩ := hp.2.2.2.1 g hgl
      obtain ⟨f1, f2⟩ := hc.2.2.2.1 g hgl
      refine Rn.if2f 60 rfl rfl (by dsimp only [tm_c2P]; rw [hp.2.1]; exact nI_ge hgl (by omega)) ?_
      have fin : ∀ b : Bool, atH c p g = b → Rn none 0 jC_isWalledIn (44, [some (vR (cit k 0)), some (vI (nI p)), some (vI (nI (ho c p))), some (vI (nI g)), some (vI (bI b))], [], w) (some (vI (bI (wdN c o p (n + 1) g))), w) := by
        intro b hb
        have ih := ih (g + 1) (some (vI (bI b))) (by omega)
        rw [nI_succ] at ih
        unfold wdN
        rw [hb]
        cases b with
        | false => exact Rn.if1t 60 rfl rfl bI_f0 (Rn.at 2 rfl ih)
        | true =>
          refine Rn.if1f 60 rfl rfl bI_t0 ?_
          refine Rn.if2 60 rfl rfl (fun h => ?_) (fun h => ?_)
          · dsimp only [tm_c2P] at h
            rw [hop, nJ_bit (by omega) (by omega), bI_eq1] at h
            rw [Bool.eq_false_iff.mpr h]
            exact Rn.at 2 rfl ih
          · dsimp only [tm_c2P] at h
            rw [hop, nJ_bit (by omega) (by omega), bI_eq1, Classical.not_not] at h
            rw [h]
            exact Rn.zr 60 rfl rfl rfl (by decide) rfl
      refine Rn.al 60 rfl rfl rfl rfl (by omega) ?_
      rw [e1]
      refine Rn.if2 60 rfl rfl (fun h => ?_) (fun h => ?_)
      · dsimp only [tm_c2P] at h
        rw [nI_eq (by omega) (by omega)] at h
        exact Rn.at 3 rfl (fin true (by unfold atH; rw [h]; simp))
      · dsimp only [tm_c2P] at h
        rw [nI_eq (by omega) (by omega)] at h
        refine Rn.al 60 rfl rfl rfl rfl (by omega) ?_
        rw [e2]
        refine Rn.if2 60 rfl rfl (fun h2 => ?_) (fun h2 => ?_)
        · dsimp only [tm_c2P] at h2
          rw [nI_eq (by omega) (by omega)] at h2
          exact Rn.at 2 rfl (fin false (by unfold atH; rw [decide_eq_false h, decide_eq_false h2]; rfl))
        · dsimp only [tm_c2P] at h2
          rw [nI_eq (by omega) (by omega), Classical.not_not] at h2
          exact Rn.at 3 rfl (fin true (by unfold atH; rw [decide_eq_true h2]; simp))
  exact Rn.at 3 rfl (key (c 3) 0 none (by omega))
theorem sp_walledIn {w : Wd} {k : Fin 6} {c : Nat → Nat} {o : Nat} (hc : PlOk c) (hp : PlIs w k c) (ho : w (cit k 0) 12 = nI o) (h8 : o < 256) : Cl 2 jC_walledIn [vR (cit k 0)] w (some (vI (nI (bs (wd c o) (c 4)))), w) := by
  have hc4 := hc.2.2.1
  refine Cl.of rfl rfl rfl (lc := [some (vR (cit k 0)), none, none]) rfl ?_
  have key : ∀ n p s, p + n = c 4 → Rn none 1 jC_walledIn (4, [some (vR (cit k 0)), some (vI (nI s)), some (vI (nI p))], [], w) (some (vI (nI (bsN (wd c o) n p s))), w) := by
    intro n
    induction n with
    | zero =>
      intro p s h1
      refine Rn.if2t 60 rfl rfl (by dsimp only [tm_c2P]; rw [hp.2.2.1]; exact nI_le (by omega) (by omega)) ?_
      exact Rn.ir 60 rfl rfl rfl rfl
    | succ n ih =>
      intro p s h1
      have ih := ih (p + 1) (s ||| bif wd c o p then 2 ^ p else 0) (by omega)
      rw [nI_succ, ← nJ_or] at ih
      unfold bsN
      refine Rn.if2f 60 rfl rfl (by dsimp only [tm_c2P]; rw [hp.2.2.1]; exact nI_ge (by omega) (by omega)) ?_
      refine Rn.cv 60 rfl rfl rfl rfl rfl (sp_isWalledIn hc hp ho h8 (by omega)) (by decide) ?_
      refine Rn.if1 60 rfl rfl (fun h => ?_) (fun h => ?_)
      · dsimp only [tm_c2P] at h
        rw [bI_eq0] at h
        rw [h] at ih ⊢
        exact Rn.at 5 rfl ih
      · dsimp only [tm_c2P] at h
        rw [bI_eq0, Bool.not_eq_false] at h
        rw [h] at ih ⊢
        rw [show (bif true then 2 ^ p else 0) = 2 ^ p from rfl, ← nJ_1shl (by omega)] at ih
        exact Rn.at 8 rfl ih
  exact Rn.at 4 rfl (key (c 4) 0 0 (by omega))
