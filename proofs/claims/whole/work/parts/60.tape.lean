/-! the tape: the class's signs -/
def TpC (w : Wd) (N : Nat) (B : Nat → Nat) (a : Nat) : Prop := N ≤ 160 ∧ (∀ i, i < N → B i < 256) ∧ a ≤ N ∧ w (sg 2) 1 = nI N ∧ w (sg 2) 4 = nI a ∧ ∀ i, i < N → w (sg 3) i = nI (B i)
/-- a reading changes the tape's own fields 2 to 5 alone -/
def PFr (w w' : Wd) : Prop := (∀ t, t ≠ sg 2 → w' t = w t) ∧ ∀ j, j < 2 ∨ 5 < j → w' (sg 2) j = w (sg 2) j
theorem PFr.rf {w : Wd} : PFr w w := ⟨fun _ _ => rfl, fun _ _ => rfl⟩
theorem PFr.tr {w w1 w2 : Wd} (h1 : PFr w w1) (h2 : PFr w1 w2) : PFr w w2 := ⟨fun t a => (h2.1 t a).trans (h1.1 t a), fun j a => (h2.2 j a).trans (h1.2 j a)⟩
theorem PFr.set {w : Wd} {j : Nat} {x : Int32} (h : 2 ≤ j ∧ j ≤ 5) : PFr w (wset w (sg 2) j x) := ⟨fun t a => wset_ne a, fun i a => wset_k (by omega)⟩
theorem TpC.at {w w' : Wd} {N a a' : Nat} {B : Nat → Nat} (h : TpC w N B a) (f : PFr w w') (ha : a' ≤ N) (e : w' (sg 2) 4 = nI a') : TpC w' N B a' := ⟨h.1, h.2.1, ha, (f.2 1 (by decide)).trans h.2.2.2.1, e, fun i hi => by rw [f.1 _ (sg_ne (by decide))]; exact h.2.2.2.2.2 i hi⟩
theorem sp_refuse {w : Wd} {x y : Int32} : Cl 1 jT_refuse [vR (sg 2), vI x, vI y] w (some (vI (bI false)), wset (wset w (sg 2) 2 x) (sg 2) 3 y) := by
  refine Cl.of rfl rfl rfl (lc := [some (vR (sg 2)), some (vI x), some (vI y)]) rfl ?_
  exact Rn.zr 60 rfl rfl rfl (by decide) rfl
/-- a fault is told: its number, its place -/
def Flt (w : Wd) (n a : Nat) : Prop := w (sg 2) 2 = nI n ∧ w (sg 2) 3 = nI a
theorem sp_takeSign {w : Wd} {N a z : Nat} {B : Nat → Nat} (h : TpC w N B a) (hz : z < 256) : (a < N ∧ B a = z → Cl 2 jT_takeSign [vR (sg 2), vI (nI z)] w (some (vI (bI true)), wset w (sg 2) 4 (nI (a + 1)))) ∧ (¬ (a < N ∧ B a = z) → Cl 2 jT_takeSign [vR (sg 2), vI (nI z)] w (some (vI (bI false)), wset (wset w (sg 2) 2 (nI 1)) (sg 2) 3 (nI a))) := by
  obtain ⟨hN, hB, ha, h1, h4, h3⟩ := h
  have no : Rn none 1 jT_takeSign (24, [some (vR (sg 2)), some (vI (nI z))], [], w) (some (vI (bI false)), wset (wset w (sg 2) 2 (nI 1)) (sg 2) 3 (nI a)) := by
    rw [← h4]
    refine Rn.cv 60 rfl rfl rfl rfl rfl sp_refuse (by decide) ?_
    exact Rn.zr 60 rfl rfl rfl (by decide) rfl
  constructor
  · rintro ⟨q1, q2⟩
    refine Cl.of rfl rfl rfl (lc := [some (vR (sg 2)), some (vI (nI z))]) rfl ?_
    refine Rn.if2f 60 rfl rfl (by dsimp only [tm_c2P]; rw [h1, h4]; exact nI_ge q1 (by omega)) ?_
    refine Rn.al 60 rfl rfl rfl h4 (by omega) ?_
    refine Rn.if2t 60 rfl rfl (by dsimp only [tm_c2P]; rw [h3 a q1, q2]) ?_
    refine Rn.zr 60 rfl rfl rfl (by decide) ?_
    rw [h4]
    dsimp only
    rw [nI_add]
    rfl
  · intro hn
    refine Cl.of rfl rfl rfl (lc := [some (vR (sg 2)), some (vI (nI z))]) rfl ?_
    refine Rn.if2 60 rfl rfl (fun _ => no) (fun q => ?_)
    dsimp only [tm_c2P] at q
    rw [h1, h4, nJ_le (by omega) (by omega)] at q
    refine Rn.al 60 rfl rfl rfl h4 (by omega) ?_
    refine Rn.if2f 60 rfl rfl ?_ no
    dsimp only [tm_c2P]
    rw [h3 a (by omega), nI_eq (by have := hB a (by omega); omega) (by omega)]
    exact fun e => hn ⟨by omega, e⟩
theorem sp_isFigure {w : Wd} {v : Nat} (h : v < 256) : Cl 1 jT_isFigure [vI (nI v)] w (some (vI (bI (decide (48 ≤ v) && decide (v ≤ 57)))), w) := by
  refine Cl.of rfl rfl rfl (lc := [some (vI (nI v))]) rfl ?_
  rcases Nat.lt_or_ge v 48 with h1 | h1
  · rw [decide_eq_false (show ¬ 48 ≤ v by omega), Bool.false_and]
    refine Rn.if2t 60 rfl rfl (nI_lt h1 (by decide)) ?_
    exact Rn.zr 60 rfl rfl rfl (by decide) rfl
  · rw [decide_eq_true h1, Bool.true_and]
    refine Rn.if2f 60 rfl rfl (nI_nlt h1 (by omega)) ?_
    rcases Nat.lt_or_ge 57 v with h2 | h2
    · rw [decide_eq_false (show ¬ v ≤ 57 by omega)]
      refine Rn.if2t 60 rfl rfl (nI_lt h2 (by omega)) ?_
      exact Rn.zr 60 rfl rfl rfl (by decide) rfl
    · rw [decide_eq_true h2]
      refine Rn.if2f 60 rfl rfl (nI_nlt h2 (by decide)) ?_
      exact Rn.zr 60 rfl rfl rfl (by decide) rfl
