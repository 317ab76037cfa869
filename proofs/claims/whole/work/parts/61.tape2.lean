/-! the tape: the class's numbers -/
def fig (v : Nat) : Bool := decide (48 ≤ v) && decide (v ≤ 57)
/-- figures from i on: where they end, what the first three say -/
def nmN (B : Nat → Nat) (N a : Nat) : Nat → Nat → Nat → Nat × Nat
  | 0, i, v => (i, v)
  | n + 1, i, v => if i < N ∧ fig (B i) = true then nmN B N a n (i + 1) (if i < a + 3 then 10 * v + B i - 48 else v) else (i, v)
def nm (B : Nat → Nat) (N a : Nat) : Nat × Nat := nmN B N a (N - a) a 0
def nmI (a i v : Nat) : Prop := (i = a ∧ v = 0) ∨ (i = a + 1 ∧ v < 10) ∨ (i = a + 2 ∧ v < 100) ∨ (a + 3 ≤ i ∧ v < 1000)
theorem nmI_step {B : Nat → Nat} {a i v : Nat} (h : nmI a i v) (hf : fig (B i) = true) : nmI a (i + 1) (if i < a + 3 then 10 * v + B i - 48 else v) := by
  unfold fig at hf
  simp only [Bool.and_eq_true, decide_eq_true_eq] at hf
  unfold nmI at *
  split <;> omega
theorem nmN_ok {B : Nat → Nat} {N a : Nat} : ∀ n i v, nmI a i v → i ≤ N → nmI a (nmN B N a n i v).1 (nmN B N a n i v).2 ∧ (nmN B N a n i v).1 ≤ N
  | 0, i, v, h, hi => ⟨h, hi⟩
  | n + 1, i, v, h, hi => by
    unfold nmN
    split
    · next q => exact nmN_ok n (i + 1) _ (nmI_step h q.2) (by omega)
    · exact ⟨h, hi⟩
theorem sp_takeNumber {w : Wd} {N a lo hi : Nat} {B : Nat → Nat} (h : TpC w N B a) (hlo : lo < 256) (hhi : hi < 256) : Cl 3 jT_takeNumber [vR (sg 2), vI (nI lo), vI (nI hi)] w (if (nm B N a).1 = a ∨ a + 3 < (nm B N a).1 then (some (vI (bI false)), wset (wset w (sg 2) 2 (nI 1)) (sg 2) 3 (nI a)) else if (nm B N a).2 < lo ∨ hi < (nm B N a).2 then (some (vI (bI false)), wset (wset w (sg 2) 2 (nI 2)) (sg 2) 3 (nI a)) else (some (vI (bI true)), wset (wset w (sg 2) 4 (nI (nm B N a).1)) (sg 2) 5 (nI (nm B N a).2))) := by
  obtain ⟨hN, hB, ha, h1, h4, h3⟩ := h
  have hok := nmN_ok (B := B) (N := N) (a := a) (N - a) a 0 (Or.inl ⟨rfl, rfl⟩) ha
  have key : ∀ n i v r, i + n = N → nmI a i v → Rn none 2 jT_takeNumber (66, [some (vR (sg 2)), some (vI (nI lo)), some (vI (nI hi)), some (vI (nI (nmN B N a n i v).1)), some (vI (nI (nmN B N a n i v).2))], [], w) r → Rn none 2 jT_takeNumber (8, [some (vR (sg 2)), some (vI (nI lo)), some (vI (nI hi)), some (vI (nI i)), some (vI (nI v))], [], w) r := by
    intro n
    induction n with
    | zero =>
      intro i v r hi hv k
      obtain rfl : i = N := by omega
      exact Rn.if2t 60 rfl rfl (by dsimp only [tm_c2P]; rw [h1]; exact nI_le (Nat.le_refl _) (by omega)) k
    | succ n ih =>
      intro i v r hi hv k
      have hil : i < N := by omega
      have hb := hB i hil
      have hv1 : v < 1000 := by unfold nmI at hv; omega
      refine Rn.if2f 60 rfl rfl (by dsimp only [tm_c2P]; rw [h1]; exact nI_ge hil (by omega)) ?_
      refine Rn.al 60 rfl rfl rfl rfl (by omega) ?_
      rw [h3 i hil]
      refine Rn.cs 60 rfl rfl rfl rfl (sp_isFigure hb) (by decide) ?_
      unfold nmN at k
      cases hf : fig (B i) with
      | false =>
        rw [if_neg (fun z => by rw [hf] at z; cases z.2)] at k
        unfold fig at hf
        rw [hf]
        exact Rn.if1t 60 rfl rfl (by dsimp only [tm_c2P]; decide) k
      | true =>
        rw [if_pos ⟨hil, hf⟩] at k
        have hst := nmI_step hv hf
        have k2 := ih (i + 1) _ r (by omega) hst k
        rw [nI_succ i] at k2
        unfold fig at hf
        rw [hf]
        simp only [Bool.and_eq_true, decide_eq_true_eq] at hf
        refine Rn.if1f 60 rfl rfl (by dsimp only [tm_c2P]; decide) ?_
        by_cases e : i < a + 3
        · rw [if_pos e, ← pk_sub (show 48 ≤ 10 * v + B i by omega), ← nI_add (10 * v) (B i), ← pk_mul 10 v, ← h3 i hil] at k2
          refine Rn.if2f 60 rfl rfl (by dsimp only [tm_c2P]; rw [h4, nI_add]; exact nI_ge e (by omega)) ?_
          refine Rn.al 60 rfl rfl rfl rfl (by omega) ?_
          exact Rn.at 7 rfl k2
        · rw [if_neg e] at k2
          refine Rn.if2t 60 rfl rfl (by dsimp only [tm_c2P]; rw [h4, nI_add]; exact nI_le (by omega) (by omega)) ?_
          exact Rn.at 4 rfl k2
  refine Cl.of rfl rfl rfl (lc := [some (vR (sg 2)), some (vI (nI lo)), some (vI (nI hi)), none, none]) rfl ?_
  have k0 := fun r => key (N - a) a 0 r (by omega) (Or.inl ⟨rfl, rfl⟩)
  generalize hq : nmN B N a (N - a) a 0 = q at *
  have hnm : nm B N a = q := hq
  rw [hnm]
  have e4 : ∀ {r : Rs}, Rn none 2 jT_takeNumber (66, [some (vR (sg 2)), some (vI (nI lo)), some (vI (nI hi)), some (vI (nI q.1)), some (vI (nI q.2))], [], w) r → Rn none 2 jT_takeNumber (0, [some (vR (sg 2)), some (vI (nI lo)), some (vI (nI hi)), none, none], [], w) r := by
    intro r k
    have k1 := k0 r k
    rw [← h4] at k1
    exact Rn.at 5 rfl k1
  obtain ⟨o1, o2⟩ := hok
  have v1 : q.2 < 1000 := by unfold nmI at o1; omega
  refine e4 ?_
  have f1 : Rn none 2 jT_takeNumber (84, [some (vR (sg 2)), some (vI (nI lo)), some (vI (nI hi)), some (vI (nI q.1)), some (vI (nI q.2))], [], w) (some (vI (bI false)), wset (wset w (sg 2) 2 (nI 1)) (sg 2) 3 (nI a)) := by
    rw [← h4]
    refine Rn.cv 60 rfl rfl rfl rfl rfl sp_refuse (by decide) ?_
    exact Rn.zr 60 rfl rfl rfl (by decide) rfl
  have f2 : Rn none 2 jT_takeNumber (106, [some (vR (sg 2)), some (vI (nI lo)), some (vI (nI hi)), some (vI (nI q.1)), some (vI (nI q.2))], [], w) (some (vI (bI false)), wset (wset w (sg 2) 2 (nI 2)) (sg 2) 3 (nI a)) := by
    rw [← h4]
    refine Rn.cv 60 rfl rfl rfl rfl rfl sp_refuse (by decide) ?_
    exact Rn.zr 60 rfl rfl rfl (by decide) rfl
  by_cases c1 : q.1 = a
  · rw [if_pos (Or.inl c1)]
    exact Rn.if2t 60 rfl rfl (by dsimp only [tm_c2P]; rw [h4, c1]) f1
  refine Rn.if2f 60 rfl rfl (by dsimp only [tm_c2P]; rw [h4, nI_eq (by omega) (by omega)]; exact c1) ?_
  by_cases c2 : a + 3 < q.1
  · rw [if_pos (Or.inr c2)]
    exact Rn.if2f 60 rfl rfl (by dsimp only [tm_c2P]; rw [h4, nI_add, Int32.not_le]; exact nI_lt c2 (by omega)) f1
  rw [if_neg (fun z => z.elim c1 c2)]
  refine Rn.if2t 60 rfl rfl (by dsimp only [tm_c2P]; rw [h4, nI_add]; exact nI_le (by omega) (by omega)) ?_
  by_cases c3 : q.2 < lo
  · rw [if_pos (Or.inl c3)]
    exact Rn.if2t 60 rfl rfl (nI_lt c3 (by omega)) f2
  refine Rn.if2f 60 rfl rfl (nI_nlt (by omega) (by omega)) ?_
  by_cases c4 : hi < q.2
  · rw [if_pos (Or.inr c4)]
    exact Rn.if2f 60 rfl rfl (by dsimp only [tm_c2P]; rw [Int32.not_le]; exact nI_lt c4 (by omega)) f2
  rw [if_neg (fun z => z.elim c3 c4)]
  refine Rn.if2t 60 rfl rfl (nI_le (by omega) (by omega)) ?_
  exact Rn.zr 60 rfl rfl rfl (by decide) rfl
