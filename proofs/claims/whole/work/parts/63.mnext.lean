/-! the reference's next -/
def sgn (v : Nat) : Bool := (decide (97 ≤ v) && decide (v ≤ 122)) || decide (v = 44) || decide (v = 59)
def tkn (B : Nat → Nat) (N a : Nat) : Int32 × Nat × Nat := if N ≤ a then (nI 0, 0, a) else if fig (B a) = true then (if a + 3 < (nm B N a).1 then -(nI 1) else nI 1, (nm B N a).2, (nm B N a).1) else (if sgn (B a) = true then nI (B a) else -(nI 1), 0, a + 1)
/-- the token at a stands in the reference -/
def TkM (w : Wd) (N : Nat) (B : Nat → Nat) (a : Nat) : Prop := w (sg 13) 12 = nI a ∧ w (sg 13) 13 = (tkn B N a).1 ∧ w (sg 13) 14 = nI (tkn B N a).2.1 ∧ w (sg 13) 11 = nI (tkn B N a).2.2
theorem m_figs {N a : Nat} {B : Nat → Nat} {x1 : Option AV} : ∀ n i v w, i + n = N → a ≤ i → nmI a i v → TpM w N B → w (sg 13) 11 = nI i → w (sg 13) 14 = nI v → w (sg 13) 12 = nI a → ∃ w', KFr w w' ∧ w' (sg 13) 11 = nI (nmN B N a n i v).1 ∧ w' (sg 13) 14 = nI (nmN B N a n i v).2 ∧ w' (sg 13) 12 = nI a ∧ ∀ r, Rn none 1 jM_next (107, [some (vR (sg 13)), x1], [], w') r → Rn none 1 jM_next (41, [some (vR (sg 13)), x1], [], w) r := by
  intro n
  induction n with
  | zero =>
    intro i v w hi ha hv ht h11 h14 h12
    obtain rfl : i = N := by omega
    refine ⟨w, KFr.rf, h11, h14, h12, fun r k => ?_⟩
    refine Rn.cv 60 rfl rfl rfl rfl rfl (m_here_out ht h11 (Nat.le_refl _) (by have := ht.1; omega)) (by decide) ?_
    refine Rn.cs 60 rfl rfl rfl rfl m_fig1 (by decide) ?_
    exact Rn.if1t 60 rfl rfl (by dsimp only [tm_c2P]; decide) k
  | succ n ih =>
    intro i v w hi ha hv ht h11 h14 h12
    have hN := ht.1
    have hil : i < N := by omega
    have hb := ht.2.1 i hil
    have hh := m_here_in ht h11 hil
    unfold nmN
    cases hf : fig (B i) with
    | false =>
      rw [if_neg (fun z => by cases z.2)]
      refine ⟨w, KFr.rf, h11, h14, h12, fun r k => ?_⟩
      have mf := m_fig (w := w) hb
      rw [hf] at mf
      refine Rn.cv 60 rfl rfl rfl rfl rfl hh (by decide) ?_
      refine Rn.cs 60 rfl rfl rfl rfl mf (by decide) ?_
      exact Rn.if1t 60 rfl rfl (by dsimp only [tm_c2P]; decide) k
    | true =>
      rw [if_pos ⟨hil, rfl⟩]
      have hst := nmI_step hv hf
      generalize hv' : (if i < a + 3 then 10 * v + B i - 48 else v) = v' at *
      have f1 : KFr w (wset (wset w (sg 13) 14 (nI v')) (sg 13) 11 (nI (i + 1))) := (KFr.set (by decide)).tr (KFr.set (by decide))
      obtain ⟨w', a1, a2, a3, a4, a5⟩ := ih (i + 1) v' _ (by omega) (by omega) hst (ht.k f1) wset_s (by rw [wset_k (by decide), wset_s]) (by rw [wset_k (by decide), wset_k (by decide)]; exact h12)
      refine ⟨w', f1.tr a1, a2, a3, a4, fun r k => ?_⟩
      have mf := m_fig (w := w) hb
      rw [hf] at mf
      refine Rn.cv 60 rfl rfl rfl rfl rfl hh (by decide) ?_
      refine Rn.cs 60 rfl rfl rfl rfl mf (by decide) ?_
      refine Rn.if1f 60 rfl rfl (by dsimp only [tm_c2P]; decide) ?_
      have hf2 := hf
      unfold fig at hf2
      simp only [Bool.and_eq_true, decide_eq_true_eq] at hf2
      have fin : Rn none 1 jM_next (91, [some (vR (sg 13)), x1], [vI (nI v'), vR (sg 13)], w) r := by
        have k2 := a5 r k
        have e11 : wset w (sg 13) 14 (nI v') (sg 13) 11 = nI i := by rw [wset_k (by decide)]; exact h11
        rw [← nI_add i 1, ← e11] at k2
        exact Rn.at 8 rfl k2
      by_cases e : i < a + 3
      · rw [if_pos e] at hv'
        refine Rn.if2f 60 rfl rfl (by dsimp only [tm_c2P]; rw [h11, h12, pk_sub ha]; exact nI_ge (by omega) (by decide)) ?_
        refine Rn.cv 60 rfl rfl rfl rfl rfl hh (by decide) ?_
        have ev : nI 10 * w (sg 13) 14 + nI (B i) - nI 48 = nI v' := by rw [h14, pk_mul, nI_add, pk_sub (by omega), hv']
        rw [← ev] at fin
        exact Rn.at 4 rfl fin
      · rw [if_neg e] at hv'
        subst hv'
        refine Rn.if2t 60 rfl rfl (by dsimp only [tm_c2P]; rw [h11, h12, pk_sub ha]; exact nI_le (by omega) (by omega)) ?_
        rw [← h14] at fin
        exact Rn.at 2 rfl fin
theorem tkn_le {B : Nat → Nat} {N a : Nat} (h : a ≤ N) : (tkn B N a).2.2 ≤ N := by
  unfold tkn
  split
  · exact h
  · split
    · exact (nmN_ok (B := B) (N := N) (a := a) (N - a) a 0 (Or.inl ⟨rfl, rfl⟩) h).2
    · show a + 1 ≤ N
      omega
theorem m_next {w : Wd} {N a : Nat} {B : Nat → Nat} (ht : TpM w N B) (ha : a ≤ N) (h11 : w (sg 13) 11 = nI a) : ∃ w', Cl 2 jM_next [vR (sg 13)] w (none, w') ∧ KFr w w' ∧ TkM w' N B a := by
  have hN := ht.1
  have f0 : KFr w (wset (wset w (sg 13) 12 (nI a)) (sg 13) 14 (nI 0)) := (KFr.set (by decide)).tr (KFr.set (by decide))
  have g11 : wset (wset w (sg 13) 12 (nI a)) (sg 13) 14 (nI 0) (sg 13) 11 = nI a := by rw [wset_k (by decide), wset_k (by decide)]; exact h11
  have g12 : wset (wset w (sg 13) 12 (nI a)) (sg 13) 14 (nI 0) (sg 13) 12 = nI a := by rw [wset_k (by decide), wset_s]
  have ht0 := ht.k f0
  have start : ∀ {v : Int32} {r : Rs}, Cl 1 jM_here [vR (sg 13)] (wset (wset w (sg 13) 12 (nI a)) (sg 13) 14 (nI 0)) (some (vI v), wset (wset w (sg 13) 12 (nI a)) (sg 13) 14 (nI 0)) → Rn none 1 jM_next (18, [some (vR (sg 13)), some (vI v)], [], wset (wset w (sg 13) 12 (nI a)) (sg 13) 14 (nI 0)) r → Cl 2 jM_next [vR (sg 13)] w r := by
    intro v r hh k
    refine Cl.of rfl rfl rfl (lc := [some (vR (sg 13)), none]) rfl ?_
    rw [← h11] at hh k
    refine Rn.cv 60 rfl rfl rfl rfl rfl hh (by decide) ?_
    exact Rn.at 1 rfl k
  unfold TkM tkn
  by_cases c1 : N ≤ a
  · rw [if_pos c1]
    refine ⟨wset (wset (wset w (sg 13) 12 (nI a)) (sg 13) 14 (nI 0)) (sg 13) 13 (nI 0), start (m_here_out ht0 g11 c1 (by omega)) ?_, f0.tr (KFr.set (by decide)), ?_, wset_s, ?_, ?_⟩
    · refine Rn.if1f 60 rfl rfl (by dsimp only [tm_c2P]; decide) ?_
      exact Rn.vr 60 rfl rfl rfl rfl
    · rw [wset_k (by decide)]; exact g12
    · rw [wset_k (by decide), wset_s]
    · rw [wset_k (by decide)]; exact g11
  rw [if_neg c1]
  have hb := ht.2.1 a (by omega)
  have hh := m_here_in ht0 g11 (show a < N by omega)
  have mf := m_fig (w := wset (wset w (sg 13) 12 (nI a)) (sg 13) 14 (nI 0)) hb
  cases hf : fig (B a) with
  | true =>
    rw [if_pos rfl]
    rw [hf] at mf
    obtain ⟨w1, a1, a2, a3, a4, a5⟩ := m_figs (x1 := some (vI (nI (B a)))) (N - a) a 0 _ (by omega) (Nat.le_refl _) (Or.inl ⟨rfl, rfl⟩) ht0 g11 wset_s g12
    have ho := nmN_ok (B := B) (N := N) (a := a) (N - a) a 0 (Or.inl ⟨rfl, rfl⟩) ha
    have hq : nm B N a = nmN B N a (N - a) a 0 := rfl
    rw [← hq] at a2 a3 ho
    have hge : a ≤ (nm B N a).1 := by have := ho.1; unfold nmI at this; omega
    refine ⟨wset w1 (sg 13) 13 (if a + 3 < (nm B N a).1 then -(nI 1) else nI 1), start hh ?_, (f0.tr a1).tr (KFr.set (by decide)), ?_, wset_s, ?_, ?_⟩
    · refine Rn.if1t 60 rfl rfl (nI_pos' (by omega)) ?_
      refine Rn.cs 60 rfl rfl rfl rfl mf (by decide) ?_
      refine Rn.if1f 60 rfl rfl (by dsimp only [tm_c2P]; decide) ?_
      refine a5 _ ?_
      by_cases e : a + 3 < (nm B N a).1
      · rw [if_pos e]
        refine Rn.if2f 60 rfl rfl (by dsimp only [tm_c2P]; rw [a2, a4, pk_sub hge, Int32.not_le]; exact nI_lt (by omega) (by omega)) ?_
        exact Rn.vr 60 rfl rfl rfl rfl
      · rw [if_neg e]
        refine Rn.if2t 60 rfl rfl (by dsimp only [tm_c2P]; rw [a2, a4, pk_sub hge]; exact nI_le (by omega) (by decide)) ?_
        exact Rn.vr 60 rfl rfl rfl rfl
    · rw [wset_k (by decide)]; exact a4
    · rw [wset_k (by decide)]; exact a3
    · rw [wset_k (by decide)]; exact a2
  | false =>
    rw [if_neg (by decide)]
    rw [hf] at mf
    refine ⟨wset (wset (wset (wset w (sg 13) 12 (nI a)) (sg 13) 14 (nI 0)) (sg 13) 11 (nI (a + 1))) (sg 13) 13 (if sgn (B a) = true then nI (B a) else -(nI 1)), start hh ?_, (f0.tr (KFr.set (by decide))).tr (KFr.set (by decide)), ?_, wset_s, ?_, ?_⟩
    · refine Rn.if1t 60 rfl rfl (nI_pos' (by omega)) ?_
      refine Rn.cs 60 rfl rfl rfl rfl mf (by decide) ?_
      refine Rn.if1t 60 rfl rfl (by dsimp only [tm_c2P]; decide) ?_
      have mi : ∀ {W : Wd}, Cl 1 jM_in [vI (nI (B a)), vI (nI 97), vI (nI 122)] W (some (vI (bI (decide (97 ≤ B a) && decide (B a ≤ 122)))), W) := by
        intro W
        have k := m_in (w := W) (x := nI (B a)) (y := nI 97) (z := nI 122)
        rw [show decide (nI 97 ≤ nI (B a)) = decide (97 ≤ B a) from decide_eq_decide.mpr (nJ_le (by decide) (by omega)), show decide (nI (B a) ≤ nI 122) = decide (B a ≤ 122) from decide_eq_decide.mpr (nJ_le (by omega) (by decide))] at k
        exact k
      have e1 : wset (wset w (sg 13) 12 (nI a)) (sg 13) 14 (nI 0) (sg 13) 11 + nI 1 = nI (a + 1) := by rw [g11, nI_add]
      rw [← e1]
      refine Rn.cs 60 rfl rfl rfl rfl mi (by decide) ?_
      unfold sgn
      cases hl : decide (97 ≤ B a) && decide (B a ≤ 122) with
      | true =>
        rw [if_pos (by simp)]
        refine Rn.if1t 60 rfl rfl (by dsimp only [tm_c2P]; decide) ?_
        exact Rn.vr 60 rfl rfl rfl rfl
      | false =>
        refine Rn.if1f 60 rfl rfl (by dsimp only [tm_c2P]; decide) ?_
        by_cases e44 : B a = 44
        · rw [if_pos (by simp [e44])]
          refine Rn.if2t 60 rfl rfl (by dsimp only [tm_c2P]; rw [e44]) ?_
          exact Rn.vr 60 rfl rfl rfl rfl
        · refine Rn.if2f 60 rfl rfl (by dsimp only [tm_c2P]; rw [nI_eq (by omega) (by decide)]; exact e44) ?_
          by_cases e59 : B a = 59
          · rw [if_pos (by simp [e59])]
            refine Rn.if2f 60 rfl rfl (by dsimp only [tm_c2P]; rw [e59]; exact fun z => z rfl) ?_
            exact Rn.vr 60 rfl rfl rfl rfl
          · rw [if_neg (by simp [e44, e59])]
            refine Rn.if2t 60 rfl rfl (by dsimp only [tm_c2P]; rw [nI_eq (by omega) (by decide)]; exact e59) ?_
            exact Rn.vr 60 rfl rfl rfl rfl
    · rw [wset_k (by decide), wset_k (by decide)]; exact g12
    · rw [wset_k (by decide), wset_k (by decide), wset_s]
    · rw [wset_k (by decide), wset_s]
