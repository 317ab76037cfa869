/-! the reference's tokens -/
def TpM (w : Wd) (N : Nat) (B : Nat → Nat) : Prop := N ≤ 160 ∧ (∀ i, i < N → B i < 256) ∧ w (sg 13) 10 = nI N ∧ ∀ i, i < N → w (sg 20) i = vp_nar .byte (nI (B i))
/-- a token taken: fields 11 to 14 of the reference -/
def KFr (w w' : Wd) : Prop := (∀ t, t ≠ sg 13 → w' t = w t) ∧ ∀ j, j < 11 ∨ 14 < j → w' (sg 13) j = w (sg 13) j
theorem KFr.rf {w : Wd} : KFr w w := ⟨fun _ _ => rfl, fun _ _ => rfl⟩
theorem KFr.tr {w w1 w2 : Wd} (h1 : KFr w w1) (h2 : KFr w1 w2) : KFr w w2 := ⟨fun t a => (h2.1 t a).trans (h1.1 t a), fun j a => (h2.2 j a).trans (h1.2 j a)⟩
theorem KFr.set {w : Wd} {j : Nat} {x : Int32} (h : 11 ≤ j ∧ j ≤ 14) : KFr w (wset w (sg 13) j x) := ⟨fun t a => wset_ne a, fun i a => wset_k (by omega)⟩
theorem TpM.k {w w' : Wd} {N : Nat} {B : Nat → Nat} (h : TpM w N B) (f : KFr w w') : TpM w' N B := ⟨h.1, h.2.1, (f.2 10 (by decide)).trans h.2.2.1, fun i hi => by rw [f.1 _ (sg_ne (by decide))]; exact h.2.2.2 i hi⟩
theorem byte255 : ∀ v, v < 256 → vp_nar .byte (nI v) &&& nI 255 = nI v := by decide +kernel
theorem m_here_in {w : Wd} {N a : Nat} {B : Nat → Nat} (h : TpM w N B) (ha : w (sg 13) 11 = nI a) (hl : a < N) : Cl 1 jM_here [vR (sg 13)] w (some (vI (nI (B a))), w) := by
  obtain ⟨hN, hB, h10, h20⟩ := h
  refine Cl.of rfl rfl rfl (lc := [some (vR (sg 13))]) rfl ?_
  refine Rn.if2f 60 rfl rfl (by dsimp only [tm_c2P]; rw [ha, h10]; exact nI_ge hl (by omega)) ?_
  refine Rn.bal 60 (y := 1) rfl rfl rfl ha (by omega) ?_
  rw [h20 a hl]
  refine Rn.ir 60 rfl rfl rfl ?_
  dsimp only
  rw [byte255 _ (hB a hl)]
theorem m_here_out {w : Wd} {N a : Nat} {B : Nat → Nat} (h : TpM w N B) (ha : w (sg 13) 11 = nI a) (hl : N ≤ a) (ha2 : a < 2 ^ 31) : Cl 1 jM_here [vR (sg 13)] w (some (vI (-(nI 1))), w) := by
  refine Cl.of rfl rfl rfl (lc := [some (vR (sg 13))]) rfl ?_
  refine Rn.if2t 60 rfl rfl (by dsimp only [tm_c2P]; rw [ha, h.2.2.1]; exact nI_le hl ha2) ?_
  exact Rn.ir 60 rfl rfl rfl rfl
theorem m_fig {w : Wd} {v : Nat} (h : v < 256) : Cl 1 jM_in [vI (nI v), vI (nI 48), vI (nI 57)] w (some (vI (bI (fig v))), w) := by
  have k := m_in (w := w) (x := nI v) (y := nI 48) (z := nI 57)
  rw [show decide (nI 48 ≤ nI v) = decide (48 ≤ v) from decide_eq_decide.mpr (nJ_le (by decide) (by omega)), show decide (nI v ≤ nI 57) = decide (v ≤ 57) from decide_eq_decide.mpr (nJ_le (by omega) (by decide))] at k
  exact k
theorem m_fig1 {w : Wd} : Cl 1 jM_in [vI (-(nI 1)), vI (nI 48), vI (nI 57)] w (some (vI (bI false)), w) := m_no1 (Or.inl (by decide))
