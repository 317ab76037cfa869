/-! the reference's fails, sign -/
theorem m_fails0 {w : Wd} {a : Nat} {x : Int32} (h0 : w (sg 13) 15 = nI 0) (h12 : w (sg 13) 12 = nI a) : Cl 1 jM_fails [vR (sg 13), vI x] w (none, wset (wset w (sg 13) 15 x) (sg 13) 16 (nI a)) := by
  refine Cl.of rfl rfl rfl (lc := [some (vR (sg 13)), some (vI x)]) rfl ?_
  refine Rn.if1f 60 rfl rfl (by dsimp only [tm_c2P]; rw [h0]; decide) ?_
  refine Rn.vr 60 rfl rfl rfl ?_
  rw [wset_k (by decide), h12]
theorem m_signF {w : Wd} {f : Nat} {x : Int32} (hf : 0 < f) (hf2 : f < 2 ^ 31) (h : w (sg 13) 15 = nI f) : Cl 1 jM_sign [vR (sg 13), vI x] w (none, w) := by
  refine Cl.of rfl rfl rfl (lc := [some (vR (sg 13)), some (vI x)]) rfl ?_
  refine Rn.if1t 60 rfl rfl (by dsimp only [tm_c2P]; rw [h]; exact nI_ne0 hf hf2) ?_
  exact Rn.vr 60 rfl rfl rfl rfl
theorem m_signNo {w : Wd} {a : Nat} {x : Int32} (h0 : w (sg 13) 15 = nI 0) (h12 : w (sg 13) 12 = nI a) (hx : w (sg 13) 13 ≠ x) : Cl 2 jM_sign [vR (sg 13), vI x] w (none, wset (wset w (sg 13) 15 (nI 1)) (sg 13) 16 (nI a)) := by
  refine Cl.of rfl rfl rfl (lc := [some (vR (sg 13)), some (vI x)]) rfl ?_
  refine Rn.if1f 60 rfl rfl (by dsimp only [tm_c2P]; rw [h0]; decide) ?_
  refine Rn.if2t 60 rfl rfl hx ?_
  refine Rn.cv 60 rfl rfl rfl rfl rfl (m_fails0 h0 h12) (by decide) ?_
  exact Rn.vr 60 rfl rfl rfl rfl
theorem m_signYes {w w' : Wd} {x : Int32} (h0 : w (sg 13) 15 = nI 0) (hx : w (sg 13) 13 = x) (hn : Cl 2 jM_next [vR (sg 13)] w (none, w')) : Cl 3 jM_sign [vR (sg 13), vI x] w (none, w') := by
  refine Cl.of rfl rfl rfl (lc := [some (vR (sg 13)), some (vI x)]) rfl ?_
  refine Rn.if1f 60 rfl rfl (by dsimp only [tm_c2P]; rw [h0]; decide) ?_
  refine Rn.if2f 60 rfl rfl (fun z => z hx) ?_
  refine Rn.cv 60 rfl rfl rfl rfl rfl hn (by decide) ?_
  exact Rn.vr 60 rfl rfl rfl rfl
