/-! acts kept: the ring of the class, the row of the reference -/
def kpM (m : Nat) : Nat := if m < 24 then m else 23
def kpT (m : Nat) (S : Nat → Sn) : Nat → Sn := fun i => S (if m < 24 then i else i + 1)
def kpS (m : Nat) (S : Nat → Sn) (s : Sn) : Nat → Sn := fun i => if i = kpM m then s else kpT m S i
theorem kp_min {m : Nat} (h : m ≤ 24) : min (m + 1) 24 = kpM m + 1 := by
  unfold kpM
  split <;> omega
theorem kpM_le {m : Nat} : kpM m ≤ 23 := by
  unfold kpM
  split <;> omega
def kpW (w : Wd) (m x : Nat) (o sp dy : Nat) : Wd := wset (wset (cpW (wset (wset (wset w (sg 6) x (nI o)) (sg 7) x (nI sp)) (sg 8) x (nI dy)) (cit 0 7) (sg 9) 0 (x * 5) 5) (sg 5) 1 (nI ((x + 1) % 24))) (sg 5) 0 (nI (kpM m + 1))
theorem sg_ne {a b : Nat} (h : a ≠ b) : sg a ≠ sg b := fun z => h (by cases z; rfl)
theorem sp_keep {w : Wd} {c : Nat → Nat} {nr ti o sp dy m x : Nat} {wf : Nat → Nat} {S : Nat → Sn} (hc : PlOk c) (hd : DyIs w 0 c nr ti o sp dy wf) (hm : m ≤ 24) (hx : x < 24) (h : AcC w (c 4) m x S) : Cl 2 jA_keep [vR (sg 5), vR (cit 0 0)] w (none, kpW w m x o sp dy) ∧ AcC (kpW w m x o sp dy) (c 4) (kpM m + 1) ((x + 1) % 24) (kpS m S (o, sp, dy, wf)) := by
  have hc4 := hc.2.2.1
  obtain ⟨h0, h1, h2⟩ := h
  obtain ⟨d1, d2, d3, d4, d5, d6⟩ := hd
  constructor
  · refine Cl.of rfl rfl rfl (lc := [some (vR (sg 5)), some (vR (cit 0 0))]) rfl ?_
    refine Rn.as 60 rfl rfl rfl h1 hx ?_
    rw [d3]
    refine Rn.as 60 rfl rfl rfl (by rw [wset_ne (sg_ne (by decide))]; exact h1) hx ?_
    rw [wset_ne cit_sg, d4]
    refine Rn.as 60 rfl rfl rfl (by rw [wset_ne (sg_ne (by decide)), wset_ne (sg_ne (by decide))]; exact h1) hx ?_
    rw [wset_ne cit_sg, wset_ne cit_sg, d5]
    have e1 : ∀ t, wset (wset (wset w (sg 6) x (nI o)) (sg 7) x (nI sp)) (sg 8) x (nI dy) (sg 5) t = w (sg 5) t := fun t => by rw [wset_ne (sg_ne (by decide)), wset_ne (sg_ne (by decide)), wset_ne (sg_ne (by decide))]
    have cp := cl_copy (w := wset (wset (wset w (sg 6) x (nI o)) (sg 7) x (nI sp)) (sg 8) x (nI dy)) (s := cit 0 7) (d := sg 9) (a := 0) (b := x * 5) (n := 5) (n0 := 5) (n1 := 120) rfl rfl (by omega) (by omega)
    rw [← pk_mul, ← h1, ← e1 1] at cp
    refine Rn.cs 60 rfl rfl rfl rfl cp (by decide) ?_
    have e2 : cpW (wset (wset (wset w (sg 6) x (nI o)) (sg 7) x (nI sp)) (sg 8) x (nI dy)) (cit 0 7) (sg 9) 0 (x * 5) 5 (sg 5) 1 = nI x := by rw [cpW_ne (sg_ne (by decide)), e1, h1]
    have e3 : cpW (wset (wset (wset w (sg 6) x (nI o)) (sg 7) x (nI sp)) (sg 8) x (nI dy)) (cit 0 7) (sg 9) 0 (x * 5) 5 (sg 5) 0 = nI m := by rw [cpW_ne (sg_ne (by decide)), e1, h0]
    refine Rn.cs 60 rfl rfl rfl rfl (Cl.jdk rfl rfl) (by decide) ?_
    refine Rn.vr 60 rfl rfl rfl ?_
    unfold kpW
    dsimp only
    rw [wset_k (show (0 : Nat) ≠ 1 by decide), e2, e3, nI_add, nI_add, pk_rem (by omega) (by decide) (by decide), nJ_min (by omega) (by decide), kp_min hm]
  · have sl : ∀ i, i < kpM m + 1 → ∃ j, j = ((x + 1) % 24 + 24 - (kpM m + 1) + i) % 24 ∧ ((i = kpM m ∧ j = x) ∨ (i ≠ kpM m ∧ j ≠ x ∧ (if m < 24 then i else i + 1) < m ∧ j = (x + 24 - m + (if m < 24 then i else i + 1)) % 24)) := by
      intro i hi
      refine ⟨_, rfl, ?_⟩
      unfold kpM at *
      by_cases e : m < 24
      · rw [if_pos e] at *
        rw [if_pos e]
        by_cases ei : i = m
        · exact Or.inl ⟨ei, by omega⟩
        · exact Or.inr ⟨ei, by omega, by omega, by omega⟩
      · rw [if_neg e] at *
        rw [if_neg e]
        by_cases ei : i = 23
        · exact Or.inl ⟨ei, by omega⟩
        · exact Or.inr ⟨ei, by omega, by omega, by omega⟩
    refine ⟨?_, ?_, fun i hi => ?_⟩
    · unfold kpW
      rw [wset_s]
    · unfold kpW
      rw [wset_k (by decide), wset_s]
    · obtain ⟨j, e1, e2⟩ := sl i hi
      rw [← e1]
      have k6 : kpW w m x o sp dy (sg 6) j = if j = x then nI o else w (sg 6) j := by
        unfold kpW
        rw [wset_ne (sg_ne (by decide)), wset_ne (sg_ne (by decide)), cpW_ne (sg_ne (by decide)), wset_ne (sg_ne (by decide)), wset_ne (sg_ne (by decide))]
        by_cases e : j = x
        · subst e
          rw [wset_s, if_pos rfl]
        · rw [wset_k e, if_neg e]
      have k7 : kpW w m x o sp dy (sg 7) j = if j = x then nI sp else w (sg 7) j := by
        unfold kpW
        rw [wset_ne (sg_ne (by decide)), wset_ne (sg_ne (by decide)), cpW_ne (sg_ne (by decide)), wset_ne (sg_ne (by decide))]
        by_cases e : j = x
        · subst e
          rw [wset_s, if_pos rfl]
        · rw [wset_k e, wset_ne (sg_ne (by decide)), if_neg e]
      have k8 : kpW w m x o sp dy (sg 8) j = if j = x then nI dy else w (sg 8) j := by
        unfold kpW
        rw [wset_ne (sg_ne (by decide)), wset_ne (sg_ne (by decide)), cpW_ne (sg_ne (by decide))]
        by_cases e : j = x
        · subst e
          rw [wset_s, if_pos rfl]
        · rw [wset_k e, wset_ne (sg_ne (by decide)), wset_ne (sg_ne (by decide)), if_neg e]
      have k9 : ∀ p, p < 5 → kpW w m x o sp dy (sg 9) (5 * j + p) = if j = x then w (cit 0 7) p else w (sg 9) (5 * j + p) := by
        intro p hp
        unfold kpW
        rw [wset_ne (sg_ne (by decide)), wset_ne (sg_ne (by decide))]
        unfold cpW va_cpy
        rw [if_pos rfl]
        by_cases e : j = x
        · subst e
          rw [if_pos (by omega), if_pos rfl, wset_ne cit_sg, wset_ne cit_sg, wset_ne cit_sg]
          congr 1
          omega
        · rw [if_neg (by omega), if_neg e, wset_ne (sg_ne (by decide)), wset_ne (sg_ne (by decide)), wset_ne (sg_ne (by decide))]
      rw [k6, k7, k8]
      rcases e2 with ⟨f1, f2⟩ | ⟨f1, f2, f3, f4⟩
      · unfold kpS
        rw [if_pos f1, if_pos f2, if_pos f2, if_pos f2]
        refine ⟨rfl, rfl, rfl, fun p hp => ?_⟩
        rw [k9 p (by omega), if_pos f2]
        exact d6 p hp
      · unfold kpS kpT
        rw [if_neg f1, if_neg f2, if_neg f2, if_neg f2]
        obtain ⟨g1, g2, g3, g4⟩ := h2 _ f3
        rw [← f4] at g1 g2 g3 g4
        refine ⟨g1, g2, g3, fun p hp => ?_⟩
        rw [k9 p (by omega), if_neg f2]
        exact g4 p hp
