/-! a city's text, as numbers: a sign, a number from a place on, or the fault (its number, its place) -/
abbrev Ft : Type := Nat × Nat
def bd {X Y : Type} (x : Ft ⊕ X) (f : X → Ft ⊕ Y) : Ft ⊕ Y := match x with
  | .inl e => .inl e
  | .inr q => f q
def pS (B : Nat → Nat) (N a z : Nat) : Ft ⊕ Nat := if a < N ∧ B a = z then .inr (a + 1) else .inl (1, a)
def pN (B : Nat → Nat) (N a lo hi : Nat) : Ft ⊕ (Nat × Nat) := if (nm B N a).1 = a ∨ a + 3 < (nm B N a).1 then .inl (1, a) else if (nm B N a).2 < lo ∨ hi < (nm B N a).2 then .inl (2, a) else .inr ((nm B N a).2, (nm B N a).1)
theorem pS_ok {B : Nat → Nat} {N a z q : Nat} (e : pS B N a z = .inr q) : a < N ∧ B a = z ∧ q = a + 1 := by
  unfold pS at e
  split at e
  · next h =>
    cases e
    exact ⟨h.1, h.2, rfl⟩
  · cases e
theorem pS_no {B : Nat → Nat} {N a z : Nat} {f : Ft} (e : pS B N a z = .inl f) : ¬ (a < N ∧ B a = z) ∧ f = (1, a) := by
  unfold pS at e
  split at e
  · cases e
  · next h =>
    cases e
    exact ⟨h, rfl⟩
theorem pN_ok {B : Nat → Nat} {N a lo hi : Nat} {q : Nat × Nat} (e : pN B N a lo hi = .inr q) : ¬ ((nm B N a).1 = a ∨ a + 3 < (nm B N a).1) ∧ ¬ ((nm B N a).2 < lo ∨ hi < (nm B N a).2) ∧ q = ((nm B N a).2, (nm B N a).1) := by
  unfold pN at e
  split at e
  · cases e
  · next h1 =>
    split at e
    · cases e
    · next h2 =>
      cases e
      exact ⟨h1, h2, rfl⟩
theorem pN_le {B : Nat → Nat} {N a lo hi : Nat} {q : Nat × Nat} (ha : a ≤ N) (e : pN B N a lo hi = .inr q) : q.2 ≤ N ∧ lo ≤ q.1 ∧ q.1 ≤ hi := by
  obtain ⟨_, h2, rfl⟩ := pN_ok e
  have h3 := (nmN_ok (B := B) (N := N) (a := a) (N - a) a 0 (Or.inl ⟨rfl, rfl⟩) ha).2
  refine ⟨h3, ?_, ?_⟩
  · show lo ≤ (nm B N a).2
    omega
  · show (nm B N a).2 ≤ hi
    omega
/-! the class's signs and numbers, by these -/
def YFr (w w' : Wd) : Prop := (∀ t, t ≠ sg 2 → w' t = w t) ∧ ∀ j, j < 4 ∨ 5 < j → w' (sg 2) j = w (sg 2) j
theorem YFr.p {w w' : Wd} (h : YFr w w') : PFr w w' := ⟨h.1, fun j hj => h.2 j (by omega)⟩
theorem YFr.set {w : Wd} {j : Nat} {x : Int32} (h : 4 ≤ j ∧ j ≤ 5) : YFr w (wset w (sg 2) j x) := ⟨fun t a => wset_ne a, fun i a => wset_k (by omega)⟩
theorem YFr.tr {w w1 w2 : Wd} (h1 : YFr w w1) (h2 : YFr w1 w2) : YFr w w2 := ⟨fun t a => (h2.1 t a).trans (h1.1 t a), fun j a => (h2.2 j a).trans (h1.2 j a)⟩
theorem c_sNo {w : Wd} {N a z : Nat} {B : Nat → Nat} {f : Ft} (h : TpC w N B a) (hz : z < 256) (e : pS B N a z = .inl f) : ∃ w', Cl 2 jT_takeSign [vR (sg 2), vI (nI z)] w (some (vI (bI false)), w') ∧ PFr w w' ∧ Flt w' f.1 f.2 := by
  obtain ⟨e1, rfl⟩ := pS_no e
  exact ⟨_, (sp_takeSign h hz).2 e1, (PFr.set (by decide)).tr (PFr.set (by decide)), by rw [wset_k (by decide), wset_s], wset_s⟩
theorem c_sYes {w : Wd} {N a z q : Nat} {B : Nat → Nat} (h : TpC w N B a) (hz : z < 256) (e : pS B N a z = .inr q) : ∃ w', Cl 2 jT_takeSign [vR (sg 2), vI (nI z)] w (some (vI (bI true)), w') ∧ YFr w w' ∧ TpC w' N B q := by
  obtain ⟨e1, e2, rfl⟩ := pS_ok e
  exact ⟨_, (sp_takeSign h hz).1 ⟨e1, e2⟩, YFr.set (by decide), h.at (PFr.set (by decide)) (by omega) wset_s⟩
theorem c_nNo {w : Wd} {N a lo hi : Nat} {B : Nat → Nat} {f : Ft} (h : TpC w N B a) (hlo : lo < 256) (hhi : hi < 256) (e : pN B N a lo hi = .inl f) : ∃ w', Cl 3 jT_takeNumber [vR (sg 2), vI (nI lo), vI (nI hi)] w (some (vI (bI false)), w') ∧ PFr w w' ∧ Flt w' f.1 f.2 := by
  have k := sp_takeNumber h hlo hhi
  unfold pN at e
  split at e
  · next q =>
    rw [if_pos q] at k
    cases e
    exact ⟨_, k, (PFr.set (by decide)).tr (PFr.set (by decide)), by rw [wset_k (by decide), wset_s], wset_s⟩
  · next q =>
    rw [if_neg q] at k
    split at e
    · next q2 =>
      rw [if_pos q2] at k
      cases e
      exact ⟨_, k, (PFr.set (by decide)).tr (PFr.set (by decide)), by rw [wset_k (by decide), wset_s], wset_s⟩
    · cases e
theorem c_nYes {w : Wd} {N a lo hi : Nat} {B : Nat → Nat} {q : Nat × Nat} (h : TpC w N B a) (hlo : lo < 256) (hhi : hi < 256) (e : pN B N a lo hi = .inr q) : ∃ w', Cl 3 jT_takeNumber [vR (sg 2), vI (nI lo), vI (nI hi)] w (some (vI (bI true)), w') ∧ YFr w w' ∧ TpC w' N B q.2 ∧ w' (sg 2) 5 = nI q.1 := by
  have k := sp_takeNumber h hlo hhi
  have hl := (pN_le h.2.2.1 e).1
  obtain ⟨g1, g2, rfl⟩ := pN_ok e
  rw [if_neg g1, if_neg g2] at k
  exact ⟨_, k, (YFr.set (by decide)).tr (YFr.set (by decide)), h.at ((PFr.set (by decide)).tr (PFr.set (by decide))) hl (by rw [wset_k (by decide), wset_s]), wset_s⟩
/-- a stage of the class's reading: what it began with, what stands, what the draft is by now, where it reads -/
def CFr (w w' : Wd) : Prop := (∀ t, t ≠ sg 2 → (∀ p, t ≠ cit 1 p) → w' t = w t) ∧ ∀ j, j < 2 ∨ 5 < j → w' (sg 2) j = w (sg 2) j
def CSt (w W V : Wd) (N : Nat) (B : Nat → Nat) (a : Nat) : Prop := TpC W N B a ∧ CFr w W ∧ W (sg 2) 2 = w (sg 2) 2 ∧ ∀ p, W (cit 1 p) = V (cit 1 p)
theorem CFr.rf {w : Wd} : CFr w w := ⟨fun _ _ _ => rfl, fun _ _ => rfl⟩
theorem CFr.tr {w w1 w2 : Wd} (h1 : CFr w w1) (h2 : CFr w1 w2) : CFr w w2 := ⟨fun t a b => (h2.1 t a b).trans (h1.1 t a b), fun j a => (h2.2 j a).trans (h1.2 j a)⟩
theorem PFr.c {w w' : Wd} (h : PFr w w') : CFr w w' := ⟨fun t a _ => h.1 t a, h.2⟩
theorem CFr.wc {w : Wd} {p j : Nat} {x : Int32} : CFr w (wset w (cit 1 p) j x) := ⟨fun t _ b => wset_ne (b p), fun i _ => by rw [wset_ne sg_cit]⟩
theorem TpC.wc {w : Wd} {N a p j : Nat} {k : Fin 6} {x : Int32} {B : Nat → Nat} (h : TpC w N B a) : TpC (wset w (cit k p) j x) N B a := ⟨h.1, h.2.1, h.2.2.1, by rw [wset_ne sg_cit]; exact h.2.2.2.1, by rw [wset_ne sg_cit]; exact h.2.2.2.2.1, fun i hi => by rw [wset_ne sg_cit]; exact h.2.2.2.2.2 i hi⟩
theorem CSt.rf {w : Wd} {N a : Nat} {B : Nat → Nat} (h : TpC w N B a) : CSt w w w N B a := ⟨h, CFr.rf, rfl, fun _ => rfl⟩
theorem CSt.take {w W W' V : Wd} {N a a' : Nat} {B : Nat → Nat} (h : CSt w W V N B a) (y : YFr W W') (t : TpC W' N B a') : CSt w W' V N B a' := ⟨t, h.2.1.tr y.p.c, (y.2 2 (by decide)).trans h.2.2.1, fun p => (y.1 _ cit_sg).trans (h.2.2.2 p)⟩
theorem wset_cg {w w' : Wd} {t u : TA} {j : Nat} {x : Int32} (h : w t = w' t) (h2 : w u = w' u) : wset w u j x t = wset w' u j x t := by
  funext k
  unfold wset
  by_cases e : t = u
  · subst e
    rw [if_pos rfl, if_pos rfl, h]
  · rw [if_neg e, if_neg e, h]
theorem CSt.put {w W V : Wd} {N a p j : Nat} {x : Int32} {B : Nat → Nat} (h : CSt w W V N B a) : CSt w (wset W (cit 1 p) j x) (wset V (cit 1 p) j x) N B a := ⟨h.1.wc, h.2.1.tr CFr.wc, by rw [wset_ne sg_cit]; exact h.2.2.1, fun q => wset_cg (h.2.2.2 q) (h.2.2.2 p)⟩
theorem CSt.tr {w W V W' V' : Wd} {N a a' : Nat} {B : Nat → Nat} (h : CSt w W V N B a) (h2 : CSt W W' V' N B a') : CSt w W' V' N B a' := ⟨h2.1, h.2.1.tr h2.2.1, h2.2.2.1.trans h.2.2.1, h2.2.2.2⟩
/-! the text's grammar -/
def pGate (B : Nat → Nat) (N P a : Nat) : Ft ⊕ (Nat × Nat × Nat × Nat) := bd (pN B N a 0 (P - 1)) fun q1 => bd (pS B N q1.2 44) fun a2 => bd (pN B N a2 0 (P - 1)) fun q3 => if q1.1 = q3.1 then .inl (2, a2) else bd (pS B N q3.2 44) fun a4 => bd (pN B N a4 0 1) fun q5 => bd (pS B N q5.2 59) fun a6 => .inr (q1.1, q3.1, q5.1, a6)
def pPers (B : Nat → Nat) (N P M a : Nat) : Ft ⊕ (Nat × Nat × Nat × Nat × Nat) := bd (pN B N a 0 (P - 1)) fun q1 => bd (pS B N q1.2 44) fun a2 => bd (pN B N a2 0 (P - 1)) fun q3 => bd (pS B N q3.2 44) fun a4 => bd (pN B N a4 0 (2 ^ M - 1)) fun q5 => bd (pS B N q5.2 44) fun a6 => bd (pN B N a6 0 20) fun q7 => bd (pS B N q7.2 59) fun a8 => .inr (q1.1, q3.1, q5.1, q7.1, a8)
def pHead (B : Nat → Nat) (N : Nat) : Ft ⊕ (Nat × Nat × Nat × Nat) := bd (pS B N 0 112) fun a1 => bd (pN B N a1 2 6) fun q2 => bd (pS B N q2.2 44) fun a3 => bd (pN B N a3 0 3) fun q4 => bd (pS B N q4.2 44) fun a5 => bd (pN B N a5 0 2) fun q6 => bd (pS B N q6.2 59) fun a7 => .inr (q2.1, q4.1, q6.1, a7)
def sof (v : Nat) : Nat := if v = 118 then 1 else if v = 119 then 2 else if v = 109 then 3 else if v = 120 then 4 else if v = 115 then 5 else 0
def gC (c : Nat → Nat) (u v : Nat) : Nat → Nat := fun k => if k = 3 then c 3 + 1 else if k = 8 + 2 * c 3 then u else if k = 9 + 2 * c 3 then v else c k
def qC (c : Nat → Nat) (s h e g : Nat) : Nat → Nat := fun k => if k = 4 then c 4 + 1 else if k = 24 + 5 * c 4 then s else if k = 25 + 5 * c 4 then h else if k = 26 + 5 * c 4 then e else if k = 28 + 5 * c 4 then g else c k
def pGs (B : Nat → Nat) (N : Nat) : Nat → (Nat → Nat) → Nat → Nat → Ft ⊕ ((Nat → Nat) × Nat × Nat)
  | 0, c, o, a => if a < N ∧ B a = 103 then .inl (3, a) else .inr (c, o, a)
  | n + 1, c, o, a => if a < N ∧ B a = 103 then bd (pGate B N (c 0) (a + 1)) fun q => pGs B N n (gC c q.1 q.2.1) (o ||| q.2.2.1 * 2 ^ c 3) q.2.2.2 else .inr (c, o, a)
def pPs (B : Nat → Nat) (N : Nat) : Nat → (Nat → Nat) → (Nat → Nat) → Nat → Ft ⊕ ((Nat → Nat) × (Nat → Nat))
  | 0, c, wf, a => if a < N then (if sof (B a) = 0 then .inl (1, a) else .inl (3, a)) else .inr (c, wf)
  | n + 1, c, wf, a => if a < N then (if sof (B a) = 0 then .inl (1, a) else bd (pPers B N (c 0) (c 3) (a + 1)) fun q => pPs B N n (qC c (sof (B a)) q.1 q.2.1 q.2.2.2.1) (upW wf (c 4) q.2.2.1) q.2.2.2.2) else .inr (c, wf)
def c1 (P : Nat) : Nat → Nat := fun k => if k = 0 then P else 0
def pCity (B : Nat → Nat) (N : Nat) : Ft ⊕ ((Nat → Nat) × Nat × Nat × Nat × (Nat → Nat)) := bd (pHead B N) fun q => bd (pGs B N 8 (c1 q.1) 0 q.2.2.2) fun g => bd (pPs B N 5 g.1 (fun _ => 0) g.2.2) fun s => .inr (s.1, q.2.1, q.2.2.1, g.2.1, s.2)
