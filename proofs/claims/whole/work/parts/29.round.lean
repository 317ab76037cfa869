/-! the round that all comes to -/
theorem pigeon : ∀ (n : Nat) (f : Nat → Nat), (∀ i, i ≤ n → f i < n) → ∃ i j, i < j ∧ j ≤ n ∧ f i = f j
  | 0, f, h => absurd (h 0 (Nat.le_refl 0)) (by omega)
  | n + 1, f, h => by
    by_cases hx : ∃ i, i ≤ n ∧ f i = f (n + 1)
    · obtain ⟨i, h1, h2⟩ := hx
      exact ⟨i, n + 1, by omega, Nat.le_refl _, h2⟩
    · have hx : ∀ i, i ≤ n → f i ≠ f (n + 1) := fun i hi e => hx ⟨i, hi, e⟩
      have hv := h (n + 1) (Nat.le_refl _)
      obtain ⟨i, j, h1, h2, h3⟩ := pigeon n (fun i => if f i = n then f (n + 1) else f i) (fun i hi => by
        have a1 := h i (by omega)
        have a2 := hx i hi
        show (if f i = n then f (n + 1) else f i) < n
        split
        · omega
        · omega)
      refine ⟨i, j, h1, by omega, ?_⟩
      have a2 := hx i (by omega)
      have a3 := hx j h2
      have h3 : (if f i = n then f (n + 1) else f i) = (if f j = n then f (n + 1) else f j) := h3
      split at h3
      · split at h3
        · omega
        · exact absurd h3.symm a3
      · split at h3
        · exact absurd h3 a2
        · exact h3
abbrev NN := Nat × Nat
/-- F, n times -/
def itN (F : NN → NN) : Nat → NN → NN
  | 0, q => q
  | n + 1, q => F (itN F n q)
def brN (F : NN → NN) : Nat → NN → NN → Nat → Nat → Option Nat
  | 0, _, _, _, _ => none
  | f + 1, t, u, n, m => if F u = t then some (n + 1) else if n + 1 = m then brN F f (F u) (F u) 0 (2 * m) else brN F f t (F u) (n + 1) m
def tlN (F : NN → NN) : Nat → NN → NN → Nat → Option Nat
  | 0, _, _, _ => none
  | f + 1, t, u, n => if t = u then some n else tlN F f (F t) (F u) (n + 1)
def brL (F : NN → NN) (q : NN) : Nat := (brN F 20000 q q 0 1).getD 0
theorem itN_add (F : NN → NN) (q : NN) (n : Nat) : ∀ m, itN F (m + n) q = itN F m (itN F n q)
  | 0 => by rw [Nat.zero_add]; rfl
  | m + 1 => by
    rw [show m + 1 + n = (m + n) + 1 by omega]
    show F (itN F (m + n) q) = F (itN F m (itN F n q))
    rw [itN_add F q n m]
/-- what a round found says -/
theorem brN_some (F : NN → NN) (q : NN) : ∀ f n m L, n < m → brN F f (itN F (m - 1) q) (itN F (m - 1 + n) q) n m = some L → f + (m - 1 + n) ≤ 20000 → ∃ k, itN F (k + L) q = itN F k q ∧ k ≤ 20000 ∧ 1 ≤ L ∧ L ≤ 20000 := by
  intro f
  induction f with
  | zero => intro n m L _ h; cases h
  | succ f ih =>
    intro n m L hn h hf
    unfold brN at h
    have e1 : F (itN F (m - 1 + n) q) = itN F (m - 1 + (n + 1)) q := rfl
    rw [e1] at h
    by_cases c1 : itN F (m - 1 + (n + 1)) q = itN F (m - 1) q
    · rw [if_pos c1] at h
      cases h
      exact ⟨m - 1, c1, by omega, by omega, by omega⟩
    · rw [if_neg c1] at h
      by_cases c2 : n + 1 = m
      · rw [if_pos c2] at h
        refine ih 0 (2 * m) L (by omega) ?_ (by omega)
        rw [show 2 * m - 1 + 0 = m - 1 + (n + 1) by omega, show 2 * m - 1 = m - 1 + (n + 1) by omega]
        exact h
      · rw [if_neg c2] at h
        exact ih (n + 1) m L (by omega) h (by omega)
theorem brN_ends (F : NN → NN) (q : NN) {j : Nat} (hj : itN F (8191 + j) q = itN F 8191 q) (j1 : 1 ≤ j) (j2 : j ≤ 8192) : ∀ f n m e, m = 2 ^ e → e ≤ 13 → n < m → (e = 13 → n < j) → 20000 ≤ f + (m - 1 + n) → brN F f (itN F (m - 1) q) (itN F (m - 1 + n) q) n m ≠ none := by
  intro f
  induction f with
  | zero =>
    intro n m e hm he hn _ hf
    have : m ≤ 2 ^ 13 := by rw [hm]; exact Nat.pow_le_pow_right (by decide) he
    omega
  | succ f ih =>
    intro n m e hm he hn hc hf h
    unfold brN at h
    have e1 : F (itN F (m - 1 + n) q) = itN F (m - 1 + (n + 1)) q := rfl
    rw [e1] at h
    have c1 : ¬ itN F (m - 1 + (n + 1)) q = itN F (m - 1) q := fun c1 => by
      rw [if_pos c1] at h
      cases h
    rw [if_neg c1] at h
    have hne : e = 13 → n + 1 ≠ j := fun h13 hnj => by
      subst h13
      rw [hm, hnj] at c1
      exact c1 hj
    by_cases c2 : n + 1 = m
    · rw [if_pos c2] at h
      have he2 : e ≠ 13 := fun h13 => by
        have := hc h13
        have := hne h13
        subst h13
        omega
      refine ih 0 (2 * m) (e + 1) (by rw [hm, Nat.pow_succ]; omega) (by omega) (by omega) (fun _ => by omega) (by omega) ?_
      rw [show 2 * m - 1 + 0 = m - 1 + (n + 1) by omega, show 2 * m - 1 = m - 1 + (n + 1) by omega]
      exact h
    · rw [if_neg c2] at h
      exact ih (n + 1) m e hm he (by omega) (fun h13 => by have := hc h13; have := hne h13; omega) (by omega) h
theorem itN_in {F : NN → NN} {P : NN → Prop} (hF : ∀ q, P q → P (F q)) {q : NN} (h : P q) : ∀ n, P (itN F n q)
  | 0 => h
  | n + 1 => hF _ (itN_in hF h n)
def st8 (q : NN) : Prop := q.1 < 256 ∧ q.2 < 32
theorem brL_is {F : NN → NN} (hF : ∀ q, st8 q → st8 (F q)) {q : NN} (h : st8 q) : brN F 20000 q q 0 1 = some (brL F q) ∧ ∃ k, itN F (k + brL F q) q = itN F k q ∧ k ≤ 20000 ∧ 1 ≤ brL F q ∧ brL F q ≤ 20000 := by
  have hin := itN_in (P := st8) hF h
  obtain ⟨a, b, h1, h2, h3⟩ := pigeon 8192 (fun i => 32 * (itN F i q).1 + (itN F i q).2) (fun i _ => by
    have := hin i
    show 32 * (itN F i q).1 + (itN F i q).2 < 8192
    unfold st8 at this
    omega)
  have hab : itN F a q = itN F b q := by
    have i1 := hin a
    have i2 := hin b
    unfold st8 at i1 i2
    have h3 : 32 * (itN F a q).1 + (itN F a q).2 = 32 * (itN F b q).1 + (itN F b q).2 := h3
    exact Prod.ext (by omega) (by omega)
  have hj : itN F (8191 + (b - a)) q = itN F 8191 q := by
    rw [show 8191 + (b - a) = (8191 - a) + b by omega, itN_add, ← hab, ← itN_add, show 8191 - a + a = 8191 by omega]
  have hne := brN_ends F q hj (by omega) (by omega) 20000 0 1 0 rfl (by omega) (by omega) (fun z => by cases z) (by omega)
  have e : brN F 20000 q q 0 1 = some (brL F q) := by
    unfold brL
    have hne : brN F 20000 q q 0 1 ≠ none := hne
    cases hc : brN F 20000 q q 0 1 with
    | none => exact absurd hc hne
    | some L => rfl
  exact ⟨e, brN_some F q 20000 0 1 _ (by omega) e (by omega)⟩
def tlL (F : NN → NN) (q : NN) : Nat := (tlN F 30000 q (itN F (brL F q) q) 0).getD 0
theorem tlN_ends (F : NN → NN) {q : NN} {L k : Nat} (h : itN F (k + L) q = itN F k q) : ∀ f n, n ≤ k → k < f + n → ∃ t, tlN F f (itN F n q) (itN F (n + L) q) n = some t ∧ t ≤ k := by
  intro f
  induction f with
  | zero => intro n _ _; omega
  | succ f ih =>
    intro n h1 h2
    unfold tlN
    by_cases c : itN F n q = itN F (n + L) q
    · exact ⟨n, if_pos c, h1⟩
    · rw [if_neg c]
      have hn : n ≠ k := fun z => c (by rw [z, h])
      have := ih (n + 1) (by omega) (by omega)
      rw [show n + 1 + L = (n + L) + 1 by omega] at this
      exact this
theorem tlL_is {F : NN → NN} (hF : ∀ q, st8 q → st8 (F q)) {q : NN} (h : st8 q) : tlN F 30000 q (itN F (brL F q) q) 0 = some (tlL F q) ∧ tlL F q ≤ 20000 := by
  obtain ⟨_, k, h1, h2, h3, h4⟩ := brL_is hF h
  obtain ⟨t, h5, h6⟩ := tlN_ends F h1 30000 0 (by omega) (by omega)
  rw [Nat.zero_add] at h5
  have h5 : tlN F 30000 q (itN F (brL F q) q) 0 = some t := h5
  unfold tlL
  rw [h5]
  exact ⟨rfl, by show t ≤ 20000; omega⟩
