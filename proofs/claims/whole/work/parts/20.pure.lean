/-! A CITY AS NUMBERS: c is the plan, laid as the reference lays it (0 plots, 3 gates, 4 people; gate g at 8 + 2 g; person p at 24 + 5 p: sort, home, errand, wish, weight); o the open gates, sp the vetoes spent, wf the wishes, nr near, ti tie -/
def eN (c : Nat → Nat) (g : Nat) : Nat := 2 ^ c (8 + 2 * g) ||| 2 ^ c (9 + 2 * g)
def tch (c : Nat → Nat) (s g : Nat) : Bool := !decide (s &&& eN c g = 0)
def psN (c : Nat → Nat) (o : Nat) : Nat → Nat → Nat → Nat
  | 0, _, s => s
  | n + 1, g, s => psN c o n (g + 1) (bif o.testBit g && tch c s g then s ||| eN c g else s)
def rcN (c : Nat → Nat) (o : Nat) : Nat → Nat → Nat
  | 0, s => s
  | n + 1, s => rcN c o n (psN c o (c 3) 0 s)
def rc (c : Nat → Nat) (o q : Nat) : Nat := rcN c o 6 (2 ^ q)
def lvN (c : Nat → Nat) (o s : Nat) : Nat → Nat → Nat → Nat
  | 0, _, m => m
  | n + 1, g, m => lvN c o s n (g + 1) (bif o.testBit g && tch c s g then m ||| eN c g else m)
def lv (c : Nat → Nat) (o s : Nat) : Nat := lvN c o s (c 3) 0 s
def lvs (c : Nat → Nat) (o s : Nat) : Nat → Nat
  | 0 => s
  | k + 1 => lv c o (lvs c o s k)
def stT (c : Nat → Nat) (o s g : Nat) : Nat → Nat
  | 0 => 100
  | k + 1 => bif tch c (lvs c o s k) g then min (stT c o s g k) k else stT c o s g k
def so (c : Nat → Nat) (p : Nat) : Nat := c (24 + 5 * p)
def ho (c : Nat → Nat) (p : Nat) : Nat := c (25 + 5 * p)
def er (c : Nat → Nat) (p : Nat) : Nat := c (26 + 5 * p)
def we (c : Nat → Nat) (p : Nat) : Nat := c (28 + 5 * p)
def st (c : Nat → Nat) (o p g : Nat) : Nat := stT c o (2 ^ ho c p) g 6
def atH (c : Nat → Nat) (p g : Nat) : Bool := decide (c (8 + 2 * g) = ho c p) || decide (c (9 + 2 * g) = ho c p)
def wdN (c : Nat → Nat) (o p : Nat) : Nat → Nat → Bool
  | 0, _ => true
  | n + 1, g => bif atH c p g && o.testBit g then false else wdN c o p n (g + 1)
def wd (c : Nat → Nat) (o p : Nat) : Bool := wdN c o p (c 3) 0
def vc (c : Nat → Nat) (nr o p g : Nat) : Nat := if so c p = 5 then 0 else if st c o p g ≤ nr then we c p - st c o p g else bif decide (so c p = 2) && wd c o p then 1 else 0
def fo (c : Nat → Nat) (o : Nat) (wf : Nat → Nat) (p g : Nat) : Bool := if so c p = 3 then o.testBit g else (wf p).testBit g
def suN (c : Nat → Nat) (nr o : Nat) (wf : Nat → Nat) (g : Nat) (b : Bool) : Nat → Nat → Nat → Nat
  | 0, _, a => a
  | n + 1, p, a => suN c nr o wf g b n (p + 1) (if fo c o wf p g = b then a + vc c nr o p g else a)
def su (c : Nat → Nat) (nr o : Nat) (wf : Nat → Nat) (g : Nat) (b : Bool) : Nat := suN c nr o wf g b (c 4) 0 0
def ob (ti o g a b : Nat) : Bool := if a = b then decide (ti = 1) || (decide (ti = 2) && o.testBit g) else decide (b < a)
def vto (c : Nat → Nat) (nr o : Nat) (wf : Nat → Nat) (g sp p : Nat) : Bool := decide (so c p = 4) && !sp.testBit p && decide (st c o p g ≤ nr) && !(wf p).testBit g
def vtN (c : Nat → Nat) (nr o : Nat) (wf : Nat → Nat) (g sp : Nat) : Nat → Nat → Option Nat
  | 0, _ => none
  | n + 1, p => bif vto c nr o wf g sp p then some p else vtN c nr o wf g sp n (p + 1)
def daS (c : Nat → Nat) (nr ti : Nat) (wf : Nat → Nat) (o g th sp : Nat) : Nat × Nat := bif ob ti o g (su c nr o wf g true) (su c nr o wf g false) then (match vtN c nr o wf g sp (c 4) 0 with
  | some p => (th, sp ||| 2 ^ p)
  | none => (th ||| 2 ^ g, sp)) else (th, sp)
def daN (c : Nat → Nat) (nr ti : Nat) (wf : Nat → Nat) (o : Nat) : Nat → Nat → Nat × Nat → Nat × Nat
  | 0, _, q => q
  | n + 1, g, q => daN c nr ti wf o n (g + 1) (daS c nr ti wf o g q.1 q.2)
/-- a dawn: the open gates, the vetoes spent -/
def da (c : Nat → Nat) (nr ti : Nat) (wf : Nat → Nat) (q : Nat × Nat) : Nat × Nat := daN c nr ti wf q.1 (c 3) 0 (0, q.2)
def gl (c : Nat → Nat) (o p : Nat) : Bool := (rc c o (ho c p)).testBit (er c p)
def bsN (f : Nat → Bool) : Nat → Nat → Nat → Nat
  | 0, _, s => s
  | n + 1, p, s => bsN f n (p + 1) (s ||| bif f p then 2 ^ p else 0)
/-- a set of people, as bits -/
def bs (f : Nat → Bool) (n : Nat) : Nat := bsN f n 0 0
def PlOk (c : Nat → Nat) : Prop := c 0 ≤ 6 ∧ c 3 ≤ 8 ∧ c 4 ≤ 5 ∧ (∀ g, g < c 3 → c (8 + 2 * g) < c 0 ∧ c (9 + 2 * g) < c 0) ∧ ∀ p, p < c 4 → so c p ≤ 5 ∧ ho c p < c 0 ∧ er c p < c 0 ∧ we c p ≤ 20
-- what is reached stands still before there are more passes than plots
def pc6 (s : Nat) : Nat := (s.testBit 0).toNat + (s.testBit 1).toNat + (s.testBit 2).toNat + (s.testBit 3).toNat + (s.testBit 4).toNat + (s.testBit 5).toNat
theorem pc6_lt : ∀ a, a < 64 → ∀ b, b < 64 → a ||| b = b → a ≠ b → pc6 a < pc6 b := by decide +kernel
theorem pc6_le : ∀ n, n < 7 → ∀ a, a < 2 ^ n → pc6 a ≤ n := by decide +kernel
theorem pc6_1 : ∀ n, n < 6 → pc6 (2 ^ n) = 1 := by decide +kernel
theorem eN_lt' {c : Nat → Nat} (h : PlOk c) {g : Nat} (hg : g < c 3) : eN c g < 2 ^ c 0 := Nat.or_lt_two_pow (Nat.pow_lt_pow_right (by decide) (h.2.2.2.1 g hg).1) (Nat.pow_lt_pow_right (by decide) (h.2.2.2.1 g hg).2)
theorem p2_le {n : Nat} (h : n ≤ 6) : 2 ^ n ≤ 64 := Nat.pow_le_pow_right (n := 2) (by decide) h
theorem eN_lt {c : Nat → Nat} (h : PlOk c) {g : Nat} (hg : g < c 3) : eN c g < 64 := Nat.lt_of_lt_of_le (eN_lt' h hg) (p2_le h.1)
theorem or_sub (a b : Nat) : a ||| (a ||| b) = a ||| b := by rw [← Nat.or_assoc, Nat.or_self]
theorem sub_tr {a b d : Nat} (h1 : a ||| b = b) (h2 : b ||| d = d) : a ||| d = d := by rw [← h2, ← Nat.or_assoc, h1]
theorem psN_sub (c : Nat → Nat) (o : Nat) : ∀ n g s, s ||| psN c o n g s = psN c o n g s
  | 0, _, s => Nat.or_self s
  | n + 1, g, s => by
    unfold psN
    refine sub_tr ?_ (psN_sub c o n (g + 1) _)
    cases o.testBit g && tch c s g
    · exact Nat.or_self s
    · exact or_sub _ _
theorem psN_lt {c : Nat → Nat} (h : PlOk c) (o : Nat) : ∀ n g s, g + n = c 3 → s < 2 ^ c 0 → psN c o n g s < 2 ^ c 0
  | 0, _, s, _, hs => hs
  | n + 1, g, s, hg, hs => by
    unfold psN
    refine psN_lt h o n (g + 1) _ (by omega) ?_
    cases o.testBit g && tch c s g
    · exact hs
    · exact Nat.or_lt_two_pow hs (eN_lt' h (by omega))
theorem rcN_succ (c : Nat → Nat) (o : Nat) : ∀ n s, rcN c o (n + 1) s = psN c o (c 3) 0 (rcN c o n s)
  | 0, _ => rfl
  | n + 1, s => by
    show rcN c o (n + 1) (psN c o (c 3) 0 s) = _
    rw [rcN_succ c o n]
    rfl
theorem rcN_lt {c : Nat → Nat} (h : PlOk c) (o : Nat) : ∀ n s, s < 2 ^ c 0 → rcN c o n s < 2 ^ c 0
  | 0, _, hs => hs
  | n + 1, s, hs => rcN_lt h o n _ (psN_lt h o (c 3) 0 s (by omega) hs)
/-- a growing chain of sets: after n turns it stands still, or has n + 1 members -/
theorem grow {f : Nat → Nat} {F : Nat → Nat} {P : Nat} (hP : P ≤ 6) (hf : ∀ n, f (n + 1) = F (f n)) (hs : ∀ n, f n ||| f (n + 1) = f (n + 1)) (hl : ∀ n, f n < 2 ^ P) (h1 : 1 ≤ pc6 (f 0)) (h0 : 1 ≤ P) : ∀ n, P - 1 ≤ n → f (n + 1) = f n := by
  have l64 : ∀ n, f n < 64 := fun n => Nat.lt_of_lt_of_le (hl n) (p2_le hP)
  have stay : ∀ m n, m ≤ n → f (m + 1) = f m → f (n + 1) = f n := by
    intro m n hmn hm
    induction n with
    | zero => obtain rfl : m = 0 := by omega
              exact hm
    | succ n ih =>
      by_cases e : m = n + 1
      · subst e
        exact hm
      · rw [hf (n + 1), ih (by omega), ← hf n, ih (by omega)]
  have key : ∀ n, f (n + 1) = f n ∨ n + 1 ≤ pc6 (f n) := by
    intro n
    induction n with
    | zero => exact Or.inr h1
    | succ n ih =>
      by_cases e : f (n + 1) = f n
      · exact Or.inl (stay n (n + 1) (by omega) e)
      · right
        have h2 := ih.resolve_left e
        have h3 := pc6_lt _ (l64 n) _ (l64 (n + 1)) (hs n) (fun z => e z.symm)
        omega
  intro n hn
  refine stay (P - 1) n hn ?_
  by_cases e : f (P - 1 + 1) = f (P - 1)
  · exact e
  · exfalso
    have h2 := (key (P - 1)).resolve_left e
    have h3 := pc6_lt _ (l64 (P - 1)) _ (l64 (P - 1 + 1)) (hs (P - 1)) (fun z => e z.symm)
    have h4 := pc6_le P (by omega) _ (hl (P - 1 + 1))
    omega
theorem rc_eq {c : Nat → Nat} (h : PlOk c) (o : Nat) {q : Nat} (hq : q < c 0) : rcN c o (c 0 - 1) (2 ^ q) = rc c o q := by
  have h6 := h.1
  have hl : ∀ n, rcN c o n (2 ^ q) < 2 ^ c 0 := fun n => rcN_lt h o n _ (Nat.pow_lt_pow_right (by decide) hq)
  have hg := grow (f := fun n => rcN c o n (2 ^ q)) (F := psN c o (c 3) 0) h6 (fun n => rcN_succ c o n _) (fun n => by
    show rcN c o n (2 ^ q) ||| rcN c o (n + 1) (2 ^ q) = rcN c o (n + 1) (2 ^ q)
    rw [rcN_succ]
    exact psN_sub c o _ _ _) hl (by show 1 ≤ pc6 (2 ^ q); rw [pc6_1 q (by omega)]; exact Nat.le_refl 1) (by omega)
  have k : ∀ j, rcN c o (c 0 - 1 + j) (2 ^ q) = rcN c o (c 0 - 1) (2 ^ q) := by
    intro j
    induction j with
    | zero => rfl
    | succ j ih => exact (hg (c 0 - 1 + j) (by omega)).trans ih
  have k2 := k (6 - (c 0 - 1))
  rw [show c 0 - 1 + (6 - (c 0 - 1)) = 6 by omega] at k2
  exact k2.symm
theorem lvN_sub (c : Nat → Nat) (o s : Nat) : ∀ n g m, m ||| lvN c o s n g m = lvN c o s n g m
  | 0, _, m => Nat.or_self m
  | n + 1, g, m => by
    unfold lvN
    refine sub_tr ?_ (lvN_sub c o s n (g + 1) _)
    cases o.testBit g && tch c s g
    · exact Nat.or_self m
    · exact or_sub _ _
theorem lvN_lt {c : Nat → Nat} (h : PlOk c) (o s : Nat) : ∀ n g m, g + n = c 3 → m < 2 ^ c 0 → lvN c o s n g m < 2 ^ c 0
  | 0, _, m, _, hm => hm
  | n + 1, g, m, hg, hm => by
    unfold lvN
    refine lvN_lt h o s n (g + 1) _ (by omega) ?_
    cases o.testBit g && tch c s g
    · exact hm
    · exact Nat.or_lt_two_pow hm (eN_lt' h (by omega))
theorem lvs_lt {c : Nat → Nat} (h : PlOk c) (o : Nat) {s : Nat} (hs : s < 2 ^ c 0) : ∀ k, lvs c o s k < 2 ^ c 0
  | 0 => hs
  | k + 1 => lvN_lt h o _ _ _ _ (by omega) (lvs_lt h o hs k)
theorem stT_le {c : Nat → Nat} {o s g j : Nat} (ht : tch c (lvs c o s j) g = true) : ∀ k, j < k → stT c o s g k ≤ j
  | 0, h => absurd h (by omega)
  | k + 1, h => by
    by_cases e : j = k
    · subst e
      unfold stT
      rw [ht]
      exact Nat.min_le_right _ _
    · have ih := stT_le ht k (by omega)
      unfold stT
      cases tch c (lvs c o s k) g
      · exact ih
      · exact Nat.le_trans (Nat.min_le_left _ _) ih
theorem st_eq {c : Nat → Nat} (h : PlOk c) (o : Nat) {q : Nat} (hq : q < c 0) (g : Nat) : stT c o (2 ^ q) g (c 0) = stT c o (2 ^ q) g 6 := by
  have h6 := h.1
  have hl : ∀ n, lvs c o (2 ^ q) n < 2 ^ c 0 := lvs_lt h o (Nat.pow_lt_pow_right (by decide) hq)
  have hg := grow (f := lvs c o (2 ^ q)) (F := lv c o) h6 (fun n => rfl) (fun n => lvN_sub c o _ _ _ _) hl (by show 1 ≤ pc6 (2 ^ q); rw [pc6_1 q (by omega)]; exact Nat.le_refl 1) (by omega)
  have k : ∀ j, lvs c o (2 ^ q) (c 0 - 1 + j) = lvs c o (2 ^ q) (c 0 - 1) := by
    intro j
    induction j with
    | zero => rfl
    | succ j ih => exact (hg (c 0 - 1 + j) (by omega)).trans ih
  have k2 : ∀ j, stT c o (2 ^ q) g (c 0 + j) = stT c o (2 ^ q) g (c 0) := by
    intro j
    induction j with
    | zero => rfl
    | succ j ih =>
      show (bif tch c (lvs c o (2 ^ q) (c 0 + j)) g then min (stT c o (2 ^ q) g (c 0 + j)) (c 0 + j) else stT c o (2 ^ q) g (c 0 + j)) = _
      cases ht : tch c (lvs c o (2 ^ q) (c 0 + j)) g with
      | false => exact ih
      | true =>
        have e : lvs c o (2 ^ q) (c 0 + j) = lvs c o (2 ^ q) (c 0 - 1) := by
          have := k (j + 1)
          rw [show c 0 - 1 + (j + 1) = c 0 + j by omega] at this
          exact this
        rw [e] at ht
        have hle := stT_le ht (c 0) (by omega)
        rw [cond_true, ih]
        exact Nat.min_eq_left (by omega)
  have k3 := k2 (6 - c 0)
  rw [show c 0 + (6 - c 0) = 6 by omega] at k3
  exact k3.symm
theorem stT_100 {c : Nat → Nat} {o s g : Nat} : ∀ k, stT c o s g k ≤ 100
  | 0 => Nat.le_refl _
  | k + 1 => by
    unfold stT
    cases tch c (lvs c o s k) g
    · exact stT_100 k
    · exact Nat.le_trans (Nat.min_le_left _ _) (stT_100 k)
