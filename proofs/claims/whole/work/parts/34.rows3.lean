/-! copy -/
theorem nJ_subL {L i k : Nat} (hL : L < 2 ^ 30) (hi : i < 2 ^ 31) (hk : k < 2 ^ 31) : nI L - nI i < nI k ↔ L < i + k := by
  rcases Nat.lt_or_ge L i with h | h
  · have h2 : (nI L - nI i).toInt = (L : Int) - i := by
      rw [Int32.toInt_sub, nI_toInt (by omega), nI_toInt hi]
      exact Int.bmod_eq_of_le (by omega) (by omega)
    rw [Int32.lt_iff_toInt_lt, h2, nI_toInt hk]
    omega
  · rw [pk_sub h, nJ_lt (by omega) hk]
    omega
theorem sp_hasNo {w : Wd} {r : Fin 8} {L : Nat} {x y : Int32} (hL : L < 2 ^ 30) (h3 : w (rw_ r 0) 3 = nI L) (h : ∀ i k, i < 2 ^ 31 → k < 2 ^ 31 → x = nI i → y = nI k → L < i + k) : Cl 1 jR_hasPlaces [vR (rw_ r 0), vI x, vI y] w (some (vI (bI false)), w) := by
  refine Cl.of rfl rfl rfl (lc := [some (vR (rw_ r 0)), some (vI x), some (vI y)]) rfl ?_
  refine Rn.if1 60 rfl rfl (fun _ => Rn.zr 60 rfl rfl rfl (by decide) rfl) (fun h1 => ?_)
  refine Rn.if1 60 rfl rfl (fun _ => Rn.zr 60 rfl rfl rfl (by decide) rfl) (fun h2 => ?_)
  obtain ⟨i, hi, rfl⟩ := nI_of h1
  obtain ⟨k, hk, rfl⟩ := nI_of h2
  have hh := h i k hi hk rfl rfl
  refine Rn.if2 60 rfl rfl (fun _ => Rn.zr 60 rfl rfl rfl (by decide) rfl) (fun h4 => ?_)
  dsimp only [tm_c2P] at h4
  rw [h3, nJ_lt (by omega) hk] at h4
  refine Rn.if2t 60 rfl rfl (by dsimp only [tm_c2P]; rw [h3, pk_sub (by omega), nJ_lt (by omega) hi]; omega) ?_
  exact Rn.zr 60 rfl rfl rfl (by decide) rfl
theorem sp_hasYes {w : Wd} {r : Fin 8} {L i k : Nat} (hL : L < 2 ^ 30) (h3 : w (rw_ r 0) 3 = nI L) (h : i + k ≤ L) : Cl 1 jR_hasPlaces [vR (rw_ r 0), vI (nI i), vI (nI k)] w (some (vI (bI true)), w) := by
  refine Cl.of rfl rfl rfl (lc := [some (vR (rw_ r 0)), some (vI (nI i)), some (vI (nI k))]) rfl ?_
  refine Rn.if1f 60 rfl rfl (nI_pos (by omega)) ?_
  refine Rn.if1f 60 rfl rfl (nI_pos (by omega)) ?_
  refine Rn.if2f 60 rfl rfl (by dsimp only [tm_c2P]; rw [h3]; exact nI_nlt (by omega) (by omega)) ?_
  refine Rn.if2f 60 rfl rfl (by dsimp only [tm_c2P]; rw [h3, pk_sub (by omega)]; exact nI_nlt (by omega) (by omega)) ?_
  exact Rn.zr 60 rfl rfl rfl (by decide) rfl
theorem place_or (x y : Int32) (L : Nat) : (∃ i k, x = nI i ∧ y = nI k ∧ i + k ≤ L) ∨ ∀ i k, i < 2 ^ 31 → k < 2 ^ 31 → x = nI i → y = nI k → L < i + k := by
  by_cases h1 : x < 0
  · exact Or.inr (fun i k hi hk e _ => absurd h1 (by rw [e]; exact nI_pos hi))
  by_cases h2 : y < 0
  · exact Or.inr (fun i k hi hk _ e => absurd h2 (by rw [e]; exact nI_pos hk))
  obtain ⟨i, hi, rfl⟩ := nI_of h1
  obtain ⟨k, hk, rfl⟩ := nI_of h2
  rcases Nat.lt_or_ge L (i + k) with h | h
  · refine Or.inr (fun i' k' hi' hk' e1 e2 => ?_)
    rw [nI_eq hi hi'] at e1
    rw [nI_eq hk hk'] at e2
    omega
  · exact Or.inl ⟨i, k, rfl, rfl, h⟩
/-- the reference's copy, after k of its steps -/
def cpM (w : Wd) (A B : Nat) (D : Nat → Bool) : Wd := fun t q => if t = sg 16 ∧ B ≤ q ∧ D (q - B) = true then w (sg 16) (A + (q - B)) else w t q
theorem cpM_step {w : Wd} {A B t : Nat} {D D' : Nat → Bool} (h1 : ¬ (B ≤ A + t ∧ D (A + t - B) = true)) (h2 : ∀ u, D' u = (D u || decide (u = t))) : wset (cpM w A B D) (sg 16) (B + t) (cpM w A B D (sg 16) (A + t)) = cpM w A B D' := by
  funext t' q
  have e : cpM w A B D (sg 16) (A + t) = w (sg 16) (A + t) := if_neg (fun z => h1 z.2)
  rw [e]
  unfold wset
  by_cases c1 : t' = sg 16
  · subst c1
    rw [if_pos rfl]
    by_cases c2 : q = B + t
    · subst c2
      unfold cpM
      rw [if_pos rfl, if_pos ⟨rfl, by omega, by rw [h2, show B + t - B = t by omega]; simp⟩, show B + t - B = t by omega]
    · rw [if_neg c2]
      unfold cpM
      by_cases c3 : B ≤ q
      · rw [h2, show decide (q - B = t) = false from decide_eq_false (by omega), Bool.or_false]
      · rw [if_neg (fun z => c3 z.2.1), if_neg (fun z => c3 z.2.1)]
  · rw [if_neg c1]
    unfold cpM
    rw [if_neg (fun z => c1 z.1), if_neg (fun z => c1 z.1)]
theorem cpM_0 {w : Wd} {A B : Nat} : cpM w A B (fun _ => false) = w := by
  funext t q
  exact if_neg (fun z => by cases z.2.2)
theorem m_copyloop {w : Wd} {a b i j n : Nat} {x1 : Option AV} (ha : a < 8) (hb : b < 8) (hi : i + n ≤ 40) (hj : j + n ≤ 40) (rt : Bool) (hr : rt = true ↔ i < j) {r0 : Rs} (k : Rn none 19 jM_copy (186, [some (vR (sg 13)), some (vI (nI a)), some (vI (nI i)), some (vI (nI b)), some (vI (nI j)), some (vI (nI n)), some (vI (bI rt)), some (vI (nI n)), (if n = 0 then x1 else some (vI (nI (if rt = true then 0 else n - 1))))], [], cpM w (40 * a + i) (40 * b + j) (fun u => decide (u < n))) r0) : Rn none 19 jM_copy (125, [some (vR (sg 13)), some (vI (nI a)), some (vI (nI i)), some (vI (nI b)), some (vI (nI j)), some (vI (nI n)), some (vI (bI rt)), some (vI (nI 0)), x1], [], w) r0 := by
  have key : ∀ m q, q + m = n → Rn none 19 jM_copy (125, [some (vR (sg 13)), some (vI (nI a)), some (vI (nI i)), some (vI (nI b)), some (vI (nI j)), some (vI (nI n)), some (vI (bI rt)), some (vI (nI q)), (if q = 0 then x1 else some (vI (nI (if rt = true then n - q else q - 1))))], [], cpM w (40 * a + i) (40 * b + j) (fun u => if rt = true then decide (n - q ≤ u ∧ u < n) else decide (u < q))) r0 := by
    intro m
    induction m with
    | zero =>
      intro q hq
      obtain rfl : q = n := by omega
      refine Rn.if2t 60 rfl rfl (nI_le (by omega) (by omega)) ?_
      have e1 : (fun u => if rt = true then decide (q - q ≤ u ∧ u < q) else decide (u < q)) = (fun u => decide (u < q)) := by
        funext u
        cases rt <;> simp
      rw [e1, show q - q = 0 by omega]
      exact k
    | succ m ih =>
      intro q hq
      have k1 := ih (q + 1) (by omega)
      refine Rn.if2f 60 rfl rfl (nI_ge (by omega) (by omega)) ?_
      cases rt with
      | true =>
        have hlt := hr.mp rfl
        refine Rn.if1f 60 rfl rfl (by dsimp only [tm_c2P]; decide) ?_
        refine Rn.al 60 (j := 40 * a + i + (n - 1 - q)) rfl rfl rfl (by dsimp only; rw [pk_sub (by omega), pk_sub (by omega), pk_mul, nI_add, nI_add]) (by omega) ?_
        refine Rn.as 60 (j := 40 * b + j + (n - 1 - q)) rfl rfl rfl (by dsimp only; rw [pk_sub (by omega), pk_sub (by omega), pk_mul, nI_add, nI_add]) (by omega) ?_
        rw [cpM_step (D' := fun u => if true = true then decide (n - (q + 1) ≤ u ∧ u < n) else decide (u < q + 1)) (fun z => ?_) (fun u => ?_)]
        · rw [if_neg (by omega), if_pos rfl, nI_succ q, show n - (q + 1) = n - 1 - q by omega, ← pk_sub (show q ≤ n - 1 by omega), ← pk_sub (show 1 ≤ n by omega), show n - 1 - q = n - (q + 1) by omega] at k1
          exact Rn.at 2 rfl k1
        · have z2 := z.2
          simp only [if_true, decide_eq_true_eq] at z2
          have := z.1
          rcases Nat.lt_trichotomy a b with e | e | e
          · omega
          · subst e
            omega
          · omega
        · simp only [if_true]
          rw [Bool.eq_iff_iff]
          simp only [Bool.or_eq_true, decide_eq_true_eq]
          omega
      | false =>
        have hlt : ¬ i < j := fun z => by cases hr.mpr z
        refine Rn.if1t 60 rfl rfl (by dsimp only [tm_c2P]; decide) ?_
        refine Rn.al 60 (j := 40 * a + i + q) rfl rfl rfl (by dsimp only; rw [pk_mul, nI_add, nI_add]) (by omega) ?_
        refine Rn.as 60 (j := 40 * b + j + q) rfl rfl rfl (by dsimp only; rw [pk_mul, nI_add, nI_add]) (by omega) ?_
        rw [cpM_step (D' := fun u => if false = true then decide (n - (q + 1) ≤ u ∧ u < n) else decide (u < q + 1)) (fun z => ?_) (fun u => ?_)]
        · rw [if_neg (by omega), if_neg (by decide), show q + 1 - 1 = q by omega, nI_succ q] at k1
          exact Rn.at 2 rfl k1
        · have z2 := z.2
          simp only [Bool.false_eq_true, if_false, decide_eq_true_eq] at z2
          have := z.1
          rcases Nat.lt_trichotomy a b with e | e | e
          · omega
          · subst e
            omega
          · omega
        · simp only [Bool.false_eq_true, if_false]
          rw [Bool.eq_iff_iff]
          simp only [Bool.or_eq_true, decide_eq_true_eq]
          omega
  have k0 := key n 0 (by omega)
  have e1 : (fun u => if rt = true then decide (n - 0 ≤ u ∧ u < n) else decide (u < 0)) = (fun _ => false) := by
    funext u
    cases rt
    · simp
    · simp
  rw [e1, cpM_0, if_pos rfl] at k0
  exact k0
def cpX (w : Wd) (a b : Fin 8) (i j n : Nat) : Wd := fun t k => if t = rw_ b 1 then va_cpy (w (rw_ a 1)) (w (rw_ b 1)) i j n k else w t k
theorem cl_copy2 {w : Wd} {a b : Fin 8} {i j n : Nat} (h0 : i + n ≤ 40) (h1 : j + n ≤ 40) : Cl 1 999 [vR (rw_ a 1), vI (nI i), vR (rw_ b 1), vI (nI j), vI (nI n)] w (none, cpX w a b i j n) := cl_copy rfl rfl h0 h1
theorem op_copy {x1 x2 x3 x4 x5 : Int32} : Op jX_copy jM_copy [vI x1, vI x2, vI x3, vI x4, vI x5] := by
  intro w hi
  rcases pk_or (x := x1) (n := 8) (by decide) with h1 | ⟨a, ha, rfl⟩
  · refine op_same hi (v := -(nI 1000001)) ?_ ?_
    · refine Cl.of rfl rfl rfl (lc := [some (vR (sg 0)), some (vI x1), some (vI x2), some (vI x3), some (vI x4), some (vI x5), none, none]) rfl ?_
      refine Rn.cs 60 rfl rfl rfl rfl (x_no (by decide) h1) (by decide) ?_
      refine Rn.if1t 60 rfl rfl (by dsimp only [tm_c2P]; decide) ?_
      exact Rn.ir 60 rfl rfl rfl rfl
    · refine Cl.of rfl rfl rfl (lc := [some (vR (sg 13)), some (vI x1), some (vI x2), some (vI x3), some (vI x4), some (vI x5), none, none, none]) rfl ?_
      refine Rn.cs 60 rfl rfl rfl rfl (m_isRow_no h1) (by decide) ?_
      refine Rn.if1t 60 rfl rfl (by dsimp only [tm_c2P]; decide) ?_
      exact Rn.ir 60 rfl rfl rfl rfl
  rcases pk_or (x := x3) (n := 8) (by decide) with h1 | ⟨b, hb, rfl⟩
  · refine op_same hi (v := -(nI 1000001)) ?_ ?_
    · refine Cl.of rfl rfl rfl (lc := [some (vR (sg 0)), some (vI (nI a)), some (vI x2), some (vI x3), some (vI x4), some (vI x5), none, none]) rfl ?_
      refine Rn.cs 60 rfl rfl rfl rfl (x_yes (by decide) ha) (by decide) ?_
      refine Rn.if1f 60 rfl rfl (by dsimp only [tm_c2P]; decide) ?_
      refine Rn.cs 60 rfl rfl rfl rfl (x_no (by decide) h1) (by decide) ?_
      refine Rn.if1f 60 rfl rfl (by dsimp only [tm_c2P]; decide) ?_
      exact Rn.ir 60 rfl rfl rfl rfl
    · refine Cl.of rfl rfl rfl (lc := [some (vR (sg 13)), some (vI (nI a)), some (vI x2), some (vI x3), some (vI x4), some (vI x5), none, none, none]) rfl ?_
      refine Rn.cs 60 rfl rfl rfl rfl (m_isRow_yes ha) (by decide) ?_
      refine Rn.if1f 60 rfl rfl (by dsimp only [tm_c2P]; decide) ?_
      refine Rn.cs 60 rfl rfl rfl rfl (m_isRow_no h1) (by decide) ?_
      refine Rn.if1f 60 rfl rfl (by dsimp only [tm_c2P]; decide) ?_
      exact Rn.ir 60 rfl rfl rfl rfl
  have cx : ∀ {w : Wd} {r0 : Rs}, Rn none 19 jX_copy (37, [some (vR (sg 0)), some (vI (nI a)), some (vI x2), some (vI (nI b)), some (vI x4), some (vI x5), some (vR (rw_ (Fin.ofNat 8 a) 0)), some (vR (rw_ (Fin.ofNat 8 b) 0))], [], w) r0 → Cl 20 jX_copy [vR (sg 0), vI (nI a), vI x2, vI (nI b), vI x4, vI x5] w r0 := by
    intro w r0 k
    refine Cl.of rfl rfl rfl (lc := [some (vR (sg 0)), some (vI (nI a)), some (vI x2), some (vI (nI b)), some (vI x4), some (vI x5), none, none]) rfl ?_
    refine Rn.cs 60 rfl rfl rfl rfl (x_yes (by decide) ha) (by decide) ?_
    refine Rn.if1f 60 rfl rfl (by dsimp only [tm_c2P]; decide) ?_
    refine Rn.cs 60 rfl rfl rfl rfl (x_yes (by decide) hb) (by decide) ?_
    refine Rn.if1t 60 rfl rfl (by dsimp only [tm_c2P]; decide) ?_
    refine Rn.row 60 rfl rfl rfl ha ?_
    refine Rn.row 60 rfl rfl rfl hb ?_
    exact Rn.at 1 rfl k
  have cm : ∀ {w : Wd} {r0 : Rs}, Rn none 19 jM_copy (17, [some (vR (sg 13)), some (vI (nI a)), some (vI x2), some (vI (nI b)), some (vI x4), some (vI x5), none, none, none], [], w) r0 → Cl 20 jM_copy [vR (sg 13), vI (nI a), vI x2, vI (nI b), vI x4, vI x5] w r0 := by
    intro w r0 k
    refine Cl.of rfl rfl rfl (lc := [some (vR (sg 13)), some (vI (nI a)), some (vI x2), some (vI (nI b)), some (vI x4), some (vI x5), none, none, none]) rfl ?_
    refine Rn.cs 60 rfl rfl rfl rfl (m_isRow_yes ha) (by decide) ?_
    refine Rn.if1f 60 rfl rfl (by dsimp only [tm_c2P]; decide) ?_
    refine Rn.cs 60 rfl rfl rfl rfl (m_isRow_yes hb) (by decide) ?_
    exact Rn.if1t 60 rfl rfl (by dsimp only [tm_c2P]; decide) k
  have z14 : ∀ {x : Int32} {r : Nat}, wset w (sg 0) 8 x (sg 14) r = w (sg 14) r := by
    intro x r
    rw [wset_ne (by decide)]
  rcases hi.2.1 a ha with ⟨a1, a2⟩ | ⟨a1, la, na, hla, hna, a2, a3, a4, a5, a6⟩
  · refine op_found hi (x := nI 1) (v := -(nI 1000010) - nI 1) (cx ?_) (cm ?_)
    · refine Rn.if1t 60 rfl rfl (by rw [a1]; dsimp only [tm_c2P]; decide) ?_
      refine Rn.cv 60 rfl rfl rfl rfl rfl x_found (by decide) ?_
      exact Rn.ir 60 rfl rfl rfl rfl
    · refine Rn.al 60 rfl rfl rfl rfl ha ?_
      rw [z14, a2]
      refine Rn.if1t 60 rfl rfl (by dsimp only [tm_c2P]; decide) ?_
      refine Rn.cv 60 rfl rfl rfl rfl rfl m_finds (by decide) ?_
      exact Rn.ir 60 rfl rfl rfl rfl
  have ga : ¬ nI (la + 1) = 0 := nI_ne0 (by omega) (by omega)
  rcases hi.2.1 b hb with ⟨b1, b2⟩ | ⟨b1, lb, nb, hlb, hnb, b2, b3, b4, b5, b6⟩
  · refine op_found hi (x := nI 1) (v := -(nI 1000010) - nI 1) (cx ?_) (cm ?_)
    · refine Rn.if1f 60 rfl rfl (by rw [a1]; dsimp only [tm_c2P]; decide) ?_
      refine Rn.if1f 60 rfl rfl (by rw [b1]; dsimp only [tm_c2P]; decide) ?_
      refine Rn.cv 60 rfl rfl rfl rfl rfl x_found (by decide) ?_
      exact Rn.ir 60 rfl rfl rfl rfl
    · refine Rn.al 60 rfl rfl rfl rfl ha ?_
      rw [z14, a3]
      refine Rn.if1f 60 rfl rfl ga ?_
      refine Rn.al 60 rfl rfl rfl rfl hb ?_
      rw [z14, b2]
      refine Rn.if1f 60 rfl rfl (by dsimp only [tm_c2P]; decide) ?_
      refine Rn.cv 60 rfl rfl rfl rfl rfl m_finds (by decide) ?_
      exact Rn.ir 60 rfl rfl rfl rfl
  have gb : ¬ nI (lb + 1) = 0 := nI_ne0 (by omega) (by omega)
  have dx : ∀ {r0 : Rs}, Rn none 19 jX_copy (59, [some (vR (sg 0)), some (vI (nI a)), some (vI x2), some (vI (nI b)), some (vI x4), some (vI x5), some (vR (rw_ (Fin.ofNat 8 a) 0)), some (vR (rw_ (Fin.ofNat 8 b) 0))], [], w) r0 → Cl 20 jX_copy [vR (sg 0), vI (nI a), vI x2, vI (nI b), vI x4, vI x5] w r0 := by
    intro r0 k
    refine cx ?_
    refine Rn.if1f 60 rfl rfl (by rw [a1]; dsimp only [tm_c2P]; decide) ?_
    exact Rn.if1t 60 rfl rfl (by rw [b1]; dsimp only [tm_c2P]; decide) k
  have dm : ∀ {w : Wd} {r0 : Rs}, w (sg 14) a = nI (la + 1) → w (sg 14) b = nI (lb + 1) → Rn none 19 jM_copy (53, [some (vR (sg 13)), some (vI (nI a)), some (vI x2), some (vI (nI b)), some (vI x4), some (vI x5), none, none, none], [vI (nI (lb + 1)), vI (nI (la + 1))], w) r0 → Cl 20 jM_copy [vR (sg 13), vI (nI a), vI x2, vI (nI b), vI x4, vI x5] w r0 := by
    intro w r0 q1 q2 k
    refine cm ?_
    refine Rn.al 60 rfl rfl rfl rfl ha ?_
    rw [q1]
    refine Rn.if1f 60 rfl rfl ga ?_
    refine Rn.al 60 rfl rfl rfl rfl hb ?_
    rw [q2]
    refine Rn.if1t 60 rfl rfl gb ?_
    refine Rn.al 60 rfl rfl rfl rfl ha ?_
    rw [q1]
    refine Rn.al 60 rfl rfl rfl rfl hb ?_
    rw [q2]
    exact k
  by_cases hl : la = lb
  · subst hl
    have ex : ∀ {r0 : Rs}, Rn none 19 jX_copy (78, [some (vR (sg 0)), some (vI (nI a)), some (vI x2), some (vI (nI b)), some (vI x4), some (vI x5), some (vR (rw_ (Fin.ofNat 8 a) 0)), some (vR (rw_ (Fin.ofNat 8 b) 0))], [], w) r0 → Cl 20 jX_copy [vR (sg 0), vI (nI a), vI x2, vI (nI b), vI x4, vI x5] w r0 := by
      intro r0 k
      refine dx ?_
      exact Rn.if2t 60 rfl rfl (by dsimp only [tm_c2P]; rw [a2, b2]) k
    have em : ∀ {w : Wd} {r0 : Rs}, w (sg 14) a = nI (la + 1) → w (sg 14) b = nI (la + 1) → Rn none 19 jM_copy (62, [some (vR (sg 13)), some (vI (nI a)), some (vI x2), some (vI (nI b)), some (vI x4), some (vI x5), none, none, none], [], w) r0 → Cl 20 jM_copy [vR (sg 13), vI (nI a), vI x2, vI (nI b), vI x4, vI x5] w r0 := by
      intro w r0 q1 q2 k
      refine dm q1 q2 ?_
      exact Rn.if2t 60 rfl rfl rfl k
    have bad : ((∀ i k, i < 2 ^ 31 → k < 2 ^ 31 → x2 = nI i → x5 = nI k → na < i + k) ∨ (∀ i k, i < 2 ^ 31 → k < 2 ^ 31 → x4 = nI i → x5 = nI k → nb < i + k)) → Rn none 19 jX_copy (101, [some (vR (sg 0)), some (vI (nI a)), some (vI x2), some (vI (nI b)), some (vI x4), some (vI x5), some (vR (rw_ (Fin.ofNat 8 a) 0)), some (vR (rw_ (Fin.ofNat 8 b) 0))], [], w) (some (vI (-(nI 1000010) - nI 2)), wset w (sg 0) 8 (nI 2)) → ∃ w1 w2 v, Cl 20 jX_copy [vR (sg 0), vI (nI a), vI x2, vI (nI b), vI x4, vI x5] w (some (vI v), w1) ∧ Cl 20 jM_copy [vR (sg 13), vI (nI a), vI x2, vI (nI b), vI x4, vI x5] w1 (some (vI v), w2) ∧ Inv w2 := by
      intro hbad _
      refine op_found hi (x := nI 2) (v := -(nI 1000010) - nI 2) (ex ?_) (em (z14.trans a3) (z14.trans b3) ?_)
      · have fin : Rn none 19 jX_copy (101, [some (vR (sg 0)), some (vI (nI a)), some (vI x2), some (vI (nI b)), some (vI x4), some (vI x5), some (vR (rw_ (Fin.ofNat 8 a) 0)), some (vR (rw_ (Fin.ofNat 8 b) 0))], [], w) (some (vI (-(nI 1000010) - nI 2)), wset w (sg 0) 8 (nI 2)) := by
          refine Rn.cv 60 rfl rfl rfl rfl rfl x_found (by decide) ?_
          exact Rn.ir 60 rfl rfl rfl rfl
        rcases place_or x2 x5 na with ⟨i, n, rfl, rfl, hin⟩ | hno
        · refine Rn.cv 60 rfl rfl rfl rfl rfl (sp_hasYes (by omega) a4 hin) (by decide) ?_
          refine Rn.if1f 60 rfl rfl (by dsimp only [tm_c2P]; decide) ?_
          have h2 := hbad.resolve_left (fun z => absurd (z i n (by omega) (by omega) rfl rfl) (by omega))
          refine Rn.cv 60 rfl rfl rfl rfl rfl (sp_hasNo (by omega) b4 h2) (by decide) ?_
          exact Rn.if1f 60 rfl rfl (by dsimp only [tm_c2P]; decide) fin
        · refine Rn.cv 60 rfl rfl rfl rfl rfl (sp_hasNo (by omega) a4 hno) (by decide) ?_
          exact Rn.if1t 60 rfl rfl (by dsimp only [tm_c2P]; decide) fin
      · have fin : Rn none 19 jM_copy (103, [some (vR (sg 13)), some (vI (nI a)), some (vI x2), some (vI (nI b)), some (vI x4), some (vI x5), none, none, none], [], wset w (sg 0) 8 (nI 2)) (some (vI (-(nI 1000010) - nI 2)), wset (wset w (sg 0) 8 (nI 2)) (sg 13) 3 (nI 2)) := by
          refine Rn.cv 60 rfl rfl rfl rfl rfl m_finds (by decide) ?_
          exact Rn.ir 60 rfl rfl rfl rfl
        have z15 : ∀ {x : Int32} {r : Nat}, wset w (sg 0) 8 x (sg 15) r = w (sg 15) r := by
          intro x r
          rw [wset_ne (by decide)]
        refine Rn.if1 60 rfl rfl (fun _ => fin) (fun h2 => ?_)
        refine Rn.if1 60 rfl rfl (fun _ => fin) (fun h4 => ?_)
        refine Rn.if1 60 rfl rfl (fun _ => fin) (fun h5 => ?_)
        obtain ⟨i, hi2, rfl⟩ := nI_of h2
        obtain ⟨j, hj2, rfl⟩ := nI_of h4
        obtain ⟨n, hn2, rfl⟩ := nI_of h5
        refine Rn.al 60 rfl rfl rfl rfl ha ?_
        rw [z15, a5]
        refine Rn.if2 60 rfl rfl (fun _ => fin) (fun h6 => ?_)
        dsimp only [tm_c2P] at h6
        rw [nJ_subL (by omega) hi2 hn2] at h6
        have h7 := hbad.resolve_left (fun z => absurd (z i n hi2 hn2 rfl rfl) h6)
        have h8 := h7 j n hj2 hn2 rfl rfl
        refine Rn.al 60 rfl rfl rfl rfl hb ?_
        rw [z15, b5]
        refine Rn.if2f 60 rfl rfl (by dsimp only [tm_c2P]; rw [Int32.not_le, nJ_subL (by omega) hj2 hn2]; exact h8) ?_
        exact fin
    have badd := fun hb2 => bad hb2 (by
      refine Rn.cv 60 rfl rfl rfl rfl rfl x_found (by decide) ?_
      exact Rn.ir 60 rfl rfl rfl rfl)
    rcases place_or x2 x5 na with ⟨i, n, rfl, rfl, hin⟩ | hno
    · rcases place_or x4 (nI n) nb with ⟨j, n', rfl, en, hjn⟩ | hno
      · obtain rfl : n = n' := by
          rw [nI_eq (by omega) (by omega)] at en
          exact en
        refine ⟨wset (cpX w (Fin.ofNat 8 a) (Fin.ofNat 8 b) i j n) (sg 0) 8 (nI 0), wset (cpM (wset (cpX w (Fin.ofNat 8 a) (Fin.ofNat 8 b) i j n) (sg 0) 8 (nI 0)) (40 * a + i) (40 * b + j) (fun u => decide (u < n))) (sg 13) 3 (nI 0), nI n, ex ?_, ?_, ?_⟩
        · refine Rn.cv 60 rfl rfl rfl rfl rfl (sp_hasYes (by omega) a4 hin) (by decide) ?_
          refine Rn.if1f 60 rfl rfl (by dsimp only [tm_c2P]; decide) ?_
          refine Rn.cv 60 rfl rfl rfl rfl rfl (sp_hasYes (by omega) b4 hjn) (by decide) ?_
          refine Rn.if1t 60 rfl rfl (by dsimp only [tm_c2P]; decide) ?_
          refine Rn.cs 60 rfl rfl rfl rfl (cl_copy2 (by omega) (by omega)) (by decide) ?_
          refine Rn.cv 60 rfl rfl rfl rfl rfl x_clean (by decide) ?_
          exact Rn.ir 60 rfl rfl rfl rfl
        · have zz : ∀ {s r : Nat}, s ≠ 0 → wset (cpX w (Fin.ofNat 8 a) (Fin.ofNat 8 b) i j n) (sg 0) 8 (nI 0) (sg s) r = w (sg s) r := by
            intro s r hs
            rw [wset_ne (fun z => hs (by cases z; rfl))]
            exact if_neg sg_rw
          refine em ((zz (by decide)).trans a3) ((zz (by decide)).trans b3) ?_
          refine Rn.if1f 60 rfl rfl (nI_pos (by omega)) ?_
          refine Rn.if1f 60 rfl rfl (nI_pos (by omega)) ?_
          refine Rn.if1f 60 rfl rfl (nI_pos (by omega)) ?_
          refine Rn.al 60 rfl rfl rfl rfl ha ?_
          refine Rn.if2f 60 rfl rfl (by dsimp only [tm_c2P]; rw [zz (by decide), a5, nJ_subL (by omega) (by omega) (by omega)]; omega) ?_
          refine Rn.al 60 rfl rfl rfl rfl hb ?_
          refine Rn.if2t 60 rfl rfl (by dsimp only [tm_c2P]; rw [zz (by decide), b5, ← Int32.not_lt, nJ_subL (by omega) (by omega) (by omega)]; omega) ?_
          have fin : Rn none 19 jM_copy (186, [some (vR (sg 13)), some (vI (nI a)), some (vI (nI i)), some (vI (nI b)), some (vI (nI j)), some (vI (nI n)), some (vI (bI (decide (i < j)))), some (vI (nI n)), (if n = 0 then none else some (vI (nI (if decide (i < j) = true then 0 else n - 1))))], [], cpM (wset (cpX w (Fin.ofNat 8 a) (Fin.ofNat 8 b) i j n) (sg 0) 8 (nI 0)) (40 * a + i) (40 * b + j) (fun u => decide (u < n))) (some (vI (nI n)), wset (cpM (wset (cpX w (Fin.ofNat 8 a) (Fin.ofNat 8 b) i j n) (sg 0) 8 (nI 0)) (40 * a + i) (40 * b + j) (fun u => decide (u < n))) (sg 13) 3 (nI 0)) := by
            refine Rn.cv 60 rfl rfl rfl rfl rfl m_well (by decide) ?_
            exact Rn.ir 60 rfl rfl rfl rfl
          have lp := m_copyloop (x1 := none) ha hb (by omega) (by omega) (decide (i < j)) (by simp) fin
          by_cases hij : i < j
          · rw [decide_eq_true hij] at lp
            refine Rn.if2f 60 rfl rfl (by dsimp only [tm_c2P]; rw [Int32.not_le]; exact nI_lt hij (by omega)) ?_
            exact Rn.at 5 rfl lp
          · rw [decide_eq_false hij] at lp
            refine Rn.if2t 60 rfl rfl (nI_le (by omega) (by omega)) ?_
            exact Rn.at 4 rfl lp
        · have sm : ∀ m, m ≠ 0 → m ≠ 1 → Same m w (wset (cpM (wset (cpX w (Fin.ofNat 8 a) (Fin.ofNat 8 b) i j n) (sg 0) 8 (nI 0)) (40 * a + i) (40 * b + j) (fun u => decide (u < n))) (sg 13) 3 (nI 0)) := by
            intro m n0 n1
            refine Same.tr (w1 := cpM (wset (cpX w (Fin.ofNat 8 a) (Fin.ofNat 8 b) i j n) (sg 0) 8 (nI 0)) (40 * a + i) (40 * b + j) (fun u => decide (u < n))) (Same.tr (w1 := wset (cpX w (Fin.ofNat 8 a) (Fin.ofNat 8 b) i j n) (sg 0) 8 (nI 0)) (Same.tr (w1 := cpX w (Fin.ofNat 8 a) (Fin.ofNat 8 b) i j n) (fun t q e => ?_) (Same.set (fun z => n0 z.symm))) (fun t q e => ?_)) (Same.set (fun z => n0 z.symm))
            · exact if_neg (fun z => by subst z; exact n1 e.symm)
            · exact if_neg (fun z => by
                obtain ⟨z, _⟩ := z
                subst z
                exact n1 e.symm)
          have r14 : ∀ {s q : Nat}, s ≠ 0 → s ≠ 13 → s ≠ 16 → wset (cpM (wset (cpX w (Fin.ofNat 8 a) (Fin.ofNat 8 b) i j n) (sg 0) 8 (nI 0)) (40 * a + i) (40 * b + j) (fun u => decide (u < n))) (sg 13) 3 (nI 0) (sg s) q = w (sg s) q := by
            intro s q h1 h2 h3
            rw [wset_ne (fun z => h2 (by cases z; rfl))]
            unfold cpM
            rw [if_neg (fun z => h3 (by cases z.1; rfl)), wset_ne (fun z => h1 (by cases z; rfl))]
            exact if_neg sg_rw
          have r16 : ∀ {q : Nat}, wset (cpM (wset (cpX w (Fin.ofNat 8 a) (Fin.ofNat 8 b) i j n) (sg 0) 8 (nI 0)) (40 * a + i) (40 * b + j) (fun u => decide (u < n))) (sg 13) 3 (nI 0) (sg 16) q = if 40 * b + j ≤ q ∧ q < 40 * b + j + n then w (sg 16) (40 * a + i + (q - (40 * b + j))) else w (sg 16) q := by
            intro q
            have e0 : ∀ k, wset (cpX w (Fin.ofNat 8 a) (Fin.ofNat 8 b) i j n) (sg 0) 8 (nI 0) (sg 16) k = w (sg 16) k := fun k => by
              rw [wset_ne (by decide)]
              exact if_neg sg_rw
            rw [wset_ne (by decide)]
            unfold cpM
            rw [e0, e0]
            by_cases c : 40 * b + j ≤ q ∧ q < 40 * b + j + n
            · rw [if_pos c, if_pos ⟨rfl, c.1, decide_eq_true (by omega)⟩]
            · rw [if_neg c, if_neg (fun z => c ⟨z.2.1, by have := of_decide_eq_true z.2.2; omega⟩)]
          have rX : ∀ {r : Fin 8} {p q : Nat}, wset (cpM (wset (cpX w (Fin.ofNat 8 a) (Fin.ofNat 8 b) i j n) (sg 0) 8 (nI 0)) (40 * a + i) (40 * b + j) (fun u => decide (u < n))) (sg 13) 3 (nI 0) (rw_ r p) q = cpX w (Fin.ofNat 8 a) (Fin.ofNat 8 b) i j n (rw_ r p) q := by
            intro r p q
            rw [wset_ne rw_sg]
            unfold cpM
            rw [if_neg (fun z => rw_sg z.1), wset_ne rw_sg]
          refine hi.row ?_ (fun r' hr' => ?_) sm
          · unfold FinI
            rw [wset_s, wset_ne (by decide)]
            unfold cpM
            rw [if_neg (fun z => absurd z.1 (by decide)), wset_s]
          · by_cases e : r' = b
            · subst e
              have f0 : ∀ q, cpX w (Fin.ofNat 8 a) (Fin.ofNat 8 r') i j n (rw_ (Fin.ofNat 8 r') 0) q = w (rw_ (Fin.ofNat 8 r') 0) q := fun q => if_neg (rw_p (by decide))
              refine Or.inr ⟨by rw [rX, f0]; exact b1, la, nb, hla, hnb, by rw [rX, f0]; exact b2, by rw [r14 (by decide) (by decide) (by decide)]; exact b3, by rw [rX, f0]; exact b4, by rw [r14 (by decide) (by decide) (by decide)]; exact b5, fun m hm => ?_⟩
              rw [rX, r16]
              unfold cpX va_cpy
              rw [if_pos rfl]
              by_cases c : j ≤ m ∧ m < j + n
              · rw [if_pos c, if_pos (by omega), a6 _ (by omega)]
                congr 1
                omega
              · rw [if_neg c, if_neg (by omega), b6 m hm]
            · refine (hi.2.1 r' hr').of (fun p => ?_) ?_ ?_ (fun m hm => ?_)
              · funext q
                rw [rX]
                exact if_neg (rw_ne hr' hb e)
              · exact r14 (by decide) (by decide) (by decide)
              · exact r14 (by decide) (by decide) (by decide)
              · rw [r16, if_neg (by omega)]
      · exact badd (Or.inr hno)
    · exact badd (Or.inl hno)
  · refine op_found hi (x := nI 5) (v := -(nI 1000010) - nI 5) (dx ?_) (dm (z14.trans a3) (z14.trans b3) ?_)
    · refine Rn.if2f 60 rfl rfl (by dsimp only [tm_c2P]; rw [a2, b2, nI_eq (by omega) (by omega)]; exact hl) ?_
      refine Rn.cv 60 rfl rfl rfl rfl rfl x_found (by decide) ?_
      exact Rn.ir 60 rfl rfl rfl rfl
    · refine Rn.if2f 60 rfl rfl (by dsimp only [tm_c2P]; rw [nI_eq (by omega) (by omega)]; omega) ?_
      refine Rn.cv 60 rfl rfl rfl rfl rfl m_finds (by decide) ?_
      exact Rn.ir 60 rfl rfl rfl rfl
