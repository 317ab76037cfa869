/-! the law: call after call of a script -/
theorem tm_in_nI2 {j n : Nat} (h : j < n) (hn : n < 2 ^ 31) : tm_in (nI j) n = true := by
  have h1 := nI_in (c := j) (N := n) h hn
  unfold tm_in
  rw [nI_clamp (by omega)]
  simp only [Bool.and_eq_true, Bool.not_eq_true', decide_eq_false_iff_not, decide_eq_true_eq]
  exact ⟨fun q => h1 (Or.inl q), h⟩
theorem Rn.scl {d J L : Nat} {xs : Nat → Int32} {r : Rs} {pc pc' ln a b : Nat} {lc lc' : Lc} {st st' : List AV} {w w' : Wd} (n : Nat) {i : Int32} {j : Nat} (h : tm_adv (some (L, xs)) J n pc lc st w = (pc', lc', .inl i :: .inr (sg 99) :: st', w')) (hi : tm_at J pc' = some (.iaload, ln, a, b)) (hj : i = nI j) (hlt : j < L) (hL : L < 2 ^ 31) (k : Rn (some (L, xs)) d J (pc' + ln, lc', .inl (xs j) :: st', w') r) : Rn (some (L, xs)) d J (pc, lc, st, w) r := by
  subst hj
  refine Rn.at n h (Rn.sem hi ?_ k)
  show tm_al 0 (some (L, xs)) (pc' + ln) lc' (.inl (nI j) :: .inr (sg 99) :: st') w' = _
  unfold tm_al
  dsimp only
  rw [show tm_arr (sg 99) = none from rfl]
  dsimp only
  show (match tm_in (nI j) L with | true => tm_go (pc' + ln) lc' (.inl (xs (nI j).toNatClampNeg) :: st') w' | false => none) = _
  rw [tm_in_nI2 hlt hL, nI_clamp (by omega)]
  rfl
theorem and63 (x : Int32) : ∃ t, t < 64 ∧ x &&& nI 63 = nI t := pk_andE x 6 (by decide)
theorem law_round {L i : Nat} {xs : Nat → Int32} {w : Wd} (op_city : Op jX_city jM_city []) (hi : Inv w) (h31 : L < 2 ^ 31) (hil : i + 6 ≤ L) : ∃ w2, Inv w2 ∧ ∀ r, Rn (some (L, xs)) 20 jL_law (1149, [some (vR (sg 99)), some (vR (sg 0)), some (vR (sg 13)), some (vI (nI i))], [], w2) r → Rn (some (L, xs)) 20 jL_law (27, [some (vR (sg 99)), some (vR (sg 0)), some (vR (sg 13)), some (vI (nI i))], [], w) r := by
  obtain ⟨t, ht, hx⟩ := and63 (xs i)
  have head : ∀ r, Rn (some (L, xs)) 20 jL_law (33, [some (vR (sg 99)), some (vR (sg 0)), some (vR (sg 13)), some (vI (nI i))], [vI (nI t)], w) r → Rn (some (L, xs)) 20 jL_law (27, [some (vR (sg 99)), some (vR (sg 0)), some (vR (sg 13)), some (vI (nI i))], [], w) r := by
    intro r k
    refine Rn.scl 60 (j := i) rfl rfl rfl (by omega) h31 ?_
    rw [← hx] at k
    exact Rn.at 2 rfl k
  rcases Nat.lt_or_ge 32 t with h | h
  · refine ⟨w, hi, fun r k => head r ?_⟩
    refine Rn.tsw 60 (t := 1149) rfl rfl ?_ k
    unfold tm_tsw
    dsimp only
    rw [if_pos (Or.inr (by rw [nI_toInt (by omega)]; omega))]
    rfl
  rcases (by omega : t = 0 ∨ t = 1 ∨ t = 2 ∨ t = 3 ∨ t = 4 ∨ t = 5 ∨ t = 6 ∨ t = 7 ∨ t = 8 ∨ t = 9 ∨ t = 10 ∨ t = 11 ∨ t = 12 ∨ t = 13 ∨ t = 14 ∨ t = 15 ∨ t = 16 ∨ t = 17 ∨ t = 18 ∨ t = 19 ∨ t = 20 ∨ t = 21 ∨ t = 22 ∨ t = 23 ∨ t = 24 ∨ t = 25 ∨ t = 26 ∨ t = 27 ∨ t = 28 ∨ t = 29 ∨ t = 30 ∨ t = 31 ∨ t = 32) with rfl | rfl | rfl | rfl | rfl | rfl | rfl | rfl | rfl | rfl | rfl | rfl | rfl | rfl | rfl | rfl | rfl | rfl | rfl | rfl | rfl | rfl | rfl | rfl | rfl | rfl | rfl | rfl | rfl | rfl | rfl | rfl | rfl
  · obtain ⟨w1, w2, v, o1, o2, o3⟩ := (op_row : Op jX_row jM_row [vI (xs (i + 1)), vI (xs (i + 2)), vI (xs (i + 3))]) w hi
    refine ⟨w2, o3, fun r k => head r ?_⟩
    refine Rn.tsw 60 (t := 180) rfl rfl rfl ?_
    refine Rn.scl 60 (j := i + 1) rfl rfl (by dsimp only; rw [nI_add]) (by omega) h31 ?_
    refine Rn.scl 60 (j := i + 2) rfl rfl (by dsimp only; rw [nI_add]) (by omega) h31 ?_
    refine Rn.scl 60 (j := i + 3) rfl rfl (by dsimp only; rw [nI_add]) (by omega) h31 ?_
    refine Rn.cv 60 rfl rfl rfl rfl rfl o1 (Nat.le_refl _) ?_
    refine Rn.scl 60 (j := i + 1) rfl rfl (by dsimp only; rw [nI_add]) (by omega) h31 ?_
    refine Rn.scl 60 (j := i + 2) rfl rfl (by dsimp only; rw [nI_add]) (by omega) h31 ?_
    refine Rn.scl 60 (j := i + 3) rfl rfl (by dsimp only; rw [nI_add]) (by omega) h31 ?_
    refine Rn.cv 60 rfl rfl rfl rfl rfl o2 (Nat.le_refl _) ?_
    exact Rn.if2t 60 rfl rfl rfl k
  · obtain ⟨w1, w2, v, o1, o2, o3⟩ := (op_set : Op jX_set jM_set [vI (xs (i + 1)), vI (xs (i + 2)), vI (xs (i + 3))]) w hi
    refine ⟨w2, o3, fun r k => head r ?_⟩
    refine Rn.tsw 60 (t := 223) rfl rfl rfl ?_
    refine Rn.scl 60 (j := i + 1) rfl rfl (by dsimp only; rw [nI_add]) (by omega) h31 ?_
    refine Rn.scl 60 (j := i + 2) rfl rfl (by dsimp only; rw [nI_add]) (by omega) h31 ?_
    refine Rn.scl 60 (j := i + 3) rfl rfl (by dsimp only; rw [nI_add]) (by omega) h31 ?_
    refine Rn.cv 60 rfl rfl rfl rfl rfl o1 (Nat.le_refl _) ?_
    refine Rn.scl 60 (j := i + 1) rfl rfl (by dsimp only; rw [nI_add]) (by omega) h31 ?_
    refine Rn.scl 60 (j := i + 2) rfl rfl (by dsimp only; rw [nI_add]) (by omega) h31 ?_
    refine Rn.scl 60 (j := i + 3) rfl rfl (by dsimp only; rw [nI_add]) (by omega) h31 ?_
    refine Rn.cv 60 rfl rfl rfl rfl rfl o2 (Nat.le_refl _) ?_
    exact Rn.if2t 60 rfl rfl rfl k
  · obtain ⟨w1, w2, v, o1, o2, o3⟩ := (op_copy : Op jX_copy jM_copy [vI (xs (i + 1)), vI (xs (i + 2)), vI (xs (i + 3)), vI (xs (i + 4)), vI (xs (i + 5))]) w hi
    refine ⟨w2, o3, fun r k => head r ?_⟩
    refine Rn.tsw 60 (t := 266) rfl rfl rfl ?_
    refine Rn.scl 60 (j := i + 1) rfl rfl (by dsimp only; rw [nI_add]) (by omega) h31 ?_
    refine Rn.scl 60 (j := i + 2) rfl rfl (by dsimp only; rw [nI_add]) (by omega) h31 ?_
    refine Rn.scl 60 (j := i + 3) rfl rfl (by dsimp only; rw [nI_add]) (by omega) h31 ?_
    refine Rn.scl 60 (j := i + 4) rfl rfl (by dsimp only; rw [nI_add]) (by omega) h31 ?_
    refine Rn.scl 60 (j := i + 5) rfl rfl (by dsimp only; rw [nI_add]) (by omega) h31 ?_
    refine Rn.cv 60 rfl rfl rfl rfl rfl o1 (Nat.le_refl _) ?_
    refine Rn.scl 60 (j := i + 1) rfl rfl (by dsimp only; rw [nI_add]) (by omega) h31 ?_
    refine Rn.scl 60 (j := i + 2) rfl rfl (by dsimp only; rw [nI_add]) (by omega) h31 ?_
    refine Rn.scl 60 (j := i + 3) rfl rfl (by dsimp only; rw [nI_add]) (by omega) h31 ?_
    refine Rn.scl 60 (j := i + 4) rfl rfl (by dsimp only; rw [nI_add]) (by omega) h31 ?_
    refine Rn.scl 60 (j := i + 5) rfl rfl (by dsimp only; rw [nI_add]) (by omega) h31 ?_
    refine Rn.cv 60 rfl rfl rfl rfl rfl o2 (Nat.le_refl _) ?_
    exact Rn.if2t 60 rfl rfl rfl k
  · obtain ⟨w1, w2, v, o1, o2, o3⟩ := (op_drop : Op jX_drop jM_drop [vI (xs (i + 1))]) w hi
    refine ⟨w2, o3, fun r k => head r ?_⟩
    refine Rn.tsw 60 (t := 329) rfl rfl rfl ?_
    refine Rn.scl 60 (j := i + 1) rfl rfl (by dsimp only; rw [nI_add]) (by omega) h31 ?_
    refine Rn.cv 60 rfl rfl rfl rfl rfl o1 (Nat.le_refl _) ?_
    refine Rn.scl 60 (j := i + 1) rfl rfl (by dsimp only; rw [nI_add]) (by omega) h31 ?_
    refine Rn.cv 60 rfl rfl rfl rfl rfl o2 (Nat.le_refl _) ?_
    exact Rn.if2t 60 rfl rfl rfl k
  · obtain ⟨w1, w2, v, o1, o2, o3⟩ := (op_feed : Op jX_feed jM_feed [vI (xs (i + 1))]) w hi
    refine ⟨w2, o3, fun r k => head r ?_⟩
    refine Rn.tsw 60 (t := 352) rfl rfl rfl ?_
    refine Rn.scl 60 (j := i + 1) rfl rfl (by dsimp only; rw [nI_add]) (by omega) h31 ?_
    refine Rn.cv 60 rfl rfl rfl rfl rfl o1 (Nat.le_refl _) ?_
    refine Rn.scl 60 (j := i + 1) rfl rfl (by dsimp only; rw [nI_add]) (by omega) h31 ?_
    refine Rn.cv 60 rfl rfl rfl rfl rfl o2 (Nat.le_refl _) ?_
    exact Rn.if2t 60 rfl rfl rfl k
  · obtain ⟨w1, w2, v, o1, o2, o3⟩ := (op_city : Op jX_city jM_city []) w hi
    refine ⟨w2, o3, fun r k => head r ?_⟩
    refine Rn.tsw 60 (t := 375) rfl rfl rfl ?_
    refine Rn.cv 60 rfl rfl rfl rfl rfl o1 (Nat.le_refl _) ?_
    refine Rn.cv 60 rfl rfl rfl rfl rfl o2 (Nat.le_refl _) ?_
    exact Rn.if2t 60 rfl rfl rfl k
  · obtain ⟨w1, w2, v, o1, o2, o3⟩ := (op_fault : Op jX_fault jM_fault []) w hi
    refine ⟨w2, o3, fun r k => head r ?_⟩
    refine Rn.tsw 60 (t := 388) rfl rfl rfl ?_
    refine Rn.cv 60 rfl rfl rfl rfl rfl o1 (Nat.le_refl _) ?_
    refine Rn.cv 60 rfl rfl rfl rfl rfl o2 (Nat.le_refl _) ?_
    exact Rn.if2t 60 rfl rfl rfl k
  · obtain ⟨w1, w2, v, o1, o2, o3⟩ := (op_dawn : Op jX_dawn jM_dawn [vI (xs (i + 1))]) w hi
    refine ⟨w2, o3, fun r k => head r ?_⟩
    refine Rn.tsw 60 (t := 401) rfl rfl rfl ?_
    refine Rn.scl 60 (j := i + 1) rfl rfl (by dsimp only; rw [nI_add]) (by omega) h31 ?_
    refine Rn.cv 60 rfl rfl rfl rfl rfl o1 (Nat.le_refl _) ?_
    refine Rn.scl 60 (j := i + 1) rfl rfl (by dsimp only; rw [nI_add]) (by omega) h31 ?_
    refine Rn.cv 60 rfl rfl rfl rfl rfl o2 (Nat.le_refl _) ?_
    exact Rn.if2t 60 rfl rfl rfl k
  · obtain ⟨w1, w2, v, o1, o2, o3⟩ := (op_turn : Op jX_turn jM_turn [vI (xs (i + 1))]) w hi
    refine ⟨w2, o3, fun r k => head r ?_⟩
    refine Rn.tsw 60 (t := 424) rfl rfl rfl ?_
    refine Rn.scl 60 (j := i + 1) rfl rfl (by dsimp only; rw [nI_add]) (by omega) h31 ?_
    refine Rn.cv 60 rfl rfl rfl rfl rfl o1 (Nat.le_refl _) ?_
    refine Rn.scl 60 (j := i + 1) rfl rfl (by dsimp only; rw [nI_add]) (by omega) h31 ?_
    refine Rn.cv 60 rfl rfl rfl rfl rfl o2 (Nat.le_refl _) ?_
    exact Rn.if2t 60 rfl rfl rfl k
  · obtain ⟨w1, w2, v, o1, o2, o3⟩ := (op_wish : Op jX_wish jM_wish [vI (xs (i + 1)), vI (xs (i + 2))]) w hi
    refine ⟨w2, o3, fun r k => head r ?_⟩
    refine Rn.tsw 60 (t := 447) rfl rfl rfl ?_
    refine Rn.scl 60 (j := i + 1) rfl rfl (by dsimp only; rw [nI_add]) (by omega) h31 ?_
    refine Rn.scl 60 (j := i + 2) rfl rfl (by dsimp only; rw [nI_add]) (by omega) h31 ?_
    refine Rn.cv 60 rfl rfl rfl rfl rfl o1 (Nat.le_refl _) ?_
    refine Rn.scl 60 (j := i + 1) rfl rfl (by dsimp only; rw [nI_add]) (by omega) h31 ?_
    refine Rn.scl 60 (j := i + 2) rfl rfl (by dsimp only; rw [nI_add]) (by omega) h31 ?_
    refine Rn.cv 60 rfl rfl rfl rfl rfl o2 (Nat.le_refl _) ?_
    exact Rn.if2t 60 rfl rfl rfl k
  · obtain ⟨w1, w2, v, o1, o2, o3⟩ := (op_undo : Op jX_undo jM_undo []) w hi
    refine ⟨w2, o3, fun r k => head r ?_⟩
    refine Rn.tsw 60 (t := 480) rfl rfl rfl ?_
    refine Rn.cv 60 rfl rfl rfl rfl rfl o1 (Nat.le_refl _) ?_
    refine Rn.cv 60 rfl rfl rfl rfl rfl o2 (Nat.le_refl _) ?_
    exact Rn.if2t 60 rfl rfl rfl k
  · obtain ⟨w1, w2, v, o1, o2, o3⟩ := (op_person : Op jX_person jM_person [vI (xs (i + 1)), vI (xs (i + 2))]) w hi
    refine ⟨w2, o3, fun r k => head r ?_⟩
    refine Rn.tsw 60 (t := 493) rfl rfl rfl ?_
    refine Rn.scl 60 (j := i + 1) rfl rfl (by dsimp only; rw [nI_add]) (by omega) h31 ?_
    refine Rn.scl 60 (j := i + 2) rfl rfl (by dsimp only; rw [nI_add]) (by omega) h31 ?_
    refine Rn.cv 60 rfl rfl rfl rfl rfl o1 (Nat.le_refl _) ?_
    refine Rn.scl 60 (j := i + 1) rfl rfl (by dsimp only; rw [nI_add]) (by omega) h31 ?_
    refine Rn.scl 60 (j := i + 2) rfl rfl (by dsimp only; rw [nI_add]) (by omega) h31 ?_
    refine Rn.cv 60 rfl rfl rfl rfl rfl o2 (Nat.le_refl _) ?_
    exact Rn.if2t 60 rfl rfl rfl k
  · obtain ⟨w1, w2, v, o1, o2, o3⟩ := (op_gate : Op jX_gate jM_gate [vI (xs (i + 1)), vI (xs (i + 2))]) w hi
    refine ⟨w2, o3, fun r k => head r ?_⟩
    refine Rn.tsw 60 (t := 526) rfl rfl rfl ?_
    refine Rn.scl 60 (j := i + 1) rfl rfl (by dsimp only; rw [nI_add]) (by omega) h31 ?_
    refine Rn.scl 60 (j := i + 2) rfl rfl (by dsimp only; rw [nI_add]) (by omega) h31 ?_
    refine Rn.cv 60 rfl rfl rfl rfl rfl o1 (Nat.le_refl _) ?_
    refine Rn.scl 60 (j := i + 1) rfl rfl (by dsimp only; rw [nI_add]) (by omega) h31 ?_
    refine Rn.scl 60 (j := i + 2) rfl rfl (by dsimp only; rw [nI_add]) (by omega) h31 ?_
    refine Rn.cv 60 rfl rfl rfl rfl rfl o2 (Nat.le_refl _) ?_
    exact Rn.if2t 60 rfl rfl rfl k
  · obtain ⟨w1, w2, v, o1, o2, o3⟩ := (op_reach : Op jX_reach jM_reach [vI (xs (i + 1))]) w hi
    refine ⟨w2, o3, fun r k => head r ?_⟩
    refine Rn.tsw 60 (t := 559) rfl rfl rfl ?_
    refine Rn.scl 60 (j := i + 1) rfl rfl (by dsimp only; rw [nI_add]) (by omega) h31 ?_
    refine Rn.cv 60 rfl rfl rfl rfl rfl o1 (Nat.le_refl _) ?_
    refine Rn.scl 60 (j := i + 1) rfl rfl (by dsimp only; rw [nI_add]) (by omega) h31 ?_
    refine Rn.cv 60 rfl rfl rfl rfl rfl o2 (Nat.le_refl _) ?_
    exact Rn.if2t 60 rfl rfl rfl k
  · obtain ⟨w1, w2, v, o1, o2, o3⟩ := (op_steps : Op jX_steps jM_steps [vI (xs (i + 1)), vI (xs (i + 2))]) w hi
    refine ⟨w2, o3, fun r k => head r ?_⟩
    refine Rn.tsw 60 (t := 582) rfl rfl rfl ?_
    refine Rn.scl 60 (j := i + 1) rfl rfl (by dsimp only; rw [nI_add]) (by omega) h31 ?_
    refine Rn.scl 60 (j := i + 2) rfl rfl (by dsimp only; rw [nI_add]) (by omega) h31 ?_
    refine Rn.cv 60 rfl rfl rfl rfl rfl o1 (Nat.le_refl _) ?_
    refine Rn.scl 60 (j := i + 1) rfl rfl (by dsimp only; rw [nI_add]) (by omega) h31 ?_
    refine Rn.scl 60 (j := i + 2) rfl rfl (by dsimp only; rw [nI_add]) (by omega) h31 ?_
    refine Rn.cv 60 rfl rfl rfl rfl rfl o2 (Nat.le_refl _) ?_
    exact Rn.if2t 60 rfl rfl rfl k
  · obtain ⟨w1, w2, v, o1, o2, o3⟩ := (op_votes : Op jX_votes jM_votes [vI (xs (i + 1)), vI (xs (i + 2))]) w hi
    refine ⟨w2, o3, fun r k => head r ?_⟩
    refine Rn.tsw 60 (t := 615) rfl rfl rfl ?_
    refine Rn.scl 60 (j := i + 1) rfl rfl (by dsimp only; rw [nI_add]) (by omega) h31 ?_
    refine Rn.scl 60 (j := i + 2) rfl rfl (by dsimp only; rw [nI_add]) (by omega) h31 ?_
    refine Rn.cv 60 rfl rfl rfl rfl rfl o1 (Nat.le_refl _) ?_
    refine Rn.scl 60 (j := i + 1) rfl rfl (by dsimp only; rw [nI_add]) (by omega) h31 ?_
    refine Rn.scl 60 (j := i + 2) rfl rfl (by dsimp only; rw [nI_add]) (by omega) h31 ?_
    refine Rn.cv 60 rfl rfl rfl rfl rfl o2 (Nat.le_refl _) ?_
    exact Rn.if2t 60 rfl rfl rfl k
  · obtain ⟨w1, w2, v, o1, o2, o3⟩ := (op_ahead : Op jX_ahead jM_ahead [vI (xs (i + 1)), vI (xs (i + 2))]) w hi
    refine ⟨w2, o3, fun r k => head r ?_⟩
    refine Rn.tsw 60 (t := 648) rfl rfl rfl ?_
    refine Rn.scl 60 (j := i + 1) rfl rfl (by dsimp only; rw [nI_add]) (by omega) h31 ?_
    refine Rn.scl 60 (j := i + 2) rfl rfl (by dsimp only; rw [nI_add]) (by omega) h31 ?_
    refine Rn.cv 60 rfl rfl rfl rfl rfl o1 (Nat.le_refl _) ?_
    refine Rn.scl 60 (j := i + 1) rfl rfl (by dsimp only; rw [nI_add]) (by omega) h31 ?_
    refine Rn.scl 60 (j := i + 2) rfl rfl (by dsimp only; rw [nI_add]) (by omega) h31 ?_
    refine Rn.cv 60 rfl rfl rfl rfl rfl o2 (Nat.le_refl _) ?_
    exact Rn.if2t 60 rfl rfl rfl k
  · obtain ⟨w1, w2, v, o1, o2, o3⟩ := (op_round : Op jX_round jM_round [vI (xs (i + 1))]) w hi
    refine ⟨w2, o3, fun r k => head r ?_⟩
    refine Rn.tsw 60 (t := 681) rfl rfl rfl ?_
    refine Rn.scl 60 (j := i + 1) rfl rfl (by dsimp only; rw [nI_add]) (by omega) h31 ?_
    refine Rn.cv 60 rfl rfl rfl rfl rfl o1 (Nat.le_refl _) ?_
    refine Rn.scl 60 (j := i + 1) rfl rfl (by dsimp only; rw [nI_add]) (by omega) h31 ?_
    refine Rn.cv 60 rfl rfl rfl rfl rfl o2 (Nat.le_refl _) ?_
    exact Rn.if2t 60 rfl rfl rfl k
  · obtain ⟨w1, w2, v, o1, o2, o3⟩ := (op_won : Op jX_won jM_won [vI (xs (i + 1)), vI (xs (i + 2)), vI (xs (i + 3))]) w hi
    refine ⟨w2, o3, fun r k => head r ?_⟩
    refine Rn.tsw 60 (t := 704) rfl rfl rfl ?_
    refine Rn.scl 60 (j := i + 1) rfl rfl (by dsimp only; rw [nI_add]) (by omega) h31 ?_
    refine Rn.scl 60 (j := i + 2) rfl rfl (by dsimp only; rw [nI_add]) (by omega) h31 ?_
    refine Rn.scl 60 (j := i + 3) rfl rfl (by dsimp only; rw [nI_add]) (by omega) h31 ?_
    refine Rn.cv 60 rfl rfl rfl rfl rfl o1 (Nat.le_refl _) ?_
    refine Rn.scl 60 (j := i + 1) rfl rfl (by dsimp only; rw [nI_add]) (by omega) h31 ?_
    refine Rn.scl 60 (j := i + 2) rfl rfl (by dsimp only; rw [nI_add]) (by omega) h31 ?_
    refine Rn.scl 60 (j := i + 3) rfl rfl (by dsimp only; rw [nI_add]) (by omega) h31 ?_
    refine Rn.cv 60 rfl rfl rfl rfl rfl o2 (Nat.le_refl _) ?_
    exact Rn.if2t 60 rfl rfl rfl k
  · obtain ⟨w1, w2, v, o1, o2, o3⟩ := (op_kept : Op jX_kept jM_kept [vI (xs (i + 1)), vI (xs (i + 2)), vI (xs (i + 3))]) w hi
    refine ⟨w2, o3, fun r k => head r ?_⟩
    refine Rn.tsw 60 (t := 747) rfl rfl rfl ?_
    refine Rn.scl 60 (j := i + 1) rfl rfl (by dsimp only; rw [nI_add]) (by omega) h31 ?_
    refine Rn.scl 60 (j := i + 2) rfl rfl (by dsimp only; rw [nI_add]) (by omega) h31 ?_
    refine Rn.scl 60 (j := i + 3) rfl rfl (by dsimp only; rw [nI_add]) (by omega) h31 ?_
    refine Rn.cv 60 rfl rfl rfl rfl rfl o1 (Nat.le_refl _) ?_
    refine Rn.scl 60 (j := i + 1) rfl rfl (by dsimp only; rw [nI_add]) (by omega) h31 ?_
    refine Rn.scl 60 (j := i + 2) rfl rfl (by dsimp only; rw [nI_add]) (by omega) h31 ?_
    refine Rn.scl 60 (j := i + 3) rfl rfl (by dsimp only; rw [nI_add]) (by omega) h31 ?_
    refine Rn.cv 60 rfl rfl rfl rfl rfl o2 (Nat.le_refl _) ?_
    exact Rn.if2t 60 rfl rfl rfl k
  · obtain ⟨w1, w2, v, o1, o2, o3⟩ := (op_swap : Op jX_swap jM_swap [vI (xs (i + 1)), vI (xs (i + 2))]) w hi
    refine ⟨w2, o3, fun r k => head r ?_⟩
    refine Rn.tsw 60 (t := 790) rfl rfl rfl ?_
    refine Rn.scl 60 (j := i + 1) rfl rfl (by dsimp only; rw [nI_add]) (by omega) h31 ?_
    refine Rn.scl 60 (j := i + 2) rfl rfl (by dsimp only; rw [nI_add]) (by omega) h31 ?_
    refine Rn.cv 60 rfl rfl rfl rfl rfl o1 (Nat.le_refl _) ?_
    refine Rn.scl 60 (j := i + 1) rfl rfl (by dsimp only; rw [nI_add]) (by omega) h31 ?_
    refine Rn.scl 60 (j := i + 2) rfl rfl (by dsimp only; rw [nI_add]) (by omega) h31 ?_
    refine Rn.cv 60 rfl rfl rfl rfl rfl o2 (Nat.le_refl _) ?_
    exact Rn.if2t 60 rfl rfl rfl k
  · obtain ⟨w1, w2, v, o1, o2, o3⟩ := (op_best : Op jX_best jM_best [vI (xs (i + 1))]) w hi
    refine ⟨w2, o3, fun r k => head r ?_⟩
    refine Rn.tsw 60 (t := 823) rfl rfl rfl ?_
    refine Rn.scl 60 (j := i + 1) rfl rfl (by dsimp only; rw [nI_add]) (by omega) h31 ?_
    refine Rn.cv 60 rfl rfl rfl rfl rfl o1 (Nat.le_refl _) ?_
    refine Rn.scl 60 (j := i + 1) rfl rfl (by dsimp only; rw [nI_add]) (by omega) h31 ?_
    refine Rn.cv 60 rfl rfl rfl rfl rfl o2 (Nat.le_refl _) ?_
    exact Rn.if2t 60 rfl rfl rfl k
  · obtain ⟨w1, w2, v, o1, o2, o3⟩ := (op_laws : Op jX_laws jM_laws [vI (xs (i + 1)), vI (xs (i + 2))]) w hi
    refine ⟨w2, o3, fun r k => head r ?_⟩
    refine Rn.tsw 60 (t := 846) rfl rfl rfl ?_
    refine Rn.scl 60 (j := i + 1) rfl rfl (by dsimp only; rw [nI_add]) (by omega) h31 ?_
    refine Rn.scl 60 (j := i + 2) rfl rfl (by dsimp only; rw [nI_add]) (by omega) h31 ?_
    refine Rn.cv 60 rfl rfl rfl rfl rfl o1 (Nat.le_refl _) ?_
    refine Rn.scl 60 (j := i + 1) rfl rfl (by dsimp only; rw [nI_add]) (by omega) h31 ?_
    refine Rn.scl 60 (j := i + 2) rfl rfl (by dsimp only; rw [nI_add]) (by omega) h31 ?_
    refine Rn.cv 60 rfl rfl rfl rfl rfl o2 (Nat.le_refl _) ?_
    exact Rn.if2t 60 rfl rfl rfl k
  · obtain ⟨w1, w2, v, o1, o2, o3⟩ := (op_opened : Op jX_opened jM_opened [vI (xs (i + 1)), vI (xs (i + 2)), vI (xs (i + 3)), vI (xs (i + 4))]) w hi
    refine ⟨w2, o3, fun r k => head r ?_⟩
    refine Rn.tsw 60 (t := 879) rfl rfl rfl ?_
    refine Rn.scl 60 (j := i + 1) rfl rfl (by dsimp only; rw [nI_add]) (by omega) h31 ?_
    refine Rn.scl 60 (j := i + 2) rfl rfl (by dsimp only; rw [nI_add]) (by omega) h31 ?_
    refine Rn.scl 60 (j := i + 3) rfl rfl (by dsimp only; rw [nI_add]) (by omega) h31 ?_
    refine Rn.scl 60 (j := i + 4) rfl rfl (by dsimp only; rw [nI_add]) (by omega) h31 ?_
    refine Rn.cv 60 rfl rfl rfl rfl rfl o1 (Nat.le_refl _) ?_
    refine Rn.scl 60 (j := i + 1) rfl rfl (by dsimp only; rw [nI_add]) (by omega) h31 ?_
    refine Rn.scl 60 (j := i + 2) rfl rfl (by dsimp only; rw [nI_add]) (by omega) h31 ?_
    refine Rn.scl 60 (j := i + 3) rfl rfl (by dsimp only; rw [nI_add]) (by omega) h31 ?_
    refine Rn.scl 60 (j := i + 4) rfl rfl (by dsimp only; rw [nI_add]) (by omega) h31 ?_
    refine Rn.cv 60 rfl rfl rfl rfl rfl o2 (Nat.le_refl _) ?_
    exact Rn.if2t 60 rfl rfl rfl k
  · obtain ⟨w1, w2, v, o1, o2, o3⟩ := (op_sold : Op jX_sold jM_sold [vI (xs (i + 1))]) w hi
    refine ⟨w2, o3, fun r k => head r ?_⟩
    refine Rn.tsw 60 (t := 932) rfl rfl rfl ?_
    refine Rn.scl 60 (j := i + 1) rfl rfl (by dsimp only; rw [nI_add]) (by omega) h31 ?_
    refine Rn.cv 60 rfl rfl rfl rfl rfl o1 (Nat.le_refl _) ?_
    refine Rn.scl 60 (j := i + 1) rfl rfl (by dsimp only; rw [nI_add]) (by omega) h31 ?_
    refine Rn.cv 60 rfl rfl rfl rfl rfl o2 (Nat.le_refl _) ?_
    exact Rn.if2t 60 rfl rfl rfl k
  · obtain ⟨w1, w2, v, o1, o2, o3⟩ := (op_image : Op jX_image jM_image [vI (xs (i + 1))]) w hi
    refine ⟨w2, o3, fun r k => head r ?_⟩
    refine Rn.tsw 60 (t := 955) rfl rfl rfl ?_
    refine Rn.scl 60 (j := i + 1) rfl rfl (by dsimp only; rw [nI_add]) (by omega) h31 ?_
    refine Rn.cv 60 rfl rfl rfl rfl rfl o1 (Nat.le_refl _) ?_
    refine Rn.scl 60 (j := i + 1) rfl rfl (by dsimp only; rw [nI_add]) (by omega) h31 ?_
    refine Rn.cv 60 rfl rfl rfl rfl rfl o2 (Nat.le_refl _) ?_
    exact Rn.if2t 60 rfl rfl rfl k
  · obtain ⟨w1, w2, v, o1, o2, o3⟩ := (op_restore : Op jX_restore jM_restore [vI (xs (i + 1))]) w hi
    refine ⟨w2, o3, fun r k => head r ?_⟩
    refine Rn.tsw 60 (t := 978) rfl rfl rfl ?_
    refine Rn.scl 60 (j := i + 1) rfl rfl (by dsimp only; rw [nI_add]) (by omega) h31 ?_
    refine Rn.cv 60 rfl rfl rfl rfl rfl o1 (Nat.le_refl _) ?_
    refine Rn.scl 60 (j := i + 1) rfl rfl (by dsimp only; rw [nI_add]) (by omega) h31 ?_
    refine Rn.cv 60 rfl rfl rfl rfl rfl o2 (Nat.le_refl _) ?_
    exact Rn.if2t 60 rfl rfl rfl k
  · obtain ⟨w1, w2, v, o1, o2, o3⟩ := (op_kind : Op jX_kind jM_kind [vI (xs (i + 1))]) w hi
    refine ⟨w2, o3, fun r k => head r ?_⟩
    refine Rn.tsw 60 (t := 1001) rfl rfl rfl ?_
    refine Rn.scl 60 (j := i + 1) rfl rfl (by dsimp only; rw [nI_add]) (by omega) h31 ?_
    refine Rn.cv 60 rfl rfl rfl rfl rfl o1 (Nat.le_refl _) ?_
    refine Rn.scl 60 (j := i + 1) rfl rfl (by dsimp only; rw [nI_add]) (by omega) h31 ?_
    refine Rn.cv 60 rfl rfl rfl rfl rfl o2 (Nat.le_refl _) ?_
    exact Rn.if2t 60 rfl rfl rfl k
  · obtain ⟨w1, w2, v, o1, o2, o3⟩ := (op_as : Op jX_as jM_as [vI (xs (i + 1)), vI (xs (i + 2))]) w hi
    refine ⟨w2, o3, fun r k => head r ?_⟩
    refine Rn.tsw 60 (t := 1024) rfl rfl rfl ?_
    refine Rn.scl 60 (j := i + 1) rfl rfl (by dsimp only; rw [nI_add]) (by omega) h31 ?_
    refine Rn.scl 60 (j := i + 2) rfl rfl (by dsimp only; rw [nI_add]) (by omega) h31 ?_
    refine Rn.cv 60 rfl rfl rfl rfl rfl o1 (Nat.le_refl _) ?_
    refine Rn.scl 60 (j := i + 1) rfl rfl (by dsimp only; rw [nI_add]) (by omega) h31 ?_
    refine Rn.scl 60 (j := i + 2) rfl rfl (by dsimp only; rw [nI_add]) (by omega) h31 ?_
    refine Rn.cv 60 rfl rfl rfl rfl rfl o2 (Nat.le_refl _) ?_
    exact Rn.if2t 60 rfl rfl rfl k
  · obtain ⟨w1, w2, v, o1, o2, o3⟩ := (op_ask : Op jX_ask jM_ask [vI (xs (i + 1)), vI (xs (i + 2))]) w hi
    refine ⟨w2, o3, fun r k => head r ?_⟩
    refine Rn.tsw 60 (t := 1057) rfl rfl rfl ?_
    refine Rn.scl 60 (j := i + 1) rfl rfl (by dsimp only; rw [nI_add]) (by omega) h31 ?_
    refine Rn.scl 60 (j := i + 2) rfl rfl (by dsimp only; rw [nI_add]) (by omega) h31 ?_
    refine Rn.cv 60 rfl rfl rfl rfl rfl o1 (Nat.le_refl _) ?_
    refine Rn.scl 60 (j := i + 1) rfl rfl (by dsimp only; rw [nI_add]) (by omega) h31 ?_
    refine Rn.scl 60 (j := i + 2) rfl rfl (by dsimp only; rw [nI_add]) (by omega) h31 ?_
    refine Rn.cv 60 rfl rfl rfl rfl rfl o2 (Nat.le_refl _) ?_
    exact Rn.if2t 60 rfl rfl rfl k
  · obtain ⟨w1, w2, v, o1, o2, o3⟩ := (op_trace : Op jX_trace jM_trace [vI (xs (i + 1))]) w hi
    refine ⟨w2, o3, fun r k => head r ?_⟩
    refine Rn.tsw 60 (t := 1090) rfl rfl rfl ?_
    refine Rn.scl 60 (j := i + 1) rfl rfl (by dsimp only; rw [nI_add]) (by omega) h31 ?_
    refine Rn.cv 60 rfl rfl rfl rfl rfl o1 (Nat.le_refl _) ?_
    refine Rn.scl 60 (j := i + 1) rfl rfl (by dsimp only; rw [nI_add]) (by omega) h31 ?_
    refine Rn.cv 60 rfl rfl rfl rfl rfl o2 (Nat.le_refl _) ?_
    exact Rn.if2t 60 rfl rfl rfl k
  · obtain ⟨w1, w2, v, o1, o2, o3⟩ := (op_count : Op jX_count jM_count [vI (xs (i + 1))]) w hi
    refine ⟨w2, o3, fun r k => head r ?_⟩
    refine Rn.tsw 60 (t := 1113) rfl rfl rfl ?_
    refine Rn.scl 60 (j := i + 1) rfl rfl (by dsimp only; rw [nI_add]) (by omega) h31 ?_
    refine Rn.cv 60 rfl rfl rfl rfl rfl o1 (Nat.le_refl _) ?_
    refine Rn.scl 60 (j := i + 1) rfl rfl (by dsimp only; rw [nI_add]) (by omega) h31 ?_
    refine Rn.cv 60 rfl rfl rfl rfl rfl o2 (Nat.le_refl _) ?_
    exact Rn.if2t 60 rfl rfl rfl k
  · obtain ⟨w1, w2, v, o1, o2, o3⟩ := (op_status : Op jX_status jM_status []) w hi
    refine ⟨w2, o3, fun r k => head r ?_⟩
    refine Rn.tsw 60 (t := 1136) rfl rfl rfl ?_
    refine Rn.cv 60 rfl rfl rfl rfl rfl o1 (Nat.le_refl _) ?_
    refine Rn.cv 60 rfl rfl rfl rfl rfl o2 (Nat.le_refl _) ?_
    exact Rn.if2t 60 rfl rfl rfl k
theorem law_all {L : Nat} {xs : Nat → Int32} (op_city : Op jX_city jM_city []) (h31 : L < 2 ^ 31) : ∀ n i w, L < i + n → i < 2 ^ 31 → Inv w → ∃ w', Rn (some (L, xs)) 20 jL_law (18, [some (vR (sg 99)), some (vR (sg 0)), some (vR (sg 13)), some (vI (nI i))], [], w) (some (vI (nI 1)), w') := by
  have ends : ∀ i w, L < i + 6 → i < 2 ^ 31 → Rn (some (L, xs)) 20 jL_law (18, [some (vR (sg 99)), some (vR (sg 0)), some (vR (sg 13)), some (vI (nI i))], [], w) (some (vI (nI 1)), w) := by
    intro i w h1 h2
    refine Rn.if2t 60 rfl rfl ?_ (Rn.zr 60 rfl rfl rfl (by decide) rfl)
    dsimp only [tm_c2P]
    rcases Nat.lt_or_ge L 6 with h | h
    · exact Int32.lt_of_lt_of_le (pk_sneg (by decide) h) (nI_pos' h2)
    · rw [pk_sub h]
      exact nI_lt (by omega) h2
  intro n
  induction n with
  | zero =>
    intro i w h1 h2 hi
    exact ⟨w, ends i w (by omega) h2⟩
  | succ n ih =>
    intro i w h1 h2 hi
    rcases Nat.lt_or_ge L (i + 6) with h | h
    · exact ⟨w, ends i w h h2⟩
    · obtain ⟨w2, i2, k⟩ := law_round (xs := xs) op_city hi h31 h
      obtain ⟨w', k2⟩ := ih (i + 6) w2 (by omega) (by omega) i2
      refine ⟨w', ?_⟩
      refine Rn.if2f 60 rfl rfl ?_ (k _ ?_)
      · dsimp only [tm_c2P]
        rw [pk_sub (show 6 ≤ L by omega)]
        exact nI_nlt (by omega) (by omega)
      · rw [← nI_add i 6] at k2
        exact Rn.at 2 rfl k2
