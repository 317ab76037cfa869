/-! the first world: all numbers 0, no measure; where each cell lies -/
def w_0 : Wd := fun t k => match t with
  | .inl (_, 0) => if k = 16 then -(nI 1) else 0
  | _ => 0
theorem inv_0 : Inv w_0 := by
  refine ⟨rfl, fun r _ => Or.inl ⟨rfl, rfl⟩, ⟨rfl, 0, Nat.zero_le _, rfl, rfl, fun i hi => absurd hi (Nat.not_lt_zero i)⟩, ⟨0, Nat.zero_le _, rfl, rfl, fun i hi => absurd hi (Nat.not_lt_zero i)⟩, fun k _ => Or.inl ⟨rfl, rfl⟩, rfl, fun _ => 0, 0, 0, 0, 0, 0, fun _ => 0, ?_, ?_, ?_, ?_⟩
  · exact ⟨⟨by decide, by decide, by decide, fun g hg => absurd hg (Nat.not_lt_zero g), fun p hp => absurd hp (Nat.not_lt_zero p)⟩, ⟨by decide, by decide, by decide, by decide, fun p hp => absurd hp (Nat.not_lt_zero p)⟩, by decide, fun p hp => absurd hp (Nat.not_lt_zero p)⟩
  · exact ⟨⟨rfl, rfl, rfl, fun g hg => absurd hg (Nat.not_lt_zero g), fun p hp => absurd hp (Nat.not_lt_zero p)⟩, ⟨rfl, rfl, rfl, rfl, rfl, fun p hp => absurd hp (Nat.not_lt_zero p)⟩, Or.inl rfl⟩
  · exact ⟨rfl, rfl, rfl, rfl, rfl, rfl, rfl, rfl, fun g hg => absurd hg (Nat.not_lt_zero g), fun p hp => absurd hp (Nat.not_lt_zero p)⟩
  · exact ⟨0, 0, fun _ => (0, 0, 0, fun _ => 0), by decide, by decide, ⟨rfl, rfl, fun i hi => absurd hi (Nat.not_lt_zero i)⟩, ⟨rfl, fun i hi => absurd hi (Nat.not_lt_zero i)⟩, fun i hi => absurd hi (Nat.not_lt_zero i)⟩
/-- the addresses: of the class (u), of the reference (a), the script (b) -/
def mk_ad (q0 q1 b : Nat) (u : (Nat → Nat) × (Nat → Nat → Nat) × (Nat → Nat → Nat)) (a : Nat → Nat) : TA → Nat := fun t => match t with
  | .inl (c, p) => u.2.1 c.val p
  | .inr (.inl (r, p)) => u.2.2 r.val p
  | .inr (.inr j) => match j with
    | 0 => q0
    | 13 => q1
    | 99 => b
    | j => match Nat.blt j 13 with
      | true => u.1 j
      | false => a (j - 13)
/-- the cells, in the order in which they come -/
def mk_lt : List TA := [sg 0, sg 1, sg 4, sg 2, sg 3, cit 0 0, cit 0 1, cit 0 2, cit 0 3, cit 0 4, cit 0 5, cit 0 6, cit 0 7, cit 0 8, cit 1 0, cit 1 1, cit 1 2, cit 1 3, cit 1 4, cit 1 5, cit 1 6, cit 1 7, cit 1 8, sg 5, sg 6, sg 7, sg 8, sg 9, sg 10, cit 4 0, cit 4 1, cit 4 2, cit 4 3, cit 4 4, cit 4 5, cit 4 6, cit 4 7, cit 4 8, cit 5 0, cit 5 1, cit 5 2, cit 5 3, cit 5 4, cit 5 5, cit 5 6, cit 5 7, cit 5 8, sg 11, sg 12, rw_ 0 0, rw_ 0 1, rw_ 1 0, rw_ 1 1, rw_ 2 0, rw_ 2 1, rw_ 3 0, rw_ 3 1, rw_ 4 0, rw_ 4 1, rw_ 5 0, rw_ 5 1, rw_ 6 0, rw_ 6 1, rw_ 7 0, rw_ 7 1, cit 2 0, cit 2 1, cit 2 2, cit 2 3, cit 2 4, cit 2 5, cit 2 6, cit 2 7, cit 2 8, cit 3 0, cit 3 1, cit 3 2, cit 3 3, cit 3 4, cit 3 5, cit 3 6, cit 3 7, cit 3 8, sg 13, sg 14, sg 15, sg 16, sg 17, sg 18, sg 19, sg 20, sg 21, sg 22]
theorem mk_perm : mk_lt.Perm tm_all := by decide +kernel
/-- the addresses, in the order in which the cells come -/
def mk_la (q0 q1 : Nat) (u : (Nat → Nat) × (Nat → Nat → Nat) × (Nat → Nat → Nat)) (a : Nat → Nat) : List Nat := [q0, u.1 1, u.1 4, u.1 2, u.1 3, u.2.1 0 0, u.2.1 0 1, u.2.1 0 2, u.2.1 0 3, u.2.1 0 4, u.2.1 0 5, u.2.1 0 6, u.2.1 0 7, u.2.1 0 8, u.2.1 1 0, u.2.1 1 1, u.2.1 1 2, u.2.1 1 3, u.2.1 1 4, u.2.1 1 5, u.2.1 1 6, u.2.1 1 7, u.2.1 1 8, u.1 5, u.1 (5 + 1), u.1 (5 + 2), u.1 (5 + 3), u.1 (5 + 4), u.1 10, u.2.1 4 0, u.2.1 4 1, u.2.1 4 2, u.2.1 4 3, u.2.1 4 4, u.2.1 4 5, u.2.1 4 6, u.2.1 4 7, u.2.1 4 8, u.2.1 5 0, u.2.1 5 1, u.2.1 5 2, u.2.1 5 3, u.2.1 5 4, u.2.1 5 5, u.2.1 5 6, u.2.1 5 7, u.2.1 5 8, u.1 11, u.1 12, u.2.2 0 0, u.2.2 0 1, u.2.2 1 0, u.2.2 1 1, u.2.2 2 0, u.2.2 2 1, u.2.2 3 0, u.2.2 3 1, u.2.2 4 0, u.2.2 4 1, u.2.2 5 0, u.2.2 5 1, u.2.2 6 0, u.2.2 6 1, u.2.2 7 0, u.2.2 7 1, u.2.1 2 0, u.2.1 2 1, u.2.1 2 2, u.2.1 2 3, u.2.1 2 4, u.2.1 2 5, u.2.1 2 6, u.2.1 2 7, u.2.1 2 8, u.2.1 3 0, u.2.1 3 1, u.2.1 3 2, u.2.1 3 3, u.2.1 3 4, u.2.1 3 5, u.2.1 3 6, u.2.1 3 7, u.2.1 3 8, q1, a 1, a 2, a 3, a 4, a 5, a 6, a 7, a 8, a 9]
theorem mk_la_eq {cT : Nat → ClassId} {q0 q1 : Nat} {u : (Nat → Nat) × (Nat → Nat → Nat) × (Nat → Nat → Nat)} {a : Nat → Nat} : (mk_wVM cT q0 u ++ mk_wModel cT q1 a).map Prod.fst = mk_la q0 q1 u a := by
  simp only [mk_wVM, mk_wCity, mk_wRow, mk_wTape, mk_wTrace, mk_wActs, mk_wSeer, mk_wModel, List.map_cons, List.map_append, List.map_nil, List.cons_append, List.nil_append, mk_la]
theorem mk_map {q0 q1 b : Nat} {u : (Nat → Nat) × (Nat → Nat → Nat) × (Nat → Nat → Nat)} {a : Nat → Nat} : mk_lt.map (mk_ad q0 q1 b u a) = mk_la q0 q1 u a := rfl
theorem mk_inj {A : Nat → Prop} {cT : Nat → ClassId} {q0 q1 b : Nat} {u : (Nat → Nat) × (Nat → Nat → Nat) × (Nat → Nat → Nat)} {a : Nat → Nat} (hD : va_D A (mk_wVM cT q0 u ++ mk_wModel cT q1 a)) : tm_D A (mk_ad q0 q1 b u a) := by
  obtain ⟨h1, h2⟩ := va_D_nd hD
  rw [mk_la_eq] at h1
  have h3 : (tm_all.map (mk_ad q0 q1 b u a)).Nodup := (mk_perm.map (mk_ad q0 q1 b u a)).nodup_iff.mp (by rw [mk_map]; exact h1)
  refine ⟨fun t ht => ?_, fun t ht v hv e => ?_⟩
  · have m1 : mk_ad q0 q1 b u a t ∈ (mk_wVM cT q0 u ++ mk_wModel cT q1 a).map Prod.fst := by
      rw [mk_la_eq, ← mk_map (b := b)]
      exact List.mem_map.mpr ⟨t, mk_perm.mem_iff.mpr ht, rfl⟩
    obtain ⟨q, m2, m3⟩ := List.mem_map.mp m1
    rw [← m3]
    exact h2 q m2
  · obtain ⟨i, hi⟩ := List.getElem?_of_mem ht
    obtain ⟨j, hj⟩ := List.getElem?_of_mem hv
    have key := List.pairwise_iff_getElem.mp h3
    obtain ⟨a1, a2⟩ := List.getElem?_eq_some_iff.mp hi
    obtain ⟨b1, b2⟩ := List.getElem?_eq_some_iff.mp hj
    have l1 : i < (tm_all.map (mk_ad q0 q1 b u a)).length := by rw [List.length_map]; exact a1
    have l2 : j < (tm_all.map (mk_ad q0 q1 b u a)).length := by rw [List.length_map]; exact b1
    rcases Nat.lt_trichotomy i j with z | z | z
    · exact absurd (by rw [List.getElem_map, List.getElem_map, a2, b2]; exact e) (key i j l1 l2 z)
    · subst z
      exact Option.some.inj (hi.symm.trans hj)
    · exact absurd (by rw [List.getElem_map, List.getElem_map, a2, b2]; exact e.symm) (key j i l2 l1 z)
section
variable {ad : TA → Nat} {cT : Nat → ClassId}
theorem ce_city {c : Fin 6} : tm_cell ad cT w_0 (cit c 0) = .inr (1, (((((((((mk_dv 1).set 5 (.ref (ad (cit c 1)))).set 6 (.ref (ad (cit c 2)))).set 7 (.ref (ad (cit c 3)))).set 8 (.ref (ad (cit c 4)))).set 9 (.ref (ad (cit c 5)))).set 10 (.ref (ad (cit c 6)))).set 11 (.ref (ad (cit c 7)))).set 15 (.ref (ad (cit c 8)))).set 16 (.int (-(nI 1)))) := rfl
theorem ce_row {r : Fin 8} : tm_cell ad cT w_0 (rw_ r 0) = .inr (2, (mk_dv 2).set 0 (.ref (ad (rw_ r 1)))) := rfl
theorem ce_vm : tm_cell ad cT w_0 (sg 0) = .inr (6, ((((((((mk_dv 6).set 0 (.ref (ad (sg 1)))).set 1 (.ref (ad (sg 2)))).set 2 (.ref (ad (cit 0 0)))).set 3 (.ref (ad (cit 1 0)))).set 4 (.ref (ad (sg 4)))).set 5 (.ref (ad (sg 5)))).set 6 (.ref (ad (sg 10)))).set 7 (.ref (ad (sg 11)))) := rfl
theorem me_city {c : Fin 6} {f : Nat → Nat} (hf : ∀ k, ad (cit c k) = f k) {p : Nat} (hp : p < 9) : (ad (cit c p), tm_cell ad cT w_0 (cit c p)) ∈ mk_wCity cT (f 0) f := by
  rcases (by omega : p = 0 ∨ p = 1 ∨ p = 2 ∨ p = 3 ∨ p = 4 ∨ p = 5 ∨ p = 6 ∨ p = 7 ∨ p = 8) with rfl | rfl | rfl | rfl | rfl | rfl | rfl | rfl | rfl
  · rw [ce_city, hf, hf, hf, hf, hf, hf, hf, hf, hf]
    exact List.mem_cons_self
  · rw [hf]
    exact List.mem_of_getElem? (i := 1) rfl
  · rw [hf]
    exact List.mem_of_getElem? (i := 2) rfl
  · rw [hf]
    exact List.mem_of_getElem? (i := 3) rfl
  · rw [hf]
    exact List.mem_of_getElem? (i := 4) rfl
  · rw [hf]
    exact List.mem_of_getElem? (i := 5) rfl
  · rw [hf]
    exact List.mem_of_getElem? (i := 6) rfl
  · rw [hf]
    exact List.mem_of_getElem? (i := 7) rfl
  · rw [hf]
    exact List.mem_of_getElem? (i := 8) rfl
theorem me_row {r : Fin 8} {f : Nat → Nat} (hf : ∀ k, ad (rw_ r k) = f k) {p : Nat} (hp : p < 2) : (ad (rw_ r p), tm_cell ad cT w_0 (rw_ r p)) ∈ mk_wRow cT (f 0) f := by
  rcases (by omega : p = 0 ∨ p = 1) with rfl | rfl
  · rw [ce_row, hf, hf]
    exact List.mem_cons_self
  · rw [hf]
    exact List.mem_cons_of_mem _ List.mem_cons_self
end
section
variable {cT : Nat → ClassId} {q0 q1 b : Nat} {u : (Nat → Nat) × (Nat → Nat → Nat) × (Nat → Nat → Nat)} {a : Nat → Nat}
theorem me_c {c : Fin 6} {p : Nat} (hp : p < 9) : (mk_ad q0 q1 b u a (cit c p), tm_cell (mk_ad q0 q1 b u a) cT w_0 (cit c p)) ∈ mk_wVM cT q0 u ++ mk_wModel cT q1 a := by
  obtain ⟨k, hk⟩ := c
  rcases (by omega : k = 0 ∨ k = 1 ∨ k = 2 ∨ k = 3 ∨ k = 4 ∨ k = 5) with rfl | rfl | rfl | rfl | rfl | rfl
  · have h : (mk_ad q0 q1 b u a (cit ⟨0, hk⟩ p), tm_cell (mk_ad q0 q1 b u a) cT w_0 (cit ⟨0, hk⟩ p)) ∈ mk_wCity cT (u.2.1 0 0) (u.2.1 0) := me_city (fun _ => rfl) hp
    simp only [mk_wVM, mk_wSeer, List.mem_append, List.mem_cons, h, true_or, or_true]
  · have h : (mk_ad q0 q1 b u a (cit ⟨1, hk⟩ p), tm_cell (mk_ad q0 q1 b u a) cT w_0 (cit ⟨1, hk⟩ p)) ∈ mk_wCity cT (u.2.1 1 0) (u.2.1 1) := me_city (fun _ => rfl) hp
    simp only [mk_wVM, mk_wSeer, List.mem_append, List.mem_cons, h, true_or, or_true]
  · have h : (mk_ad q0 q1 b u a (cit ⟨2, hk⟩ p), tm_cell (mk_ad q0 q1 b u a) cT w_0 (cit ⟨2, hk⟩ p)) ∈ mk_wCity cT (u.2.1 2 0) (u.2.1 2) := me_city (fun _ => rfl) hp
    simp only [mk_wVM, mk_wSeer, List.mem_append, List.mem_cons, h, true_or, or_true]
  · have h : (mk_ad q0 q1 b u a (cit ⟨3, hk⟩ p), tm_cell (mk_ad q0 q1 b u a) cT w_0 (cit ⟨3, hk⟩ p)) ∈ mk_wCity cT (u.2.1 3 0) (u.2.1 3) := me_city (fun _ => rfl) hp
    simp only [mk_wVM, mk_wSeer, List.mem_append, List.mem_cons, h, true_or, or_true]
  · have h : (mk_ad q0 q1 b u a (cit ⟨4, hk⟩ p), tm_cell (mk_ad q0 q1 b u a) cT w_0 (cit ⟨4, hk⟩ p)) ∈ mk_wCity cT (u.2.1 4 0) (u.2.1 4) := me_city (fun _ => rfl) hp
    simp only [mk_wVM, mk_wSeer, List.mem_append, List.mem_cons, h, true_or, or_true]
  · have h : (mk_ad q0 q1 b u a (cit ⟨5, hk⟩ p), tm_cell (mk_ad q0 q1 b u a) cT w_0 (cit ⟨5, hk⟩ p)) ∈ mk_wCity cT (u.2.1 5 0) (u.2.1 5) := me_city (fun _ => rfl) hp
    simp only [mk_wVM, mk_wSeer, List.mem_append, List.mem_cons, h, true_or, or_true]
theorem me_r {r : Fin 8} {p : Nat} (hp : p < 2) : (mk_ad q0 q1 b u a (rw_ r p), tm_cell (mk_ad q0 q1 b u a) cT w_0 (rw_ r p)) ∈ mk_wVM cT q0 u ++ mk_wModel cT q1 a := by
  obtain ⟨k, hk⟩ := r
  rcases (by omega : k = 0 ∨ k = 1 ∨ k = 2 ∨ k = 3 ∨ k = 4 ∨ k = 5 ∨ k = 6 ∨ k = 7) with rfl | rfl | rfl | rfl | rfl | rfl | rfl | rfl
  · have h : (mk_ad q0 q1 b u a (rw_ ⟨0, hk⟩ p), tm_cell (mk_ad q0 q1 b u a) cT w_0 (rw_ ⟨0, hk⟩ p)) ∈ mk_wRow cT (u.2.2 0 0) (u.2.2 0) := me_row (fun _ => rfl) hp
    simp only [mk_wVM, mk_wSeer, List.mem_append, List.mem_cons, h, true_or, or_true]
  · have h : (mk_ad q0 q1 b u a (rw_ ⟨1, hk⟩ p), tm_cell (mk_ad q0 q1 b u a) cT w_0 (rw_ ⟨1, hk⟩ p)) ∈ mk_wRow cT (u.2.2 1 0) (u.2.2 1) := me_row (fun _ => rfl) hp
    simp only [mk_wVM, mk_wSeer, List.mem_append, List.mem_cons, h, true_or, or_true]
  · have h : (mk_ad q0 q1 b u a (rw_ ⟨2, hk⟩ p), tm_cell (mk_ad q0 q1 b u a) cT w_0 (rw_ ⟨2, hk⟩ p)) ∈ mk_wRow cT (u.2.2 2 0) (u.2.2 2) := me_row (fun _ => rfl) hp
    simp only [mk_wVM, mk_wSeer, List.mem_append, List.mem_cons, h, true_or, or_true]
  · have h : (mk_ad q0 q1 b u a (rw_ ⟨3, hk⟩ p), tm_cell (mk_ad q0 q1 b u a) cT w_0 (rw_ ⟨3, hk⟩ p)) ∈ mk_wRow cT (u.2.2 3 0) (u.2.2 3) := me_row (fun _ => rfl) hp
    simp only [mk_wVM, mk_wSeer, List.mem_append, List.mem_cons, h, true_or, or_true]
  · have h : (mk_ad q0 q1 b u a (rw_ ⟨4, hk⟩ p), tm_cell (mk_ad q0 q1 b u a) cT w_0 (rw_ ⟨4, hk⟩ p)) ∈ mk_wRow cT (u.2.2 4 0) (u.2.2 4) := me_row (fun _ => rfl) hp
    simp only [mk_wVM, mk_wSeer, List.mem_append, List.mem_cons, h, true_or, or_true]
  · have h : (mk_ad q0 q1 b u a (rw_ ⟨5, hk⟩ p), tm_cell (mk_ad q0 q1 b u a) cT w_0 (rw_ ⟨5, hk⟩ p)) ∈ mk_wRow cT (u.2.2 5 0) (u.2.2 5) := me_row (fun _ => rfl) hp
    simp only [mk_wVM, mk_wSeer, List.mem_append, List.mem_cons, h, true_or, or_true]
  · have h : (mk_ad q0 q1 b u a (rw_ ⟨6, hk⟩ p), tm_cell (mk_ad q0 q1 b u a) cT w_0 (rw_ ⟨6, hk⟩ p)) ∈ mk_wRow cT (u.2.2 6 0) (u.2.2 6) := me_row (fun _ => rfl) hp
    simp only [mk_wVM, mk_wSeer, List.mem_append, List.mem_cons, h, true_or, or_true]
  · have h : (mk_ad q0 q1 b u a (rw_ ⟨7, hk⟩ p), tm_cell (mk_ad q0 q1 b u a) cT w_0 (rw_ ⟨7, hk⟩ p)) ∈ mk_wRow cT (u.2.2 7 0) (u.2.2 7) := me_row (fun _ => rfl) hp
    simp only [mk_wVM, mk_wSeer, List.mem_append, List.mem_cons, h, true_or, or_true]
theorem me_s {j : Nat} (hj : j < 23) : (mk_ad q0 q1 b u a (sg j), tm_cell (mk_ad q0 q1 b u a) cT w_0 (sg j)) ∈ mk_wVM cT q0 u ++ mk_wModel cT q1 a := by
  rcases (by omega : j = 0 ∨ j = 1 ∨ j = 2 ∨ j = 3 ∨ j = 4 ∨ j = 5 ∨ j = 6 ∨ j = 7 ∨ j = 8 ∨ j = 9 ∨ j = 10 ∨ j = 11 ∨ j = 12 ∨ j = 13 ∨ j = 14 ∨ j = 15 ∨ j = 16 ∨ j = 17 ∨ j = 18 ∨ j = 19 ∨ j = 20 ∨ j = 21 ∨ j = 22) with rfl | rfl | rfl | rfl | rfl | rfl | rfl | rfl | rfl | rfl | rfl | rfl | rfl | rfl | rfl | rfl | rfl | rfl | rfl | rfl | rfl | rfl | rfl
  · refine List.mem_append_left _ ?_
    rw [ce_vm]
    exact List.mem_cons_self
  · exact List.mem_append_left _ (List.mem_cons_of_mem _ List.mem_cons_self)
  · have h : (mk_ad q0 q1 b u a (sg 2), tm_cell (mk_ad q0 q1 b u a) cT w_0 (sg 2)) ∈ mk_wTape cT (u.1 2) (fun _ => u.1 3) := List.mem_of_getElem? (i := 0) rfl
    simp only [mk_wVM, List.mem_append, List.mem_cons, h, true_or, or_true]
  · have h : (mk_ad q0 q1 b u a (sg 3), tm_cell (mk_ad q0 q1 b u a) cT w_0 (sg 3)) ∈ mk_wTape cT (u.1 2) (fun _ => u.1 3) := List.mem_of_getElem? (i := 1) rfl
    simp only [mk_wVM, List.mem_append, List.mem_cons, h, true_or, or_true]
  · exact List.mem_append_left _ (List.mem_cons_of_mem _ (List.mem_cons_of_mem _ List.mem_cons_self))
  · have h : (mk_ad q0 q1 b u a (sg 5), tm_cell (mk_ad q0 q1 b u a) cT w_0 (sg 5)) ∈ mk_wActs cT (u.1 5) (fun k => u.1 (5 + k)) := List.mem_of_getElem? (i := 0) rfl
    simp only [mk_wVM, List.mem_append, List.mem_cons, h, true_or, or_true]
  · have h : (mk_ad q0 q1 b u a (sg 6), tm_cell (mk_ad q0 q1 b u a) cT w_0 (sg 6)) ∈ mk_wActs cT (u.1 5) (fun k => u.1 (5 + k)) := List.mem_of_getElem? (i := 1) rfl
    simp only [mk_wVM, List.mem_append, List.mem_cons, h, true_or, or_true]
  · have h : (mk_ad q0 q1 b u a (sg 7), tm_cell (mk_ad q0 q1 b u a) cT w_0 (sg 7)) ∈ mk_wActs cT (u.1 5) (fun k => u.1 (5 + k)) := List.mem_of_getElem? (i := 2) rfl
    simp only [mk_wVM, List.mem_append, List.mem_cons, h, true_or, or_true]
  · have h : (mk_ad q0 q1 b u a (sg 8), tm_cell (mk_ad q0 q1 b u a) cT w_0 (sg 8)) ∈ mk_wActs cT (u.1 5) (fun k => u.1 (5 + k)) := List.mem_of_getElem? (i := 3) rfl
    simp only [mk_wVM, List.mem_append, List.mem_cons, h, true_or, or_true]
  · have h : (mk_ad q0 q1 b u a (sg 9), tm_cell (mk_ad q0 q1 b u a) cT w_0 (sg 9)) ∈ mk_wActs cT (u.1 5) (fun k => u.1 (5 + k)) := List.mem_of_getElem? (i := 4) rfl
    simp only [mk_wVM, List.mem_append, List.mem_cons, h, true_or, or_true]
  · have h : (mk_ad q0 q1 b u a (sg 10), tm_cell (mk_ad q0 q1 b u a) cT w_0 (sg 10)) ∈ mk_wSeer cT (u.1 10) (u.2.1 4, u.2.1 5) := List.mem_cons_self
    simp only [mk_wVM, List.mem_append, List.mem_cons, h, true_or, or_true]
  · have h : (mk_ad q0 q1 b u a (sg 11), tm_cell (mk_ad q0 q1 b u a) cT w_0 (sg 11)) ∈ mk_wTrace cT (u.1 11) (fun _ => u.1 12) := List.mem_of_getElem? (i := 0) rfl
    simp only [mk_wVM, List.mem_append, List.mem_cons, h, true_or, or_true]
  · have h : (mk_ad q0 q1 b u a (sg 12), tm_cell (mk_ad q0 q1 b u a) cT w_0 (sg 12)) ∈ mk_wTrace cT (u.1 11) (fun _ => u.1 12) := List.mem_of_getElem? (i := 1) rfl
    simp only [mk_wVM, List.mem_append, List.mem_cons, h, true_or, or_true]
  · have h : (mk_ad q0 q1 b u a (sg 13), tm_cell (mk_ad q0 q1 b u a) cT w_0 (sg 13)) ∈ mk_wModel cT q1 a := List.mem_of_getElem? (i := 0) rfl
    simp only [mk_wVM, List.mem_append, List.mem_cons, h, true_or, or_true]
  · have h : (mk_ad q0 q1 b u a (sg 14), tm_cell (mk_ad q0 q1 b u a) cT w_0 (sg 14)) ∈ mk_wModel cT q1 a := List.mem_of_getElem? (i := 1) rfl
    simp only [mk_wVM, List.mem_append, List.mem_cons, h, true_or, or_true]
  · have h : (mk_ad q0 q1 b u a (sg 15), tm_cell (mk_ad q0 q1 b u a) cT w_0 (sg 15)) ∈ mk_wModel cT q1 a := List.mem_of_getElem? (i := 2) rfl
    simp only [mk_wVM, List.mem_append, List.mem_cons, h, true_or, or_true]
  · have h : (mk_ad q0 q1 b u a (sg 16), tm_cell (mk_ad q0 q1 b u a) cT w_0 (sg 16)) ∈ mk_wModel cT q1 a := List.mem_of_getElem? (i := 3) rfl
    simp only [mk_wVM, List.mem_append, List.mem_cons, h, true_or, or_true]
  · have h : (mk_ad q0 q1 b u a (sg 17), tm_cell (mk_ad q0 q1 b u a) cT w_0 (sg 17)) ∈ mk_wModel cT q1 a := List.mem_of_getElem? (i := 4) rfl
    simp only [mk_wVM, List.mem_append, List.mem_cons, h, true_or, or_true]
  · have h : (mk_ad q0 q1 b u a (sg 18), tm_cell (mk_ad q0 q1 b u a) cT w_0 (sg 18)) ∈ mk_wModel cT q1 a := List.mem_of_getElem? (i := 5) rfl
    simp only [mk_wVM, List.mem_append, List.mem_cons, h, true_or, or_true]
  · have h : (mk_ad q0 q1 b u a (sg 19), tm_cell (mk_ad q0 q1 b u a) cT w_0 (sg 19)) ∈ mk_wModel cT q1 a := List.mem_of_getElem? (i := 6) rfl
    simp only [mk_wVM, List.mem_append, List.mem_cons, h, true_or, or_true]
  · have h : (mk_ad q0 q1 b u a (sg 20), tm_cell (mk_ad q0 q1 b u a) cT w_0 (sg 20)) ∈ mk_wModel cT q1 a := List.mem_of_getElem? (i := 7) rfl
    simp only [mk_wVM, List.mem_append, List.mem_cons, h, true_or, or_true]
  · have h : (mk_ad q0 q1 b u a (sg 21), tm_cell (mk_ad q0 q1 b u a) cT w_0 (sg 21)) ∈ mk_wModel cT q1 a := List.mem_of_getElem? (i := 8) rfl
    simp only [mk_wVM, List.mem_append, List.mem_cons, h, true_or, or_true]
  · have h : (mk_ad q0 q1 b u a (sg 22), tm_cell (mk_ad q0 q1 b u a) cT w_0 (sg 22)) ∈ mk_wModel cT q1 a := List.mem_of_getElem? (i := 9) rfl
    simp only [mk_wVM, List.mem_append, List.mem_cons, h, true_or, or_true]
theorem me_all {D : va_G} {H : Heap} (hP : va_P D tm_cl (mk_wVM cT q0 u ++ mk_wModel cT q1 a) H) : va_P D tm_cl (tm_WS (mk_ad q0 q1 b u a) cT w_0) H := by
  refine hP.mem (fun q hq => ?_)
  obtain ⟨t, ht, rfl⟩ := List.mem_map.mp hq
  rcases List.mem_append.mp ht with ht | ht
  · obtain ⟨c, -, ht⟩ := List.mem_flatMap.mp ht
    obtain ⟨p, hp, rfl⟩ := List.mem_map.mp ht
    exact me_c (List.mem_range.mp hp)
  rcases List.mem_append.mp ht with ht | ht
  · obtain ⟨r, -, ht⟩ := List.mem_flatMap.mp ht
    rcases List.mem_cons.mp ht with rfl | ht
    · exact me_r (by decide)
    · obtain rfl := List.mem_singleton.mp ht
      exact me_r (by decide)
  · obtain ⟨j, hj, rfl⟩ := List.mem_map.mp ht
    exact me_s (List.mem_range.mp hj)
end
