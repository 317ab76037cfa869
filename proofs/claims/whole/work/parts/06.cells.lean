/-! cells: what the tables say of classes and fields; a world of typed cells as a world of the kit -/
def tm_ly (c : Nat) : List Nat := [[237, 239, 241, 243, 245, 247], [188, 190, 192, 194, 196, 198, 200, 202, 204, 206, 208, 210, 212, 214, 216, 218, 220], [317, 319, 321, 323], [272, 274, 276, 278, 280, 282, 284, 286], [112, 114, 116, 118, 120, 122], [299, 301], [335, 337, 339, 341, 343, 345, 347, 349, 351], [835, 837, 839, 841, 843, 845, 847, 849, 851, 853, 855, 857, 859, 861, 863, 865, 867, 869, 871, 873, 875, 877, 879, 881, 883]].getD c []
def tm_tbl : List Jvm.Cond := lw_tbl.filter goodWord
theorem tm_in_tbl {w : Jvm.Cond} (h : w ∈ lw_tbl) (g : goodWord w = true) : w ∈ tm_tbl := List.mem_filter.mpr ⟨h, g⟩
theorem tm_good {Ts : List Jvm.Cond} (hTs : ∀ w ∈ tm_tbl, w ∈ Ts) : ∀ w ∈ tm_tbl, w ∈ Ts ∧ ((w.onTables && w.keeps) = true ∨ ∃ ty, w = .arrayClass ty) := fun w h => ⟨hTs w h, good_of_word (List.mem_filter.mp h).2⟩
theorem tm_tables_in {w : Jvm.Cond} {i : Nat} (h : tables_1[i]? = some w) (g : goodWord w = true) : w ∈ tm_tbl := tm_in_tbl (List.mem_append_right _ (List.mem_of_getElem? h)) g
-- classes
theorem tm_lys : (List.range 8).all (fun c => decide (u_ws (tm_cn c) (tm_T c) (tm_N c) = (tm_ly c).filterMap (fun i => lw_tbl[i]?)) && (u_ws (tm_cn c) (tm_T c) (tm_N c)).all goodWord) = true := by decide +kernel
theorem tm_lys_in {c : Nat} (hc : c < 8) : ∀ w ∈ u_ws (tm_cn c) (tm_T c) (tm_N c), w ∈ tm_tbl := by
  intro w hw
  have h := List.all_eq_true.mp tm_lys c (List.mem_range.mpr hc)
  simp only [Bool.and_eq_true, decide_eq_true_eq] at h
  have g := List.all_eq_true.mp h.2 w hw
  rw [h.1] at hw
  obtain ⟨i, -, hi⟩ := List.mem_filterMap.mp hw
  exact tm_in_tbl (List.mem_of_getElem? hi) g
theorem tm_cls {c : Nat} (hc : c < 8) : tm_cl[c]? = some (tm_cn c, tm_T c, tm_N c) := by
  rcases (by omega : c = 0 ∨ c = 1 ∨ c = 2 ∨ c = 3 ∨ c = 4 ∨ c = 5 ∨ c = 6 ∨ c = 7) with rfl | rfl | rfl | rfl | rfl | rfl | rfl | rfl <;> rfl
theorem tm_tys_ok : (List.range 8).all (fun c => (List.range (tm_N c)).all (fun k => decide (parseFieldDescriptor (tm_T c k).2.2.1 = some (tm_t c k)))) = true := by decide +kernel
theorem tm_nms_ok : (List.range 8).all (fun c => (List.range (tm_N c)).all (fun a => (List.range (tm_N c)).all (fun b => decide (a = b) || decide ((tm_T c a).2.1 ≠ (tm_T c b).2.1)))) = true := by decide +kernel
theorem tm_tys_of {c : Nat} (hc : c < 8) : ∀ k, k < tm_N c → parseFieldDescriptor (tm_T c k).2.2.1 = some (tm_t c k) := by
  intro k hk
  have h := List.all_eq_true.mp (List.all_eq_true.mp tm_tys_ok c (List.mem_range.mpr hc)) k (List.mem_range.mpr hk)
  simpa using h
theorem tm_nms_of {c : Nat} (hc : c < 8) : ∀ a, a < tm_N c → ∀ b, b < tm_N c → a ≠ b → (tm_T c a).2.1 ≠ (tm_T c b).2.1 := by
  intro a ha b hb hne
  have h := List.all_eq_true.mp (List.all_eq_true.mp (List.all_eq_true.mp tm_nms_ok c (List.mem_range.mpr hc)) a (List.mem_range.mpr ha)) b (List.mem_range.mpr hb)
  simp only [Bool.or_eq_true, decide_eq_true_eq] at h
  exact h.resolve_left hne
-- the cells
def tm_all : List TA := (List.finRange 6).flatMap (fun c => (List.range 9).map (fun p => cit c p)) ++ ((List.finRange 8).flatMap (fun r => [rw_ r 0, rw_ r 1]) ++ (List.range 23).map sg)
theorem tm_all_nd : tm_all.Nodup := by decide +kernel
theorem tm_all_inj {i j : Nat} {t : TA} (hi : tm_all[i]? = some t) (hj : tm_all[j]? = some t) : i = j := by
  obtain ⟨a1, a2⟩ := List.getElem?_eq_some_iff.mp hi
  obtain ⟨b1, b2⟩ := List.getElem?_eq_some_iff.mp hj
  have h := List.pairwise_iff_getElem.mp tm_all_nd
  rcases Nat.lt_trichotomy i j with z | z | z
  · exact absurd (a2.trans b2.symm) (h i j a1 b1 z)
  · exact z
  · exact absurd (b2.trans a2.symm) (h j i b1 a1 z)
theorem tm_all_cit (c : Fin 6) {p : Nat} (h : p < 9) : cit c p ∈ tm_all := List.mem_append_left _ (List.mem_flatMap.mpr ⟨c, List.mem_finRange c, List.mem_map.mpr ⟨p, List.mem_range.mpr h, rfl⟩⟩)
theorem tm_all_rw (r : Fin 8) {p : Nat} (h : p < 2) : rw_ r p ∈ tm_all := by
  refine List.mem_append_right _ (List.mem_append_left _ (List.mem_flatMap.mpr ⟨r, List.mem_finRange r, ?_⟩))
  rcases (by omega : p = 0 ∨ p = 1) with rfl | rfl
  · exact List.mem_cons_self
  · exact List.mem_cons_of_mem _ List.mem_cons_self
theorem tm_all_sg {j : Nat} (h : j < 23) : sg j ∈ tm_all := List.mem_append_right _ (List.mem_append_right _ (List.mem_map.mpr ⟨j, List.mem_range.mpr h, rfl⟩))
theorem tm_obj_in {t : TA} (h : tm_obj t < 8) : t ∈ tm_all := by
  rcases t with ⟨c, p⟩ | ⟨r, p⟩ | j
  · match p, h with
    | 0, _ => exact tm_all_cit c (by omega)
    | p + 1, h => simp [tm_obj] at h
  · match p, h with
    | 0, _ => exact tm_all_rw r (by omega)
    | p + 1, h => simp [tm_obj] at h
  · refine tm_all_sg ?_
    unfold tm_obj at h
    dsimp only at h
    split at h <;> omega
theorem tm_arr_in {t : TA} {q : Nat × Nat} (h : tm_arr t = some q) : t ∈ tm_all ∧ tm_obj t = 99 := by
  rcases t with ⟨c, p⟩ | ⟨r, p⟩ | j
  · unfold tm_arr at h
    dsimp only at h
    split at h
    all_goals first | (cases h; done) | exact ⟨tm_all_cit c (by omega), rfl⟩
  · unfold tm_arr at h
    dsimp only at h
    split at h
    all_goals first | (cases h; done) | exact ⟨tm_all_rw r (by omega), rfl⟩
  · unfold tm_arr at h
    dsimp only at h
    split at h
    all_goals first | (cases h; done) | exact ⟨tm_all_sg (by omega), rfl⟩
theorem tm_flds_ok : tm_all.all (fun t => decide (8 ≤ tm_obj t) || (List.range (tm_N (tm_obj t))).all (fun k => (tm_ref t k).isSome || (decide ((tm_T (tm_obj t) k).2.2.2 = false) && decide (tm_t (tm_obj t) k = if tm_obj t = 2 ∧ k = 1 then .boolean else .int)))) = true := by decide +kernel
theorem tm_fld {t : TA} {k : Nat} (h : tm_obj t < 8) (hk : k < tm_N (tm_obj t)) (hr : tm_ref t k = none) : (tm_T (tm_obj t) k).2.2.2 = false ∧ tm_t (tm_obj t) k = if tm_obj t = 2 ∧ k = 1 then .boolean else .int := by
  have h1 := List.all_eq_true.mp tm_flds_ok t (tm_obj_in h)
  simp only [Bool.or_eq_true, decide_eq_true_eq] at h1
  have h2 := List.all_eq_true.mp (h1.resolve_left (by omega)) k (List.mem_range.mpr hk)
  simp only [hr, Option.isSome_none, Bool.false_or, Bool.and_eq_true, decide_eq_true_eq] at h2
  exact h2
-- the worlds
def tm_v (ad : TA → Nat) (v : AV) : Value := match v with
  | .inl x => .int x
  | .inr t => .ref (ad t)
def tm_tys (cT : Nat → ClassId) : List (ClassId × FieldType) := [(cT 0, .int), (cT 1, .boolean), (cT 2, .byte), (cT 3, .object "VotedMap$Row"), (cT 4, .object "VotedMap$City")]
def tm_ty (y : Nat) : FieldType := match y with
  | 0 => .int
  | 1 => .boolean
  | _ => .byte
def tm_fv (ad : TA → Nat) (w : Wd) (t : TA) (k : Nat) : Value := match tm_ref t k with
  | some u => .ref (ad u)
  | none => .int (w t k)
def tm_fs (ad : TA → Nat) (w : Wd) (t : TA) : List Value := (List.range (tm_N (tm_obj t))).map (tm_fv ad w t)
def tm_cell (ad : TA → Nat) (cT : Nat → ClassId) (w : Wd) (t : TA) : va_E := match Nat.blt (tm_obj t) 8 with
  | true => .inr (tm_obj t, tm_fs ad w t)
  | false => match tm_arr t with
    | some (y, n) => .inl (cT y, n, .inl (w t))
    | none => match t with
      | .inr (.inr 1) => .inl (cT 3, 8, .inr (.inr (.inr (.inr (fun j => some (ad (rw_ (Fin.ofNat 8 j) 0)))))))
      | _ => .inl (cT 4, 2, .inr (.inr (.inr (.inr (fun j => some (ad (cit (Fin.ofNat 6 (2 + j)) 0)))))))
def tm_WS (ad : TA → Nat) (cT : Nat → ClassId) (w : Wd) : va_W := tm_all.map (fun t => (ad t, tm_cell ad cT w t))
def tm_D (A : Nat → Prop) (ad : TA → Nat) : Prop := (∀ t ∈ tm_all, A (ad t)) ∧ ∀ t ∈ tm_all, ∀ u ∈ tm_all, ad t = ad u → t = u
theorem tm_blt {a b : Nat} : Nat.blt a b = true ↔ a < b := by
  unfold Nat.blt
  rw [Nat.ble_eq]
  exact Iff.rfl
theorem tm_blt_f {a b : Nat} (h : Nat.blt a b = false) : ¬ a < b := fun q => by rw [tm_blt.mpr q] at h; cases h
theorem tm_cell_o {ad : TA → Nat} {cT : Nat → ClassId} {w : Wd} {t : TA} (h : tm_obj t < 8) : tm_cell ad cT w t = .inr (tm_obj t, tm_fs ad w t) := by
  unfold tm_cell
  rw [tm_blt.mpr h]
theorem tm_cell_a {ad : TA → Nat} {cT : Nat → ClassId} {w : Wd} {t : TA} {y n : Nat} (h : tm_arr t = some (y, n)) : tm_cell ad cT w t = .inl (cT y, n, .inl (w t)) := by
  unfold tm_cell
  have h1 : Nat.blt (tm_obj t) 8 = false := by rw [(tm_arr_in h).2]; rfl
  rw [h1, h]
theorem tm_at_WS {ad : TA → Nat} {cT : Nat → ClassId} {t : TA} (h : t ∈ tm_all) : ∃ q0 : Nat, tm_all[q0]? = some t ∧ ∀ w : Wd, (tm_WS ad cT w)[q0]? = some (ad t, tm_cell ad cT w t) := by
  obtain ⟨q0, hq⟩ := List.getElem?_of_mem h
  refine ⟨q0, hq, fun w => ?_⟩
  unfold tm_WS
  rw [List.getElem?_map, hq]
  rfl
theorem tm_cell_ne {ad : TA → Nat} {cT : Nat → ClassId} {w w' : Wd} {u : TA} (h : w' u = w u) : tm_cell ad cT w' u = tm_cell ad cT w u := by
  unfold tm_cell tm_fs
  have e : tm_fv ad w' u = tm_fv ad w u := by
    funext k
    unfold tm_fv
    rw [h]
  rw [h, e]
theorem tm_set_WS {ad : TA → Nat} {cT : Nat → ClassId} {w w' : Wd} {t : TA} {q0 : Nat} {e : va_E} (hq : tm_all[q0]? = some t) (he : tm_cell ad cT w' t = e) (hw : ∀ u, u ≠ t → w' u = w u) : (tm_WS ad cT w).set q0 (ad t, e) = tm_WS ad cT w' := by
  apply List.ext_getElem?
  intro i
  have hlq : q0 < tm_all.length := (List.getElem?_eq_some_iff.mp hq).1
  by_cases hi : i = q0
  · subst hi
    rw [List.getElem?_set_self (by unfold tm_WS; rw [List.length_map]; exact hlq)]
    unfold tm_WS
    rw [List.getElem?_map, hq, ← he]
    rfl
  · rw [List.getElem?_set_ne (Ne.symm hi)]
    unfold tm_WS
    rw [List.getElem?_map, List.getElem?_map]
    cases hu : tm_all[i]? with
    | none => rfl
    | some u =>
      have hne : u ≠ t := by
        intro h
        subst h
        exact hi (tm_all_inj hu hq)
      show some (ad u, tm_cell ad cT w u) = some (ad u, tm_cell ad cT w' u)
      rw [tm_cell_ne (hw u hne)]
theorem tm_D.va {A : Nat → Prop} {ad : TA → Nat} (h : tm_D A ad) (cT : Nat → ClassId) (w : Wd) : va_D A (tm_WS ad cT w) := by
  have key : ∀ (k : Nat) (q : Nat × va_E), (tm_WS ad cT w)[k]? = some q → ∃ t, tm_all[k]? = some t ∧ q.1 = ad t := by
    intro k q hk
    unfold tm_WS at hk
    rw [List.getElem?_map] at hk
    cases ht : tm_all[k]? with
    | none => rw [ht] at hk; cases hk
    | some t => rw [ht] at hk; cases hk; exact ⟨t, rfl, rfl⟩
  refine ⟨fun i j x y hi hj hxy => ?_, fun k q hk => ?_⟩
  · obtain ⟨t, h1, h2⟩ := key i x hi
    obtain ⟨u, h3, h4⟩ := key j y hj
    have hne := h.2 t (List.mem_of_getElem? h1) u (List.mem_of_getElem? h3) (by rw [← h2, ← h4]; exact hxy)
    subst hne
    exact tm_all_inj h1 h3
  · obtain ⟨t, h1, h2⟩ := key k q hk
    rw [h2]
    exact h.1 t (List.mem_of_getElem? h1)
theorem tm_fs_at {ad : TA → Nat} {w : Wd} {t : TA} {k : Nat} (hk : k < tm_N (tm_obj t)) : (tm_fs ad w t)[k]? = some (tm_fv ad w t k) := by
  unfold tm_fs
  rw [List.getElem?_map, List.getElem?_range hk]
  rfl
theorem tm_fs_set {ad : TA → Nat} {w : Wd} {t : TA} {k : Nat} {x : Int32} (hr : tm_ref t k = none) : (tm_fs ad w t).set k (.int x) = tm_fs ad (wset w t k x) t := by
  apply List.ext_getElem?
  intro i
  by_cases hl : i < tm_N (tm_obj t)
  · by_cases hi : i = k
    · subst hi
      rw [List.getElem?_set_self (by unfold tm_fs; rw [List.length_map, List.length_range]; exact hl), tm_fs_at hl]
      unfold tm_fv wset
      rw [hr]
      simp
    · rw [List.getElem?_set_ne (Ne.symm hi), tm_fs_at hl, tm_fs_at hl]
      unfold tm_fv wset
      simp [hi]
  · have e1 : ∀ l : List Value, l.length = tm_N (tm_obj t) → l[i]? = none := fun l h => List.getElem?_eq_none (by omega)
    rw [e1 _ (by rw [List.length_set]; unfold tm_fs; simp), e1 _ (by unfold tm_fs; simp)]
theorem wset_ne {w : Wd} {t u : TA} {k : Nat} {x : Int32} (h : u ≠ t) : wset w t k x u = w u := by
  funext j
  unfold wset
  rw [if_neg h]
theorem wset_upd {w : Wd} {t : TA} {k : Nat} {x : Int32} : wset w t k x t = upd (w t) k x := by
  funext j
  unfold wset upd
  rw [if_pos rfl]
