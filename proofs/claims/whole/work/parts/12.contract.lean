/-! every run of a method of the small machine is a contract of the method -/
theorem tm_args_at (ad : TA → Nat) : ∀ (as : List AV) (k i : Nat) (v : AV), as[i]? = some v → (k + i, tm_v ad v) ∈ lv_args k (as.map (tm_v ad))
  | [], k, i, v, h => by cases h
  | a :: as, k, 0, v, h => by
    cases h
    exact List.mem_cons_self
  | a :: as, k, i + 1, v, h => by
    have h1 : as[i]? = some v := h
    have h2 := tm_args_at ad as (k + 1) i v h1
    have e : lv_args k ((a :: as).map (tm_v ad)) = (k, tm_v ad a) :: lv_args (k + 1) (as.map (tm_v ad)) := by
      show (k, tm_v ad a) :: lv_args (if (tm_v ad a).category = 2 then k + 2 else k + 1) (as.map (tm_v ad)) = _
      rw [if_neg (by rw [tm_v_cat]; decide)]
    rw [e, show k + (i + 1) = k + 1 + i by omega]
    exact List.mem_cons_of_mem _ h2
theorem tm_sl_len (ad : TA → Nat) : ∀ as : List AV, (lg_sl (as.map (tm_v ad))).length = as.length
  | [] => rfl
  | a :: as => by
    have e : lg_sl ((a :: as).map (tm_v ad)) = .val (tm_v ad a) :: lg_sl (as.map (tm_v ad)) := by
      show (if (tm_v ad a).category = 2 then [Slot.val (tm_v ad a), .second] else [Slot.val (tm_v ad a)]) ++ lg_sl (as.map (tm_v ad)) = _
      rw [if_neg (by rw [tm_v_cat]; decide)]
      rfl
    rw [e, List.length_cons, tm_sl_len ad as, List.length_cons]
theorem tm_ent_at {J : Nat} {as : List AV} {i : Nat} {v : AV} (h : (tm_ent J as)[i]? = some (some v)) : as[i]? = some v := by
  unfold tm_ent at h
  by_cases hi : i < as.length
  · rw [List.getElem?_append_left (by rw [List.length_map]; exact hi), List.getElem?_map] at h
    cases ha : as[i]? with
    | none => rw [ha] at h; cases h
    | some u => rw [ha] at h; cases h; rfl
  · rw [List.getElem?_append_right (by rw [List.length_map]; omega)] at h
    have := List.eq_of_mem_replicate (List.mem_of_getElem? h)
    cases this
theorem tm_ent_L {ad : TA → Nat} {J : Nat} {as : List AV} (h : as.length ≤ tm_mL J) : tm_L ad (tm_mL J) ((lg_sl (as.map (tm_v ad)) ++ List.replicate (tm_mL J - (lg_sl (as.map (tm_v ad))).length) Slot.unset).toArray) (tm_ent J as) := by
  have h1 := lv_entry (as.map (tm_v ad)) (n := tm_mL J) (by rw [tm_sl_len]; exact h)
  refine ⟨?_, h1.1, h1.2.1, fun q hq => ?_⟩
  · unfold tm_ent
    rw [List.length_append, List.length_map, List.length_replicate]
    omega
  · obtain ⟨v, hv, e⟩ := tm_lv_of hq
    have h2 := tm_args_at ad as 0 q.1 v (tm_ent_at hv)
    rw [Nat.zero_add, ← e] at h2
    exact h1.2.2 q h2
theorem tm_contract (l : Launch) (D : va_G) (ad : TA → Nat) (cT : Nat → ClassId) (hinj : ∀ t ∈ tm_all, ∀ u ∈ tm_all, ad t = ad u → t = u) (f : Nat) : ∀ (d J : Nat) (as : List AV) (w : Wd) (r : Rs), J < 191 → tm_cal (d + 1) f J as w = some r → tm_Ct l D ad cT d J as w r := by
  intro d
  induction d using Nat.strongRecOn with
  | ind d ih =>
    intro J as w r hJ h
    obtain ⟨b1, b2, b3, b4, b5, b6, b7, b8⟩ := tm_mok_of hJ
    have h9 : Nat.ble 900 J = false := by
      cases hb : Nat.ble 900 J with
      | false => rfl
      | true => exact absurd (Nat.le_of_ble_eq_true hb) (by omega)
    unfold tm_cal at h
    rw [h9] at h
    dsimp only at h
    split at h
    next hl hn =>
      have hl := Nat.le_of_ble_eq_true hl
      unfold tm_Ct
      refine Met.ofW (cc := tm_cc J) (maxL := tm_mL J) (ret := tm_rt J) b7 rfl ?_
      intro p e s m args below meth c s₁ B hml hv
      obtain ⟨rfl, hP, hK⟩ := hv
      have hown : s.vm.findClass (tm_cn (tm_mc J)) = some m.cls := findClass_of_methodNamed B.named
      have F : tm_Fr p s m (as.map (tm_v ad)).toArray c D ad cT (tm_A ad) (tm_ws J) J := ⟨B.exec, B.bytes, hml, hown, atoms_spec (ws := tm_ws J) B.pre, fun w hw => List.mem_cons_of_mem _ hw, hK, fun t ht => ⟨t, ht, rfl⟩, hinj⟩
      have HC : tm_HC l (tm_room d) D ad cT (tm_cal d f) := by
        intro J' as' w' r' hc
        cases d with
        | zero => cases hc
        | succ d =>
          refine ⟨fun hJ' => ⟨d, Nat.le_refl _, ?_, ih d (Nat.lt_succ_self d) J' as' w' r' hJ' hc⟩, fun hJ' => ⟨?_, ?_, ?_⟩⟩
          · show 60 * d + 40 ≤ 60 * (d + 1)
            omega
          · unfold tm_cal at hc
            rw [show Nat.ble 900 J' = true from Nat.ble_eq.mpr hJ'] at hc
            exact hc
          · show 1 ≤ d + 1
            omega
          · show 40 ≤ 60 * (d + 1)
            omega
      have HS : tm_HS s ad (tm_A ad) none := fun L xs z => by cases z
      rw [lg_entry_eq]
      refine tm_run_sound (R := tm_room d) F (by omega) HC HS ⟨Nat.zero_le _, Nat.zero_le _⟩ f (0, tm_ent J as, [], w) r h ?_ _ _ _ (tm_ent_L hl) hP va_S.rf
      intro pc ls H locs hP' hS'
      refine ⟨fun x hx hd hk => ?_, fun t ht hd hk => ?_, fun hx hd hk => ?_⟩
      · have hq : ∀ t : State, t.heap = H → s.WarmedH t.vm → tm_Q D ad cT r (as.map (tm_v ad)).toArray s (.returned (some (.int x))) t := fun t ht hW => ⟨by rw [hx]; rfl, by rw [ht]; exact hP', hS'.F ht⟩
        have hr := B.returns
        have hlocks := B.notSynchronized
        rcases hk with hk | ⟨hk, h01⟩
        · unfold tm_rt at hr
          rw [hk] at hr
          exact W.zret (ty := .int) B.exec B.bytes hr rfl hq hS'.2.2 hd
        · unfold tm_rt at hr
          rw [hk] at hr
          exact W.zret (ty := .boolean) B.exec B.bytes hr (by rcases h01 with rfl | rfl <;> decide) hq hS'.2.2 hd
      · have hq : ∀ t' : State, t'.heap = H → s.WarmedH t'.vm → tm_Q D ad cT r (as.map (tm_v ad)).toArray s (.returned (some (.ref (ad t)))) t' := fun t' ht' hW => ⟨by rw [ht]; rfl, by rw [ht']; exact hP', hS'.F ht'⟩
        have hr := B.returns
        have hlocks := B.notSynchronized
        unfold tm_rt at hr
        rw [hk] at hr
        exact W.aret B.exec B.bytes hr (Or.inl ⟨_, rfl⟩) (Or.inr ⟨_, rfl⟩) hq hS'.2.2 hd
      · have hq : ∀ t' : State, t'.heap = H → s.WarmedH t'.vm → tm_Q D ad cT r (as.map (tm_v ad)).toArray s (.returned none) t' := fun t' ht' hW => ⟨by rw [hx]; rfl, by rw [ht']; exact hP', hS'.F ht'⟩
        have hr := B.returns
        have hlocks := B.notSynchronized
        unfold tm_rt at hr
        rw [hk] at hr
        exact W.vret B.exec B.bytes hr hq hS'.2.2 hd
    next => cases h
