/-! what each helper of the small machine asks and does -/
theorem ti_ild {i n : Nat} {lc : Lc} {st : List AV} {w : Wd} {o : Rs ⊕ Cfg} (h : tm_ild i n lc st w = some o) : ∃ x, lc[i]? = some (some (.inl x)) ∧ o = .inr (n, lc, .inl x :: st, w) := by
  unfold tm_ild tm_go at h
  split at h
  next x hx => cases h; exact ⟨x, hx, rfl⟩
  next => cases h
theorem ti_ald {i n : Nat} {lc : Lc} {st : List AV} {w : Wd} {o : Rs ⊕ Cfg} (h : tm_ald i n lc st w = some o) : ∃ t, lc[i]? = some (some (.inr t)) ∧ o = .inr (n, lc, .inr t :: st, w) := by
  unfold tm_ald tm_go at h
  split at h
  next t ht => cases h; exact ⟨t, ht, rfl⟩
  next => cases h
theorem ti_ist {i n : Nat} {lc : Lc} {st : List AV} {w : Wd} {o : Rs ⊕ Cfg} (h : tm_ist i n lc st w = some o) : ∃ x r, st = .inl x :: r ∧ i < lc.length ∧ o = .inr (n, lc.set i (some (.inl x)), r, w) := by
  unfold tm_ist tm_go at h
  split at h
  next x r => split at h
              next hb => cases h; exact ⟨x, r, rfl, tm_blt.mp hb, rfl⟩
              next => cases h
  next => cases h
theorem ti_ast {i n : Nat} {lc : Lc} {st : List AV} {w : Wd} {o : Rs ⊕ Cfg} (h : tm_ast i n lc st w = some o) : ∃ t r, st = .inr t :: r ∧ i < lc.length ∧ o = .inr (n, lc.set i (some (.inr t)), r, w) := by
  unfold tm_ast tm_go at h
  split at h
  next x r => split at h
              next hb => cases h; exact ⟨x, r, rfl, tm_blt.mp hb, rfl⟩
              next => cases h
  next => cases h
theorem ti_inc {i n a b : Nat} {lc : Lc} {st : List AV} {w : Wd} {o : Rs ⊕ Cfg} (h : tm_inc i a b n lc st w = some o) : ∃ x, lc[i]? = some (some (.inl x)) ∧ o = .inr (n, lc.set i (some (.inl (x + tm_k a b))), st, w) := by
  unfold tm_inc tm_go at h
  split at h
  next x hx =>
    split at h
    next => cases h; exact ⟨x, hx, rfl⟩
    next b hb =>
      cases h
      refine ⟨x, hx, ?_⟩
      unfold tm_k
      split
      next => exact absurd rfl hb
      next => rfl
  next => cases h
theorem ti_con {n a b : Nat} {lc : Lc} {st : List AV} {w : Wd} {o : Rs ⊕ Cfg} (h : tm_con a b n lc st w = some o) : o = .inr (n, lc, .inl (tm_k a b) :: st, w) := by
  unfold tm_con tm_go at h
  split at h
  next => cases h; rfl
  next b hb =>
    cases h
    unfold tm_k
    split
    next => exact absurd rfl hb
    next => rfl
theorem ti_bin {f : Int32 → Int32 → Int32} {n : Nat} {lc : Lc} {st : List AV} {w : Wd} {o : Rs ⊕ Cfg} (h : tm_bin f n lc st w = some o) : ∃ x y r, st = .inl y :: .inl x :: r ∧ o = .inr (n, lc, .inl (f x y) :: r, w) := by
  unfold tm_bin tm_go at h
  split at h
  next y x r => cases h; exact ⟨x, y, r, rfl, rfl⟩
  next => cases h
theorem ti_div {f : Int32 → Int32 → Int32} {n : Nat} {lc : Lc} {st : List AV} {w : Wd} {o : Rs ⊕ Cfg} (h : tm_div f n lc st w = some o) : ∃ x y r, st = .inl y :: .inl x :: r ∧ ¬ y = 0 ∧ o = .inr (n, lc, .inl (f x y) :: r, w) := by
  unfold tm_div tm_go at h
  split at h
  next y x r => split at h
                next => cases h
                next hy => cases h; exact ⟨x, y, r, rfl, hy, rfl⟩
  next => cases h
theorem ti_un {f : Int32 → Int32} {n : Nat} {lc : Lc} {st : List AV} {w : Wd} {o : Rs ⊕ Cfg} (h : tm_un f n lc st w = some o) : ∃ x r, st = .inl x :: r ∧ o = .inr (n, lc, .inl (f x) :: r, w) := by
  unfold tm_un tm_go at h
  split at h
  next x r => cases h; exact ⟨x, r, rfl, rfl⟩
  next => cases h
theorem ti_br1 {q : ClassFile.Cond} {t n : Nat} {lc : Lc} {st : List AV} {w : Wd} {o : Rs ⊕ Cfg} (h : tm_br1 q t n lc st w = some o) : ∃ x r, st = .inl x :: r ∧ o = .inr (bif tm_c2 q x 0 then t else n, lc, r, w) := by
  unfold tm_br1 tm_go at h
  split at h
  next x r => cases h; exact ⟨x, r, rfl, rfl⟩
  next => cases h
theorem ti_br2 {q : ClassFile.Cond} {t n : Nat} {lc : Lc} {st : List AV} {w : Wd} {o : Rs ⊕ Cfg} (h : tm_br2 q t n lc st w = some o) : ∃ x y r, st = .inl y :: .inl x :: r ∧ o = .inr (bif tm_c2 q x y then t else n, lc, r, w) := by
  unfold tm_br2 tm_go at h
  split at h
  next y x r => cases h; exact ⟨x, y, r, rfl, rfl⟩
  next => cases h
theorem ti_jmp {pc t : Nat} {off : Int} (h : tm_jmp pc off = some t) : (pc : Int) + off = (t : Int) := by
  unfold tm_jmp at h
  split at h
  next u hu => cases h; exact hu
  next => cases h
theorem ti_jgo {t : Option Nat} {lc : Lc} {st : List AV} {w : Wd} {o : Rs ⊕ Cfg} (h : tm_jgo t lc st w = some o) : ∃ u, t = some u ∧ o = .inr (u, lc, st, w) := by
  unfold tm_jgo tm_go at h
  split at h
  next u => cases h; exact ⟨u, rfl, rfl⟩
  next => cases h
theorem ti_tsw {pc : Nat} {d lo hi : Int} {offs : Array Int} {lc : Lc} {st : List AV} {w : Wd} {o : Rs ⊕ Cfg} (h : tm_tsw pc d lo hi offs lc st w = some o) : ∃ x r u, st = .inl x :: r ∧ o = .inr (u, lc, r, w) ∧ (((x.toInt < lo ∨ hi < x.toInt) ∧ (pc : Int) + d = (u : Int)) ∨ (¬ x.toInt < lo ∧ ¬ hi < x.toInt ∧ ∃ off, offs[(x.toInt - lo).toNat]? = some off ∧ (pc : Int) + off = (u : Int))) := by
  unfold tm_tsw at h
  split at h
  next x r =>
    split at h
    next hb =>
      obtain ⟨u, h1, h2⟩ := ti_jgo h
      exact ⟨x, r, u, rfl, h2, Or.inl ⟨hb, ti_jmp h1⟩⟩
    next hb =>
      split at h
      next off ho =>
        obtain ⟨u, h1, h2⟩ := ti_jgo h
        exact ⟨x, r, u, rfl, h2, Or.inr ⟨fun q => hb (Or.inl q), fun q => hb (Or.inr q), off, ho, ti_jmp h1⟩⟩
      next => cases h
  next => cases h
theorem ti_lsw {pc : Nat} {d : Int} {ps : Array (Int × Int)} {lc : Lc} {st : List AV} {w : Wd} {o : Rs ⊕ Cfg} (h : tm_lsw pc d ps lc st w = some o) : ∃ x r u, st = .inl x :: r ∧ o = .inr (u, lc, r, w) ∧ (pc : Int) + Op.lookupswitch.offset ps.toList d x.toInt = (u : Int) := by
  unfold tm_lsw at h
  split at h
  next x r =>
    obtain ⟨u, h1, h2⟩ := ti_jgo h
    exact ⟨x, r, u, rfl, h2, ti_jmp h1⟩
  next => cases h
theorem ti_gf {ci k n : Nat} {lc : Lc} {st : List AV} {w : Wd} {o : Rs ⊕ Cfg} (h : tm_gf ci k n lc st w = some o) : ∃ t r, st = .inr t :: r ∧ tm_obj t = ci ∧ ((∃ u, tm_ref t k = some u ∧ o = .inr (n, lc, .inr u :: r, w)) ∨ (tm_ref t k = none ∧ o = .inr (n, lc, .inl (w t k) :: r, w))) := by
  unfold tm_gf tm_go at h
  split at h
  next t r =>
    split at h
    next hb =>
      refine ⟨t, r, rfl, Nat.eq_of_beq_eq_true hb, ?_⟩
      split at h
      next u hu => cases h; exact Or.inl ⟨u, hu, rfl⟩
      next hu => cases h; exact Or.inr ⟨hu, rfl⟩
    next => cases h
  next => cases h
theorem ti_fit {ci k : Nat} {x : Int32} (h : tm_fit ci k x = true) (h1 : ci = 2 ∧ k = 1) : x = 0 ∨ x = 1 := by
  obtain ⟨rfl, rfl⟩ := h1
  have h2 : (decide (x = 0) || decide (x = 1)) = true := h
  simpa using h2
theorem ti_pf {ci k n : Nat} {lc : Lc} {st : List AV} {w : Wd} {o : Rs ⊕ Cfg} (h : tm_pf ci k n lc st w = some o) : ∃ x t r, st = .inl x :: .inr t :: r ∧ tm_obj t = ci ∧ tm_ref t k = none ∧ tm_fit ci k x = true ∧ o = .inr (n, lc, r, wset w t k x) := by
  unfold tm_pf tm_go at h
  split at h
  next x t r =>
    split at h
    next hb =>
      split at h
      next => cases h
      next hu =>
        split at h
        next hf => cases h; exact ⟨x, t, r, rfl, Nat.eq_of_beq_eq_true hb, hu, hf, rfl⟩
        next => cases h
    next => cases h
  next => cases h
theorem ti_in {i : Int32} {n : Nat} (h : tm_in i n = true) : vp_in i n := by
  unfold tm_in at h
  simp only [Bool.and_eq_true, Bool.not_eq_true', decide_eq_false_iff_not, decide_eq_true_eq] at h
  exact fun q => q.elim h.1 (fun z => absurd h.2 (Nat.not_lt.mpr z))
theorem ti_isS {t : TA} (h : tm_isS t = true) : t = sg 99 := by
  unfold tm_isS at h
  split at h
  · rfl
  · cases h
theorem ti_al {y n : Nat} {scr : Scr} {lc : Lc} {st : List AV} {w : Wd} {o : Rs ⊕ Cfg} (h : tm_al y scr n lc st w = some o) : ∃ i t r, st = .inl i :: .inr t :: r ∧ ((∃ m, tm_arr t = some (y, m) ∧ vp_in i m ∧ o = .inr (n, lc, .inl (w t i.toNatClampNeg) :: r, w)) ∨ (t = sg 99 ∧ ∃ L xs, scr = some (L, xs) ∧ vp_in i L ∧ o = .inr (n, lc, .inl (xs i.toNatClampNeg) :: r, w))) := by
  unfold tm_al tm_go at h
  split at h
  next i t r =>
    refine ⟨i, t, r, rfl, ?_⟩
    split at h
    next y' m ha =>
      split at h
      next hb hi =>
        cases h
        have e := Nat.eq_of_beq_eq_true hb
        subst e
        exact Or.inl ⟨m, ha, ti_in hi, rfl⟩
      next => cases h
    next =>
      split at h
      next hs hb =>
        split at h
        next hi => cases h; exact Or.inr ⟨ti_isS (by assumption), _, _, rfl, ti_in hi, rfl⟩
        next => cases h
      next => cases h
  next => cases h
theorem ti_bal {n : Nat} {lc : Lc} {st : List AV} {w : Wd} {o : Rs ⊕ Cfg} (h : tm_bal n lc st w = some o) : ∃ i t r y m, st = .inl i :: .inr t :: r ∧ tm_arr t = some (y, m) ∧ y ≠ 0 ∧ vp_in i m ∧ o = .inr (n, lc, .inl (w t i.toNatClampNeg) :: r, w) := by
  unfold tm_bal tm_go at h
  split at h
  next i t r =>
    split at h
    next y' m ha =>
      split at h
      next hb hi =>
        cases h
        exact ⟨i, t, r, y', m, rfl, ha, fun e => (by rw [e] at hb; cases hb), ti_in hi, rfl⟩
      next => cases h
    next => cases h
  next => cases h
theorem ti_as {n : Nat} {lc : Lc} {st : List AV} {w : Wd} {o : Rs ⊕ Cfg} (h : tm_as n lc st w = some o) : ∃ x i t r m, st = .inl x :: .inl i :: .inr t :: r ∧ tm_arr t = some (0, m) ∧ vp_in i m ∧ o = .inr (n, lc, r, wset w t i.toNatClampNeg x) := by
  unfold tm_as tm_go at h
  split at h
  next x i t r =>
    split at h
    next y' m ha =>
      split at h
      next hb hi =>
        cases h
        have e := Nat.eq_of_beq_eq_true hb
        subst e
        exact ⟨x, i, t, r, m, rfl, ha, ti_in hi, rfl⟩
      next => cases h
    next => cases h
  next => cases h
theorem ti_bas {n : Nat} {lc : Lc} {st : List AV} {w : Wd} {o : Rs ⊕ Cfg} (h : tm_bas n lc st w = some o) : ∃ x i t r y m, st = .inl x :: .inl i :: .inr t :: r ∧ tm_arr t = some (y, m) ∧ y ≠ 0 ∧ vp_in i m ∧ o = .inr (n, lc, r, wset w t i.toNatClampNeg (vp_nar (match y with | 1 => .boolean | _ => .byte) x)) := by
  unfold tm_bas tm_go at h
  split at h
  next x i t r =>
    split at h
    next y' m ha =>
      split at h
      next hb hi =>
        cases h
        exact ⟨x, i, t, r, y', m, rfl, ha, fun e => (by rw [e] at hb; cases hb), ti_in hi, rfl⟩
      next => cases h
    next => cases h
  next => cases h
theorem ti_aal {n : Nat} {lc : Lc} {st : List AV} {w : Wd} {o : Rs ⊕ Cfg} (h : tm_aal n lc st w = some o) : ∃ i r, (st = .inl i :: .inr (sg 1) :: r ∧ vp_in i 8 ∧ o = .inr (n, lc, .inr (rw_ (Fin.ofNat 8 i.toNatClampNeg) 0) :: r, w)) ∨ (st = .inl i :: .inr (sg 4) :: r ∧ vp_in i 2 ∧ o = .inr (n, lc, .inr (cit (Fin.ofNat 6 (2 + i.toNatClampNeg)) 0) :: r, w)) := by
  unfold tm_aal tm_go at h
  split at h
  next i r =>
    split at h
    next hi => cases h; exact ⟨i, r, Or.inl ⟨rfl, ti_in hi, rfl⟩⟩
    next => cases h
  next i r =>
    split at h
    next hi => cases h; exact ⟨i, r, Or.inr ⟨rfl, ti_in hi, rfl⟩⟩
    next => cases h
  next => cases h
theorem ti_len {scr : Scr} {n : Nat} {lc : Lc} {st : List AV} {w : Wd} {o : Rs ⊕ Cfg} (h : tm_len scr n lc st w = some o) : ∃ t r, st = .inr t :: r ∧ ((∃ y m, tm_arr t = some (y, m) ∧ o = .inr (n, lc, .inl (nI m) :: r, w)) ∨ (t = sg 99 ∧ ∃ L xs, scr = some (L, xs) ∧ o = .inr (n, lc, .inl (nI L) :: r, w))) := by
  unfold tm_len tm_go at h
  split at h
  next t r =>
    refine ⟨t, r, rfl, ?_⟩
    split at h
    next y m ha => cases h; exact Or.inl ⟨y, m, ha, rfl⟩
    next =>
      split at h
      next hs => cases h; exact Or.inr ⟨ti_isS (by assumption), _, _, rfl, rfl⟩
      next => cases h
  next => cases h
theorem ti_ret {x : Option Rs} {n : Nat} {lc : Lc} {r : List AV} {o : Rs ⊕ Cfg} (h : tm_ret x n lc r = some o) : ∃ v w, x = some (v, w) ∧ o = .inr (n, lc, v.toList ++ r, w) := by
  unfold tm_ret tm_go at h
  split at h
  next v w => cases h; exact ⟨some v, w, rfl, rfl⟩
  next w => cases h; exact ⟨none, w, rfl, rfl⟩
  next => cases h
theorem ti_pop : ∀ (k : Nat) (acc st as r : List AV), tm_pop k acc st = some (as, r) → ∃ pre, st = pre ++ r ∧ pre.length = k ∧ as = pre.reverse ++ acc
  | 0, acc, st, as, r, h => by
    cases h
    exact ⟨[], rfl, rfl, rfl⟩
  | k + 1, acc, [], as, r, h => by cases h
  | k + 1, acc, v :: st, as, r, h => by
    obtain ⟨pre, h1, h2, h3⟩ := ti_pop k (v :: acc) st as r h
    exact ⟨v :: pre, by rw [h1]; rfl, by simp [h2], by simp [h3]⟩
theorem ti_cv {C : CF} {J' b n : Nat} {lc : Lc} {st : List AV} {w : Wd} {o : Rs ⊕ Cfg} (h : tm_cv C J' b n lc st w = some o) : ∃ t as r v w', st = as.reverse ++ .inr t :: r ∧ as.length = b ∧ tm_obj t = tm_mc J' ∧ r.length ≤ 8 ∧ C J' (.inr t :: as) w = some (v, w') ∧ o = .inr (n, lc, v.toList ++ r, w') := by
  unfold tm_cv at h
  split at h
  next t as r hp =>
    split at h
    next hb hl =>
      obtain ⟨v, w', h1, h2⟩ := ti_ret h
      obtain ⟨pre, g1, g2, g3⟩ := ti_pop _ _ _ _ _ hp
      have e : pre = as.reverse ++ [.inr t] := by
        have := congrArg List.reverse g3
        simp at this
        exact this.symm
      refine ⟨t, as, r, v, w', by rw [g1, e]; simp, ?_, Nat.eq_of_beq_eq_true hb, Nat.le_of_ble_eq_true hl, h1, h2⟩
      rw [e] at g2
      simp at g2
      exact g2
    next => cases h
  next => cases h
theorem ti_cs {C : CF} {J' b n : Nat} {lc : Lc} {st : List AV} {w : Wd} {o : Rs ⊕ Cfg} (h : tm_cs C J' b n lc st w = some o) : ∃ as r v w', st = as.reverse ++ r ∧ as.length = b ∧ r.length ≤ 8 ∧ C J' as w = some (v, w') ∧ o = .inr (n, lc, v.toList ++ r, w') := by
  unfold tm_cs at h
  split at h
  next as r hp =>
    split at h
    next hl =>
      obtain ⟨v, w', h1, h2⟩ := ti_ret h
      obtain ⟨pre, g1, g2, g3⟩ := ti_pop _ _ _ _ _ hp
      have e : pre = as.reverse := by
        have := congrArg List.reverse g3
        simp at this
        exact this.symm
      refine ⟨as, r, v, w', by rw [g1, e], ?_, Nat.le_of_ble_eq_true hl, h1, h2⟩
      rw [e] at g2
      simp at g2
      exact g2
    next => cases h
  next => cases h
theorem ti_rv {J : Nat} {st : List AV} {w : Wd} {o : Rs ⊕ Cfg} (h : tm_rv J st w = some o) : ∃ x, st = [.inl x] ∧ o = .inl (some (.inl x), w) ∧ (tm_rk J = 1 ∨ (tm_rk J = 2 ∧ (x = 0 ∨ x = 1))) := by
  unfold tm_rv at h
  split at h
  next x =>
    split at h
    next hk => cases h; exact ⟨x, rfl, rfl, Or.inl hk⟩
    next hk =>
      split at h
      next hx => cases h; exact ⟨x, rfl, rfl, Or.inr ⟨hk, by simpa using hx⟩⟩
      next => cases h
    next => cases h
  next => cases h
theorem ti_ra {J : Nat} {st : List AV} {w : Wd} {o : Rs ⊕ Cfg} (h : tm_ra J st w = some o) : ∃ t, st = [.inr t] ∧ o = .inl (some (.inr t), w) ∧ tm_rk J = 3 := by
  unfold tm_ra at h
  split at h
  next t =>
    split at h
    next hk => cases h; exact ⟨t, rfl, rfl, hk⟩
    next => cases h
  next => cases h
theorem ti_rn {J : Nat} {st : List AV} {w : Wd} {o : Rs ⊕ Cfg} (h : tm_rn J st w = some o) : st = [] ∧ o = .inl (none, w) ∧ tm_rk J = 0 := by
  unfold tm_rn at h
  split at h
  next =>
    split at h
    next hk => cases h; exact ⟨rfl, rfl, hk⟩
    next => cases h
  next => cases h
theorem ti_dup {n : Nat} {lc : Lc} {st : List AV} {w : Wd} {o : Rs ⊕ Cfg} (h : tm_dup n lc st w = some o) : ∃ v r, st = v :: r ∧ o = .inr (n, lc, v :: v :: r, w) := by
  unfold tm_dup tm_go at h
  split at h
  next v r => cases h; exact ⟨v, r, rfl, rfl⟩
  next => cases h
theorem ti_dup2 {n : Nat} {lc : Lc} {st : List AV} {w : Wd} {o : Rs ⊕ Cfg} (h : tm_dup2 n lc st w = some o) : ∃ v u r, st = v :: u :: r ∧ o = .inr (n, lc, v :: u :: v :: u :: r, w) := by
  unfold tm_dup2 tm_go at h
  split at h
  next v u r => cases h; exact ⟨v, u, r, rfl, rfl⟩
  next => cases h
