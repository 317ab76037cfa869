/-! runs of the small machine, as rules: Rn (from a place of a method on), Cl (a call), by the depth of calls -/
def tm_c2P (q : ClassFile.Cond) (x y : Int32) : Prop := match q with
  | .eq => x = y
  | .ne => ¬ x = y
  | .lt => x < y
  | .ge => y ≤ x
  | .gt => y < x
  | .le => x ≤ y
theorem tm_c2_t {q : ClassFile.Cond} {x y : Int32} : tm_c2 q x y = true ↔ tm_c2P q x y := by
  cases q <;> simp [tm_c2, tm_c2P]
theorem tm_c2_f {q : ClassFile.Cond} {x y : Int32} : tm_c2 q x y = false ↔ ¬ tm_c2P q x y := by
  rw [← tm_c2_t]
  cases tm_c2 q x y <;> simp
theorem tm_ret_mono {o o' : Option Rs} (ho : ∀ r, o = some r → o' = some r) {n : Nat} {lc : Lc} {r : List AV} {x : Rs ⊕ Cfg} (h : tm_ret o n lc r = some x) : tm_ret o' n lc r = some x := by
  obtain ⟨v, w, h1, h2⟩ := ti_ret h
  rw [ho _ h1]
  rw [h1] at h
  exact h
theorem tm_sem_mono {C C' : CF} (hC : ∀ J as w r, C J as w = some r → C' J as w = some r) {scr : Scr} {J pc : Nat} {ins : Instr} {len a b : Nat} {lc : Lc} {st : List AV} {w : Wd} {o : Rs ⊕ Cfg} (h : tm_sem C scr J pc ins len a b lc st w = some o) : tm_sem C' scr J pc ins len a b lc st w = some o := by
  cases ins with
  | invokevirtual x =>
    have h : tm_cv C a b (pc + len) lc st w = some o := h
    show tm_cv C' a b (pc + len) lc st w = some o
    unfold tm_cv at h ⊢
    split at h
    next t as r hp =>
      split at h
      next h1 h2 => exact tm_ret_mono (hC _ _ _) h
      next => cases h
    next => cases h
  | invokestatic x =>
    have h : tm_cs C a b (pc + len) lc st w = some o := h
    show tm_cs C' a b (pc + len) lc st w = some o
    unfold tm_cs at h ⊢
    split at h
    next as r hp =>
      split at h
      next h1 => exact tm_ret_mono (hC _ _ _) h
      next => cases h
    next => cases h
  | _ => exact h
theorem tm_step_mono {C C' : CF} (hC : ∀ J as w r, C J as w = some r → C' J as w = some r) {scr : Scr} {J : Nat} {x : Cfg} {o : Rs ⊕ Cfg} (h : tm_step C scr J x = some o) : tm_step C' scr J x = some o := by
  unfold tm_step at h ⊢
  split at h
  next ins len a b hat => exact tm_sem_mono hC h
  next => cases h
theorem tm_ex_mono {C C' : CF} (hC : ∀ J as w r, C J as w = some r → C' J as w = some r) {scr : Scr} {J : Nat} : ∀ (n n' : Nat) (x : Cfg) (r : Rs), n ≤ n' → tm_ex C scr J n x = some r → tm_ex C' scr J n' x = some r
  | 0, _, _, _, _, h => by cases h
  | n + 1, 0, _, _, hn, _ => absurd hn (by omega)
  | n + 1, n' + 1, x, r, hn, h => by
    unfold tm_ex at h ⊢
    split at h
    next r' hs => rw [tm_step_mono hC hs]; exact h
    next c' hs => rw [tm_step_mono hC hs]; exact tm_ex_mono hC n n' c' r (by omega) h
    next => cases h
theorem tm_cal_mono {f f' : Nat} (hf : f ≤ f') : ∀ (d J : Nat) (as : List AV) (w : Wd) (r : Rs), tm_cal d f J as w = some r → tm_cal d f' J as w = some r
  | 0, _, _, _, _, h => by cases h
  | d + 1, J, as, w, r, h => by
    unfold tm_cal at h ⊢
    split at h
    next hb => exact h
    next hb =>
      split at h
      next h1 h2 => exact tm_ex_mono (tm_cal_mono hf d) f f' _ r hf h
      next => cases h
theorem tm_cal_up {f : Nat} : ∀ (d J : Nat) (as : List AV) (w : Wd) (r : Rs), tm_cal d f J as w = some r → tm_cal (d + 1) f J as w = some r
  | 0, _, _, _, _, h => by cases h
  | d + 1, J, as, w, r, h => by
    rw [tm_cal] at h ⊢
    dsimp only at h ⊢
    split at h
    next hb => exact h
    next hb =>
      split at h
      next h1 h2 => exact tm_ex_mono (tm_cal_up d) f f _ r (Nat.le_refl _) h
      next => cases h
def Rn (scr : Scr) (d J : Nat) (x : Cfg) (r : Rs) : Prop := ∃ f, tm_ex (tm_cal d f) scr J f x = some r
def Cl (d J : Nat) (as : List AV) (w : Wd) (r : Rs) : Prop := ∃ f, tm_cal d f J as w = some r
theorem Cl.up {d d' J : Nat} {as : List AV} {w : Wd} {r : Rs} (h : Cl d J as w r) (hd : d ≤ d') : Cl d' J as w r := by
  obtain ⟨f, h⟩ := h
  refine ⟨f, ?_⟩
  obtain ⟨k, rfl⟩ := Nat.le.dest hd
  clear hd
  induction k with
  | zero => exact h
  | succ k ih => exact tm_cal_up _ _ _ _ _ ih
theorem Rn.step {scr : Scr} {d J : Nat} {x y : Cfg} {r : Rs} (h : ∀ C, tm_step C scr J x = some (.inr y)) (k : Rn scr d J y r) : Rn scr d J x r := by
  obtain ⟨f, k⟩ := k
  refine ⟨f + 1, ?_⟩
  unfold tm_ex
  rw [h]
  exact tm_ex_mono (tm_cal_mono (Nat.le_succ f) d) f f _ r (Nat.le_refl _) k
theorem Rn.done {scr : Scr} {d J : Nat} {x : Cfg} {r : Rs} (h : ∀ C, tm_step C scr J x = some (.inl r)) : Rn scr d J x r := by
  refine ⟨1, ?_⟩
  unfold tm_ex
  rw [h]
theorem tm_none_le (C : CF) : ∀ J as w r, (fun _ _ _ => none : CF) J as w = some r → C J as w = some r := fun _ _ _ _ h => by cases h
def tm_plain (ins : Instr) : Bool := match ins with
  | .ifCond _ _ => false
  | .if_icmp _ _ => false
  | .tableswitch _ _ _ _ => false
  | .lookupswitch _ _ => false
  | .iaload => false
  | .baload => false
  | .iastore => false
  | .bastore => false
  | .aaload => false
  | .invokevirtual _ => false
  | .invokestatic _ => false
  | .ireturn => false
  | .areturn => false
  | .return_ => false
  | _ => true
/-- instructions one after the other, as long as they go straight on -/
def tm_adv (scr : Scr) (J : Nat) : Nat → Nat → Lc → List AV → Wd → Cfg
  | 0, pc, lc, st, w => (pc, lc, st, w)
  | n + 1, pc, lc, st, w => match tm_at J pc with
    | some (ins, len, a, b) => match tm_plain ins with
      | true => match tm_sem (fun _ _ _ => none) scr J pc ins len a b lc st w with
        | some (.inr (pc', lc', st', w')) => tm_adv scr J n pc' lc' st' w'
        | _ => (pc, lc, st, w)
      | false => (pc, lc, st, w)
    | none => (pc, lc, st, w)
theorem Rn.adv {scr : Scr} {d J : Nat} {r : Rs} : ∀ (n pc : Nat) (lc : Lc) (st : List AV) (w : Wd), Rn scr d J (tm_adv scr J n pc lc st w) r → Rn scr d J (pc, lc, st, w) r
  | 0, _, _, _, _, h => h
  | n + 1, pc, lc, st, w, h => by
    unfold tm_adv at h
    split at h
    next ins len a b hat =>
      split at h
      next =>
        split at h
        next pc' lc' st' w' hs =>
          refine Rn.step (fun C => ?_) (Rn.adv n pc' lc' st' w' h)
          unfold tm_step
          dsimp only
          rw [hat]
          exact tm_sem_mono (tm_none_le C) hs
        next => exact h
      next => exact h
    next => exact h
section
variable {scr : Scr} {d J : Nat} {r : Rs} {pc pc' ln a b : Nat} {lc lc' : Lc} {st st' : List AV} {w w' : Wd}
theorem Rn.at (n : Nat) {x : Cfg} (h : tm_adv scr J n pc lc st w = x) (k : Rn scr d J x r) : Rn scr d J (pc, lc, st, w) r := Rn.adv n pc lc st w (by rw [h]; exact k)
theorem Rn.sem {ins : Instr} {y : Cfg} (hi : tm_at J pc' = some (ins, ln, a, b)) (hs : tm_sem (fun _ _ _ => none) scr J pc' ins ln a b lc' st' w' = some (.inr y)) (k : Rn scr d J y r) : Rn scr d J (pc', lc', st', w') r := by
  refine Rn.step (fun C => ?_) k
  unfold tm_step
  dsimp only
  rw [hi]
  exact tm_sem_mono (tm_none_le C) hs
theorem Rn.if1 (n : Nat) {x : Int32} {q : ClassFile.Cond} {off : Int} (h : tm_adv scr J n pc lc st w = (pc', lc', .inl x :: st', w')) (hi : tm_at J pc' = some (.ifCond q off, ln, a, b)) (kt : tm_c2P q x 0 → Rn scr d J (a, lc', st', w') r) (kf : ¬ tm_c2P q x 0 → Rn scr d J (pc' + ln, lc', st', w') r) : Rn scr d J (pc, lc, st, w) r := by
  refine Rn.at n h (Rn.sem hi (y := (bif tm_c2 q x 0 then a else pc' + ln, lc', st', w')) rfl ?_)
  cases hc : tm_c2 q x 0 with
  | true => exact kt (tm_c2_t.mp hc)
  | false => exact kf (tm_c2_f.mp hc)
theorem Rn.if2 (n : Nat) {x y : Int32} {q : ClassFile.Cond} {off : Int} (h : tm_adv scr J n pc lc st w = (pc', lc', .inl y :: .inl x :: st', w')) (hi : tm_at J pc' = some (.if_icmp q off, ln, a, b)) (kt : tm_c2P q x y → Rn scr d J (a, lc', st', w') r) (kf : ¬ tm_c2P q x y → Rn scr d J (pc' + ln, lc', st', w') r) : Rn scr d J (pc, lc, st, w) r := by
  refine Rn.at n h (Rn.sem hi (y := (bif tm_c2 q x y then a else pc' + ln, lc', st', w')) rfl ?_)
  cases hc : tm_c2 q x y with
  | true => exact kt (tm_c2_t.mp hc)
  | false => exact kf (tm_c2_f.mp hc)
theorem Rn.if1t (n : Nat) {x : Int32} {q : ClassFile.Cond} {off : Int} (h : tm_adv scr J n pc lc st w = (pc', lc', .inl x :: st', w')) (hi : tm_at J pc' = some (.ifCond q off, ln, a, b)) (hc : tm_c2P q x 0) (kt : Rn scr d J (a, lc', st', w') r) : Rn scr d J (pc, lc, st, w) r := Rn.if1 n h hi (fun _ => kt) (fun z => absurd hc z)
theorem Rn.if1f (n : Nat) {x : Int32} {q : ClassFile.Cond} {off : Int} (h : tm_adv scr J n pc lc st w = (pc', lc', .inl x :: st', w')) (hi : tm_at J pc' = some (.ifCond q off, ln, a, b)) (hc : ¬ tm_c2P q x 0) (kf : Rn scr d J (pc' + ln, lc', st', w') r) : Rn scr d J (pc, lc, st, w) r := Rn.if1 n h hi (fun z => absurd z hc) (fun _ => kf)
theorem Rn.if2t (n : Nat) {x y : Int32} {q : ClassFile.Cond} {off : Int} (h : tm_adv scr J n pc lc st w = (pc', lc', .inl y :: .inl x :: st', w')) (hi : tm_at J pc' = some (.if_icmp q off, ln, a, b)) (hc : tm_c2P q x y) (kt : Rn scr d J (a, lc', st', w') r) : Rn scr d J (pc, lc, st, w) r := Rn.if2 n h hi (fun _ => kt) (fun z => absurd hc z)
theorem Rn.if2f (n : Nat) {x y : Int32} {q : ClassFile.Cond} {off : Int} (h : tm_adv scr J n pc lc st w = (pc', lc', .inl y :: .inl x :: st', w')) (hi : tm_at J pc' = some (.if_icmp q off, ln, a, b)) (hc : ¬ tm_c2P q x y) (kf : Rn scr d J (pc' + ln, lc', st', w') r) : Rn scr d J (pc, lc, st, w) r := Rn.if2 n h hi (fun z => absurd z hc) (fun _ => kf)
theorem Rn.tsw (n : Nat) {x : Int32} {dd lo hi' : Int} {offs : Array Int} {t : Nat} (h : tm_adv scr J n pc lc st w = (pc', lc', .inl x :: st', w')) (hi : tm_at J pc' = some (.tableswitch dd lo hi' offs, ln, a, b)) (ht : tm_tsw pc' dd lo hi' offs lc' (.inl x :: st') w' = some (.inr (t, lc', st', w'))) (k : Rn scr d J (t, lc', st', w') r) : Rn scr d J (pc, lc, st, w) r :=
  Rn.at n h (Rn.sem hi ht k)
theorem Rn.lsw (n : Nat) {x : Int32} {dd : Int} {ps : Array (Int × Int)} {t : Nat} (h : tm_adv scr J n pc lc st w = (pc', lc', .inl x :: st', w')) (hi : tm_at J pc' = some (.lookupswitch dd ps, ln, a, b)) (ht : tm_lsw pc' dd ps lc' (.inl x :: st') w' = some (.inr (t, lc', st', w'))) (k : Rn scr d J (t, lc', st', w') r) : Rn scr d J (pc, lc, st, w) r :=
  Rn.at n h (Rn.sem hi ht k)
theorem tm_arr_le {t : TA} {y n : Nat} (h : tm_arr t = some (y, n)) : n ≤ 320 := by
  rcases t with ⟨c, p⟩ | ⟨r, p⟩ | j
  all_goals
    unfold tm_arr at h
    dsimp only at h
    split at h
    all_goals first | (cases h; done) | (cases h; omega)
theorem tm_in_nI {j n : Nat} (h : j < n) (hn : n ≤ 320) : tm_in (nI j) n = true := by
  have h1 := nI_in (c := j) (N := n) h (by omega)
  unfold tm_in
  rw [nI_clamp (by omega)]
  simp only [Bool.and_eq_true, Bool.not_eq_true', decide_eq_false_iff_not, decide_eq_true_eq]
  exact ⟨fun q => h1 (Or.inl q), h⟩
theorem Rn.al (n : Nat) {i : Int32} {t : TA} {j m : Nat} (h : tm_adv scr J n pc lc st w = (pc', lc', .inl i :: .inr t :: st', w')) (hi : tm_at J pc' = some (.iaload, ln, a, b)) (ha : tm_arr t = some (0, m)) (hj : i = nI j) (hlt : j < m) (k : Rn scr d J (pc' + ln, lc', .inl (w' t j) :: st', w') r) : Rn scr d J (pc, lc, st, w) r := by
  subst hj
  have hm := tm_arr_le ha
  refine Rn.at n h (Rn.sem hi ?_ k)
  show tm_al 0 scr (pc' + ln) lc' (.inl (nI j) :: .inr t :: st') w' = _
  unfold tm_al
  dsimp only
  rw [ha]
  dsimp only
  rw [tm_in_nI hlt hm, nI_clamp (by omega)]
  rfl
theorem Rn.bal (n : Nat) {i : Int32} {t : TA} {j m y : Nat} (h : tm_adv scr J n pc lc st w = (pc', lc', .inl i :: .inr t :: st', w')) (hi : tm_at J pc' = some (.baload, ln, a, b)) (ha : tm_arr t = some (y + 1, m)) (hj : i = nI j) (hlt : j < m) (k : Rn scr d J (pc' + ln, lc', .inl (w' t j) :: st', w') r) : Rn scr d J (pc, lc, st, w) r := by
  subst hj
  have hm := tm_arr_le ha
  refine Rn.at n h (Rn.sem hi ?_ k)
  show tm_bal (pc' + ln) lc' (.inl (nI j) :: .inr t :: st') w' = _
  unfold tm_bal
  dsimp only
  rw [ha]
  dsimp only
  rw [tm_in_nI hlt hm, nI_clamp (by omega)]
  rfl
theorem Rn.as (n : Nat) {i x : Int32} {t : TA} {j m : Nat} (h : tm_adv scr J n pc lc st w = (pc', lc', .inl x :: .inl i :: .inr t :: st', w')) (hi : tm_at J pc' = some (.iastore, ln, a, b)) (ha : tm_arr t = some (0, m)) (hj : i = nI j) (hlt : j < m) (k : Rn scr d J (pc' + ln, lc', st', wset w' t j x) r) : Rn scr d J (pc, lc, st, w) r := by
  subst hj
  have hm := tm_arr_le ha
  refine Rn.at n h (Rn.sem hi ?_ k)
  show tm_as (pc' + ln) lc' (.inl x :: .inl (nI j) :: .inr t :: st') w' = _
  unfold tm_as
  dsimp only
  rw [ha]
  dsimp only
  rw [tm_in_nI hlt hm, nI_clamp (by omega)]
  rfl
theorem Rn.bas (n : Nat) {i x : Int32} {t : TA} {j m y : Nat} (h : tm_adv scr J n pc lc st w = (pc', lc', .inl x :: .inl i :: .inr t :: st', w')) (hi : tm_at J pc' = some (.bastore, ln, a, b)) (ha : tm_arr t = some (y + 1, m)) (hj : i = nI j) (hlt : j < m) (k : Rn scr d J (pc' + ln, lc', st', wset w' t j (vp_nar (match y + 1 with | 1 => .boolean | _ => .byte) x)) r) : Rn scr d J (pc, lc, st, w) r := by
  subst hj
  have hm := tm_arr_le ha
  refine Rn.at n h (Rn.sem hi ?_ k)
  show tm_bas (pc' + ln) lc' (.inl x :: .inl (nI j) :: .inr t :: st') w' = _
  unfold tm_bas
  dsimp only
  rw [ha]
  dsimp only
  rw [tm_in_nI hlt hm, nI_clamp (by omega)]
  rfl
theorem Rn.row (n : Nat) {i : Int32} {j : Nat} (h : tm_adv scr J n pc lc st w = (pc', lc', .inl i :: .inr (sg 1) :: st', w')) (hi : tm_at J pc' = some (.aaload, ln, a, b)) (hj : i = nI j) (hlt : j < 8) (k : Rn scr d J (pc' + ln, lc', .inr (rw_ (Fin.ofNat 8 j) 0) :: st', w') r) : Rn scr d J (pc, lc, st, w) r := by
  subst hj
  refine Rn.at n h (Rn.sem hi ?_ k)
  show (match tm_in (nI j) 8 with | true => tm_go (pc' + ln) lc' (.inr (rw_ (Fin.ofNat 8 (nI j).toNatClampNeg) 0) :: st') w' | false => none) = _
  rw [tm_in_nI hlt (by omega), nI_clamp (by omega)]
  rfl
theorem Rn.img (n : Nat) {i : Int32} {j : Nat} (h : tm_adv scr J n pc lc st w = (pc', lc', .inl i :: .inr (sg 4) :: st', w')) (hi : tm_at J pc' = some (.aaload, ln, a, b)) (hj : i = nI j) (hlt : j < 2) (k : Rn scr d J (pc' + ln, lc', .inr (cit (Fin.ofNat 6 (2 + j)) 0) :: st', w') r) : Rn scr d J (pc, lc, st, w) r := by
  subst hj
  refine Rn.at n h (Rn.sem hi ?_ k)
  show (match tm_in (nI j) 2 with | true => tm_go (pc' + ln) lc' (.inr (cit (Fin.ofNat 6 (2 + (nI j).toNatClampNeg)) 0) :: st') w' | false => none) = _
  rw [tm_in_nI hlt (by omega), nI_clamp (by omega)]
  rfl
theorem Rn.cv (n : Nat) {x J' d' : Nat} {t : TA} {as rest : List AV} {v : Option AV} {w'' : Wd} (h : tm_adv scr J n pc lc st w = (pc', lc', st', w')) (hi : tm_at J pc' = some (.invokevirtual x, ln, J', b)) (hp : tm_pop (b + 1) [] st' = some (.inr t :: as, rest)) (ho : Nat.beq (tm_obj t) (tm_mc J') = true) (hl : Nat.ble rest.length 8 = true) (hc : Cl d' J' (.inr t :: as) w' (v, w'')) (hd : d' ≤ d) (k : Rn scr d J (pc' + ln, lc', v.toList ++ rest, w'') r) : Rn scr d J (pc, lc, st, w) r := by
  refine Rn.at n h ?_
  obtain ⟨f1, hc⟩ := hc.up hd
  obtain ⟨f2, k⟩ := k
  refine ⟨f1 + f2 + 1, ?_⟩
  have e : tm_step (tm_cal d (f1 + f2 + 1)) scr J (pc', lc', st', w') = some (.inr (pc' + ln, lc', v.toList ++ rest, w'')) := by
    unfold tm_step
    dsimp only
    rw [hi]
    show tm_cv (tm_cal d (f1 + f2 + 1)) J' b (pc' + ln) lc' st' w' = _
    unfold tm_cv
    rw [hp]
    dsimp only
    rw [ho, hl, tm_cal_mono (by omega) d _ _ _ _ hc]
    cases v <;> rfl
  unfold tm_ex
  rw [e]
  exact tm_ex_mono (tm_cal_mono (by omega) d) f2 (f1 + f2) _ r (by omega) k
theorem Rn.cs (n : Nat) {x J' d' : Nat} {as rest : List AV} {v : Option AV} {w'' : Wd} (h : tm_adv scr J n pc lc st w = (pc', lc', st', w')) (hi : tm_at J pc' = some (.invokestatic x, ln, J', b)) (hp : tm_pop b [] st' = some (as, rest)) (hl : Nat.ble rest.length 8 = true) (hc : Cl d' J' as w' (v, w'')) (hd : d' ≤ d) (k : Rn scr d J (pc' + ln, lc', v.toList ++ rest, w'') r) : Rn scr d J (pc, lc, st, w) r := by
  refine Rn.at n h ?_
  obtain ⟨f1, hc⟩ := hc.up hd
  obtain ⟨f2, k⟩ := k
  refine ⟨f1 + f2 + 1, ?_⟩
  have e : tm_step (tm_cal d (f1 + f2 + 1)) scr J (pc', lc', st', w') = some (.inr (pc' + ln, lc', v.toList ++ rest, w'')) := by
    unfold tm_step
    dsimp only
    rw [hi]
    show tm_cs (tm_cal d (f1 + f2 + 1)) J' b (pc' + ln) lc' st' w' = _
    unfold tm_cs
    rw [hp]
    dsimp only
    rw [hl, tm_cal_mono (by omega) d _ _ _ _ hc]
    cases v <;> rfl
  unfold tm_ex
  rw [e]
  exact tm_ex_mono (tm_cal_mono (by omega) d) f2 (f1 + f2) _ r (by omega) k
theorem Rn.ir (n : Nat) {x : Int32} (h : tm_adv scr J n pc lc st w = (pc', lc', [.inl x], w')) (hi : tm_at J pc' = some (.ireturn, ln, a, b)) (hk : tm_rk J = 1) (hr : (some (.inl x), w') = r) : Rn scr d J (pc, lc, st, w) r := by
  subst hr
  refine Rn.at n h (Rn.done (fun C => ?_))
  unfold tm_step
  try dsimp only
  rw [hi]
  show tm_rv J [.inl x] w' = _
  unfold tm_rv
  try dsimp only
  rw [hk]
  rfl
theorem Rn.zr (n : Nat) {x : Int32} (h : tm_adv scr J n pc lc st w = (pc', lc', [.inl x], w')) (hi : tm_at J pc' = some (.ireturn, ln, a, b)) (hk : tm_rk J = 2) (hx : x = 0 ∨ x = 1) (hr : (some (.inl x), w') = r) : Rn scr d J (pc, lc, st, w) r := by
  subst hr
  refine Rn.at n h (Rn.done (fun C => ?_))
  unfold tm_step
  try dsimp only
  rw [hi]
  show tm_rv J [.inl x] w' = _
  unfold tm_rv
  try dsimp only
  rw [hk]
  try dsimp only
  have e : (decide (x = 0) || decide (x = 1)) = true := by simpa using hx
  rw [e]
  rfl
theorem Rn.ar (n : Nat) {t : TA} (h : tm_adv scr J n pc lc st w = (pc', lc', [.inr t], w')) (hi : tm_at J pc' = some (.areturn, ln, a, b)) (hk : tm_rk J = 3) (hr : (some (.inr t), w') = r) : Rn scr d J (pc, lc, st, w) r := by
  subst hr
  refine Rn.at n h (Rn.done (fun C => ?_))
  unfold tm_step
  try dsimp only
  rw [hi]
  show tm_ra J [.inr t] w' = _
  unfold tm_ra
  try dsimp only
  rw [hk]
  rfl
theorem Rn.vr (n : Nat) (h : tm_adv scr J n pc lc st w = (pc', lc', [], w')) (hi : tm_at J pc' = some (.return_, ln, a, b)) (hk : tm_rk J = 0) (hr : (none, w') = r) : Rn scr d J (pc, lc, st, w) r := by
  subst hr
  refine Rn.at n h (Rn.done (fun C => ?_))
  unfold tm_step
  try dsimp only
  rw [hi]
  show tm_rn J [] w' = _
  unfold tm_rn
  try dsimp only
  rw [hk]
  rfl
end
/-- a method, from its entry -/
theorem Cl.of {d J : Nat} {as : List AV} {w : Wd} {r : Rs} (h9 : Nat.ble 900 J = false) (h1 : Nat.ble as.length (tm_mL J) = true) (h2 : Nat.beq as.length (tm_na J + (bif tm_st J then 0 else 1)) = true) {lc : Lc} (hl : tm_ent J as = lc) (h : Rn none d J (0, lc, [], w) r) : Cl (d + 1) J as w r := by
  obtain ⟨f, h⟩ := h
  refine ⟨f, ?_⟩
  unfold tm_cal
  rw [h9]
  try dsimp only
  rw [h1, h2]
  try dsimp only
  rw [hl]
  exact h
theorem Cl.jdk {J : Nat} {as : List AV} {w : Wd} {r : Rs} (h9 : Nat.ble 900 J = true) (h : tm_jdk J as w = some r) : Cl 1 J as w r := by
  refine ⟨0, ?_⟩
  unfold tm_cal
  rw [h9]
  exact h
