section
variable {p : Program} {l : Launch} {e : Env} {R : Room} {s : State} {m : MethodId} {args : Array Value} {below : List Frame} {meth : Method} {c : Code} {cells slots : Nat} {Q : State → Prop}
variable {D : va_G} {ad : TA → Nat} {cT : Nat → ClassId} {A : Nat → Prop} {Ts : List Jvm.Cond} {J : Nat} {C : CF} {scr : Scr}
set_option maxHeartbeats 8000000 in
theorem tm_one (F : tm_Fr p s m args c D ad cT A Ts J) (HC : tm_HC l R D ad cT C) (HS : tm_HS s ad A scr) (hcs : cells ≤ R.cells ∧ slots ≤ R.slots) {pc len a b : Nat} {ins : Instr} {lc : Lc} {st : List AV} {w : Wd} {o : Rs ⊕ Cfg} (hd : decode (tm_cc J) pc = .ok (ins, len)) (hok : tm_ok (tm_mc J) pc ins len a b = true) (h : tm_sem C scr J pc ins len a b lc st w = some o)
    (kk : ∀ c', o = .inr c' → tm_Go p l e R s m args below meth c cells slots Q D ad cT A J c') (kr : ∀ r, o = .inl r → tm_Rt p l e R s m args below meth c cells slots Q D ad cT A J r) : tm_Go p l e R s m args below meth c cells slots Q D ad cT A J (pc, lc, st, w) := by
  have hx := F.1
  have hb := F.2.1
  have hown := F.2.2.2.1
  have hK := F.2.2.2.2.2.2.1
  have bin : ∀ {f : Int32 → Int32 → Int32}, tm_bin f (pc + 1) lc st w = some o → (∀ {x y : Int32} {r : List AV} {ls : Array Slot} {H : Heap} {locs : List Loc}, W p l e R s m args below meth c H locs cells slots Q (F0 m (pc + 1) ls (.int (f x y) :: r.map (tm_v ad))) → W p l e R s m args below meth c H locs cells slots Q (F0 m pc ls (.int y :: .int x :: r.map (tm_v ad)))) → tm_Go p l e R s m args below meth c cells slots Q D ad cT A J (pc, lc, st, w) := by
    intro f hf hstep
    obtain ⟨x, y, r, rfl, rfl⟩ := ti_bin hf
    exact fun ls H locs hL hP hS => hstep (kk _ rfl ls H locs hL hP hS)
  have un : ∀ {f : Int32 → Int32}, tm_un f (pc + 1) lc st w = some o → (∀ {x : Int32} {r : List AV} {ls : Array Slot} {H : Heap} {locs : List Loc}, W p l e R s m args below meth c H locs cells slots Q (F0 m (pc + 1) ls (.int (f x) :: r.map (tm_v ad))) → W p l e R s m args below meth c H locs cells slots Q (F0 m pc ls (.int x :: r.map (tm_v ad)))) → tm_Go p l e R s m args below meth c cells slots Q D ad cT A J (pc, lc, st, w) := by
    intro f hf hstep
    obtain ⟨x, r, rfl, rfl⟩ := ti_un hf
    exact fun ls H locs hL hP hS => hstep (kk _ rfl ls H locs hL hP hS)
  cases ins with
  | iconst i =>
    have hq : Int32.ofInt i = tm_k a b ∧ len = 1 := by simpa [tm_ok] using hok
    obtain ⟨h1, rfl⟩ := hq
    have h : tm_con a b (pc + 1) lc st w = some o := h
    obtain rfl := ti_con h
    exact fun ls H locs hL hP hS => lv_iconst hx hb hd h1 (kk _ rfl ls H locs hL hP hS)
  | bipush i =>
    have hq : (Int8.ofInt i).toInt32 = tm_k a b ∧ len = 2 := by simpa [tm_ok] using hok
    obtain ⟨h1, rfl⟩ := hq
    have h : tm_con a b (pc + 2) lc st w = some o := h
    obtain rfl := ti_con h
    exact fun ls H locs hL hP hS => lv_bipush hx hb hd h1 (kk _ rfl ls H locs hL hP hS)
  | sipush i =>
    have hq : (Int16.ofInt i).toInt32 = tm_k a b ∧ len = 3 := by simpa [tm_ok] using hok
    obtain ⟨h1, rfl⟩ := hq
    have h : tm_con a b (pc + 3) lc st w = some o := h
    obtain rfl := ti_con h
    exact fun ls H locs hL hP hS => lv_sipush hx hb hd h1 (kk _ rfl ls H locs hL hP hS)
  | ldc i =>
    have hq : tm_lk (tm_mc J) i tm_kl = some (a, b) ∧ len = 2 := by simpa [tm_ok] using hok
    obtain ⟨h1, rfl⟩ := hq
    have h : tm_con a b (pc + 2) lc st w = some o := h
    obtain rfl := ti_con h
    exact fun ls H locs hL hP hS => lv_ldc hx hb hown (F.2.2.2.2.1 _ (F.2.2.2.2.2.1 _ (tm_kl_in h1))) hd (kk _ rfl ls H locs hL hP hS)
  | ldc_w i =>
    have hq : tm_lk (tm_mc J) i tm_kl = some (a, b) ∧ len = 3 := by simpa [tm_ok] using hok
    obtain ⟨h1, rfl⟩ := hq
    have h : tm_con a b (pc + 3) lc st w = some o := h
    obtain rfl := ti_con h
    exact fun ls H locs hL hP hS => lv_ldcw hx hb hown (F.2.2.2.2.1 _ (F.2.2.2.2.2.1 _ (tm_kl_in h1))) hd (kk _ rfl ls H locs hL hP hS)
  | iload i =>
    have hq : len = 2 := by simpa [tm_ok] using hok
    subst hq
    obtain ⟨x, h1, rfl⟩ := ti_ild (show tm_ild i (pc + 2) lc st w = some o from h)
    exact fun ls H locs hL hP hS => lv_iload hx hb hd (hL.get h1) (kk _ rfl ls H locs hL hP hS)
  | iload_n i =>
    have hq : len = 1 := by simpa [tm_ok] using hok
    subst hq
    obtain ⟨x, h1, rfl⟩ := ti_ild (show tm_ild i.val (pc + 1) lc st w = some o from h)
    exact fun ls H locs hL hP hS => lv_iload_n hx hb hd rfl (hL.get h1) (kk _ rfl ls H locs hL hP hS)
  | aload i =>
    have hq : len = 2 := by simpa [tm_ok] using hok
    subst hq
    obtain ⟨x, h1, rfl⟩ := ti_ald (show tm_ald i (pc + 2) lc st w = some o from h)
    exact fun ls H locs hL hP hS => lv_aload hx hb hd (hL.get h1) (kk _ rfl ls H locs hL hP hS)
  | aload_n i =>
    have hq : len = 1 := by simpa [tm_ok] using hok
    subst hq
    obtain ⟨x, h1, rfl⟩ := ti_ald (show tm_ald i.val (pc + 1) lc st w = some o from h)
    exact fun ls H locs hL hP hS => lv_aload_n hx hb hd rfl (hL.get h1) (kk _ rfl ls H locs hL hP hS)
  | istore i =>
    have hq : len = 2 := by simpa [tm_ok] using hok
    subst hq
    obtain ⟨x, r, rfl, h1, rfl⟩ := ti_ist (show tm_ist i (pc + 2) lc st w = some o from h)
    exact fun ls H locs hL hP hS => lv_istore hx hb hd hL.2 (by rw [← hL.1]; exact h1) rfl (fun ls' h' => kk _ rfl ls' H locs (hL.set (v := .inl x) h') hP hS)
  | istore_n i =>
    have hq : len = 1 := by simpa [tm_ok] using hok
    subst hq
    obtain ⟨x, r, rfl, h1, rfl⟩ := ti_ist (show tm_ist i.val (pc + 1) lc st w = some o from h)
    exact fun ls H locs hL hP hS => lv_istore_n hx hb hd rfl hL.2 (by rw [← hL.1]; exact h1) rfl (fun ls' h' => kk _ rfl ls' H locs (hL.set (v := .inl x) h') hP hS)
  | astore i =>
    have hq : len = 2 := by simpa [tm_ok] using hok
    subst hq
    obtain ⟨x, r, rfl, h1, rfl⟩ := ti_ast (show tm_ast i (pc + 2) lc st w = some o from h)
    exact fun ls H locs hL hP hS => lv_astore hx hb hd hL.2 (by rw [← hL.1]; exact h1) rfl (fun ls' h' => kk _ rfl ls' H locs (hL.set (v := .inr x) h') hP hS)
  | astore_n i =>
    have hq : len = 1 := by simpa [tm_ok] using hok
    subst hq
    obtain ⟨x, r, rfl, h1, rfl⟩ := ti_ast (show tm_ast i.val (pc + 1) lc st w = some o from h)
    exact fun ls H locs hL hP hS => lv_astore_n hx hb hd rfl hL.2 (by rw [← hL.1]; exact h1) rfl (fun ls' h' => kk _ rfl ls' H locs (hL.set (v := .inr x) h') hP hS)
  | iinc i n =>
    have hq : Int32.ofInt n = tm_k a b ∧ len = 3 := by simpa [tm_ok] using hok
    obtain ⟨h0, rfl⟩ := hq
    obtain ⟨x, h1, rfl⟩ := ti_inc (show tm_inc i a b (pc + 3) lc st w = some o from h)
    intro ls H locs hL hP hS
    obtain ⟨k, hk⟩ := List.getElem?_of_mem (tm_lv_mem (ad := ad) h1)
    exact lv_iinc hx hb hd hL.2 hk (by rw [h0]) (by rw [← hL.1]; exact (List.getElem?_eq_some_iff.mp h1).1) rfl (fun ls' h' => kk _ rfl ls' H locs (hL.set (v := .inl (x + tm_k a b)) h') hP hS)
  | iadd => (have hq : len = 1 := by simpa [tm_ok] using hok); subst hq; exact bin (f := fun x y => x + y) h (fun k => lv_iadd hx hb hd k)
  | isub => (have hq : len = 1 := by simpa [tm_ok] using hok); subst hq; exact bin (f := fun x y => x - y) h (fun k => lv_isub hx hb hd k)
  | imul => (have hq : len = 1 := by simpa [tm_ok] using hok); subst hq; exact bin (f := fun x y => x * y) h (fun k => lv_imul hx hb hd k)
  | iand => (have hq : len = 1 := by simpa [tm_ok] using hok); subst hq; exact bin (f := fun x y => x &&& y) h (fun k => lv_iand hx hb hd k)
  | ior => (have hq : len = 1 := by simpa [tm_ok] using hok); subst hq; exact bin (f := fun x y => x ||| y) h (fun k => lv_ior hx hb hd k)
  | ixor => (have hq : len = 1 := by simpa [tm_ok] using hok); subst hq; exact bin (f := fun x y => x ^^^ y) h (fun k => lv_ixor hx hb hd k)
  | ishl => (have hq : len = 1 := by simpa [tm_ok] using hok); subst hq; exact bin (f := fun x y => x <<< (y &&& 31)) h (fun k => lv_ishl hx hb hd k)
  | ishr => (have hq : len = 1 := by simpa [tm_ok] using hok); subst hq; exact bin (f := fun x y => x >>> (y &&& 31)) h (fun k => lv_ishr hx hb hd k)
  | iushr => (have hq : len = 1 := by simpa [tm_ok] using hok); subst hq; exact bin (f := fun x y => (x.toUInt32 >>> (y.toUInt32 &&& Int32.toUInt32 31)).toInt32) h (fun k => lv_iushr hx hb hd rfl k)
  | idiv =>
    have hq : len = 1 := by simpa [tm_ok] using hok
    subst hq
    obtain ⟨x, y, r, rfl, hy, rfl⟩ := ti_div (show tm_div (fun x y => x / y) (pc + 1) lc st w = some o from h)
    exact fun ls H locs hL hP hS => lv_idiv hx hb hd hy (kk _ rfl ls H locs hL hP hS)
  | irem =>
    have hq : len = 1 := by simpa [tm_ok] using hok
    subst hq
    obtain ⟨x, y, r, rfl, hy, rfl⟩ := ti_div (show tm_div (fun x y => x - x / y * y) (pc + 1) lc st w = some o from h)
    exact fun ls H locs hL hP hS => lv_irem hx hb hd hy (kk _ rfl ls H locs hL hP hS)
  | ineg => (have hq : len = 1 := by simpa [tm_ok] using hok); subst hq; exact un (f := fun x => -x) h (fun k => lv_ineg hx hb hd k)
  | i2b => (have hq : len = 1 := by simpa [tm_ok] using hok); subst hq; exact un (f := fun x => x.toInt8.toInt32) h (fun k => lv_i2b hx hb hd rfl k)
  | i2s => (have hq : len = 1 := by simpa [tm_ok] using hok); subst hq; exact un (f := fun x => x.toInt16.toInt32) h (fun k => lv_i2s hx hb hd rfl k)
  | dup =>
    have hq : len = 1 := by simpa [tm_ok] using hok
    subst hq
    obtain ⟨v, r, rfl, rfl⟩ := ti_dup (show tm_dup (pc + 1) lc st w = some o from h)
    exact fun ls H locs hL hP hS => lv_dup hx hb hd (tm_v_cat ad v) (kk _ rfl ls H locs hL hP hS)
  | dup2 =>
    have hq : len = 1 := by simpa [tm_ok] using hok
    subst hq
    obtain ⟨v, u, r, rfl, rfl⟩ := ti_dup2 (show tm_dup2 (pc + 1) lc st w = some o from h)
    exact fun ls H locs hL hP hS => lv_dup2_11 hx hb hd (tm_v_cat ad v) (tm_v_cat ad u) (kk _ rfl ls H locs hL hP hS)
  | goto off =>
    have hq : (pc : Int) + off = (a : Int) ∧ len = 3 := by simpa [tm_ok] using hok
    obtain ⟨h0, rfl⟩ := hq
    have h : tm_go a lc st w = some o := h
    cases h
    exact fun ls H locs hL hP hS => lv_goto hx hb hd h0 (kk _ rfl ls H locs hL hP hS)
  | ifCond q off =>
    have hq : (pc : Int) + off = (a : Int) ∧ len = 3 := by simpa [tm_ok] using hok
    obtain ⟨h0, rfl⟩ := hq
    exact tm_b1 F hd h0 h kk
  | if_icmp q off =>
    have hq : (pc : Int) + off = (a : Int) ∧ len = 3 := by simpa [tm_ok] using hok
    obtain ⟨h0, rfl⟩ := hq
    exact tm_b2 F hd h0 h kk
  | tableswitch d lo hi offs =>
    obtain ⟨x, r, u, rfl, rfl, ⟨h1, h2⟩ | ⟨h1, h2, off, h3, h4⟩⟩ := ti_tsw (show tm_tsw pc d lo hi offs lc st w = some o from h)
    · exact fun ls H locs hL hP hS => lv_tableOut hx hb hd h1 h2 (kk _ rfl ls H locs hL hP hS)
    · exact fun ls H locs hL hP hS => lv_tableIn hx hb hd h1 h2 h3 h4 (kk _ rfl ls H locs hL hP hS)
  | lookupswitch d ps =>
    obtain ⟨x, r, u, rfl, rfl, h1⟩ := ti_lsw (show tm_lsw pc d ps lc st w = some o from h)
    exact fun ls H locs hL hP hS => lv_lookup hx hb hd hok rfl h1 (kk _ rfl ls H locs hL hP hS)
  | getfield x =>
    have hq : ((tm_lk (tm_mc J) x tm_fl = some (a, b) ∧ a < 8) ∧ b < tm_N a) ∧ len = 3 := by simpa [tm_ok] using hok
    obtain ⟨⟨⟨h1, h2⟩, h3⟩, rfl⟩ := hq
    exact tm_gets (n := 0) F hd h1 h2 h3 h kk
  | putfield x =>
    have hq : ((tm_lk (tm_mc J) x tm_fl = some (a, b) ∧ a < 8) ∧ b < tm_N a) ∧ len = 3 := by simpa [tm_ok] using hok
    obtain ⟨⟨⟨h1, h2⟩, h3⟩, rfl⟩ := hq
    exact tm_puts (n := 0) F hd h1 h2 h3 h kk
  | iaload => (have hq : len = 1 := by simpa [tm_ok] using hok); subst hq; exact tm_lod F HS hd h kk
  | baload => (have hq : len = 1 := by simpa [tm_ok] using hok); subst hq; exact tm_lodb F hd h kk
  | iastore => (have hq : len = 1 := by simpa [tm_ok] using hok); subst hq; exact tm_sto F hd h kk
  | bastore => (have hq : len = 1 := by simpa [tm_ok] using hok); subst hq; exact tm_stob F hd h kk
  | aaload => (have hq : len = 1 := by simpa [tm_ok] using hok); subst hq; exact tm_lodq F hd h kk
  | arraylength => (have hq : len = 1 := by simpa [tm_ok] using hok); subst hq; exact tm_lens F HS hd h kk
  | invokevirtual x =>
    have hq : (((tm_lk (tm_mc J) x tm_ml = some (a, b) ∧ tm_st a = false) ∧ a < tm_NM) ∧ tm_na a = b) ∧ len = 3 := by simpa [tm_ok] using hok
    obtain ⟨⟨⟨⟨h1, h2⟩, h3⟩, h4⟩, rfl⟩ := hq
    exact tm_ivv F HC hcs hd h1 h2 h3 h4 h kk
  | invokestatic x =>
    have hq : (tm_lk (tm_mc J) x tm_ml = some (a, b) ∧ (((a = 999 ∨ a = 997) ∨ a = 996) ∨ ((tm_st a = true ∧ a < tm_NM) ∧ tm_na a = b))) ∧ len = 3 := by simpa [tm_ok] using hok
    obtain ⟨⟨h1, h2 | ⟨⟨h2, h3⟩, h4⟩⟩, rfl⟩ := hq
    · exact tm_ivj F HC hcs hd h1 (by omega) h kk
    · exact tm_ivs F HC hcs hd h1 h2 h3 h4 h kk
  | ireturn =>
    have hq : len = 1 := by simpa [tm_ok] using hok
    subst hq
    obtain ⟨x, rfl, rfl, h1⟩ := ti_rv (show tm_rv J st w = some o from h)
    exact fun ls H locs hL hP hS => (kr _ rfl pc ls H locs hP hS).1 x rfl hd h1
  | areturn =>
    have hq : len = 1 := by simpa [tm_ok] using hok
    subst hq
    obtain ⟨x, rfl, rfl, h1⟩ := ti_ra (show tm_ra J st w = some o from h)
    exact fun ls H locs hL hP hS => (kr _ rfl pc ls H locs hP hS).2.1 x rfl hd h1
  | return_ =>
    have hq : len = 1 := by simpa [tm_ok] using hok
    subst hq
    obtain ⟨rfl, rfl, h1⟩ := ti_rn (show tm_rn J st w = some o from h)
    exact fun ls H locs hL hP hS => (kr _ rfl pc ls H locs hP hS).2.2 rfl hd h1
  | _ => exact absurd (show (none : Option (Rs ⊕ Cfg)) = some o from h) (fun z => by cases z)
/-- a whole run -/
theorem tm_run_sound (F : tm_Fr p s m args c D ad cT A Ts J) (hJ : J < 192) (HC : tm_HC l R D ad cT C) (HS : tm_HS s ad A scr) (hcs : cells ≤ R.cells ∧ slots ≤ R.slots) : ∀ (n : Nat) (x : Cfg) (r : Rs), tm_ex C scr J n x = some r → tm_Rt p l e R s m args below meth c cells slots Q D ad cT A J r → tm_Go p l e R s m args below meth c cells slots Q D ad cT A J x
  | 0, x, r, h, _ => by cases h
  | n + 1, x, r, h, hr => by
    unfold tm_ex at h
    split at h
    next r' hs =>
      cases h
      obtain ⟨pc, lc, st, w⟩ := x
      unfold tm_step at hs
      split at hs
      next ins len a b hat =>
        obtain ⟨hd, hok⟩ := tm_at_ok hJ hat
        exact tm_one F HC HS hcs hd hok hs (fun c' z => by cases z) (fun r' z => by cases z; exact hr)
      next => cases hs
    next c' hs =>
      have ih := tm_run_sound F hJ HC HS hcs n c' r h hr
      obtain ⟨pc, lc, st, w⟩ := x
      unfold tm_step at hs
      split at hs
      next ins len a b hat =>
        obtain ⟨hd, hok⟩ := tm_at_ok hJ hat
        exact tm_one F HC HS hcs hd hok hs (fun c'' z => by cases z; exact ih) (fun r' z => by cases z)
      next => cases hs
    next => cases h
end
