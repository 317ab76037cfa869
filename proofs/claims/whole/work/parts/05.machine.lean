/-! A SMALL MACHINE: the same methods over typed cells; its runs are the machine's (part 06). Cells: a city (0 town, 1 draft, 2 3 images, 4 trial, 5 other) and its parts, a row and its part, the rest by number -/
abbrev TA : Type := (Fin 6 × Nat) ⊕ ((Fin 8 × Nat) ⊕ Nat)
abbrev AV : Type := Int32 ⊕ TA
abbrev Wd : Type := TA → Nat → Int32
abbrev Lc : Type := List (Option AV)
abbrev Cfg : Type := Nat × Lc × List AV × Wd
abbrev Rs : Type := Option AV × Wd
abbrev CF : Type := Nat → List AV → Wd → Option Rs
abbrev Scr : Type := Option (Nat × (Nat → Int32))
abbrev cit (k : Fin 6) (p : Nat) : TA := .inl (k, p)
abbrev rw_ (k : Fin 8) (p : Nat) : TA := .inr (.inl (k, p))
abbrev sg (j : Nat) : TA := .inr (.inr j)
abbrev vI (x : Int32) : AV := .inl x
abbrev vR (t : TA) : AV := .inr t
/-- the class of an object's cell -/
def tm_obj (t : TA) : Nat := match t with
  | .inl (_, p) => match p with | 0 => 1 | _ => 99
  | .inr (.inl (_, p)) => match p with | 0 => 2 | _ => 99
  | .inr (.inr j) => match j with | 0 => 6 | 2 => 4 | 5 => 0 | 10 => 3 | 11 => 5 | 13 => 7 | _ => 99
/-- the fields that hold cells -/
def tm_ref (t : TA) (k : Nat) : Option TA := match t with
  | .inl (c, _) => match k with | 5 => some (cit c 1) | 6 => some (cit c 2) | 7 => some (cit c 3) | 8 => some (cit c 4) | 9 => some (cit c 5) | 10 => some (cit c 6) | 11 => some (cit c 7) | 15 => some (cit c 8) | _ => none
  | .inr (.inl (r, _)) => match k with | 0 => some (rw_ r 1) | _ => none
  | .inr (.inr j) => match j with
    | 0 => match k with | 0 => some (sg 1) | 1 => some (sg 2) | 2 => some (cit 0 0) | 3 => some (cit 1 0) | 4 => some (sg 4) | 5 => some (sg 5) | 6 => some (sg 10) | 7 => some (sg 11) | _ => none
    | 2 => match k with | 0 => some (sg 3) | _ => none
    | 5 => match k with | 2 => some (sg 6) | 3 => some (sg 7) | 4 => some (sg 8) | 5 => some (sg 9) | _ => none
    | 10 => match k with | 6 => some (cit 4 0) | 7 => some (cit 5 0) | _ => none
    | 11 => match k with | 0 => some (sg 12) | _ => none
    | 13 => match k with | 0 => some (sg 14) | 1 => some (sg 15) | 2 => some (sg 16) | 4 => some (sg 17) | 6 => some (sg 18) | 7 => some (sg 19) | 9 => some (sg 20) | 20 => some (sg 21) | 23 => some (sg 22) | _ => none
    | _ => none
/-- rows of numbers: 0 int, 1 boolean, 2 byte; how many -/
def tm_arr (t : TA) : Option (Nat × Nat) := match t with
  | .inl (_, p) => match p with | 1 => some (0, 8) | 2 => some (0, 8) | 3 => some (0, 5) | 4 => some (0, 5) | 5 => some (0, 5) | 6 => some (0, 5) | 7 => some (0, 5) | 8 => some (0, 40) | _ => none
  | .inr (.inl (_, p)) => match p with | 1 => some (0, 40) | _ => none
  | .inr (.inr j) => match j with | 3 => some (0, 160) | 6 => some (0, 24) | 7 => some (0, 24) | 8 => some (0, 24) | 9 => some (0, 120) | 12 => some (0, 16) | 14 => some (0, 8) | 15 => some (0, 8) | 16 => some (0, 320) | 17 => some (0, 196) | 18 => some (1, 2) | 19 => some (0, 120) | 20 => some (2, 160) | 21 => some (0, 5) | 22 => some (0, 16) | _ => none
def tm_in (i : Int32) (n : Nat) : Bool := !decide (i < 0) && decide (i.toNatClampNeg < n)
def wset (w : Wd) (t : TA) (k : Nat) (x : Int32) : Wd := fun t' k' => if t' = t then (if k' = k then x else w t k') else w t' k'
def tm_go (n : Nat) (lc : Lc) (st : List AV) (w : Wd) : Option (Rs ⊕ Cfg) := some (.inr (n, lc, st, w))
def tm_ild (i n : Nat) (lc : Lc) (st : List AV) (w : Wd) : Option (Rs ⊕ Cfg) := match lc[i]? with
  | some (some (.inl x)) => tm_go n lc (.inl x :: st) w
  | _ => none
def tm_ald (i n : Nat) (lc : Lc) (st : List AV) (w : Wd) : Option (Rs ⊕ Cfg) := match lc[i]? with
  | some (some (.inr t)) => tm_go n lc (.inr t :: st) w
  | _ => none
def tm_ist (i n : Nat) (lc : Lc) (st : List AV) (w : Wd) : Option (Rs ⊕ Cfg) := match st with
  | .inl x :: r => match Nat.blt i lc.length with | true => tm_go n (lc.set i (some (.inl x))) r w | false => none
  | _ => none
def tm_ast (i n : Nat) (lc : Lc) (st : List AV) (w : Wd) : Option (Rs ⊕ Cfg) := match st with
  | .inr t :: r => match Nat.blt i lc.length with | true => tm_go n (lc.set i (some (.inr t))) r w | false => none
  | _ => none
def tm_inc (i a b : Nat) (n : Nat) (lc : Lc) (st : List AV) (w : Wd) : Option (Rs ⊕ Cfg) := match lc[i]? with
  | some (some (.inl x)) => match b with
    | 0 => tm_go n (lc.set i (some (.inl (x + nI a)))) st w
    | _ => tm_go n (lc.set i (some (.inl (x + -(nI a))))) st w
  | _ => none
def tm_con (a b n : Nat) (lc : Lc) (st : List AV) (w : Wd) : Option (Rs ⊕ Cfg) := match b with
  | 0 => tm_go n lc (.inl (nI a) :: st) w
  | _ => tm_go n lc (.inl (-(nI a)) :: st) w
def tm_bin (f : Int32 → Int32 → Int32) (n : Nat) (lc : Lc) (st : List AV) (w : Wd) : Option (Rs ⊕ Cfg) := match st with
  | .inl y :: .inl x :: r => tm_go n lc (.inl (f x y) :: r) w
  | _ => none
def tm_div (f : Int32 → Int32 → Int32) (n : Nat) (lc : Lc) (st : List AV) (w : Wd) : Option (Rs ⊕ Cfg) := match st with
  | .inl y :: .inl x :: r => if y = 0 then none else tm_go n lc (.inl (f x y) :: r) w
  | _ => none
def tm_un (f : Int32 → Int32) (n : Nat) (lc : Lc) (st : List AV) (w : Wd) : Option (Rs ⊕ Cfg) := match st with
  | .inl x :: r => tm_go n lc (.inl (f x) :: r) w
  | _ => none
def tm_c2 (q : ClassFile.Cond) (x y : Int32) : Bool := match q with
  | .eq => decide (x = y)
  | .ne => !decide (x = y)
  | .lt => decide (x < y)
  | .ge => decide (y ≤ x)
  | .gt => decide (y < x)
  | .le => decide (x ≤ y)
def tm_br1 (q : ClassFile.Cond) (t n : Nat) (lc : Lc) (st : List AV) (w : Wd) : Option (Rs ⊕ Cfg) := match st with
  | .inl x :: r => tm_go (bif tm_c2 q x 0 then t else n) lc r w
  | _ => none
def tm_br2 (q : ClassFile.Cond) (t n : Nat) (lc : Lc) (st : List AV) (w : Wd) : Option (Rs ⊕ Cfg) := match st with
  | .inl y :: .inl x :: r => tm_go (bif tm_c2 q x y then t else n) lc r w
  | _ => none
def tm_jmp (pc : Nat) (off : Int) : Option Nat := match (pc : Int) + off with
  | .ofNat t => some t
  | .negSucc _ => none
def tm_jgo (t : Option Nat) (lc : Lc) (st : List AV) (w : Wd) : Option (Rs ⊕ Cfg) := match t with
  | some t => tm_go t lc st w
  | none => none
def tm_tsw (pc : Nat) (d lo hi : Int) (offs : Array Int) (lc : Lc) (st : List AV) (w : Wd) : Option (Rs ⊕ Cfg) := match st with
  | .inl x :: r => if x.toInt < lo ∨ hi < x.toInt then tm_jgo (tm_jmp pc d) lc r w else match offs[(x.toInt - lo).toNat]? with
    | some off => tm_jgo (tm_jmp pc off) lc r w
    | none => none
  | _ => none
def tm_lsw (pc : Nat) (d : Int) (ps : Array (Int × Int)) (lc : Lc) (st : List AV) (w : Wd) : Option (Rs ⊕ Cfg) := match st with
  | .inl x :: r => tm_jgo (tm_jmp pc (Op.lookupswitch.offset ps.toList d x.toInt)) lc r w
  | _ => none
def tm_gf (ci k n : Nat) (lc : Lc) (st : List AV) (w : Wd) : Option (Rs ⊕ Cfg) := match st with
  | .inr t :: r => match Nat.beq (tm_obj t) ci with
    | true => match tm_ref t k with
      | some u => tm_go n lc (.inr u :: r) w
      | none => tm_go n lc (.inl (w t k) :: r) w
    | false => none
  | _ => none
/-- a field that is a boolean takes 0 and 1 alone -/
def tm_fit (ci k : Nat) (x : Int32) : Bool := match Nat.beq ci 2, Nat.beq k 1 with
  | true, true => decide (x = 0) || decide (x = 1)
  | _, _ => true
def tm_pf (ci k n : Nat) (lc : Lc) (st : List AV) (w : Wd) : Option (Rs ⊕ Cfg) := match st with
  | .inl x :: .inr t :: r => match Nat.beq (tm_obj t) ci with
    | true => match tm_ref t k with
      | some _ => none
      | none => match tm_fit ci k x with
        | true => tm_go n lc r (wset w t k x)
        | false => none
    | false => none
  | _ => none
def tm_isS (t : TA) : Bool := match t with
  | .inr (.inr 99) => true
  | _ => false
def tm_al (y : Nat) (scr : Scr) (n : Nat) (lc : Lc) (st : List AV) (w : Wd) : Option (Rs ⊕ Cfg) := match st with
  | .inl i :: .inr t :: r => match tm_arr t with
    | some (y', m) => match Nat.beq y' y, tm_in i m with
      | true, true => tm_go n lc (.inl (w t i.toNatClampNeg) :: r) w
      | _, _ => none
    | none => match tm_isS t, Nat.beq y 0, scr with
      | true, true, some (L, xs) => match tm_in i L with
        | true => tm_go n lc (.inl (xs i.toNatClampNeg) :: r) w
        | false => none
      | _, _, _ => none
  | _ => none
/-- bytes and booleans: baload, bastore -/
def tm_bal (n : Nat) (lc : Lc) (st : List AV) (w : Wd) : Option (Rs ⊕ Cfg) := match st with
  | .inl i :: .inr t :: r => match tm_arr t with
    | some (y', m) => match Nat.beq y' 0, tm_in i m with
      | false, true => tm_go n lc (.inl (w t i.toNatClampNeg) :: r) w
      | _, _ => none
    | none => none
  | _ => none
def tm_as (n : Nat) (lc : Lc) (st : List AV) (w : Wd) : Option (Rs ⊕ Cfg) := match st with
  | .inl x :: .inl i :: .inr t :: r => match tm_arr t with
    | some (y', m) => match Nat.beq y' 0, tm_in i m with
      | true, true => tm_go n lc r (wset w t i.toNatClampNeg x)
      | _, _ => none
    | none => none
  | _ => none
def tm_bas (n : Nat) (lc : Lc) (st : List AV) (w : Wd) : Option (Rs ⊕ Cfg) := match st with
  | .inl x :: .inl i :: .inr t :: r => match tm_arr t with
    | some (y', m) => match Nat.beq y' 0, tm_in i m with
      | false, true => tm_go n lc r (wset w t i.toNatClampNeg (vp_nar (match y' with | 1 => .boolean | _ => .byte) x))
      | _, _ => none
    | none => none
  | _ => none
def tm_aal (n : Nat) (lc : Lc) (st : List AV) (w : Wd) : Option (Rs ⊕ Cfg) := match st with
  | .inl i :: .inr (.inr (.inr 1)) :: r => match tm_in i 8 with
    | true => tm_go n lc (.inr (rw_ (Fin.ofNat 8 i.toNatClampNeg) 0) :: r) w
    | false => none
  | .inl i :: .inr (.inr (.inr 4)) :: r => match tm_in i 2 with
    | true => tm_go n lc (.inr (cit (Fin.ofNat 6 (2 + i.toNatClampNeg)) 0) :: r) w
    | false => none
  | _ => none
def tm_len (scr : Scr) (n : Nat) (lc : Lc) (st : List AV) (w : Wd) : Option (Rs ⊕ Cfg) := match st with
  | .inr t :: r => match tm_arr t with
    | some (_, m) => tm_go n lc (.inl (nI m) :: r) w
    | none => match tm_isS t, scr with
      | true, some (L, _) => tm_go n lc (.inl (nI L) :: r) w
      | _, _ => none
  | _ => none
def tm_ret (o : Option Rs) (n : Nat) (lc : Lc) (r : List AV) : Option (Rs ⊕ Cfg) := match o with
  | some (some v, w) => tm_go n lc (v :: r) w
  | some (none, w) => tm_go n lc r w
  | none => none
/-- the k upper ones, turned round; the rest -/
def tm_pop : Nat → List AV → List AV → Option (List AV × List AV)
  | 0, acc, r => some (acc, r)
  | _ + 1, _, [] => none
  | k + 1, acc, v :: r => tm_pop k (v :: acc) r
def tm_cv (C : CF) (J' b n : Nat) (lc : Lc) (st : List AV) (w : Wd) : Option (Rs ⊕ Cfg) := match tm_pop (b + 1) [] st with
  | some (.inr t :: as, r) => match Nat.beq (tm_obj t) (tm_mc J'), Nat.ble r.length 8 with
    | true, true => tm_ret (C J' (.inr t :: as) w) n lc r
    | _, _ => none
  | _ => none
def tm_cs (C : CF) (J' b n : Nat) (lc : Lc) (st : List AV) (w : Wd) : Option (Rs ⊕ Cfg) := match tm_pop b [] st with
  | some (as, r) => match Nat.ble r.length 8 with
    | true => tm_ret (C J' as w) n lc r
    | false => none
  | none => none
def tm_rv (J : Nat) (st : List AV) (w : Wd) : Option (Rs ⊕ Cfg) := match st with
  | [.inl x] => match tm_rk J with
    | 1 => some (.inl (some (.inl x), w))
    | 2 => match decide (x = 0) || decide (x = 1) with
      | true => some (.inl (some (.inl x), w))
      | false => none
    | _ => none
  | _ => none
def tm_ra (J : Nat) (st : List AV) (w : Wd) : Option (Rs ⊕ Cfg) := match st with
  | [.inr t] => match tm_rk J with
    | 3 => some (.inl (some (.inr t), w))
    | _ => none
  | _ => none
def tm_rn (J : Nat) (st : List AV) (w : Wd) : Option (Rs ⊕ Cfg) := match st with
  | [] => match tm_rk J with
    | 0 => some (.inl (none, w))
    | _ => none
  | _ => none
def tm_dup (n : Nat) (lc : Lc) (st : List AV) (w : Wd) : Option (Rs ⊕ Cfg) := match st with
  | v :: r => tm_go n lc (v :: v :: r) w
  | _ => none
def tm_dup2 (n : Nat) (lc : Lc) (st : List AV) (w : Wd) : Option (Rs ⊕ Cfg) := match st with
  | v :: u :: r => tm_go n lc (v :: u :: v :: u :: r) w
  | _ => none
def tm_sem (C : CF) (scr : Scr) (J pc : Nat) (ins : Instr) (len a b : Nat) (lc : Lc) (st : List AV) (w : Wd) : Option (Rs ⊕ Cfg) := match ins with
  | .iconst _ => tm_con a b (pc + len) lc st w
  | .bipush _ => tm_con a b (pc + len) lc st w
  | .sipush _ => tm_con a b (pc + len) lc st w
  | .ldc _ => tm_con a b (pc + len) lc st w
  | .ldc_w _ => tm_con a b (pc + len) lc st w
  | .iload i => tm_ild i (pc + len) lc st w
  | .iload_n i => tm_ild i.val (pc + len) lc st w
  | .aload i => tm_ald i (pc + len) lc st w
  | .aload_n i => tm_ald i.val (pc + len) lc st w
  | .istore i => tm_ist i (pc + len) lc st w
  | .istore_n i => tm_ist i.val (pc + len) lc st w
  | .astore i => tm_ast i (pc + len) lc st w
  | .astore_n i => tm_ast i.val (pc + len) lc st w
  | .iinc i _ => tm_inc i a b (pc + len) lc st w
  | .iadd => tm_bin (fun x y => x + y) (pc + len) lc st w
  | .isub => tm_bin (fun x y => x - y) (pc + len) lc st w
  | .imul => tm_bin (fun x y => x * y) (pc + len) lc st w
  | .iand => tm_bin (fun x y => x &&& y) (pc + len) lc st w
  | .ior => tm_bin (fun x y => x ||| y) (pc + len) lc st w
  | .ixor => tm_bin (fun x y => x ^^^ y) (pc + len) lc st w
  | .ishl => tm_bin (fun x y => x <<< (y &&& 31)) (pc + len) lc st w
  | .ishr => tm_bin (fun x y => x >>> (y &&& 31)) (pc + len) lc st w
  | .iushr => tm_bin (fun x y => (x.toUInt32 >>> (y.toUInt32 &&& Int32.toUInt32 31)).toInt32) (pc + len) lc st w
  | .idiv => tm_div (fun x y => x / y) (pc + len) lc st w
  | .irem => tm_div (fun x y => x - x / y * y) (pc + len) lc st w
  | .ineg => tm_un (fun x => -x) (pc + len) lc st w
  | .i2b => tm_un (fun x => x.toInt8.toInt32) (pc + len) lc st w
  | .i2s => tm_un (fun x => x.toInt16.toInt32) (pc + len) lc st w
  | .dup => tm_dup (pc + len) lc st w
  | .dup2 => tm_dup2 (pc + len) lc st w
  | .goto _ => tm_go a lc st w
  | .ifCond q _ => tm_br1 q a (pc + len) lc st w
  | .if_icmp q _ => tm_br2 q a (pc + len) lc st w
  | .tableswitch d lo hi offs => tm_tsw pc d lo hi offs lc st w
  | .lookupswitch d ps => tm_lsw pc d ps lc st w
  | .getfield _ => tm_gf a b (pc + len) lc st w
  | .putfield _ => tm_pf a b (pc + len) lc st w
  | .iaload => tm_al 0 scr (pc + len) lc st w
  | .baload => tm_bal (pc + len) lc st w
  | .iastore => tm_as (pc + len) lc st w
  | .bastore => tm_bas (pc + len) lc st w
  | .aaload => tm_aal (pc + len) lc st w
  | .arraylength => tm_len scr (pc + len) lc st w
  | .invokevirtual _ => tm_cv C a b (pc + len) lc st w
  | .invokestatic _ => tm_cs C a b (pc + len) lc st w
  | .ireturn => tm_rv J st w
  | .areturn => tm_ra J st w
  | .return_ => tm_rn J st w
  | _ => none
def tm_step (C : CF) (scr : Scr) (J : Nat) (c : Cfg) : Option (Rs ⊕ Cfg) := match tm_at J c.1 with
  | some (ins, len, a, b) => tm_sem C scr J c.1 ins len a b c.2.1 c.2.2.1 c.2.2.2
  | none => none
def tm_ex (C : CF) (scr : Scr) (J : Nat) : Nat → Cfg → Option Rs
  | 0, _ => none
  | n + 1, c => match tm_step C scr J c with
    | some (.inl r) => some r
    | some (.inr c') => tm_ex C scr J n c'
    | none => none
/-- System.arraycopy, Math.max, Math.min -/
def tm_jdk (J : Nat) (as : List AV) (w : Wd) : Option Rs := match J, as with
  | 999, [.inr s, .inl sp, .inr d, .inl dp, .inl n] => match tm_arr s, tm_arr d with
    | some (0, n0), some (0, n1) => if ¬ sp < 0 ∧ ¬ dp < 0 ∧ ¬ n < 0 ∧ sp.toNatClampNeg + n.toNatClampNeg ≤ n0 ∧ dp.toNatClampNeg + n.toNatClampNeg ≤ n1 then some (none, fun t k => if t = d then va_cpy (w s) (w d) sp.toNatClampNeg dp.toNatClampNeg n.toNatClampNeg k else w t k) else none
    | _, _ => none
  | 997, [.inl x, .inl y] => some (some (.inl (if x < y then y else x)), w)
  | 996, [.inl x, .inl y] => some (some (.inl (if y < x then y else x)), w)
  | _, _ => none
def tm_ent (J : Nat) (as : List AV) : Lc := as.map some ++ List.replicate (tm_mL J - as.length) none
def tm_cal : Nat → Nat → CF
  | 0, _ => fun _ _ _ => none
  | d + 1, f => fun J as w => match Nat.ble 900 J with
    | true => tm_jdk J as w
    | false => match Nat.ble as.length (tm_mL J), Nat.beq as.length (tm_na J + (bif tm_st J then 0 else 1)) with
      | true, true => tm_ex (tm_cal d f) none J f (0, tm_ent J as, [], w)
      | _, _ => none
