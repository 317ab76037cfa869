/-! the data against the statement: every instruction is what decode says, every name is the tables' -/
def tm_k (a b : Nat) : Int32 := match b with
  | 0 => nI a
  | _ => -(nI a)
def tm_ok (own pc : Nat) (ins : Instr) (len a b : Nat) : Bool := match ins with
  | .iconst i => decide (Int32.ofInt i = tm_k a b) && decide (len = 1)
  | .bipush i => decide ((Int8.ofInt i).toInt32 = tm_k a b) && decide (len = 2)
  | .sipush i => decide ((Int16.ofInt i).toInt32 = tm_k a b) && decide (len = 3)
  | .ldc x => decide (tm_lk own x tm_kl = some (a, b)) && decide (len = 2)
  | .ldc_w x => decide (tm_lk own x tm_kl = some (a, b)) && decide (len = 3)
  | .iinc _ n => decide (Int32.ofInt n = tm_k a b) && decide (len = 3)
  | .iload _ => decide (len = 2)
  | .istore _ => decide (len = 2)
  | .aload _ => decide (len = 2)
  | .astore _ => decide (len = 2)
  | .getfield x => decide (tm_lk own x tm_fl = some (a, b)) && decide (a < 8) && decide (b < tm_N a) && decide (len = 3)
  | .putfield x => decide (tm_lk own x tm_fl = some (a, b)) && decide (a < 8) && decide (b < tm_N a) && decide (len = 3)
  | .invokevirtual x => decide (tm_lk own x tm_ml = some (a, b)) && decide (tm_st a = false) && decide (a < tm_NM) && decide (tm_na a = b) && decide (len = 3)
  | .invokestatic x => decide (tm_lk own x tm_ml = some (a, b)) && (decide (a = 999) || decide (a = 997) || decide (a = 996) || (decide (tm_st a = true) && decide (a < tm_NM) && decide (tm_na a = b))) && decide (len = 3)
  | .goto off => decide ((pc : Int) + off = (a : Int)) && decide (len = 3)
  | .ifCond _ off => decide ((pc : Int) + off = (a : Int)) && decide (len = 3)
  | .if_icmp _ off => decide ((pc : Int) + off = (a : Int)) && decide (len = 3)
  | .lookupswitch _ ps => (ps.toList.zip (ps.toList.drop 1)).all (fun (a, next) => a.1 < next.1)
  | .tableswitch _ _ _ _ => true
  | .invokespecial _ => true
  | .new _ => true
  | .newarray _ => true
  | .anewarray _ => true
  | _ => decide (len = 1)
def tm_okE (J : Nat) (e : tm_E) : Bool := decide (decode (tm_cc J) e.1 = .ok (e.2.1, e.2.2.1)) && tm_ok (tm_mc J) e.1 e.2.1 e.2.2.1 e.2.2.2.1 e.2.2.2.2
def tm_okJ (J : Nat) : Bool := (tm_ks J).all (fun bl => bl.all (tm_okE J))
def tm_okR (i n : Nat) : Bool := (List.range n).all (fun k => tm_okJ (i + k))
theorem tm_ok0 : tm_okR 0 16 = true := by decide +kernel
theorem tm_ok1 : tm_okR 16 16 = true := by decide +kernel
theorem tm_ok2 : tm_okR 32 16 = true := by decide +kernel
theorem tm_ok3 : tm_okR 48 16 = true := by decide +kernel
theorem tm_ok4 : tm_okR 64 16 = true := by decide +kernel
theorem tm_ok5 : tm_okR 80 16 = true := by decide +kernel
theorem tm_ok6 : tm_okR 96 16 = true := by decide +kernel
theorem tm_ok7 : tm_okR 112 16 = true := by decide +kernel
theorem tm_ok8 : tm_okR 128 16 = true := by decide +kernel
theorem tm_ok9 : tm_okR 144 16 = true := by decide +kernel
theorem tm_ok10 : tm_okR 160 16 = true := by decide +kernel
theorem tm_ok11 : tm_okR 176 15 = true := by decide +kernel
def tm_okB (i n : Nat) : Bool := (((tm_ks 191).drop i).take n).all (fun bl => bl.all (tm_okE 191))
theorem tm_okL0 : tm_okB 0 2 = true := by decide +kernel
theorem tm_okL1 : tm_okB 2 2 = true := by decide +kernel
theorem tm_okL2 : tm_okB 4 2 = true := by decide +kernel
theorem tm_okL3 : tm_okB 6 2 = true := by decide +kernel
theorem tm_okL4 : tm_okB 8 2 = true := by decide +kernel
theorem tm_okL5 : tm_okB 10 2 = true := by decide +kernel
theorem tm_okL6 : tm_okB 12 2 = true := by decide +kernel
theorem tm_okL7 : tm_okB 14 2 = true := by decide +kernel
theorem tm_okL8 : tm_okB 16 2 = true := by decide +kernel
theorem tm_okL9 : tm_okB 18 2 = true := by decide +kernel
theorem tm_okL10 : tm_okB 20 2 = true := by decide +kernel
theorem tm_okL11 : tm_okB 22 2 = true := by decide +kernel
theorem tm_okL12 : tm_okB 24 2 = true := by decide +kernel
theorem tm_okL13 : tm_okB 26 2 = true := by decide +kernel
theorem tm_okL14 : tm_okB 28 2 = true := by decide +kernel
theorem tm_okL15 : tm_okB 30 2 = true := by decide +kernel
theorem tm_okL16 : tm_okB 32 2 = true := by decide +kernel
theorem tm_okL17 : tm_okB 34 2 = true := by decide +kernel
theorem tm_okL18 : tm_okB 36 2 = true := by decide +kernel
theorem tm_flok : tm_fl.all (fun e => decide (tables_1[e.2.2.2.2]? = some (.fieldLink (tm_cn e.1) e.2.1 (tm_T e.2.2.1 e.2.2.2.1).1 (tm_T e.2.2.1 e.2.2.2.1).2.1 (tm_T e.2.2.1 e.2.2.2.1).2.2.1))) = true := by decide +kernel
theorem tm_klok : tm_kl.all (fun e => decide (tables_1[e.2.2.2.2]? = some (.constant (tm_cn e.1) e.2.1 (tm_k e.2.2.1 e.2.2.2.1)))) = true := by decide +kernel
def tm_mn (J : Nat) : MethodName := if J = 999 then arraycopyName else if J = 997 then Lib.Math.max.name else if J = 996 then Lib.Math.min.name else tm_y J
theorem tm_mlok : tm_ml.all (fun e => decide (tables_1[e.2.2.2.2]? = some (.methodLink (tm_cn e.1) e.2.1 (tm_mn e.2.2.1)))) = true := by decide +kernel
