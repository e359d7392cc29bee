/-! RULES: a row an instruction, over GW. Each is the kit's own row, its machine hidden in fr and cx. -/
def jrem (x y : Int32) : Int32 := x - x / y * y
def jshl (x y : Int32) : Int32 := x <<< (y &&& 31)
def jshr (x y : Int32) : Int32 := x >>> (y &&& 31)
def jushr (x y : Int32) : Int32 := (x.toUInt32 >>> (y.toUInt32 &&& Int32.toUInt32 31)).toInt32
def jlrem (x y : Int64) : Int64 := x - x / y * y
section RUL
variable {E : Ev} {mt : Mt} {d : Nat} {fr : Fr} {nL pc pc' : Nat} {lv : List (Nat × Value)} {rest : List Value} {σ : Sg}
theorem gw_iconst {n : Int} {v : Int32} (cx : Cx E mt d fr) (hv : Int32.ofInt n = v) (hd : decode mt.2.1 pc = .ok (.iconst n, 1)) (hp : pc + 1 = pc') (k : GW E fr nL pc' lv (.int v :: rest) σ) : GW E fr nL pc lv (rest) σ := by
  subst hp; exact fun H locs ls hP hS hl => lv_iconst cx.1 cx.2.1 hd hv (k H locs ls hP hS hl)
theorem gw_bipush {n : Int} {v : Int32} (cx : Cx E mt d fr) (hv : (Int8.ofInt n).toInt32 = v) (hd : decode mt.2.1 pc = .ok (.bipush n, 2)) (hp : pc + 2 = pc') (k : GW E fr nL pc' lv (.int v :: rest) σ) : GW E fr nL pc lv (rest) σ := by
  subst hp; exact fun H locs ls hP hS hl => lv_bipush cx.1 cx.2.1 hd hv (k H locs ls hP hS hl)
theorem gw_sipush {n : Int} {v : Int32} (cx : Cx E mt d fr) (hv : (Int16.ofInt n).toInt32 = v) (hd : decode mt.2.1 pc = .ok (.sipush n, 3)) (hp : pc + 3 = pc') (k : GW E fr nL pc' lv (.int v :: rest) σ) : GW E fr nL pc lv (rest) σ := by
  subst hp; exact fun H locs ls hP hS hl => lv_sipush cx.1 cx.2.1 hd hv (k H locs ls hP hS hl)
theorem gw_lconst {n : Fin 2} {v : Int64} (cx : Cx E mt d fr) (hv : Int64.ofNat (n : Nat) = v) (hd : decode mt.2.1 pc = .ok (.lconst n, 1)) (hp : pc + 1 = pc') (k : GW E fr nL pc' lv (.long v :: rest) σ) : GW E fr nL pc lv (rest) σ := by
  subst hp; exact fun H locs ls hP hS hl => lv_lconst cx.1 cx.2.1 hd hv (k H locs ls hP hS hl)
theorem gw_ldc {ix : Nat} {v : Int32} (cx : Cx E mt d fr) (hw : Cond.constant mt.1.cls ix v ∈ tG) (hd : decode mt.2.1 pc = .ok (.ldc ix, 2)) (hp : pc + 2 = pc') (k : GW E fr nL pc' lv (.int v :: rest) σ) : GW E fr nL pc lv rest σ := by
  subst hp; exact fun H locs ls hP hS hl => lv_ldc cx.1 cx.2.1 cx.2.2.2.1 (cx.2.2.2.2.1 _ hw) hd (k H locs ls hP hS hl)
theorem gw_ldc_w {ix : Nat} {v : Int32} (cx : Cx E mt d fr) (hw : Cond.constant mt.1.cls ix v ∈ tG) (hd : decode mt.2.1 pc = .ok (.ldc_w ix, 3)) (hp : pc + 3 = pc') (k : GW E fr nL pc' lv (.int v :: rest) σ) : GW E fr nL pc lv rest σ := by
  subst hp; exact fun H locs ls hP hS hl => lv_ldcw cx.1 cx.2.1 cx.2.2.2.1 (cx.2.2.2.2.1 _ hw) hd (k H locs ls hP hS hl)
theorem gw_ldc2_w {ix : Nat} {v : Int64} (cx : Cx E mt d fr) (hw : Cond.constantLong mt.1.cls ix v ∈ tG) (hd : decode mt.2.1 pc = .ok (.ldc2_w ix, 3)) (hp : pc + 3 = pc') (k : GW E fr nL pc' lv (.long v :: rest) σ) : GW E fr nL pc lv rest σ := by
  subst hp; exact fun H locs ls hP hS hl => lv_ldc2 cx.1 cx.2.1 cx.2.2.2.1 (cx.2.2.2.2.1 _ hw) hd (k H locs ls hP hS hl)
theorem gw_iload_n {q : Fin 4} {i : Nat} {x : Int32} (cx : Cx E mt d fr) (j : Nat) (hj : lv[j]? = some (i, .int x)) (hi : (q : Nat) = i) (hd : decode mt.2.1 pc = .ok (.iload_n q, 1)) (hp : pc + 1 = pc') (k : GW E fr nL pc' lv (.int x :: rest) σ) : GW E fr nL pc lv rest σ := by
  subst hp; exact fun H locs ls hP hS hl => lv_iload_n cx.1 cx.2.1 hd hi (lv_at hl j hj) (k H locs ls hP hS hl)
theorem gw_iload {i : Nat} {x : Int32} (cx : Cx E mt d fr) (j : Nat) (hj : lv[j]? = some (i, .int x)) (hd : decode mt.2.1 pc = .ok (.iload i, 2)) (hp : pc + 2 = pc') (k : GW E fr nL pc' lv (.int x :: rest) σ) : GW E fr nL pc lv rest σ := by
  subst hp; exact fun H locs ls hP hS hl => lv_iload cx.1 cx.2.1 hd (lv_at hl j hj) (k H locs ls hP hS hl)
theorem gw_istore_n {q : Fin 4} {i : Nat} {x : Int32} {lv' : List (Nat × Value)} (cx : Cx E mt d fr) (hl' : (i, Value.int x) :: lv.filter (fun q => !(q.1 == i) && !(q.1 + 1 == i && q.2.category == 2)) = lv') (hi : (q : Nat) = i) (hn : i < nL) (hd : decode mt.2.1 pc = .ok (.istore_n q, 1)) (hp : pc + 1 = pc') (k : GW E fr nL pc' lv' rest σ) : GW E fr nL pc lv (.int x :: rest) σ := by
  subst hp; exact fun H locs ls hP hS hl => lv_istore_n cx.1 cx.2.1 hd hi hl hn hl' (fun ls' hl2 => k H locs ls' hP hS hl2)
theorem gw_istore {i : Nat} {x : Int32} {lv' : List (Nat × Value)} (cx : Cx E mt d fr) (hl' : (i, Value.int x) :: lv.filter (fun q => !(q.1 == i) && !(q.1 + 1 == i && q.2.category == 2)) = lv') (hn : i < nL) (hd : decode mt.2.1 pc = .ok (.istore i, 2)) (hp : pc + 2 = pc') (k : GW E fr nL pc' lv' rest σ) : GW E fr nL pc lv (.int x :: rest) σ := by
  subst hp; exact fun H locs ls hP hS hl => lv_istore cx.1 cx.2.1 hd hl hn hl' (fun ls' hl2 => k H locs ls' hP hS hl2)
theorem gw_lload_n {q : Fin 4} {i : Nat} {x : Int64} (cx : Cx E mt d fr) (j : Nat) (hj : lv[j]? = some (i, .long x)) (hi : (q : Nat) = i) (hd : decode mt.2.1 pc = .ok (.lload_n q, 1)) (hp : pc + 1 = pc') (k : GW E fr nL pc' lv (.long x :: rest) σ) : GW E fr nL pc lv rest σ := by
  subst hp; exact fun H locs ls hP hS hl => lv_lload_n cx.1 cx.2.1 hd hi (lv_at hl j hj) (k H locs ls hP hS hl)
theorem gw_lload {i : Nat} {x : Int64} (cx : Cx E mt d fr) (j : Nat) (hj : lv[j]? = some (i, .long x)) (hd : decode mt.2.1 pc = .ok (.lload i, 2)) (hp : pc + 2 = pc') (k : GW E fr nL pc' lv (.long x :: rest) σ) : GW E fr nL pc lv rest σ := by
  subst hp; exact fun H locs ls hP hS hl => lv_lload cx.1 cx.2.1 hd (lv_at hl j hj) (k H locs ls hP hS hl)
theorem gw_lstore_n {q : Fin 4} {i : Nat} {x : Int64} {lv' : List (Nat × Value)} (cx : Cx E mt d fr) (hl' : (i, Value.long x) :: lv.filter (fun q => !(q.1 == i) && (!(q.1 == i + 1) && !(q.1 + 1 == i && q.2.category == 2))) = lv') (hi : (q : Nat) = i) (hn : i + 1 < nL) (hd : decode mt.2.1 pc = .ok (.lstore_n q, 1)) (hp : pc + 1 = pc') (k : GW E fr nL pc' lv' rest σ) : GW E fr nL pc lv (.long x :: rest) σ := by
  subst hp; exact fun H locs ls hP hS hl => lv_lstore_n cx.1 cx.2.1 hd hi hl hn hl' (fun ls' hl2 => k H locs ls' hP hS hl2)
theorem gw_lstore {i : Nat} {x : Int64} {lv' : List (Nat × Value)} (cx : Cx E mt d fr) (hl' : (i, Value.long x) :: lv.filter (fun q => !(q.1 == i) && (!(q.1 == i + 1) && !(q.1 + 1 == i && q.2.category == 2))) = lv') (hn : i + 1 < nL) (hd : decode mt.2.1 pc = .ok (.lstore i, 2)) (hp : pc + 2 = pc') (k : GW E fr nL pc' lv' rest σ) : GW E fr nL pc lv (.long x :: rest) σ := by
  subst hp; exact fun H locs ls hP hS hl => lv_lstore cx.1 cx.2.1 hd hl hn hl' (fun ls' hl2 => k H locs ls' hP hS hl2)
theorem gw_aload_n {q : Fin 4} {i : Nat} {x : Nat} (cx : Cx E mt d fr) (j : Nat) (hj : lv[j]? = some (i, .ref x)) (hi : (q : Nat) = i) (hd : decode mt.2.1 pc = .ok (.aload_n q, 1)) (hp : pc + 1 = pc') (k : GW E fr nL pc' lv (.ref x :: rest) σ) : GW E fr nL pc lv rest σ := by
  subst hp; exact fun H locs ls hP hS hl => lv_aload_n cx.1 cx.2.1 hd hi (lv_at hl j hj) (k H locs ls hP hS hl)
theorem gw_aload {i : Nat} {x : Nat} (cx : Cx E mt d fr) (j : Nat) (hj : lv[j]? = some (i, .ref x)) (hd : decode mt.2.1 pc = .ok (.aload i, 2)) (hp : pc + 2 = pc') (k : GW E fr nL pc' lv (.ref x :: rest) σ) : GW E fr nL pc lv rest σ := by
  subst hp; exact fun H locs ls hP hS hl => lv_aload cx.1 cx.2.1 hd (lv_at hl j hj) (k H locs ls hP hS hl)
theorem gw_astore_n {q : Fin 4} {i : Nat} {x : Nat} {lv' : List (Nat × Value)} (cx : Cx E mt d fr) (hl' : (i, Value.ref x) :: lv.filter (fun q => !(q.1 == i) && !(q.1 + 1 == i && q.2.category == 2)) = lv') (hi : (q : Nat) = i) (hn : i < nL) (hd : decode mt.2.1 pc = .ok (.astore_n q, 1)) (hp : pc + 1 = pc') (k : GW E fr nL pc' lv' rest σ) : GW E fr nL pc lv (.ref x :: rest) σ := by
  subst hp; exact fun H locs ls hP hS hl => lv_astore_n cx.1 cx.2.1 hd hi hl hn hl' (fun ls' hl2 => k H locs ls' hP hS hl2)
theorem gw_astore {i : Nat} {x : Nat} {lv' : List (Nat × Value)} (cx : Cx E mt d fr) (hl' : (i, Value.ref x) :: lv.filter (fun q => !(q.1 == i) && !(q.1 + 1 == i && q.2.category == 2)) = lv') (hn : i < nL) (hd : decode mt.2.1 pc = .ok (.astore i, 2)) (hp : pc + 2 = pc') (k : GW E fr nL pc' lv' rest σ) : GW E fr nL pc lv (.ref x :: rest) σ := by
  subst hp; exact fun H locs ls hP hS hl => lv_astore cx.1 cx.2.1 hd hl hn hl' (fun ls' hl2 => k H locs ls' hP hS hl2)
theorem gw_iinc {i : Nat} {n : Int} {x v : Int32} {lv' : List (Nat × Value)} (cx : Cx E mt d fr) (j : Nat) (hj : lv[j]? = some (i, .int x)) (hv : x + Int32.ofInt n = v) (hl' : (i, Value.int v) :: lv.filter (fun q => !(q.1 == i) && !(q.1 + 1 == i && q.2.category == 2)) = lv') (hn : i < nL) (hd : decode mt.2.1 pc = .ok (.iinc i n, 3)) (hp : pc + 3 = pc') (k : GW E fr nL pc' lv' rest σ) : GW E fr nL pc lv rest σ := by
  subst hp; exact fun H locs ls hP hS hl => lv_iinc cx.1 cx.2.1 hd hl hj hv hn hl' (fun ls' hl2 => k H locs ls' hP hS hl2)
theorem gw_iadd {x y : Int32} (cx : Cx E mt d fr) (hd : decode mt.2.1 pc = .ok (.iadd, 1)) (hp : pc + 1 = pc') (k : GW E fr nL pc' lv (.int (x + y) :: rest) σ) : GW E fr nL pc lv (.int y :: .int x :: rest) σ := by
  subst hp; exact fun H locs ls hP hS hl => lv_iadd cx.1 cx.2.1 hd (k H locs ls hP hS hl)
theorem gw_isub {x y : Int32} (cx : Cx E mt d fr) (hd : decode mt.2.1 pc = .ok (.isub, 1)) (hp : pc + 1 = pc') (k : GW E fr nL pc' lv (.int (x - y) :: rest) σ) : GW E fr nL pc lv (.int y :: .int x :: rest) σ := by
  subst hp; exact fun H locs ls hP hS hl => lv_isub cx.1 cx.2.1 hd (k H locs ls hP hS hl)
theorem gw_imul {x y : Int32} (cx : Cx E mt d fr) (hd : decode mt.2.1 pc = .ok (.imul, 1)) (hp : pc + 1 = pc') (k : GW E fr nL pc' lv (.int (x * y) :: rest) σ) : GW E fr nL pc lv (.int y :: .int x :: rest) σ := by
  subst hp; exact fun H locs ls hP hS hl => lv_imul cx.1 cx.2.1 hd (k H locs ls hP hS hl)
theorem gw_iand {x y : Int32} (cx : Cx E mt d fr) (hd : decode mt.2.1 pc = .ok (.iand, 1)) (hp : pc + 1 = pc') (k : GW E fr nL pc' lv (.int (x &&& y) :: rest) σ) : GW E fr nL pc lv (.int y :: .int x :: rest) σ := by
  subst hp; exact fun H locs ls hP hS hl => lv_iand cx.1 cx.2.1 hd (k H locs ls hP hS hl)
theorem gw_ior {x y : Int32} (cx : Cx E mt d fr) (hd : decode mt.2.1 pc = .ok (.ior, 1)) (hp : pc + 1 = pc') (k : GW E fr nL pc' lv (.int (x ||| y) :: rest) σ) : GW E fr nL pc lv (.int y :: .int x :: rest) σ := by
  subst hp; exact fun H locs ls hP hS hl => lv_ior cx.1 cx.2.1 hd (k H locs ls hP hS hl)
theorem gw_ishl {x y : Int32} (cx : Cx E mt d fr) (hd : decode mt.2.1 pc = .ok (.ishl, 1)) (hp : pc + 1 = pc') (k : GW E fr nL pc' lv (.int (jshl x y) :: rest) σ) : GW E fr nL pc lv (.int y :: .int x :: rest) σ := by
  subst hp; exact fun H locs ls hP hS hl => lv_ishl cx.1 cx.2.1 hd (k H locs ls hP hS hl)
theorem gw_ishr {x y : Int32} (cx : Cx E mt d fr) (hd : decode mt.2.1 pc = .ok (.ishr, 1)) (hp : pc + 1 = pc') (k : GW E fr nL pc' lv (.int (jshr x y) :: rest) σ) : GW E fr nL pc lv (.int y :: .int x :: rest) σ := by
  subst hp; exact fun H locs ls hP hS hl => lv_ishr cx.1 cx.2.1 hd (k H locs ls hP hS hl)
theorem gw_iushr {x y : Int32} (cx : Cx E mt d fr) (hd : decode mt.2.1 pc = .ok (.iushr, 1)) (hp : pc + 1 = pc') (k : GW E fr nL pc' lv (.int (jushr x y) :: rest) σ) : GW E fr nL pc lv (.int y :: .int x :: rest) σ := by
  subst hp; exact fun H locs ls hP hS hl => lv_iushr cx.1 cx.2.1 hd rfl (k H locs ls hP hS hl)
theorem gw_idiv {x y : Int32} (cx : Cx E mt d fr) (hne : ¬ y = 0) (hd : decode mt.2.1 pc = .ok (.idiv, 1)) (hp : pc + 1 = pc') (k : GW E fr nL pc' lv (.int (x / y) :: rest) σ) : GW E fr nL pc lv (.int y :: .int x :: rest) σ := by
  subst hp; exact fun H locs ls hP hS hl => lv_idiv cx.1 cx.2.1 hd hne (k H locs ls hP hS hl)
theorem gw_irem {x y : Int32} (cx : Cx E mt d fr) (hne : ¬ y = 0) (hd : decode mt.2.1 pc = .ok (.irem, 1)) (hp : pc + 1 = pc') (k : GW E fr nL pc' lv (.int (jrem x y) :: rest) σ) : GW E fr nL pc lv (.int y :: .int x :: rest) σ := by
  subst hp; exact fun H locs ls hP hS hl => lv_irem cx.1 cx.2.1 hd hne (k H locs ls hP hS hl)
theorem gw_lmul {x y : Int64} (cx : Cx E mt d fr) (hd : decode mt.2.1 pc = .ok (.lmul, 1)) (hp : pc + 1 = pc') (k : GW E fr nL pc' lv (.long (x * y) :: rest) σ) : GW E fr nL pc lv (.long y :: .long x :: rest) σ := by
  subst hp; exact fun H locs ls hP hS hl => lv_lmul cx.1 cx.2.1 hd (k H locs ls hP hS hl)
theorem gw_ldiv {x y : Int64} (cx : Cx E mt d fr) (hne : ¬ y = 0) (hd : decode mt.2.1 pc = .ok (.ldiv, 1)) (hp : pc + 1 = pc') (k : GW E fr nL pc' lv (.long (x / y) :: rest) σ) : GW E fr nL pc lv (.long y :: .long x :: rest) σ := by
  subst hp; exact fun H locs ls hP hS hl => lv_ldiv cx.1 cx.2.1 hd hne (k H locs ls hP hS hl)
theorem gw_lrem {x y : Int64} (cx : Cx E mt d fr) (hne : ¬ y = 0) (hd : decode mt.2.1 pc = .ok (.lrem, 1)) (hp : pc + 1 = pc') (k : GW E fr nL pc' lv (.long (jlrem x y) :: rest) σ) : GW E fr nL pc lv (.long y :: .long x :: rest) σ := by
  subst hp; exact fun H locs ls hP hS hl => lv_lrem cx.1 cx.2.1 hd hne (k H locs ls hP hS hl)
theorem gw_lcmp {x y : Int64} (cx : Cx E mt d fr) (hd : decode mt.2.1 pc = .ok (.lcmp, 1)) (hp : pc + 1 = pc') (k : GW E fr nL pc' lv (.int (lg_cmp x y) :: rest) σ) : GW E fr nL pc lv (.long y :: .long x :: rest) σ := by
  subst hp; exact fun H locs ls hP hS hl => W.lcmp cx.1 cx.2.1 hd (k H locs ls hP hS hl)
theorem gw_i2l {x : Int32} (cx : Cx E mt d fr) (hd : decode mt.2.1 pc = .ok (.i2l, 1)) (hp : pc + 1 = pc') (k : GW E fr nL pc' lv (.long x.toInt64 :: rest) σ) : GW E fr nL pc lv (.int x :: rest) σ := by
  subst hp; exact fun H locs ls hP hS hl => lv_i2l cx.1 cx.2.1 hd rfl (k H locs ls hP hS hl)
theorem gw_i2b {x : Int32} (cx : Cx E mt d fr) (hd : decode mt.2.1 pc = .ok (.i2b, 1)) (hp : pc + 1 = pc') (k : GW E fr nL pc' lv (.int x.toInt8.toInt32 :: rest) σ) : GW E fr nL pc lv (.int x :: rest) σ := by
  subst hp; exact fun H locs ls hP hS hl => lv_i2b cx.1 cx.2.1 hd rfl (k H locs ls hP hS hl)
theorem gw_i2s {x : Int32} (cx : Cx E mt d fr) (hd : decode mt.2.1 pc = .ok (.i2s, 1)) (hp : pc + 1 = pc') (k : GW E fr nL pc' lv (.int x.toInt16.toInt32 :: rest) σ) : GW E fr nL pc lv (.int x :: rest) σ := by
  subst hp; exact fun H locs ls hP hS hl => lv_i2s cx.1 cx.2.1 hd rfl (k H locs ls hP hS hl)
theorem gw_i2c {x : Int32} (cx : Cx E mt d fr) (hd : decode mt.2.1 pc = .ok (.i2c, 1)) (hp : pc + 1 = pc') (k : GW E fr nL pc' lv (.int (x.toUInt32 % 65536).toInt32 :: rest) σ) : GW E fr nL pc lv (.int x :: rest) σ := by
  subst hp; exact fun H locs ls hP hS hl => lv_i2c cx.1 cx.2.1 hd rfl (k H locs ls hP hS hl)
theorem gw_dup {va : Value} (cx : Cx E mt d fr) (h1 : va.category = 1) (hd : decode mt.2.1 pc = .ok (.dup, 1)) (hp : pc + 1 = pc') (k : GW E fr nL pc' lv (va :: va :: rest) σ) : GW E fr nL pc lv (va :: rest) σ := by
  subst hp; exact fun H locs ls hP hS hl => lv_dup cx.1 cx.2.1 hd h1 (k H locs ls hP hS hl)
theorem gw_pop {va : Value} (cx : Cx E mt d fr) (h1 : va.category = 1) (hd : decode mt.2.1 pc = .ok (.pop, 1)) (hp : pc + 1 = pc') (k : GW E fr nL pc' lv (rest) σ) : GW E fr nL pc lv (va :: rest) σ := by
  subst hp; exact fun H locs ls hP hS hl => lv_pop cx.1 cx.2.1 hd h1 (k H locs ls hP hS hl)
theorem gw_dup2 {va vb : Value} (cx : Cx E mt d fr) (h1 : va.category = 1) (h2 : vb.category = 1) (hd : decode mt.2.1 pc = .ok (.dup2, 1)) (hp : pc + 1 = pc') (k : GW E fr nL pc' lv (va :: vb :: va :: vb :: rest) σ) : GW E fr nL pc lv (va :: vb :: rest) σ := by
  subst hp; exact fun H locs ls hP hS hl => lv_dup2_11 cx.1 cx.2.1 hd h1 h2 (k H locs ls hP hS hl)
theorem gw_if_eq_t {x : Int32} {off : Int} (cx : Cx E mt d fr) (hc : x = 0) (hd : decode mt.2.1 pc = .ok (.ifCond .eq off, 3)) (ht : (pc : Int) + off = (pc' : Int)) (k : GW E fr nL pc' lv rest σ) : GW E fr nL pc lv (.int x :: rest) σ :=
  fun H locs ls hP hS hl => lv_if_eq cx.1 cx.2.1 hd ht (fun _ => k H locs ls hP hS hl) (fun z => absurd hc z)
theorem gw_if_eq_f {x : Int32} {off : Int} (cx : Cx E mt d fr) (hc : ¬ (x = 0)) (hd : decode mt.2.1 pc = .ok (.ifCond .eq off, 3)) (ht : ∃ t : Nat, (pc : Int) + off = (t : Int)) (hp : pc + 3 = pc') (k : GW E fr nL pc' lv rest σ) : GW E fr nL pc lv (.int x :: rest) σ := by
  subst hp; obtain ⟨t, ht⟩ := ht; exact fun H locs ls hP hS hl => lv_if_eq cx.1 cx.2.1 hd ht (fun z => absurd z hc) (fun _ => k H locs ls hP hS hl)
theorem gw_ic_eq_t {x y : Int32} {off : Int} (cx : Cx E mt d fr) (hc : x = y) (hd : decode mt.2.1 pc = .ok (.if_icmp .eq off, 3)) (ht : (pc : Int) + off = (pc' : Int)) (k : GW E fr nL pc' lv rest σ) : GW E fr nL pc lv (.int y :: .int x :: rest) σ :=
  fun H locs ls hP hS hl => lv_icmp_eq cx.1 cx.2.1 hd ht (fun _ => k H locs ls hP hS hl) (fun z => absurd hc z)
theorem gw_ic_eq_f {x y : Int32} {off : Int} (cx : Cx E mt d fr) (hc : ¬ (x = y)) (hd : decode mt.2.1 pc = .ok (.if_icmp .eq off, 3)) (ht : ∃ t : Nat, (pc : Int) + off = (t : Int)) (hp : pc + 3 = pc') (k : GW E fr nL pc' lv rest σ) : GW E fr nL pc lv (.int y :: .int x :: rest) σ := by
  subst hp; obtain ⟨t, ht⟩ := ht; exact fun H locs ls hP hS hl => lv_icmp_eq cx.1 cx.2.1 hd ht (fun z => absurd z hc) (fun _ => k H locs ls hP hS hl)
theorem gw_if_ne_t {x : Int32} {off : Int} (cx : Cx E mt d fr) (hc : ¬ x = 0) (hd : decode mt.2.1 pc = .ok (.ifCond .ne off, 3)) (ht : (pc : Int) + off = (pc' : Int)) (k : GW E fr nL pc' lv rest σ) : GW E fr nL pc lv (.int x :: rest) σ :=
  fun H locs ls hP hS hl => lv_if_ne cx.1 cx.2.1 hd ht (fun _ => k H locs ls hP hS hl) (fun z => absurd z hc)
theorem gw_if_ne_f {x : Int32} {off : Int} (cx : Cx E mt d fr) (hc : x = 0) (hd : decode mt.2.1 pc = .ok (.ifCond .ne off, 3)) (ht : ∃ t : Nat, (pc : Int) + off = (t : Int)) (hp : pc + 3 = pc') (k : GW E fr nL pc' lv rest σ) : GW E fr nL pc lv (.int x :: rest) σ := by
  subst hp; obtain ⟨t, ht⟩ := ht; exact fun H locs ls hP hS hl => lv_if_ne cx.1 cx.2.1 hd ht (fun z => absurd hc z) (fun _ => k H locs ls hP hS hl)
theorem gw_ic_ne_t {x y : Int32} {off : Int} (cx : Cx E mt d fr) (hc : ¬ x = y) (hd : decode mt.2.1 pc = .ok (.if_icmp .ne off, 3)) (ht : (pc : Int) + off = (pc' : Int)) (k : GW E fr nL pc' lv rest σ) : GW E fr nL pc lv (.int y :: .int x :: rest) σ :=
  fun H locs ls hP hS hl => lv_icmp_ne cx.1 cx.2.1 hd ht (fun _ => k H locs ls hP hS hl) (fun z => absurd z hc)
theorem gw_ic_ne_f {x y : Int32} {off : Int} (cx : Cx E mt d fr) (hc : x = y) (hd : decode mt.2.1 pc = .ok (.if_icmp .ne off, 3)) (ht : ∃ t : Nat, (pc : Int) + off = (t : Int)) (hp : pc + 3 = pc') (k : GW E fr nL pc' lv rest σ) : GW E fr nL pc lv (.int y :: .int x :: rest) σ := by
  subst hp; obtain ⟨t, ht⟩ := ht; exact fun H locs ls hP hS hl => lv_icmp_ne cx.1 cx.2.1 hd ht (fun z => absurd hc z) (fun _ => k H locs ls hP hS hl)
theorem gw_if_lt_t {x : Int32} {off : Int} (cx : Cx E mt d fr) (hc : x < 0) (hd : decode mt.2.1 pc = .ok (.ifCond .lt off, 3)) (ht : (pc : Int) + off = (pc' : Int)) (k : GW E fr nL pc' lv rest σ) : GW E fr nL pc lv (.int x :: rest) σ :=
  fun H locs ls hP hS hl => lv_if_lt cx.1 cx.2.1 hd ht (fun _ => k H locs ls hP hS hl) (fun z => absurd hc z)
theorem gw_if_lt_f {x : Int32} {off : Int} (cx : Cx E mt d fr) (hc : ¬ (x < 0)) (hd : decode mt.2.1 pc = .ok (.ifCond .lt off, 3)) (ht : ∃ t : Nat, (pc : Int) + off = (t : Int)) (hp : pc + 3 = pc') (k : GW E fr nL pc' lv rest σ) : GW E fr nL pc lv (.int x :: rest) σ := by
  subst hp; obtain ⟨t, ht⟩ := ht; exact fun H locs ls hP hS hl => lv_if_lt cx.1 cx.2.1 hd ht (fun z => absurd z hc) (fun _ => k H locs ls hP hS hl)
theorem gw_ic_lt_t {x y : Int32} {off : Int} (cx : Cx E mt d fr) (hc : x < y) (hd : decode mt.2.1 pc = .ok (.if_icmp .lt off, 3)) (ht : (pc : Int) + off = (pc' : Int)) (k : GW E fr nL pc' lv rest σ) : GW E fr nL pc lv (.int y :: .int x :: rest) σ :=
  fun H locs ls hP hS hl => lv_icmp_lt cx.1 cx.2.1 hd ht (fun _ => k H locs ls hP hS hl) (fun z => absurd hc z)
theorem gw_ic_lt_f {x y : Int32} {off : Int} (cx : Cx E mt d fr) (hc : ¬ (x < y)) (hd : decode mt.2.1 pc = .ok (.if_icmp .lt off, 3)) (ht : ∃ t : Nat, (pc : Int) + off = (t : Int)) (hp : pc + 3 = pc') (k : GW E fr nL pc' lv rest σ) : GW E fr nL pc lv (.int y :: .int x :: rest) σ := by
  subst hp; obtain ⟨t, ht⟩ := ht; exact fun H locs ls hP hS hl => lv_icmp_lt cx.1 cx.2.1 hd ht (fun z => absurd z hc) (fun _ => k H locs ls hP hS hl)
theorem gw_if_ge_t {x : Int32} {off : Int} (cx : Cx E mt d fr) (hc : 0 ≤ x) (hd : decode mt.2.1 pc = .ok (.ifCond .ge off, 3)) (ht : (pc : Int) + off = (pc' : Int)) (k : GW E fr nL pc' lv rest σ) : GW E fr nL pc lv (.int x :: rest) σ :=
  fun H locs ls hP hS hl => lv_if_ge cx.1 cx.2.1 hd ht (fun _ => k H locs ls hP hS hl) (fun z => absurd hc z)
theorem gw_if_ge_f {x : Int32} {off : Int} (cx : Cx E mt d fr) (hc : ¬ (0 ≤ x)) (hd : decode mt.2.1 pc = .ok (.ifCond .ge off, 3)) (ht : ∃ t : Nat, (pc : Int) + off = (t : Int)) (hp : pc + 3 = pc') (k : GW E fr nL pc' lv rest σ) : GW E fr nL pc lv (.int x :: rest) σ := by
  subst hp; obtain ⟨t, ht⟩ := ht; exact fun H locs ls hP hS hl => lv_if_ge cx.1 cx.2.1 hd ht (fun z => absurd z hc) (fun _ => k H locs ls hP hS hl)
theorem gw_ic_ge_t {x y : Int32} {off : Int} (cx : Cx E mt d fr) (hc : y ≤ x) (hd : decode mt.2.1 pc = .ok (.if_icmp .ge off, 3)) (ht : (pc : Int) + off = (pc' : Int)) (k : GW E fr nL pc' lv rest σ) : GW E fr nL pc lv (.int y :: .int x :: rest) σ :=
  fun H locs ls hP hS hl => lv_icmp_ge cx.1 cx.2.1 hd ht (fun _ => k H locs ls hP hS hl) (fun z => absurd hc z)
theorem gw_ic_ge_f {x y : Int32} {off : Int} (cx : Cx E mt d fr) (hc : ¬ (y ≤ x)) (hd : decode mt.2.1 pc = .ok (.if_icmp .ge off, 3)) (ht : ∃ t : Nat, (pc : Int) + off = (t : Int)) (hp : pc + 3 = pc') (k : GW E fr nL pc' lv rest σ) : GW E fr nL pc lv (.int y :: .int x :: rest) σ := by
  subst hp; obtain ⟨t, ht⟩ := ht; exact fun H locs ls hP hS hl => lv_icmp_ge cx.1 cx.2.1 hd ht (fun z => absurd z hc) (fun _ => k H locs ls hP hS hl)
theorem gw_if_gt_t {x : Int32} {off : Int} (cx : Cx E mt d fr) (hc : 0 < x) (hd : decode mt.2.1 pc = .ok (.ifCond .gt off, 3)) (ht : (pc : Int) + off = (pc' : Int)) (k : GW E fr nL pc' lv rest σ) : GW E fr nL pc lv (.int x :: rest) σ :=
  fun H locs ls hP hS hl => lv_if_gt cx.1 cx.2.1 hd ht (fun _ => k H locs ls hP hS hl) (fun z => absurd hc z)
theorem gw_if_gt_f {x : Int32} {off : Int} (cx : Cx E mt d fr) (hc : ¬ (0 < x)) (hd : decode mt.2.1 pc = .ok (.ifCond .gt off, 3)) (ht : ∃ t : Nat, (pc : Int) + off = (t : Int)) (hp : pc + 3 = pc') (k : GW E fr nL pc' lv rest σ) : GW E fr nL pc lv (.int x :: rest) σ := by
  subst hp; obtain ⟨t, ht⟩ := ht; exact fun H locs ls hP hS hl => lv_if_gt cx.1 cx.2.1 hd ht (fun z => absurd z hc) (fun _ => k H locs ls hP hS hl)
theorem gw_ic_gt_t {x y : Int32} {off : Int} (cx : Cx E mt d fr) (hc : y < x) (hd : decode mt.2.1 pc = .ok (.if_icmp .gt off, 3)) (ht : (pc : Int) + off = (pc' : Int)) (k : GW E fr nL pc' lv rest σ) : GW E fr nL pc lv (.int y :: .int x :: rest) σ :=
  fun H locs ls hP hS hl => lv_icmp_gt cx.1 cx.2.1 hd ht (fun _ => k H locs ls hP hS hl) (fun z => absurd hc z)
theorem gw_ic_gt_f {x y : Int32} {off : Int} (cx : Cx E mt d fr) (hc : ¬ (y < x)) (hd : decode mt.2.1 pc = .ok (.if_icmp .gt off, 3)) (ht : ∃ t : Nat, (pc : Int) + off = (t : Int)) (hp : pc + 3 = pc') (k : GW E fr nL pc' lv rest σ) : GW E fr nL pc lv (.int y :: .int x :: rest) σ := by
  subst hp; obtain ⟨t, ht⟩ := ht; exact fun H locs ls hP hS hl => lv_icmp_gt cx.1 cx.2.1 hd ht (fun z => absurd z hc) (fun _ => k H locs ls hP hS hl)
theorem gw_if_le_t {x : Int32} {off : Int} (cx : Cx E mt d fr) (hc : x ≤ 0) (hd : decode mt.2.1 pc = .ok (.ifCond .le off, 3)) (ht : (pc : Int) + off = (pc' : Int)) (k : GW E fr nL pc' lv rest σ) : GW E fr nL pc lv (.int x :: rest) σ :=
  fun H locs ls hP hS hl => lv_if_le cx.1 cx.2.1 hd ht (fun _ => k H locs ls hP hS hl) (fun z => absurd hc z)
theorem gw_if_le_f {x : Int32} {off : Int} (cx : Cx E mt d fr) (hc : ¬ (x ≤ 0)) (hd : decode mt.2.1 pc = .ok (.ifCond .le off, 3)) (ht : ∃ t : Nat, (pc : Int) + off = (t : Int)) (hp : pc + 3 = pc') (k : GW E fr nL pc' lv rest σ) : GW E fr nL pc lv (.int x :: rest) σ := by
  subst hp; obtain ⟨t, ht⟩ := ht; exact fun H locs ls hP hS hl => lv_if_le cx.1 cx.2.1 hd ht (fun z => absurd z hc) (fun _ => k H locs ls hP hS hl)
theorem gw_ic_le_t {x y : Int32} {off : Int} (cx : Cx E mt d fr) (hc : x ≤ y) (hd : decode mt.2.1 pc = .ok (.if_icmp .le off, 3)) (ht : (pc : Int) + off = (pc' : Int)) (k : GW E fr nL pc' lv rest σ) : GW E fr nL pc lv (.int y :: .int x :: rest) σ :=
  fun H locs ls hP hS hl => lv_icmp_le cx.1 cx.2.1 hd ht (fun _ => k H locs ls hP hS hl) (fun z => absurd hc z)
theorem gw_ic_le_f {x y : Int32} {off : Int} (cx : Cx E mt d fr) (hc : ¬ (x ≤ y)) (hd : decode mt.2.1 pc = .ok (.if_icmp .le off, 3)) (ht : ∃ t : Nat, (pc : Int) + off = (t : Int)) (hp : pc + 3 = pc') (k : GW E fr nL pc' lv rest σ) : GW E fr nL pc lv (.int y :: .int x :: rest) σ := by
  subst hp; obtain ⟨t, ht⟩ := ht; exact fun H locs ls hP hS hl => lv_icmp_le cx.1 cx.2.1 hd ht (fun z => absurd z hc) (fun _ => k H locs ls hP hS hl)
theorem gw_goto {off : Int} (cx : Cx E mt d fr) (hd : decode mt.2.1 pc = .ok (.goto off, 3)) (ht : (pc : Int) + off = (pc' : Int)) (k : GW E fr nL pc' lv rest σ) : GW E fr nL pc lv rest σ :=
  fun H locs ls hP hS hl => lv_goto cx.1 cx.2.1 hd ht (k H locs ls hP hS hl)
theorem gw_tin {dflt lo hi : Int} {offs : Array Int} {len : Nat} {x : Int32} {off : Int} (v : Int32) (cx : Cx E mt d fr) (hx : x = v) (hd : decode mt.2.1 pc = .ok (.tableswitch dflt lo hi offs, len)) (h : (¬ v.toInt < lo ∧ ¬ hi < v.toInt) ∧ offs[(v.toInt - lo).toNat]? = some off) (ht : (pc : Int) + off = (pc' : Int)) (k : GW E fr nL pc' lv rest σ) : GW E fr nL pc lv (.int x :: rest) σ := by
  subst hx; exact fun H locs ls hP hS hl => lv_tableIn cx.1 cx.2.1 hd h.1.1 h.1.2 h.2 ht (k H locs ls hP hS hl)
theorem gw_tout {dflt lo hi : Int} {offs : Array Int} {len : Nat} {x : Int32} (cx : Cx E mt d fr) (hd : decode mt.2.1 pc = .ok (.tableswitch dflt lo hi offs, len)) (h : x.toInt < lo ∨ hi < x.toInt) (ht : (pc : Int) + dflt = (pc' : Int)) (k : GW E fr nL pc' lv rest σ) : GW E fr nL pc lv (.int x :: rest) σ :=
  fun H locs ls hP hS hl => lv_tableOut cx.1 cx.2.1 hd h ht (k H locs ls hP hS hl)
theorem gw_look {dflt off : Int} {ps : Array (Int × Int)} {len : Nat} {x : Int32} (cx : Cx E mt d fr) (hd : decode mt.2.1 pc = .ok (.lookupswitch dflt ps, len)) (hp : (ps.toList.zip (ps.toList.drop 1)).all (fun (a, next) => a.1 < next.1) = true) (ho : Op.lookupswitch.offset ps.toList dflt x.toInt = off) (ht : (pc : Int) + off = (pc' : Int)) (k : GW E fr nL pc' lv rest σ) : GW E fr nL pc lv (.int x :: rest) σ :=
  fun H locs ls hP hS hl => lv_lookup cx.1 cx.2.1 hd hp ho ht (k H locs ls hP hS hl)
/-! fields and arrays -/
def At (k : Nat) (sp : Shp) : Prop := k < 59 ∧ sh k = sp
theorem at_E {k : Nat} {sp : Shp} (h : At k sp) : (wl E σ)[k]? = some (eA E k, cS E k (σ k) sp) := by
  rw [wl_at h.1, cE, h.2]
theorem up2_o {k i : Nat} {v : Int32} (j : Nat) (h : j ≠ k) : up2 σ k i v j = σ j := by simp [up2, h]
theorem up2_k (k i : Nat) (v : Int32) : up2 σ k i v k = upd (σ k) i v := by simp [up2]
theorem mapIdx_set {ad : Nat → Nat} {r : Nat → Int32} {fs : List (Option Nat)} {f : Nat} {v : Int32} (hf : fs[f]? = some none) : (fs.mapIdx (fv ad r)).set f (.int v) = fs.mapIdx (fv ad (upd r f v)) := by
  apply List.ext_getElem?
  intro j
  by_cases h : f = j
  · subst h
    have hl : f < fs.length := (List.getElem?_eq_some_iff.mp hf).1
    rw [List.getElem?_set_self (by simpa using hl), List.getElem?_mapIdx, hf]
    simp [fv, upd]
  · rw [List.getElem?_set_ne h, List.getElem?_mapIdx, List.getElem?_mapIdx]
    cases fs[j]? with
    | none => rfl
    | some t =>
      cases t with
      | none => simp [fv, upd, Ne.symm h]
      | some q => rfl
def FLk (own : String) (ix ci f : Nat) : Prop := ∃ (C : String) (T : u_T) (N : Nat), vwCl[ci]? = some (C, T, N) ∧ (∀ w ∈ u_ws C T N, w ∈ tG) ∧ f < N ∧ Cond.fieldLink own ix (T f).1 (T f).2.1 (T f).2.2.1 ∈ tG
def FPk (own : String) (ix ci f : Nat) (ty : FieldType) : Prop := ∃ (C : String) (T : u_T) (N : Nat) (ty0 : Nat → FieldType), vwCl[ci]? = some (C, T, N) ∧ (∀ w ∈ u_ws C T N, w ∈ tG) ∧ f < N ∧ Cond.fieldLink own ix (T f).1 (T f).2.1 (T f).2.2.1 ∈ tG ∧ (∀ k, k < N → parseFieldDescriptor (T k).2.2.1 = some (ty0 k)) ∧ (∀ a, a < N → ∀ b, b < N → a ≠ b → (T a).2.1 ≠ (T b).2.1) ∧ (T f).2.2.2 = false ∧ parseFieldDescriptor (T f).2.2.1 = some ty
theorem gw_getI {k ci f ix : Nat} {fs : List (Option Nat)} (cx : Cx E mt d fr) (hs : At k (.inl (ci, fs))) (hf : fs[f]? = some none) (hk : FLk mt.1.cls ix ci f) (hd : decode mt.2.1 pc = .ok (.getfield ix, 3)) (hp : pc + 3 = pc') (kk : GW E fr nL pc' lv (.int (σ k f) :: rest) σ) : GW E fr nL pc lv (.ref (eA E k) :: rest) σ := by
  subst hp
  obtain ⟨C, T, N, hc, hin, hfN, hlk⟩ := hk
  exact fun H locs ls hP hS hl => va_get cx.1 cx.2.1 cx.2.2.2.2.1 hin cx.2.2.2.1 cx.2.2.2.2.2.1.1 hP k (at_E hs) hc f hfN (cx.2.2.2.2.1 _ hlk) (fun _ h => h) (v := .int (σ k f)) (by rw [List.getElem?_mapIdx, hf]; rfl) hd (kk H locs ls hP hS hl)
theorem gw_getR {k ci f ix j : Nat} {fs : List (Option Nat)} (cx : Cx E mt d fr) (hs : At k (.inl (ci, fs))) (hf : fs[f]? = some (some j)) (hk : FLk mt.1.cls ix ci f) (hd : decode mt.2.1 pc = .ok (.getfield ix, 3)) (hp : pc + 3 = pc') (kk : GW E fr nL pc' lv (.ref (eA E j) :: rest) σ) : GW E fr nL pc lv (.ref (eA E k) :: rest) σ := by
  subst hp
  obtain ⟨C, T, N, hc, hin, hfN, hlk⟩ := hk
  exact fun H locs ls hP hS hl => va_get cx.1 cx.2.1 cx.2.2.2.2.1 hin cx.2.2.2.1 cx.2.2.2.2.2.1.1 hP k (at_E hs) hc f hfN (cx.2.2.2.2.1 _ hlk) (fun _ h => h) (v := .ref (eA E j)) (by rw [List.getElem?_mapIdx, hf]; rfl) hd (kk H locs ls hP hS hl)
theorem gw_put {k ci f ix : Nat} {fs : List (Option Nat)} {ty : FieldType} {v : Int32} {σ1 : Sg} (cx : Cx E mt d fr) (hs : At k (.inl (ci, fs))) (hf : fs[f]? = some none) (hk : FPk mt.1.cls ix ci f ty) (hn : narrow ty (.int v) = .int v ∧ fits ty (.int v) = true) (hd : decode mt.2.1 pc = .ok (.putfield ix, 3)) (hp : pc + 3 = pc') (hσ : σ1 = up2 σ k f v) (kk : GW E fr nL pc' lv rest σ1) : GW E fr nL pc lv (.int v :: .ref (eA E k) :: rest) σ := by
  subst hp
  subst hσ
  obtain ⟨C, T, N, ty0, hc, hin, hfN, hlk, hty, hnm, hfin, hpd⟩ := hk
  intro H locs ls hP hS hl
  have hlen : f < (fs.mapIdx (fv (eA E) (σ k))).length := by simpa using (List.getElem?_eq_some_iff.mp hf).1
  refine va_put cx.1 cx.2.1 cx.2.2.2.2.1 hin ty0 hty hnm cx.2.2.2.1 cx.2.2.2.2.2.1.1 hP (wl_D cx.2.2.2.2.2.1.2.1 σ) hS k (at_E hs) hc f hfN (cx.2.2.2.2.1 _ hlk) (fun _ h => h) hfin hpd hn.1 hn.2 hlen hd (fun H1 locs1 hP1 _ hS1 => kk H1 locs1 ls ?_ hS1 hl)
  rw [wl_set (σ' := up2 σ k f v) ?_ (fun j hj => up2_o j hj)] at hP1
  · exact hP1
  · rw [cE, hs.2, up2_k]
    show _ = Sum.inr (ci, fs.mapIdx (fv (eA E) (upd (σ k) f v)))
    rw [mapIdx_set hf]
theorem gw_iald {k n j : Nat} {i : Int32} (cx : Cx E mt d fr) (hs : At k (.inr (n, none))) (hin : vp_in i n) (hj : i.toNatClampNeg = j) (hd : decode mt.2.1 pc = .ok (.iaload, 1)) (hp : pc + 1 = pc') (kk : GW E fr nL pc' lv (.int (σ k j) :: rest) σ) : GW E fr nL pc lv (.int i :: .ref (eA E k) :: rest) σ := by
  subst hp
  subst hj
  exact fun H locs ls hP hS hl => va_iald cx.1 cx.2.1 cx.2.2.2.2.2.1.1 hP k 0 (at_E hs) rfl hin hd (kk H locs ls hP hS hl)
theorem gw_iast {k n j : Nat} {i v : Int32} {σ1 : Sg} (cx : Cx E mt d fr) (hs : At k (.inr (n, none))) (hin : vp_in i n) (hj : i.toNatClampNeg = j) (hd : decode mt.2.1 pc = .ok (.iastore, 1)) (hp : pc + 1 = pc') (hσ : σ1 = up2 σ k j v) (kk : GW E fr nL pc' lv rest σ1) : GW E fr nL pc lv (.int v :: .int i :: .ref (eA E k) :: rest) σ := by
  subst hp
  subst hj
  subst hσ
  intro H locs ls hP hS hl
  refine va_iast cx.1 cx.2.1 cx.2.2.2.2.2.1.1 hP (wl_D cx.2.2.2.2.2.1.2.1 σ) hS k 0 (at_E hs) rfl hin hd (fun H1 locs1 hP1 _ hS1 => kk H1 locs1 ls ?_ hS1 hl)
  rw [wl_set (σ' := up2 σ k i.toNatClampNeg v) ?_ (fun j hj => up2_o j hj)] at hP1
  · exact hP1
  · rw [cE, hs.2, up2_k]
    rfl
theorem gw_aald {k n b : Nat} {i : Int32} (cx : Cx E mt d fr) (hs : At k (.inr (n, some b))) (hin : vp_in i n) (hd : decode mt.2.1 pc = .ok (.aaload, 1)) (hp : pc + 1 = pc') (kk : GW E fr nL pc' lv (.ref (eA E (b + i.toNatClampNeg)) :: rest) σ) : GW E fr nL pc lv (.int i :: .ref (eA E k) :: rest) σ := by
  subst hp
  intro H locs ls hP hS hl
  have h0 := at_E (E := E) (σ := σ) hs
  simp only [cS] at h0
  by_cases hk : k = 39
  · rw [if_pos hk] at h0
    exact va_aldq cx.1 cx.2.1 cx.2.2.2.2.2.1.1 hP k 2 h0 rfl hin hd (kk H locs ls hP hS hl)
  · rw [if_neg hk] at h0
    exact va_aldq cx.1 cx.2.1 cx.2.2.2.2.2.1.1 hP k 1 h0 rfl hin hd (kk H locs ls hP hS hl)
/-! calls -/
theorem tG_all {ws : List Cond} (h : ∀ w ∈ ws, w ∈ tG) : GoodIn tG ws := fun w hw => ⟨h w hw, good_of_word (List.mem_filter.mp (h w hw)).2⟩
theorem pc_blind {av : List Value} : FrameBlind (PcW E av σ) := fun _ _ _ _ q => ⟨q.1, q.2.1, Kx_call q.2.2⟩
def LkS (own : String) (ix : Nat) (m2 : Mt) (n : Nat) : Prop := Cond.methodLink own ix m2.1 ∈ tG ∧ Cond.static m2.1 ∈ tG ∧ Cond.initialized m2.1.cls ∈ tG ∧ Cond.code m2.1 m2.2.1 m2.2.2.1 m2.2.2.2 ∈ tG ∧ (m2.1.cls ≠ "java/lang/invoke/MethodHandle" ∧ m2.1.cls ≠ "java/lang/invoke/VarHandle" ∧ (parseMethodDescriptor m2.1.desc).map (fun d => d.parameters.length) = some n) ∧ m2.2.2.1 ≤ 17
def LkN (own : String) (ix : Nat) (m2 : Mt) (n : Nat) : Prop := (∀ U, kNw U → va_Nw (.methodLinkNest own ix m2.1 RX4) U) ∧ Cond.static m2.1 ∈ tG ∧ Cond.initialized m2.1.cls ∈ tG ∧ Cond.code m2.1 m2.2.1 m2.2.2.1 m2.2.2.2 ∈ tG ∧ (m2.1.cls ≠ "java/lang/invoke/MethodHandle" ∧ m2.1.cls ≠ "java/lang/invoke/VarHandle" ∧ (parseMethodDescriptor m2.1.desc).map (fun d => d.parameters.length) = some n) ∧ m2.2.2.1 ≤ 17
def LkV (own : String) (ix ci : Nat) (m2 : Mt) (n : Nat) : Prop := (∃ (T : u_T) (N : Nat), vwCl[ci]? = some (m2.1.cls, T, N)) ∧ Cond.methodLink own ix m2.1 ∈ tG ∧ Cond.instanceMethod m2.1 ∈ tG ∧ Cond.selects m2.1.cls m2.1 m2.1 ∈ tG ∧ Cond.initialized m2.1.cls ∈ tG ∧ Cond.code m2.1 m2.2.1 m2.2.2.1 m2.2.2.2 ∈ tG ∧ (m2.1.cls ≠ "java/lang/invoke/MethodHandle" ∧ m2.1.cls ≠ "java/lang/invoke/VarHandle" ∧ (parseMethodDescriptor m2.1.desc).map (fun d => d.parameters.length) = some n) ∧ m2.2.2.1 ≤ 17
theorem gw_run {av : List Value} {r : Option Value} {σ1 : Sg} {st : List Value} {H : Heap} {locs : List Loc} {ls : Array Slot} {a : Array Value}
    (run : va_Run (fP fr) (eL E) (fE fr) (fR fr) (fS fr) (fM fr) (fA fr) (fB fr) (fT fr) (fC fr) H locs (fc fr) (fs fr) 0 0 (F0 (fM fr) pc ls st) rest (QcW E r σ1 a) (eX E)) (hS : va_S (eX E) (fS fr).heap H locs) (hl : lv_has ls nL lv) (k : GW E fr nL (pc + 3) lv (r.toList ++ rest) σ1) :
    W (fP fr) (eL E) (fE fr) (fR fr) (fS fr) (fM fr) (fA fr) (fB fr) (fT fr) (fC fr) H locs (fc fr) (fs fr) (fQ fr) (F0 (fM fr) pc ls st) := by
  intro T hT X
  obtain ⟨v, st₀, t, T', L, h0, X', hL, e1, e2, ⟨⟨hv, hPt⟩, hz, hk⟩, stp⟩ := run T hT X
  cases hv
  rw [h0] at hz hk
  have hS' : va_S (eX E) (fS fr).heap T'.heap (locs ++ L) := by
    refine ⟨by rw [e1]; exact Nat.le_trans hS.1 hz, fun q h1 h2 => ?_, fun q hq => ?_⟩
    · rw [e1, hk q (Nat.lt_of_lt_of_le h1 hS.1) h2]
      exact hS.2.1 q h1 h2
    · rcases List.mem_append.mp hq with h | h
      · exact hS.2.2 q h
      · exact hL q h
  obtain ⟨t2, a1, b1⟩ := k T'.heap (locs ++ L) ls (by rw [e1]; exact hPt) hS' hl T' rfl X'
  exact ⟨t2, stp t2 a1, b1⟩
theorem gw_cS {m2 : Mt} {d2 : Nat} {av : List Value} {r : Option Value} {σ1 : Sg} {st : List Value} {ix : Nat} (cx : Cx E mt d fr) (hc : Con E m2 d2 av σ r σ1) (hd2 : d2 + 1 ≤ d) (hk : LkS mt.1.cls ix m2 av.length) (hd : decode mt.2.1 pc = .ok (.invokestatic ix, 3)) (hst : st = av.reverse ++ rest) (hrm : (rest.map fun v => v.category).sum ≤ 8) (hp : pc + 3 = pc') (k : GW E fr mt.2.2.1 pc' lv (r.toList ++ rest) σ1) : GW E fr mt.2.2.1 pc lv st σ := by
  subst hp
  subst hst
  obtain ⟨k1, k2, k3, k4, k5, k6⟩ := hk
  obtain ⟨hx, hb, hml, hown, hts, hK, hfr, hlo, hcl, hsl⟩ := cx
  intro H locs ls hP hS hl
  refine gw_run (av := av) (va_runS (As := av) ⟨hx, hb, hml, hown, hts⟩ hc (va_cwS av.length hts (tG_all ?_) rfl rfl rfl k5 ⟨Nat.le_trans hd2 hfr, ?_⟩) ⟨pc_blind, fun U hU hW => ⟨rfl, by rw [hU]; exact hP, Kx_warm hW (by rw [hU]; exact hS.2.1) hK⟩⟩ rfl rfl hl.1 rfl (lv_room hrm) hd ⟨hcl, hsl⟩) hS hl k
  · intro w hw
    simp only [va_wsS, List.mem_append, List.mem_cons, List.not_mem_nil, or_false] at hw
    rcases hw with (rfl | rfl | rfl) | rfl | hw
    · exact k1
    · exact k2
    · exact k3
    · exact k4
    · exact hw
  · show 8 + (m2.2.2.1 + 11) + 36 * d2 ≤ _
    omega
theorem gw_cN {m2 : Mt} {d2 : Nat} {av : List Value} {r : Option Value} {σ1 : Sg} {st : List Value} {ix : Nat} (cx : Cx E mt d fr) (hc : Con E m2 d2 av σ r σ1) (hd2 : d2 + 1 ≤ d) (hk : LkN mt.1.cls ix m2 av.length) (hd : decode mt.2.1 pc = .ok (.invokestatic ix, 3)) (hst : st = av.reverse ++ rest) (hrm : (rest.map fun v => v.category).sum ≤ 8) (hp : pc + 3 = pc') (k : GW E fr mt.2.2.1 pc' lv (r.toList ++ rest) σ1) : GW E fr mt.2.2.1 pc lv st σ := by
  subst hp
  subst hst
  obtain ⟨k1, k2, k3, k4, k5, k6⟩ := hk
  obtain ⟨hx, hb, hml, hown, hts, hK, hfr, hlo, hcl, hsl⟩ := cx
  intro H locs ls hP hS hl
  refine gw_run (av := av) (va_runSN (As := av) ⟨hx, hb, hml, hown, hts⟩ hc ⟨va_cnB av.length hts (tG_all ?_) rfl rfl rfl (k1 _ hK.2.2.1) (hts _ k3) k5 ⟨Nat.le_trans hd2 hfr, ?_⟩, hts _ k2, trivial⟩ ⟨pc_blind, fun U hU hW => ⟨rfl, by rw [hU]; exact hP, Kx_warm hW (by rw [hU]; exact hS.2.1) hK⟩⟩ rfl rfl hl.1 rfl (lv_room hrm) hd ⟨hcl, hsl⟩) hS hl k
  · intro w hw
    rcases List.mem_cons.mp hw with rfl | hw
    · exact k4
    · exact hw
  · show 8 + (m2.2.2.1 + 11) + 36 * d2 ≤ _
    omega
theorem gw_cV {m2 : Mt} {d2 : Nat} {av : List Value} {r : Option Value} {σ1 : Sg} {st : List Value} {ix ci kc : Nat} {fs : List (Option Nat)} (cx : Cx E mt d fr) (hc : Con E m2 d2 (.ref (eA E kc) :: av) σ r σ1) (hs : At kc (.inl (ci, fs))) (hd2 : d2 + 1 ≤ d) (hk : LkV mt.1.cls ix ci m2 av.length) (hd : decode mt.2.1 pc = .ok (.invokevirtual ix, 3)) (hst : st = av.reverse ++ .ref (eA E kc) :: rest) (hrm : (rest.map fun v => v.category).sum ≤ 8) (hp : pc + 3 = pc') (k : GW E fr mt.2.2.1 pc' lv (r.toList ++ rest) σ1) : GW E fr mt.2.2.1 pc lv st σ := by
  subst hp
  subst hst
  obtain ⟨⟨T0, N0, k0⟩, k1, k2, k3, k4, k5, k6, k7⟩ := hk
  obtain ⟨hx, hb, hml, hown, hts, hK, hfr, hlo, hcl, hsl⟩ := cx
  intro H locs ls hP hS hl
  refine gw_run (av := av) (va_runV (As := av) (b := eA E kc) ⟨hx, hb, hml, hown, hts⟩ hc (cwV av.length hts (tG_all ?_) rfl rfl rfl ⟨rfl, k6⟩ ⟨Nat.le_trans hd2 hfr, ?_⟩) ⟨pc_blind, va_recv hK.1 hP k0 (at_E hs), fun U hU hW => ⟨rfl, by rw [hU]; exact hP, Kx_warm hW (by rw [hU]; exact hS.2.1) hK⟩⟩ rfl rfl hl.1 rfl (lv_room hrm) hd ⟨hcl, hsl⟩) hS hl k
  · intro w hw
    simp only [wsV, List.mem_append, List.mem_cons, List.not_mem_nil, or_false] at hw
    rcases hw with (rfl | rfl | rfl | rfl) | rfl | hw
    · exact k1
    · exact k2
    · exact k3
    · exact k4
    · exact k5
    · exact hw
  · show 8 + (m2.2.2.1 + 11) + 36 * d2 ≤ _
    omega
/-- System.arraycopy between two rows of ints -/
def LkC (own : String) (ix : Nat) : Prop := Cond.methodLink own ix arraycopyName ∈ tG ∧ Cond.native arraycopyName ∈ tG ∧ Cond.static arraycopyName ∈ tG ∧ Cond.initialized "java/lang/System" ∈ tG
def cpyOk (sp dp n : Int32) (n0 n1 : Nat) : Prop := ¬ sp < 0 ∧ ¬ dp < 0 ∧ ¬ n < 0 ∧ sp.toNatClampNeg + n.toNatClampNeg ≤ n0 ∧ dp.toNatClampNeg + n.toNatClampNeg ≤ n1
def cpyR (σ : Sg) (k0 k1 : Nat) (sp dp n : Int32) : Sg := upr σ k1 (va_cpy (σ k0) (σ k1) sp.toNatClampNeg dp.toNatClampNeg n.toNatClampNeg)
theorem upr_o {k : Nat} {r : Nat → Int32} (j : Nat) (h : j ≠ k) : upr σ k r j = σ j := by simp [upr, h]
theorem upr_k (k : Nat) (r : Nat → Int32) : upr σ k r k = r := by simp [upr]
theorem gw_copy {k0 k1 n0 n1 ix : Nat} {sp dp n : Int32} {σ1 : Sg} (cx : Cx E mt d fr) (hs0 : At k0 (.inr (n0, none))) (hs1 : At k1 (.inr (n1, none))) (hk : LkC mt.1.cls ix) (hok : cpyOk sp dp n n0 n1) (h1d : 1 ≤ d) (hrm : (rest.map fun v => v.category).sum ≤ 8) (hd : decode mt.2.1 pc = .ok (.invokestatic ix, 3)) (hp : pc + 3 = pc') (hσ : σ1 = cpyR σ k0 k1 sp dp n) (kk : GW E fr mt.2.2.1 pc' lv rest σ1) : GW E fr mt.2.2.1 pc lv (.int n :: .int dp :: .ref (eA E k1) :: .int sp :: .ref (eA E k0) :: rest) σ := by
  subst hp
  subst hσ
  obtain ⟨c1, c2, c3, c4⟩ := hk
  obtain ⟨o1, o2, o3, o4, o5⟩ := hok
  obtain ⟨hx, hb, hml, hown, hts, hK, hfr, hlo, hcl, hsl⟩ := cx
  intro H locs ls hP hS hl
  refine va_copyi hx hb (hml.trans hl.1.symm) hown (hts _ c1) (hts _ c2) (hts _ c3) (hts _ c4) hK.1 hP (wl_D hK.2.1 σ) hS k0 k1 0 0 (at_E hs0) (at_E hs1) rfl rfl rfl o1 o2 o3 o4 o5 (fun _ _ => rfl) (by omega) ?_ hd (fun H1 locs1 hP1 _ hS1 => kk H1 locs1 ls ?_ hS1 hl)
  · have e : nativeFrameWords "java/lang/System" "arraycopy" 5 = 7 := by decide +kernel
    rw [e]
    omega
  · rw [wl_set (σ' := cpyR σ k0 k1 sp dp n) ?_ (fun j hj => upr_o j hj)] at hP1
    · exact hP1
    · rw [cE, hs1.2, cpyR, upr_k]
      rfl
/-- Math.max, Math.min -/
def LkM (own : String) (ix : Nat) (y : MethodName) (cc : ByteArray) : Prop := Cond.methodLink own ix y ∈ tG ∧ Cond.static y ∈ tG ∧ Cond.initialized "java/lang/Math" ∈ tG ∧ Cond.code y cc 2 (some .int) ∈ tG
def jmax (x y : Int32) : Int32 := if x < y then y else x
def jmin (x y : Int32) : Int32 := if y < x then y else x
theorem gw_mmax {x y : Int32} {ix : Nat} (cx : Cx E mt d fr) (hk : LkM mt.1.cls ix Lib.Math.max.name Lib.Math.max.code) (h1d : 1 ≤ d) (hrm : (rest.map fun v => v.category).sum ≤ 8) (hd : decode mt.2.1 pc = .ok (.invokestatic ix, 3)) (hp : pc + 3 = pc') (kk : GW E fr mt.2.2.1 pc' lv (.int (jmax x y) :: rest) σ) : GW E fr mt.2.2.1 pc lv (.int y :: .int x :: rest) σ := by
  subst hp
  obtain ⟨c1, c2, c3, c4⟩ := hk
  obtain ⟨hx, hb, hml, hown, hts, hK, hfr, hlo, hcl, hsl⟩ := cx
  intro H locs ls hP hS hl
  exact va_mmax hx hb (hml.trans hl.1.symm) hown (hts _ c1) (hts _ c2) (hts _ c3) (hts _ c4) (by omega) (by omega) hcl hsl hd (kk H locs ls hP hS hl)
theorem gw_mmin {x y : Int32} {ix : Nat} (cx : Cx E mt d fr) (hk : LkM mt.1.cls ix Lib.Math.min.name Lib.Math.min.code) (h1d : 1 ≤ d) (hrm : (rest.map fun v => v.category).sum ≤ 8) (hd : decode mt.2.1 pc = .ok (.invokestatic ix, 3)) (hp : pc + 3 = pc') (kk : GW E fr mt.2.2.1 pc' lv (.int (jmin x y) :: rest) σ) : GW E fr mt.2.2.1 pc lv (.int y :: .int x :: rest) σ := by
  subst hp
  obtain ⟨c1, c2, c3, c4⟩ := hk
  obtain ⟨hx, hb, hml, hown, hts, hK, hfr, hlo, hcl, hsl⟩ := cx
  intro H locs ls hP hS hl
  exact va_mmin hx hb (hml.trans hl.1.symm) hown (hts _ c1) (hts _ c2) (hts _ c3) (hts _ c4) (by omega) (by omega) hcl hsl hd (kk H locs ls hP hS hl)
/-! ends -/
theorem gw_iret {v : Int32} {σ' : Sg} {r : Option Value} (cx : Cx E mt d fr) (tg : Tg E fr (some .int) r σ') (hr : r = some (.int v)) (hσ : σ' = σ) (hd : decode mt.2.1 pc = .ok (.ireturn, 1)) : GW E fr nL pc lv [.int v] σ := by
  subst hr
  subst hσ
  obtain ⟨t1, t2, t3⟩ := tg
  intro H locs ls hP hS hl
  rw [t3]
  exact W.iret cx.1 cx.2.1 t1 (fun t ht _ => ⟨⟨rfl, by rw [ht]; exact hP⟩, hS.F ht⟩) hS.2.2 hd t2
theorem gw_zret {v : Int32} {σ' : Sg} {r : Option Value} (cx : Cx E mt d fr) (tg : Tg E fr (some .boolean) r σ') (hb : v = 0 ∨ v = 1) (hr : r = some (.int v)) (hσ : σ' = σ) (hd : decode mt.2.1 pc = .ok (.ireturn, 1)) : GW E fr nL pc lv [.int v] σ := by
  subst hr
  subst hσ
  obtain ⟨t1, t2, t3⟩ := tg
  intro H locs ls hP hS hl
  rw [t3]
  exact W.zret cx.1 cx.2.1 t1 (by rcases hb with rfl | rfl <;> rfl) (fun t ht _ => ⟨⟨rfl, by rw [ht]; exact hP⟩, hS.F ht⟩) hS.2.2 hd t2
theorem gw_lret {v : Int64} {σ' : Sg} {r : Option Value} (cx : Cx E mt d fr) (tg : Tg E fr (some .long) r σ') (hr : r = some (.long v)) (hσ : σ' = σ) (hd : decode mt.2.1 pc = .ok (.lreturn, 1)) : GW E fr nL pc lv [.long v] σ := by
  subst hr
  subst hσ
  obtain ⟨t1, t2, t3⟩ := tg
  intro H locs ls hP hS hl
  rw [t3]
  exact W.lret cx.1 cx.2.1 t1 (fun t ht _ => ⟨⟨rfl, by rw [ht]; exact hP⟩, hS.F ht⟩) hS.2.2 hd t2
theorem gw_vret {σ' : Sg} {r : Option Value} (cx : Cx E mt d fr) (tg : Tg E fr none r σ') (hr : r = none) (hσ : σ' = σ) (hd : decode mt.2.1 pc = .ok (.return_, 1)) : GW E fr nL pc lv [] σ := by
  subst hr
  subst hσ
  obtain ⟨t1, t2, t3⟩ := tg
  intro H locs ls hP hS hl
  rw [t3]
  exact W.vret cx.1 cx.2.1 t1 (fun t ht _ => ⟨⟨rfl, by rw [ht]; exact hP⟩, hS.F ht⟩) hS.2.2 hd t2
/-! the static row ABOVE, read by a nest mate -/
theorem gw_above {ix : Nat} (cx : Cx E mt d fr) (hk : ∀ U, kNw U → va_Nw (.fieldLinkNest mt.1.cls ix RX4 "ABOVE" "[I" RX4) U) (hd : decode mt.2.1 pc = .ok (.getstatic ix, 3)) (hp : pc + 3 = pc') (kk : GW E fr nL pc' lv (.ref (eT E) :: rest) σ) : GW E fr nL pc lv rest σ := by
  subst hp
  obtain ⟨hx, hb, hml, hown, hts, hK, hfr, hlo, hcl, hsl⟩ := cx
  obtain ⟨cf, kf, fi, f, a, cell, h1, h2, h3, h4, h5, h6, h7, h8⟩ := hK.2.2.2.1.2.2.1
  have hlink := va_Nw.use (A := fA fr) rfl (hk _ hK.2.2.1)
  intro H locs ls hP hS hl T hT X
  obtain ⟨vm', X', st⟩ := X.getstaticNest hx hown hlink h1 h2 h3 h4 (cell₁ := cell) (v := .ref (eT E)) (by rw [hT, hS.2.1 a (Array.getElem?_eq_some_iff.mp h5).1 h8]; exact h5) (fun e => by rw [e] at h6; cases h6) h7 (g := F0 (fM fr) pc ls rest) rfl (by rw [hb]; exact hd)
  obtain ⟨t, a1, b1⟩ := kk H locs ls hP hS hl (T.setVm vm') hT X'
  exact ⟨t, st t a1, b1⟩
theorem gw_abld {i : Int32} (cx : Cx E mt d fr) (hin : vp_in i 7) (hd : decode mt.2.1 pc = .ok (.iaload, 1)) (hp : pc + 1 = pc') (kk : GW E fr nL pc' lv (.int (abv.getD i.toNatClampNeg 0) :: rest) σ) : GW E fr nL pc lv (.int i :: .ref (eT E) :: rest) σ := by
  subst hp
  exact fun H locs ls hP hS hl => va_ti cx.1 cx.2.1 cx.2.2.2.2.2.1.2.2.2.1.2.2.2.1 hS hin rfl hd (kk H locs ls hP hS hl)
end RUL
