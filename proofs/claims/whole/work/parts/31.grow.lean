/-! A WORLD THAT GROWS: the constructors, and the law's entry -/
abbrev Cls : Type := ClassId × ClassId × ClassId
def tyl (c : Cls) : List (ClassId × FieldType) := [(c.1, .int), (c.2.1, .object "ScandalCounter$Person"), (c.2.2, .object "ScandalCounter$Sheet")]
def Kc (D : va_G) (c : Cls) (U : State) : Prop := va_K D vwCl (tyl c) U ∧ va_AO RX1 U ∧ va_AO RX3 U ∧ va_Nw (.methodLinkNest RX0 21 yX1_init RX4) U
theorem Kc.warm {D : va_G} {c : Cls} {s U : State} (hW : s.WarmedH U.vm) (h : Kc D c s) : Kc D c U := ⟨va_K.moved hW.alike h.1, va_AO.moved hW.alike h.2.1, va_AO.moved hW.alike h.2.2.1, va_Nw.warmM hW h.2.2.2⟩
theorem Kc.call {D : va_G} {c : Cls} {U : State} {g : JFrame} {mk : MethodId} {a : Array Value} (h : Kc D c U) : Kc D c (U.calling g mk a) := ⟨va_K.moved (u := U) (U := U.calling g mk a) (Vm.Alike.refl U.vm) h.1, va_AO.moved (u := U) (U := U.calling g mk a) (Vm.Alike.refl U.vm) h.2.1, va_AO.moved (u := U) (U := U.calling g mk a) (Vm.Alike.refl U.vm) h.2.2.1, va_Nw.same (U := U.calling g mk a) rfl rfl h.2.2.2⟩
/-- the machine stands at pc over the cells ws, k cells and n places made so far -/
def GN (l : Launch) (D : va_G) (A : Nat → Prop) (fr : Fr) (nL pc : Nat) (lv : List (Nat × Value)) (st : List Value) (ws : va_W) (kc ns : Nat) : Prop :=
  ∀ (H : Heap) (locs : List Loc) (ls : Array Slot), va_P D vwCl ws H → va_D A ws → va_S A (fS fr).heap H locs → lv_has ls nL lv →
    W (fP fr) l (fE fr) (fR fr) (fS fr) (fM fr) (fA fr) (fB fr) (fT fr) (fC fr) H locs kc ns (fQ fr) (F0 (fM fr) pc ls st)
def Cn (D : va_G) (c : Cls) (A : Nat → Prop) (mt : Mt) (d : Nat) (fr : Fr) : Prop :=
  (fP fr).tables.exec = Jvm.exec ∧ (fC fr).code = mt.2.1 ∧ (fC fr).maxLocals = mt.2.2.1 ∧ (fS fr).vm.findClass mt.1.cls = some (fM fr).cls ∧ (∀ w ∈ tG, w.before (fA fr) (fS fr) = true) ∧ Kc D c (fS fr) ∧ (∀ q, (fS fr).heap.size ≤ q → A q) ∧ d ≤ (fR fr).frames ∧ 36 * d ≤ (fR fr).locals
section GRO
variable {l : Launch} {D : va_G} {c : Cls} {A : Nat → Prop} {mt : Mt} {d : Nat} {fr : Fr} {nL pc pc' : Nat} {lv : List (Nat × Value)} {rest : List Value} {ws : va_W} {kc ns : Nat}
theorem gn_iconst {n : Int} {v : Int32} (cx : Cn D c A mt d fr) (hv : Int32.ofInt n = v) (hd : decode mt.2.1 pc = .ok (.iconst n, 1)) (hp : pc + 1 = pc') (k : GN l D A fr nL pc' lv (.int v :: rest) ws kc ns) : GN l D A fr nL pc lv (rest) ws kc ns := by
  subst hp; exact fun H locs ls hP hD hS hl => lv_iconst cx.1 cx.2.1 hd hv (k H locs ls hP hD hS hl)
theorem gn_bipush {n : Int} {v : Int32} (cx : Cn D c A mt d fr) (hv : (Int8.ofInt n).toInt32 = v) (hd : decode mt.2.1 pc = .ok (.bipush n, 2)) (hp : pc + 2 = pc') (k : GN l D A fr nL pc' lv (.int v :: rest) ws kc ns) : GN l D A fr nL pc lv (rest) ws kc ns := by
  subst hp; exact fun H locs ls hP hD hS hl => lv_bipush cx.1 cx.2.1 hd hv (k H locs ls hP hD hS hl)
theorem gn_sipush {n : Int} {v : Int32} (cx : Cn D c A mt d fr) (hv : (Int16.ofInt n).toInt32 = v) (hd : decode mt.2.1 pc = .ok (.sipush n, 3)) (hp : pc + 3 = pc') (k : GN l D A fr nL pc' lv (.int v :: rest) ws kc ns) : GN l D A fr nL pc lv (rest) ws kc ns := by
  subst hp; exact fun H locs ls hP hD hS hl => lv_sipush cx.1 cx.2.1 hd hv (k H locs ls hP hD hS hl)
theorem gn_iload_n {q : Fin 4} {i : Nat} {x : Int32} (cx : Cn D c A mt d fr) (j : Nat) (hj : lv[j]? = some (i, .int x)) (hi : (q : Nat) = i) (hd : decode mt.2.1 pc = .ok (.iload_n q, 1)) (hp : pc + 1 = pc') (k : GN l D A fr nL pc' lv (.int x :: rest) ws kc ns) : GN l D A fr nL pc lv rest ws kc ns := by
  subst hp; exact fun H locs ls hP hD hS hl => lv_iload_n cx.1 cx.2.1 hd hi (lv_at hl j hj) (k H locs ls hP hD hS hl)
theorem gn_istore_n {q : Fin 4} {i : Nat} {x : Int32} {lv' : List (Nat × Value)} (cx : Cn D c A mt d fr) (hl' : (i, Value.int x) :: lv.filter (fun q => !(q.1 == i) && !(q.1 + 1 == i && q.2.category == 2)) = lv') (hi : (q : Nat) = i) (hn : i < nL) (hd : decode mt.2.1 pc = .ok (.istore_n q, 1)) (hp : pc + 1 = pc') (k : GN l D A fr nL pc' lv' rest ws kc ns) : GN l D A fr nL pc lv (.int x :: rest) ws kc ns := by
  subst hp; exact fun H locs ls hP hD hS hl => lv_istore_n cx.1 cx.2.1 hd hi hl hn hl' (fun ls' hl2 => k H locs ls' hP hD hS hl2)
theorem gn_aload_n {q : Fin 4} {i : Nat} {x : Nat} (cx : Cn D c A mt d fr) (j : Nat) (hj : lv[j]? = some (i, .ref x)) (hi : (q : Nat) = i) (hd : decode mt.2.1 pc = .ok (.aload_n q, 1)) (hp : pc + 1 = pc') (k : GN l D A fr nL pc' lv (.ref x :: rest) ws kc ns) : GN l D A fr nL pc lv rest ws kc ns := by
  subst hp; exact fun H locs ls hP hD hS hl => lv_aload_n cx.1 cx.2.1 hd hi (lv_at hl j hj) (k H locs ls hP hD hS hl)
theorem gn_astore_n {q : Fin 4} {i : Nat} {x : Nat} {lv' : List (Nat × Value)} (cx : Cn D c A mt d fr) (hl' : (i, Value.ref x) :: lv.filter (fun q => !(q.1 == i) && !(q.1 + 1 == i && q.2.category == 2)) = lv') (hi : (q : Nat) = i) (hn : i < nL) (hd : decode mt.2.1 pc = .ok (.astore_n q, 1)) (hp : pc + 1 = pc') (k : GN l D A fr nL pc' lv' rest ws kc ns) : GN l D A fr nL pc lv (.ref x :: rest) ws kc ns := by
  subst hp; exact fun H locs ls hP hD hS hl => lv_astore_n cx.1 cx.2.1 hd hi hl hn hl' (fun ls' hl2 => k H locs ls' hP hD hS hl2)
theorem gn_iinc {i : Nat} {n : Int} {x v : Int32} {lv' : List (Nat × Value)} (cx : Cn D c A mt d fr) (j : Nat) (hj : lv[j]? = some (i, .int x)) (hv : x + Int32.ofInt n = v) (hl' : (i, Value.int v) :: lv.filter (fun q => !(q.1 == i) && !(q.1 + 1 == i && q.2.category == 2)) = lv') (hn : i < nL) (hd : decode mt.2.1 pc = .ok (.iinc i n, 3)) (hp : pc + 3 = pc') (k : GN l D A fr nL pc' lv' rest ws kc ns) : GN l D A fr nL pc lv rest ws kc ns := by
  subst hp; exact fun H locs ls hP hD hS hl => lv_iinc cx.1 cx.2.1 hd hl hj hv hn hl' (fun ls' hl2 => k H locs ls' hP hD hS hl2)
theorem gn_iadd {x y : Int32} (cx : Cn D c A mt d fr) (hd : decode mt.2.1 pc = .ok (.iadd, 1)) (hp : pc + 1 = pc') (k : GN l D A fr nL pc' lv (.int (x + y) :: rest) ws kc ns) : GN l D A fr nL pc lv (.int y :: .int x :: rest) ws kc ns := by
  subst hp; exact fun H locs ls hP hD hS hl => lv_iadd cx.1 cx.2.1 hd (k H locs ls hP hD hS hl)
theorem gn_dup {va : Value} (cx : Cn D c A mt d fr) (h1 : va.category = 1) (hd : decode mt.2.1 pc = .ok (.dup, 1)) (hp : pc + 1 = pc') (k : GN l D A fr nL pc' lv (va :: va :: rest) ws kc ns) : GN l D A fr nL pc lv (va :: rest) ws kc ns := by
  subst hp; exact fun H locs ls hP hD hS hl => lv_dup cx.1 cx.2.1 hd h1 (k H locs ls hP hD hS hl)
theorem gn_ic_ge_t {x y : Int32} {off : Int} (cx : Cn D c A mt d fr) (hc : y ≤ x) (hd : decode mt.2.1 pc = .ok (.if_icmp .ge off, 3)) (ht : (pc : Int) + off = (pc' : Int)) (k : GN l D A fr nL pc' lv rest ws kc ns) : GN l D A fr nL pc lv (.int y :: .int x :: rest) ws kc ns :=
  fun H locs ls hP hD hS hl => lv_icmp_ge cx.1 cx.2.1 hd ht (fun _ => k H locs ls hP hD hS hl) (fun z => absurd hc z)
theorem gn_ic_ge_f {x y : Int32} {off : Int} (cx : Cn D c A mt d fr) (hc : ¬ (y ≤ x)) (hd : decode mt.2.1 pc = .ok (.if_icmp .ge off, 3)) (ht : ∃ t : Nat, (pc : Int) + off = (t : Int)) (hp : pc + 3 = pc') (k : GN l D A fr nL pc' lv rest ws kc ns) : GN l D A fr nL pc lv (.int y :: .int x :: rest) ws kc ns := by
  subst hp; obtain ⟨t, ht⟩ := ht; exact fun H locs ls hP hD hS hl => lv_icmp_ge cx.1 cx.2.1 hd ht (fun z => absurd z hc) (fun _ => k H locs ls hP hD hS hl)
theorem gn_goto {off : Int} (cx : Cn D c A mt d fr) (hd : decode mt.2.1 pc = .ok (.goto off, 3)) (ht : (pc : Int) + off = (pc' : Int)) (k : GN l D A fr nL pc' lv rest ws kc ns) : GN l D A fr nL pc lv rest ws kc ns :=
  fun H locs ls hP hD hS hl => lv_goto cx.1 cx.2.1 hd ht (k H locs ls hP hD hS hl)
theorem gn_eq {pc1 : Nat} {ws1 : va_W} {lv1 : List (Nat × Value)} {st st1 : List Value} (h1 : ws = ws1) (k : GN l D A fr nL pc lv st ws1 kc ns) : GN l D A fr nL pc lv st ws kc ns := by subst h1; exact k
theorem gn_obj {ix a : Nat} (cx : Cn D c A mt d fr) (hn : nL = mt.2.2.1) (h1 : Cond.methodLink mt.1.cls ix Lib.objectInit ∈ tG) (hd1 : 1 ≤ d) (hrm : (rest.map fun v => v.category).sum ≤ 8) (hd : decode mt.2.1 pc = .ok (.invokespecial ix, 3)) (hp : pc + 3 = pc') (k : GN l D A fr nL pc' lv rest ws kc ns) : GN l D A fr nL pc lv (.ref a :: rest) ws kc ns := by
  subst hp
  obtain ⟨hx, hb, hml, hown, hts, hK, hA, hfr, hlo⟩ := cx
  intro H locs ls hP hD hS hl
  refine W.objInit hx hb hown (hts _ h1) (hts _ (tG_of 20 (by decide +kernel) (by decide +kernel))) (hts _ (tG_of 21 (by decide +kernel) (by decide +kernel))) rfl (by rw [hml, ← hn]; exact hl.1) rfl hd (by omega) ?_ (k H locs ls hP hD hS hl)
  have : 2 * (F0 (fM fr) pc ls (Value.ref a :: rest)).monitorRoom + (List.map (fun v => v.category) rest).sum ≤ 8 := lv_room hrm
  omega
theorem gn_new {C : String} {T : u_T} {N ci ix : Nat} {ty : Nat → FieldType} {fs : List Value} (cx : Cn D c A mt d fr) (hc : vwCl[ci]? = some (C, T, N)) (hin : ∀ w ∈ u_ws C T N, w ∈ tG) (hty : ∀ k, k < N → parseFieldDescriptor (T k).2.2.1 = some (ty k)) (h1 : Cond.classLink mt.1.cls ix C ∈ tG) (h2 : Cond.instantiable C N ∈ tG) (h3 : Cond.initialized C ∈ tG) (hfs : ∀ j, j < N → defaultValue (ty j) = vp_V fs j) (hk : kc + 1 ≤ (fR fr).cells) (hs : ns + N ≤ (fR fr).slots) (hd : decode mt.2.1 pc = .ok (.new ix, 3)) (hp : pc + 3 = pc') (kk : ∀ q, GN l D A fr nL pc' lv (.ref q :: rest) (ws ++ [(q, .inr (ci, fs))]) (kc + 1) (ns + N)) : GN l D A fr nL pc lv rest ws kc ns := by
  subst hp
  obtain ⟨hx, hb, hml, hown, hts, hK, hA, hfr, hlo⟩ := cx
  intro H locs ls hP hD hS hl
  exact va_new hx hb hts hin ty hty hown (hts _ h1) (hts _ h2) (hts _ h3) hK.1 hP hD hS hA hc hfs hk hs hd (fun q H1 hP1 hD1 hS1 => kk q H1 locs ls hP1 hD1 hS1 hl)
theorem gn_newI {x : Int32} {N : Nat} (cx : Cn D c A mt d fr) (hx0 : ¬ x < 0) (hN : x.toNatClampNeg = N) (hby : N * 4 ≤ 536870912) (hk : kc + 1 ≤ (fR fr).cells) (hs : ns + N ≤ (fR fr).slots) (hd : decode mt.2.1 pc = .ok (.newarray .int, 2)) (hp : pc + 2 = pc') (kk : ∀ q, GN l D A fr nL pc' lv (.ref q :: rest) (ws ++ [(q, .inl (c.1, N, .inl (fun _ => 0)))]) (kc + 1) (ns + N)) : GN l D A fr nL pc lv (.int x :: rest) ws kc ns := by
  subst hp
  obtain ⟨hx, hb, hml, hown, hts, hK, hA, hfr, hlo⟩ := cx
  intro H locs ls hP hD hS hl
  refine va_newa (atype := .int) (ty := .int) (a0 := (N, .inl (fun _ => 0))) hx hb (hts _ (tG_of 57 (by decide +kernel) (by decide +kernel))) rfl hK.1 hP hD hS hA (fun _ => rfl) hx0 hN hby hk hs hd (fun q cA H1 hK1 hP1 hD1 hS1 => ?_)
  have e1 : va_RA (fS fr) c.1 .int := (hK.1.2 0 _ rfl).2
  have e2 : va_RA (fS fr) cA .int := (hK1.2 3 _ rfl).2
  have e : cA = c.1 := Option.some.inj ((show (fS fr).vm.findClass ("[" ++ FieldType.int.toString) = some cA from e2).symm.trans e1)
  subst e
  exact kk q H1 locs ls hP1 hD1 hS1 hl
theorem va_RAq {U : State} {a b : ClassId} {C : String} (h1 : va_RA U a (.object C)) (h2 : va_RA U b (.object C)) : a = b := by
  obtain ⟨_, _, _, _, _, e1⟩ := h1
  obtain ⟨_, _, _, _, _, e2⟩ := h2
  exact Option.some.inj (e1.symm.trans e2)
theorem gn_newQ {x : Int32} {N ix t0 : Nat} {C : String} {cQ : ClassId} (cx : Cn D c A mt d fr) (hq : (tyl c)[t0]? = some (cQ, .object C)) (ho : va_AO C (fS fr)) (h1 : Cond.classLink mt.1.cls ix C ∈ tG) (hx0 : ¬ x < 0) (hN : x.toNatClampNeg = N) (hby : N * 4 ≤ 536870912) (hk : kc + 1 ≤ (fR fr).cells) (hs : ns + N ≤ (fR fr).slots) (hd : decode mt.2.1 pc = .ok (.anewarray ix, 3)) (hp : pc + 3 = pc') (kk : ∀ q, GN l D A fr nL pc' lv (.ref q :: rest) (ws ++ [(q, .inl (cQ, N, .inr (.inr (.inr (.inr (fun _ => none))))))]) (kc + 1) (ns + N)) : GN l D A fr nL pc lv (.int x :: rest) ws kc ns := by
  subst hp
  obtain ⟨hx, hb, hml, hown, hts, hK, hA, hfr, hlo⟩ := cx
  intro H locs ls hP hD hS hl
  refine va_newq hx hb hown (hts _ h1) ho hK.1 hP hD hS hA hx0 hN hby hk hs hd (fun q cA H1 hK1 hP1 hD1 hS1 => ?_)
  have e : cA = cQ := va_RAq (hK1.2 3 _ rfl).2 (hK.1.2 t0 _ hq).2
  subst e
  exact kk q H1 locs ls hP1 hD1 hS1 hl
def FFk (own : String) (ix ci f : Nat) (ty : FieldType) (fin : Bool) : Prop := ∃ (C : String) (T : u_T) (N : Nat) (ty0 : Nat → FieldType), vwCl[ci]? = some (C, T, N) ∧ (∀ w ∈ u_ws C T N, w ∈ tG) ∧ f < N ∧ Cond.fieldLink own ix (T f).1 (T f).2.1 (T f).2.2.1 ∈ tG ∧ (∀ k, k < N → parseFieldDescriptor (T k).2.2.1 = some (ty0 k)) ∧ (∀ a, a < N → ∀ b, b < N → a ≠ b → (T a).2.1 ≠ (T b).2.1) ∧ (T f).2.2.2 = fin ∧ (T f).1 = own ∧ parseFieldDescriptor (T f).2.2.1 = some ty
theorem gn_putF {a q0 ci f ix : Nat} {fs : List Value} {ty : FieldType} {v : Value} (cx : Cn D c A mt d fr) (hin0 : (fT fr).name = "<init>") (he : ws[q0]? = some (a, .inr (ci, fs))) (hk : FFk mt.1.cls ix ci f ty true) (hn : narrow ty v = v ∧ fits ty v = true) (hl0 : f < fs.length) (hd : decode mt.2.1 pc = .ok (.putfield ix, 3)) (hp : pc + 3 = pc') (kk : GN l D A fr nL pc' lv rest (ws.set q0 (a, .inr (ci, fs.set f v))) kc ns) : GN l D A fr nL pc lv (v :: .ref a :: rest) ws kc ns := by
  subst hp
  obtain ⟨C, T, N, ty0, hc, hin, hfN, hlk, hty, hnm, hfin, hdc, hpd⟩ := hk
  obtain ⟨hx, hb, hml, hown, hts, hK, hA, hfr, hlo⟩ := cx
  intro H locs ls hP hD hS hl
  exact va_putF hx hb hts hin ty0 hty hnm hown hK.1 hP hD hS q0 he hc f hfN (hts _ hlk) (fun _ h => h) hfin hin0 hdc hpd hn.1 hn.2 hl0 hd (fun H1 locs1 hP1 hD1 hS1 => kk H1 locs1 ls hP1 hD1 hS1 hl)
theorem gn_put {a q0 ci f ix : Nat} {fs : List Value} {ty : FieldType} {v : Value} (cx : Cn D c A mt d fr) (he : ws[q0]? = some (a, .inr (ci, fs))) (hk : FFk mt.1.cls ix ci f ty false) (hn : narrow ty v = v ∧ fits ty v = true) (hl0 : f < fs.length) (hd : decode mt.2.1 pc = .ok (.putfield ix, 3)) (hp : pc + 3 = pc') (kk : GN l D A fr nL pc' lv rest (ws.set q0 (a, .inr (ci, fs.set f v))) kc ns) : GN l D A fr nL pc lv (v :: .ref a :: rest) ws kc ns := by
  subst hp
  obtain ⟨C, T, N, ty0, hc, hin, hfN, hlk, hty, hnm, hfin, hdc, hpd⟩ := hk
  obtain ⟨hx, hb, hml, hown, hts, hK, hA, hfr, hlo⟩ := cx
  intro H locs ls hP hD hS hl
  exact va_put hx hb hts hin ty0 hty hnm hown hK.1 hP hD hS q0 he hc f hfN (hts _ hlk) (fun _ h => h) hfin hpd hn.1 hn.2 hl0 hd (fun H1 locs1 hP1 hD1 hS1 => kk H1 locs1 ls hP1 hD1 hS1 hl)
theorem gn_get {a q0 ci f ix : Nat} {fs : List Value} {v : Value} (cx : Cn D c A mt d fr) (he : ws[q0]? = some (a, .inr (ci, fs))) (hk : FLk mt.1.cls ix ci f) (hv : fs[f]? = some v) (hd : decode mt.2.1 pc = .ok (.getfield ix, 3)) (hp : pc + 3 = pc') (kk : GN l D A fr nL pc' lv (v :: rest) ws kc ns) : GN l D A fr nL pc lv (.ref a :: rest) ws kc ns := by
  subst hp
  obtain ⟨C, T, N, hc, hin, hfN, hlk⟩ := hk
  obtain ⟨hx, hb, hml, hown, hts, hK, hA, hfr, hlo⟩ := cx
  intro H locs ls hP hD hS hl
  exact va_get hx hb hts hin hown hK.1 hP q0 he hc f hfN (hts _ hlk) (fun _ h => h) hv hd (kk H locs ls hP hD hS hl)
theorem gn_iast {a q0 n j : Nat} {f : Nat → Int32} {i v : Int32} (cx : Cn D c A mt d fr) (he : ws[q0]? = some (a, .inl (c.1, n, .inl f))) (hin : vp_in i n) (hj : i.toNatClampNeg = j) (hd : decode mt.2.1 pc = .ok (.iastore, 1)) (hp : pc + 1 = pc') (kk : GN l D A fr nL pc' lv rest (ws.set q0 (a, .inl (c.1, n, .inl (upd f j v)))) kc ns) : GN l D A fr nL pc lv (.int v :: .int i :: .ref a :: rest) ws kc ns := by
  subst hp
  subst hj
  obtain ⟨hx, hb, hml, hown, hts, hK, hA, hfr, hlo⟩ := cx
  intro H locs ls hP hD hS hl
  exact va_iast hx hb hK.1 hP hD hS q0 0 he rfl hin hd (fun H1 locs1 hP1 hD1 hS1 => kk H1 locs1 ls hP1 hD1 hS1 hl)
theorem gn_astq {a q0 qk n j ci t0 v : Nat} {f : Nat → Option Nat} {i : Int32} {cQ : ClassId} {r : vw_C} {vs : List Value} (cx : Cn D c A mt d fr) (he : ws[q0]? = some (a, .inl (cQ, n, .inr (.inr (.inr (.inr f)))))) (hq : (tyl c)[t0]? = some (cQ, .object r.1)) (hv : ws[qk]? = some (v, .inr (ci, vs))) (hc : vwCl[ci]? = some r) (hin : vp_in i n) (hj : i.toNatClampNeg = j) (hd : decode mt.2.1 pc = .ok (.aastore, 1)) (hp : pc + 1 = pc') (kk : GN l D A fr nL pc' lv rest (ws.set q0 (a, .inl (cQ, n, .inr (.inr (.inr (.inr (va_up f j (some v)))))))) kc ns) : GN l D A fr nL pc lv (.ref v :: .int i :: .ref a :: rest) ws kc ns := by
  subst hp
  subst hj
  obtain ⟨hx, hb, hml, hown, hts, hK, hA, hfr, hlo⟩ := cx
  intro H locs ls hP hD hS hl
  exact va_astq hx hb hK.1 hP hD hS q0 t0 qk ci he hq hv hc hin hd (fun H1 locs1 hP1 hD1 hS1 => kk H1 locs1 ls hP1 hD1 hS1 hl)
/-- a constructor's contract: from the bare object to the cells post u -/
def rmn (d kn sn : Nat) : Room := { frames := d, cells := kn, slots := sn, locals := 36 * d }
def ConI (l : Launch) (D : va_G) (c : Cls) (mt : Mt) (d kn sn : Nat) (ci : Nat) (fs0 : List Value) (post : Nat → (Nat → Nat) → va_W) : Prop := ∀ (h0 sz : Nat), Met l mt.1 (.code mt.1 mt.2.1 mt.2.2.1 mt.2.2.2 :: tG) (rmn d kn sn) (va_Pc [.ref h0] (fun U => U.heap.size = sz ∧ va_P D vwCl [(h0, .inr (ci, fs0))] U.heap ∧ Kc D c U ∧ va_D (fun _ => True) [(h0, .inr (ci, fs0))])) (va_Qv (fun _ : Nat → Nat => True) (fun u t => va_P D vwCl (post h0 u) t.heap ∧ va_D (va_A [(h0, .inr (ci, fs0))] sz) (post h0 u)) (va_A [(h0, .inr (ci, fs0))] sz)) kn sn (va_A [(h0, .inr (ci, fs0))] sz)
end GRO
