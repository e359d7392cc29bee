/-! THE CLAIM OUT OF ONE WALK OF THE LAW'S BODY. Your part is whole_start (and what it stands on); all else here is the same for every law, but numbers. -/
def R_law : String := "ScandalCounterLaw"
def lw_P (b : Addr) (xs : List Int32) (args : Array Value) (s : State) : Prop := args = #[.ref b] ∧ s.IntsAt b xs ∧ xs.length ≤ 3072 ∧ (Jvm.Cond.and given_1 narrow_1).before args s = true
def lw_Q (_ : Array Value) (s : State) (o : Outcome) (t : State) : Prop := o = .returned (some (.int 1)) ∧ Framed s o t [] 600000 7302249
def lw_Z (below : List Frame) (a : Array Value) (s : State) : State → Prop := fun t => ∃ o, t.status = .running ∧ Ended t below o ∧ lw_Q a s o t
/-- the law's own end, with 1 on the stack, nothing written that was there before, its room as the claim has it -/
theorem lw_ret {p : Program} {l : Launch} {e : Env} {s : State} {m : MethodId} {below : List Frame} {meth : Method} {c : Code} {b : Nat} (hx : p.tables.exec = Jvm.exec) (hb : c.code = code) (hr : meth.sig.returnType = ret) (hlocks : meth.locks = false) {pc : Nat} {H : Heap} {ls : Array Slot} (hdg : decode code pc = .ok (.ireturn, 1)) : W p l e room_1 s m #[Value.ref b] below meth c H [] 600000 7302249 (lw_Z below #[Value.ref b] s) (F0 m pc ls [.int 1]) := by
  intro T hT X
  obtain ⟨fs, hret, hrun, hended, hW, hframe⟩ := X.leave (v := some (.int 1)) (hlocks := hlocks) (fun h => by rw [hr] at h; cases h)
  have hmeth' : T.vm.method? m = some meth := X.method'
  refine ⟨T.setFrames fs, ?_, .returned (some (.int 1)), hrun, hended, rfl, ⟨_, rfl⟩, hW, hframe⟩
  jvm_step X.here [X.here.top, hx, hb, hdg, hmeth', hr, ret, narrow_b1]
  (try refine ⟨rfl, ?_⟩); (try refine ⟨rfl, ?_⟩)
  first | (intro acts; rw [hret _ acts rfl rfl rfl]) | rw [hret _ _ rfl rfl rfl]
  exact Steps.refl _
/-- what holds at the law's entry: the machine, the code, the tables' words (any of lw_tbl by 'hts w (by decide +kernel)'), the script of L ints xs at the cell b, what the Statement gives of the start (any of its parts by flat_of_before) -/
def lw_At (p : Program) (s : State) (m : MethodId) (meth : Method) (c : Code) (b L : Nat) (xs : Nat → Int32) : Prop :=
  p.tables.exec = Jvm.exec ∧ c.code = code ∧ meth.sig.returnType = ret ∧ c.maxLocals = 4 ∧ s.vm.findClass R_law = some m.cls ∧ (∀ w ∈ lw_tbl, w.before #[Value.ref b] s = true) ∧ va_X b L xs s s.heap ∧ b < s.heap.size ∧ meth.locks = false ∧ (Jvm.Cond.and given_1 narrow_1).before #[Value.ref b] s = true
theorem lk_init4 : LkI RL 9 (yX4_init, cX4_init, 2, none) := ⟨tG_of 16 (by decide +kernel) (by decide +kernel), tG_of 17 (by decide +kernel) (by decide +kernel), tG_of 1 (by decide +kernel) (by decide +kernel), tG_of 18 (by decide +kernel) (by decide +kernel), rfl, rfl, ⟨by decide, by decide, by decide +kernel⟩, by decide⟩
theorem lk_init5 : LkI RL 12 (yX5_init, cX5_init, 2, none) := ⟨tG_of 686 (by decide +kernel) (by decide +kernel), tG_of 687 (by decide +kernel) (by decide +kernel), tG_of 6 (by decide +kernel) (by decide +kernel), tG_of 688 (by decide +kernel) (by decide +kernel), rfl, rfl, ⟨by decide, by decide, by decide +kernel⟩, by decide⟩
abbrev frL (p : Program) (e : Env) (s : State) (m : MethodId) (below : List Frame) (meth : Method) (c : Code) (b : Nat) : Fr := (p, e, room_1, s, m, #[Value.ref b], below, meth, c, 59, 1086, lw_Z below #[Value.ref b] s)
/-- from the loop's head on -/
theorem law_go {p : Program} {e : Env} {s : State} {m : MethodId} {below : List Frame} {meth : Method} {c : Code} {l : Launch} {b L : Nat} {xs : Nat → Int32} {D : va_G} {cl : Cls} {ax am : Nat} {u v : Nat → Nat} (hL : L ≤ 3072) (C0 : lw_At p s m meth c b L xs) (hKc : Kc D cl s) : GN l D (fun q => s.heap.size ≤ q) (frL p e s m below meth c b) 4 18 [(3, .int 0), (2, .ref am), (1, .ref ax), (0, .ref b)] [] (poX4 cl ax u ++ poX5 cl am v) 59 1086 := by
  obtain ⟨hx, hbd, hret, hml, hown, hts, hX, hbl, hlk, hgv⟩ := C0
  intro H locs ls hP hD hS hl
  have hD : va_D (fun q => s.heap.size ≤ q) (poX4 cl ax u ++ poX5 cl am v) := hD
  obtain ⟨aT, kK, kV, hKx⟩ := st_Kx (l := l) hts hgv hKc hD
  obtain ⟨E, hE⟩ : ∃ E : Ev, E = (l, D, adr ax u am v, cl, aT, kK, kV) := ⟨_, rfl⟩
  rw [← hE] at hKx
  have eXA : ∀ q : Nat, eX E q → s.heap.size ≤ q := by
    rintro q ⟨k, hk, rfl⟩
    rw [hE]
    exact adr_in hD k hk
  have cx : Cx E mlaw 12 (frL p e s m below meth c b) := ⟨hx, hbd, hml, hown, fun w hw => hts w (tG_lw hw), hKx, Nat.le_of_ble_eq_true rfl, Nat.le_of_ble_eq_true rfl, Nat.le_of_ble_eq_true rfl, Nat.le_of_ble_eq_true rfl⟩
  have S : Scr E (frL p e s m below meth c b) b L xs := ⟨hX, hbl, fun h => absurd (eXA b h) (Nat.not_le.mpr hbl)⟩
  have kend : ∀ (j : Nat) (σ : Sg), GW E (frL p e s m below meth c b) 4 1402 (lvL E b j) [] σ := by
    intro j σ
    refine gw_iconst (v := 1) cx (by decide) dL_law_1402 rfl ?_
    intro H locs ls hP hS hl
    refine W.widen (k := 600000) (n := 7302249) (Nat.le_of_ble_eq_true rfl) (Nat.le_of_ble_eq_true rfl) ?_
    refine va_forget (fun q hq => eXA _ (hS.2.2 q hq)) ?_
    exact lw_ret hx hbd hret hlk dL_law_1403
  have G := law_loop cx S hL kend 513 0 sg0 (by omega) (by omega) inv0
  have hl2 : lv_has ls 4 (lvL E b 0) := by
    rw [hE]
    exact hl
  have hP2 : va_P (eD E) vwCl (wl E sg0) H := by
    intro k q hq
    have hk : k < 59 := by
      have := (List.getElem?_eq_some_iff.mp hq).1
      simpa [wl] using this
    rw [wl_at hk] at hq
    rw [← Option.some.inj hq, hE]
    exact st_P hP k hk
  have hS2 : va_S (eX E) s.heap H [] := ⟨hS.1, fun q h1 _ => hS.2.1 q h1 (Nat.not_le.mpr h1), fun _ h => by cases h⟩
  have W0 := G H [] ls hP2 hS2 hl2
  rw [hE] at W0
  exact va_forget (fun q hq => hS.2.2 q hq) W0
set_option maxHeartbeats 4000000 in
set_option maxRecDepth 100000 in
theorem law_in {p : Program} {e : Env} {s : State} {m : MethodId} {below : List Frame} {meth : Method} {c : Code} {l : Launch} {b L : Nat} {xs : Nat → Int32} {D : va_G} {cl : Cls} (hL : L ≤ 3072) (C0 : lw_At p s m meth c b L xs) (hKc : Kc D cl s) : GN l D (fun q => s.heap.size ≤ q) (frL p e s m below meth c b) 4 0 [(0, .ref b)] [] [] 0 0 := by
  have cn : Cn D cl (fun q => s.heap.size ≤ q) mlaw 12 (frL p e s m below meth c b) := by
    obtain ⟨hx, hbd, hret, hml, hown, hts, hX, hbl, hlk, hgv⟩ := C0
    exact ⟨hx, hbd, hml, hown, fun w hw => hts w (tG_lw hw), hKc, fun q h => h, Nat.le_of_ble_eq_true rfl, Nat.le_of_ble_eq_true rfl⟩
  refine gn_new (ci := 4) (fs := [.null, .null, .null, .null, .null, .null, .int 0]) cn rfl iX4 tyX4_ok (tG_of 14 (by decide +kernel) (by decide +kernel)) (tG_of 15 (by decide +kernel) (by decide +kernel)) (tG_of 1 (by decide +kernel) (by decide +kernel)) dfX4 (Nat.le_of_ble_eq_true rfl) (Nat.le_of_ble_eq_true rfl) dL_law_0 rfl (fun ax => ?_)
  refine gn_dup cn rfl dL_law_3 rfl ?_
  refine gn_init (qb := 0) (wr := []) [] cn rfl (kI_X4_init l D cl) rfl rfl rfl (by decide) (by decide) lk_init4 (Nat.le_of_ble_eq_true rfl) (Nat.le_of_ble_eq_true rfl) (Nat.le_of_ble_eq_true rfl) dL_law_4 rfl (fun u => ?_)
  refine gn_astore_n (lv' := [(1, .ref ax), (0, .ref b)]) cn rfl rfl (by decide) dL_law_7 rfl ?_
  refine gn_eq (ws1 := poX4 cl ax u) (pc1 := 8) (lv1 := []) (st1 := []) rfl ?_
  refine gn_new (ci := 5) (fs := [.null, .null, .null, .null, .int 0, .null, .null, .int 0, .null, .null, .null, .int 0, .int 0, .int 0, .int 0, .int 0, .int 0, .int 0]) cn rfl iX5 tyX5_ok (tG_of 684 (by decide +kernel) (by decide +kernel)) (tG_of 685 (by decide +kernel) (by decide +kernel)) (tG_of 6 (by decide +kernel) (by decide +kernel)) dfX5 (Nat.le_of_ble_eq_true rfl) (Nat.le_of_ble_eq_true rfl) dL_law_8 rfl (fun am => ?_)
  refine gn_dup cn rfl dL_law_11 rfl ?_
  refine gn_init (qb := 49) (wr := poX4 cl ax u) [0, 1, 2, 3, 4, 5, 6, 7, 8, 9, 10, 11, 12, 13, 14, 15, 16, 17, 18, 19, 20, 21, 22, 23, 24, 25, 26, 27, 28, 29, 30, 31, 32, 33, 34, 35, 36, 37, 38, 39, 40, 41, 42, 43, 44, 45, 46, 47, 48] cn rfl (kI_X5_init l D cl) rfl rfl (by decide +kernel) (by decide) (by decide) lk_init5 (Nat.le_of_ble_eq_true rfl) (Nat.le_of_ble_eq_true rfl) (Nat.le_of_ble_eq_true rfl) dL_law_12 rfl (fun v => ?_)
  refine gn_astore_n (lv' := [(2, .ref am), (1, .ref ax), (0, .ref b)]) cn rfl rfl (by decide) dL_law_15 rfl ?_
  refine gn_iconst (v := 0) cn (by decide) dL_law_16 rfl ?_
  refine gn_istore_n (lv' := [(3, .int 0), (2, .ref am), (1, .ref ax), (0, .ref b)]) cn rfl rfl (by decide) dL_law_17 rfl ?_
  exact law_go hL C0 hKc
/-- from the entry -/
theorem whole_start {p : Program} {e : Env} {s : State} {m : MethodId} {below : List Frame} {meth : Method} {c : Code} (l : Launch) (hflags : l.flags = flags0) {b L : Nat} {xs : Nat → Int32} (hL : L ≤ 3072) (C0 : lw_At p s m meth c b L xs) : W p l e room_1 s m #[Value.ref b] below meth c s.heap [] 0 0 (lw_Z below #[Value.ref b] s) (entryFrame m ([Value.ref b] : List Value).toArray 4) := by
  obtain ⟨D, cl, hKc⟩ := st_Kc C0.2.2.2.2.2.1
  rw [lg_entry_eq]
  exact law_in (e := e) (below := below) (l := l) hL C0 hKc s.heap [] _ (fun k q h => by simp at h) ⟨fun i j p q h => by simp at h, fun k q h => by simp at h⟩ va_S.rf (lv_entry [.ref b] (Nat.le_of_ble_eq_true rfl))
