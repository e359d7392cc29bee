/-! THE WORLD: one fixed shape of 59 cells (class 0..48, reference 49..58); a state of it is its numbers, σ cell place. -/
abbrev Sg : Type := Nat → Nat → Int32
def up2 (σ : Sg) (k i : Nat) (v : Int32) : Sg := fun a => if a = k then upd (σ k) i v else σ a
def upr (σ : Sg) (k : Nat) (r : Nat → Int32) : Sg := fun a => if a = k then r else σ a
abbrev Shp : Type := (Nat × List (Option Nat)) ⊕ (Nat × Option Nat)
def sh (k : Nat) : Shp :=
  if k = 0 then .inl (4, [some 1, some 13, some 25, some 37, some 39, some 48, none])
  else if k < 37 then
    (if (k - 1) % 12 = 0 then .inl (0, [some (k + 1), some (k + 2), some (k + 3), none, none, none, none, none])
     else if (k - 1) % 12 = 1 then .inr (6, none)
     else if (k - 1) % 12 = 2 then .inr (8, some (k + 2))
     else if (k - 1) % 12 = 3 then .inr (10, none)
     else .inl (1, [none, none, none, none, none]))
  else if k = 37 then .inl (2, [some 38, none, none, none, none, none])
  else if k = 38 then .inr (120, none)
  else if k = 39 then .inr (4, some 40)
  else if k < 44 then .inl (3, [some (k + 4), none, none])
  else if k < 48 then .inr (40, none)
  else if k = 48 then .inr (7, none)
  else if k = 49 then .inl (5, [some 50, some 51, some 52, some 53, none, some 54, some 55, none, some 56, some 57, some 58, none, none, none, none, none, none, none])
  else if k < 54 then .inr (60, none)
  else if k = 54 then .inr (8, none)
  else if k = 55 then .inr (120, none)
  else if k = 56 then .inr (4, none)
  else if k = 57 then .inr (4, none)
  else .inr (160, none)
/-- the launch, the tables' numbers, the cells' addresses, the classes of int[], Person[], Sheet[], the static ABOVE, the String constants and their rows -/
abbrev Ev : Type := Launch × va_G × (Nat → Nat) × (ClassId × ClassId × ClassId) × Nat × (Nat → Nat) × (Nat → Nat)
def eL (E : Ev) : Launch := E.1
def eD (E : Ev) : va_G := E.2.1
def eA (E : Ev) : Nat → Nat := E.2.2.1
def eI (E : Ev) : ClassId := E.2.2.2.1.1
def eP (E : Ev) : ClassId := E.2.2.2.1.2.1
def eS (E : Ev) : ClassId := E.2.2.2.1.2.2
def eT (E : Ev) : Nat := E.2.2.2.2.1
def eK (E : Ev) : Nat → Nat := E.2.2.2.2.2.1
def eV (E : Ev) : Nat → Nat := E.2.2.2.2.2.2
def eX (E : Ev) : Nat → Prop := fun q => ∃ k, k < 59 ∧ q = eA E k
def fv (ad : Nat → Nat) (r : Nat → Int32) (f : Nat) (t : Option Nat) : Value := match t with
  | none => .int (r f)
  | some j => .ref (ad j)
def cS (E : Ev) (k : Nat) (r : Nat → Int32) (sp : Shp) : va_E := match sp with
  | .inl (ci, fs) => .inr (ci, fs.mapIdx (fv (eA E) r))
  | .inr (n, none) => .inl (eI E, n, .inl r)
  | .inr (n, some b) => .inl (if k = 39 then eS E else eP E, n, .inr (.inr (.inr (.inr (fun j => some (eA E (b + j)))))))
def cE (E : Ev) (σ : Sg) (k : Nat) : va_E := cS E k (σ k) (sh k)
def wl (E : Ev) (σ : Sg) : va_W := (List.range 59).map (fun k => (eA E k, cE E σ k))
def tysE (E : Ev) : List (ClassId × FieldType) := [(eI E, .int), (eP E, .object "ScandalCounter$Person"), (eS E, .object "ScandalCounter$Sheet")]
theorem wl_at {E : Ev} {σ : Sg} {k : Nat} (hk : k < 59) : (wl E σ)[k]? = some (eA E k, cE E σ k) := by
  simp [wl, hk]
theorem wl_set {E : Ev} {σ σ' : Sg} {k : Nat} {e : va_E} (he : e = cE E σ' k) (ho : ∀ j, j ≠ k → σ' j = σ j) : (wl E σ).set k (eA E k, e) = wl E σ' := by
  subst he
  apply List.ext_getElem?
  intro j
  by_cases hj : j < 59
  · by_cases h : k = j
    · subst h
      rw [wl_at hj, List.getElem?_set_self (by simp [wl]; omega)]
    · rw [List.getElem?_set_ne h, wl_at hj, wl_at hj]
      unfold cE
      rw [ho j (Ne.symm h)]
  · rw [List.getElem?_eq_none (by simp [wl]; omega), List.getElem?_eq_none (by simp [wl]; omega)]
def eJ (E : Ev) : Prop := ∀ i j, i < 59 → j < 59 → eA E i = eA E j → i = j
theorem wl_D {E : Ev} (h : eJ E) (σ : Sg) : va_D (eX E) (wl E σ) := by
  have key : ∀ (k : Nat) (q : Nat × va_E), (wl E σ)[k]? = some q → k < 59 ∧ q = (eA E k, cE E σ k) := by
    intro k q hq
    have hk : k < 59 := by
      have := (List.getElem?_eq_some_iff.mp hq).1
      simpa [wl] using this
    rw [wl_at hk] at hq
    exact ⟨hk, (Option.some.inj hq).symm⟩
  refine ⟨fun i j p q hi hj e => ?_, fun k q hq => ?_⟩
  · obtain ⟨h1, rfl⟩ := key i p hi
    obtain ⟨h2, rfl⟩ := key j q hj
    exact h i j h1 h2 e
  · obtain ⟨h1, rfl⟩ := key k q hq
    exact ⟨k, h1, rfl⟩
/-! the words of the tables that a callee may have from its caller -/
def tG : List Cond := lw_tbl.filter goodWord
theorem tG_mem {w : Cond} (h : w ∈ lw_tbl) (hg : goodWord w = true) : w ∈ tG := List.mem_filter.mpr ⟨h, hg⟩
theorem tG_of (i : Nat) {w : Cond} (h : tables_1[i]? = some w) (hg : goodWord w = true) : w ∈ tG := tG_mem (List.mem_append_right _ (List.mem_of_getElem? h)) hg
theorem tG_pr (i : Nat) {q : MethodName × Nat} (h : lw_privs[i]? = some q) : Cond.selects q.1.cls q.1 q.1 ∈ tG :=
  tG_mem (List.mem_append_left _ (List.mem_map.mpr ⟨q, List.mem_of_getElem? h, rfl⟩)) (by first | rfl | simp [goodWord, Cond.onTables, Cond.keeps, Cond.steady])
theorem tG_good {big : List Cond} (h : ∀ w ∈ tG, w ∈ big) {c : Cond} (hc : c ∈ tG) : GoodIn big (c :: tG) := by
  intro w hw
  have hw' : w ∈ tG := by
    rcases List.mem_cons.mp hw with rfl | h1
    · exact hc
    · exact h1
  exact ⟨h w hw', good_of_word (List.mem_filter.mp hw').2⟩
/-! what is known of the machine in every method -/
def txS : Nat → String × Nat × Nat × List Int32 := fun i => match i with
  | 0 => ("said", 35, 4, [115, 97, 105, 100])
  | 1 => ("hints", 44, 5, [104, 105, 110, 116, 115])
  | 2 => ("person", 104, 6, [112, 101, 114, 115, 111, 110])
  | 3 => ("lady", 106, 4, [108, 97, 100, 121])
  | 4 => ("duke", 108, 4, [100, 117, 107, 101])
  | 5 => ("clergy", 110, 6, [99, 108, 101, 114, 103, 121])
  | 6 => ("bishop", 112, 6, [98, 105, 115, 104, 111, 112])
  | 7 => ("cowman", 114, 6, [99, 111, 119, 109, 97, 110])
  | 8 => ("young", 116, 5, [121, 111, 117, 110, 103])
  | 9 => ("build", 82, 5, [98, 117, 105, 108, 100])
  | 10 => ("owed", 88, 4, [111, 119, 101, 100])
  | _ => ("bore", 90, 4, [98, 111, 114, 101])
def lenS : List Nat := (List.range 12).map (fun i => (txS i).2.2.1)
def bytS : List (List Int32) := (List.range 12).map (fun i => (txS i).2.2.2)
def abv : List Int32 := [-1, 0, 0, 2, 3, 0, 1]
def kNw (U : State) : Prop := va_Nw (.methodLinkNest RX0 88 yX4_isIn RX4) U ∧ va_Nw (.methodLinkNest RX0 73 yX4_saying RX4) U ∧ va_Nw (.methodLinkNest RX2 61 yX4_saying RX4) U ∧ va_Nw (.methodLinkNest RX2 92 yX4_mostOf RX4) U ∧ va_Nw (.methodLinkNest RX1 40 yX4_within RX4) U ∧ va_Nw (.fieldLinkNest RX1 44 RX4 "ABOVE" "[I" RX4) U
def kSt (E : Ev) (U : State) (H : Heap) : Prop :=
  va_Z RJ0 "COMPACT_STRINGS" "Z" (.int 1) (eX E) U H ∧ va_Zq RJ3 "SIOOBE_FORMATTER" "Ljava/util/function/BiFunction;" (eX E) U H ∧ va_Z RX4 "ABOVE" "[I" (.ref (eT E)) (eX E) U H ∧ va_T .int (eT E) 7 (fun j => .int (abv.getD j 0)) (eX E) U H ∧ vk_S 12 lenS bytS (eK E) (eV E) (eX E) U H
def Kx (E : Ev) (U : State) : Prop := va_K (eD E) vwCl (tysE E) U ∧ eJ E ∧ kNw U ∧ kSt E U U.heap ∧ ∀ i, i < 12 → vk_R RX2 (txS i).2.1 (txS i).1 (eK E i) U
theorem kNw_warm {s U : State} (hW : s.WarmedH U.vm) (h : kNw s) : kNw U :=
  ⟨va_Nw.warmM hW h.1, va_Nw.warmM hW h.2.1, va_Nw.warmM hW h.2.2.1, va_Nw.warmM hW h.2.2.2.1, va_Nw.warmM hW h.2.2.2.2.1, va_Nw.warmF hW h.2.2.2.2.2⟩
theorem kNw_same {s U : State} (hv : s.vm = U.vm) (h : kNw s) : kNw U :=
  ⟨va_Nw.same rfl hv h.1, va_Nw.same rfl hv h.2.1, va_Nw.same rfl hv h.2.2.1, va_Nw.same rfl hv h.2.2.2.1, va_Nw.same rfl hv h.2.2.2.2.1, va_Nw.same rfl hv h.2.2.2.2.2⟩
theorem kSt_moved {E : Ev} {u U : State} {H : Heap} (hvm : u.vm.Alike U.vm) (h : kSt E u H) : kSt E U H :=
  ⟨h.1.moved hvm, h.2.1.moved hvm, h.2.2.1.moved hvm, h.2.2.2.1.moved hvm, h.2.2.2.2.moved hvm⟩
theorem kSt_kept {E : Ev} {U : State} {H H1 : Heap} (hq : ∀ a : Nat, a < H.size → ¬ eX E a → H1[a]? = H[a]?) (h : kSt E U H) : kSt E U H1 :=
  ⟨h.1.kept hq, h.2.1.kept hq, h.2.2.1.kept hq, h.2.2.2.1.kept hq, h.2.2.2.2.kept hq⟩
theorem Kx_warm {E : Ev} {s U : State} (hW : s.WarmedH U.vm) (hq : ∀ a : Nat, a < s.heap.size → ¬ eX E a → U.heap[a]? = s.heap[a]?) (h : Kx E s) : Kx E U :=
  ⟨va_K.moved hW.alike h.1, h.2.1, kNw_warm hW h.2.2.1, kSt_kept hq (kSt_moved hW.alike h.2.2.2.1), fun i hi => vk_R.warm hW (h.2.2.2.2 i hi)⟩
theorem Kx_call {E : Ev} {U : State} {g : JFrame} {mk : MethodId} {a : Array Value} (h : Kx E U) : Kx E (U.calling g mk a) :=
  ⟨va_K.moved (u := U) (U := U.calling g mk a) (Vm.Alike.refl U.vm) h.1, h.2.1, kNw_same (s := U) (U := U.calling g mk a) rfl h.2.2.1, kSt_moved (u := U) (U := U.calling g mk a) (H := U.heap) (Vm.Alike.refl U.vm) h.2.2.2.1, fun i hi => vk_R.same (u := U) (U := U.calling g mk a) rfl (h.2.2.2.2 i hi)⟩
/-! a frame: the machine where a method runs -/
abbrev Fr : Type := Program × Env × Room × State × MethodId × Array Value × List Frame × Method × Code × Nat × Nat × (State → Prop)
def fP (fr : Fr) : Program := fr.1
def fE (fr : Fr) : Env := fr.2.1
def fR (fr : Fr) : Room := fr.2.2.1
def fS (fr : Fr) : State := fr.2.2.2.1
def fM (fr : Fr) : MethodId := fr.2.2.2.2.1
def fA (fr : Fr) : Array Value := fr.2.2.2.2.2.1
def fB (fr : Fr) : List Frame := fr.2.2.2.2.2.2.1
def fT (fr : Fr) : Method := fr.2.2.2.2.2.2.2.1
def fC (fr : Fr) : Code := fr.2.2.2.2.2.2.2.2.1
def fc (fr : Fr) : Nat := fr.2.2.2.2.2.2.2.2.2.1
def fs (fr : Fr) : Nat := fr.2.2.2.2.2.2.2.2.2.2.1
def fQ (fr : Fr) : State → Prop := fr.2.2.2.2.2.2.2.2.2.2.2
/-- name, bytes, locals, what it returns -/
abbrev Mt : Type := MethodName × ByteArray × Nat × Option FieldType
def Cx (E : Ev) (mt : Mt) (d : Nat) (fr : Fr) : Prop :=
  (fP fr).tables.exec = Jvm.exec ∧ (fC fr).code = mt.2.1 ∧ (fC fr).maxLocals = mt.2.2.1 ∧ (fS fr).vm.findClass mt.1.cls = some (fM fr).cls ∧ (∀ w ∈ tG, w.before (fA fr) (fS fr) = true) ∧ Kx E (fS fr) ∧ d ≤ (fR fr).frames ∧ 36 * d ≤ (fR fr).locals ∧ fc fr ≤ (fR fr).cells ∧ fs fr ≤ (fR fr).slots
/-- the machine stands at pc with locals lv, stack st and the numbers σ: it comes to the frame's end -/
def GW (E : Ev) (fr : Fr) (nL pc : Nat) (lv : List (Nat × Value)) (st : List Value) (σ : Sg) : Prop :=
  ∀ (H : Heap) (locs : List Loc) (ls : Array Slot), va_P (eD E) vwCl (wl E σ) H → va_S (eX E) (fS fr).heap H locs → lv_has ls nL lv →
    W (fP fr) (eL E) (fE fr) (fR fr) (fS fr) (fM fr) (fA fr) (fB fr) (fT fr) (fC fr) H locs (fc fr) (fs fr) (fQ fr) (F0 (fM fr) pc ls st)
def rmd (d : Nat) : Room := { frames := d, cells := 0, slots := 0, locals := 36 * d }
def QcW (E : Ev) (r : Option Value) (σ' : Sg) : Array Value → State → Outcome → State → Prop := fun _ st oc t => (oc = .returned r ∧ va_P (eD E) vwCl (wl E σ') t.heap) ∧ va_F (eX E) st t
def PcW (E : Ev) (av : List Value) (σ : Sg) : Array Value → State → Prop := va_Pc av (fun U => va_P (eD E) vwCl (wl E σ) U.heap ∧ Kx E U)
/-- a method's contract: from σ with these arguments it returns r, and the numbers are σ' -/
def Con (E : Ev) (mt : Mt) (d : Nat) (av : List Value) (σ : Sg) (r : Option Value) (σ' : Sg) : Prop :=
  Met (eL E) mt.1 (.code mt.1 mt.2.1 mt.2.2.1 mt.2.2.2 :: tG) (rmd d) (PcW E av σ) (QcW E r σ') 0 0 (eX E)
def Tg (E : Ev) (fr : Fr) (ret : Option FieldType) (r : Option Value) (σ' : Sg) : Prop :=
  (fT fr).sig.returnType = ret ∧ (fT fr).locks = false ∧ fQ fr = MQ (fB fr) (QcW E r σ') (fA fr) (fS fr) (fc fr) (fs fr) (eX E)
theorem con_of {E : Ev} {mt : Mt} {d : Nat} {av : List Value} {σ σ' : Sg} {r : Option Value} (hy : plainName mt.1.cls = true) (hl : (lg_sl av).length ≤ mt.2.2.1)
    (hw : ∀ fr : Fr, Cx E mt d fr → Tg E fr mt.2.2.2 r σ' → GW E fr mt.2.2.1 0 (lv_args 0 av) [] σ) : Con E mt d av σ r σ' := by
  refine Met.ofW (cc := mt.2.1) (maxL := mt.2.2.1) (ret := mt.2.2.2) hy rfl ?_
  intro p e s m args below meth c s₁ B hml hv
  obtain ⟨rfl, hP, hK⟩ := hv
  have hts := atoms_spec (ws := Cond.code mt.1 mt.2.1 mt.2.2.1 mt.2.2.2 :: tG) B.pre
  have hown : s.vm.findClass mt.1.cls = some m.cls := findClass_of_methodNamed B.named
  have cx : Cx E mt d (p, e, (headSpec (Cond.code mt.1 mt.2.1 mt.2.2.1 mt.2.2.2 :: tG) (rmd d)).room, s, m, av.toArray, below, meth, c, 0, 0, MQ below (QcW E r σ') av.toArray s 0 0 (eX E)) :=
    ⟨B.exec, B.bytes, hml, hown, fun w hw => hts w (List.mem_cons_of_mem _ hw), hK, Nat.le_refl d, Nat.le_refl _, Nat.zero_le _, Nat.zero_le _⟩
  have tg : Tg E (p, e, (headSpec (Cond.code mt.1 mt.2.1 mt.2.2.1 mt.2.2.2 :: tG) (rmd d)).room, s, m, av.toArray, below, meth, c, 0, 0, MQ below (QcW E r σ') av.toArray s 0 0 (eX E)) mt.2.2.2 r σ' :=
    ⟨B.returns, B.notSynchronized, rfl⟩
  rw [lg_entry_eq]
  exact hw _ cx tg s.heap [] _ hP va_S.rf (lv_entry av hl)
