/-! what the functions are made of -/
def chk {α : Type} (i : Int32) (n : Nat) (o : Option α) : Option α := if (0 ≤ i.toInt ∧ i.toInt < (n : Int)) then o else none
def chkb {α : Type} (v : Int32) (o : Option α) : Option α := if (v = 0 ∨ v = 1) then o else none
def lt {α : Type} (s : Sg) (f : Sg → Option α) : Option α := f s
def ob0 {α β : Type} (o : Option β) (f : β → Option α) : Option α := match o with
  | some x => f x
  | none => none
def ob1 {α : Type} (o : Option Sg) (f : Sg → Option α) : Option α := match o with
  | some x => f x
  | none => none
def ob2 {α β : Type} (o : Option (β × Sg)) (f : β → Sg → Option α) : Option α := match o with
  | some x => f x.1 x.2
  | none => none
def cp {α : Type} (sp dp n : Int32) (n0 n1 : Nat) (s : Sg) (f : Sg → Option α) : Option α := if (0 ≤ sp.toInt ∧ 0 ≤ dp.toInt ∧ 0 ≤ n.toInt ∧ sp.toInt + n.toInt ≤ (n0 : Int) ∧ dp.toInt + n.toInt ≤ (n1 : Int)) then f s else none
def FU : Nat := 1000
theorem chk_some {α : Type} {i : Int32} {n : Nat} {o : Option α} {y : α} (h : chk i n o = some y) : vp_in i n ∧ o = some y := by
  unfold chk at h
  split at h
  · rename_i c; exact ⟨vp_in_iff.mpr c, h⟩
  · cases h
theorem chkb_some {α : Type} {v : Int32} {o : Option α} {y : α} (h : chkb v o = some y) : (v = 0 ∨ v = 1) ∧ o = some y := by
  unfold chkb at h
  split at h
  · rename_i c; exact ⟨c, h⟩
  · cases h
theorem lt_some {α : Type} {s : Sg} {f : Sg → Option α} {y : α} (h : lt s f = some y) : ∃ s1, s1 = s ∧ f s1 = some y := ⟨s, rfl, h⟩
theorem ob0_some {α β : Type} {o : Option β} {f : β → Option α} {y : α} (h : ob0 o f = some y) : ∃ x, o = some x ∧ f x = some y := by
  cases o with
  | none => cases h
  | some x => exact ⟨x, rfl, h⟩
theorem ob1_some {α : Type} {o : Option Sg} {f : Sg → Option α} {y : α} (h : ob1 o f = some y) : ∃ x, o = some x ∧ f x = some y := by
  cases o with
  | none => cases h
  | some x => exact ⟨x, rfl, h⟩
theorem ob2_some {α β : Type} {o : Option (β × Sg)} {f : β → Sg → Option α} {y : α} (h : ob2 o f = some y) : ∃ x s, o = some (x, s) ∧ f x s = some y := by
  cases o with
  | none => cases h
  | some x => exact ⟨x.1, x.2, rfl, h⟩
theorem cp_some {α : Type} {sp dp n : Int32} {n0 n1 : Nat} {s : Sg} {f : Sg → Option α} {y : α} (h : cp sp dp n n0 n1 s f = some y) : cpyOk sp dp n n0 n1 ∧ ∃ s1, s1 = s ∧ f s1 = some y := by
  unfold cp at h
  split at h
  · rename_i c
    obtain ⟨c1, c2, c3, c4, c5⟩ := c
    have z : (0 : Int32).toInt = 0 := by decide
    refine ⟨⟨?_, ?_, ?_, ?_, ?_⟩, s, rfl, h⟩
    · rw [Int32.lt_iff_toInt_lt, z]; omega
    · rw [Int32.lt_iff_toInt_lt, z]; omega
    · rw [Int32.lt_iff_toInt_lt, z]; omega
    · show sp.toInt.toNat + n.toInt.toNat ≤ n0; omega
    · show dp.toInt.toNat + n.toInt.toNat ≤ n1; omega
  · cases h
theorem ite_some {α : Type} {c : Prop} [Decidable c] {a b : Option α} {y : α} (h : (if c then a else b) = some y) : (c ∧ a = some y) ∨ (¬ c ∧ b = some y) := by
  split at h
  · rename_i hc; exact Or.inl ⟨hc, h⟩
  · rename_i hc; exact Or.inr ⟨hc, h⟩
theorem rt0 {v r : Int32} (h : some v = some r) : (some (Value.int r)) = some (Value.int v) := by cases h; rfl
theorem rt1 {v r : Int32} {a b : Sg} (h : some (v, a) = some (r, b)) : (some (Value.int r)) = some (Value.int v) := by cases h; rfl
theorem rt2 {v r : Int32} {a b : Sg} (h : some (v, a) = some (r, b)) : b = a := by cases h; rfl
theorem rl0 {v r : Int64} (h : some v = some r) : (some (Value.long r)) = some (Value.long v) := by cases h; rfl
theorem rl1 {v r : Int64} {a b : Sg} (h : some (v, a) = some (r, b)) : (some (Value.long r)) = some (Value.long v) := by cases h; rfl
theorem rl2 {v r : Int64} {a b : Sg} (h : some (v, a) = some (r, b)) : b = a := by cases h; rfl
theorem rtV {a b : Sg} (h : some a = some b) : b = a := by cases h; rfl
theorem vpc {i : Int32} {n : Nat} (h : (0 ≤ i.toInt ∧ i.toInt < (n : Int))) : vp_in i n := vp_in_iff.mpr h
theorem gw_sub {E : Ev} {fr : Fr} {nL pc : Nat} {lv lv' : List (Nat × Value)} {st : List Value} {σ : Sg} (is : List Nat) (h : lv_pick lv is = lv') (k : GW E fr nL pc lv' st σ) : GW E fr nL pc lv st σ := fun H locs ls hP hS hl => k H locs ls hP hS (lv_sub hl is h)
/-! the cells' kinds -/
def Cty (b : Nat) : Prop := b = 1 ∨ b = 13 ∨ b = 25
def Psn (q : Nat) : Prop := ∃ b j, Cty b ∧ j < 8 ∧ q = b + 4 + j
def Sht (q : Nat) : Prop := q = 40 ∨ q = 41 ∨ q = 42 ∨ q = 43
theorem cty1 : Cty 1 := Or.inl rfl
theorem cty13 : Cty 13 := Or.inr (Or.inl rfl)
theorem cty25 : Cty 25 := Or.inr (Or.inr rfl)
theorem atC {b : Nat} (h : Cty b) : At b (.inl (0, [some (b + 1), some (b + 2), some (b + 3), none, none, none, none, none])) := by rcases h with rfl | rfl | rfl <;> exact ⟨by decide, rfl⟩
theorem atCl {b : Nat} (h : Cty b) : At (b + 1) (.inr (6, none)) := by rcases h with rfl | rfl | rfl <;> exact ⟨by decide, rfl⟩
theorem atCp {b : Nat} (h : Cty b) : At (b + 2) (.inr (8, some (b + 4))) := by rcases h with rfl | rfl | rfl <;> exact ⟨by decide, rfl⟩
theorem atCs {b : Nat} (h : Cty b) : At (b + 3) (.inr (10, none)) := by rcases h with rfl | rfl | rfl <;> exact ⟨by decide, rfl⟩
theorem atP {q : Nat} (h : Psn q) : At q (.inl (1, [none, none, none, none, none])) := by
  obtain ⟨b, j, hb, hj, rfl⟩ := h
  have hj8 : j = 0 ∨ j = 1 ∨ j = 2 ∨ j = 3 ∨ j = 4 ∨ j = 5 ∨ j = 6 ∨ j = 7 := by omega
  rcases hb with rfl | rfl | rfl <;> rcases hj8 with rfl | rfl | rfl | rfl | rfl | rfl | rfl | rfl <;> exact ⟨by decide, rfl⟩
theorem atS {q : Nat} (h : Sht q) : At q (.inl (3, [some (q + 4), none, none])) := by rcases h with rfl | rfl | rfl | rfl <;> exact ⟨by decide, rfl⟩
theorem atSn {q : Nat} (h : Sht q) : At (q + 4) (.inr (40, none)) := by rcases h with rfl | rfl | rfl | rfl <;> exact ⟨by decide, rfl⟩
theorem psn_of {b : Nat} {i : Int32} (hb : Cty b) (hi : vp_in i 8) : Psn (b + 4 + i.toNatClampNeg) := ⟨b, _, hb, Nat.not_le.mp fun q => hi (Or.inr q), rfl⟩
theorem sht_of {i : Int32} (hi : vp_in i 4) : Sht (40 + i.toNatClampNeg) := by
  have h : i.toNatClampNeg < 4 := Nat.not_le.mp fun q => hi (Or.inr q)
  unfold Sht
  omega
theorem at0 : At 0 (.inl (4, [some 1, some 13, some 25, some 37, some 39, some 48, none])) := ⟨by decide, rfl⟩
theorem at37 : At 37 (.inl (2, [some 38, none, none, none, none, none])) := ⟨by decide, rfl⟩
theorem at38 : At 38 (.inr (120, none)) := ⟨by decide, rfl⟩
theorem at39 : At 39 (.inr (4, some 40)) := ⟨by decide, rfl⟩
theorem at48 : At 48 (.inr (7, none)) := ⟨by decide, rfl⟩
theorem at49 : At 49 (.inl (5, [some 50, some 51, some 52, some 53, none, some 54, some 55, none, some 56, some 57, some 58, none, none, none, none, none, none, none])) := ⟨by decide, rfl⟩
theorem at50 : At 50 (.inr (60, none)) := ⟨by decide, rfl⟩
theorem at51 : At 51 (.inr (60, none)) := ⟨by decide, rfl⟩
theorem at52 : At 52 (.inr (60, none)) := ⟨by decide, rfl⟩
theorem at53 : At 53 (.inr (60, none)) := ⟨by decide, rfl⟩
theorem at54 : At 54 (.inr (8, none)) := ⟨by decide, rfl⟩
theorem at55 : At 55 (.inr (120, none)) := ⟨by decide, rfl⟩
theorem at56 : At 56 (.inr (4, none)) := ⟨by decide, rfl⟩
theorem at57 : At 57 (.inr (4, none)) := ⟨by decide, rfl⟩
theorem at58 : At 58 (.inr (160, none)) := ⟨by decide, rfl⟩
theorem cb_6 : (Int8.ofInt (6)).toInt32 = (6 : Int32) := by decide
theorem cb_7 : (Int8.ofInt (7)).toInt32 = (7 : Int32) := by decide
theorem cb_8 : (Int8.ofInt (8)).toInt32 = (8 : Int32) := by decide
theorem cb_9 : (Int8.ofInt (9)).toInt32 = (9 : Int32) := by decide
theorem cb_10 : (Int8.ofInt (10)).toInt32 = (10 : Int32) := by decide
theorem cb_15 : (Int8.ofInt (15)).toInt32 = (15 : Int32) := by decide
theorem cb_16 : (Int8.ofInt (16)).toInt32 = (16 : Int32) := by decide
theorem cb_20 : (Int8.ofInt (20)).toInt32 = (20 : Int32) := by decide
theorem cb_21 : (Int8.ofInt (21)).toInt32 = (21 : Int32) := by decide
theorem cb_32 : (Int8.ofInt (32)).toInt32 = (32 : Int32) := by decide
theorem cb_40 : (Int8.ofInt (40)).toInt32 = (40 : Int32) := by decide
theorem cb_48 : (Int8.ofInt (48)).toInt32 = (48 : Int32) := by decide
theorem cb_50 : (Int8.ofInt (50)).toInt32 = (50 : Int32) := by decide
theorem cb_57 : (Int8.ofInt (57)).toInt32 = (57 : Int32) := by decide
theorem cb_59 : (Int8.ofInt (59)).toInt32 = (59 : Int32) := by decide
theorem cb_60 : (Int8.ofInt (60)).toInt32 = (60 : Int32) := by decide
theorem cb_63 : (Int8.ofInt (63)).toInt32 = (63 : Int32) := by decide
theorem cb_97 : (Int8.ofInt (97)).toInt32 = (97 : Int32) := by decide
theorem cb_98 : (Int8.ofInt (98)).toInt32 = (98 : Int32) := by decide
theorem cb_99 : (Int8.ofInt (99)).toInt32 = (99 : Int32) := by decide
theorem cb_100 : (Int8.ofInt (100)).toInt32 = (100 : Int32) := by decide
theorem cb_101 : (Int8.ofInt (101)).toInt32 = (101 : Int32) := by decide
theorem cb_103 : (Int8.ofInt (103)).toInt32 = (103 : Int32) := by decide
theorem cb_104 : (Int8.ofInt (104)).toInt32 = (104 : Int32) := by decide
theorem cb_105 : (Int8.ofInt (105)).toInt32 = (105 : Int32) := by decide
theorem cb_107 : (Int8.ofInt (107)).toInt32 = (107 : Int32) := by decide
theorem cb_108 : (Int8.ofInt (108)).toInt32 = (108 : Int32) := by decide
theorem cb_109 : (Int8.ofInt (109)).toInt32 = (109 : Int32) := by decide
theorem cb_110 : (Int8.ofInt (110)).toInt32 = (110 : Int32) := by decide
theorem cb_111 : (Int8.ofInt (111)).toInt32 = (111 : Int32) := by decide
theorem cb_112 : (Int8.ofInt (112)).toInt32 = (112 : Int32) := by decide
theorem cb_114 : (Int8.ofInt (114)).toInt32 = (114 : Int32) := by decide
theorem cb_115 : (Int8.ofInt (115)).toInt32 = (115 : Int32) := by decide
theorem cb_116 : (Int8.ofInt (116)).toInt32 = (116 : Int32) := by decide
theorem cb_117 : (Int8.ofInt (117)).toInt32 = (117 : Int32) := by decide
theorem cb_119 : (Int8.ofInt (119)).toInt32 = (119 : Int32) := by decide
theorem cb_120 : (Int8.ofInt (120)).toInt32 = (120 : Int32) := by decide
theorem cb_121 : (Int8.ofInt (121)).toInt32 = (121 : Int32) := by decide
theorem cb_122 : (Int8.ofInt (122)).toInt32 = (122 : Int32) := by decide
theorem ci_m1 : Int32.ofInt (-1) = (-1 : Int32) := by decide
theorem ci_0 : Int32.ofInt (0) = (0 : Int32) := by decide
theorem ci_1 : Int32.ofInt (1) = (1 : Int32) := by decide
theorem ci_2 : Int32.ofInt (2) = (2 : Int32) := by decide
theorem ci_3 : Int32.ofInt (3) = (3 : Int32) := by decide
theorem ci_4 : Int32.ofInt (4) = (4 : Int32) := by decide
theorem ci_5 : Int32.ofInt (5) = (5 : Int32) := by decide
theorem cl_0 : Int64.ofNat ((0 : Fin 2) : Nat) = (0 : Int64) := by decide
theorem cl_1 : Int64.ofNat ((1 : Fin 2) : Nat) = (1 : Int64) := by decide
theorem cn_0 : (0 : Int32).toNatClampNeg = 0 := by decide
theorem cn_1 : (1 : Int32).toNatClampNeg = 1 := by decide
theorem cn_2 : (2 : Int32).toNatClampNeg = 2 := by decide
theorem cn_3 : (3 : Int32).toNatClampNeg = 3 := by decide
theorem cs_200 : (Int16.ofInt (200)).toInt32 = (200 : Int32) := by decide
theorem cs_255 : (Int16.ofInt (255)).toInt32 = (255 : Int32) := by decide
theorem cs_9999 : (Int16.ofInt (9999)).toInt32 = (9999 : Int32) := by decide
theorem cs_10000 : (Int16.ofInt (10000)).toInt32 = (10000 : Int32) := by decide
theorem cs_12345 : (Int16.ofInt (12345)).toInt32 = (12345 : Int32) := by decide
