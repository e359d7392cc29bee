def f_X0_become_L32 (ra0 : Nat) (ra1 : Nat) : Nat → Int32 → Sg → Option (Sg)
  | 0, _, _ => none
  | n + 1, y2, σ =>
    if (σ ra1 3) ≤ y2 then
      lt (up2 σ ra0 3 (σ ra1 3)) fun s8 =>
      lt (up2 s8 ra0 4 (s8 ra1 4)) fun s10 =>
      lt (up2 s10 ra0 5 (s10 ra1 5)) fun s12 =>
      lt (up2 s12 ra0 6 (s12 ra1 6)) fun s14 =>
      lt (up2 s14 ra0 7 (s14 ra1 7)) fun s16 =>
      some s16
    else
      chk y2 8 <|
      ob1 (f_X1_become (ra0 + 4 + y2.toNatClampNeg) (ra1 + 4 + y2.toNatClampNeg) σ) fun s20 =>
      f_X0_become_L32 ra0 ra1 n (y2 + 1) s20
theorem w_X0_become_L32 {E : Ev} {fr : Fr} {σ' : Sg} (cx : Cx E mX0_become 1 fr) (tg : Tg E fr none none σ') (ra0 : Nat) (ra1 : Nat) (hra0 : Cty ra0) (hra1 : Cty ra1) : ∀ (n : Nat) (y2 : Int32) (σ : Sg), f_X0_become_L32 ra0 ra1 n y2 σ = some σ' → GW E fr 3 32 [(0, .ref (eA E ra0)), (1, .ref (eA E ra1)), (2, .int y2)] [] σ := by
  intro n
  induction n with
  | zero => intro y2 σ h; cases (show (none : Option (Sg)) = _ from h)
  | succ n ih =>
    intro y2 σ h
    rw [f_X0_become_L32] at h
    refine gw_iload_n (pc' := 33) cx 2 rfl rfl dX0_become_32 rfl ?_
    refine gw_aload_n (pc' := 34) cx 1 rfl rfl dX0_become_33 rfl ?_
    refine gw_getI (pc' := 37) cx (atC hra1) rfl fl_X0_35 dX0_become_34 rfl ?_
    rcases ite_some h with ⟨c7, h⟩ | ⟨c7, h⟩
    · refine gw_ic_ge_t (pc' := 61) cx c7 dX0_become_37 (by decide) ?_
      refine gw_aload_n (pc' := 62) cx 0 rfl rfl dX0_become_61 rfl ?_
      refine gw_aload_n (pc' := 63) cx 1 rfl rfl dX0_become_62 rfl ?_
      refine gw_getI (pc' := 66) cx (atC hra1) rfl fl_X0_35 dX0_become_63 rfl ?_
      obtain ⟨s8, e9, h⟩ := lt_some h
      refine gw_put (pc' := 69) cx (atC hra0) rfl fp_X0_35 ⟨rfl, rfl⟩ dX0_become_66 rfl e9 ?_
      refine gw_aload_n (pc' := 70) cx 0 rfl rfl dX0_become_69 rfl ?_
      refine gw_aload_n (pc' := 71) cx 1 rfl rfl dX0_become_70 rfl ?_
      refine gw_getI (pc' := 74) cx (atC hra1) rfl fl_X0_42 dX0_become_71 rfl ?_
      obtain ⟨s10, e11, h⟩ := lt_some h
      refine gw_put (pc' := 77) cx (atC hra0) rfl fp_X0_42 ⟨rfl, rfl⟩ dX0_become_74 rfl e11 ?_
      refine gw_aload_n (pc' := 78) cx 0 rfl rfl dX0_become_77 rfl ?_
      refine gw_aload_n (pc' := 79) cx 1 rfl rfl dX0_become_78 rfl ?_
      refine gw_getI (pc' := 82) cx (atC hra1) rfl fl_X0_45 dX0_become_79 rfl ?_
      obtain ⟨s12, e13, h⟩ := lt_some h
      refine gw_put (pc' := 85) cx (atC hra0) rfl fp_X0_45 ⟨rfl, rfl⟩ dX0_become_82 rfl e13 ?_
      refine gw_aload_n (pc' := 86) cx 0 rfl rfl dX0_become_85 rfl ?_
      refine gw_aload_n (pc' := 87) cx 1 rfl rfl dX0_become_86 rfl ?_
      refine gw_getI (pc' := 90) cx (atC hra1) rfl fl_X0_25 dX0_become_87 rfl ?_
      obtain ⟨s14, e15, h⟩ := lt_some h
      refine gw_put (pc' := 93) cx (atC hra0) rfl fp_X0_25 ⟨rfl, rfl⟩ dX0_become_90 rfl e15 ?_
      refine gw_aload_n (pc' := 94) cx 0 rfl rfl dX0_become_93 rfl ?_
      refine gw_aload_n (pc' := 95) cx 1 rfl rfl dX0_become_94 rfl ?_
      refine gw_getI (pc' := 98) cx (atC hra1) rfl fl_X0_48 dX0_become_95 rfl ?_
      obtain ⟨s16, e17, h⟩ := lt_some h
      refine gw_put (pc' := 101) cx (atC hra0) rfl fp_X0_48 ⟨rfl, rfl⟩ dX0_become_98 rfl e17 ?_
      exact gw_vret cx tg rfl (rtV h) dX0_become_101
    · refine gw_ic_ge_f (pc' := 40) cx c7 dX0_become_37 ⟨61, by decide⟩ rfl ?_
      refine gw_aload_n (pc' := 41) cx 0 rfl rfl dX0_become_40 rfl ?_
      refine gw_getR (pc' := 44) cx (atC hra0) rfl fl_X0_17 dX0_become_41 rfl ?_
      refine gw_iload_n (pc' := 45) cx 2 rfl rfl dX0_become_44 rfl ?_
      obtain ⟨i18, h⟩ := chk_some h
      refine gw_aald (pc' := 46) cx (atCp hra0) i18 dX0_become_45 rfl ?_
      refine gw_aload_n (pc' := 47) cx 1 rfl rfl dX0_become_46 rfl ?_
      refine gw_getR (pc' := 50) cx (atC hra1) rfl fl_X0_17 dX0_become_47 rfl ?_
      refine gw_iload_n (pc' := 51) cx 2 rfl rfl dX0_become_50 rfl ?_
      refine gw_aald (pc' := 52) cx (atCp hra1) i18 dX0_become_51 rfl ?_
      obtain ⟨s20, g19, h⟩ := ob1_some h
      refine gw_cV (pc' := 55) (av := [.ref (eA E (ra1 + 4 + y2.toNatClampNeg))]) (rest := []) cx (k_X1_become E (psn_of hra0 i18) (psn_of hra1 i18) g19) (atP (psn_of hra0 i18)) (by decide) lk_X0_38 dX0_become_52 rfl (Nat.le_of_ble_eq_true rfl) rfl ?_
      show GW E fr _ 55 _ [] _
      refine gw_iinc (pc' := 58) (v := (y2 + 1)) (lv' := [(2, .int (y2 + 1)), (0, .ref (eA E ra0)), (1, .ref (eA E ra1))]) cx 2 rfl rfl rfl (by decide) dX0_become_55 rfl ?_
      refine gw_goto (pc' := 32) cx dX0_become_58 (by decide) ?_
      refine gw_sub [1, 2, 0] (lv' := [(0, .ref (eA E ra0)), (1, .ref (eA E ra1)), (2, .int (y2 + 1))]) rfl ?_
      exact ih (y2 + 1) s20 h
def f_X0_become (b : Nat) (x1 : Nat) (σ : Sg) : Option (Sg) :=
  cp 0 0 6 6 6 (cpyR σ (x1 + 1) (b + 1) 0 0 6) fun s2 =>
  cp 0 0 10 10 10 (cpyR s2 (x1 + 3) (b + 3) 0 0 10) fun s5 =>
  f_X0_become_L32 b x1 FU 0 s5
theorem k_X0_become (E : Ev) {b : Nat} {x1 : Nat} (hb : Cty b) (hx1 : Cty x1) {σ : Sg} {σ' : Sg} (h : f_X0_become b x1 σ = some σ') : Con E mX0_become 1 [.ref (eA E b), .ref (eA E x1)] σ none σ' := by
  refine con_of (by decide) (Nat.le_of_ble_eq_true rfl) (fun fr cx tg => ?_)
  show GW E fr 3 0 [(0, .ref (eA E b)), (1, .ref (eA E x1))] [] σ
  rw [f_X0_become] at h
  refine gw_aload_n (pc' := 1) cx 1 rfl rfl dX0_become_0 rfl ?_
  refine gw_getR (pc' := 4) cx (atC hx1) rfl fl_X0_9 dX0_become_1 rfl ?_
  refine gw_iconst (pc' := 5) (v := 0) cx ci_0 dX0_become_4 rfl ?_
  refine gw_aload_n (pc' := 6) cx 0 rfl rfl dX0_become_5 rfl ?_
  refine gw_getR (pc' := 9) cx (atC hb) rfl fl_X0_9 dX0_become_6 rfl ?_
  refine gw_iconst (pc' := 10) (v := 0) cx ci_0 dX0_become_9 rfl ?_
  refine gw_bipush (pc' := 12) (v := 6) cx cb_6 dX0_become_10 rfl ?_
  obtain ⟨o1, s2, e3, h⟩ := cp_some h
  refine gw_copy (pc' := 15) cx (atCl hx1) (atCl hb) lk_X0_29 o1 (by decide) (Nat.le_of_ble_eq_true rfl) dX0_become_12 rfl e3 ?_
  refine gw_aload_n (pc' := 16) cx 1 rfl rfl dX0_become_15 rfl ?_
  refine gw_getR (pc' := 19) cx (atC hx1) rfl fl_X0_22 dX0_become_16 rfl ?_
  refine gw_iconst (pc' := 20) (v := 0) cx ci_0 dX0_become_19 rfl ?_
  refine gw_aload_n (pc' := 21) cx 0 rfl rfl dX0_become_20 rfl ?_
  refine gw_getR (pc' := 24) cx (atC hb) rfl fl_X0_22 dX0_become_21 rfl ?_
  refine gw_iconst (pc' := 25) (v := 0) cx ci_0 dX0_become_24 rfl ?_
  refine gw_bipush (pc' := 27) (v := 10) cx cb_10 dX0_become_25 rfl ?_
  obtain ⟨o4, s5, e6, h⟩ := cp_some h
  refine gw_copy (pc' := 30) cx (atCs hx1) (atCs hb) lk_X0_29 o4 (by decide) (Nat.le_of_ble_eq_true rfl) dX0_become_27 rfl e6 ?_
  refine gw_iconst (pc' := 31) (v := 0) cx ci_0 dX0_become_30 rfl ?_
  refine gw_istore_n (pc' := 32) (lv' := [(2, .int 0), (0, .ref (eA E b)), (1, .ref (eA E x1))]) cx rfl rfl (by decide) dX0_become_31 rfl ?_
  refine gw_sub [1, 2, 0] (lv' := [(0, .ref (eA E b)), (1, .ref (eA E x1)), (2, .int 0)]) rfl ?_
  exact w_X0_become_L32 cx tg b x1 hb hx1 FU 0 s5 h
def f_X0_has (b : Nat) (x1 : Int32) (σ : Sg) : Option (Int32) :=
  if x1 < 0 then
    some 0
  else
    if (σ b 3) ≤ x1 then
      some 0
    else
      some 1
theorem k_X0_has (E : Ev) {b : Nat} {x1 : Int32} (hb : Cty b) {σ : Sg} {r : Int32} (h : f_X0_has b x1 σ = some r) : Con E mX0_has 0 [.ref (eA E b), .int x1] σ (some (.int r)) σ := by
  refine con_of (by decide) (Nat.le_of_ble_eq_true rfl) (fun fr cx tg => ?_)
  show GW E fr 2 0 [(0, .ref (eA E b)), (1, .int x1)] [] σ
  rw [f_X0_has] at h
  refine gw_iload_n (pc' := 1) cx 1 rfl rfl dX0_has_0 rfl ?_
  rcases ite_some h with ⟨c1, h⟩ | ⟨c1, h⟩
  · refine gw_if_lt_t (pc' := 16) cx c1 dX0_has_1 (by decide) ?_
    refine gw_iconst (pc' := 17) (v := 0) cx ci_0 dX0_has_16 rfl ?_
    exact gw_zret cx tg (Or.inl rfl) (rt0 h) rfl dX0_has_17
  · refine gw_if_lt_f (pc' := 4) cx c1 dX0_has_1 ⟨16, by decide⟩ rfl ?_
    refine gw_iload_n (pc' := 5) cx 1 rfl rfl dX0_has_4 rfl ?_
    refine gw_aload_n (pc' := 6) cx 0 rfl rfl dX0_has_5 rfl ?_
    refine gw_getI (pc' := 9) cx (atC hb) rfl fl_X0_35 dX0_has_6 rfl ?_
    rcases ite_some h with ⟨c2, h⟩ | ⟨c2, h⟩
    · refine gw_ic_ge_t (pc' := 16) cx c2 dX0_has_9 (by decide) ?_
      refine gw_iconst (pc' := 17) (v := 0) cx ci_0 dX0_has_16 rfl ?_
      exact gw_zret cx tg (Or.inl rfl) (rt0 h) rfl dX0_has_17
    · refine gw_ic_ge_f (pc' := 12) cx c2 dX0_has_9 ⟨16, by decide⟩ rfl ?_
      refine gw_iconst (pc' := 13) (v := 1) cx ci_1 dX0_has_12 rfl ?_
      refine gw_goto (pc' := 17) cx dX0_has_13 (by decide) ?_
      exact gw_zret cx tg (Or.inr rfl) (rt0 h) rfl dX0_has_17
def f_X0_add (b : Nat) (x1 : Int32) (x2 : Int32) (σ : Sg) : Option (Int32 × Sg) :=
  if (σ b 3) < 8 then
    chk (σ b 3) 8 <|
    ob1 (f_X1_begin (b + 4 + (σ b 3).toNatClampNeg) x1 x2 σ) fun s4 =>
    lt (up2 s4 b 3 ((s4 b 3) + 1)) fun s5 =>
    some (((s5 b 3) - 1), s5)
  else
    some ((-1), σ)
theorem k_X0_add (E : Ev) {b : Nat} {x1 : Int32} {x2 : Int32} (hb : Cty b) {σ : Sg} {r : Int32} {σ' : Sg} (h : f_X0_add b x1 x2 σ = some (r, σ')) : Con E mX0_add 1 [.ref (eA E b), .int x1, .int x2] σ (some (.int r)) σ' := by
  refine con_of (by decide) (Nat.le_of_ble_eq_true rfl) (fun fr cx tg => ?_)
  show GW E fr 3 0 [(0, .ref (eA E b)), (1, .int x1), (2, .int x2)] [] σ
  rw [f_X0_add] at h
  refine gw_aload_n (pc' := 1) cx 0 rfl rfl dX0_add_0 rfl ?_
  refine gw_getI (pc' := 4) cx (atC hb) rfl fl_X0_35 dX0_add_1 rfl ?_
  refine gw_bipush (pc' := 6) (v := 8) cx cb_8 dX0_add_4 rfl ?_
  rcases ite_some h with ⟨c1, h⟩ | ⟨c1, h⟩
  · refine gw_ic_lt_t (pc' := 11) cx c1 dX0_add_6 (by decide) ?_
    refine gw_aload_n (pc' := 12) cx 0 rfl rfl dX0_add_11 rfl ?_
    refine gw_getR (pc' := 15) cx (atC hb) rfl fl_X0_17 dX0_add_12 rfl ?_
    refine gw_aload_n (pc' := 16) cx 0 rfl rfl dX0_add_15 rfl ?_
    refine gw_getI (pc' := 19) cx (atC hb) rfl fl_X0_35 dX0_add_16 rfl ?_
    obtain ⟨i2, h⟩ := chk_some h
    refine gw_aald (pc' := 20) cx (atCp hb) i2 dX0_add_19 rfl ?_
    refine gw_iload_n (pc' := 21) cx 1 rfl rfl dX0_add_20 rfl ?_
    refine gw_iload_n (pc' := 22) cx 2 rfl rfl dX0_add_21 rfl ?_
    obtain ⟨s4, g3, h⟩ := ob1_some h
    refine gw_cV (pc' := 25) (av := [.int x1, .int x2]) (rest := []) cx (k_X1_begin E (psn_of hb i2) g3) (atP (psn_of hb i2)) (by decide) lk_X0_51 dX0_add_22 rfl (Nat.le_of_ble_eq_true rfl) rfl ?_
    show GW E fr _ 25 _ [] _
    refine gw_aload_n (pc' := 26) cx 0 rfl rfl dX0_add_25 rfl ?_
    refine gw_dup (pc' := 27) cx rfl dX0_add_26 rfl ?_
    refine gw_getI (pc' := 30) cx (atC hb) rfl fl_X0_35 dX0_add_27 rfl ?_
    refine gw_iconst (pc' := 31) (v := 1) cx ci_1 dX0_add_30 rfl ?_
    refine gw_iadd (pc' := 32) cx dX0_add_31 rfl ?_
    obtain ⟨s5, e6, h⟩ := lt_some h
    refine gw_put (pc' := 35) cx (atC hb) rfl fp_X0_35 ⟨rfl, rfl⟩ dX0_add_32 rfl e6 ?_
    refine gw_aload_n (pc' := 36) cx 0 rfl rfl dX0_add_35 rfl ?_
    refine gw_getI (pc' := 39) cx (atC hb) rfl fl_X0_35 dX0_add_36 rfl ?_
    refine gw_iconst (pc' := 40) (v := 1) cx ci_1 dX0_add_39 rfl ?_
    refine gw_isub (pc' := 41) cx dX0_add_40 rfl ?_
    exact gw_iret cx tg (rt1 h) (rt2 h) dX0_add_41
  · refine gw_ic_lt_f (pc' := 9) cx c1 dX0_add_6 ⟨11, by decide⟩ rfl ?_
    refine gw_iconst (pc' := 10) (v := (-1)) cx ci_m1 dX0_add_9 rfl ?_
    exact gw_iret cx tg (rt1 h) (rt2 h) dX0_add_10
def f_X0_sumOf_L4 (ra0 : Nat) (y1 : Int32) : Nat → Int32 → Int32 → Sg → Option (Int32)
  | 0, _, _, _ => none
  | n + 1, y2, y3, σ =>
    if (σ ra0 3) ≤ y3 then
      some y2
    else
      chk y3 8 <|
      ob0 (f_X1_attribute (ra0 + 4 + y3.toNatClampNeg) y1 σ) fun r4 =>
      f_X0_sumOf_L4 ra0 y1 n (y2 + r4) (y3 + 1) σ
theorem w_X0_sumOf_L4 {E : Ev} {fr : Fr} {r : Int32} {σ0 : Sg} (cx : Cx E mX0_sumOf 1 fr) (tg : Tg E fr (some .int) (some (.int r)) σ0) (ra0 : Nat) (y1 : Int32) (hra0 : Cty ra0) : ∀ (n : Nat) (y2 : Int32) (y3 : Int32) (σ : Sg), σ = σ0 → f_X0_sumOf_L4 ra0 y1 n y2 y3 σ = some r → GW E fr 4 4 [(0, .ref (eA E ra0)), (1, .int y1), (2, .int y2), (3, .int y3)] [] σ := by
  intro n
  induction n with
  | zero => intro y2 y3 σ hs h; cases (show (none : Option (Int32)) = _ from h)
  | succ n ih =>
    intro y2 y3 σ hs h
    rw [f_X0_sumOf_L4] at h
    subst hs
    refine gw_iload_n (pc' := 5) cx 3 rfl rfl dX0_sumOf_4 rfl ?_
    refine gw_aload_n (pc' := 6) cx 0 rfl rfl dX0_sumOf_5 rfl ?_
    refine gw_getI (pc' := 9) cx (atC hra0) rfl fl_X0_35 dX0_sumOf_6 rfl ?_
    rcases ite_some h with ⟨c1, h⟩ | ⟨c1, h⟩
    · refine gw_ic_ge_t (pc' := 31) cx c1 dX0_sumOf_9 (by decide) ?_
      refine gw_iload_n (pc' := 32) cx 2 rfl rfl dX0_sumOf_31 rfl ?_
      exact gw_iret cx tg (rt0 h) rfl dX0_sumOf_32
    · refine gw_ic_ge_f (pc' := 12) cx c1 dX0_sumOf_9 ⟨31, by decide⟩ rfl ?_
      refine gw_iload_n (pc' := 13) cx 2 rfl rfl dX0_sumOf_12 rfl ?_
      refine gw_aload_n (pc' := 14) cx 0 rfl rfl dX0_sumOf_13 rfl ?_
      refine gw_getR (pc' := 17) cx (atC hra0) rfl fl_X0_17 dX0_sumOf_14 rfl ?_
      refine gw_iload_n (pc' := 18) cx 3 rfl rfl dX0_sumOf_17 rfl ?_
      obtain ⟨i2, h⟩ := chk_some h
      refine gw_aald (pc' := 19) cx (atCp hra0) i2 dX0_sumOf_18 rfl ?_
      refine gw_iload_n (pc' := 20) cx 1 rfl rfl dX0_sumOf_19 rfl ?_
      obtain ⟨r4, g3, h⟩ := ob0_some h
      refine gw_cV (pc' := 23) (av := [.int y1]) (rest := [.int y2]) cx (k_X1_attribute E (psn_of hra0 i2) g3) (atP (psn_of hra0 i2)) (by decide) lk_X0_55 dX0_sumOf_20 rfl (Nat.le_of_ble_eq_true rfl) rfl ?_
      show GW E fr _ 23 _ (.int r4 :: _) _
      refine gw_iadd (pc' := 24) cx dX0_sumOf_23 rfl ?_
      refine gw_istore_n (pc' := 25) (lv' := [(2, .int (y2 + r4)), (0, .ref (eA E ra0)), (1, .int y1), (3, .int y3)]) cx rfl rfl (by decide) dX0_sumOf_24 rfl ?_
      refine gw_iinc (pc' := 28) (v := (y3 + 1)) (lv' := [(3, .int (y3 + 1)), (2, .int (y2 + r4)), (0, .ref (eA E ra0)), (1, .int y1)]) cx 3 rfl rfl rfl (by decide) dX0_sumOf_25 rfl ?_
      refine gw_goto (pc' := 4) cx dX0_sumOf_28 (by decide) ?_
      refine gw_sub [2, 3, 1, 0] (lv' := [(0, .ref (eA E ra0)), (1, .int y1), (2, .int (y2 + r4)), (3, .int (y3 + 1))]) rfl ?_
      exact ih (y2 + r4) (y3 + 1) σ rfl h
def f_X0_sumOf (b : Nat) (x1 : Int32) (σ : Sg) : Option (Int32) :=
  f_X0_sumOf_L4 b x1 FU 0 0 σ
theorem k_X0_sumOf (E : Ev) {b : Nat} {x1 : Int32} (hb : Cty b) {σ : Sg} {r : Int32} (h : f_X0_sumOf b x1 σ = some r) : Con E mX0_sumOf 1 [.ref (eA E b), .int x1] σ (some (.int r)) σ := by
  refine con_of (by decide) (Nat.le_of_ble_eq_true rfl) (fun fr cx tg => ?_)
  show GW E fr 4 0 [(0, .ref (eA E b)), (1, .int x1)] [] σ
  rw [f_X0_sumOf] at h
  refine gw_iconst (pc' := 1) (v := 0) cx ci_0 dX0_sumOf_0 rfl ?_
  refine gw_istore_n (pc' := 2) (lv' := [(2, .int 0), (0, .ref (eA E b)), (1, .int x1)]) cx rfl rfl (by decide) dX0_sumOf_1 rfl ?_
  refine gw_iconst (pc' := 3) (v := 0) cx ci_0 dX0_sumOf_2 rfl ?_
  refine gw_istore_n (pc' := 4) (lv' := [(3, .int 0), (2, .int 0), (0, .ref (eA E b)), (1, .int x1)]) cx rfl rfl (by decide) dX0_sumOf_3 rfl ?_
  refine gw_sub [2, 3, 1, 0] (lv' := [(0, .ref (eA E b)), (1, .int x1), (2, .int 0), (3, .int 0)]) rfl ?_
  exact w_X0_sumOf_L4 cx tg b x1 hb FU 0 0 σ rfl h
def f_X0_owedSet_L4 (ra0 : Nat) : Nat → Int32 → Int32 → Sg → Option (Int32)
  | 0, _, _, _ => none
  | n + 1, y1, y2, σ =>
    if (σ ra0 3) ≤ y2 then
      some y1
    else
      chk y2 8 <|
      if (σ (ra0 + 4 + y2.toNatClampNeg) 1) ≤ 0 then
        f_X0_owedSet_L4 ra0 n y1 (y2 + 1) σ
      else
        f_X0_owedSet_L4 ra0 n (y1 ||| (jshl 1 y2)) (y2 + 1) σ
theorem w_X0_owedSet_L4 {E : Ev} {fr : Fr} {r : Int32} {σ0 : Sg} (cx : Cx E mX0_owedSet 0 fr) (tg : Tg E fr (some .int) (some (.int r)) σ0) (ra0 : Nat) (hra0 : Cty ra0) : ∀ (n : Nat) (y1 : Int32) (y2 : Int32) (σ : Sg), σ = σ0 → f_X0_owedSet_L4 ra0 n y1 y2 σ = some r → GW E fr 3 4 [(0, .ref (eA E ra0)), (1, .int y1), (2, .int y2)] [] σ := by
  intro n
  induction n with
  | zero => intro y1 y2 σ hs h; cases (show (none : Option (Int32)) = _ from h)
  | succ n ih =>
    intro y1 y2 σ hs h
    rw [f_X0_owedSet_L4] at h
    subst hs
    refine gw_iload_n (pc' := 5) cx 2 rfl rfl dX0_owedSet_4 rfl ?_
    refine gw_aload_n (pc' := 6) cx 0 rfl rfl dX0_owedSet_5 rfl ?_
    refine gw_getI (pc' := 9) cx (atC hra0) rfl fl_X0_35 dX0_owedSet_6 rfl ?_
    rcases ite_some h with ⟨c1, h⟩ | ⟨c1, h⟩
    · refine gw_ic_ge_t (pc' := 36) cx c1 dX0_owedSet_9 (by decide) ?_
      refine gw_iload_n (pc' := 37) cx 1 rfl rfl dX0_owedSet_36 rfl ?_
      exact gw_iret cx tg (rt0 h) rfl dX0_owedSet_37
    · refine gw_ic_ge_f (pc' := 12) cx c1 dX0_owedSet_9 ⟨36, by decide⟩ rfl ?_
      refine gw_aload_n (pc' := 13) cx 0 rfl rfl dX0_owedSet_12 rfl ?_
      refine gw_getR (pc' := 16) cx (atC hra0) rfl fl_X0_17 dX0_owedSet_13 rfl ?_
      refine gw_iload_n (pc' := 17) cx 2 rfl rfl dX0_owedSet_16 rfl ?_
      obtain ⟨i2, h⟩ := chk_some h
      refine gw_aald (pc' := 18) cx (atCp hra0) i2 dX0_owedSet_17 rfl ?_
      refine gw_getI (pc' := 21) cx (atP (psn_of hra0 i2)) rfl fl_X0_59 dX0_owedSet_18 rfl ?_
      rcases ite_some h with ⟨c3, h⟩ | ⟨c3, h⟩
      · refine gw_if_le_t (pc' := 30) cx c3 dX0_owedSet_21 (by decide) ?_
        refine gw_iinc (pc' := 33) (v := (y2 + 1)) (lv' := [(2, .int (y2 + 1)), (0, .ref (eA E ra0)), (1, .int y1)]) cx 2 rfl rfl rfl (by decide) dX0_owedSet_30 rfl ?_
        refine gw_goto (pc' := 4) cx dX0_owedSet_33 (by decide) ?_
        refine gw_sub [1, 2, 0] (lv' := [(0, .ref (eA E ra0)), (1, .int y1), (2, .int (y2 + 1))]) rfl ?_
        exact ih y1 (y2 + 1) σ rfl h
      · refine gw_if_le_f (pc' := 24) cx c3 dX0_owedSet_21 ⟨30, by decide⟩ rfl ?_
        refine gw_iload_n (pc' := 25) cx 1 rfl rfl dX0_owedSet_24 rfl ?_
        refine gw_iconst (pc' := 26) (v := 1) cx ci_1 dX0_owedSet_25 rfl ?_
        refine gw_iload_n (pc' := 27) cx 2 rfl rfl dX0_owedSet_26 rfl ?_
        refine gw_ishl (pc' := 28) cx dX0_owedSet_27 rfl ?_
        refine gw_ior (pc' := 29) cx dX0_owedSet_28 rfl ?_
        refine gw_istore_n (pc' := 30) (lv' := [(1, .int (y1 ||| (jshl 1 y2))), (0, .ref (eA E ra0)), (2, .int y2)]) cx rfl rfl (by decide) dX0_owedSet_29 rfl ?_
        refine gw_iinc (pc' := 33) (v := (y2 + 1)) (lv' := [(2, .int (y2 + 1)), (1, .int (y1 ||| (jshl 1 y2))), (0, .ref (eA E ra0))]) cx 2 rfl rfl rfl (by decide) dX0_owedSet_30 rfl ?_
        refine gw_goto (pc' := 4) cx dX0_owedSet_33 (by decide) ?_
        refine gw_sub [2, 1, 0] (lv' := [(0, .ref (eA E ra0)), (1, .int (y1 ||| (jshl 1 y2))), (2, .int (y2 + 1))]) rfl ?_
        exact ih (y1 ||| (jshl 1 y2)) (y2 + 1) σ rfl h
def f_X0_owedSet (b : Nat) (σ : Sg) : Option (Int32) :=
  f_X0_owedSet_L4 b FU 0 0 σ
theorem k_X0_owedSet (E : Ev) {b : Nat} (hb : Cty b) {σ : Sg} {r : Int32} (h : f_X0_owedSet b σ = some r) : Con E mX0_owedSet 0 [.ref (eA E b)] σ (some (.int r)) σ := by
  refine con_of (by decide) (Nat.le_of_ble_eq_true rfl) (fun fr cx tg => ?_)
  show GW E fr 3 0 [(0, .ref (eA E b))] [] σ
  rw [f_X0_owedSet] at h
  refine gw_iconst (pc' := 1) (v := 0) cx ci_0 dX0_owedSet_0 rfl ?_
  refine gw_istore_n (pc' := 2) (lv' := [(1, .int 0), (0, .ref (eA E b))]) cx rfl rfl (by decide) dX0_owedSet_1 rfl ?_
  refine gw_iconst (pc' := 3) (v := 0) cx ci_0 dX0_owedSet_2 rfl ?_
  refine gw_istore_n (pc' := 4) (lv' := [(2, .int 0), (1, .int 0), (0, .ref (eA E b))]) cx rfl rfl (by decide) dX0_owedSet_3 rfl ?_
  refine gw_sub [2, 1, 0] (lv' := [(0, .ref (eA E b)), (1, .int 0), (2, .int 0)]) rfl ?_
  exact w_X0_owedSet_L4 cx tg b hb FU 0 0 σ rfl h
def f_X0_isEven (b : Nat) (σ : Sg) : Option (Int32) :=
  ob0 (f_X0_owedSet b σ) fun r2 =>
  if r2 = 0 then
    some 1
  else
    some 0
theorem k_X0_isEven (E : Ev) {b : Nat} (hb : Cty b) {σ : Sg} {r : Int32} (h : f_X0_isEven b σ = some r) : Con E mX0_isEven 1 [.ref (eA E b)] σ (some (.int r)) σ := by
  refine con_of (by decide) (Nat.le_of_ble_eq_true rfl) (fun fr cx tg => ?_)
  show GW E fr 1 0 [(0, .ref (eA E b))] [] σ
  rw [f_X0_isEven] at h
  refine gw_aload_n (pc' := 1) cx 0 rfl rfl dX0_isEven_0 rfl ?_
  obtain ⟨r2, g1, h⟩ := ob0_some h
  refine gw_cV (pc' := 4) (av := []) (rest := []) cx (k_X0_owedSet E hb g1) (atC hb) (by decide) lk_X0_62 dX0_isEven_1 rfl (Nat.le_of_ble_eq_true rfl) rfl ?_
  show GW E fr _ 4 _ (.int r2 :: _) _
  rcases ite_some h with ⟨c3, h⟩ | ⟨c3, h⟩
  · refine gw_if_ne_f (pc' := 7) cx c3 dX0_isEven_4 ⟨11, by decide⟩ rfl ?_
    refine gw_iconst (pc' := 8) (v := 1) cx ci_1 dX0_isEven_7 rfl ?_
    refine gw_goto (pc' := 12) cx dX0_isEven_8 (by decide) ?_
    exact gw_zret cx tg (Or.inr rfl) (rt0 h) rfl dX0_isEven_12
  · refine gw_if_ne_t (pc' := 11) cx c3 dX0_isEven_4 (by decide) ?_
    refine gw_iconst (pc' := 12) (v := 0) cx ci_0 dX0_isEven_11 rfl ?_
    exact gw_zret cx tg (Or.inl rfl) (rt0 h) rfl dX0_isEven_12
def f_X0_withRoom_L4 (ra0 : Nat) : Nat → Int32 → Int32 → Sg → Option (Int32)
  | 0, _, _, _ => none
  | n + 1, y1, y2, σ =>
    if (σ ra0 3) ≤ y2 then
      some y1
    else
      chk y2 8 <|
      ob0 (f_X1_room (ra0 + 4 + y2.toNatClampNeg) σ) fun r4 =>
      if r4 ≤ 0 then
        f_X0_withRoom_L4 ra0 n y1 (y2 + 1) σ
      else
        f_X0_withRoom_L4 ra0 n (y1 + 1) (y2 + 1) σ
theorem w_X0_withRoom_L4 {E : Ev} {fr : Fr} {r : Int32} {σ0 : Sg} (cx : Cx E mX0_withRoom 2 fr) (tg : Tg E fr (some .int) (some (.int r)) σ0) (ra0 : Nat) (hra0 : Cty ra0) : ∀ (n : Nat) (y1 : Int32) (y2 : Int32) (σ : Sg), σ = σ0 → f_X0_withRoom_L4 ra0 n y1 y2 σ = some r → GW E fr 3 4 [(0, .ref (eA E ra0)), (1, .int y1), (2, .int y2)] [] σ := by
  intro n
  induction n with
  | zero => intro y1 y2 σ hs h; cases (show (none : Option (Int32)) = _ from h)
  | succ n ih =>
    intro y1 y2 σ hs h
    rw [f_X0_withRoom_L4] at h
    subst hs
    refine gw_iload_n (pc' := 5) cx 2 rfl rfl dX0_withRoom_4 rfl ?_
    refine gw_aload_n (pc' := 6) cx 0 rfl rfl dX0_withRoom_5 rfl ?_
    refine gw_getI (pc' := 9) cx (atC hra0) rfl fl_X0_35 dX0_withRoom_6 rfl ?_
    rcases ite_some h with ⟨c1, h⟩ | ⟨c1, h⟩
    · refine gw_ic_ge_t (pc' := 33) cx c1 dX0_withRoom_9 (by decide) ?_
      refine gw_iload_n (pc' := 34) cx 1 rfl rfl dX0_withRoom_33 rfl ?_
      exact gw_iret cx tg (rt0 h) rfl dX0_withRoom_34
    · refine gw_ic_ge_f (pc' := 12) cx c1 dX0_withRoom_9 ⟨33, by decide⟩ rfl ?_
      refine gw_aload_n (pc' := 13) cx 0 rfl rfl dX0_withRoom_12 rfl ?_
      refine gw_getR (pc' := 16) cx (atC hra0) rfl fl_X0_17 dX0_withRoom_13 rfl ?_
      refine gw_iload_n (pc' := 17) cx 2 rfl rfl dX0_withRoom_16 rfl ?_
      obtain ⟨i2, h⟩ := chk_some h
      refine gw_aald (pc' := 18) cx (atCp hra0) i2 dX0_withRoom_17 rfl ?_
      obtain ⟨r4, g3, h⟩ := ob0_some h
      refine gw_cV (pc' := 21) (av := []) (rest := []) cx (k_X1_room E (psn_of hra0 i2) g3) (atP (psn_of hra0 i2)) (by decide) lk_X0_66 dX0_withRoom_18 rfl (Nat.le_of_ble_eq_true rfl) rfl ?_
      show GW E fr _ 21 _ (.int r4 :: _) _
      rcases ite_some h with ⟨c5, h⟩ | ⟨c5, h⟩
      · refine gw_if_le_t (pc' := 27) cx c5 dX0_withRoom_21 (by decide) ?_
        refine gw_iinc (pc' := 30) (v := (y2 + 1)) (lv' := [(2, .int (y2 + 1)), (0, .ref (eA E ra0)), (1, .int y1)]) cx 2 rfl rfl rfl (by decide) dX0_withRoom_27 rfl ?_
        refine gw_goto (pc' := 4) cx dX0_withRoom_30 (by decide) ?_
        refine gw_sub [1, 2, 0] (lv' := [(0, .ref (eA E ra0)), (1, .int y1), (2, .int (y2 + 1))]) rfl ?_
        exact ih y1 (y2 + 1) σ rfl h
      · refine gw_if_le_f (pc' := 24) cx c5 dX0_withRoom_21 ⟨27, by decide⟩ rfl ?_
        refine gw_iinc (pc' := 27) (v := (y1 + 1)) (lv' := [(1, .int (y1 + 1)), (0, .ref (eA E ra0)), (2, .int y2)]) cx 1 rfl rfl rfl (by decide) dX0_withRoom_24 rfl ?_
        refine gw_iinc (pc' := 30) (v := (y2 + 1)) (lv' := [(2, .int (y2 + 1)), (1, .int (y1 + 1)), (0, .ref (eA E ra0))]) cx 2 rfl rfl rfl (by decide) dX0_withRoom_27 rfl ?_
        refine gw_goto (pc' := 4) cx dX0_withRoom_30 (by decide) ?_
        refine gw_sub [2, 1, 0] (lv' := [(0, .ref (eA E ra0)), (1, .int (y1 + 1)), (2, .int (y2 + 1))]) rfl ?_
        exact ih (y1 + 1) (y2 + 1) σ rfl h
def f_X0_withRoom (b : Nat) (σ : Sg) : Option (Int32) :=
  f_X0_withRoom_L4 b FU 0 0 σ
theorem k_X0_withRoom (E : Ev) {b : Nat} (hb : Cty b) {σ : Sg} {r : Int32} (h : f_X0_withRoom b σ = some r) : Con E mX0_withRoom 2 [.ref (eA E b)] σ (some (.int r)) σ := by
  refine con_of (by decide) (Nat.le_of_ble_eq_true rfl) (fun fr cx tg => ?_)
  show GW E fr 3 0 [(0, .ref (eA E b))] [] σ
  rw [f_X0_withRoom] at h
  refine gw_iconst (pc' := 1) (v := 0) cx ci_0 dX0_withRoom_0 rfl ?_
  refine gw_istore_n (pc' := 2) (lv' := [(1, .int 0), (0, .ref (eA E b))]) cx rfl rfl (by decide) dX0_withRoom_1 rfl ?_
  refine gw_iconst (pc' := 3) (v := 0) cx ci_0 dX0_withRoom_2 rfl ?_
  refine gw_istore_n (pc' := 4) (lv' := [(2, .int 0), (1, .int 0), (0, .ref (eA E b))]) cx rfl rfl (by decide) dX0_withRoom_3 rfl ?_
  refine gw_sub [2, 1, 0] (lv' := [(0, .ref (eA E b)), (1, .int 0), (2, .int 0)]) rfl ?_
  exact w_X0_withRoom_L4 cx tg b hb FU 0 0 σ rfl h
def f_X0_spotsInUse_L4 (ra0 : Nat) : Nat → Int32 → Int32 → Sg → Option (Int32)
  | 0, _, _, _ => none
  | n + 1, y1, y2, σ =>
    if 10 ≤ y2 then
      some y1
    else
      chk y2 10 <|
      if (σ (ra0 + 3) y2.toNatClampNeg) = (-1) then
        f_X0_spotsInUse_L4 ra0 n y1 (y2 + 1) σ
      else
        f_X0_spotsInUse_L4 ra0 n (y1 + 1) (y2 + 1) σ
theorem w_X0_spotsInUse_L4 {E : Ev} {fr : Fr} {r : Int32} {σ0 : Sg} (cx : Cx E mX0_spotsInUse 0 fr) (tg : Tg E fr (some .int) (some (.int r)) σ0) (ra0 : Nat) (hra0 : Cty ra0) : ∀ (n : Nat) (y1 : Int32) (y2 : Int32) (σ : Sg), σ = σ0 → f_X0_spotsInUse_L4 ra0 n y1 y2 σ = some r → GW E fr 3 4 [(0, .ref (eA E ra0)), (1, .int y1), (2, .int y2)] [] σ := by
  intro n
  induction n with
  | zero => intro y1 y2 σ hs h; cases (show (none : Option (Int32)) = _ from h)
  | succ n ih =>
    intro y1 y2 σ hs h
    rw [f_X0_spotsInUse_L4] at h
    subst hs
    refine gw_iload_n (pc' := 5) cx 2 rfl rfl dX0_spotsInUse_4 rfl ?_
    refine gw_bipush (pc' := 7) (v := 10) cx cb_10 dX0_spotsInUse_5 rfl ?_
    rcases ite_some h with ⟨c1, h⟩ | ⟨c1, h⟩
    · refine gw_ic_ge_t (pc' := 29) cx c1 dX0_spotsInUse_7 (by decide) ?_
      refine gw_iload_n (pc' := 30) cx 1 rfl rfl dX0_spotsInUse_29 rfl ?_
      exact gw_iret cx tg (rt0 h) rfl dX0_spotsInUse_30
    · refine gw_ic_ge_f (pc' := 10) cx c1 dX0_spotsInUse_7 ⟨29, by decide⟩ rfl ?_
      refine gw_aload_n (pc' := 11) cx 0 rfl rfl dX0_spotsInUse_10 rfl ?_
      refine gw_getR (pc' := 14) cx (atC hra0) rfl fl_X0_22 dX0_spotsInUse_11 rfl ?_
      refine gw_iload_n (pc' := 15) cx 2 rfl rfl dX0_spotsInUse_14 rfl ?_
      obtain ⟨i2, h⟩ := chk_some h
      refine gw_iald (pc' := 16) cx (atCs hra0) i2 rfl dX0_spotsInUse_15 rfl ?_
      refine gw_iconst (pc' := 17) (v := (-1)) cx ci_m1 dX0_spotsInUse_16 rfl ?_
      rcases ite_some h with ⟨c3, h⟩ | ⟨c3, h⟩
      · refine gw_ic_eq_t (pc' := 23) cx c3 dX0_spotsInUse_17 (by decide) ?_
        refine gw_iinc (pc' := 26) (v := (y2 + 1)) (lv' := [(2, .int (y2 + 1)), (0, .ref (eA E ra0)), (1, .int y1)]) cx 2 rfl rfl rfl (by decide) dX0_spotsInUse_23 rfl ?_
        refine gw_goto (pc' := 4) cx dX0_spotsInUse_26 (by decide) ?_
        refine gw_sub [1, 2, 0] (lv' := [(0, .ref (eA E ra0)), (1, .int y1), (2, .int (y2 + 1))]) rfl ?_
        exact ih y1 (y2 + 1) σ rfl h
      · refine gw_ic_eq_f (pc' := 20) cx c3 dX0_spotsInUse_17 ⟨23, by decide⟩ rfl ?_
        refine gw_iinc (pc' := 23) (v := (y1 + 1)) (lv' := [(1, .int (y1 + 1)), (0, .ref (eA E ra0)), (2, .int y2)]) cx 1 rfl rfl rfl (by decide) dX0_spotsInUse_20 rfl ?_
        refine gw_iinc (pc' := 26) (v := (y2 + 1)) (lv' := [(2, .int (y2 + 1)), (1, .int (y1 + 1)), (0, .ref (eA E ra0))]) cx 2 rfl rfl rfl (by decide) dX0_spotsInUse_23 rfl ?_
        refine gw_goto (pc' := 4) cx dX0_spotsInUse_26 (by decide) ?_
        refine gw_sub [2, 1, 0] (lv' := [(0, .ref (eA E ra0)), (1, .int (y1 + 1)), (2, .int (y2 + 1))]) rfl ?_
        exact ih (y1 + 1) (y2 + 1) σ rfl h
def f_X0_spotsInUse (b : Nat) (σ : Sg) : Option (Int32) :=
  f_X0_spotsInUse_L4 b FU 0 0 σ
theorem k_X0_spotsInUse (E : Ev) {b : Nat} (hb : Cty b) {σ : Sg} {r : Int32} (h : f_X0_spotsInUse b σ = some r) : Con E mX0_spotsInUse 0 [.ref (eA E b)] σ (some (.int r)) σ := by
  refine con_of (by decide) (Nat.le_of_ble_eq_true rfl) (fun fr cx tg => ?_)
  show GW E fr 3 0 [(0, .ref (eA E b))] [] σ
  rw [f_X0_spotsInUse] at h
  refine gw_iconst (pc' := 1) (v := 0) cx ci_0 dX0_spotsInUse_0 rfl ?_
  refine gw_istore_n (pc' := 2) (lv' := [(1, .int 0), (0, .ref (eA E b))]) cx rfl rfl (by decide) dX0_spotsInUse_1 rfl ?_
  refine gw_iconst (pc' := 3) (v := 0) cx ci_0 dX0_spotsInUse_2 rfl ?_
  refine gw_istore_n (pc' := 4) (lv' := [(2, .int 0), (1, .int 0), (0, .ref (eA E b))]) cx rfl rfl (by decide) dX0_spotsInUse_3 rfl ?_
  refine gw_sub [2, 1, 0] (lv' := [(0, .ref (eA E b)), (1, .int 0), (2, .int 0)]) rfl ?_
  exact w_X0_spotsInUse_L4 cx tg b hb FU 0 0 σ rfl h
def f_X0_roomiestBut_L7 (ra0 : Nat) (y1 : Int32) : Nat → Int32 → Int32 → Int32 → Sg → Option (Int32)
  | 0, _, _, _, _ => none
  | n + 1, y2, y3, y4, σ =>
    if (σ ra0 3) ≤ y4 then
      some y2
    else
      if y4 = y1 then
        if (-1) ≤ y3 then
          f_X0_roomiestBut_L7 ra0 y1 n y2 y3 (y4 + 1) σ
        else
          f_X0_roomiestBut_L7 ra0 y1 n y4 (-1) (y4 + 1) σ
      else
        chk y4 8 <|
        ob0 (f_X1_room (ra0 + 4 + y4.toNatClampNeg) σ) fun r6 =>
        if r6 ≤ y3 then
          f_X0_roomiestBut_L7 ra0 y1 n y2 y3 (y4 + 1) σ
        else
          f_X0_roomiestBut_L7 ra0 y1 n y4 r6 (y4 + 1) σ
theorem w_X0_roomiestBut_L7 {E : Ev} {fr : Fr} {r : Int32} {σ0 : Sg} (cx : Cx E mX0_roomiestBut 2 fr) (tg : Tg E fr (some .int) (some (.int r)) σ0) (ra0 : Nat) (y1 : Int32) (hra0 : Cty ra0) : ∀ (n : Nat) (y2 : Int32) (y3 : Int32) (y4 : Int32) (σ : Sg), σ = σ0 → f_X0_roomiestBut_L7 ra0 y1 n y2 y3 y4 σ = some r → GW E fr 6 7 [(0, .ref (eA E ra0)), (1, .int y1), (2, .int y2), (3, .int y3), (4, .int y4)] [] σ := by
  intro n
  induction n with
  | zero => intro y2 y3 y4 σ hs h; cases (show (none : Option (Int32)) = _ from h)
  | succ n ih =>
    intro y2 y3 y4 σ hs h
    rw [f_X0_roomiestBut_L7] at h
    subst hs
    refine gw_iload (pc' := 9) cx 4 rfl dX0_roomiestBut_7 rfl ?_
    refine gw_aload_n (pc' := 10) cx 0 rfl rfl dX0_roomiestBut_9 rfl ?_
    refine gw_getI (pc' := 13) cx (atC hra0) rfl fl_X0_35 dX0_roomiestBut_10 rfl ?_
    rcases ite_some h with ⟨c1, h⟩ | ⟨c1, h⟩
    · refine gw_ic_ge_t (pc' := 56) cx c1 dX0_roomiestBut_13 (by decide) ?_
      refine gw_iload_n (pc' := 57) cx 2 rfl rfl dX0_roomiestBut_56 rfl ?_
      exact gw_iret cx tg (rt0 h) rfl dX0_roomiestBut_57
    · refine gw_ic_ge_f (pc' := 16) cx c1 dX0_roomiestBut_13 ⟨56, by decide⟩ rfl ?_
      refine gw_iload (pc' := 18) cx 4 rfl dX0_roomiestBut_16 rfl ?_
      refine gw_iload_n (pc' := 19) cx 1 rfl rfl dX0_roomiestBut_18 rfl ?_
      rcases ite_some h with ⟨c2, h⟩ | ⟨c2, h⟩
      · refine gw_ic_ne_f (pc' := 22) cx c2 dX0_roomiestBut_19 ⟨26, by decide⟩ rfl ?_
        refine gw_iconst (pc' := 23) (v := (-1)) cx ci_m1 dX0_roomiestBut_22 rfl ?_
        refine gw_goto (pc' := 36) cx dX0_roomiestBut_23 (by decide) ?_
        refine gw_istore (pc' := 38) (lv' := [(5, .int (-1)), (0, .ref (eA E ra0)), (1, .int y1), (2, .int y2), (3, .int y3), (4, .int y4)]) cx rfl (by decide) dX0_roomiestBut_36 rfl ?_
        refine gw_iload (pc' := 40) cx 0 rfl dX0_roomiestBut_38 rfl ?_
        refine gw_iload_n (pc' := 41) cx 4 rfl rfl dX0_roomiestBut_40 rfl ?_
        rcases ite_some h with ⟨c3, h⟩ | ⟨c3, h⟩
        · refine gw_ic_le_t (pc' := 50) cx c3 dX0_roomiestBut_41 (by decide) ?_
          refine gw_iinc (pc' := 53) (v := (y4 + 1)) (lv' := [(4, .int (y4 + 1)), (5, .int (-1)), (0, .ref (eA E ra0)), (1, .int y1), (2, .int y2), (3, .int y3)]) cx 5 rfl rfl rfl (by decide) dX0_roomiestBut_50 rfl ?_
          refine gw_goto (pc' := 7) cx dX0_roomiestBut_53 (by decide) ?_
          refine gw_sub [2, 3, 4, 5, 0] (lv' := [(0, .ref (eA E ra0)), (1, .int y1), (2, .int y2), (3, .int y3), (4, .int (y4 + 1))]) rfl ?_
          exact ih y2 y3 (y4 + 1) σ rfl h
        · refine gw_ic_le_f (pc' := 44) cx c3 dX0_roomiestBut_41 ⟨50, by decide⟩ rfl ?_
          refine gw_iload (pc' := 46) cx 0 rfl dX0_roomiestBut_44 rfl ?_
          refine gw_istore_n (pc' := 47) (lv' := [(3, .int (-1)), (5, .int (-1)), (0, .ref (eA E ra0)), (1, .int y1), (2, .int y2), (4, .int y4)]) cx rfl rfl (by decide) dX0_roomiestBut_46 rfl ?_
          refine gw_iload (pc' := 49) cx 5 rfl dX0_roomiestBut_47 rfl ?_
          refine gw_istore_n (pc' := 50) (lv' := [(2, .int y4), (3, .int (-1)), (5, .int (-1)), (0, .ref (eA E ra0)), (1, .int y1), (4, .int y4)]) cx rfl rfl (by decide) dX0_roomiestBut_49 rfl ?_
          refine gw_iinc (pc' := 53) (v := (y4 + 1)) (lv' := [(4, .int (y4 + 1)), (2, .int y4), (3, .int (-1)), (5, .int (-1)), (0, .ref (eA E ra0)), (1, .int y1)]) cx 5 rfl rfl rfl (by decide) dX0_roomiestBut_50 rfl ?_
          refine gw_goto (pc' := 7) cx dX0_roomiestBut_53 (by decide) ?_
          refine gw_sub [4, 5, 1, 2, 0] (lv' := [(0, .ref (eA E ra0)), (1, .int y1), (2, .int y4), (3, .int (-1)), (4, .int (y4 + 1))]) rfl ?_
          exact ih y4 (-1) (y4 + 1) σ rfl h
      · refine gw_ic_ne_t (pc' := 26) cx c2 dX0_roomiestBut_19 (by decide) ?_
        refine gw_aload_n (pc' := 27) cx 0 rfl rfl dX0_roomiestBut_26 rfl ?_
        refine gw_getR (pc' := 30) cx (atC hra0) rfl fl_X0_17 dX0_roomiestBut_27 rfl ?_
        refine gw_iload (pc' := 32) cx 4 rfl dX0_roomiestBut_30 rfl ?_
        obtain ⟨i4, h⟩ := chk_some h
        refine gw_aald (pc' := 33) cx (atCp hra0) i4 dX0_roomiestBut_32 rfl ?_
        obtain ⟨r6, g5, h⟩ := ob0_some h
        refine gw_cV (pc' := 36) (av := []) (rest := []) cx (k_X1_room E (psn_of hra0 i4) g5) (atP (psn_of hra0 i4)) (by decide) lk_X0_66 dX0_roomiestBut_33 rfl (Nat.le_of_ble_eq_true rfl) rfl ?_
        show GW E fr _ 36 _ (.int r6 :: _) _
        refine gw_istore (pc' := 38) (lv' := [(5, .int r6), (0, .ref (eA E ra0)), (1, .int y1), (2, .int y2), (3, .int y3), (4, .int y4)]) cx rfl (by decide) dX0_roomiestBut_36 rfl ?_
        refine gw_iload (pc' := 40) cx 0 rfl dX0_roomiestBut_38 rfl ?_
        refine gw_iload_n (pc' := 41) cx 4 rfl rfl dX0_roomiestBut_40 rfl ?_
        rcases ite_some h with ⟨c7, h⟩ | ⟨c7, h⟩
        · refine gw_ic_le_t (pc' := 50) cx c7 dX0_roomiestBut_41 (by decide) ?_
          refine gw_iinc (pc' := 53) (v := (y4 + 1)) (lv' := [(4, .int (y4 + 1)), (5, .int r6), (0, .ref (eA E ra0)), (1, .int y1), (2, .int y2), (3, .int y3)]) cx 5 rfl rfl rfl (by decide) dX0_roomiestBut_50 rfl ?_
          refine gw_goto (pc' := 7) cx dX0_roomiestBut_53 (by decide) ?_
          refine gw_sub [2, 3, 4, 5, 0] (lv' := [(0, .ref (eA E ra0)), (1, .int y1), (2, .int y2), (3, .int y3), (4, .int (y4 + 1))]) rfl ?_
          exact ih y2 y3 (y4 + 1) σ rfl h
        · refine gw_ic_le_f (pc' := 44) cx c7 dX0_roomiestBut_41 ⟨50, by decide⟩ rfl ?_
          refine gw_iload (pc' := 46) cx 0 rfl dX0_roomiestBut_44 rfl ?_
          refine gw_istore_n (pc' := 47) (lv' := [(3, .int r6), (5, .int r6), (0, .ref (eA E ra0)), (1, .int y1), (2, .int y2), (4, .int y4)]) cx rfl rfl (by decide) dX0_roomiestBut_46 rfl ?_
          refine gw_iload (pc' := 49) cx 5 rfl dX0_roomiestBut_47 rfl ?_
          refine gw_istore_n (pc' := 50) (lv' := [(2, .int y4), (3, .int r6), (5, .int r6), (0, .ref (eA E ra0)), (1, .int y1), (4, .int y4)]) cx rfl rfl (by decide) dX0_roomiestBut_49 rfl ?_
          refine gw_iinc (pc' := 53) (v := (y4 + 1)) (lv' := [(4, .int (y4 + 1)), (2, .int y4), (3, .int r6), (5, .int r6), (0, .ref (eA E ra0)), (1, .int y1)]) cx 5 rfl rfl rfl (by decide) dX0_roomiestBut_50 rfl ?_
          refine gw_goto (pc' := 7) cx dX0_roomiestBut_53 (by decide) ?_
          refine gw_sub [4, 5, 1, 2, 0] (lv' := [(0, .ref (eA E ra0)), (1, .int y1), (2, .int y4), (3, .int r6), (4, .int (y4 + 1))]) rfl ?_
          exact ih y4 r6 (y4 + 1) σ rfl h
def f_X0_roomiestBut (b : Nat) (x1 : Int32) (σ : Sg) : Option (Int32) :=
  f_X0_roomiestBut_L7 b x1 FU (-1) (-1) 0 σ
theorem k_X0_roomiestBut (E : Ev) {b : Nat} {x1 : Int32} (hb : Cty b) {σ : Sg} {r : Int32} (h : f_X0_roomiestBut b x1 σ = some r) : Con E mX0_roomiestBut 2 [.ref (eA E b), .int x1] σ (some (.int r)) σ := by
  refine con_of (by decide) (Nat.le_of_ble_eq_true rfl) (fun fr cx tg => ?_)
  show GW E fr 6 0 [(0, .ref (eA E b)), (1, .int x1)] [] σ
  rw [f_X0_roomiestBut] at h
  refine gw_iconst (pc' := 1) (v := (-1)) cx ci_m1 dX0_roomiestBut_0 rfl ?_
  refine gw_istore_n (pc' := 2) (lv' := [(2, .int (-1)), (0, .ref (eA E b)), (1, .int x1)]) cx rfl rfl (by decide) dX0_roomiestBut_1 rfl ?_
  refine gw_iconst (pc' := 3) (v := (-1)) cx ci_m1 dX0_roomiestBut_2 rfl ?_
  refine gw_istore_n (pc' := 4) (lv' := [(3, .int (-1)), (2, .int (-1)), (0, .ref (eA E b)), (1, .int x1)]) cx rfl rfl (by decide) dX0_roomiestBut_3 rfl ?_
  refine gw_iconst (pc' := 5) (v := 0) cx ci_0 dX0_roomiestBut_4 rfl ?_
  refine gw_istore (pc' := 7) (lv' := [(4, .int 0), (3, .int (-1)), (2, .int (-1)), (0, .ref (eA E b)), (1, .int x1)]) cx rfl (by decide) dX0_roomiestBut_5 rfl ?_
  refine gw_sub [3, 4, 2, 1, 0] (lv' := [(0, .ref (eA E b)), (1, .int x1), (2, .int (-1)), (3, .int (-1)), (4, .int 0)]) rfl ?_
  exact w_X0_roomiestBut_L7 cx tg b x1 hb FU (-1) (-1) 0 σ rfl h
def f_X0_bears (b : Nat) (x1 : Int32) (x2 : Int32) (σ : Sg) : Option (Int32) :=
  ob0 (f_X0_has b x1 σ) fun r2 =>
  if r2 = 0 then
    some 0
  else
    chk x1 8 <|
    ob0 (f_X1_room (b + 4 + x1.toNatClampNeg) σ) fun r6 =>
    if r6 < x2 then
      some 0
    else
      some 1
theorem k_X0_bears (E : Ev) {b : Nat} {x1 : Int32} {x2 : Int32} (hb : Cty b) {σ : Sg} {r : Int32} (h : f_X0_bears b x1 x2 σ = some r) : Con E mX0_bears 2 [.ref (eA E b), .int x1, .int x2] σ (some (.int r)) σ := by
  refine con_of (by decide) (Nat.le_of_ble_eq_true rfl) (fun fr cx tg => ?_)
  show GW E fr 3 0 [(0, .ref (eA E b)), (1, .int x1), (2, .int x2)] [] σ
  rw [f_X0_bears] at h
  refine gw_aload_n (pc' := 1) cx 0 rfl rfl dX0_bears_0 rfl ?_
  refine gw_iload_n (pc' := 2) cx 1 rfl rfl dX0_bears_1 rfl ?_
  obtain ⟨r2, g1, h⟩ := ob0_some h
  refine gw_cV (pc' := 5) (av := [.int x1]) (rest := []) cx (k_X0_has E hb g1) (atC hb) (by decide) lk_X0_69 dX0_bears_2 rfl (Nat.le_of_ble_eq_true rfl) rfl ?_
  show GW E fr _ 5 _ (.int r2 :: _) _
  rcases ite_some h with ⟨c3, h⟩ | ⟨c3, h⟩
  · refine gw_if_eq_t (pc' := 25) cx c3 dX0_bears_5 (by decide) ?_
    refine gw_iconst (pc' := 26) (v := 0) cx ci_0 dX0_bears_25 rfl ?_
    exact gw_zret cx tg (Or.inl rfl) (rt0 h) rfl dX0_bears_26
  · refine gw_if_eq_f (pc' := 8) cx c3 dX0_bears_5 ⟨25, by decide⟩ rfl ?_
    refine gw_aload_n (pc' := 9) cx 0 rfl rfl dX0_bears_8 rfl ?_
    refine gw_getR (pc' := 12) cx (atC hb) rfl fl_X0_17 dX0_bears_9 rfl ?_
    refine gw_iload_n (pc' := 13) cx 1 rfl rfl dX0_bears_12 rfl ?_
    obtain ⟨i4, h⟩ := chk_some h
    refine gw_aald (pc' := 14) cx (atCp hb) i4 dX0_bears_13 rfl ?_
    obtain ⟨r6, g5, h⟩ := ob0_some h
    refine gw_cV (pc' := 17) (av := []) (rest := []) cx (k_X1_room E (psn_of hb i4) g5) (atP (psn_of hb i4)) (by decide) lk_X0_66 dX0_bears_14 rfl (Nat.le_of_ble_eq_true rfl) rfl ?_
    show GW E fr _ 17 _ (.int r6 :: _) _
    refine gw_iload_n (pc' := 18) cx 2 rfl rfl dX0_bears_17 rfl ?_
    rcases ite_some h with ⟨c7, h⟩ | ⟨c7, h⟩
    · refine gw_ic_lt_t (pc' := 25) cx c7 dX0_bears_18 (by decide) ?_
      refine gw_iconst (pc' := 26) (v := 0) cx ci_0 dX0_bears_25 rfl ?_
      exact gw_zret cx tg (Or.inl rfl) (rt0 h) rfl dX0_bears_26
    · refine gw_ic_lt_f (pc' := 21) cx c7 dX0_bears_18 ⟨25, by decide⟩ rfl ?_
      refine gw_iconst (pc' := 22) (v := 1) cx ci_1 dX0_bears_21 rfl ?_
      refine gw_goto (pc' := 26) cx dX0_bears_22 (by decide) ?_
      exact gw_zret cx tg (Or.inr rfl) (rt0 h) rfl dX0_bears_26
def f_X0_nextWhom (b : Nat) (σ : Sg) : Option (Int32) :=
  chk (jrem (σ b 5) 6) 6 <|
  some ((σ (b + 1) (jrem (σ b 5) 6).toNatClampNeg) / 100)
theorem k_X0_nextWhom (E : Ev) {b : Nat} (hb : Cty b) {σ : Sg} {r : Int32} (h : f_X0_nextWhom b σ = some r) : Con E mX0_nextWhom 0 [.ref (eA E b)] σ (some (.int r)) σ := by
  refine con_of (by decide) (Nat.le_of_ble_eq_true rfl) (fun fr cx tg => ?_)
  show GW E fr 1 0 [(0, .ref (eA E b))] [] σ
  rw [f_X0_nextWhom] at h
  refine gw_aload_n (pc' := 1) cx 0 rfl rfl dX0_nextWhom_0 rfl ?_
  refine gw_getR (pc' := 4) cx (atC hb) rfl fl_X0_9 dX0_nextWhom_1 rfl ?_
  refine gw_aload_n (pc' := 5) cx 0 rfl rfl dX0_nextWhom_4 rfl ?_
  refine gw_getI (pc' := 8) cx (atC hb) rfl fl_X0_45 dX0_nextWhom_5 rfl ?_
  refine gw_bipush (pc' := 10) (v := 6) cx cb_6 dX0_nextWhom_8 rfl ?_
  refine gw_irem (pc' := 11) cx (by decide) dX0_nextWhom_10 rfl ?_
  obtain ⟨i1, h⟩ := chk_some h
  refine gw_iald (pc' := 12) cx (atCl hb) i1 rfl dX0_nextWhom_11 rfl ?_
  refine gw_bipush (pc' := 14) (v := 100) cx cb_100 dX0_nextWhom_12 rfl ?_
  refine gw_idiv (pc' := 15) cx (by decide) dX0_nextWhom_14 rfl ?_
  exact gw_iret cx tg (rt0 h) rfl dX0_nextWhom_15
def f_X0_nextWeight (b : Nat) (σ : Sg) : Option (Int32) :=
  chk (jrem (σ b 5) 6) 6 <|
  some (jrem (σ (b + 1) (jrem (σ b 5) 6).toNatClampNeg) 100)
theorem k_X0_nextWeight (E : Ev) {b : Nat} (hb : Cty b) {σ : Sg} {r : Int32} (h : f_X0_nextWeight b σ = some r) : Con E mX0_nextWeight 0 [.ref (eA E b)] σ (some (.int r)) σ := by
  refine con_of (by decide) (Nat.le_of_ble_eq_true rfl) (fun fr cx tg => ?_)
  show GW E fr 1 0 [(0, .ref (eA E b))] [] σ
  rw [f_X0_nextWeight] at h
  refine gw_aload_n (pc' := 1) cx 0 rfl rfl dX0_nextWeight_0 rfl ?_
  refine gw_getR (pc' := 4) cx (atC hb) rfl fl_X0_9 dX0_nextWeight_1 rfl ?_
  refine gw_aload_n (pc' := 5) cx 0 rfl rfl dX0_nextWeight_4 rfl ?_
  refine gw_getI (pc' := 8) cx (atC hb) rfl fl_X0_45 dX0_nextWeight_5 rfl ?_
  refine gw_bipush (pc' := 10) (v := 6) cx cb_6 dX0_nextWeight_8 rfl ?_
  refine gw_irem (pc' := 11) cx (by decide) dX0_nextWeight_10 rfl ?_
  obtain ⟨i1, h⟩ := chk_some h
  refine gw_iald (pc' := 12) cx (atCl hb) i1 rfl dX0_nextWeight_11 rfl ?_
  refine gw_bipush (pc' := 14) (v := 100) cx cb_100 dX0_nextWeight_12 rfl ?_
  refine gw_irem (pc' := 15) cx (by decide) dX0_nextWeight_14 rfl ?_
  exact gw_iret cx tg (rt0 h) rfl dX0_nextWeight_15
def f_X0_setNext (b : Nat) (x1 : Int32) (x2 : Int32) (σ : Sg) : Option (Sg) :=
  ob0 (f_X4_saying x1 x2 σ) fun r2 =>
  chk (jrem (σ b 5) 6) 6 <|
  lt (up2 σ (b + 1) (jrem (σ b 5) 6).toNatClampNeg r2) fun s4 =>
  some s4
theorem k_X0_setNext (E : Ev) {b : Nat} {x1 : Int32} {x2 : Int32} (hb : Cty b) {σ : Sg} {σ' : Sg} (h : f_X0_setNext b x1 x2 σ = some σ') : Con E mX0_setNext 1 [.ref (eA E b), .int x1, .int x2] σ none σ' := by
  refine con_of (by decide) (Nat.le_of_ble_eq_true rfl) (fun fr cx tg => ?_)
  show GW E fr 3 0 [(0, .ref (eA E b)), (1, .int x1), (2, .int x2)] [] σ
  rw [f_X0_setNext] at h
  refine gw_aload_n (pc' := 1) cx 0 rfl rfl dX0_setNext_0 rfl ?_
  refine gw_getR (pc' := 4) cx (atC hb) rfl fl_X0_9 dX0_setNext_1 rfl ?_
  refine gw_aload_n (pc' := 5) cx 0 rfl rfl dX0_setNext_4 rfl ?_
  refine gw_getI (pc' := 8) cx (atC hb) rfl fl_X0_45 dX0_setNext_5 rfl ?_
  refine gw_bipush (pc' := 10) (v := 6) cx cb_6 dX0_setNext_8 rfl ?_
  refine gw_irem (pc' := 11) cx (by decide) dX0_setNext_10 rfl ?_
  refine gw_iload_n (pc' := 12) cx 1 rfl rfl dX0_setNext_11 rfl ?_
  refine gw_iload_n (pc' := 13) cx 2 rfl rfl dX0_setNext_12 rfl ?_
  obtain ⟨r2, g1, h⟩ := ob0_some h
  refine gw_cN (pc' := 16) (av := [.int x1, .int x2]) (rest := [.int (jrem (σ b 5) 6), .ref (eA E (b + 1))]) cx (k_X4_saying E g1) (by decide) lk_X0_73 dX0_setNext_13 rfl (Nat.le_of_ble_eq_true rfl) rfl ?_
  show GW E fr _ 16 _ (.int r2 :: _) _
  obtain ⟨i3, h⟩ := chk_some h
  obtain ⟨s4, e5, h⟩ := lt_some h
  refine gw_iast (pc' := 17) cx (atCl hb) i3 rfl dX0_setNext_16 rfl e5 ?_
  exact gw_vret cx tg rfl (rtV h) dX0_setNext_17
def f_X0_draw (b : Nat) (σ : Sg) : Option (Int32 × Sg) :=
  lt (up2 σ b 6 (((σ b 6) * 1103515245) + 12345)) fun s1 =>
  some ((jushr (s1 b 6) 8), s1)
theorem k_X0_draw (E : Ev) {b : Nat} (hb : Cty b) {σ : Sg} {r : Int32} {σ' : Sg} (h : f_X0_draw b σ = some (r, σ')) : Con E mX0_draw 0 [.ref (eA E b)] σ (some (.int r)) σ' := by
  refine con_of (by decide) (Nat.le_of_ble_eq_true rfl) (fun fr cx tg => ?_)
  show GW E fr 1 0 [(0, .ref (eA E b))] [] σ
  rw [f_X0_draw] at h
  refine gw_aload_n (pc' := 1) cx 0 rfl rfl dX0_draw_0 rfl ?_
  refine gw_aload_n (pc' := 2) cx 0 rfl rfl dX0_draw_1 rfl ?_
  refine gw_getI (pc' := 5) cx (atC hb) rfl fl_X0_25 dX0_draw_2 rfl ?_
  refine gw_ldc (pc' := 7) (v := 1103515245) cx ct_X0_77 dX0_draw_5 rfl ?_
  refine gw_imul (pc' := 8) cx dX0_draw_7 rfl ?_
  refine gw_sipush (pc' := 11) (v := 12345) cx cs_12345 dX0_draw_8 rfl ?_
  refine gw_iadd (pc' := 12) cx dX0_draw_11 rfl ?_
  obtain ⟨s1, e2, h⟩ := lt_some h
  refine gw_put (pc' := 15) cx (atC hb) rfl fp_X0_25 ⟨rfl, rfl⟩ dX0_draw_12 rfl e2 ?_
  refine gw_aload_n (pc' := 16) cx 0 rfl rfl dX0_draw_15 rfl ?_
  refine gw_getI (pc' := 19) cx (atC hb) rfl fl_X0_25 dX0_draw_16 rfl ?_
  refine gw_bipush (pc' := 21) (v := 8) cx cb_8 dX0_draw_19 rfl ?_
  refine gw_iushr (pc' := 22) cx dX0_draw_21 rfl ?_
  exact gw_iret cx tg (rt1 h) (rt2 h) dX0_draw_22
def f_X0_tellSaying (b : Nat) (σ : Sg) : Option (Sg) :=
  ob0 (f_X0_nextWhom b σ) fun r2 =>
  ob0 (f_X0_nextWeight b σ) fun r4 =>
  ob0 (f_X0_has b r2 σ) fun r6 =>
  if r6 = 0 then
    some σ
  else
    if r4 ≤ 0 then
      some σ
    else
      chk r2 8 <|
      ob0 (f_X1_feeling (b + 4 + r2.toNatClampNeg) r4 σ) fun r11 =>
      ob1 (f_X1_suffer (b + 4 + r2.toNatClampNeg) r11 r4 σ) fun s13 =>
      some s13
theorem k_X0_tellSaying (E : Ev) {b : Nat} (hb : Cty b) {σ : Sg} {σ' : Sg} (h : f_X0_tellSaying b σ = some σ') : Con E mX0_tellSaying 2 [.ref (eA E b)] σ none σ' := by
  refine con_of (by decide) (Nat.le_of_ble_eq_true rfl) (fun fr cx tg => ?_)
  show GW E fr 3 0 [(0, .ref (eA E b))] [] σ
  rw [f_X0_tellSaying] at h
  refine gw_aload_n (pc' := 1) cx 0 rfl rfl dX0_tellSaying_0 rfl ?_
  obtain ⟨r2, g1, h⟩ := ob0_some h
  refine gw_cV (pc' := 4) (av := []) (rest := []) cx (k_X0_nextWhom E hb g1) (atC hb) (by decide) lk_X0_105 dX0_tellSaying_1 rfl (Nat.le_of_ble_eq_true rfl) rfl ?_
  show GW E fr _ 4 _ (.int r2 :: _) _
  refine gw_istore_n (pc' := 5) (lv' := [(1, .int r2), (0, .ref (eA E b))]) cx rfl rfl (by decide) dX0_tellSaying_4 rfl ?_
  refine gw_aload_n (pc' := 6) cx 1 rfl rfl dX0_tellSaying_5 rfl ?_
  obtain ⟨r4, g3, h⟩ := ob0_some h
  refine gw_cV (pc' := 9) (av := []) (rest := []) cx (k_X0_nextWeight E hb g3) (atC hb) (by decide) lk_X0_108 dX0_tellSaying_6 rfl (Nat.le_of_ble_eq_true rfl) rfl ?_
  show GW E fr _ 9 _ (.int r4 :: _) _
  refine gw_istore_n (pc' := 10) (lv' := [(2, .int r4), (1, .int r2), (0, .ref (eA E b))]) cx rfl rfl (by decide) dX0_tellSaying_9 rfl ?_
  refine gw_aload_n (pc' := 11) cx 2 rfl rfl dX0_tellSaying_10 rfl ?_
  refine gw_iload_n (pc' := 12) cx 1 rfl rfl dX0_tellSaying_11 rfl ?_
  obtain ⟨r6, g5, h⟩ := ob0_some h
  refine gw_cV (pc' := 15) (av := [.int r2]) (rest := []) cx (k_X0_has E hb g5) (atC hb) (by decide) lk_X0_69 dX0_tellSaying_12 rfl (Nat.le_of_ble_eq_true rfl) rfl ?_
  show GW E fr _ 15 _ (.int r6 :: _) _
  rcases ite_some h with ⟨c7, h⟩ | ⟨c7, h⟩
  · refine gw_if_eq_t (pc' := 42) cx c7 dX0_tellSaying_15 (by decide) ?_
    exact gw_vret cx tg rfl (rtV h) dX0_tellSaying_42
  · refine gw_if_eq_f (pc' := 18) cx c7 dX0_tellSaying_15 ⟨42, by decide⟩ rfl ?_
    refine gw_iload_n (pc' := 19) cx 0 rfl rfl dX0_tellSaying_18 rfl ?_
    rcases ite_some h with ⟨c8, h⟩ | ⟨c8, h⟩
    · refine gw_if_le_t (pc' := 42) cx c8 dX0_tellSaying_19 (by decide) ?_
      exact gw_vret cx tg rfl (rtV h) dX0_tellSaying_42
    · refine gw_if_le_f (pc' := 22) cx c8 dX0_tellSaying_19 ⟨42, by decide⟩ rfl ?_
      refine gw_aload_n (pc' := 23) cx 2 rfl rfl dX0_tellSaying_22 rfl ?_
      refine gw_getR (pc' := 26) cx (atC hb) rfl fl_X0_17 dX0_tellSaying_23 rfl ?_
      refine gw_iload_n (pc' := 27) cx 1 rfl rfl dX0_tellSaying_26 rfl ?_
      obtain ⟨i9, h⟩ := chk_some h
      refine gw_aald (pc' := 28) cx (atCp hb) i9 dX0_tellSaying_27 rfl ?_
      refine gw_aload_n (pc' := 29) cx 2 rfl rfl dX0_tellSaying_28 rfl ?_
      refine gw_getR (pc' := 32) cx (atC hb) rfl fl_X0_17 dX0_tellSaying_29 rfl ?_
      refine gw_iload_n (pc' := 33) cx 1 rfl rfl dX0_tellSaying_32 rfl ?_
      refine gw_aald (pc' := 34) cx (atCp hb) i9 dX0_tellSaying_33 rfl ?_
      refine gw_iload_n (pc' := 35) cx 0 rfl rfl dX0_tellSaying_34 rfl ?_
      obtain ⟨r11, g10, h⟩ := ob0_some h
      refine gw_cV (pc' := 38) (av := [.int r4]) (rest := [.ref (eA E (b + 4 + r2.toNatClampNeg))]) cx (k_X1_feeling E (psn_of hb i9) g10) (atP (psn_of hb i9)) (by decide) lk_X0_111 dX0_tellSaying_35 rfl (Nat.le_of_ble_eq_true rfl) rfl ?_
      show GW E fr _ 38 _ (.int r11 :: _) _
      refine gw_iload_n (pc' := 39) cx 0 rfl rfl dX0_tellSaying_38 rfl ?_
      obtain ⟨s13, g12, h⟩ := ob1_some h
      refine gw_cV (pc' := 42) (av := [.int r11, .int r4]) (rest := []) cx (k_X1_suffer E (psn_of hb i9) g12) (atP (psn_of hb i9)) (by decide) lk_X0_114 dX0_tellSaying_39 rfl (Nat.le_of_ble_eq_true rfl) rfl ?_
      show GW E fr _ 42 _ [] _
      exact gw_vret cx tg rfl (rtV h) dX0_tellSaying_42
def f_X0_serve (b : Nat) (x1 : Int32) (σ : Sg) : Option (Sg) :=
  chk x1 8 <|
  ob0 (f_X1_asking (b + 4 + x1.toNatClampNeg) (σ b 5) σ) fun r3 =>
  if 0 < r3 then
    ob0 (f_X0_roomiestBut b x1 σ) fun r6 =>
    ob0 (f_X0_bears b r6 r3 σ) fun r8 =>
    if r8 = 0 then
      lt (up2 σ (b + 4 + x1.toNatClampNeg) 1 ((σ (b + 4 + x1.toNatClampNeg) 1) - 1)) fun s10 =>
      lt (up2 s10 b 4 (jmin 99999 ((s10 b 4) + 1))) fun s12 =>
      some s12
    else
      lt (up2 σ (b + 4 + x1.toNatClampNeg) 1 ((σ (b + 4 + x1.toNatClampNeg) 1) - r3)) fun s14 =>
      lt (up2 s14 (b + 4 + x1.toNatClampNeg) 4 (jmin 9999 ((s14 (b + 4 + x1.toNatClampNeg) 4) + 1))) fun s16 =>
      chk r6 8 <|
      ob0 (f_X1_feeling (b + 4 + r6.toNatClampNeg) r3 s16) fun r20 =>
      ob1 (f_X1_suffer (b + 4 + r6.toNatClampNeg) (r20 / 2) r3 s16) fun s22 =>
      some s22
  else
    some σ
theorem k_X0_serve (E : Ev) {b : Nat} {x1 : Int32} (hb : Cty b) {σ : Sg} {σ' : Sg} (h : f_X0_serve b x1 σ = some σ') : Con E mX0_serve 3 [.ref (eA E b), .int x1] σ none σ' := by
  refine con_of (by decide) (Nat.le_of_ble_eq_true rfl) (fun fr cx tg => ?_)
  show GW E fr 5 0 [(0, .ref (eA E b)), (1, .int x1)] [] σ
  rw [f_X0_serve] at h
  refine gw_aload_n (pc' := 1) cx 0 rfl rfl dX0_serve_0 rfl ?_
  refine gw_getR (pc' := 4) cx (atC hb) rfl fl_X0_17 dX0_serve_1 rfl ?_
  refine gw_iload_n (pc' := 5) cx 1 rfl rfl dX0_serve_4 rfl ?_
  obtain ⟨i1, h⟩ := chk_some h
  refine gw_aald (pc' := 6) cx (atCp hb) i1 dX0_serve_5 rfl ?_
  refine gw_astore_n (pc' := 7) (lv' := [(2, .ref (eA E (b + 4 + x1.toNatClampNeg))), (0, .ref (eA E b)), (1, .int x1)]) cx rfl rfl (by decide) dX0_serve_6 rfl ?_
  refine gw_aload_n (pc' := 8) cx 0 rfl rfl dX0_serve_7 rfl ?_
  refine gw_aload_n (pc' := 9) cx 1 rfl rfl dX0_serve_8 rfl ?_
  refine gw_getI (pc' := 12) cx (atC hb) rfl fl_X0_45 dX0_serve_9 rfl ?_
  obtain ⟨r3, g2, h⟩ := ob0_some h
  refine gw_cV (pc' := 15) (av := [.int (σ b 5)]) (rest := []) cx (k_X1_asking E (psn_of hb i1) g2) (atP (psn_of hb i1)) (by decide) lk_X0_117 dX0_serve_12 rfl (Nat.le_of_ble_eq_true rfl) rfl ?_
  show GW E fr _ 15 _ (.int r3 :: _) _
  refine gw_istore_n (pc' := 16) (lv' := [(3, .int r3), (2, .ref (eA E (b + 4 + x1.toNatClampNeg))), (0, .ref (eA E b)), (1, .int x1)]) cx rfl rfl (by decide) dX0_serve_15 rfl ?_
  refine gw_iload_n (pc' := 17) cx 0 rfl rfl dX0_serve_16 rfl ?_
  rcases ite_some h with ⟨c4, h⟩ | ⟨c4, h⟩
  · refine gw_if_gt_t (pc' := 21) cx c4 dX0_serve_17 (by decide) ?_
    refine gw_aload_n (pc' := 22) cx 2 rfl rfl dX0_serve_21 rfl ?_
    refine gw_iload_n (pc' := 23) cx 3 rfl rfl dX0_serve_22 rfl ?_
    obtain ⟨r6, g5, h⟩ := ob0_some h
    refine gw_cV (pc' := 26) (av := [.int x1]) (rest := []) cx (k_X0_roomiestBut E hb g5) (atC hb) (by decide) lk_X0_120 dX0_serve_23 rfl (Nat.le_of_ble_eq_true rfl) rfl ?_
    show GW E fr _ 26 _ (.int r6 :: _) _
    refine gw_istore (pc' := 28) (lv' := [(4, .int r6), (3, .int r3), (2, .ref (eA E (b + 4 + x1.toNatClampNeg))), (0, .ref (eA E b)), (1, .int x1)]) cx rfl (by decide) dX0_serve_26 rfl ?_
    refine gw_aload_n (pc' := 29) cx 3 rfl rfl dX0_serve_28 rfl ?_
    refine gw_iload (pc' := 31) cx 0 rfl dX0_serve_29 rfl ?_
    refine gw_iload_n (pc' := 32) cx 1 rfl rfl dX0_serve_31 rfl ?_
    obtain ⟨r8, g7, h⟩ := ob0_some h
    refine gw_cV (pc' := 35) (av := [.int r6, .int r3]) (rest := []) cx (k_X0_bears E hb g7) (atC hb) (by decide) lk_X0_123 dX0_serve_32 rfl (Nat.le_of_ble_eq_true rfl) rfl ?_
    show GW E fr _ 35 _ (.int r8 :: _) _
    rcases ite_some h with ⟨c9, h⟩ | ⟨c9, h⟩
    · refine gw_if_eq_t (pc' := 91) cx c9 dX0_serve_35 (by decide) ?_
      refine gw_aload_n (pc' := 92) cx 2 rfl rfl dX0_serve_91 rfl ?_
      refine gw_dup (pc' := 93) cx rfl dX0_serve_92 rfl ?_
      refine gw_getI (pc' := 96) cx (atP (psn_of hb i1)) rfl fl_X0_59 dX0_serve_93 rfl ?_
      refine gw_iconst (pc' := 97) (v := 1) cx ci_1 dX0_serve_96 rfl ?_
      refine gw_isub (pc' := 98) cx dX0_serve_97 rfl ?_
      obtain ⟨s10, e11, h⟩ := lt_some h
      refine gw_put (pc' := 101) cx (atP (psn_of hb i1)) rfl fp_X0_59 ⟨rfl, rfl⟩ dX0_serve_98 rfl e11 ?_
      refine gw_aload_n (pc' := 102) cx 3 rfl rfl dX0_serve_101 rfl ?_
      refine gw_ldc (pc' := 104) (v := 99999) cx ct_X0_99 dX0_serve_102 rfl ?_
      refine gw_aload_n (pc' := 105) cx 3 rfl rfl dX0_serve_104 rfl ?_
      refine gw_getI (pc' := 108) cx (atC hb) rfl fl_X0_42 dX0_serve_105 rfl ?_
      refine gw_iconst (pc' := 109) (v := 1) cx ci_1 dX0_serve_108 rfl ?_
      refine gw_iadd (pc' := 110) cx dX0_serve_109 rfl ?_
      refine gw_mmin (pc' := 113) (rest := [.ref (eA E b)]) cx lm_X0_100 (by decide) (Nat.le_of_ble_eq_true rfl) dX0_serve_110 rfl ?_
      obtain ⟨s12, e13, h⟩ := lt_some h
      refine gw_put (pc' := 116) cx (atC hb) rfl fp_X0_42 ⟨rfl, rfl⟩ dX0_serve_113 rfl e13 ?_
      exact gw_vret cx tg rfl (rtV h) dX0_serve_116
    · refine gw_if_eq_f (pc' := 38) cx c9 dX0_serve_35 ⟨91, by decide⟩ rfl ?_
      refine gw_aload_n (pc' := 39) cx 2 rfl rfl dX0_serve_38 rfl ?_
      refine gw_dup (pc' := 40) cx rfl dX0_serve_39 rfl ?_
      refine gw_getI (pc' := 43) cx (atP (psn_of hb i1)) rfl fl_X0_59 dX0_serve_40 rfl ?_
      refine gw_iload_n (pc' := 44) cx 1 rfl rfl dX0_serve_43 rfl ?_
      refine gw_isub (pc' := 45) cx dX0_serve_44 rfl ?_
      obtain ⟨s14, e15, h⟩ := lt_some h
      refine gw_put (pc' := 48) cx (atP (psn_of hb i1)) rfl fp_X0_59 ⟨rfl, rfl⟩ dX0_serve_45 rfl e15 ?_
      refine gw_aload_n (pc' := 49) cx 2 rfl rfl dX0_serve_48 rfl ?_
      refine gw_sipush (pc' := 52) (v := 9999) cx cs_9999 dX0_serve_49 rfl ?_
      refine gw_aload_n (pc' := 53) cx 2 rfl rfl dX0_serve_52 rfl ?_
      refine gw_getI (pc' := 56) cx (atP (psn_of hb i1)) rfl fl_X0_126 dX0_serve_53 rfl ?_
      refine gw_iconst (pc' := 57) (v := 1) cx ci_1 dX0_serve_56 rfl ?_
      refine gw_iadd (pc' := 58) cx dX0_serve_57 rfl ?_
      refine gw_mmin (pc' := 61) (rest := [.ref (eA E (b + 4 + x1.toNatClampNeg))]) cx lm_X0_100 (by decide) (Nat.le_of_ble_eq_true rfl) dX0_serve_58 rfl ?_
      obtain ⟨s16, e17, h⟩ := lt_some h
      refine gw_put (pc' := 64) cx (atP (psn_of hb i1)) rfl fp_X0_126 ⟨rfl, rfl⟩ dX0_serve_61 rfl e17 ?_
      refine gw_aload_n (pc' := 65) cx 3 rfl rfl dX0_serve_64 rfl ?_
      refine gw_getR (pc' := 68) cx (atC hb) rfl fl_X0_17 dX0_serve_65 rfl ?_
      refine gw_iload (pc' := 70) cx 0 rfl dX0_serve_68 rfl ?_
      obtain ⟨i18, h⟩ := chk_some h
      refine gw_aald (pc' := 71) cx (atCp hb) i18 dX0_serve_70 rfl ?_
      refine gw_aload_n (pc' := 72) cx 3 rfl rfl dX0_serve_71 rfl ?_
      refine gw_getR (pc' := 75) cx (atC hb) rfl fl_X0_17 dX0_serve_72 rfl ?_
      refine gw_iload (pc' := 77) cx 0 rfl dX0_serve_75 rfl ?_
      refine gw_aald (pc' := 78) cx (atCp hb) i18 dX0_serve_77 rfl ?_
      refine gw_iload_n (pc' := 79) cx 1 rfl rfl dX0_serve_78 rfl ?_
      obtain ⟨r20, g19, h⟩ := ob0_some h
      refine gw_cV (pc' := 82) (av := [.int r3]) (rest := [.ref (eA E (b + 4 + r6.toNatClampNeg))]) cx (k_X1_feeling E (psn_of hb i18) g19) (atP (psn_of hb i18)) (by decide) lk_X0_111 dX0_serve_79 rfl (Nat.le_of_ble_eq_true rfl) rfl ?_
      show GW E fr _ 82 _ (.int r20 :: _) _
      refine gw_iconst (pc' := 83) (v := 2) cx ci_2 dX0_serve_82 rfl ?_
      refine gw_idiv (pc' := 84) cx (by decide) dX0_serve_83 rfl ?_
      refine gw_iload_n (pc' := 85) cx 1 rfl rfl dX0_serve_84 rfl ?_
      obtain ⟨s22, g21, h⟩ := ob1_some h
      refine gw_cV (pc' := 88) (av := [.int (r20 / 2), .int r3]) (rest := []) cx (k_X1_suffer E (psn_of hb i18) g21) (atP (psn_of hb i18)) (by decide) lk_X0_114 dX0_serve_85 rfl (Nat.le_of_ble_eq_true rfl) rfl ?_
      show GW E fr _ 88 _ [] _
      refine gw_goto (pc' := 116) cx dX0_serve_88 (by decide) ?_
      exact gw_vret cx tg rfl (rtV h) dX0_serve_116
  · refine gw_if_gt_f (pc' := 20) cx c4 dX0_serve_17 ⟨21, by decide⟩ rfl ?_
    exact gw_vret cx tg rfl (rtV h) dX0_serve_20
def f_X0_passDay_L38 (ra0 : Nat) : Nat → Int32 → Sg → Option (Sg)
  | 0, _, _ => none
  | n + 1, y1, σ =>
    if (σ ra0 3) ≤ y1 then
      lt (up2 σ ra0 5 (jmin 99999 ((σ ra0 5) + 1))) fun s10 =>
      some s10
    else
      chk y1 8 <|
      ob1 (f_X1_forget (ra0 + 4 + y1.toNatClampNeg) σ) fun s14 =>
      f_X0_passDay_L38 ra0 n (y1 + 1) s14
theorem w_X0_passDay_L38 {E : Ev} {fr : Fr} {σ' : Sg} (cx : Cx E mX0_passDay 4 fr) (tg : Tg E fr none none σ') (ra0 : Nat) (hra0 : Cty ra0) : ∀ (n : Nat) (y1 : Int32) (σ : Sg), f_X0_passDay_L38 ra0 n y1 σ = some σ' → GW E fr 2 38 [(0, .ref (eA E ra0)), (1, .int y1)] [] σ := by
  intro n
  induction n with
  | zero => intro y1 σ h; cases (show (none : Option (Sg)) = _ from h)
  | succ n ih =>
    intro y1 σ h
    rw [f_X0_passDay_L38] at h
    refine gw_iload_n (pc' := 39) cx 1 rfl rfl dX0_passDay_38 rfl ?_
    refine gw_aload_n (pc' := 40) cx 0 rfl rfl dX0_passDay_39 rfl ?_
    refine gw_getI (pc' := 43) cx (atC hra0) rfl fl_X0_35 dX0_passDay_40 rfl ?_
    rcases ite_some h with ⟨c9, h⟩ | ⟨c9, h⟩
    · refine gw_ic_ge_t (pc' := 61) cx c9 dX0_passDay_43 (by decide) ?_
      refine gw_aload_n (pc' := 62) cx 0 rfl rfl dX0_passDay_61 rfl ?_
      refine gw_ldc (pc' := 64) (v := 99999) cx ct_X0_99 dX0_passDay_62 rfl ?_
      refine gw_aload_n (pc' := 65) cx 0 rfl rfl dX0_passDay_64 rfl ?_
      refine gw_getI (pc' := 68) cx (atC hra0) rfl fl_X0_45 dX0_passDay_65 rfl ?_
      refine gw_iconst (pc' := 69) (v := 1) cx ci_1 dX0_passDay_68 rfl ?_
      refine gw_iadd (pc' := 70) cx dX0_passDay_69 rfl ?_
      refine gw_mmin (pc' := 73) (rest := [.ref (eA E ra0)]) cx lm_X0_100 (by decide) (Nat.le_of_ble_eq_true rfl) dX0_passDay_70 rfl ?_
      obtain ⟨s10, e11, h⟩ := lt_some h
      refine gw_put (pc' := 76) cx (atC hra0) rfl fp_X0_45 ⟨rfl, rfl⟩ dX0_passDay_73 rfl e11 ?_
      exact gw_vret cx tg rfl (rtV h) dX0_passDay_76
    · refine gw_ic_ge_f (pc' := 46) cx c9 dX0_passDay_43 ⟨61, by decide⟩ rfl ?_
      refine gw_aload_n (pc' := 47) cx 0 rfl rfl dX0_passDay_46 rfl ?_
      refine gw_getR (pc' := 50) cx (atC hra0) rfl fl_X0_17 dX0_passDay_47 rfl ?_
      refine gw_iload_n (pc' := 51) cx 1 rfl rfl dX0_passDay_50 rfl ?_
      obtain ⟨i12, h⟩ := chk_some h
      refine gw_aald (pc' := 52) cx (atCp hra0) i12 dX0_passDay_51 rfl ?_
      obtain ⟨s14, g13, h⟩ := ob1_some h
      refine gw_cV (pc' := 55) (av := []) (rest := []) cx (k_X1_forget E (psn_of hra0 i12) g13) (atP (psn_of hra0 i12)) (by decide) lk_X0_96 dX0_passDay_52 rfl (Nat.le_of_ble_eq_true rfl) rfl ?_
      show GW E fr _ 55 _ [] _
      refine gw_iinc (pc' := 58) (v := (y1 + 1)) (lv' := [(1, .int (y1 + 1)), (0, .ref (eA E ra0))]) cx 1 rfl rfl rfl (by decide) dX0_passDay_55 rfl ?_
      refine gw_goto (pc' := 38) cx dX0_passDay_58 (by decide) ?_
      refine gw_sub [1, 0] (lv' := [(0, .ref (eA E ra0)), (1, .int (y1 + 1))]) rfl ?_
      exact ih (y1 + 1) s14 h
def f_X0_passDay_L6 (ra0 : Nat) : Nat → Int32 → Sg → Option (Sg)
  | 0, _, _ => none
  | n + 1, y1, σ =>
    if (σ ra0 3) ≤ y1 then
      f_X0_passDay_L38 ra0 FU 0 σ
    else
      ob0 (f_X4_isIn (σ ra0 7) y1 σ) fun r5 =>
      if r5 = 0 then
        ob1 (f_X0_serve ra0 y1 σ) fun s8 =>
        f_X0_passDay_L6 ra0 n (y1 + 1) s8
      else
        f_X0_passDay_L6 ra0 n (y1 + 1) σ
theorem w_X0_passDay_L6 {E : Ev} {fr : Fr} {σ' : Sg} (cx : Cx E mX0_passDay 4 fr) (tg : Tg E fr none none σ') (ra0 : Nat) (hra0 : Cty ra0) : ∀ (n : Nat) (y1 : Int32) (σ : Sg), f_X0_passDay_L6 ra0 n y1 σ = some σ' → GW E fr 2 6 [(0, .ref (eA E ra0)), (1, .int y1)] [] σ := by
  intro n
  induction n with
  | zero => intro y1 σ h; cases (show (none : Option (Sg)) = _ from h)
  | succ n ih =>
    intro y1 σ h
    rw [f_X0_passDay_L6] at h
    refine gw_iload_n (pc' := 7) cx 1 rfl rfl dX0_passDay_6 rfl ?_
    refine gw_aload_n (pc' := 8) cx 0 rfl rfl dX0_passDay_7 rfl ?_
    refine gw_getI (pc' := 11) cx (atC hra0) rfl fl_X0_35 dX0_passDay_8 rfl ?_
    rcases ite_some h with ⟨c3, h⟩ | ⟨c3, h⟩
    · refine gw_ic_ge_t (pc' := 36) cx c3 dX0_passDay_11 (by decide) ?_
      refine gw_iconst (pc' := 37) (v := 0) cx ci_0 dX0_passDay_36 rfl ?_
      refine gw_istore_n (pc' := 38) (lv' := [(1, .int 0), (0, .ref (eA E ra0))]) cx rfl rfl (by decide) dX0_passDay_37 rfl ?_
      refine gw_sub [1, 0] (lv' := [(0, .ref (eA E ra0)), (1, .int 0)]) rfl ?_
      exact w_X0_passDay_L38 cx tg ra0 hra0 FU 0 σ h
    · refine gw_ic_ge_f (pc' := 14) cx c3 dX0_passDay_11 ⟨36, by decide⟩ rfl ?_
      refine gw_aload_n (pc' := 15) cx 0 rfl rfl dX0_passDay_14 rfl ?_
      refine gw_getI (pc' := 18) cx (atC hra0) rfl fl_X0_48 dX0_passDay_15 rfl ?_
      refine gw_iload_n (pc' := 19) cx 1 rfl rfl dX0_passDay_18 rfl ?_
      obtain ⟨r5, g4, h⟩ := ob0_some h
      refine gw_cN (pc' := 22) (av := [.int (σ ra0 7), .int y1]) (rest := []) cx (k_X4_isIn E g4) (by decide) lk_X0_88 dX0_passDay_19 rfl (Nat.le_of_ble_eq_true rfl) rfl ?_
      show GW E fr _ 22 _ (.int r5 :: _) _
      rcases ite_some h with ⟨c6, h⟩ | ⟨c6, h⟩
      · refine gw_if_ne_f (pc' := 25) cx c6 dX0_passDay_22 ⟨30, by decide⟩ rfl ?_
        refine gw_aload_n (pc' := 26) cx 0 rfl rfl dX0_passDay_25 rfl ?_
        refine gw_iload_n (pc' := 27) cx 1 rfl rfl dX0_passDay_26 rfl ?_
        obtain ⟨s8, g7, h⟩ := ob1_some h
        refine gw_cV (pc' := 30) (av := [.int y1]) (rest := []) cx (k_X0_serve E hra0 g7) (atC hra0) (by decide) lk_X0_92 dX0_passDay_27 rfl (Nat.le_of_ble_eq_true rfl) rfl ?_
        show GW E fr _ 30 _ [] _
        refine gw_iinc (pc' := 33) (v := (y1 + 1)) (lv' := [(1, .int (y1 + 1)), (0, .ref (eA E ra0))]) cx 1 rfl rfl rfl (by decide) dX0_passDay_30 rfl ?_
        refine gw_goto (pc' := 6) cx dX0_passDay_33 (by decide) ?_
        refine gw_sub [1, 0] (lv' := [(0, .ref (eA E ra0)), (1, .int (y1 + 1))]) rfl ?_
        exact ih (y1 + 1) s8 h
      · refine gw_if_ne_t (pc' := 30) cx c6 dX0_passDay_22 (by decide) ?_
        refine gw_iinc (pc' := 33) (v := (y1 + 1)) (lv' := [(1, .int (y1 + 1)), (0, .ref (eA E ra0))]) cx 1 rfl rfl rfl (by decide) dX0_passDay_30 rfl ?_
        refine gw_goto (pc' := 6) cx dX0_passDay_33 (by decide) ?_
        refine gw_sub [1, 0] (lv' := [(0, .ref (eA E ra0)), (1, .int (y1 + 1))]) rfl ?_
        exact ih (y1 + 1) σ h
def f_X0_passDay (b : Nat) (σ : Sg) : Option (Sg) :=
  ob1 (f_X0_tellSaying b σ) fun s2 =>
  f_X0_passDay_L6 b FU 0 s2
theorem k_X0_passDay (E : Ev) {b : Nat} (hb : Cty b) {σ : Sg} {σ' : Sg} (h : f_X0_passDay b σ = some σ') : Con E mX0_passDay 4 [.ref (eA E b)] σ none σ' := by
  refine con_of (by decide) (Nat.le_of_ble_eq_true rfl) (fun fr cx tg => ?_)
  show GW E fr 2 0 [(0, .ref (eA E b))] [] σ
  rw [f_X0_passDay] at h
  refine gw_aload_n (pc' := 1) cx 0 rfl rfl dX0_passDay_0 rfl ?_
  obtain ⟨s2, g1, h⟩ := ob1_some h
  refine gw_cV (pc' := 4) (av := []) (rest := []) cx (k_X0_tellSaying E hb g1) (atC hb) (by decide) lk_X0_85 dX0_passDay_1 rfl (Nat.le_of_ble_eq_true rfl) rfl ?_
  show GW E fr _ 4 _ [] _
  refine gw_iconst (pc' := 5) (v := 0) cx ci_0 dX0_passDay_4 rfl ?_
  refine gw_istore_n (pc' := 6) (lv' := [(1, .int 0), (0, .ref (eA E b))]) cx rfl rfl (by decide) dX0_passDay_5 rfl ?_
  refine gw_sub [1, 0] (lv' := [(0, .ref (eA E b)), (1, .int 0)]) rfl ?_
  exact w_X0_passDay_L6 cx tg b hb FU 0 s2 h
def f_X0_passDays_L2 (ra0 : Nat) (y1 : Int32) : Nat → Int32 → Sg → Option (Sg)
  | 0, _, _ => none
  | n + 1, y2, σ =>
    if y1 ≤ y2 then
      some σ
    else
      ob1 (f_X0_passDay ra0 σ) fun s3 =>
      f_X0_passDays_L2 ra0 y1 n (y2 + 1) s3
theorem w_X0_passDays_L2 {E : Ev} {fr : Fr} {σ' : Sg} (cx : Cx E mX0_passDays 5 fr) (tg : Tg E fr none none σ') (ra0 : Nat) (y1 : Int32) (hra0 : Cty ra0) : ∀ (n : Nat) (y2 : Int32) (σ : Sg), f_X0_passDays_L2 ra0 y1 n y2 σ = some σ' → GW E fr 3 2 [(0, .ref (eA E ra0)), (1, .int y1), (2, .int y2)] [] σ := by
  intro n
  induction n with
  | zero => intro y2 σ h; cases (show (none : Option (Sg)) = _ from h)
  | succ n ih =>
    intro y2 σ h
    rw [f_X0_passDays_L2] at h
    refine gw_iload_n (pc' := 3) cx 2 rfl rfl dX0_passDays_2 rfl ?_
    refine gw_iload_n (pc' := 4) cx 1 rfl rfl dX0_passDays_3 rfl ?_
    rcases ite_some h with ⟨c1, h⟩ | ⟨c1, h⟩
    · refine gw_ic_ge_t (pc' := 17) cx c1 dX0_passDays_4 (by decide) ?_
      exact gw_vret cx tg rfl (rtV h) dX0_passDays_17
    · refine gw_ic_ge_f (pc' := 7) cx c1 dX0_passDays_4 ⟨17, by decide⟩ rfl ?_
      refine gw_aload_n (pc' := 8) cx 0 rfl rfl dX0_passDays_7 rfl ?_
      obtain ⟨s3, g2, h⟩ := ob1_some h
      refine gw_cV (pc' := 11) (av := []) (rest := []) cx (k_X0_passDay E hra0 g2) (atC hra0) (by decide) lk_X0_78 dX0_passDays_8 rfl (Nat.le_of_ble_eq_true rfl) rfl ?_
      show GW E fr _ 11 _ [] _
      refine gw_iinc (pc' := 14) (v := (y2 + 1)) (lv' := [(2, .int (y2 + 1)), (0, .ref (eA E ra0)), (1, .int y1)]) cx 2 rfl rfl rfl (by decide) dX0_passDays_11 rfl ?_
      refine gw_goto (pc' := 2) cx dX0_passDays_14 (by decide) ?_
      refine gw_sub [1, 2, 0] (lv' := [(0, .ref (eA E ra0)), (1, .int y1), (2, .int (y2 + 1))]) rfl ?_
      exact ih (y2 + 1) s3 h
def f_X0_passDays (b : Nat) (x1 : Int32) (σ : Sg) : Option (Sg) :=
  f_X0_passDays_L2 b x1 FU 0 σ
theorem k_X0_passDays (E : Ev) {b : Nat} {x1 : Int32} (hb : Cty b) {σ : Sg} {σ' : Sg} (h : f_X0_passDays b x1 σ = some σ') : Con E mX0_passDays 5 [.ref (eA E b), .int x1] σ none σ' := by
  refine con_of (by decide) (Nat.le_of_ble_eq_true rfl) (fun fr cx tg => ?_)
  show GW E fr 3 0 [(0, .ref (eA E b)), (1, .int x1)] [] σ
  rw [f_X0_passDays] at h
  refine gw_iconst (pc' := 1) (v := 0) cx ci_0 dX0_passDays_0 rfl ?_
  refine gw_istore_n (pc' := 2) (lv' := [(2, .int 0), (0, .ref (eA E b)), (1, .int x1)]) cx rfl rfl (by decide) dX0_passDays_1 rfl ?_
  refine gw_sub [1, 2, 0] (lv' := [(0, .ref (eA E b)), (1, .int x1), (2, .int 0)]) rfl ?_
  exact w_X0_passDays_L2 cx tg b x1 hb FU 0 σ h
def f_X0_isEvenWithin_L2 (ra0 : Nat) (y1 : Int32) : Nat → Int32 → Sg → Option (Int32 × Sg)
  | 0, _, _ => none
  | n + 1, y2, σ =>
    if y1 ≤ y2 then
      some (0, σ)
    else
      ob1 (f_X0_passDay ra0 σ) fun s3 =>
      ob0 (f_X0_isEven ra0 s3) fun r5 =>
      if r5 = 0 then
        f_X0_isEvenWithin_L2 ra0 y1 n (y2 + 1) s3
      else
        some (1, s3)
theorem w_X0_isEvenWithin_L2 {E : Ev} {fr : Fr} {r : Int32} {σ' : Sg} (cx : Cx E mX0_isEvenWithin 5 fr) (tg : Tg E fr (some .boolean) (some (.int r)) σ') (ra0 : Nat) (y1 : Int32) (hra0 : Cty ra0) : ∀ (n : Nat) (y2 : Int32) (σ : Sg), f_X0_isEvenWithin_L2 ra0 y1 n y2 σ = some (r, σ') → GW E fr 3 2 [(0, .ref (eA E ra0)), (1, .int y1), (2, .int y2)] [] σ := by
  intro n
  induction n with
  | zero => intro y2 σ h; cases (show (none : Option (Int32 × Sg)) = _ from h)
  | succ n ih =>
    intro y2 σ h
    rw [f_X0_isEvenWithin_L2] at h
    refine gw_iload_n (pc' := 3) cx 2 rfl rfl dX0_isEvenWithin_2 rfl ?_
    refine gw_iload_n (pc' := 4) cx 1 rfl rfl dX0_isEvenWithin_3 rfl ?_
    rcases ite_some h with ⟨c1, h⟩ | ⟨c1, h⟩
    · refine gw_ic_ge_t (pc' := 26) cx c1 dX0_isEvenWithin_4 (by decide) ?_
      refine gw_iconst (pc' := 27) (v := 0) cx ci_0 dX0_isEvenWithin_26 rfl ?_
      exact gw_zret cx tg (Or.inl rfl) (rt1 h) (rt2 h) dX0_isEvenWithin_27
    · refine gw_ic_ge_f (pc' := 7) cx c1 dX0_isEvenWithin_4 ⟨26, by decide⟩ rfl ?_
      refine gw_aload_n (pc' := 8) cx 0 rfl rfl dX0_isEvenWithin_7 rfl ?_
      obtain ⟨s3, g2, h⟩ := ob1_some h
      refine gw_cV (pc' := 11) (av := []) (rest := []) cx (k_X0_passDay E hra0 g2) (atC hra0) (by decide) lk_X0_78 dX0_isEvenWithin_8 rfl (Nat.le_of_ble_eq_true rfl) rfl ?_
      show GW E fr _ 11 _ [] _
      refine gw_aload_n (pc' := 12) cx 0 rfl rfl dX0_isEvenWithin_11 rfl ?_
      obtain ⟨r5, g4, h⟩ := ob0_some h
      refine gw_cV (pc' := 15) (av := []) (rest := []) cx (k_X0_isEven E hra0 g4) (atC hra0) (by decide) lk_X0_81 dX0_isEvenWithin_12 rfl (Nat.le_of_ble_eq_true rfl) rfl ?_
      show GW E fr _ 15 _ (.int r5 :: _) _
      rcases ite_some h with ⟨c6, h⟩ | ⟨c6, h⟩
      · refine gw_if_eq_t (pc' := 20) cx c6 dX0_isEvenWithin_15 (by decide) ?_
        refine gw_iinc (pc' := 23) (v := (y2 + 1)) (lv' := [(2, .int (y2 + 1)), (0, .ref (eA E ra0)), (1, .int y1)]) cx 2 rfl rfl rfl (by decide) dX0_isEvenWithin_20 rfl ?_
        refine gw_goto (pc' := 2) cx dX0_isEvenWithin_23 (by decide) ?_
        refine gw_sub [1, 2, 0] (lv' := [(0, .ref (eA E ra0)), (1, .int y1), (2, .int (y2 + 1))]) rfl ?_
        exact ih (y2 + 1) s3 h
      · refine gw_if_eq_f (pc' := 18) cx c6 dX0_isEvenWithin_15 ⟨20, by decide⟩ rfl ?_
        refine gw_iconst (pc' := 19) (v := 1) cx ci_1 dX0_isEvenWithin_18 rfl ?_
        exact gw_zret cx tg (Or.inr rfl) (rt1 h) (rt2 h) dX0_isEvenWithin_19
def f_X0_isEvenWithin (b : Nat) (x1 : Int32) (σ : Sg) : Option (Int32 × Sg) :=
  f_X0_isEvenWithin_L2 b x1 FU 0 σ
theorem k_X0_isEvenWithin (E : Ev) {b : Nat} {x1 : Int32} (hb : Cty b) {σ : Sg} {r : Int32} {σ' : Sg} (h : f_X0_isEvenWithin b x1 σ = some (r, σ')) : Con E mX0_isEvenWithin 5 [.ref (eA E b), .int x1] σ (some (.int r)) σ' := by
  refine con_of (by decide) (Nat.le_of_ble_eq_true rfl) (fun fr cx tg => ?_)
  show GW E fr 3 0 [(0, .ref (eA E b)), (1, .int x1)] [] σ
  rw [f_X0_isEvenWithin] at h
  refine gw_iconst (pc' := 1) (v := 0) cx ci_0 dX0_isEvenWithin_0 rfl ?_
  refine gw_istore_n (pc' := 2) (lv' := [(2, .int 0), (0, .ref (eA E b)), (1, .int x1)]) cx rfl rfl (by decide) dX0_isEvenWithin_1 rfl ?_
  refine gw_sub [1, 2, 0] (lv' := [(0, .ref (eA E b)), (1, .int x1), (2, .int 0)]) rfl ?_
  exact w_X0_isEvenWithin_L2 cx tg b x1 hb FU 0 σ h
def f_X0_keepsHints_L7 (ra0 : Nat) (y1 : Int32) (y2 : Int32) : Nat → Int32 → Sg → Option (Int32 × Sg)
  | 0, _, _ => none
  | n + 1, y3, σ =>
    if y1 ≤ y3 then
      if (σ ra0 4) = y2 then
        some (1, σ)
      else
        some (0, σ)
    else
      if (σ ra0 4) = y2 then
        ob1 (f_X0_passDay ra0 σ) fun s5 =>
        f_X0_keepsHints_L7 ra0 y1 y2 n (y3 + 1) s5
      else
        some (0, σ)
theorem w_X0_keepsHints_L7 {E : Ev} {fr : Fr} {r : Int32} {σ' : Sg} (cx : Cx E mX0_keepsHints 5 fr) (tg : Tg E fr (some .boolean) (some (.int r)) σ') (ra0 : Nat) (y1 : Int32) (y2 : Int32) (hra0 : Cty ra0) : ∀ (n : Nat) (y3 : Int32) (σ : Sg), f_X0_keepsHints_L7 ra0 y1 y2 n y3 σ = some (r, σ') → GW E fr 4 7 [(0, .ref (eA E ra0)), (1, .int y1), (2, .int y2), (3, .int y3)] [] σ := by
  intro n
  induction n with
  | zero => intro y3 σ h; cases (show (none : Option (Int32 × Sg)) = _ from h)
  | succ n ih =>
    intro y3 σ h
    rw [f_X0_keepsHints_L7] at h
    refine gw_iload_n (pc' := 8) cx 3 rfl rfl dX0_keepsHints_7 rfl ?_
    refine gw_iload_n (pc' := 9) cx 1 rfl rfl dX0_keepsHints_8 rfl ?_
    rcases ite_some h with ⟨c1, h⟩ | ⟨c1, h⟩
    · refine gw_ic_ge_t (pc' := 30) cx c1 dX0_keepsHints_9 (by decide) ?_
      refine gw_aload_n (pc' := 31) cx 0 rfl rfl dX0_keepsHints_30 rfl ?_
      refine gw_getI (pc' := 34) cx (atC hra0) rfl fl_X0_42 dX0_keepsHints_31 rfl ?_
      refine gw_iload_n (pc' := 35) cx 2 rfl rfl dX0_keepsHints_34 rfl ?_
      rcases ite_some h with ⟨c2, h⟩ | ⟨c2, h⟩
      · refine gw_ic_ne_f (pc' := 38) cx c2 dX0_keepsHints_35 ⟨42, by decide⟩ rfl ?_
        refine gw_iconst (pc' := 39) (v := 1) cx ci_1 dX0_keepsHints_38 rfl ?_
        refine gw_goto (pc' := 43) cx dX0_keepsHints_39 (by decide) ?_
        exact gw_zret cx tg (Or.inr rfl) (rt1 h) (rt2 h) dX0_keepsHints_43
      · refine gw_ic_ne_t (pc' := 42) cx c2 dX0_keepsHints_35 (by decide) ?_
        refine gw_iconst (pc' := 43) (v := 0) cx ci_0 dX0_keepsHints_42 rfl ?_
        exact gw_zret cx tg (Or.inl rfl) (rt1 h) (rt2 h) dX0_keepsHints_43
    · refine gw_ic_ge_f (pc' := 12) cx c1 dX0_keepsHints_9 ⟨30, by decide⟩ rfl ?_
      refine gw_aload_n (pc' := 13) cx 0 rfl rfl dX0_keepsHints_12 rfl ?_
      refine gw_getI (pc' := 16) cx (atC hra0) rfl fl_X0_42 dX0_keepsHints_13 rfl ?_
      refine gw_iload_n (pc' := 17) cx 2 rfl rfl dX0_keepsHints_16 rfl ?_
      rcases ite_some h with ⟨c3, h⟩ | ⟨c3, h⟩
      · refine gw_ic_ne_f (pc' := 20) cx c3 dX0_keepsHints_17 ⟨30, by decide⟩ rfl ?_
        refine gw_aload_n (pc' := 21) cx 0 rfl rfl dX0_keepsHints_20 rfl ?_
        obtain ⟨s5, g4, h⟩ := ob1_some h
        refine gw_cV (pc' := 24) (av := []) (rest := []) cx (k_X0_passDay E hra0 g4) (atC hra0) (by decide) lk_X0_78 dX0_keepsHints_21 rfl (Nat.le_of_ble_eq_true rfl) rfl ?_
        show GW E fr _ 24 _ [] _
        refine gw_iinc (pc' := 27) (v := (y3 + 1)) (lv' := [(3, .int (y3 + 1)), (0, .ref (eA E ra0)), (1, .int y1), (2, .int y2)]) cx 3 rfl rfl rfl (by decide) dX0_keepsHints_24 rfl ?_
        refine gw_goto (pc' := 7) cx dX0_keepsHints_27 (by decide) ?_
        refine gw_sub [1, 2, 3, 0] (lv' := [(0, .ref (eA E ra0)), (1, .int y1), (2, .int y2), (3, .int (y3 + 1))]) rfl ?_
        exact ih (y3 + 1) s5 h
      · refine gw_ic_ne_t (pc' := 30) cx c3 dX0_keepsHints_17 (by decide) ?_
        refine gw_aload_n (pc' := 31) cx 0 rfl rfl dX0_keepsHints_30 rfl ?_
        refine gw_getI (pc' := 34) cx (atC hra0) rfl fl_X0_42 dX0_keepsHints_31 rfl ?_
        refine gw_iload_n (pc' := 35) cx 2 rfl rfl dX0_keepsHints_34 rfl ?_
        refine gw_ic_ne_t (pc' := 42) cx c3 dX0_keepsHints_35 (by decide) ?_
        refine gw_iconst (pc' := 43) (v := 0) cx ci_0 dX0_keepsHints_42 rfl ?_
        exact gw_zret cx tg (Or.inl rfl) (rt1 h) (rt2 h) dX0_keepsHints_43
def f_X0_keepsHints (b : Nat) (x1 : Int32) (σ : Sg) : Option (Int32 × Sg) :=
  f_X0_keepsHints_L7 b x1 (σ b 4) FU 0 σ
theorem k_X0_keepsHints (E : Ev) {b : Nat} {x1 : Int32} (hb : Cty b) {σ : Sg} {r : Int32} {σ' : Sg} (h : f_X0_keepsHints b x1 σ = some (r, σ')) : Con E mX0_keepsHints 5 [.ref (eA E b), .int x1] σ (some (.int r)) σ' := by
  refine con_of (by decide) (Nat.le_of_ble_eq_true rfl) (fun fr cx tg => ?_)
  show GW E fr 4 0 [(0, .ref (eA E b)), (1, .int x1)] [] σ
  rw [f_X0_keepsHints] at h
  refine gw_aload_n (pc' := 1) cx 0 rfl rfl dX0_keepsHints_0 rfl ?_
  refine gw_getI (pc' := 4) cx (atC hb) rfl fl_X0_42 dX0_keepsHints_1 rfl ?_
  refine gw_istore_n (pc' := 5) (lv' := [(2, .int (σ b 4)), (0, .ref (eA E b)), (1, .int x1)]) cx rfl rfl (by decide) dX0_keepsHints_4 rfl ?_
  refine gw_iconst (pc' := 6) (v := 0) cx ci_0 dX0_keepsHints_5 rfl ?_
  refine gw_istore_n (pc' := 7) (lv' := [(3, .int 0), (2, .int (σ b 4)), (0, .ref (eA E b)), (1, .int x1)]) cx rfl rfl (by decide) dX0_keepsHints_6 rfl ?_
  refine gw_sub [2, 3, 1, 0] (lv' := [(0, .ref (eA E b)), (1, .int x1), (2, .int (σ b 4)), (3, .int 0)]) rfl ?_
  exact w_X0_keepsHints_L7 cx tg b x1 (σ b 4) hb FU 0 σ h
