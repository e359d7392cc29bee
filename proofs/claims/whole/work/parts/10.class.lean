def f_X4_found (x1 : Int32) (σ : Sg) : Option (Int32 × Sg) :=
  ob0 (f_X4_within ((-1000001) - x1) 0 6 σ) fun r2 =>
  if r2 = 0 then
    some (x1, σ)
  else
    chk ((-1000001) - x1) 7 <|
    lt (up2 σ 48 ((-1000001) - x1).toNatClampNeg ((σ 48 ((-1000001) - x1).toNatClampNeg) + 1)) fun s5 =>
    some (x1, s5)
theorem k_X4_found (E : Ev) {x1 : Int32} {σ : Sg} {r : Int32} {σ' : Sg} (h : f_X4_found x1 σ = some (r, σ')) : Con E mX4_found 1 [.ref (eA E 0), .int x1] σ (some (.int r)) σ' := by
  refine con_of (by decide) (Nat.le_of_ble_eq_true rfl) (fun fr cx tg => ?_)
  show GW E fr 3 0 [(0, .ref (eA E 0)), (1, .int x1)] [] σ
  rw [f_X4_found] at h
  refine gw_ldc (pc' := 2) (v := (-1000001)) cx ct_X4_44 dX4_found_0 rfl ?_
  refine gw_iload_n (pc' := 3) cx 1 rfl rfl dX4_found_2 rfl ?_
  refine gw_isub (pc' := 4) cx dX4_found_3 rfl ?_
  refine gw_istore_n (pc' := 5) (lv' := [(2, .int ((-1000001) - x1)), (0, .ref (eA E 0)), (1, .int x1)]) cx rfl rfl (by decide) dX4_found_4 rfl ?_
  refine gw_iload_n (pc' := 6) cx 0 rfl rfl dX4_found_5 rfl ?_
  refine gw_iconst (pc' := 7) (v := 0) cx ci_0 dX4_found_6 rfl ?_
  refine gw_bipush (pc' := 9) (v := 6) cx cb_6 dX4_found_7 rfl ?_
  obtain ⟨r2, g1, h⟩ := ob0_some h
  refine gw_cS (pc' := 12) (av := [.int ((-1000001) - x1), .int 0, .int 6]) (rest := []) cx (k_X4_within E g1) (by decide) lk_X4_40 dX4_found_9 rfl (Nat.le_of_ble_eq_true rfl) rfl ?_
  show GW E fr _ 12 _ (.int r2 :: _) _
  rcases ite_some h with ⟨c3, h⟩ | ⟨c3, h⟩
  · refine gw_if_eq_t (pc' := 25) cx c3 dX4_found_12 (by decide) ?_
    refine gw_iload_n (pc' := 26) cx 2 rfl rfl dX4_found_25 rfl ?_
    exact gw_iret cx tg (rt1 h) (rt2 h) dX4_found_26
  · refine gw_if_eq_f (pc' := 15) cx c3 dX4_found_12 ⟨25, by decide⟩ rfl ?_
    refine gw_aload_n (pc' := 16) cx 1 rfl rfl dX4_found_15 rfl ?_
    refine gw_getR (pc' := 19) cx at0 rfl fl_X4_36 dX4_found_16 rfl ?_
    refine gw_iload_n (pc' := 20) cx 0 rfl rfl dX4_found_19 rfl ?_
    refine gw_dup2 (pc' := 21) cx rfl rfl dX4_found_20 rfl ?_
    obtain ⟨i4, h⟩ := chk_some h
    refine gw_iald (pc' := 22) cx at48 i4 rfl dX4_found_21 rfl ?_
    refine gw_iconst (pc' := 23) (v := 1) cx ci_1 dX4_found_22 rfl ?_
    refine gw_iadd (pc' := 24) cx dX4_found_23 rfl ?_
    obtain ⟨s5, e6, h⟩ := lt_some h
    refine gw_iast (pc' := 25) cx at48 i4 rfl dX4_found_24 rfl e6 ?_
    refine gw_iload_n (pc' := 26) cx 2 rfl rfl dX4_found_25 rfl ?_
    exact gw_iret cx tg (rt1 h) (rt2 h) dX4_found_26
def f_X4_say (x1 : Int32) (x2 : Int32) (x3 : Int32) (σ : Sg) : Option (Int32 × Sg) :=
  ob0 (f_X4_within x1 0 5 σ) fun r2 =>
  if r2 = 0 then
    ob2 (f_X4_found (-1000001) σ) fun r5 s6 =>
    some (r5, s6)
  else
    ob0 (f_X4_within x2 0 7 σ) fun r8 =>
    if r8 = 0 then
      ob2 (f_X4_found (-1000001) σ) fun r11 s12 =>
      some (r11, s12)
    else
      ob0 (f_X4_within x3 0 20 σ) fun r14 =>
      if r14 = 0 then
        ob2 (f_X4_found (-1000001) σ) fun r17 s18 =>
        some (r17, s18)
      else
        chk x1 6 <|
        ob0 (f_X4_saying x2 x3 σ) fun r21 =>
        lt (up2 σ (1 + 1) x1.toNatClampNeg r21) fun s22 =>
        some ((σ (1 + 1) x1.toNatClampNeg), s22)
theorem k_X4_say (E : Ev) {x1 : Int32} {x2 : Int32} {x3 : Int32} {σ : Sg} {r : Int32} {σ' : Sg} (h : f_X4_say x1 x2 x3 σ = some (r, σ')) : Con E mX4_say 2 [.ref (eA E 0), .int x1, .int x2, .int x3] σ (some (.int r)) σ' := by
  refine con_of (by decide) (Nat.le_of_ble_eq_true rfl) (fun fr cx tg => ?_)
  show GW E fr 5 0 [(0, .ref (eA E 0)), (1, .int x1), (2, .int x2), (3, .int x3)] [] σ
  rw [f_X4_say] at h
  refine gw_iload_n (pc' := 1) cx 1 rfl rfl dX4_say_0 rfl ?_
  refine gw_iconst (pc' := 2) (v := 0) cx ci_0 dX4_say_1 rfl ?_
  refine gw_iconst (pc' := 3) (v := 5) cx ci_5 dX4_say_2 rfl ?_
  obtain ⟨r2, g1, h⟩ := ob0_some h
  refine gw_cS (pc' := 6) (av := [.int x1, .int 0, .int 5]) (rest := []) cx (k_X4_within E g1) (by decide) lk_X4_40 dX4_say_3 rfl (Nat.le_of_ble_eq_true rfl) rfl ?_
  show GW E fr _ 6 _ (.int r2 :: _) _
  rcases ite_some h with ⟨c3, h⟩ | ⟨c3, h⟩
  · refine gw_if_eq_t (pc' := 29) cx c3 dX4_say_6 (by decide) ?_
    refine gw_aload_n (pc' := 30) cx 0 rfl rfl dX4_say_29 rfl ?_
    refine gw_ldc (pc' := 32) (v := (-1000001)) cx ct_X4_44 dX4_say_30 rfl ?_
    obtain ⟨r5, s6, g4, h⟩ := ob2_some h
    refine gw_cV (pc' := 35) (av := [.int (-1000001)]) (rest := []) cx (k_X4_found E g4) at0 (by decide) lk_X4_45 dX4_say_32 rfl (Nat.le_of_ble_eq_true rfl) rfl ?_
    show GW E fr _ 35 _ (.int r5 :: _) _
    exact gw_iret cx tg (rt1 h) (rt2 h) dX4_say_35
  · refine gw_if_eq_f (pc' := 9) cx c3 dX4_say_6 ⟨29, by decide⟩ rfl ?_
    refine gw_iload_n (pc' := 10) cx 2 rfl rfl dX4_say_9 rfl ?_
    refine gw_iconst (pc' := 11) (v := 0) cx ci_0 dX4_say_10 rfl ?_
    refine gw_bipush (pc' := 13) (v := 7) cx cb_7 dX4_say_11 rfl ?_
    obtain ⟨r8, g7, h⟩ := ob0_some h
    refine gw_cS (pc' := 16) (av := [.int x2, .int 0, .int 7]) (rest := []) cx (k_X4_within E g7) (by decide) lk_X4_40 dX4_say_13 rfl (Nat.le_of_ble_eq_true rfl) rfl ?_
    show GW E fr _ 16 _ (.int r8 :: _) _
    rcases ite_some h with ⟨c9, h⟩ | ⟨c9, h⟩
    · refine gw_if_eq_t (pc' := 29) cx c9 dX4_say_16 (by decide) ?_
      refine gw_aload_n (pc' := 30) cx 0 rfl rfl dX4_say_29 rfl ?_
      refine gw_ldc (pc' := 32) (v := (-1000001)) cx ct_X4_44 dX4_say_30 rfl ?_
      obtain ⟨r11, s12, g10, h⟩ := ob2_some h
      refine gw_cV (pc' := 35) (av := [.int (-1000001)]) (rest := []) cx (k_X4_found E g10) at0 (by decide) lk_X4_45 dX4_say_32 rfl (Nat.le_of_ble_eq_true rfl) rfl ?_
      show GW E fr _ 35 _ (.int r11 :: _) _
      exact gw_iret cx tg (rt1 h) (rt2 h) dX4_say_35
    · refine gw_if_eq_f (pc' := 19) cx c9 dX4_say_16 ⟨29, by decide⟩ rfl ?_
      refine gw_iload_n (pc' := 20) cx 3 rfl rfl dX4_say_19 rfl ?_
      refine gw_iconst (pc' := 21) (v := 0) cx ci_0 dX4_say_20 rfl ?_
      refine gw_bipush (pc' := 23) (v := 20) cx cb_20 dX4_say_21 rfl ?_
      obtain ⟨r14, g13, h⟩ := ob0_some h
      refine gw_cS (pc' := 26) (av := [.int x3, .int 0, .int 20]) (rest := []) cx (k_X4_within E g13) (by decide) lk_X4_40 dX4_say_23 rfl (Nat.le_of_ble_eq_true rfl) rfl ?_
      show GW E fr _ 26 _ (.int r14 :: _) _
      rcases ite_some h with ⟨c15, h⟩ | ⟨c15, h⟩
      · refine gw_if_ne_f (pc' := 29) cx c15 dX4_say_26 ⟨36, by decide⟩ rfl ?_
        refine gw_aload_n (pc' := 30) cx 0 rfl rfl dX4_say_29 rfl ?_
        refine gw_ldc (pc' := 32) (v := (-1000001)) cx ct_X4_44 dX4_say_30 rfl ?_
        obtain ⟨r17, s18, g16, h⟩ := ob2_some h
        refine gw_cV (pc' := 35) (av := [.int (-1000001)]) (rest := []) cx (k_X4_found E g16) at0 (by decide) lk_X4_45 dX4_say_32 rfl (Nat.le_of_ble_eq_true rfl) rfl ?_
        show GW E fr _ 35 _ (.int r17 :: _) _
        exact gw_iret cx tg (rt1 h) (rt2 h) dX4_say_35
      · refine gw_if_ne_t (pc' := 36) cx c15 dX4_say_26 (by decide) ?_
        refine gw_aload_n (pc' := 37) cx 0 rfl rfl dX4_say_36 rfl ?_
        refine gw_getR (pc' := 40) cx at0 rfl fl_X4_12 dX4_say_37 rfl ?_
        refine gw_getR (pc' := 43) cx (atC cty1) rfl fl_X4_49 dX4_say_40 rfl ?_
        refine gw_iload_n (pc' := 44) cx 1 rfl rfl dX4_say_43 rfl ?_
        obtain ⟨i19, h⟩ := chk_some h
        refine gw_iald (pc' := 45) cx (atCl cty1) i19 rfl dX4_say_44 rfl ?_
        refine gw_istore (pc' := 47) (lv' := [(4, .int (σ (1 + 1) x1.toNatClampNeg)), (0, .ref (eA E 0)), (1, .int x1), (2, .int x2), (3, .int x3)]) cx rfl (by decide) dX4_say_45 rfl ?_
        refine gw_aload_n (pc' := 48) cx 1 rfl rfl dX4_say_47 rfl ?_
        refine gw_getR (pc' := 51) cx at0 rfl fl_X4_12 dX4_say_48 rfl ?_
        refine gw_getR (pc' := 54) cx (atC cty1) rfl fl_X4_49 dX4_say_51 rfl ?_
        refine gw_iload_n (pc' := 55) cx 2 rfl rfl dX4_say_54 rfl ?_
        refine gw_iload_n (pc' := 56) cx 3 rfl rfl dX4_say_55 rfl ?_
        refine gw_iload_n (pc' := 57) cx 4 rfl rfl dX4_say_56 rfl ?_
        obtain ⟨r21, g20, h⟩ := ob0_some h
        refine gw_cS (pc' := 60) (av := [.int x2, .int x3]) (rest := [.int x1, .ref (eA E (1 + 1))]) cx (k_X4_saying E g20) (by decide) lk_X4_52 dX4_say_57 rfl (Nat.le_of_ble_eq_true rfl) rfl ?_
        show GW E fr _ 60 _ (.int r21 :: _) _
        obtain ⟨s22, e23, h⟩ := lt_some h
        refine gw_iast (pc' := 61) cx (atCl cty1) i19 rfl dX4_say_60 rfl e23 ?_
        refine gw_iload (pc' := 63) cx 0 rfl dX4_say_61 rfl ?_
        exact gw_iret cx tg (rt1 h) (rt2 h) dX4_say_63
def f_X4_said (x1 : Int32) (σ : Sg) : Option (Int32 × Sg) :=
  ob0 (f_X4_within x1 0 5 σ) fun r2 =>
  if r2 = 0 then
    ob2 (f_X4_found (-1000001) σ) fun r5 s6 =>
    some (r5, s6)
  else
    chk x1 6 <|
    some ((σ (1 + 1) x1.toNatClampNeg), σ)
theorem k_X4_said (E : Ev) {x1 : Int32} {σ : Sg} {r : Int32} {σ' : Sg} (h : f_X4_said x1 σ = some (r, σ')) : Con E mX4_said 2 [.ref (eA E 0), .int x1] σ (some (.int r)) σ' := by
  refine con_of (by decide) (Nat.le_of_ble_eq_true rfl) (fun fr cx tg => ?_)
  show GW E fr 2 0 [(0, .ref (eA E 0)), (1, .int x1)] [] σ
  rw [f_X4_said] at h
  refine gw_iload_n (pc' := 1) cx 1 rfl rfl dX4_said_0 rfl ?_
  refine gw_iconst (pc' := 2) (v := 0) cx ci_0 dX4_said_1 rfl ?_
  refine gw_iconst (pc' := 3) (v := 5) cx ci_5 dX4_said_2 rfl ?_
  obtain ⟨r2, g1, h⟩ := ob0_some h
  refine gw_cS (pc' := 6) (av := [.int x1, .int 0, .int 5]) (rest := []) cx (k_X4_within E g1) (by decide) lk_X4_40 dX4_said_3 rfl (Nat.le_of_ble_eq_true rfl) rfl ?_
  show GW E fr _ 6 _ (.int r2 :: _) _
  rcases ite_some h with ⟨c3, h⟩ | ⟨c3, h⟩
  · refine gw_if_eq_t (pc' := 21) cx c3 dX4_said_6 (by decide) ?_
    refine gw_aload_n (pc' := 22) cx 0 rfl rfl dX4_said_21 rfl ?_
    refine gw_ldc (pc' := 24) (v := (-1000001)) cx ct_X4_44 dX4_said_22 rfl ?_
    obtain ⟨r5, s6, g4, h⟩ := ob2_some h
    refine gw_cV (pc' := 27) (av := [.int (-1000001)]) (rest := []) cx (k_X4_found E g4) at0 (by decide) lk_X4_45 dX4_said_24 rfl (Nat.le_of_ble_eq_true rfl) rfl ?_
    show GW E fr _ 27 _ (.int r5 :: _) _
    exact gw_iret cx tg (rt1 h) (rt2 h) dX4_said_27
  · refine gw_if_eq_f (pc' := 9) cx c3 dX4_said_6 ⟨21, by decide⟩ rfl ?_
    refine gw_aload_n (pc' := 10) cx 0 rfl rfl dX4_said_9 rfl ?_
    refine gw_getR (pc' := 13) cx at0 rfl fl_X4_12 dX4_said_10 rfl ?_
    refine gw_getR (pc' := 16) cx (atC cty1) rfl fl_X4_49 dX4_said_13 rfl ?_
    refine gw_iload_n (pc' := 17) cx 1 rfl rfl dX4_said_16 rfl ?_
    obtain ⟨i7, h⟩ := chk_some h
    refine gw_iald (pc' := 18) cx (atCl cty1) i7 rfl dX4_said_17 rfl ?_
    refine gw_goto (pc' := 27) cx dX4_said_18 (by decide) ?_
    exact gw_iret cx tg (rt1 h) (rt2 h) dX4_said_27
def f_X4_person (x1 : Int32) (x2 : Int32) (σ : Sg) : Option (Int32 × Sg) :=
  ob0 (f_X4_within x1 0 6 σ) fun r2 =>
  if r2 = 0 then
    ob2 (f_X4_found (-1000001) σ) fun r5 s6 =>
    some (r5, s6)
  else
    ob0 (f_X4_within x2 0 99 σ) fun r8 =>
    if r8 = 0 then
      ob2 (f_X4_found (-1000001) σ) fun r11 s12 =>
      some (r11, s12)
    else
      if (σ 1 3) < 8 then
        ob2 (f_X0_add 1 x1 x2 σ) fun r15 s16 =>
        some (r15, s16)
      else
        ob2 (f_X4_found (-1000002) σ) fun r18 s19 =>
        some (r18, s19)
theorem k_X4_person (E : Ev) {x1 : Int32} {x2 : Int32} {σ : Sg} {r : Int32} {σ' : Sg} (h : f_X4_person x1 x2 σ = some (r, σ')) : Con E mX4_person 2 [.ref (eA E 0), .int x1, .int x2] σ (some (.int r)) σ' := by
  refine con_of (by decide) (Nat.le_of_ble_eq_true rfl) (fun fr cx tg => ?_)
  show GW E fr 3 0 [(0, .ref (eA E 0)), (1, .int x1), (2, .int x2)] [] σ
  rw [f_X4_person] at h
  refine gw_iload_n (pc' := 1) cx 1 rfl rfl dX4_person_0 rfl ?_
  refine gw_iconst (pc' := 2) (v := 0) cx ci_0 dX4_person_1 rfl ?_
  refine gw_bipush (pc' := 4) (v := 6) cx cb_6 dX4_person_2 rfl ?_
  obtain ⟨r2, g1, h⟩ := ob0_some h
  refine gw_cS (pc' := 7) (av := [.int x1, .int 0, .int 6]) (rest := []) cx (k_X4_within E g1) (by decide) lk_X4_40 dX4_person_4 rfl (Nat.le_of_ble_eq_true rfl) rfl ?_
  show GW E fr _ 7 _ (.int r2 :: _) _
  rcases ite_some h with ⟨c3, h⟩ | ⟨c3, h⟩
  · refine gw_if_eq_t (pc' := 20) cx c3 dX4_person_7 (by decide) ?_
    refine gw_aload_n (pc' := 21) cx 0 rfl rfl dX4_person_20 rfl ?_
    refine gw_ldc (pc' := 23) (v := (-1000001)) cx ct_X4_44 dX4_person_21 rfl ?_
    obtain ⟨r5, s6, g4, h⟩ := ob2_some h
    refine gw_cV (pc' := 26) (av := [.int (-1000001)]) (rest := []) cx (k_X4_found E g4) at0 (by decide) lk_X4_45 dX4_person_23 rfl (Nat.le_of_ble_eq_true rfl) rfl ?_
    show GW E fr _ 26 _ (.int r5 :: _) _
    exact gw_iret cx tg (rt1 h) (rt2 h) dX4_person_26
  · refine gw_if_eq_f (pc' := 10) cx c3 dX4_person_7 ⟨20, by decide⟩ rfl ?_
    refine gw_iload_n (pc' := 11) cx 2 rfl rfl dX4_person_10 rfl ?_
    refine gw_iconst (pc' := 12) (v := 0) cx ci_0 dX4_person_11 rfl ?_
    refine gw_bipush (pc' := 14) (v := 99) cx cb_99 dX4_person_12 rfl ?_
    obtain ⟨r8, g7, h⟩ := ob0_some h
    refine gw_cS (pc' := 17) (av := [.int x2, .int 0, .int 99]) (rest := []) cx (k_X4_within E g7) (by decide) lk_X4_40 dX4_person_14 rfl (Nat.le_of_ble_eq_true rfl) rfl ?_
    show GW E fr _ 17 _ (.int r8 :: _) _
    rcases ite_some h with ⟨c9, h⟩ | ⟨c9, h⟩
    · refine gw_if_ne_f (pc' := 20) cx c9 dX4_person_17 ⟨27, by decide⟩ rfl ?_
      refine gw_aload_n (pc' := 21) cx 0 rfl rfl dX4_person_20 rfl ?_
      refine gw_ldc (pc' := 23) (v := (-1000001)) cx ct_X4_44 dX4_person_21 rfl ?_
      obtain ⟨r11, s12, g10, h⟩ := ob2_some h
      refine gw_cV (pc' := 26) (av := [.int (-1000001)]) (rest := []) cx (k_X4_found E g10) at0 (by decide) lk_X4_45 dX4_person_23 rfl (Nat.le_of_ble_eq_true rfl) rfl ?_
      show GW E fr _ 26 _ (.int r11 :: _) _
      exact gw_iret cx tg (rt1 h) (rt2 h) dX4_person_26
    · refine gw_if_ne_t (pc' := 27) cx c9 dX4_person_17 (by decide) ?_
      refine gw_aload_n (pc' := 28) cx 0 rfl rfl dX4_person_27 rfl ?_
      refine gw_getR (pc' := 31) cx at0 rfl fl_X4_12 dX4_person_28 rfl ?_
      refine gw_getI (pc' := 34) cx (atC cty1) rfl fl_X4_56 dX4_person_31 rfl ?_
      refine gw_bipush (pc' := 36) (v := 8) cx cb_8 dX4_person_34 rfl ?_
      rcases ite_some h with ⟨c13, h⟩ | ⟨c13, h⟩
      · refine gw_ic_lt_t (pc' := 46) cx c13 dX4_person_36 (by decide) ?_
        refine gw_aload_n (pc' := 47) cx 0 rfl rfl dX4_person_46 rfl ?_
        refine gw_getR (pc' := 50) cx at0 rfl fl_X4_12 dX4_person_47 rfl ?_
        refine gw_iload_n (pc' := 51) cx 1 rfl rfl dX4_person_50 rfl ?_
        refine gw_iload_n (pc' := 52) cx 2 rfl rfl dX4_person_51 rfl ?_
        obtain ⟨r15, s16, g14, h⟩ := ob2_some h
        refine gw_cV (pc' := 55) (av := [.int x1, .int x2]) (rest := []) cx (k_X0_add E cty1 g14) (atC cty1) (by decide) lk_X4_61 dX4_person_52 rfl (Nat.le_of_ble_eq_true rfl) rfl ?_
        show GW E fr _ 55 _ (.int r15 :: _) _
        exact gw_iret cx tg (rt1 h) (rt2 h) dX4_person_55
      · refine gw_ic_lt_f (pc' := 39) cx c13 dX4_person_36 ⟨46, by decide⟩ rfl ?_
        refine gw_aload_n (pc' := 40) cx 0 rfl rfl dX4_person_39 rfl ?_
        refine gw_ldc (pc' := 42) (v := (-1000002)) cx ct_X4_60 dX4_person_40 rfl ?_
        obtain ⟨r18, s19, g17, h⟩ := ob2_some h
        refine gw_cV (pc' := 45) (av := [.int (-1000002)]) (rest := []) cx (k_X4_found E g17) at0 (by decide) lk_X4_45 dX4_person_42 rfl (Nat.le_of_ble_eq_true rfl) rfl ?_
        show GW E fr _ 45 _ (.int r18 :: _) _
        exact gw_iret cx tg (rt1 h) (rt2 h) dX4_person_45
def f_X4_of (x1 : Int32) (x2 : Int32) (σ : Sg) : Option (Int32 × Sg) :=
  ob0 (f_X0_has 1 x1 σ) fun r2 =>
  if r2 = 0 then
    ob2 (f_X4_found (-1000001) σ) fun r5 s6 =>
    some (r5, s6)
  else
    ob0 (f_X4_within x2 0 7 σ) fun r8 =>
    if r8 = 0 then
      ob2 (f_X4_found (-1000001) σ) fun r11 s12 =>
      some (r11, s12)
    else
      chk x1 8 <|
      if x2 = 5 then
        ob0 (f_X1_asking (1 + 4 + x1.toNatClampNeg) (σ 1 5) σ) fun r16 =>
        some (r16, σ)
      else
        if x2 = 6 then
          ob0 (f_X1_room (1 + 4 + x1.toNatClampNeg) σ) fun r19 =>
          some (r19, σ)
        else
          if x2 = 7 then
            ob0 (f_X1_forgetting (1 + 4 + x1.toNatClampNeg) σ) fun r22 =>
            some (r22, σ)
          else
            ob0 (f_X1_attribute (1 + 4 + x1.toNatClampNeg) x2 σ) fun r24 =>
            some (r24, σ)
theorem k_X4_of (E : Ev) {x1 : Int32} {x2 : Int32} {σ : Sg} {r : Int32} {σ' : Sg} (h : f_X4_of x1 x2 σ = some (r, σ')) : Con E mX4_of 2 [.ref (eA E 0), .int x1, .int x2] σ (some (.int r)) σ' := by
  refine con_of (by decide) (Nat.le_of_ble_eq_true rfl) (fun fr cx tg => ?_)
  show GW E fr 4 0 [(0, .ref (eA E 0)), (1, .int x1), (2, .int x2)] [] σ
  rw [f_X4_of] at h
  refine gw_aload_n (pc' := 1) cx 0 rfl rfl dX4_of_0 rfl ?_
  refine gw_getR (pc' := 4) cx at0 rfl fl_X4_12 dX4_of_1 rfl ?_
  refine gw_iload_n (pc' := 5) cx 1 rfl rfl dX4_of_4 rfl ?_
  obtain ⟨r2, g1, h⟩ := ob0_some h
  refine gw_cV (pc' := 8) (av := [.int x1]) (rest := []) cx (k_X0_has E cty1 g1) (atC cty1) (by decide) lk_X4_64 dX4_of_5 rfl (Nat.le_of_ble_eq_true rfl) rfl ?_
  show GW E fr _ 8 _ (.int r2 :: _) _
  rcases ite_some h with ⟨c3, h⟩ | ⟨c3, h⟩
  · refine gw_if_eq_t (pc' := 21) cx c3 dX4_of_8 (by decide) ?_
    refine gw_aload_n (pc' := 22) cx 0 rfl rfl dX4_of_21 rfl ?_
    refine gw_ldc (pc' := 24) (v := (-1000001)) cx ct_X4_44 dX4_of_22 rfl ?_
    obtain ⟨r5, s6, g4, h⟩ := ob2_some h
    refine gw_cV (pc' := 27) (av := [.int (-1000001)]) (rest := []) cx (k_X4_found E g4) at0 (by decide) lk_X4_45 dX4_of_24 rfl (Nat.le_of_ble_eq_true rfl) rfl ?_
    show GW E fr _ 27 _ (.int r5 :: _) _
    exact gw_iret cx tg (rt1 h) (rt2 h) dX4_of_27
  · refine gw_if_eq_f (pc' := 11) cx c3 dX4_of_8 ⟨21, by decide⟩ rfl ?_
    refine gw_iload_n (pc' := 12) cx 2 rfl rfl dX4_of_11 rfl ?_
    refine gw_iconst (pc' := 13) (v := 0) cx ci_0 dX4_of_12 rfl ?_
    refine gw_bipush (pc' := 15) (v := 7) cx cb_7 dX4_of_13 rfl ?_
    obtain ⟨r8, g7, h⟩ := ob0_some h
    refine gw_cS (pc' := 18) (av := [.int x2, .int 0, .int 7]) (rest := []) cx (k_X4_within E g7) (by decide) lk_X4_40 dX4_of_15 rfl (Nat.le_of_ble_eq_true rfl) rfl ?_
    show GW E fr _ 18 _ (.int r8 :: _) _
    rcases ite_some h with ⟨c9, h⟩ | ⟨c9, h⟩
    · refine gw_if_ne_f (pc' := 21) cx c9 dX4_of_18 ⟨28, by decide⟩ rfl ?_
      refine gw_aload_n (pc' := 22) cx 0 rfl rfl dX4_of_21 rfl ?_
      refine gw_ldc (pc' := 24) (v := (-1000001)) cx ct_X4_44 dX4_of_22 rfl ?_
      obtain ⟨r11, s12, g10, h⟩ := ob2_some h
      refine gw_cV (pc' := 27) (av := [.int (-1000001)]) (rest := []) cx (k_X4_found E g10) at0 (by decide) lk_X4_45 dX4_of_24 rfl (Nat.le_of_ble_eq_true rfl) rfl ?_
      show GW E fr _ 27 _ (.int r11 :: _) _
      exact gw_iret cx tg (rt1 h) (rt2 h) dX4_of_27
    · refine gw_if_ne_t (pc' := 28) cx c9 dX4_of_18 (by decide) ?_
      refine gw_aload_n (pc' := 29) cx 0 rfl rfl dX4_of_28 rfl ?_
      refine gw_getR (pc' := 32) cx at0 rfl fl_X4_12 dX4_of_29 rfl ?_
      refine gw_getR (pc' := 35) cx (atC cty1) rfl fl_X4_68 dX4_of_32 rfl ?_
      refine gw_iload_n (pc' := 36) cx 1 rfl rfl dX4_of_35 rfl ?_
      obtain ⟨i13, h⟩ := chk_some h
      refine gw_aald (pc' := 37) cx (atCp cty1) i13 dX4_of_36 rfl ?_
      refine gw_astore_n (pc' := 38) (lv' := [(3, .ref (eA E (1 + 4 + x1.toNatClampNeg))), (0, .ref (eA E 0)), (1, .int x1), (2, .int x2)]) cx rfl rfl (by decide) dX4_of_37 rfl ?_
      refine gw_iload_n (pc' := 39) cx 3 rfl rfl dX4_of_38 rfl ?_
      rcases ite_some h with ⟨c14, h⟩ | ⟨c14, h⟩
      · refine gw_tin (pc' := 64) (off := 25) 5 cx c14 dX4_of_39 (by decide) (by decide) ?_
        refine gw_aload_n (pc' := 65) cx 0 rfl rfl dX4_of_64 rfl ?_
        refine gw_aload_n (pc' := 66) cx 1 rfl rfl dX4_of_65 rfl ?_
        refine gw_getR (pc' := 69) cx at0 rfl fl_X4_12 dX4_of_66 rfl ?_
        refine gw_getI (pc' := 72) cx (atC cty1) rfl fl_X4_72 dX4_of_69 rfl ?_
        obtain ⟨r16, g15, h⟩ := ob0_some h
        refine gw_cV (pc' := 75) (av := [.int (σ 1 5)]) (rest := []) cx (k_X1_asking E (psn_of cty1 i13) g15) (atP (psn_of cty1 i13)) (by decide) lk_X4_75 dX4_of_72 rfl (Nat.le_of_ble_eq_true rfl) rfl ?_
        show GW E fr _ 75 _ (.int r16 :: _) _
        exact gw_iret cx tg (rt1 h) (rt2 h) dX4_of_75
      · skip
        rcases ite_some h with ⟨c17, h⟩ | ⟨c17, h⟩
        · refine gw_tin (pc' := 76) (off := 37) 6 cx c17 dX4_of_39 (by decide) (by decide) ?_
          refine gw_aload_n (pc' := 77) cx 0 rfl rfl dX4_of_76 rfl ?_
          obtain ⟨r19, g18, h⟩ := ob0_some h
          refine gw_cV (pc' := 80) (av := []) (rest := []) cx (k_X1_room E (psn_of cty1 i13) g18) (atP (psn_of cty1 i13)) (by decide) lk_X4_80 dX4_of_77 rfl (Nat.le_of_ble_eq_true rfl) rfl ?_
          show GW E fr _ 80 _ (.int r19 :: _) _
          exact gw_iret cx tg (rt1 h) (rt2 h) dX4_of_80
        · skip
          rcases ite_some h with ⟨c20, h⟩ | ⟨c20, h⟩
          · refine gw_tin (pc' := 81) (off := 42) 7 cx c20 dX4_of_39 (by decide) (by decide) ?_
            refine gw_aload_n (pc' := 82) cx 0 rfl rfl dX4_of_81 rfl ?_
            obtain ⟨r22, g21, h⟩ := ob0_some h
            refine gw_cV (pc' := 85) (av := []) (rest := []) cx (k_X1_forgetting E (psn_of cty1 i13) g21) (atP (psn_of cty1 i13)) (by decide) lk_X4_84 dX4_of_82 rfl (Nat.le_of_ble_eq_true rfl) rfl ?_
            show GW E fr _ 85 _ (.int r22 :: _) _
            exact gw_iret cx tg (rt1 h) (rt2 h) dX4_of_85
          · skip
            refine gw_tout (pc' := 86) cx dX4_of_39 (by have a5 := lv_neT (a := 5) c14 rfl; have a6 := lv_neT (a := 6) c17 rfl; have a7 := lv_neT (a := 7) c20 rfl; omega) (by decide) ?_
            refine gw_aload_n (pc' := 87) cx 0 rfl rfl dX4_of_86 rfl ?_
            refine gw_iload_n (pc' := 88) cx 3 rfl rfl dX4_of_87 rfl ?_
            obtain ⟨r24, g23, h⟩ := ob0_some h
            refine gw_cV (pc' := 91) (av := [.int x2]) (rest := []) cx (k_X1_attribute E (psn_of cty1 i13) g23) (atP (psn_of cty1 i13)) (by decide) lk_X4_87 dX4_of_88 rfl (Nat.le_of_ble_eq_true rfl) rfl ?_
            show GW E fr _ 91 _ (.int r24 :: _) _
            exact gw_iret cx tg (rt1 h) (rt2 h) dX4_of_91
def f_X4_change (x1 : Int32) (x2 : Int32) (x3 : Int32) (σ : Sg) : Option (Int32 × Sg) :=
  ob0 (f_X0_has 1 x1 σ) fun r2 =>
  if r2 = 0 then
    ob2 (f_X4_found (-1000001) σ) fun r5 s6 =>
    some (r5, s6)
  else
    ob0 (f_X4_within x2 0 4 σ) fun r8 =>
    if r8 = 0 then
      ob2 (f_X4_found (-1000001) σ) fun r11 s12 =>
      some (r11, s12)
    else
      ob0 (f_X4_mostOf x2 σ) fun r14 =>
      ob0 (f_X4_within x3 0 r14 σ) fun r16 =>
      if r16 = 0 then
        ob2 (f_X4_found (-1000001) σ) fun r19 s20 =>
        some (r19, s20)
      else
        chk x1 8 <|
        ob0 (f_X1_attribute (1 + 4 + x1.toNatClampNeg) x2 σ) fun r23 =>
        ob1 (f_X1_setAttribute (1 + 4 + x1.toNatClampNeg) x2 x3 σ) fun s25 =>
        some (r23, s25)
theorem k_X4_change (E : Ev) {x1 : Int32} {x2 : Int32} {x3 : Int32} {σ : Sg} {r : Int32} {σ' : Sg} (h : f_X4_change x1 x2 x3 σ = some (r, σ')) : Con E mX4_change 2 [.ref (eA E 0), .int x1, .int x2, .int x3] σ (some (.int r)) σ' := by
  refine con_of (by decide) (Nat.le_of_ble_eq_true rfl) (fun fr cx tg => ?_)
  show GW E fr 6 0 [(0, .ref (eA E 0)), (1, .int x1), (2, .int x2), (3, .int x3)] [] σ
  rw [f_X4_change] at h
  refine gw_aload_n (pc' := 1) cx 0 rfl rfl dX4_change_0 rfl ?_
  refine gw_getR (pc' := 4) cx at0 rfl fl_X4_12 dX4_change_1 rfl ?_
  refine gw_iload_n (pc' := 5) cx 1 rfl rfl dX4_change_4 rfl ?_
  obtain ⟨r2, g1, h⟩ := ob0_some h
  refine gw_cV (pc' := 8) (av := [.int x1]) (rest := []) cx (k_X0_has E cty1 g1) (atC cty1) (by decide) lk_X4_64 dX4_change_5 rfl (Nat.le_of_ble_eq_true rfl) rfl ?_
  show GW E fr _ 8 _ (.int r2 :: _) _
  rcases ite_some h with ⟨c3, h⟩ | ⟨c3, h⟩
  · refine gw_if_eq_t (pc' := 32) cx c3 dX4_change_8 (by decide) ?_
    refine gw_aload_n (pc' := 33) cx 0 rfl rfl dX4_change_32 rfl ?_
    refine gw_ldc (pc' := 35) (v := (-1000001)) cx ct_X4_44 dX4_change_33 rfl ?_
    obtain ⟨r5, s6, g4, h⟩ := ob2_some h
    refine gw_cV (pc' := 38) (av := [.int (-1000001)]) (rest := []) cx (k_X4_found E g4) at0 (by decide) lk_X4_45 dX4_change_35 rfl (Nat.le_of_ble_eq_true rfl) rfl ?_
    show GW E fr _ 38 _ (.int r5 :: _) _
    exact gw_iret cx tg (rt1 h) (rt2 h) dX4_change_38
  · refine gw_if_eq_f (pc' := 11) cx c3 dX4_change_8 ⟨32, by decide⟩ rfl ?_
    refine gw_iload_n (pc' := 12) cx 2 rfl rfl dX4_change_11 rfl ?_
    refine gw_iconst (pc' := 13) (v := 0) cx ci_0 dX4_change_12 rfl ?_
    refine gw_iconst (pc' := 14) (v := 4) cx ci_4 dX4_change_13 rfl ?_
    obtain ⟨r8, g7, h⟩ := ob0_some h
    refine gw_cS (pc' := 17) (av := [.int x2, .int 0, .int 4]) (rest := []) cx (k_X4_within E g7) (by decide) lk_X4_40 dX4_change_14 rfl (Nat.le_of_ble_eq_true rfl) rfl ?_
    show GW E fr _ 17 _ (.int r8 :: _) _
    rcases ite_some h with ⟨c9, h⟩ | ⟨c9, h⟩
    · refine gw_if_eq_t (pc' := 32) cx c9 dX4_change_17 (by decide) ?_
      refine gw_aload_n (pc' := 33) cx 0 rfl rfl dX4_change_32 rfl ?_
      refine gw_ldc (pc' := 35) (v := (-1000001)) cx ct_X4_44 dX4_change_33 rfl ?_
      obtain ⟨r11, s12, g10, h⟩ := ob2_some h
      refine gw_cV (pc' := 38) (av := [.int (-1000001)]) (rest := []) cx (k_X4_found E g10) at0 (by decide) lk_X4_45 dX4_change_35 rfl (Nat.le_of_ble_eq_true rfl) rfl ?_
      show GW E fr _ 38 _ (.int r11 :: _) _
      exact gw_iret cx tg (rt1 h) (rt2 h) dX4_change_38
    · refine gw_if_eq_f (pc' := 20) cx c9 dX4_change_17 ⟨32, by decide⟩ rfl ?_
      refine gw_iload_n (pc' := 21) cx 3 rfl rfl dX4_change_20 rfl ?_
      refine gw_iconst (pc' := 22) (v := 0) cx ci_0 dX4_change_21 rfl ?_
      refine gw_iload_n (pc' := 23) cx 2 rfl rfl dX4_change_22 rfl ?_
      obtain ⟨r14, g13, h⟩ := ob0_some h
      refine gw_cS (pc' := 26) (av := [.int x2]) (rest := [.int 0, .int x3]) cx (k_X4_mostOf E g13) (by decide) lk_X4_90 dX4_change_23 rfl (Nat.le_of_ble_eq_true rfl) rfl ?_
      show GW E fr _ 26 _ (.int r14 :: _) _
      obtain ⟨r16, g15, h⟩ := ob0_some h
      refine gw_cS (pc' := 29) (av := [.int x3, .int 0, .int r14]) (rest := []) cx (k_X4_within E g15) (by decide) lk_X4_40 dX4_change_26 rfl (Nat.le_of_ble_eq_true rfl) rfl ?_
      show GW E fr _ 29 _ (.int r16 :: _) _
      rcases ite_some h with ⟨c17, h⟩ | ⟨c17, h⟩
      · refine gw_if_ne_f (pc' := 32) cx c17 dX4_change_29 ⟨39, by decide⟩ rfl ?_
        refine gw_aload_n (pc' := 33) cx 0 rfl rfl dX4_change_32 rfl ?_
        refine gw_ldc (pc' := 35) (v := (-1000001)) cx ct_X4_44 dX4_change_33 rfl ?_
        obtain ⟨r19, s20, g18, h⟩ := ob2_some h
        refine gw_cV (pc' := 38) (av := [.int (-1000001)]) (rest := []) cx (k_X4_found E g18) at0 (by decide) lk_X4_45 dX4_change_35 rfl (Nat.le_of_ble_eq_true rfl) rfl ?_
        show GW E fr _ 38 _ (.int r19 :: _) _
        exact gw_iret cx tg (rt1 h) (rt2 h) dX4_change_38
      · refine gw_if_ne_t (pc' := 39) cx c17 dX4_change_29 (by decide) ?_
        refine gw_aload_n (pc' := 40) cx 0 rfl rfl dX4_change_39 rfl ?_
        refine gw_getR (pc' := 43) cx at0 rfl fl_X4_12 dX4_change_40 rfl ?_
        refine gw_getR (pc' := 46) cx (atC cty1) rfl fl_X4_68 dX4_change_43 rfl ?_
        refine gw_iload_n (pc' := 47) cx 1 rfl rfl dX4_change_46 rfl ?_
        obtain ⟨i21, h⟩ := chk_some h
        refine gw_aald (pc' := 48) cx (atCp cty1) i21 dX4_change_47 rfl ?_
        refine gw_astore (pc' := 50) (lv' := [(4, .ref (eA E (1 + 4 + x1.toNatClampNeg))), (0, .ref (eA E 0)), (1, .int x1), (2, .int x2), (3, .int x3)]) cx rfl (by decide) dX4_change_48 rfl ?_
        refine gw_aload (pc' := 52) cx 0 rfl dX4_change_50 rfl ?_
        refine gw_iload_n (pc' := 53) cx 3 rfl rfl dX4_change_52 rfl ?_
        obtain ⟨r23, g22, h⟩ := ob0_some h
        refine gw_cV (pc' := 56) (av := [.int x2]) (rest := []) cx (k_X1_attribute E (psn_of cty1 i21) g22) (atP (psn_of cty1 i21)) (by decide) lk_X4_87 dX4_change_53 rfl (Nat.le_of_ble_eq_true rfl) rfl ?_
        show GW E fr _ 56 _ (.int r23 :: _) _
        refine gw_istore (pc' := 58) (lv' := [(5, .int r23), (4, .ref (eA E (1 + 4 + x1.toNatClampNeg))), (0, .ref (eA E 0)), (1, .int x1), (2, .int x2), (3, .int x3)]) cx rfl (by decide) dX4_change_56 rfl ?_
        refine gw_aload (pc' := 60) cx 1 rfl dX4_change_58 rfl ?_
        refine gw_iload_n (pc' := 61) cx 4 rfl rfl dX4_change_60 rfl ?_
        refine gw_iload_n (pc' := 62) cx 5 rfl rfl dX4_change_61 rfl ?_
        obtain ⟨s25, g24, h⟩ := ob1_some h
        refine gw_cV (pc' := 65) (av := [.int x2, .int x3]) (rest := []) cx (k_X1_setAttribute E (psn_of cty1 i21) g24) (atP (psn_of cty1 i21)) (by decide) lk_X4_93 dX4_change_62 rfl (Nat.le_of_ble_eq_true rfl) rfl ?_
        show GW E fr _ 65 _ [] _
        refine gw_iload (pc' := 67) cx 0 rfl dX4_change_65 rfl ?_
        exact gw_iret cx tg (rt1 h) (rt2 h) dX4_change_67
def f_X4_feels (x1 : Int32) (x2 : Int32) (σ : Sg) : Option (Int32 × Sg) :=
  ob0 (f_X0_has 1 x1 σ) fun r2 =>
  if r2 = 0 then
    ob2 (f_X4_found (-1000001) σ) fun r5 s6 =>
    some (r5, s6)
  else
    ob0 (f_X4_within x2 0 20 σ) fun r8 =>
    if r8 = 0 then
      ob2 (f_X4_found (-1000001) σ) fun r11 s12 =>
      some (r11, s12)
    else
      chk x1 8 <|
      ob0 (f_X1_feeling (1 + 4 + x1.toNatClampNeg) x2 σ) fun r15 =>
      some (r15, σ)
theorem k_X4_feels (E : Ev) {x1 : Int32} {x2 : Int32} {σ : Sg} {r : Int32} {σ' : Sg} (h : f_X4_feels x1 x2 σ = some (r, σ')) : Con E mX4_feels 2 [.ref (eA E 0), .int x1, .int x2] σ (some (.int r)) σ' := by
  refine con_of (by decide) (Nat.le_of_ble_eq_true rfl) (fun fr cx tg => ?_)
  show GW E fr 3 0 [(0, .ref (eA E 0)), (1, .int x1), (2, .int x2)] [] σ
  rw [f_X4_feels] at h
  refine gw_aload_n (pc' := 1) cx 0 rfl rfl dX4_feels_0 rfl ?_
  refine gw_getR (pc' := 4) cx at0 rfl fl_X4_12 dX4_feels_1 rfl ?_
  refine gw_iload_n (pc' := 5) cx 1 rfl rfl dX4_feels_4 rfl ?_
  obtain ⟨r2, g1, h⟩ := ob0_some h
  refine gw_cV (pc' := 8) (av := [.int x1]) (rest := []) cx (k_X0_has E cty1 g1) (atC cty1) (by decide) lk_X4_64 dX4_feels_5 rfl (Nat.le_of_ble_eq_true rfl) rfl ?_
  show GW E fr _ 8 _ (.int r2 :: _) _
  rcases ite_some h with ⟨c3, h⟩ | ⟨c3, h⟩
  · refine gw_if_eq_t (pc' := 21) cx c3 dX4_feels_8 (by decide) ?_
    refine gw_aload_n (pc' := 22) cx 0 rfl rfl dX4_feels_21 rfl ?_
    refine gw_ldc (pc' := 24) (v := (-1000001)) cx ct_X4_44 dX4_feels_22 rfl ?_
    obtain ⟨r5, s6, g4, h⟩ := ob2_some h
    refine gw_cV (pc' := 27) (av := [.int (-1000001)]) (rest := []) cx (k_X4_found E g4) at0 (by decide) lk_X4_45 dX4_feels_24 rfl (Nat.le_of_ble_eq_true rfl) rfl ?_
    show GW E fr _ 27 _ (.int r5 :: _) _
    exact gw_iret cx tg (rt1 h) (rt2 h) dX4_feels_27
  · refine gw_if_eq_f (pc' := 11) cx c3 dX4_feels_8 ⟨21, by decide⟩ rfl ?_
    refine gw_iload_n (pc' := 12) cx 2 rfl rfl dX4_feels_11 rfl ?_
    refine gw_iconst (pc' := 13) (v := 0) cx ci_0 dX4_feels_12 rfl ?_
    refine gw_bipush (pc' := 15) (v := 20) cx cb_20 dX4_feels_13 rfl ?_
    obtain ⟨r8, g7, h⟩ := ob0_some h
    refine gw_cS (pc' := 18) (av := [.int x2, .int 0, .int 20]) (rest := []) cx (k_X4_within E g7) (by decide) lk_X4_40 dX4_feels_15 rfl (Nat.le_of_ble_eq_true rfl) rfl ?_
    show GW E fr _ 18 _ (.int r8 :: _) _
    rcases ite_some h with ⟨c9, h⟩ | ⟨c9, h⟩
    · refine gw_if_ne_f (pc' := 21) cx c9 dX4_feels_18 ⟨28, by decide⟩ rfl ?_
      refine gw_aload_n (pc' := 22) cx 0 rfl rfl dX4_feels_21 rfl ?_
      refine gw_ldc (pc' := 24) (v := (-1000001)) cx ct_X4_44 dX4_feels_22 rfl ?_
      obtain ⟨r11, s12, g10, h⟩ := ob2_some h
      refine gw_cV (pc' := 27) (av := [.int (-1000001)]) (rest := []) cx (k_X4_found E g10) at0 (by decide) lk_X4_45 dX4_feels_24 rfl (Nat.le_of_ble_eq_true rfl) rfl ?_
      show GW E fr _ 27 _ (.int r11 :: _) _
      exact gw_iret cx tg (rt1 h) (rt2 h) dX4_feels_27
    · refine gw_if_ne_t (pc' := 28) cx c9 dX4_feels_18 (by decide) ?_
      refine gw_aload_n (pc' := 29) cx 0 rfl rfl dX4_feels_28 rfl ?_
      refine gw_getR (pc' := 32) cx at0 rfl fl_X4_12 dX4_feels_29 rfl ?_
      refine gw_getR (pc' := 35) cx (atC cty1) rfl fl_X4_68 dX4_feels_32 rfl ?_
      refine gw_iload_n (pc' := 36) cx 1 rfl rfl dX4_feels_35 rfl ?_
      obtain ⟨i13, h⟩ := chk_some h
      refine gw_aald (pc' := 37) cx (atCp cty1) i13 dX4_feels_36 rfl ?_
      refine gw_iload_n (pc' := 38) cx 2 rfl rfl dX4_feels_37 rfl ?_
      obtain ⟨r15, g14, h⟩ := ob0_some h
      refine gw_cV (pc' := 41) (av := [.int x2]) (rest := []) cx (k_X1_feeling E (psn_of cty1 i13) g14) (atP (psn_of cty1 i13)) (by decide) lk_X4_97 dX4_feels_38 rfl (Nat.le_of_ble_eq_true rfl) rfl ?_
      show GW E fr _ 41 _ (.int r15 :: _) _
      exact gw_iret cx tg (rt1 h) (rt2 h) dX4_feels_41
def f_X4_bearer (x1 : Int32) (x2 : Int32) (σ : Sg) : Option (Int32 × Sg) :=
  ob0 (f_X0_has 1 x1 σ) fun r2 =>
  if r2 = 0 then
    ob2 (f_X4_found (-1000001) σ) fun r5 s6 =>
    some (r5, s6)
  else
    ob0 (f_X4_within x2 1 20 σ) fun r8 =>
    if r8 = 0 then
      ob2 (f_X4_found (-1000001) σ) fun r11 s12 =>
      some (r11, s12)
    else
      ob0 (f_X0_roomiestBut 1 x1 σ) fun r14 =>
      ob0 (f_X0_bears 1 r14 x2 σ) fun r16 =>
      if r16 = 0 then
        ob2 (f_X4_found (-1000004) σ) fun r19 s20 =>
        some (r19, s20)
      else
        some (r14, σ)
theorem k_X4_bearer (E : Ev) {x1 : Int32} {x2 : Int32} {σ : Sg} {r : Int32} {σ' : Sg} (h : f_X4_bearer x1 x2 σ = some (r, σ')) : Con E mX4_bearer 3 [.ref (eA E 0), .int x1, .int x2] σ (some (.int r)) σ' := by
  refine con_of (by decide) (Nat.le_of_ble_eq_true rfl) (fun fr cx tg => ?_)
  show GW E fr 4 0 [(0, .ref (eA E 0)), (1, .int x1), (2, .int x2)] [] σ
  rw [f_X4_bearer] at h
  refine gw_aload_n (pc' := 1) cx 0 rfl rfl dX4_bearer_0 rfl ?_
  refine gw_getR (pc' := 4) cx at0 rfl fl_X4_12 dX4_bearer_1 rfl ?_
  refine gw_iload_n (pc' := 5) cx 1 rfl rfl dX4_bearer_4 rfl ?_
  obtain ⟨r2, g1, h⟩ := ob0_some h
  refine gw_cV (pc' := 8) (av := [.int x1]) (rest := []) cx (k_X0_has E cty1 g1) (atC cty1) (by decide) lk_X4_64 dX4_bearer_5 rfl (Nat.le_of_ble_eq_true rfl) rfl ?_
  show GW E fr _ 8 _ (.int r2 :: _) _
  rcases ite_some h with ⟨c3, h⟩ | ⟨c3, h⟩
  · refine gw_if_eq_t (pc' := 21) cx c3 dX4_bearer_8 (by decide) ?_
    refine gw_aload_n (pc' := 22) cx 0 rfl rfl dX4_bearer_21 rfl ?_
    refine gw_ldc (pc' := 24) (v := (-1000001)) cx ct_X4_44 dX4_bearer_22 rfl ?_
    obtain ⟨r5, s6, g4, h⟩ := ob2_some h
    refine gw_cV (pc' := 27) (av := [.int (-1000001)]) (rest := []) cx (k_X4_found E g4) at0 (by decide) lk_X4_45 dX4_bearer_24 rfl (Nat.le_of_ble_eq_true rfl) rfl ?_
    show GW E fr _ 27 _ (.int r5 :: _) _
    exact gw_iret cx tg (rt1 h) (rt2 h) dX4_bearer_27
  · refine gw_if_eq_f (pc' := 11) cx c3 dX4_bearer_8 ⟨21, by decide⟩ rfl ?_
    refine gw_iload_n (pc' := 12) cx 2 rfl rfl dX4_bearer_11 rfl ?_
    refine gw_iconst (pc' := 13) (v := 1) cx ci_1 dX4_bearer_12 rfl ?_
    refine gw_bipush (pc' := 15) (v := 20) cx cb_20 dX4_bearer_13 rfl ?_
    obtain ⟨r8, g7, h⟩ := ob0_some h
    refine gw_cS (pc' := 18) (av := [.int x2, .int 1, .int 20]) (rest := []) cx (k_X4_within E g7) (by decide) lk_X4_40 dX4_bearer_15 rfl (Nat.le_of_ble_eq_true rfl) rfl ?_
    show GW E fr _ 18 _ (.int r8 :: _) _
    rcases ite_some h with ⟨c9, h⟩ | ⟨c9, h⟩
    · refine gw_if_ne_f (pc' := 21) cx c9 dX4_bearer_18 ⟨28, by decide⟩ rfl ?_
      refine gw_aload_n (pc' := 22) cx 0 rfl rfl dX4_bearer_21 rfl ?_
      refine gw_ldc (pc' := 24) (v := (-1000001)) cx ct_X4_44 dX4_bearer_22 rfl ?_
      obtain ⟨r11, s12, g10, h⟩ := ob2_some h
      refine gw_cV (pc' := 27) (av := [.int (-1000001)]) (rest := []) cx (k_X4_found E g10) at0 (by decide) lk_X4_45 dX4_bearer_24 rfl (Nat.le_of_ble_eq_true rfl) rfl ?_
      show GW E fr _ 27 _ (.int r11 :: _) _
      exact gw_iret cx tg (rt1 h) (rt2 h) dX4_bearer_27
    · refine gw_if_ne_t (pc' := 28) cx c9 dX4_bearer_18 (by decide) ?_
      refine gw_aload_n (pc' := 29) cx 0 rfl rfl dX4_bearer_28 rfl ?_
      refine gw_getR (pc' := 32) cx at0 rfl fl_X4_12 dX4_bearer_29 rfl ?_
      refine gw_iload_n (pc' := 33) cx 1 rfl rfl dX4_bearer_32 rfl ?_
      obtain ⟨r14, g13, h⟩ := ob0_some h
      refine gw_cV (pc' := 36) (av := [.int x1]) (rest := []) cx (k_X0_roomiestBut E cty1 g13) (atC cty1) (by decide) lk_X4_100 dX4_bearer_33 rfl (Nat.le_of_ble_eq_true rfl) rfl ?_
      show GW E fr _ 36 _ (.int r14 :: _) _
      refine gw_istore_n (pc' := 37) (lv' := [(3, .int r14), (0, .ref (eA E 0)), (1, .int x1), (2, .int x2)]) cx rfl rfl (by decide) dX4_bearer_36 rfl ?_
      refine gw_aload_n (pc' := 38) cx 1 rfl rfl dX4_bearer_37 rfl ?_
      refine gw_getR (pc' := 41) cx at0 rfl fl_X4_12 dX4_bearer_38 rfl ?_
      refine gw_iload_n (pc' := 42) cx 0 rfl rfl dX4_bearer_41 rfl ?_
      refine gw_iload_n (pc' := 43) cx 3 rfl rfl dX4_bearer_42 rfl ?_
      obtain ⟨r16, g15, h⟩ := ob0_some h
      refine gw_cV (pc' := 46) (av := [.int r14, .int x2]) (rest := []) cx (k_X0_bears E cty1 g15) (atC cty1) (by decide) lk_X4_103 dX4_bearer_43 rfl (Nat.le_of_ble_eq_true rfl) rfl ?_
      show GW E fr _ 46 _ (.int r16 :: _) _
      rcases ite_some h with ⟨c17, h⟩ | ⟨c17, h⟩
      · refine gw_if_eq_t (pc' := 53) cx c17 dX4_bearer_46 (by decide) ?_
        refine gw_aload_n (pc' := 54) cx 1 rfl rfl dX4_bearer_53 rfl ?_
        refine gw_ldc (pc' := 56) (v := (-1000004)) cx ct_X4_107 dX4_bearer_54 rfl ?_
        obtain ⟨r19, s20, g18, h⟩ := ob2_some h
        refine gw_cV (pc' := 59) (av := [.int (-1000004)]) (rest := []) cx (k_X4_found E g18) at0 (by decide) lk_X4_45 dX4_bearer_56 rfl (Nat.le_of_ble_eq_true rfl) rfl ?_
        show GW E fr _ 59 _ (.int r19 :: _) _
        exact gw_iret cx tg (rt1 h) (rt2 h) dX4_bearer_59
      · refine gw_if_eq_f (pc' := 49) cx c17 dX4_bearer_46 ⟨53, by decide⟩ rfl ?_
        refine gw_iload_n (pc' := 50) cx 0 rfl rfl dX4_bearer_49 rfl ?_
        refine gw_goto (pc' := 59) cx dX4_bearer_50 (by decide) ?_
        exact gw_iret cx tg (rt1 h) (rt2 h) dX4_bearer_59
def f_X4_go (x1 : Int32) (σ : Sg) : Option (Int32 × Sg) :=
  ob0 (f_X4_within x1 1 60 σ) fun r2 =>
  if r2 = 0 then
    ob2 (f_X4_found (-1000001) σ) fun r5 s6 =>
    some (r5, s6)
  else
    if ((σ 1 5) + x1) ≤ 99999 then
      ob1 (f_X0_passDays 1 x1 σ) fun s9 =>
      ob0 (f_X0_sumOf 1 1 s9) fun r11 =>
      some (r11, s9)
    else
      ob2 (f_X4_found (-1000005) σ) fun r13 s14 =>
      some (r13, s14)
theorem k_X4_go (E : Ev) {x1 : Int32} {σ : Sg} {r : Int32} {σ' : Sg} (h : f_X4_go x1 σ = some (r, σ')) : Con E mX4_go 6 [.ref (eA E 0), .int x1] σ (some (.int r)) σ' := by
  refine con_of (by decide) (Nat.le_of_ble_eq_true rfl) (fun fr cx tg => ?_)
  show GW E fr 2 0 [(0, .ref (eA E 0)), (1, .int x1)] [] σ
  rw [f_X4_go] at h
  refine gw_iload_n (pc' := 1) cx 1 rfl rfl dX4_go_0 rfl ?_
  refine gw_iconst (pc' := 2) (v := 1) cx ci_1 dX4_go_1 rfl ?_
  refine gw_bipush (pc' := 4) (v := 60) cx cb_60 dX4_go_2 rfl ?_
  obtain ⟨r2, g1, h⟩ := ob0_some h
  refine gw_cS (pc' := 7) (av := [.int x1, .int 1, .int 60]) (rest := []) cx (k_X4_within E g1) (by decide) lk_X4_40 dX4_go_4 rfl (Nat.le_of_ble_eq_true rfl) rfl ?_
  show GW E fr _ 7 _ (.int r2 :: _) _
  rcases ite_some h with ⟨c3, h⟩ | ⟨c3, h⟩
  · refine gw_if_ne_f (pc' := 10) cx c3 dX4_go_7 ⟨17, by decide⟩ rfl ?_
    refine gw_aload_n (pc' := 11) cx 0 rfl rfl dX4_go_10 rfl ?_
    refine gw_ldc (pc' := 13) (v := (-1000001)) cx ct_X4_44 dX4_go_11 rfl ?_
    obtain ⟨r5, s6, g4, h⟩ := ob2_some h
    refine gw_cV (pc' := 16) (av := [.int (-1000001)]) (rest := []) cx (k_X4_found E g4) at0 (by decide) lk_X4_45 dX4_go_13 rfl (Nat.le_of_ble_eq_true rfl) rfl ?_
    show GW E fr _ 16 _ (.int r5 :: _) _
    exact gw_iret cx tg (rt1 h) (rt2 h) dX4_go_16
  · refine gw_if_ne_t (pc' := 17) cx c3 dX4_go_7 (by decide) ?_
    refine gw_aload_n (pc' := 18) cx 0 rfl rfl dX4_go_17 rfl ?_
    refine gw_getR (pc' := 21) cx at0 rfl fl_X4_12 dX4_go_18 rfl ?_
    refine gw_getI (pc' := 24) cx (atC cty1) rfl fl_X4_72 dX4_go_21 rfl ?_
    refine gw_iload_n (pc' := 25) cx 1 rfl rfl dX4_go_24 rfl ?_
    refine gw_iadd (pc' := 26) cx dX4_go_25 rfl ?_
    refine gw_ldc (pc' := 28) (v := 99999) cx ct_X4_108 dX4_go_26 rfl ?_
    rcases ite_some h with ⟨c7, h⟩ | ⟨c7, h⟩
    · refine gw_ic_le_t (pc' := 38) cx c7 dX4_go_28 (by decide) ?_
      refine gw_aload_n (pc' := 39) cx 0 rfl rfl dX4_go_38 rfl ?_
      refine gw_getR (pc' := 42) cx at0 rfl fl_X4_12 dX4_go_39 rfl ?_
      refine gw_iload_n (pc' := 43) cx 1 rfl rfl dX4_go_42 rfl ?_
      obtain ⟨s9, g8, h⟩ := ob1_some h
      refine gw_cV (pc' := 46) (av := [.int x1]) (rest := []) cx (k_X0_passDays E cty1 g8) (atC cty1) (by decide) lk_X4_110 dX4_go_43 rfl (Nat.le_of_ble_eq_true rfl) rfl ?_
      show GW E fr _ 46 _ [] _
      refine gw_aload_n (pc' := 47) cx 0 rfl rfl dX4_go_46 rfl ?_
      refine gw_getR (pc' := 50) cx at0 rfl fl_X4_12 dX4_go_47 rfl ?_
      refine gw_iconst (pc' := 51) (v := 1) cx ci_1 dX4_go_50 rfl ?_
      obtain ⟨r11, g10, h⟩ := ob0_some h
      refine gw_cV (pc' := 54) (av := [.int 1]) (rest := []) cx (k_X0_sumOf E cty1 g10) (atC cty1) (by decide) lk_X4_114 dX4_go_51 rfl (Nat.le_of_ble_eq_true rfl) rfl ?_
      show GW E fr _ 54 _ (.int r11 :: _) _
      exact gw_iret cx tg (rt1 h) (rt2 h) dX4_go_54
    · refine gw_ic_le_f (pc' := 31) cx c7 dX4_go_28 ⟨38, by decide⟩ rfl ?_
      refine gw_aload_n (pc' := 32) cx 0 rfl rfl dX4_go_31 rfl ?_
      refine gw_ldc (pc' := 34) (v := (-1000005)) cx ct_X4_109 dX4_go_32 rfl ?_
      obtain ⟨r13, s14, g12, h⟩ := ob2_some h
      refine gw_cV (pc' := 37) (av := [.int (-1000005)]) (rest := []) cx (k_X4_found E g12) at0 (by decide) lk_X4_45 dX4_go_34 rfl (Nat.le_of_ble_eq_true rfl) rfl ?_
      show GW E fr _ 37 _ (.int r13 :: _) _
      exact gw_iret cx tg (rt1 h) (rt2 h) dX4_go_37
def f_X4_now (x1 : Int32) (σ : Sg) : Option (Int32 × Sg) :=
  if x1 = 0 then
    some ((σ 1 5), σ)
  else
    if x1 = 1 then
      ob0 (f_X0_sumOf 1 1 σ) fun r4 =>
      some (r4, σ)
    else
      if x1 = 2 then
        ob0 (f_X0_sumOf 1 3 σ) fun r7 =>
        some (r7, σ)
      else
        if x1 = 3 then
          some ((σ 1 4), σ)
        else
          if x1 = 4 then
            ob0 (f_X0_owedSet 1 σ) fun r11 =>
            some (r11, σ)
          else
            if x1 = 5 then
              ob0 (f_X0_roomiestBut 1 (-1) σ) fun r14 =>
              some (r14, σ)
            else
              if x1 = 6 then
                ob0 (f_X0_sumOf 1 4 σ) fun r17 =>
                some (r17, σ)
              else
                if x1 = 7 then
                  ob0 (f_X0_isEven 1 σ) fun r20 =>
                  if r20 = 0 then
                    some (0, σ)
                  else
                    some (1, σ)
                else
                  ob2 (f_X4_found (-1000001) σ) fun r23 s24 =>
                  some (r23, s24)
theorem k_X4_now (E : Ev) {x1 : Int32} {σ : Sg} {r : Int32} {σ' : Sg} (h : f_X4_now x1 σ = some (r, σ')) : Con E mX4_now 3 [.ref (eA E 0), .int x1] σ (some (.int r)) σ' := by
  refine con_of (by decide) (Nat.le_of_ble_eq_true rfl) (fun fr cx tg => ?_)
  show GW E fr 2 0 [(0, .ref (eA E 0)), (1, .int x1)] [] σ
  rw [f_X4_now] at h
  refine gw_iload_n (pc' := 1) cx 1 rfl rfl dX4_now_0 rfl ?_
  rcases ite_some h with ⟨c1, h⟩ | ⟨c1, h⟩
  · refine gw_tin (pc' := 48) (off := 47) 0 cx c1 dX4_now_1 (by decide) (by decide) ?_
    refine gw_aload_n (pc' := 49) cx 0 rfl rfl dX4_now_48 rfl ?_
    refine gw_getR (pc' := 52) cx at0 rfl fl_X4_12 dX4_now_49 rfl ?_
    refine gw_getI (pc' := 55) cx (atC cty1) rfl fl_X4_72 dX4_now_52 rfl ?_
    exact gw_iret cx tg (rt1 h) (rt2 h) dX4_now_55
  · skip
    rcases ite_some h with ⟨c2, h⟩ | ⟨c2, h⟩
    · refine gw_tin (pc' := 56) (off := 55) 1 cx c2 dX4_now_1 (by decide) (by decide) ?_
      refine gw_aload_n (pc' := 57) cx 0 rfl rfl dX4_now_56 rfl ?_
      refine gw_getR (pc' := 60) cx at0 rfl fl_X4_12 dX4_now_57 rfl ?_
      refine gw_iconst (pc' := 61) (v := 1) cx ci_1 dX4_now_60 rfl ?_
      obtain ⟨r4, g3, h⟩ := ob0_some h
      refine gw_cV (pc' := 64) (av := [.int 1]) (rest := []) cx (k_X0_sumOf E cty1 g3) (atC cty1) (by decide) lk_X4_114 dX4_now_61 rfl (Nat.le_of_ble_eq_true rfl) rfl ?_
      show GW E fr _ 64 _ (.int r4 :: _) _
      exact gw_iret cx tg (rt1 h) (rt2 h) dX4_now_64
    · skip
      rcases ite_some h with ⟨c5, h⟩ | ⟨c5, h⟩
      · refine gw_tin (pc' := 65) (off := 64) 2 cx c5 dX4_now_1 (by decide) (by decide) ?_
        refine gw_aload_n (pc' := 66) cx 0 rfl rfl dX4_now_65 rfl ?_
        refine gw_getR (pc' := 69) cx at0 rfl fl_X4_12 dX4_now_66 rfl ?_
        refine gw_iconst (pc' := 70) (v := 3) cx ci_3 dX4_now_69 rfl ?_
        obtain ⟨r7, g6, h⟩ := ob0_some h
        refine gw_cV (pc' := 73) (av := [.int 3]) (rest := []) cx (k_X0_sumOf E cty1 g6) (atC cty1) (by decide) lk_X4_114 dX4_now_70 rfl (Nat.le_of_ble_eq_true rfl) rfl ?_
        show GW E fr _ 73 _ (.int r7 :: _) _
        exact gw_iret cx tg (rt1 h) (rt2 h) dX4_now_73
      · skip
        rcases ite_some h with ⟨c8, h⟩ | ⟨c8, h⟩
        · refine gw_tin (pc' := 74) (off := 73) 3 cx c8 dX4_now_1 (by decide) (by decide) ?_
          refine gw_aload_n (pc' := 75) cx 0 rfl rfl dX4_now_74 rfl ?_
          refine gw_getR (pc' := 78) cx at0 rfl fl_X4_12 dX4_now_75 rfl ?_
          refine gw_getI (pc' := 81) cx (atC cty1) rfl fl_X4_117 dX4_now_78 rfl ?_
          exact gw_iret cx tg (rt1 h) (rt2 h) dX4_now_81
        · skip
          rcases ite_some h with ⟨c9, h⟩ | ⟨c9, h⟩
          · refine gw_tin (pc' := 82) (off := 81) 4 cx c9 dX4_now_1 (by decide) (by decide) ?_
            refine gw_aload_n (pc' := 83) cx 0 rfl rfl dX4_now_82 rfl ?_
            refine gw_getR (pc' := 86) cx at0 rfl fl_X4_12 dX4_now_83 rfl ?_
            obtain ⟨r11, g10, h⟩ := ob0_some h
            refine gw_cV (pc' := 89) (av := []) (rest := []) cx (k_X0_owedSet E cty1 g10) (atC cty1) (by decide) lk_X4_120 dX4_now_86 rfl (Nat.le_of_ble_eq_true rfl) rfl ?_
            show GW E fr _ 89 _ (.int r11 :: _) _
            exact gw_iret cx tg (rt1 h) (rt2 h) dX4_now_89
          · skip
            rcases ite_some h with ⟨c12, h⟩ | ⟨c12, h⟩
            · refine gw_tin (pc' := 90) (off := 89) 5 cx c12 dX4_now_1 (by decide) (by decide) ?_
              refine gw_aload_n (pc' := 91) cx 0 rfl rfl dX4_now_90 rfl ?_
              refine gw_getR (pc' := 94) cx at0 rfl fl_X4_12 dX4_now_91 rfl ?_
              refine gw_iconst (pc' := 95) (v := (-1)) cx ci_m1 dX4_now_94 rfl ?_
              obtain ⟨r14, g13, h⟩ := ob0_some h
              refine gw_cV (pc' := 98) (av := [.int (-1)]) (rest := []) cx (k_X0_roomiestBut E cty1 g13) (atC cty1) (by decide) lk_X4_100 dX4_now_95 rfl (Nat.le_of_ble_eq_true rfl) rfl ?_
              show GW E fr _ 98 _ (.int r14 :: _) _
              exact gw_iret cx tg (rt1 h) (rt2 h) dX4_now_98
            · skip
              rcases ite_some h with ⟨c15, h⟩ | ⟨c15, h⟩
              · refine gw_tin (pc' := 99) (off := 98) 6 cx c15 dX4_now_1 (by decide) (by decide) ?_
                refine gw_aload_n (pc' := 100) cx 0 rfl rfl dX4_now_99 rfl ?_
                refine gw_getR (pc' := 103) cx at0 rfl fl_X4_12 dX4_now_100 rfl ?_
                refine gw_iconst (pc' := 104) (v := 4) cx ci_4 dX4_now_103 rfl ?_
                obtain ⟨r17, g16, h⟩ := ob0_some h
                refine gw_cV (pc' := 107) (av := [.int 4]) (rest := []) cx (k_X0_sumOf E cty1 g16) (atC cty1) (by decide) lk_X4_114 dX4_now_104 rfl (Nat.le_of_ble_eq_true rfl) rfl ?_
                show GW E fr _ 107 _ (.int r17 :: _) _
                exact gw_iret cx tg (rt1 h) (rt2 h) dX4_now_107
              · skip
                rcases ite_some h with ⟨c18, h⟩ | ⟨c18, h⟩
                · refine gw_tin (pc' := 108) (off := 107) 7 cx c18 dX4_now_1 (by decide) (by decide) ?_
                  refine gw_aload_n (pc' := 109) cx 0 rfl rfl dX4_now_108 rfl ?_
                  refine gw_getR (pc' := 112) cx at0 rfl fl_X4_12 dX4_now_109 rfl ?_
                  obtain ⟨r20, g19, h⟩ := ob0_some h
                  refine gw_cV (pc' := 115) (av := []) (rest := []) cx (k_X0_isEven E cty1 g19) (atC cty1) (by decide) lk_X4_123 dX4_now_112 rfl (Nat.le_of_ble_eq_true rfl) rfl ?_
                  show GW E fr _ 115 _ (.int r20 :: _) _
                  rcases ite_some h with ⟨c21, h⟩ | ⟨c21, h⟩
                  · refine gw_if_eq_t (pc' := 122) cx c21 dX4_now_115 (by decide) ?_
                    refine gw_iconst (pc' := 123) (v := 0) cx ci_0 dX4_now_122 rfl ?_
                    exact gw_iret cx tg (rt1 h) (rt2 h) dX4_now_123
                  · refine gw_if_eq_f (pc' := 118) cx c21 dX4_now_115 ⟨122, by decide⟩ rfl ?_
                    refine gw_iconst (pc' := 119) (v := 1) cx ci_1 dX4_now_118 rfl ?_
                    refine gw_goto (pc' := 123) cx dX4_now_119 (by decide) ?_
                    exact gw_iret cx tg (rt1 h) (rt2 h) dX4_now_123
                · skip
                  refine gw_tout (pc' := 124) cx dX4_now_1 (by have a0 := lv_neT (a := 0) c1 rfl; have a1 := lv_neT (a := 1) c2 rfl; have a2 := lv_neT (a := 2) c5 rfl; have a3 := lv_neT (a := 3) c8 rfl; have a4 := lv_neT (a := 4) c9 rfl; have a5 := lv_neT (a := 5) c12 rfl; have a6 := lv_neT (a := 6) c15 rfl; have a7 := lv_neT (a := 7) c18 rfl; omega) (by decide) ?_
                  refine gw_aload_n (pc' := 125) cx 0 rfl rfl dX4_now_124 rfl ?_
                  refine gw_ldc (pc' := 127) (v := (-1000001)) cx ct_X4_44 dX4_now_125 rfl ?_
                  obtain ⟨r23, s24, g22, h⟩ := ob2_some h
                  refine gw_cV (pc' := 130) (av := [.int (-1000001)]) (rest := []) cx (k_X4_found E g22) at0 (by decide) lk_X4_45 dX4_now_127 rfl (Nat.le_of_ble_eq_true rfl) rfl ?_
                  show GW E fr _ 130 _ (.int r23 :: _) _
                  exact gw_iret cx tg (rt1 h) (rt2 h) dX4_now_130
def f_X4_ahead (x1 : Int32) (x2 : Int32) (x3 : Int32) (σ : Sg) : Option (Int32 × Sg) :=
  if x2 = 1 then
    ob0 (f_X0_has 1 x1 σ) fun r3 =>
    if r3 = 0 then
      ob2 (f_X4_found (-1000001) σ) fun r6 s7 =>
      some (r6, s7)
    else
      ob0 (f_X4_within x3 0 100 σ) fun r9 =>
      if r9 = 0 then
        ob2 (f_X4_found (-1000001) σ) fun r12 s13 =>
        some (r12, s13)
      else
        ob1 (f_X0_become 25 1 σ) fun s15 =>
        ob1 (f_X0_passDays 25 x3 s15) fun s17 =>
        chk x1 8 <|
        ob0 (f_X1_attribute (25 + 4 + x1.toNatClampNeg) x2 s17) fun r20 =>
        some (r20, s17)
  else
    if x2 = 3 then
      ob0 (f_X0_has 1 x1 σ) fun r23 =>
      if r23 = 0 then
        ob2 (f_X4_found (-1000001) σ) fun r26 s27 =>
        some (r26, s27)
      else
        ob0 (f_X4_within x3 0 100 σ) fun r29 =>
        if r29 = 0 then
          ob2 (f_X4_found (-1000001) σ) fun r32 s33 =>
          some (r32, s33)
        else
          ob1 (f_X0_become 25 1 σ) fun s35 =>
          ob1 (f_X0_passDays 25 x3 s35) fun s37 =>
          chk x1 8 <|
          ob0 (f_X1_attribute (25 + 4 + x1.toNatClampNeg) x2 s37) fun r40 =>
          some (r40, s37)
    else
      if x2 = 4 then
        ob0 (f_X0_has 1 x1 σ) fun r43 =>
        if r43 = 0 then
          ob2 (f_X4_found (-1000001) σ) fun r46 s47 =>
          some (r46, s47)
        else
          ob0 (f_X4_within x3 0 100 σ) fun r49 =>
          if r49 = 0 then
            ob2 (f_X4_found (-1000001) σ) fun r52 s53 =>
            some (r52, s53)
          else
            ob1 (f_X0_become 25 1 σ) fun s55 =>
            ob1 (f_X0_passDays 25 x3 s55) fun s57 =>
            chk x1 8 <|
            ob0 (f_X1_attribute (25 + 4 + x1.toNatClampNeg) x2 s57) fun r60 =>
            some (r60, s57)
      else
        ob0 (f_X0_has 1 x1 σ) fun r62 =>
        if r62 = 0 then
          ob2 (f_X4_found (-1000001) σ) fun r65 s66 =>
          some (r65, s66)
        else
          ob2 (f_X4_found (-1000001) σ) fun r68 s69 =>
          some (r68, s69)
theorem k_X4_ahead (E : Ev) {x1 : Int32} {x2 : Int32} {x3 : Int32} {σ : Sg} {r : Int32} {σ' : Sg} (h : f_X4_ahead x1 x2 x3 σ = some (r, σ')) : Con E mX4_ahead 6 [.ref (eA E 0), .int x1, .int x2, .int x3] σ (some (.int r)) σ' := by
  refine con_of (by decide) (Nat.le_of_ble_eq_true rfl) (fun fr cx tg => ?_)
  show GW E fr 5 0 [(0, .ref (eA E 0)), (1, .int x1), (2, .int x2), (3, .int x3)] [] σ
  rw [f_X4_ahead] at h
  refine gw_iload_n (pc' := 1) cx 2 rfl rfl dX4_ahead_0 rfl ?_
  refine gw_iconst (pc' := 2) (v := 1) cx ci_1 dX4_ahead_1 rfl ?_
  rcases ite_some h with ⟨c1, h⟩ | ⟨c1, h⟩
  · refine gw_ic_eq_t (pc' := 15) cx c1 dX4_ahead_2 (by decide) ?_
    refine gw_iconst (pc' := 16) (v := 1) cx ci_1 dX4_ahead_15 rfl ?_
    refine gw_goto (pc' := 20) cx dX4_ahead_16 (by decide) ?_
    refine gw_istore (pc' := 22) (lv' := [(4, .int 1), (0, .ref (eA E 0)), (1, .int x1), (2, .int x2), (3, .int x3)]) cx rfl (by decide) dX4_ahead_20 rfl ?_
    refine gw_aload_n (pc' := 23) cx 1 rfl rfl dX4_ahead_22 rfl ?_
    refine gw_getR (pc' := 26) cx at0 rfl fl_X4_12 dX4_ahead_23 rfl ?_
    refine gw_iload_n (pc' := 27) cx 2 rfl rfl dX4_ahead_26 rfl ?_
    obtain ⟨r3, g2, h⟩ := ob0_some h
    refine gw_cV (pc' := 30) (av := [.int x1]) (rest := []) cx (k_X0_has E cty1 g2) (atC cty1) (by decide) lk_X4_64 dX4_ahead_27 rfl (Nat.le_of_ble_eq_true rfl) rfl ?_
    show GW E fr _ 30 _ (.int r3 :: _) _
    rcases ite_some h with ⟨c4, h⟩ | ⟨c4, h⟩
    · refine gw_if_eq_t (pc' := 48) cx c4 dX4_ahead_30 (by decide) ?_
      refine gw_aload_n (pc' := 49) cx 1 rfl rfl dX4_ahead_48 rfl ?_
      refine gw_ldc (pc' := 51) (v := (-1000001)) cx ct_X4_44 dX4_ahead_49 rfl ?_
      obtain ⟨r6, s7, g5, h⟩ := ob2_some h
      refine gw_cV (pc' := 54) (av := [.int (-1000001)]) (rest := []) cx (k_X4_found E g5) at0 (by decide) lk_X4_45 dX4_ahead_51 rfl (Nat.le_of_ble_eq_true rfl) rfl ?_
      show GW E fr _ 54 _ (.int r6 :: _) _
      exact gw_iret cx tg (rt1 h) (rt2 h) dX4_ahead_54
    · refine gw_if_eq_f (pc' := 33) cx c4 dX4_ahead_30 ⟨48, by decide⟩ rfl ?_
      refine gw_iload (pc' := 35) cx 0 rfl dX4_ahead_33 rfl ?_
      refine gw_if_eq_f (pc' := 38) cx (by decide) dX4_ahead_35 ⟨48, by decide⟩ rfl ?_
      refine gw_iload_n (pc' := 39) cx 4 rfl rfl dX4_ahead_38 rfl ?_
      refine gw_iconst (pc' := 40) (v := 0) cx ci_0 dX4_ahead_39 rfl ?_
      refine gw_bipush (pc' := 42) (v := 100) cx cb_100 dX4_ahead_40 rfl ?_
      obtain ⟨r9, g8, h⟩ := ob0_some h
      refine gw_cS (pc' := 45) (av := [.int x3, .int 0, .int 100]) (rest := []) cx (k_X4_within E g8) (by decide) lk_X4_40 dX4_ahead_42 rfl (Nat.le_of_ble_eq_true rfl) rfl ?_
      show GW E fr _ 45 _ (.int r9 :: _) _
      rcases ite_some h with ⟨c10, h⟩ | ⟨c10, h⟩
      · refine gw_if_ne_f (pc' := 48) cx c10 dX4_ahead_45 ⟨55, by decide⟩ rfl ?_
        refine gw_aload_n (pc' := 49) cx 1 rfl rfl dX4_ahead_48 rfl ?_
        refine gw_ldc (pc' := 51) (v := (-1000001)) cx ct_X4_44 dX4_ahead_49 rfl ?_
        obtain ⟨r12, s13, g11, h⟩ := ob2_some h
        refine gw_cV (pc' := 54) (av := [.int (-1000001)]) (rest := []) cx (k_X4_found E g11) at0 (by decide) lk_X4_45 dX4_ahead_51 rfl (Nat.le_of_ble_eq_true rfl) rfl ?_
        show GW E fr _ 54 _ (.int r12 :: _) _
        exact gw_iret cx tg (rt1 h) (rt2 h) dX4_ahead_54
      · refine gw_if_ne_t (pc' := 55) cx c10 dX4_ahead_45 (by decide) ?_
        refine gw_aload_n (pc' := 56) cx 1 rfl rfl dX4_ahead_55 rfl ?_
        refine gw_getR (pc' := 59) cx at0 rfl fl_X4_19 dX4_ahead_56 rfl ?_
        refine gw_aload_n (pc' := 60) cx 1 rfl rfl dX4_ahead_59 rfl ?_
        refine gw_getR (pc' := 63) cx at0 rfl fl_X4_12 dX4_ahead_60 rfl ?_
        obtain ⟨s15, g14, h⟩ := ob1_some h
        refine gw_cV (pc' := 66) (av := [.ref (eA E 1)]) (rest := []) cx (k_X0_become E cty25 cty1 g14) (atC cty25) (by decide) lk_X4_127 dX4_ahead_63 rfl (Nat.le_of_ble_eq_true rfl) rfl ?_
        show GW E fr _ 66 _ [] _
        refine gw_aload_n (pc' := 67) cx 1 rfl rfl dX4_ahead_66 rfl ?_
        refine gw_getR (pc' := 70) cx at0 rfl fl_X4_19 dX4_ahead_67 rfl ?_
        refine gw_iload_n (pc' := 71) cx 4 rfl rfl dX4_ahead_70 rfl ?_
        obtain ⟨s17, g16, h⟩ := ob1_some h
        refine gw_cV (pc' := 74) (av := [.int x3]) (rest := []) cx (k_X0_passDays E cty25 g16) (atC cty25) (by decide) lk_X4_110 dX4_ahead_71 rfl (Nat.le_of_ble_eq_true rfl) rfl ?_
        show GW E fr _ 74 _ [] _
        refine gw_aload_n (pc' := 75) cx 1 rfl rfl dX4_ahead_74 rfl ?_
        refine gw_getR (pc' := 78) cx at0 rfl fl_X4_19 dX4_ahead_75 rfl ?_
        refine gw_getR (pc' := 81) cx (atC cty25) rfl fl_X4_68 dX4_ahead_78 rfl ?_
        refine gw_iload_n (pc' := 82) cx 2 rfl rfl dX4_ahead_81 rfl ?_
        obtain ⟨i18, h⟩ := chk_some h
        refine gw_aald (pc' := 83) cx (atCp cty25) i18 dX4_ahead_82 rfl ?_
        refine gw_iload_n (pc' := 84) cx 3 rfl rfl dX4_ahead_83 rfl ?_
        obtain ⟨r20, g19, h⟩ := ob0_some h
        refine gw_cV (pc' := 87) (av := [.int x2]) (rest := []) cx (k_X1_attribute E (psn_of cty25 i18) g19) (atP (psn_of cty25 i18)) (by decide) lk_X4_87 dX4_ahead_84 rfl (Nat.le_of_ble_eq_true rfl) rfl ?_
        show GW E fr _ 87 _ (.int r20 :: _) _
        exact gw_iret cx tg (rt1 h) (rt2 h) dX4_ahead_87
  · refine gw_ic_eq_f (pc' := 5) cx c1 dX4_ahead_2 ⟨15, by decide⟩ rfl ?_
    refine gw_iload_n (pc' := 6) cx 2 rfl rfl dX4_ahead_5 rfl ?_
    refine gw_iconst (pc' := 7) (v := 3) cx ci_3 dX4_ahead_6 rfl ?_
    rcases ite_some h with ⟨c21, h⟩ | ⟨c21, h⟩
    · refine gw_ic_eq_t (pc' := 15) cx c21 dX4_ahead_7 (by decide) ?_
      refine gw_iconst (pc' := 16) (v := 1) cx ci_1 dX4_ahead_15 rfl ?_
      refine gw_goto (pc' := 20) cx dX4_ahead_16 (by decide) ?_
      refine gw_istore (pc' := 22) (lv' := [(4, .int 1), (0, .ref (eA E 0)), (1, .int x1), (2, .int x2), (3, .int x3)]) cx rfl (by decide) dX4_ahead_20 rfl ?_
      refine gw_aload_n (pc' := 23) cx 1 rfl rfl dX4_ahead_22 rfl ?_
      refine gw_getR (pc' := 26) cx at0 rfl fl_X4_12 dX4_ahead_23 rfl ?_
      refine gw_iload_n (pc' := 27) cx 2 rfl rfl dX4_ahead_26 rfl ?_
      obtain ⟨r23, g22, h⟩ := ob0_some h
      refine gw_cV (pc' := 30) (av := [.int x1]) (rest := []) cx (k_X0_has E cty1 g22) (atC cty1) (by decide) lk_X4_64 dX4_ahead_27 rfl (Nat.le_of_ble_eq_true rfl) rfl ?_
      show GW E fr _ 30 _ (.int r23 :: _) _
      rcases ite_some h with ⟨c24, h⟩ | ⟨c24, h⟩
      · refine gw_if_eq_t (pc' := 48) cx c24 dX4_ahead_30 (by decide) ?_
        refine gw_aload_n (pc' := 49) cx 1 rfl rfl dX4_ahead_48 rfl ?_
        refine gw_ldc (pc' := 51) (v := (-1000001)) cx ct_X4_44 dX4_ahead_49 rfl ?_
        obtain ⟨r26, s27, g25, h⟩ := ob2_some h
        refine gw_cV (pc' := 54) (av := [.int (-1000001)]) (rest := []) cx (k_X4_found E g25) at0 (by decide) lk_X4_45 dX4_ahead_51 rfl (Nat.le_of_ble_eq_true rfl) rfl ?_
        show GW E fr _ 54 _ (.int r26 :: _) _
        exact gw_iret cx tg (rt1 h) (rt2 h) dX4_ahead_54
      · refine gw_if_eq_f (pc' := 33) cx c24 dX4_ahead_30 ⟨48, by decide⟩ rfl ?_
        refine gw_iload (pc' := 35) cx 0 rfl dX4_ahead_33 rfl ?_
        refine gw_if_eq_f (pc' := 38) cx (by decide) dX4_ahead_35 ⟨48, by decide⟩ rfl ?_
        refine gw_iload_n (pc' := 39) cx 4 rfl rfl dX4_ahead_38 rfl ?_
        refine gw_iconst (pc' := 40) (v := 0) cx ci_0 dX4_ahead_39 rfl ?_
        refine gw_bipush (pc' := 42) (v := 100) cx cb_100 dX4_ahead_40 rfl ?_
        obtain ⟨r29, g28, h⟩ := ob0_some h
        refine gw_cS (pc' := 45) (av := [.int x3, .int 0, .int 100]) (rest := []) cx (k_X4_within E g28) (by decide) lk_X4_40 dX4_ahead_42 rfl (Nat.le_of_ble_eq_true rfl) rfl ?_
        show GW E fr _ 45 _ (.int r29 :: _) _
        rcases ite_some h with ⟨c30, h⟩ | ⟨c30, h⟩
        · refine gw_if_ne_f (pc' := 48) cx c30 dX4_ahead_45 ⟨55, by decide⟩ rfl ?_
          refine gw_aload_n (pc' := 49) cx 1 rfl rfl dX4_ahead_48 rfl ?_
          refine gw_ldc (pc' := 51) (v := (-1000001)) cx ct_X4_44 dX4_ahead_49 rfl ?_
          obtain ⟨r32, s33, g31, h⟩ := ob2_some h
          refine gw_cV (pc' := 54) (av := [.int (-1000001)]) (rest := []) cx (k_X4_found E g31) at0 (by decide) lk_X4_45 dX4_ahead_51 rfl (Nat.le_of_ble_eq_true rfl) rfl ?_
          show GW E fr _ 54 _ (.int r32 :: _) _
          exact gw_iret cx tg (rt1 h) (rt2 h) dX4_ahead_54
        · refine gw_if_ne_t (pc' := 55) cx c30 dX4_ahead_45 (by decide) ?_
          refine gw_aload_n (pc' := 56) cx 1 rfl rfl dX4_ahead_55 rfl ?_
          refine gw_getR (pc' := 59) cx at0 rfl fl_X4_19 dX4_ahead_56 rfl ?_
          refine gw_aload_n (pc' := 60) cx 1 rfl rfl dX4_ahead_59 rfl ?_
          refine gw_getR (pc' := 63) cx at0 rfl fl_X4_12 dX4_ahead_60 rfl ?_
          obtain ⟨s35, g34, h⟩ := ob1_some h
          refine gw_cV (pc' := 66) (av := [.ref (eA E 1)]) (rest := []) cx (k_X0_become E cty25 cty1 g34) (atC cty25) (by decide) lk_X4_127 dX4_ahead_63 rfl (Nat.le_of_ble_eq_true rfl) rfl ?_
          show GW E fr _ 66 _ [] _
          refine gw_aload_n (pc' := 67) cx 1 rfl rfl dX4_ahead_66 rfl ?_
          refine gw_getR (pc' := 70) cx at0 rfl fl_X4_19 dX4_ahead_67 rfl ?_
          refine gw_iload_n (pc' := 71) cx 4 rfl rfl dX4_ahead_70 rfl ?_
          obtain ⟨s37, g36, h⟩ := ob1_some h
          refine gw_cV (pc' := 74) (av := [.int x3]) (rest := []) cx (k_X0_passDays E cty25 g36) (atC cty25) (by decide) lk_X4_110 dX4_ahead_71 rfl (Nat.le_of_ble_eq_true rfl) rfl ?_
          show GW E fr _ 74 _ [] _
          refine gw_aload_n (pc' := 75) cx 1 rfl rfl dX4_ahead_74 rfl ?_
          refine gw_getR (pc' := 78) cx at0 rfl fl_X4_19 dX4_ahead_75 rfl ?_
          refine gw_getR (pc' := 81) cx (atC cty25) rfl fl_X4_68 dX4_ahead_78 rfl ?_
          refine gw_iload_n (pc' := 82) cx 2 rfl rfl dX4_ahead_81 rfl ?_
          obtain ⟨i38, h⟩ := chk_some h
          refine gw_aald (pc' := 83) cx (atCp cty25) i38 dX4_ahead_82 rfl ?_
          refine gw_iload_n (pc' := 84) cx 3 rfl rfl dX4_ahead_83 rfl ?_
          obtain ⟨r40, g39, h⟩ := ob0_some h
          refine gw_cV (pc' := 87) (av := [.int x2]) (rest := []) cx (k_X1_attribute E (psn_of cty25 i38) g39) (atP (psn_of cty25 i38)) (by decide) lk_X4_87 dX4_ahead_84 rfl (Nat.le_of_ble_eq_true rfl) rfl ?_
          show GW E fr _ 87 _ (.int r40 :: _) _
          exact gw_iret cx tg (rt1 h) (rt2 h) dX4_ahead_87
    · refine gw_ic_eq_f (pc' := 10) cx c21 dX4_ahead_7 ⟨15, by decide⟩ rfl ?_
      refine gw_iload_n (pc' := 11) cx 2 rfl rfl dX4_ahead_10 rfl ?_
      refine gw_iconst (pc' := 12) (v := 4) cx ci_4 dX4_ahead_11 rfl ?_
      rcases ite_some h with ⟨c41, h⟩ | ⟨c41, h⟩
      · refine gw_ic_ne_f (pc' := 15) cx c41 dX4_ahead_12 ⟨19, by decide⟩ rfl ?_
        refine gw_iconst (pc' := 16) (v := 1) cx ci_1 dX4_ahead_15 rfl ?_
        refine gw_goto (pc' := 20) cx dX4_ahead_16 (by decide) ?_
        refine gw_istore (pc' := 22) (lv' := [(4, .int 1), (0, .ref (eA E 0)), (1, .int x1), (2, .int x2), (3, .int x3)]) cx rfl (by decide) dX4_ahead_20 rfl ?_
        refine gw_aload_n (pc' := 23) cx 1 rfl rfl dX4_ahead_22 rfl ?_
        refine gw_getR (pc' := 26) cx at0 rfl fl_X4_12 dX4_ahead_23 rfl ?_
        refine gw_iload_n (pc' := 27) cx 2 rfl rfl dX4_ahead_26 rfl ?_
        obtain ⟨r43, g42, h⟩ := ob0_some h
        refine gw_cV (pc' := 30) (av := [.int x1]) (rest := []) cx (k_X0_has E cty1 g42) (atC cty1) (by decide) lk_X4_64 dX4_ahead_27 rfl (Nat.le_of_ble_eq_true rfl) rfl ?_
        show GW E fr _ 30 _ (.int r43 :: _) _
        rcases ite_some h with ⟨c44, h⟩ | ⟨c44, h⟩
        · refine gw_if_eq_t (pc' := 48) cx c44 dX4_ahead_30 (by decide) ?_
          refine gw_aload_n (pc' := 49) cx 1 rfl rfl dX4_ahead_48 rfl ?_
          refine gw_ldc (pc' := 51) (v := (-1000001)) cx ct_X4_44 dX4_ahead_49 rfl ?_
          obtain ⟨r46, s47, g45, h⟩ := ob2_some h
          refine gw_cV (pc' := 54) (av := [.int (-1000001)]) (rest := []) cx (k_X4_found E g45) at0 (by decide) lk_X4_45 dX4_ahead_51 rfl (Nat.le_of_ble_eq_true rfl) rfl ?_
          show GW E fr _ 54 _ (.int r46 :: _) _
          exact gw_iret cx tg (rt1 h) (rt2 h) dX4_ahead_54
        · refine gw_if_eq_f (pc' := 33) cx c44 dX4_ahead_30 ⟨48, by decide⟩ rfl ?_
          refine gw_iload (pc' := 35) cx 0 rfl dX4_ahead_33 rfl ?_
          refine gw_if_eq_f (pc' := 38) cx (by decide) dX4_ahead_35 ⟨48, by decide⟩ rfl ?_
          refine gw_iload_n (pc' := 39) cx 4 rfl rfl dX4_ahead_38 rfl ?_
          refine gw_iconst (pc' := 40) (v := 0) cx ci_0 dX4_ahead_39 rfl ?_
          refine gw_bipush (pc' := 42) (v := 100) cx cb_100 dX4_ahead_40 rfl ?_
          obtain ⟨r49, g48, h⟩ := ob0_some h
          refine gw_cS (pc' := 45) (av := [.int x3, .int 0, .int 100]) (rest := []) cx (k_X4_within E g48) (by decide) lk_X4_40 dX4_ahead_42 rfl (Nat.le_of_ble_eq_true rfl) rfl ?_
          show GW E fr _ 45 _ (.int r49 :: _) _
          rcases ite_some h with ⟨c50, h⟩ | ⟨c50, h⟩
          · refine gw_if_ne_f (pc' := 48) cx c50 dX4_ahead_45 ⟨55, by decide⟩ rfl ?_
            refine gw_aload_n (pc' := 49) cx 1 rfl rfl dX4_ahead_48 rfl ?_
            refine gw_ldc (pc' := 51) (v := (-1000001)) cx ct_X4_44 dX4_ahead_49 rfl ?_
            obtain ⟨r52, s53, g51, h⟩ := ob2_some h
            refine gw_cV (pc' := 54) (av := [.int (-1000001)]) (rest := []) cx (k_X4_found E g51) at0 (by decide) lk_X4_45 dX4_ahead_51 rfl (Nat.le_of_ble_eq_true rfl) rfl ?_
            show GW E fr _ 54 _ (.int r52 :: _) _
            exact gw_iret cx tg (rt1 h) (rt2 h) dX4_ahead_54
          · refine gw_if_ne_t (pc' := 55) cx c50 dX4_ahead_45 (by decide) ?_
            refine gw_aload_n (pc' := 56) cx 1 rfl rfl dX4_ahead_55 rfl ?_
            refine gw_getR (pc' := 59) cx at0 rfl fl_X4_19 dX4_ahead_56 rfl ?_
            refine gw_aload_n (pc' := 60) cx 1 rfl rfl dX4_ahead_59 rfl ?_
            refine gw_getR (pc' := 63) cx at0 rfl fl_X4_12 dX4_ahead_60 rfl ?_
            obtain ⟨s55, g54, h⟩ := ob1_some h
            refine gw_cV (pc' := 66) (av := [.ref (eA E 1)]) (rest := []) cx (k_X0_become E cty25 cty1 g54) (atC cty25) (by decide) lk_X4_127 dX4_ahead_63 rfl (Nat.le_of_ble_eq_true rfl) rfl ?_
            show GW E fr _ 66 _ [] _
            refine gw_aload_n (pc' := 67) cx 1 rfl rfl dX4_ahead_66 rfl ?_
            refine gw_getR (pc' := 70) cx at0 rfl fl_X4_19 dX4_ahead_67 rfl ?_
            refine gw_iload_n (pc' := 71) cx 4 rfl rfl dX4_ahead_70 rfl ?_
            obtain ⟨s57, g56, h⟩ := ob1_some h
            refine gw_cV (pc' := 74) (av := [.int x3]) (rest := []) cx (k_X0_passDays E cty25 g56) (atC cty25) (by decide) lk_X4_110 dX4_ahead_71 rfl (Nat.le_of_ble_eq_true rfl) rfl ?_
            show GW E fr _ 74 _ [] _
            refine gw_aload_n (pc' := 75) cx 1 rfl rfl dX4_ahead_74 rfl ?_
            refine gw_getR (pc' := 78) cx at0 rfl fl_X4_19 dX4_ahead_75 rfl ?_
            refine gw_getR (pc' := 81) cx (atC cty25) rfl fl_X4_68 dX4_ahead_78 rfl ?_
            refine gw_iload_n (pc' := 82) cx 2 rfl rfl dX4_ahead_81 rfl ?_
            obtain ⟨i58, h⟩ := chk_some h
            refine gw_aald (pc' := 83) cx (atCp cty25) i58 dX4_ahead_82 rfl ?_
            refine gw_iload_n (pc' := 84) cx 3 rfl rfl dX4_ahead_83 rfl ?_
            obtain ⟨r60, g59, h⟩ := ob0_some h
            refine gw_cV (pc' := 87) (av := [.int x2]) (rest := []) cx (k_X1_attribute E (psn_of cty25 i58) g59) (atP (psn_of cty25 i58)) (by decide) lk_X4_87 dX4_ahead_84 rfl (Nat.le_of_ble_eq_true rfl) rfl ?_
            show GW E fr _ 87 _ (.int r60 :: _) _
            exact gw_iret cx tg (rt1 h) (rt2 h) dX4_ahead_87
      · refine gw_ic_ne_t (pc' := 19) cx c41 dX4_ahead_12 (by decide) ?_
        refine gw_iconst (pc' := 20) (v := 0) cx ci_0 dX4_ahead_19 rfl ?_
        refine gw_istore (pc' := 22) (lv' := [(4, .int 0), (0, .ref (eA E 0)), (1, .int x1), (2, .int x2), (3, .int x3)]) cx rfl (by decide) dX4_ahead_20 rfl ?_
        refine gw_aload_n (pc' := 23) cx 1 rfl rfl dX4_ahead_22 rfl ?_
        refine gw_getR (pc' := 26) cx at0 rfl fl_X4_12 dX4_ahead_23 rfl ?_
        refine gw_iload_n (pc' := 27) cx 2 rfl rfl dX4_ahead_26 rfl ?_
        obtain ⟨r62, g61, h⟩ := ob0_some h
        refine gw_cV (pc' := 30) (av := [.int x1]) (rest := []) cx (k_X0_has E cty1 g61) (atC cty1) (by decide) lk_X4_64 dX4_ahead_27 rfl (Nat.le_of_ble_eq_true rfl) rfl ?_
        show GW E fr _ 30 _ (.int r62 :: _) _
        rcases ite_some h with ⟨c63, h⟩ | ⟨c63, h⟩
        · refine gw_if_eq_t (pc' := 48) cx c63 dX4_ahead_30 (by decide) ?_
          refine gw_aload_n (pc' := 49) cx 1 rfl rfl dX4_ahead_48 rfl ?_
          refine gw_ldc (pc' := 51) (v := (-1000001)) cx ct_X4_44 dX4_ahead_49 rfl ?_
          obtain ⟨r65, s66, g64, h⟩ := ob2_some h
          refine gw_cV (pc' := 54) (av := [.int (-1000001)]) (rest := []) cx (k_X4_found E g64) at0 (by decide) lk_X4_45 dX4_ahead_51 rfl (Nat.le_of_ble_eq_true rfl) rfl ?_
          show GW E fr _ 54 _ (.int r65 :: _) _
          exact gw_iret cx tg (rt1 h) (rt2 h) dX4_ahead_54
        · refine gw_if_eq_f (pc' := 33) cx c63 dX4_ahead_30 ⟨48, by decide⟩ rfl ?_
          refine gw_iload (pc' := 35) cx 0 rfl dX4_ahead_33 rfl ?_
          refine gw_if_eq_t (pc' := 48) cx (by decide) dX4_ahead_35 (by decide) ?_
          refine gw_aload_n (pc' := 49) cx 1 rfl rfl dX4_ahead_48 rfl ?_
          refine gw_ldc (pc' := 51) (v := (-1000001)) cx ct_X4_44 dX4_ahead_49 rfl ?_
          obtain ⟨r68, s69, g67, h⟩ := ob2_some h
          refine gw_cV (pc' := 54) (av := [.int (-1000001)]) (rest := []) cx (k_X4_found E g67) at0 (by decide) lk_X4_45 dX4_ahead_51 rfl (Nat.le_of_ble_eq_true rfl) rfl ?_
          show GW E fr _ 54 _ (.int r68 :: _) _
          exact gw_iret cx tg (rt1 h) (rt2 h) dX4_ahead_54
def f_X4_hints (x1 : Int32) (σ : Sg) : Option (Int32 × Sg) :=
  ob0 (f_X4_within x1 0 100 σ) fun r2 =>
  if r2 = 0 then
    ob2 (f_X4_found (-1000001) σ) fun r5 s6 =>
    some (r5, s6)
  else
    ob1 (f_X0_become 25 1 σ) fun s8 =>
    ob1 (f_X0_passDays 25 x1 s8) fun s10 =>
    some ((s10 25 4), s10)
theorem k_X4_hints (E : Ev) {x1 : Int32} {σ : Sg} {r : Int32} {σ' : Sg} (h : f_X4_hints x1 σ = some (r, σ')) : Con E mX4_hints 6 [.ref (eA E 0), .int x1] σ (some (.int r)) σ' := by
  refine con_of (by decide) (Nat.le_of_ble_eq_true rfl) (fun fr cx tg => ?_)
  show GW E fr 2 0 [(0, .ref (eA E 0)), (1, .int x1)] [] σ
  rw [f_X4_hints] at h
  refine gw_iload_n (pc' := 1) cx 1 rfl rfl dX4_hints_0 rfl ?_
  refine gw_iconst (pc' := 2) (v := 0) cx ci_0 dX4_hints_1 rfl ?_
  refine gw_bipush (pc' := 4) (v := 100) cx cb_100 dX4_hints_2 rfl ?_
  obtain ⟨r2, g1, h⟩ := ob0_some h
  refine gw_cS (pc' := 7) (av := [.int x1, .int 0, .int 100]) (rest := []) cx (k_X4_within E g1) (by decide) lk_X4_40 dX4_hints_4 rfl (Nat.le_of_ble_eq_true rfl) rfl ?_
  show GW E fr _ 7 _ (.int r2 :: _) _
  rcases ite_some h with ⟨c3, h⟩ | ⟨c3, h⟩
  · refine gw_if_ne_f (pc' := 10) cx c3 dX4_hints_7 ⟨17, by decide⟩ rfl ?_
    refine gw_aload_n (pc' := 11) cx 0 rfl rfl dX4_hints_10 rfl ?_
    refine gw_ldc (pc' := 13) (v := (-1000001)) cx ct_X4_44 dX4_hints_11 rfl ?_
    obtain ⟨r5, s6, g4, h⟩ := ob2_some h
    refine gw_cV (pc' := 16) (av := [.int (-1000001)]) (rest := []) cx (k_X4_found E g4) at0 (by decide) lk_X4_45 dX4_hints_13 rfl (Nat.le_of_ble_eq_true rfl) rfl ?_
    show GW E fr _ 16 _ (.int r5 :: _) _
    exact gw_iret cx tg (rt1 h) (rt2 h) dX4_hints_16
  · refine gw_if_ne_t (pc' := 17) cx c3 dX4_hints_7 (by decide) ?_
    refine gw_aload_n (pc' := 18) cx 0 rfl rfl dX4_hints_17 rfl ?_
    refine gw_getR (pc' := 21) cx at0 rfl fl_X4_19 dX4_hints_18 rfl ?_
    refine gw_aload_n (pc' := 22) cx 0 rfl rfl dX4_hints_21 rfl ?_
    refine gw_getR (pc' := 25) cx at0 rfl fl_X4_12 dX4_hints_22 rfl ?_
    obtain ⟨s8, g7, h⟩ := ob1_some h
    refine gw_cV (pc' := 28) (av := [.ref (eA E 1)]) (rest := []) cx (k_X0_become E cty25 cty1 g7) (atC cty25) (by decide) lk_X4_127 dX4_hints_25 rfl (Nat.le_of_ble_eq_true rfl) rfl ?_
    show GW E fr _ 28 _ [] _
    refine gw_aload_n (pc' := 29) cx 0 rfl rfl dX4_hints_28 rfl ?_
    refine gw_getR (pc' := 32) cx at0 rfl fl_X4_19 dX4_hints_29 rfl ?_
    refine gw_iload_n (pc' := 33) cx 1 rfl rfl dX4_hints_32 rfl ?_
    obtain ⟨s10, g9, h⟩ := ob1_some h
    refine gw_cV (pc' := 36) (av := [.int x1]) (rest := []) cx (k_X0_passDays E cty25 g9) (atC cty25) (by decide) lk_X4_110 dX4_hints_33 rfl (Nat.le_of_ble_eq_true rfl) rfl ?_
    show GW E fr _ 36 _ [] _
    refine gw_aload_n (pc' := 37) cx 0 rfl rfl dX4_hints_36 rfl ?_
    refine gw_getR (pc' := 40) cx at0 rfl fl_X4_19 dX4_hints_37 rfl ?_
    refine gw_getI (pc' := 43) cx (atC cty25) rfl fl_X4_117 dX4_hints_40 rfl ?_
    exact gw_iret cx tg (rt1 h) (rt2 h) dX4_hints_43
def f_X4_even_L13 : Nat → Int32 → Sg → Option (Int32 × Sg)
  | 0, _, _ => none
  | n + 1, y1, σ =>
    if 200 < y1 then
      ob2 (f_X4_found (-1000004) σ) fun r5 s6 =>
      some (r5, s6)
    else
      ob0 (f_X0_isEven 25 σ) fun r8 =>
      if r8 = 0 then
        ob1 (f_X0_passDay 25 σ) fun s11 =>
        f_X4_even_L13 n (y1 + 1) s11
      else
        some (y1, σ)
theorem w_X4_even_L13 {E : Ev} {fr : Fr} {r : Int32} {σ' : Sg} (cx : Cx E mX4_even 5 fr) (tg : Tg E fr (some .int) (some (.int r)) σ')  : ∀ (n : Nat) (y1 : Int32) (σ : Sg), f_X4_even_L13 n y1 σ = some (r, σ') → GW E fr 2 13 [(0, .ref (eA E 0)), (1, .int y1)] [] σ := by
  intro n
  induction n with
  | zero => intro y1 σ h; cases (show (none : Option (Int32 × Sg)) = _ from h)
  | succ n ih =>
    intro y1 σ h
    rw [f_X4_even_L13] at h
    refine gw_iload_n (pc' := 14) cx 1 rfl rfl dX4_even_13 rfl ?_
    refine gw_sipush (pc' := 17) (v := 200) cx cs_200 dX4_even_14 rfl ?_
    rcases ite_some h with ⟨c3, h⟩ | ⟨c3, h⟩
    · refine gw_ic_gt_t (pc' := 45) cx c3 dX4_even_17 (by decide) ?_
      refine gw_aload_n (pc' := 46) cx 0 rfl rfl dX4_even_45 rfl ?_
      refine gw_ldc (pc' := 48) (v := (-1000004)) cx ct_X4_107 dX4_even_46 rfl ?_
      obtain ⟨r5, s6, g4, h⟩ := ob2_some h
      refine gw_cV (pc' := 51) (av := [.int (-1000004)]) (rest := []) cx (k_X4_found E g4) at0 (by decide) lk_X4_45 dX4_even_48 rfl (Nat.le_of_ble_eq_true rfl) rfl ?_
      show GW E fr _ 51 _ (.int r5 :: _) _
      exact gw_iret cx tg (rt1 h) (rt2 h) dX4_even_51
    · refine gw_ic_gt_f (pc' := 20) cx c3 dX4_even_17 ⟨45, by decide⟩ rfl ?_
      refine gw_aload_n (pc' := 21) cx 0 rfl rfl dX4_even_20 rfl ?_
      refine gw_getR (pc' := 24) cx at0 rfl fl_X4_19 dX4_even_21 rfl ?_
      obtain ⟨r8, g7, h⟩ := ob0_some h
      refine gw_cV (pc' := 27) (av := []) (rest := []) cx (k_X0_isEven E cty25 g7) (atC cty25) (by decide) lk_X4_123 dX4_even_24 rfl (Nat.le_of_ble_eq_true rfl) rfl ?_
      show GW E fr _ 27 _ (.int r8 :: _) _
      rcases ite_some h with ⟨c9, h⟩ | ⟨c9, h⟩
      · refine gw_if_eq_t (pc' := 32) cx c9 dX4_even_27 (by decide) ?_
        refine gw_aload_n (pc' := 33) cx 0 rfl rfl dX4_even_32 rfl ?_
        refine gw_getR (pc' := 36) cx at0 rfl fl_X4_19 dX4_even_33 rfl ?_
        obtain ⟨s11, g10, h⟩ := ob1_some h
        refine gw_cV (pc' := 39) (av := []) (rest := []) cx (k_X0_passDay E cty25 g10) (atC cty25) (by decide) lk_X4_131 dX4_even_36 rfl (Nat.le_of_ble_eq_true rfl) rfl ?_
        show GW E fr _ 39 _ [] _
        refine gw_iinc (pc' := 42) (v := (y1 + 1)) (lv' := [(1, .int (y1 + 1)), (0, .ref (eA E 0))]) cx 1 rfl rfl rfl (by decide) dX4_even_39 rfl ?_
        refine gw_goto (pc' := 13) cx dX4_even_42 (by decide) ?_
        refine gw_sub [1, 0] (lv' := [(0, .ref (eA E 0)), (1, .int (y1 + 1))]) rfl ?_
        exact ih (y1 + 1) s11 h
      · refine gw_if_eq_f (pc' := 30) cx c9 dX4_even_27 ⟨32, by decide⟩ rfl ?_
        refine gw_iload_n (pc' := 31) cx 1 rfl rfl dX4_even_30 rfl ?_
        exact gw_iret cx tg (rt1 h) (rt2 h) dX4_even_31
def f_X4_even (σ : Sg) : Option (Int32 × Sg) :=
  ob1 (f_X0_become 25 1 σ) fun s2 =>
  f_X4_even_L13 FU 0 s2
theorem k_X4_even (E : Ev)  {σ : Sg} {r : Int32} {σ' : Sg} (h : f_X4_even σ = some (r, σ')) : Con E mX4_even 5 [.ref (eA E 0)] σ (some (.int r)) σ' := by
  refine con_of (by decide) (Nat.le_of_ble_eq_true rfl) (fun fr cx tg => ?_)
  show GW E fr 2 0 [(0, .ref (eA E 0))] [] σ
  rw [f_X4_even] at h
  refine gw_aload_n (pc' := 1) cx 0 rfl rfl dX4_even_0 rfl ?_
  refine gw_getR (pc' := 4) cx at0 rfl fl_X4_19 dX4_even_1 rfl ?_
  refine gw_aload_n (pc' := 5) cx 0 rfl rfl dX4_even_4 rfl ?_
  refine gw_getR (pc' := 8) cx at0 rfl fl_X4_12 dX4_even_5 rfl ?_
  obtain ⟨s2, g1, h⟩ := ob1_some h
  refine gw_cV (pc' := 11) (av := [.ref (eA E 1)]) (rest := []) cx (k_X0_become E cty25 cty1 g1) (atC cty25) (by decide) lk_X4_127 dX4_even_8 rfl (Nat.le_of_ble_eq_true rfl) rfl ?_
  show GW E fr _ 11 _ [] _
  refine gw_iconst (pc' := 12) (v := 0) cx ci_0 dX4_even_11 rfl ?_
  refine gw_istore_n (pc' := 13) (lv' := [(1, .int 0), (0, .ref (eA E 0))]) cx rfl rfl (by decide) dX4_even_12 rfl ?_
  refine gw_sub [1, 0] (lv' := [(0, .ref (eA E 0)), (1, .int 0)]) rfl ?_
  exact w_X4_even_L13 cx tg FU 0 s2 h
def f_X4_daysToBorne_L14 (y1 : Int32) (y2 : Int32) (y3 : Int32) : Nat → Int32 → Sg → Option (Int32 × Sg)
  | 0, _, _ => none
  | n + 1, y4, σ =>
    if 200 < y4 then
      ob2 (f_X4_found (-1000004) σ) fun r5 s6 =>
      some (r5, s6)
    else
      chk y1 8 <|
      ob0 (f_X4_within (σ (25 + 4 + y1.toNatClampNeg) 3) y2 y3 σ) fun r9 =>
      if r9 = 0 then
        ob1 (f_X0_passDay 25 σ) fun s12 =>
        f_X4_daysToBorne_L14 y1 y2 y3 n (y4 + 1) s12
      else
        some (y4, σ)
theorem w_X4_daysToBorne_L14 {E : Ev} {fr : Fr} {r : Int32} {σ' : Sg} (cx : Cx E mX4_daysToBorne 5 fr) (tg : Tg E fr (some .int) (some (.int r)) σ') (y1 : Int32) (y2 : Int32) (y3 : Int32)  : ∀ (n : Nat) (y4 : Int32) (σ : Sg), f_X4_daysToBorne_L14 y1 y2 y3 n y4 σ = some (r, σ') → GW E fr 5 14 [(0, .ref (eA E 0)), (1, .int y1), (2, .int y2), (3, .int y3), (4, .int y4)] [] σ := by
  intro n
  induction n with
  | zero => intro y4 σ h; cases (show (none : Option (Int32 × Sg)) = _ from h)
  | succ n ih =>
    intro y4 σ h
    rw [f_X4_daysToBorne_L14] at h
    refine gw_iload (pc' := 16) cx 4 rfl dX4_daysToBorne_14 rfl ?_
    refine gw_sipush (pc' := 19) (v := 200) cx cs_200 dX4_daysToBorne_16 rfl ?_
    rcases ite_some h with ⟨c3, h⟩ | ⟨c3, h⟩
    · refine gw_ic_gt_t (pc' := 58) cx c3 dX4_daysToBorne_19 (by decide) ?_
      refine gw_aload_n (pc' := 59) cx 0 rfl rfl dX4_daysToBorne_58 rfl ?_
      refine gw_ldc (pc' := 61) (v := (-1000004)) cx ct_X4_107 dX4_daysToBorne_59 rfl ?_
      obtain ⟨r5, s6, g4, h⟩ := ob2_some h
      refine gw_cV (pc' := 64) (av := [.int (-1000004)]) (rest := []) cx (k_X4_found E g4) at0 (by decide) lk_X4_45 dX4_daysToBorne_61 rfl (Nat.le_of_ble_eq_true rfl) rfl ?_
      show GW E fr _ 64 _ (.int r5 :: _) _
      exact gw_iret cx tg (rt1 h) (rt2 h) dX4_daysToBorne_64
    · refine gw_ic_gt_f (pc' := 22) cx c3 dX4_daysToBorne_19 ⟨58, by decide⟩ rfl ?_
      refine gw_aload_n (pc' := 23) cx 0 rfl rfl dX4_daysToBorne_22 rfl ?_
      refine gw_getR (pc' := 26) cx at0 rfl fl_X4_19 dX4_daysToBorne_23 rfl ?_
      refine gw_getR (pc' := 29) cx (atC cty25) rfl fl_X4_68 dX4_daysToBorne_26 rfl ?_
      refine gw_iload_n (pc' := 30) cx 1 rfl rfl dX4_daysToBorne_29 rfl ?_
      obtain ⟨i7, h⟩ := chk_some h
      refine gw_aald (pc' := 31) cx (atCp cty25) i7 dX4_daysToBorne_30 rfl ?_
      refine gw_getI (pc' := 34) cx (atP (psn_of cty25 i7)) rfl fl_X4_138 dX4_daysToBorne_31 rfl ?_
      refine gw_iload_n (pc' := 35) cx 2 rfl rfl dX4_daysToBorne_34 rfl ?_
      refine gw_iload_n (pc' := 36) cx 3 rfl rfl dX4_daysToBorne_35 rfl ?_
      obtain ⟨r9, g8, h⟩ := ob0_some h
      refine gw_cS (pc' := 39) (av := [.int (σ (25 + 4 + y1.toNatClampNeg) 3), .int y2, .int y3]) (rest := []) cx (k_X4_within E g8) (by decide) lk_X4_40 dX4_daysToBorne_36 rfl (Nat.le_of_ble_eq_true rfl) rfl ?_
      show GW E fr _ 39 _ (.int r9 :: _) _
      rcases ite_some h with ⟨c10, h⟩ | ⟨c10, h⟩
      · refine gw_if_eq_t (pc' := 45) cx c10 dX4_daysToBorne_39 (by decide) ?_
        refine gw_aload_n (pc' := 46) cx 0 rfl rfl dX4_daysToBorne_45 rfl ?_
        refine gw_getR (pc' := 49) cx at0 rfl fl_X4_19 dX4_daysToBorne_46 rfl ?_
        obtain ⟨s12, g11, h⟩ := ob1_some h
        refine gw_cV (pc' := 52) (av := []) (rest := []) cx (k_X0_passDay E cty25 g11) (atC cty25) (by decide) lk_X4_131 dX4_daysToBorne_49 rfl (Nat.le_of_ble_eq_true rfl) rfl ?_
        show GW E fr _ 52 _ [] _
        refine gw_iinc (pc' := 55) (v := (y4 + 1)) (lv' := [(4, .int (y4 + 1)), (0, .ref (eA E 0)), (1, .int y1), (2, .int y2), (3, .int y3)]) cx 4 rfl rfl rfl (by decide) dX4_daysToBorne_52 rfl ?_
        refine gw_goto (pc' := 14) cx dX4_daysToBorne_55 (by decide) ?_
        refine gw_sub [1, 2, 3, 4, 0] (lv' := [(0, .ref (eA E 0)), (1, .int y1), (2, .int y2), (3, .int y3), (4, .int (y4 + 1))]) rfl ?_
        exact ih (y4 + 1) s12 h
      · refine gw_if_eq_f (pc' := 42) cx c10 dX4_daysToBorne_39 ⟨45, by decide⟩ rfl ?_
        refine gw_iload (pc' := 44) cx 4 rfl dX4_daysToBorne_42 rfl ?_
        exact gw_iret cx tg (rt1 h) (rt2 h) dX4_daysToBorne_44
def f_X4_daysToBorne (x1 : Int32) (x2 : Int32) (x3 : Int32) (σ : Sg) : Option (Int32 × Sg) :=
  ob1 (f_X0_become 25 1 σ) fun s2 =>
  f_X4_daysToBorne_L14 x1 x2 x3 FU 0 s2
theorem k_X4_daysToBorne (E : Ev) {x1 : Int32} {x2 : Int32} {x3 : Int32} {σ : Sg} {r : Int32} {σ' : Sg} (h : f_X4_daysToBorne x1 x2 x3 σ = some (r, σ')) : Con E mX4_daysToBorne 5 [.ref (eA E 0), .int x1, .int x2, .int x3] σ (some (.int r)) σ' := by
  refine con_of (by decide) (Nat.le_of_ble_eq_true rfl) (fun fr cx tg => ?_)
  show GW E fr 5 0 [(0, .ref (eA E 0)), (1, .int x1), (2, .int x2), (3, .int x3)] [] σ
  rw [f_X4_daysToBorne] at h
  refine gw_aload_n (pc' := 1) cx 0 rfl rfl dX4_daysToBorne_0 rfl ?_
  refine gw_getR (pc' := 4) cx at0 rfl fl_X4_19 dX4_daysToBorne_1 rfl ?_
  refine gw_aload_n (pc' := 5) cx 0 rfl rfl dX4_daysToBorne_4 rfl ?_
  refine gw_getR (pc' := 8) cx at0 rfl fl_X4_12 dX4_daysToBorne_5 rfl ?_
  obtain ⟨s2, g1, h⟩ := ob1_some h
  refine gw_cV (pc' := 11) (av := [.ref (eA E 1)]) (rest := []) cx (k_X0_become E cty25 cty1 g1) (atC cty25) (by decide) lk_X4_127 dX4_daysToBorne_8 rfl (Nat.le_of_ble_eq_true rfl) rfl ?_
  show GW E fr _ 11 _ [] _
  refine gw_iconst (pc' := 12) (v := 0) cx ci_0 dX4_daysToBorne_11 rfl ?_
  refine gw_istore (pc' := 14) (lv' := [(4, .int 0), (0, .ref (eA E 0)), (1, .int x1), (2, .int x2), (3, .int x3)]) cx rfl (by decide) dX4_daysToBorne_12 rfl ?_
  refine gw_sub [1, 2, 3, 4, 0] (lv' := [(0, .ref (eA E 0)), (1, .int x1), (2, .int x2), (3, .int x3), (4, .int 0)]) rfl ?_
  exact w_X4_daysToBorne_L14 cx tg x1 x2 x3 FU 0 s2 h
def f_X4_when (x1 : Int32) (x2 : Int32) (σ : Sg) : Option (Int32 × Sg) :=
  ob0 (f_X0_has 1 x1 σ) fun r2 =>
  if r2 = 0 then
    ob2 (f_X4_found (-1000001) σ) fun r5 s6 =>
    some (r5, s6)
  else
    ob0 (f_X4_within x2 0 9999 σ) fun r8 =>
    if r8 = 0 then
      ob2 (f_X4_found (-1000001) σ) fun r11 s12 =>
      some (r11, s12)
    else
      ob2 (f_X4_daysToBorne x1 x2 9999 σ) fun r14 s15 =>
      some (r14, s15)
theorem k_X4_when (E : Ev) {x1 : Int32} {x2 : Int32} {σ : Sg} {r : Int32} {σ' : Sg} (h : f_X4_when x1 x2 σ = some (r, σ')) : Con E mX4_when 6 [.ref (eA E 0), .int x1, .int x2] σ (some (.int r)) σ' := by
  refine con_of (by decide) (Nat.le_of_ble_eq_true rfl) (fun fr cx tg => ?_)
  show GW E fr 3 0 [(0, .ref (eA E 0)), (1, .int x1), (2, .int x2)] [] σ
  rw [f_X4_when] at h
  refine gw_aload_n (pc' := 1) cx 0 rfl rfl dX4_when_0 rfl ?_
  refine gw_getR (pc' := 4) cx at0 rfl fl_X4_12 dX4_when_1 rfl ?_
  refine gw_iload_n (pc' := 5) cx 1 rfl rfl dX4_when_4 rfl ?_
  obtain ⟨r2, g1, h⟩ := ob0_some h
  refine gw_cV (pc' := 8) (av := [.int x1]) (rest := []) cx (k_X0_has E cty1 g1) (atC cty1) (by decide) lk_X4_64 dX4_when_5 rfl (Nat.le_of_ble_eq_true rfl) rfl ?_
  show GW E fr _ 8 _ (.int r2 :: _) _
  rcases ite_some h with ⟨c3, h⟩ | ⟨c3, h⟩
  · refine gw_if_eq_t (pc' := 22) cx c3 dX4_when_8 (by decide) ?_
    refine gw_aload_n (pc' := 23) cx 0 rfl rfl dX4_when_22 rfl ?_
    refine gw_ldc (pc' := 25) (v := (-1000001)) cx ct_X4_44 dX4_when_23 rfl ?_
    obtain ⟨r5, s6, g4, h⟩ := ob2_some h
    refine gw_cV (pc' := 28) (av := [.int (-1000001)]) (rest := []) cx (k_X4_found E g4) at0 (by decide) lk_X4_45 dX4_when_25 rfl (Nat.le_of_ble_eq_true rfl) rfl ?_
    show GW E fr _ 28 _ (.int r5 :: _) _
    exact gw_iret cx tg (rt1 h) (rt2 h) dX4_when_28
  · refine gw_if_eq_f (pc' := 11) cx c3 dX4_when_8 ⟨22, by decide⟩ rfl ?_
    refine gw_iload_n (pc' := 12) cx 2 rfl rfl dX4_when_11 rfl ?_
    refine gw_iconst (pc' := 13) (v := 0) cx ci_0 dX4_when_12 rfl ?_
    refine gw_sipush (pc' := 16) (v := 9999) cx cs_9999 dX4_when_13 rfl ?_
    obtain ⟨r8, g7, h⟩ := ob0_some h
    refine gw_cS (pc' := 19) (av := [.int x2, .int 0, .int 9999]) (rest := []) cx (k_X4_within E g7) (by decide) lk_X4_40 dX4_when_16 rfl (Nat.le_of_ble_eq_true rfl) rfl ?_
    show GW E fr _ 19 _ (.int r8 :: _) _
    rcases ite_some h with ⟨c9, h⟩ | ⟨c9, h⟩
    · refine gw_if_ne_f (pc' := 22) cx c9 dX4_when_19 ⟨29, by decide⟩ rfl ?_
      refine gw_aload_n (pc' := 23) cx 0 rfl rfl dX4_when_22 rfl ?_
      refine gw_ldc (pc' := 25) (v := (-1000001)) cx ct_X4_44 dX4_when_23 rfl ?_
      obtain ⟨r11, s12, g10, h⟩ := ob2_some h
      refine gw_cV (pc' := 28) (av := [.int (-1000001)]) (rest := []) cx (k_X4_found E g10) at0 (by decide) lk_X4_45 dX4_when_25 rfl (Nat.le_of_ble_eq_true rfl) rfl ?_
      show GW E fr _ 28 _ (.int r11 :: _) _
      exact gw_iret cx tg (rt1 h) (rt2 h) dX4_when_28
    · refine gw_if_ne_t (pc' := 29) cx c9 dX4_when_19 (by decide) ?_
      refine gw_aload_n (pc' := 30) cx 0 rfl rfl dX4_when_29 rfl ?_
      refine gw_iload_n (pc' := 31) cx 1 rfl rfl dX4_when_30 rfl ?_
      refine gw_iload_n (pc' := 32) cx 2 rfl rfl dX4_when_31 rfl ?_
      refine gw_sipush (pc' := 35) (v := 9999) cx cs_9999 dX4_when_32 rfl ?_
      obtain ⟨r14, s15, g13, h⟩ := ob2_some h
      refine gw_cV (pc' := 38) (av := [.int x1, .int x2, .int 9999]) (rest := []) cx (k_X4_daysToBorne E g13) at0 (by decide) lk_X4_134 dX4_when_35 rfl (Nat.le_of_ble_eq_true rfl) rfl ?_
      show GW E fr _ 38 _ (.int r14 :: _) _
      exact gw_iret cx tg (rt1 h) (rt2 h) dX4_when_38
def f_X4_clean (x1 : Int32) (σ : Sg) : Option (Int32 × Sg) :=
  ob0 (f_X0_has 1 x1 σ) fun r2 =>
  if r2 = 0 then
    ob2 (f_X4_found (-1000001) σ) fun r5 s6 =>
    some (r5, s6)
  else
    ob2 (f_X4_daysToBorne x1 0 0 σ) fun r8 s9 =>
    some (r8, s9)
theorem k_X4_clean (E : Ev) {x1 : Int32} {σ : Sg} {r : Int32} {σ' : Sg} (h : f_X4_clean x1 σ = some (r, σ')) : Con E mX4_clean 6 [.ref (eA E 0), .int x1] σ (some (.int r)) σ' := by
  refine con_of (by decide) (Nat.le_of_ble_eq_true rfl) (fun fr cx tg => ?_)
  show GW E fr 2 0 [(0, .ref (eA E 0)), (1, .int x1)] [] σ
  rw [f_X4_clean] at h
  refine gw_aload_n (pc' := 1) cx 0 rfl rfl dX4_clean_0 rfl ?_
  refine gw_getR (pc' := 4) cx at0 rfl fl_X4_12 dX4_clean_1 rfl ?_
  refine gw_iload_n (pc' := 5) cx 1 rfl rfl dX4_clean_4 rfl ?_
  obtain ⟨r2, g1, h⟩ := ob0_some h
  refine gw_cV (pc' := 8) (av := [.int x1]) (rest := []) cx (k_X0_has E cty1 g1) (atC cty1) (by decide) lk_X4_64 dX4_clean_5 rfl (Nat.le_of_ble_eq_true rfl) rfl ?_
  show GW E fr _ 8 _ (.int r2 :: _) _
  rcases ite_some h with ⟨c3, h⟩ | ⟨c3, h⟩
  · refine gw_if_eq_t (pc' := 21) cx c3 dX4_clean_8 (by decide) ?_
    refine gw_aload_n (pc' := 22) cx 0 rfl rfl dX4_clean_21 rfl ?_
    refine gw_ldc (pc' := 24) (v := (-1000001)) cx ct_X4_44 dX4_clean_22 rfl ?_
    obtain ⟨r5, s6, g4, h⟩ := ob2_some h
    refine gw_cV (pc' := 27) (av := [.int (-1000001)]) (rest := []) cx (k_X4_found E g4) at0 (by decide) lk_X4_45 dX4_clean_24 rfl (Nat.le_of_ble_eq_true rfl) rfl ?_
    show GW E fr _ 27 _ (.int r5 :: _) _
    exact gw_iret cx tg (rt1 h) (rt2 h) dX4_clean_27
  · refine gw_if_eq_f (pc' := 11) cx c3 dX4_clean_8 ⟨21, by decide⟩ rfl ?_
    refine gw_aload_n (pc' := 12) cx 0 rfl rfl dX4_clean_11 rfl ?_
    refine gw_iload_n (pc' := 13) cx 1 rfl rfl dX4_clean_12 rfl ?_
    refine gw_iconst (pc' := 14) (v := 0) cx ci_0 dX4_clean_13 rfl ?_
    refine gw_iconst (pc' := 15) (v := 0) cx ci_0 dX4_clean_14 rfl ?_
    obtain ⟨r8, s9, g7, h⟩ := ob2_some h
    refine gw_cV (pc' := 18) (av := [.int x1, .int 0, .int 0]) (rest := []) cx (k_X4_daysToBorne E g7) at0 (by decide) lk_X4_134 dX4_clean_15 rfl (Nat.le_of_ble_eq_true rfl) rfl ?_
    show GW E fr _ 18 _ (.int r8 :: _) _
    refine gw_goto (pc' := 27) cx dX4_clean_18 (by decide) ?_
    exact gw_iret cx tg (rt1 h) (rt2 h) dX4_clean_27
def f_X4_whom_L25 (y1 : Int32) : Nat → Int32 → Int32 → Int32 → Sg → Option (Int32 × Sg)
  | 0, _, _, _, _ => none
  | n + 1, y2, y3, y4, σ =>
    if (σ 1 3) ≤ y4 then
      if y2 = (-1) then
        ob2 (f_X4_found (-1000004) σ) fun r10 s11 =>
        some (r10, s11)
      else
        some (y2, σ)
    else
      ob1 (f_X0_become 25 1 σ) fun s13 =>
      ob0 (f_X0_nextWeight 1 s13) fun r15 =>
      ob1 (f_X0_setNext 25 y4 r15 s13) fun s17 =>
      ob1 (f_X0_passDays 25 y1 s17) fun s19 =>
      ob0 (f_X0_sumOf 25 1 s19) fun r21 =>
      if y3 ≤ r21 then
        f_X4_whom_L25 y1 n y2 y3 (y4 + 1) s19
      else
        f_X4_whom_L25 y1 n y4 r21 (y4 + 1) s19
theorem w_X4_whom_L25 {E : Ev} {fr : Fr} {r : Int32} {σ' : Sg} (cx : Cx E mX4_whom 6 fr) (tg : Tg E fr (some .int) (some (.int r)) σ') (y1 : Int32)  : ∀ (n : Nat) (y2 : Int32) (y3 : Int32) (y4 : Int32) (σ : Sg), f_X4_whom_L25 y1 n y2 y3 y4 σ = some (r, σ') → GW E fr 6 25 [(0, .ref (eA E 0)), (1, .int y1), (2, .int y2), (3, .int y3), (4, .int y4)] [] σ := by
  intro n
  induction n with
  | zero => intro y2 y3 y4 σ h; cases (show (none : Option (Int32 × Sg)) = _ from h)
  | succ n ih =>
    intro y2 y3 y4 σ h
    rw [f_X4_whom_L25] at h
    refine gw_iload (pc' := 27) cx 4 rfl dX4_whom_25 rfl ?_
    refine gw_aload_n (pc' := 28) cx 0 rfl rfl dX4_whom_27 rfl ?_
    refine gw_getR (pc' := 31) cx at0 rfl fl_X4_12 dX4_whom_28 rfl ?_
    refine gw_getI (pc' := 34) cx (atC cty1) rfl fl_X4_56 dX4_whom_31 rfl ?_
    rcases ite_some h with ⟨c7, h⟩ | ⟨c7, h⟩
    · refine gw_ic_ge_t (pc' := 100) cx c7 dX4_whom_34 (by decide) ?_
      refine gw_iload_n (pc' := 101) cx 2 rfl rfl dX4_whom_100 rfl ?_
      refine gw_iconst (pc' := 102) (v := (-1)) cx ci_m1 dX4_whom_101 rfl ?_
      rcases ite_some h with ⟨c8, h⟩ | ⟨c8, h⟩
      · refine gw_ic_ne_f (pc' := 105) cx c8 dX4_whom_102 ⟨114, by decide⟩ rfl ?_
        refine gw_aload_n (pc' := 106) cx 0 rfl rfl dX4_whom_105 rfl ?_
        refine gw_ldc (pc' := 108) (v := (-1000004)) cx ct_X4_107 dX4_whom_106 rfl ?_
        obtain ⟨r10, s11, g9, h⟩ := ob2_some h
        refine gw_cV (pc' := 111) (av := [.int (-1000004)]) (rest := []) cx (k_X4_found E g9) at0 (by decide) lk_X4_45 dX4_whom_108 rfl (Nat.le_of_ble_eq_true rfl) rfl ?_
        show GW E fr _ 111 _ (.int r10 :: _) _
        refine gw_goto (pc' := 115) cx dX4_whom_111 (by decide) ?_
        exact gw_iret cx tg (rt1 h) (rt2 h) dX4_whom_115
      · refine gw_ic_ne_t (pc' := 114) cx c8 dX4_whom_102 (by decide) ?_
        refine gw_iload_n (pc' := 115) cx 2 rfl rfl dX4_whom_114 rfl ?_
        exact gw_iret cx tg (rt1 h) (rt2 h) dX4_whom_115
    · refine gw_ic_ge_f (pc' := 37) cx c7 dX4_whom_34 ⟨100, by decide⟩ rfl ?_
      refine gw_aload_n (pc' := 38) cx 0 rfl rfl dX4_whom_37 rfl ?_
      refine gw_getR (pc' := 41) cx at0 rfl fl_X4_19 dX4_whom_38 rfl ?_
      refine gw_aload_n (pc' := 42) cx 0 rfl rfl dX4_whom_41 rfl ?_
      refine gw_getR (pc' := 45) cx at0 rfl fl_X4_12 dX4_whom_42 rfl ?_
      obtain ⟨s13, g12, h⟩ := ob1_some h
      refine gw_cV (pc' := 48) (av := [.ref (eA E 1)]) (rest := []) cx (k_X0_become E cty25 cty1 g12) (atC cty25) (by decide) lk_X4_127 dX4_whom_45 rfl (Nat.le_of_ble_eq_true rfl) rfl ?_
      show GW E fr _ 48 _ [] _
      refine gw_aload_n (pc' := 49) cx 0 rfl rfl dX4_whom_48 rfl ?_
      refine gw_getR (pc' := 52) cx at0 rfl fl_X4_19 dX4_whom_49 rfl ?_
      refine gw_iload (pc' := 54) cx 4 rfl dX4_whom_52 rfl ?_
      refine gw_aload_n (pc' := 55) cx 0 rfl rfl dX4_whom_54 rfl ?_
      refine gw_getR (pc' := 58) cx at0 rfl fl_X4_12 dX4_whom_55 rfl ?_
      obtain ⟨r15, g14, h⟩ := ob0_some h
      refine gw_cV (pc' := 61) (av := []) (rest := [.int y4, .ref (eA E 25)]) cx (k_X0_nextWeight E cty1 g14) (atC cty1) (by decide) lk_X4_142 dX4_whom_58 rfl (Nat.le_of_ble_eq_true rfl) rfl ?_
      show GW E fr _ 61 _ (.int r15 :: _) _
      obtain ⟨s17, g16, h⟩ := ob1_some h
      refine gw_cV (pc' := 64) (av := [.int y4, .int r15]) (rest := []) cx (k_X0_setNext E cty25 g16) (atC cty25) (by decide) lk_X4_145 dX4_whom_61 rfl (Nat.le_of_ble_eq_true rfl) rfl ?_
      show GW E fr _ 64 _ [] _
      refine gw_aload_n (pc' := 65) cx 0 rfl rfl dX4_whom_64 rfl ?_
      refine gw_getR (pc' := 68) cx at0 rfl fl_X4_19 dX4_whom_65 rfl ?_
      refine gw_iload_n (pc' := 69) cx 1 rfl rfl dX4_whom_68 rfl ?_
      obtain ⟨s19, g18, h⟩ := ob1_some h
      refine gw_cV (pc' := 72) (av := [.int y1]) (rest := []) cx (k_X0_passDays E cty25 g18) (atC cty25) (by decide) lk_X4_110 dX4_whom_69 rfl (Nat.le_of_ble_eq_true rfl) rfl ?_
      show GW E fr _ 72 _ [] _
      refine gw_aload_n (pc' := 73) cx 0 rfl rfl dX4_whom_72 rfl ?_
      refine gw_getR (pc' := 76) cx at0 rfl fl_X4_19 dX4_whom_73 rfl ?_
      refine gw_iconst (pc' := 77) (v := 1) cx ci_1 dX4_whom_76 rfl ?_
      obtain ⟨r21, g20, h⟩ := ob0_some h
      refine gw_cV (pc' := 80) (av := [.int 1]) (rest := []) cx (k_X0_sumOf E cty25 g20) (atC cty25) (by decide) lk_X4_114 dX4_whom_77 rfl (Nat.le_of_ble_eq_true rfl) rfl ?_
      show GW E fr _ 80 _ (.int r21 :: _) _
      refine gw_istore (pc' := 82) (lv' := [(5, .int r21), (0, .ref (eA E 0)), (1, .int y1), (2, .int y2), (3, .int y3), (4, .int y4)]) cx rfl (by decide) dX4_whom_80 rfl ?_
      refine gw_iload (pc' := 84) cx 0 rfl dX4_whom_82 rfl ?_
      refine gw_iload_n (pc' := 85) cx 4 rfl rfl dX4_whom_84 rfl ?_
      rcases ite_some h with ⟨c22, h⟩ | ⟨c22, h⟩
      · refine gw_ic_ge_t (pc' := 94) cx c22 dX4_whom_85 (by decide) ?_
        refine gw_iinc (pc' := 97) (v := (y4 + 1)) (lv' := [(4, .int (y4 + 1)), (5, .int r21), (0, .ref (eA E 0)), (1, .int y1), (2, .int y2), (3, .int y3)]) cx 5 rfl rfl rfl (by decide) dX4_whom_94 rfl ?_
        refine gw_goto (pc' := 25) cx dX4_whom_97 (by decide) ?_
        refine gw_sub [2, 3, 4, 5, 0] (lv' := [(0, .ref (eA E 0)), (1, .int y1), (2, .int y2), (3, .int y3), (4, .int (y4 + 1))]) rfl ?_
        exact ih y2 y3 (y4 + 1) s19 h
      · refine gw_ic_ge_f (pc' := 88) cx c22 dX4_whom_85 ⟨94, by decide⟩ rfl ?_
        refine gw_iload (pc' := 90) cx 0 rfl dX4_whom_88 rfl ?_
        refine gw_istore_n (pc' := 91) (lv' := [(3, .int r21), (5, .int r21), (0, .ref (eA E 0)), (1, .int y1), (2, .int y2), (4, .int y4)]) cx rfl rfl (by decide) dX4_whom_90 rfl ?_
        refine gw_iload (pc' := 93) cx 5 rfl dX4_whom_91 rfl ?_
        refine gw_istore_n (pc' := 94) (lv' := [(2, .int y4), (3, .int r21), (5, .int r21), (0, .ref (eA E 0)), (1, .int y1), (4, .int y4)]) cx rfl rfl (by decide) dX4_whom_93 rfl ?_
        refine gw_iinc (pc' := 97) (v := (y4 + 1)) (lv' := [(4, .int (y4 + 1)), (2, .int y4), (3, .int r21), (5, .int r21), (0, .ref (eA E 0)), (1, .int y1)]) cx 5 rfl rfl rfl (by decide) dX4_whom_94 rfl ?_
        refine gw_goto (pc' := 25) cx dX4_whom_97 (by decide) ?_
        refine gw_sub [4, 5, 1, 2, 0] (lv' := [(0, .ref (eA E 0)), (1, .int y1), (2, .int y4), (3, .int r21), (4, .int (y4 + 1))]) rfl ?_
        exact ih y4 r21 (y4 + 1) s19 h
def f_X4_whom (x1 : Int32) (σ : Sg) : Option (Int32 × Sg) :=
  ob0 (f_X4_within x1 0 40 σ) fun r2 =>
  if r2 = 0 then
    ob2 (f_X4_found (-1000001) σ) fun r5 s6 =>
    some (r5, s6)
  else
    f_X4_whom_L25 x1 FU (-1) 79993 0 σ
theorem k_X4_whom (E : Ev) {x1 : Int32} {σ : Sg} {r : Int32} {σ' : Sg} (h : f_X4_whom x1 σ = some (r, σ')) : Con E mX4_whom 6 [.ref (eA E 0), .int x1] σ (some (.int r)) σ' := by
  refine con_of (by decide) (Nat.le_of_ble_eq_true rfl) (fun fr cx tg => ?_)
  show GW E fr 6 0 [(0, .ref (eA E 0)), (1, .int x1)] [] σ
  rw [f_X4_whom] at h
  refine gw_iload_n (pc' := 1) cx 1 rfl rfl dX4_whom_0 rfl ?_
  refine gw_iconst (pc' := 2) (v := 0) cx ci_0 dX4_whom_1 rfl ?_
  refine gw_bipush (pc' := 4) (v := 40) cx cb_40 dX4_whom_2 rfl ?_
  obtain ⟨r2, g1, h⟩ := ob0_some h
  refine gw_cS (pc' := 7) (av := [.int x1, .int 0, .int 40]) (rest := []) cx (k_X4_within E g1) (by decide) lk_X4_40 dX4_whom_4 rfl (Nat.le_of_ble_eq_true rfl) rfl ?_
  show GW E fr _ 7 _ (.int r2 :: _) _
  rcases ite_some h with ⟨c3, h⟩ | ⟨c3, h⟩
  · refine gw_if_ne_f (pc' := 10) cx c3 dX4_whom_7 ⟨17, by decide⟩ rfl ?_
    refine gw_aload_n (pc' := 11) cx 0 rfl rfl dX4_whom_10 rfl ?_
    refine gw_ldc (pc' := 13) (v := (-1000001)) cx ct_X4_44 dX4_whom_11 rfl ?_
    obtain ⟨r5, s6, g4, h⟩ := ob2_some h
    refine gw_cV (pc' := 16) (av := [.int (-1000001)]) (rest := []) cx (k_X4_found E g4) at0 (by decide) lk_X4_45 dX4_whom_13 rfl (Nat.le_of_ble_eq_true rfl) rfl ?_
    show GW E fr _ 16 _ (.int r5 :: _) _
    exact gw_iret cx tg (rt1 h) (rt2 h) dX4_whom_16
  · refine gw_if_ne_t (pc' := 17) cx c3 dX4_whom_7 (by decide) ?_
    refine gw_iconst (pc' := 18) (v := (-1)) cx ci_m1 dX4_whom_17 rfl ?_
    refine gw_istore_n (pc' := 19) (lv' := [(2, .int (-1)), (0, .ref (eA E 0)), (1, .int x1)]) cx rfl rfl (by decide) dX4_whom_18 rfl ?_
    refine gw_ldc (pc' := 21) (v := 79993) cx ct_X4_141 dX4_whom_19 rfl ?_
    refine gw_istore_n (pc' := 22) (lv' := [(3, .int 79993), (2, .int (-1)), (0, .ref (eA E 0)), (1, .int x1)]) cx rfl rfl (by decide) dX4_whom_21 rfl ?_
    refine gw_iconst (pc' := 23) (v := 0) cx ci_0 dX4_whom_22 rfl ?_
    refine gw_istore (pc' := 25) (lv' := [(4, .int 0), (3, .int 79993), (2, .int (-1)), (0, .ref (eA E 0)), (1, .int x1)]) cx rfl (by decide) dX4_whom_23 rfl ?_
    refine gw_sub [3, 4, 2, 1, 0] (lv' := [(0, .ref (eA E 0)), (1, .int x1), (2, .int (-1)), (3, .int 79993), (4, .int 0)]) rfl ?_
    exact w_X4_whom_L25 cx tg x1 FU (-1) 79993 0 σ h
def f_X4_weightFor_L20 (y1 : Int32) : Nat → Int32 → Sg → Option (Int32 × Sg)
  | 0, _, _ => none
  | n + 1, y2, σ =>
    if y2 < 0 then
      ob2 (f_X4_found (-1000004) σ) fun r9 s10 =>
      some (r9, s10)
    else
      ob1 (f_X0_become 25 1 σ) fun s12 =>
      ob0 (f_X0_nextWhom 1 s12) fun r14 =>
      ob1 (f_X0_setNext 25 r14 y2 s12) fun s16 =>
      ob2 (f_X0_isEvenWithin 25 y1 s16) fun r18 s19 =>
      if r18 = 0 then
        f_X4_weightFor_L20 y1 n (y2 + (-1)) s19
      else
        some (y2, s19)
theorem w_X4_weightFor_L20 {E : Ev} {fr : Fr} {r : Int32} {σ' : Sg} (cx : Cx E mX4_weightFor 6 fr) (tg : Tg E fr (some .int) (some (.int r)) σ') (y1 : Int32)  : ∀ (n : Nat) (y2 : Int32) (σ : Sg), f_X4_weightFor_L20 y1 n y2 σ = some (r, σ') → GW E fr 3 20 [(0, .ref (eA E 0)), (1, .int y1), (2, .int y2)] [] σ := by
  intro n
  induction n with
  | zero => intro y2 σ h; cases (show (none : Option (Int32 × Sg)) = _ from h)
  | succ n ih =>
    intro y2 σ h
    rw [f_X4_weightFor_L20] at h
    refine gw_iload_n (pc' := 21) cx 2 rfl rfl dX4_weightFor_20 rfl ?_
    rcases ite_some h with ⟨c7, h⟩ | ⟨c7, h⟩
    · refine gw_if_lt_t (pc' := 69) cx c7 dX4_weightFor_21 (by decide) ?_
      refine gw_aload_n (pc' := 70) cx 0 rfl rfl dX4_weightFor_69 rfl ?_
      refine gw_ldc (pc' := 72) (v := (-1000004)) cx ct_X4_107 dX4_weightFor_70 rfl ?_
      obtain ⟨r9, s10, g8, h⟩ := ob2_some h
      refine gw_cV (pc' := 75) (av := [.int (-1000004)]) (rest := []) cx (k_X4_found E g8) at0 (by decide) lk_X4_45 dX4_weightFor_72 rfl (Nat.le_of_ble_eq_true rfl) rfl ?_
      show GW E fr _ 75 _ (.int r9 :: _) _
      exact gw_iret cx tg (rt1 h) (rt2 h) dX4_weightFor_75
    · refine gw_if_lt_f (pc' := 24) cx c7 dX4_weightFor_21 ⟨69, by decide⟩ rfl ?_
      refine gw_aload_n (pc' := 25) cx 0 rfl rfl dX4_weightFor_24 rfl ?_
      refine gw_getR (pc' := 28) cx at0 rfl fl_X4_19 dX4_weightFor_25 rfl ?_
      refine gw_aload_n (pc' := 29) cx 0 rfl rfl dX4_weightFor_28 rfl ?_
      refine gw_getR (pc' := 32) cx at0 rfl fl_X4_12 dX4_weightFor_29 rfl ?_
      obtain ⟨s12, g11, h⟩ := ob1_some h
      refine gw_cV (pc' := 35) (av := [.ref (eA E 1)]) (rest := []) cx (k_X0_become E cty25 cty1 g11) (atC cty25) (by decide) lk_X4_127 dX4_weightFor_32 rfl (Nat.le_of_ble_eq_true rfl) rfl ?_
      show GW E fr _ 35 _ [] _
      refine gw_aload_n (pc' := 36) cx 0 rfl rfl dX4_weightFor_35 rfl ?_
      refine gw_getR (pc' := 39) cx at0 rfl fl_X4_19 dX4_weightFor_36 rfl ?_
      refine gw_aload_n (pc' := 40) cx 0 rfl rfl dX4_weightFor_39 rfl ?_
      refine gw_getR (pc' := 43) cx at0 rfl fl_X4_12 dX4_weightFor_40 rfl ?_
      obtain ⟨r14, g13, h⟩ := ob0_some h
      refine gw_cV (pc' := 46) (av := []) (rest := [.ref (eA E 25)]) cx (k_X0_nextWhom E cty1 g13) (atC cty1) (by decide) lk_X4_148 dX4_weightFor_43 rfl (Nat.le_of_ble_eq_true rfl) rfl ?_
      show GW E fr _ 46 _ (.int r14 :: _) _
      refine gw_iload_n (pc' := 47) cx 2 rfl rfl dX4_weightFor_46 rfl ?_
      obtain ⟨s16, g15, h⟩ := ob1_some h
      refine gw_cV (pc' := 50) (av := [.int r14, .int y2]) (rest := []) cx (k_X0_setNext E cty25 g15) (atC cty25) (by decide) lk_X4_145 dX4_weightFor_47 rfl (Nat.le_of_ble_eq_true rfl) rfl ?_
      show GW E fr _ 50 _ [] _
      refine gw_aload_n (pc' := 51) cx 0 rfl rfl dX4_weightFor_50 rfl ?_
      refine gw_getR (pc' := 54) cx at0 rfl fl_X4_19 dX4_weightFor_51 rfl ?_
      refine gw_iload_n (pc' := 55) cx 1 rfl rfl dX4_weightFor_54 rfl ?_
      obtain ⟨r18, s19, g17, h⟩ := ob2_some h
      refine gw_cV (pc' := 58) (av := [.int y1]) (rest := []) cx (k_X0_isEvenWithin E cty25 g17) (atC cty25) (by decide) lk_X4_151 dX4_weightFor_55 rfl (Nat.le_of_ble_eq_true rfl) rfl ?_
      show GW E fr _ 58 _ (.int r18 :: _) _
      rcases ite_some h with ⟨c20, h⟩ | ⟨c20, h⟩
      · refine gw_if_eq_t (pc' := 63) cx c20 dX4_weightFor_58 (by decide) ?_
        refine gw_iinc (pc' := 66) (v := (y2 + (-1))) (lv' := [(2, .int (y2 + (-1))), (0, .ref (eA E 0)), (1, .int y1)]) cx 2 rfl (congrArg (fun z => y2 + z) ci_m1) rfl (by decide) dX4_weightFor_63 rfl ?_
        refine gw_goto (pc' := 20) cx dX4_weightFor_66 (by decide) ?_
        refine gw_sub [1, 2, 0] (lv' := [(0, .ref (eA E 0)), (1, .int y1), (2, .int (y2 + (-1)))]) rfl ?_
        exact ih (y2 + (-1)) s19 h
      · refine gw_if_eq_f (pc' := 61) cx c20 dX4_weightFor_58 ⟨63, by decide⟩ rfl ?_
        refine gw_iload_n (pc' := 62) cx 2 rfl rfl dX4_weightFor_61 rfl ?_
        exact gw_iret cx tg (rt1 h) (rt2 h) dX4_weightFor_62
def f_X4_weightFor (x1 : Int32) (σ : Sg) : Option (Int32 × Sg) :=
  ob0 (f_X4_within x1 1 40 σ) fun r2 =>
  if r2 = 0 then
    ob2 (f_X4_found (-1000001) σ) fun r5 s6 =>
    some (r5, s6)
  else
    f_X4_weightFor_L20 x1 FU 20 σ
theorem k_X4_weightFor (E : Ev) {x1 : Int32} {σ : Sg} {r : Int32} {σ' : Sg} (h : f_X4_weightFor x1 σ = some (r, σ')) : Con E mX4_weightFor 6 [.ref (eA E 0), .int x1] σ (some (.int r)) σ' := by
  refine con_of (by decide) (Nat.le_of_ble_eq_true rfl) (fun fr cx tg => ?_)
  show GW E fr 3 0 [(0, .ref (eA E 0)), (1, .int x1)] [] σ
  rw [f_X4_weightFor] at h
  refine gw_iload_n (pc' := 1) cx 1 rfl rfl dX4_weightFor_0 rfl ?_
  refine gw_iconst (pc' := 2) (v := 1) cx ci_1 dX4_weightFor_1 rfl ?_
  refine gw_bipush (pc' := 4) (v := 40) cx cb_40 dX4_weightFor_2 rfl ?_
  obtain ⟨r2, g1, h⟩ := ob0_some h
  refine gw_cS (pc' := 7) (av := [.int x1, .int 1, .int 40]) (rest := []) cx (k_X4_within E g1) (by decide) lk_X4_40 dX4_weightFor_4 rfl (Nat.le_of_ble_eq_true rfl) rfl ?_
  show GW E fr _ 7 _ (.int r2 :: _) _
  rcases ite_some h with ⟨c3, h⟩ | ⟨c3, h⟩
  · refine gw_if_ne_f (pc' := 10) cx c3 dX4_weightFor_7 ⟨17, by decide⟩ rfl ?_
    refine gw_aload_n (pc' := 11) cx 0 rfl rfl dX4_weightFor_10 rfl ?_
    refine gw_ldc (pc' := 13) (v := (-1000001)) cx ct_X4_44 dX4_weightFor_11 rfl ?_
    obtain ⟨r5, s6, g4, h⟩ := ob2_some h
    refine gw_cV (pc' := 16) (av := [.int (-1000001)]) (rest := []) cx (k_X4_found E g4) at0 (by decide) lk_X4_45 dX4_weightFor_13 rfl (Nat.le_of_ble_eq_true rfl) rfl ?_
    show GW E fr _ 16 _ (.int r5 :: _) _
    exact gw_iret cx tg (rt1 h) (rt2 h) dX4_weightFor_16
  · refine gw_if_ne_t (pc' := 17) cx c3 dX4_weightFor_7 (by decide) ?_
    refine gw_bipush (pc' := 19) (v := 20) cx cb_20 dX4_weightFor_17 rfl ?_
    refine gw_istore_n (pc' := 20) (lv' := [(2, .int 20), (0, .ref (eA E 0)), (1, .int x1)]) cx rfl rfl (by decide) dX4_weightFor_19 rfl ?_
    refine gw_sub [1, 2, 0] (lv' := [(0, .ref (eA E 0)), (1, .int x1), (2, .int 20)]) rfl ?_
    exact w_X4_weightFor_L20 cx tg x1 FU 20 σ h
def f_X4_buildFor_L30 (y1 : Int32) (y2 : Int32) : Nat → Int32 → Sg → Option (Int32 × Sg)
  | 0, _, _ => none
  | n + 1, y3, σ =>
    if 99 < y3 then
      ob2 (f_X4_found (-1000004) σ) fun r15 s16 =>
      some (r15, s16)
    else
      ob1 (f_X0_become 25 1 σ) fun s18 =>
      chk y1 8 <|
      lt (up2 s18 (25 + 4 + y1.toNatClampNeg) 2 y3) fun s20 =>
      ob2 (f_X0_keepsHints 25 y2 s20) fun r23 s24 =>
      if r23 = 0 then
        f_X4_buildFor_L30 y1 y2 n (y3 + 1) s24
      else
        some (y3, s24)
theorem w_X4_buildFor_L30 {E : Ev} {fr : Fr} {r : Int32} {σ' : Sg} (cx : Cx E mX4_buildFor 6 fr) (tg : Tg E fr (some .int) (some (.int r)) σ') (y1 : Int32) (y2 : Int32)  : ∀ (n : Nat) (y3 : Int32) (σ : Sg), f_X4_buildFor_L30 y1 y2 n y3 σ = some (r, σ') → GW E fr 4 30 [(0, .ref (eA E 0)), (1, .int y1), (2, .int y2), (3, .int y3)] [] σ := by
  intro n
  induction n with
  | zero => intro y3 σ h; cases (show (none : Option (Int32 × Sg)) = _ from h)
  | succ n ih =>
    intro y3 σ h
    rw [f_X4_buildFor_L30] at h
    refine gw_iload_n (pc' := 31) cx 3 rfl rfl dX4_buildFor_30 rfl ?_
    refine gw_bipush (pc' := 33) (v := 99) cx cb_99 dX4_buildFor_31 rfl ?_
    rcases ite_some h with ⟨c13, h⟩ | ⟨c13, h⟩
    · refine gw_ic_gt_t (pc' := 79) cx c13 dX4_buildFor_33 (by decide) ?_
      refine gw_aload_n (pc' := 80) cx 0 rfl rfl dX4_buildFor_79 rfl ?_
      refine gw_ldc (pc' := 82) (v := (-1000004)) cx ct_X4_107 dX4_buildFor_80 rfl ?_
      obtain ⟨r15, s16, g14, h⟩ := ob2_some h
      refine gw_cV (pc' := 85) (av := [.int (-1000004)]) (rest := []) cx (k_X4_found E g14) at0 (by decide) lk_X4_45 dX4_buildFor_82 rfl (Nat.le_of_ble_eq_true rfl) rfl ?_
      show GW E fr _ 85 _ (.int r15 :: _) _
      exact gw_iret cx tg (rt1 h) (rt2 h) dX4_buildFor_85
    · refine gw_ic_gt_f (pc' := 36) cx c13 dX4_buildFor_33 ⟨79, by decide⟩ rfl ?_
      refine gw_aload_n (pc' := 37) cx 0 rfl rfl dX4_buildFor_36 rfl ?_
      refine gw_getR (pc' := 40) cx at0 rfl fl_X4_19 dX4_buildFor_37 rfl ?_
      refine gw_aload_n (pc' := 41) cx 0 rfl rfl dX4_buildFor_40 rfl ?_
      refine gw_getR (pc' := 44) cx at0 rfl fl_X4_12 dX4_buildFor_41 rfl ?_
      obtain ⟨s18, g17, h⟩ := ob1_some h
      refine gw_cV (pc' := 47) (av := [.ref (eA E 1)]) (rest := []) cx (k_X0_become E cty25 cty1 g17) (atC cty25) (by decide) lk_X4_127 dX4_buildFor_44 rfl (Nat.le_of_ble_eq_true rfl) rfl ?_
      show GW E fr _ 47 _ [] _
      refine gw_aload_n (pc' := 48) cx 0 rfl rfl dX4_buildFor_47 rfl ?_
      refine gw_getR (pc' := 51) cx at0 rfl fl_X4_19 dX4_buildFor_48 rfl ?_
      refine gw_getR (pc' := 54) cx (atC cty25) rfl fl_X4_68 dX4_buildFor_51 rfl ?_
      refine gw_iload_n (pc' := 55) cx 1 rfl rfl dX4_buildFor_54 rfl ?_
      obtain ⟨i19, h⟩ := chk_some h
      refine gw_aald (pc' := 56) cx (atCp cty25) i19 dX4_buildFor_55 rfl ?_
      refine gw_iload_n (pc' := 57) cx 3 rfl rfl dX4_buildFor_56 rfl ?_
      obtain ⟨s20, e21, h⟩ := lt_some h
      refine gw_put (pc' := 60) cx (atP (psn_of cty25 i19)) rfl fp_X4_154 ⟨rfl, rfl⟩ dX4_buildFor_57 rfl e21 ?_
      refine gw_aload_n (pc' := 61) cx 0 rfl rfl dX4_buildFor_60 rfl ?_
      refine gw_getR (pc' := 64) cx at0 rfl fl_X4_19 dX4_buildFor_61 rfl ?_
      refine gw_iload_n (pc' := 65) cx 2 rfl rfl dX4_buildFor_64 rfl ?_
      obtain ⟨r23, s24, g22, h⟩ := ob2_some h
      refine gw_cV (pc' := 68) (av := [.int y2]) (rest := []) cx (k_X0_keepsHints E cty25 g22) (atC cty25) (by decide) lk_X4_157 dX4_buildFor_65 rfl (Nat.le_of_ble_eq_true rfl) rfl ?_
      show GW E fr _ 68 _ (.int r23 :: _) _
      rcases ite_some h with ⟨c25, h⟩ | ⟨c25, h⟩
      · refine gw_if_eq_t (pc' := 73) cx c25 dX4_buildFor_68 (by decide) ?_
        refine gw_iinc (pc' := 76) (v := (y3 + 1)) (lv' := [(3, .int (y3 + 1)), (0, .ref (eA E 0)), (1, .int y1), (2, .int y2)]) cx 3 rfl rfl rfl (by decide) dX4_buildFor_73 rfl ?_
        refine gw_goto (pc' := 30) cx dX4_buildFor_76 (by decide) ?_
        refine gw_sub [1, 2, 3, 0] (lv' := [(0, .ref (eA E 0)), (1, .int y1), (2, .int y2), (3, .int (y3 + 1))]) rfl ?_
        exact ih (y3 + 1) s24 h
      · refine gw_if_eq_f (pc' := 71) cx c25 dX4_buildFor_68 ⟨73, by decide⟩ rfl ?_
        refine gw_iload_n (pc' := 72) cx 3 rfl rfl dX4_buildFor_71 rfl ?_
        exact gw_iret cx tg (rt1 h) (rt2 h) dX4_buildFor_72
def f_X4_buildFor (x1 : Int32) (x2 : Int32) (σ : Sg) : Option (Int32 × Sg) :=
  ob0 (f_X0_has 1 x1 σ) fun r2 =>
  if r2 = 0 then
    ob2 (f_X4_found (-1000001) σ) fun r5 s6 =>
    some (r5, s6)
  else
    ob0 (f_X4_within x2 0 40 σ) fun r8 =>
    if r8 = 0 then
      ob2 (f_X4_found (-1000001) σ) fun r11 s12 =>
      some (r11, s12)
    else
      f_X4_buildFor_L30 x1 x2 FU 0 σ
theorem k_X4_buildFor (E : Ev) {x1 : Int32} {x2 : Int32} {σ : Sg} {r : Int32} {σ' : Sg} (h : f_X4_buildFor x1 x2 σ = some (r, σ')) : Con E mX4_buildFor 6 [.ref (eA E 0), .int x1, .int x2] σ (some (.int r)) σ' := by
  refine con_of (by decide) (Nat.le_of_ble_eq_true rfl) (fun fr cx tg => ?_)
  show GW E fr 4 0 [(0, .ref (eA E 0)), (1, .int x1), (2, .int x2)] [] σ
  rw [f_X4_buildFor] at h
  refine gw_aload_n (pc' := 1) cx 0 rfl rfl dX4_buildFor_0 rfl ?_
  refine gw_getR (pc' := 4) cx at0 rfl fl_X4_12 dX4_buildFor_1 rfl ?_
  refine gw_iload_n (pc' := 5) cx 1 rfl rfl dX4_buildFor_4 rfl ?_
  obtain ⟨r2, g1, h⟩ := ob0_some h
  refine gw_cV (pc' := 8) (av := [.int x1]) (rest := []) cx (k_X0_has E cty1 g1) (atC cty1) (by decide) lk_X4_64 dX4_buildFor_5 rfl (Nat.le_of_ble_eq_true rfl) rfl ?_
  show GW E fr _ 8 _ (.int r2 :: _) _
  rcases ite_some h with ⟨c3, h⟩ | ⟨c3, h⟩
  · refine gw_if_eq_t (pc' := 21) cx c3 dX4_buildFor_8 (by decide) ?_
    refine gw_aload_n (pc' := 22) cx 0 rfl rfl dX4_buildFor_21 rfl ?_
    refine gw_ldc (pc' := 24) (v := (-1000001)) cx ct_X4_44 dX4_buildFor_22 rfl ?_
    obtain ⟨r5, s6, g4, h⟩ := ob2_some h
    refine gw_cV (pc' := 27) (av := [.int (-1000001)]) (rest := []) cx (k_X4_found E g4) at0 (by decide) lk_X4_45 dX4_buildFor_24 rfl (Nat.le_of_ble_eq_true rfl) rfl ?_
    show GW E fr _ 27 _ (.int r5 :: _) _
    exact gw_iret cx tg (rt1 h) (rt2 h) dX4_buildFor_27
  · refine gw_if_eq_f (pc' := 11) cx c3 dX4_buildFor_8 ⟨21, by decide⟩ rfl ?_
    refine gw_iload_n (pc' := 12) cx 2 rfl rfl dX4_buildFor_11 rfl ?_
    refine gw_iconst (pc' := 13) (v := 0) cx ci_0 dX4_buildFor_12 rfl ?_
    refine gw_bipush (pc' := 15) (v := 40) cx cb_40 dX4_buildFor_13 rfl ?_
    obtain ⟨r8, g7, h⟩ := ob0_some h
    refine gw_cS (pc' := 18) (av := [.int x2, .int 0, .int 40]) (rest := []) cx (k_X4_within E g7) (by decide) lk_X4_40 dX4_buildFor_15 rfl (Nat.le_of_ble_eq_true rfl) rfl ?_
    show GW E fr _ 18 _ (.int r8 :: _) _
    rcases ite_some h with ⟨c9, h⟩ | ⟨c9, h⟩
    · refine gw_if_ne_f (pc' := 21) cx c9 dX4_buildFor_18 ⟨28, by decide⟩ rfl ?_
      refine gw_aload_n (pc' := 22) cx 0 rfl rfl dX4_buildFor_21 rfl ?_
      refine gw_ldc (pc' := 24) (v := (-1000001)) cx ct_X4_44 dX4_buildFor_22 rfl ?_
      obtain ⟨r11, s12, g10, h⟩ := ob2_some h
      refine gw_cV (pc' := 27) (av := [.int (-1000001)]) (rest := []) cx (k_X4_found E g10) at0 (by decide) lk_X4_45 dX4_buildFor_24 rfl (Nat.le_of_ble_eq_true rfl) rfl ?_
      show GW E fr _ 27 _ (.int r11 :: _) _
      exact gw_iret cx tg (rt1 h) (rt2 h) dX4_buildFor_27
    · refine gw_if_ne_t (pc' := 28) cx c9 dX4_buildFor_18 (by decide) ?_
      refine gw_iconst (pc' := 29) (v := 0) cx ci_0 dX4_buildFor_28 rfl ?_
      refine gw_istore_n (pc' := 30) (lv' := [(3, .int 0), (0, .ref (eA E 0)), (1, .int x1), (2, .int x2)]) cx rfl rfl (by decide) dX4_buildFor_29 rfl ?_
      refine gw_sub [1, 2, 3, 0] (lv' := [(0, .ref (eA E 0)), (1, .int x1), (2, .int x2), (3, .int 0)]) rfl ?_
      exact w_X4_buildFor_L30 cx tg x1 x2 FU 0 σ h
def f_X4_kindFor_L38 (y1 : Int32) (y2 : Int32) : Nat → Int32 → Int32 → Int32 → Sg → Option (Int32 × Sg)
  | 0, _, _, _, _ => none
  | n + 1, y3, y4, y5, σ =>
    if 7 ≤ y5 then
      some (y3, σ)
    else
      ob1 (f_X0_become 25 1 σ) fun s15 =>
      chk y1 8 <|
      lt (up2 s15 (25 + 4 + y1.toNatClampNeg) 0 y5) fun s17 =>
      ob1 (f_X0_passDays 25 y2 s17) fun s20 =>
      if y4 ≤ (s20 (25 + 4 + y1.toNatClampNeg) 3) then
        f_X4_kindFor_L38 y1 y2 n y3 y4 (y5 + 1) s20
      else
        f_X4_kindFor_L38 y1 y2 n y5 (s20 (25 + 4 + y1.toNatClampNeg) 3) (y5 + 1) s20
theorem w_X4_kindFor_L38 {E : Ev} {fr : Fr} {r : Int32} {σ' : Sg} (cx : Cx E mX4_kindFor 6 fr) (tg : Tg E fr (some .int) (some (.int r)) σ') (y1 : Int32) (y2 : Int32)  : ∀ (n : Nat) (y3 : Int32) (y4 : Int32) (y5 : Int32) (σ : Sg), f_X4_kindFor_L38 y1 y2 n y3 y4 y5 σ = some (r, σ') → GW E fr 7 38 [(0, .ref (eA E 0)), (1, .int y1), (2, .int y2), (3, .int y3), (4, .int y4), (5, .int y5)] [] σ := by
  intro n
  induction n with
  | zero => intro y3 y4 y5 σ h; cases (show (none : Option (Int32 × Sg)) = _ from h)
  | succ n ih =>
    intro y3 y4 y5 σ h
    rw [f_X4_kindFor_L38] at h
    refine gw_iload (pc' := 40) cx 5 rfl dX4_kindFor_38 rfl ?_
    refine gw_bipush (pc' := 42) (v := 7) cx cb_7 dX4_kindFor_40 rfl ?_
    rcases ite_some h with ⟨c13, h⟩ | ⟨c13, h⟩
    · refine gw_ic_ge_t (pc' := 112) cx c13 dX4_kindFor_42 (by decide) ?_
      refine gw_iload_n (pc' := 113) cx 3 rfl rfl dX4_kindFor_112 rfl ?_
      exact gw_iret cx tg (rt1 h) (rt2 h) dX4_kindFor_113
    · refine gw_ic_ge_f (pc' := 45) cx c13 dX4_kindFor_42 ⟨112, by decide⟩ rfl ?_
      refine gw_aload_n (pc' := 46) cx 0 rfl rfl dX4_kindFor_45 rfl ?_
      refine gw_getR (pc' := 49) cx at0 rfl fl_X4_19 dX4_kindFor_46 rfl ?_
      refine gw_aload_n (pc' := 50) cx 0 rfl rfl dX4_kindFor_49 rfl ?_
      refine gw_getR (pc' := 53) cx at0 rfl fl_X4_12 dX4_kindFor_50 rfl ?_
      obtain ⟨s15, g14, h⟩ := ob1_some h
      refine gw_cV (pc' := 56) (av := [.ref (eA E 1)]) (rest := []) cx (k_X0_become E cty25 cty1 g14) (atC cty25) (by decide) lk_X4_127 dX4_kindFor_53 rfl (Nat.le_of_ble_eq_true rfl) rfl ?_
      show GW E fr _ 56 _ [] _
      refine gw_aload_n (pc' := 57) cx 0 rfl rfl dX4_kindFor_56 rfl ?_
      refine gw_getR (pc' := 60) cx at0 rfl fl_X4_19 dX4_kindFor_57 rfl ?_
      refine gw_getR (pc' := 63) cx (atC cty25) rfl fl_X4_68 dX4_kindFor_60 rfl ?_
      refine gw_iload_n (pc' := 64) cx 1 rfl rfl dX4_kindFor_63 rfl ?_
      obtain ⟨i16, h⟩ := chk_some h
      refine gw_aald (pc' := 65) cx (atCp cty25) i16 dX4_kindFor_64 rfl ?_
      refine gw_iload (pc' := 67) cx 5 rfl dX4_kindFor_65 rfl ?_
      obtain ⟨s17, e18, h⟩ := lt_some h
      refine gw_put (pc' := 70) cx (atP (psn_of cty25 i16)) rfl fp_X4_160 ⟨rfl, rfl⟩ dX4_kindFor_67 rfl e18 ?_
      refine gw_aload_n (pc' := 71) cx 0 rfl rfl dX4_kindFor_70 rfl ?_
      refine gw_getR (pc' := 74) cx at0 rfl fl_X4_19 dX4_kindFor_71 rfl ?_
      refine gw_iload_n (pc' := 75) cx 2 rfl rfl dX4_kindFor_74 rfl ?_
      obtain ⟨s20, g19, h⟩ := ob1_some h
      refine gw_cV (pc' := 78) (av := [.int y2]) (rest := []) cx (k_X0_passDays E cty25 g19) (atC cty25) (by decide) lk_X4_110 dX4_kindFor_75 rfl (Nat.le_of_ble_eq_true rfl) rfl ?_
      show GW E fr _ 78 _ [] _
      refine gw_aload_n (pc' := 79) cx 0 rfl rfl dX4_kindFor_78 rfl ?_
      refine gw_getR (pc' := 82) cx at0 rfl fl_X4_19 dX4_kindFor_79 rfl ?_
      refine gw_getR (pc' := 85) cx (atC cty25) rfl fl_X4_68 dX4_kindFor_82 rfl ?_
      refine gw_iload_n (pc' := 86) cx 1 rfl rfl dX4_kindFor_85 rfl ?_
      refine gw_aald (pc' := 87) cx (atCp cty25) i16 dX4_kindFor_86 rfl ?_
      refine gw_getI (pc' := 90) cx (atP (psn_of cty25 i16)) rfl fl_X4_138 dX4_kindFor_87 rfl ?_
      refine gw_istore (pc' := 92) (lv' := [(6, .int (s20 (25 + 4 + y1.toNatClampNeg) 3)), (0, .ref (eA E 0)), (1, .int y1), (2, .int y2), (3, .int y3), (4, .int y4), (5, .int y5)]) cx rfl (by decide) dX4_kindFor_90 rfl ?_
      refine gw_iload (pc' := 94) cx 0 rfl dX4_kindFor_92 rfl ?_
      refine gw_iload (pc' := 96) cx 5 rfl dX4_kindFor_94 rfl ?_
      rcases ite_some h with ⟨c21, h⟩ | ⟨c21, h⟩
      · refine gw_ic_ge_t (pc' := 106) cx c21 dX4_kindFor_96 (by decide) ?_
        refine gw_iinc (pc' := 109) (v := (y5 + 1)) (lv' := [(5, .int (y5 + 1)), (6, .int (s20 (25 + 4 + y1.toNatClampNeg) 3)), (0, .ref (eA E 0)), (1, .int y1), (2, .int y2), (3, .int y3), (4, .int y4)]) cx 6 rfl rfl rfl (by decide) dX4_kindFor_106 rfl ?_
        refine gw_goto (pc' := 38) cx dX4_kindFor_109 (by decide) ?_
        refine gw_sub [2, 3, 4, 5, 6, 0] (lv' := [(0, .ref (eA E 0)), (1, .int y1), (2, .int y2), (3, .int y3), (4, .int y4), (5, .int (y5 + 1))]) rfl ?_
        exact ih y3 y4 (y5 + 1) s20 h
      · refine gw_ic_ge_f (pc' := 99) cx c21 dX4_kindFor_96 ⟨106, by decide⟩ rfl ?_
        refine gw_iload (pc' := 101) cx 0 rfl dX4_kindFor_99 rfl ?_
        refine gw_istore (pc' := 103) (lv' := [(4, .int (s20 (25 + 4 + y1.toNatClampNeg) 3)), (6, .int (s20 (25 + 4 + y1.toNatClampNeg) 3)), (0, .ref (eA E 0)), (1, .int y1), (2, .int y2), (3, .int y3), (5, .int y5)]) cx rfl (by decide) dX4_kindFor_101 rfl ?_
        refine gw_iload (pc' := 105) cx 6 rfl dX4_kindFor_103 rfl ?_
        refine gw_istore_n (pc' := 106) (lv' := [(3, .int y5), (4, .int (s20 (25 + 4 + y1.toNatClampNeg) 3)), (6, .int (s20 (25 + 4 + y1.toNatClampNeg) 3)), (0, .ref (eA E 0)), (1, .int y1), (2, .int y2), (5, .int y5)]) cx rfl rfl (by decide) dX4_kindFor_105 rfl ?_
        refine gw_iinc (pc' := 109) (v := (y5 + 1)) (lv' := [(5, .int (y5 + 1)), (3, .int y5), (4, .int (s20 (25 + 4 + y1.toNatClampNeg) 3)), (6, .int (s20 (25 + 4 + y1.toNatClampNeg) 3)), (0, .ref (eA E 0)), (1, .int y1), (2, .int y2)]) cx 6 rfl rfl rfl (by decide) dX4_kindFor_106 rfl ?_
        refine gw_goto (pc' := 38) cx dX4_kindFor_109 (by decide) ?_
        refine gw_sub [4, 5, 6, 1, 2, 0] (lv' := [(0, .ref (eA E 0)), (1, .int y1), (2, .int y2), (3, .int y5), (4, .int (s20 (25 + 4 + y1.toNatClampNeg) 3)), (5, .int (y5 + 1))]) rfl ?_
        exact ih y5 (s20 (25 + 4 + y1.toNatClampNeg) 3) (y5 + 1) s20 h
def f_X4_kindFor (x1 : Int32) (x2 : Int32) (σ : Sg) : Option (Int32 × Sg) :=
  ob0 (f_X0_has 1 x1 σ) fun r2 =>
  if r2 = 0 then
    ob2 (f_X4_found (-1000001) σ) fun r5 s6 =>
    some (r5, s6)
  else
    ob0 (f_X4_within x2 0 40 σ) fun r8 =>
    if r8 = 0 then
      ob2 (f_X4_found (-1000001) σ) fun r11 s12 =>
      some (r11, s12)
    else
      f_X4_kindFor_L38 x1 x2 FU 0 10000 0 σ
theorem k_X4_kindFor (E : Ev) {x1 : Int32} {x2 : Int32} {σ : Sg} {r : Int32} {σ' : Sg} (h : f_X4_kindFor x1 x2 σ = some (r, σ')) : Con E mX4_kindFor 6 [.ref (eA E 0), .int x1, .int x2] σ (some (.int r)) σ' := by
  refine con_of (by decide) (Nat.le_of_ble_eq_true rfl) (fun fr cx tg => ?_)
  show GW E fr 7 0 [(0, .ref (eA E 0)), (1, .int x1), (2, .int x2)] [] σ
  rw [f_X4_kindFor] at h
  refine gw_aload_n (pc' := 1) cx 0 rfl rfl dX4_kindFor_0 rfl ?_
  refine gw_getR (pc' := 4) cx at0 rfl fl_X4_12 dX4_kindFor_1 rfl ?_
  refine gw_iload_n (pc' := 5) cx 1 rfl rfl dX4_kindFor_4 rfl ?_
  obtain ⟨r2, g1, h⟩ := ob0_some h
  refine gw_cV (pc' := 8) (av := [.int x1]) (rest := []) cx (k_X0_has E cty1 g1) (atC cty1) (by decide) lk_X4_64 dX4_kindFor_5 rfl (Nat.le_of_ble_eq_true rfl) rfl ?_
  show GW E fr _ 8 _ (.int r2 :: _) _
  rcases ite_some h with ⟨c3, h⟩ | ⟨c3, h⟩
  · refine gw_if_eq_t (pc' := 21) cx c3 dX4_kindFor_8 (by decide) ?_
    refine gw_aload_n (pc' := 22) cx 0 rfl rfl dX4_kindFor_21 rfl ?_
    refine gw_ldc (pc' := 24) (v := (-1000001)) cx ct_X4_44 dX4_kindFor_22 rfl ?_
    obtain ⟨r5, s6, g4, h⟩ := ob2_some h
    refine gw_cV (pc' := 27) (av := [.int (-1000001)]) (rest := []) cx (k_X4_found E g4) at0 (by decide) lk_X4_45 dX4_kindFor_24 rfl (Nat.le_of_ble_eq_true rfl) rfl ?_
    show GW E fr _ 27 _ (.int r5 :: _) _
    exact gw_iret cx tg (rt1 h) (rt2 h) dX4_kindFor_27
  · refine gw_if_eq_f (pc' := 11) cx c3 dX4_kindFor_8 ⟨21, by decide⟩ rfl ?_
    refine gw_iload_n (pc' := 12) cx 2 rfl rfl dX4_kindFor_11 rfl ?_
    refine gw_iconst (pc' := 13) (v := 0) cx ci_0 dX4_kindFor_12 rfl ?_
    refine gw_bipush (pc' := 15) (v := 40) cx cb_40 dX4_kindFor_13 rfl ?_
    obtain ⟨r8, g7, h⟩ := ob0_some h
    refine gw_cS (pc' := 18) (av := [.int x2, .int 0, .int 40]) (rest := []) cx (k_X4_within E g7) (by decide) lk_X4_40 dX4_kindFor_15 rfl (Nat.le_of_ble_eq_true rfl) rfl ?_
    show GW E fr _ 18 _ (.int r8 :: _) _
    rcases ite_some h with ⟨c9, h⟩ | ⟨c9, h⟩
    · refine gw_if_ne_f (pc' := 21) cx c9 dX4_kindFor_18 ⟨28, by decide⟩ rfl ?_
      refine gw_aload_n (pc' := 22) cx 0 rfl rfl dX4_kindFor_21 rfl ?_
      refine gw_ldc (pc' := 24) (v := (-1000001)) cx ct_X4_44 dX4_kindFor_22 rfl ?_
      obtain ⟨r11, s12, g10, h⟩ := ob2_some h
      refine gw_cV (pc' := 27) (av := [.int (-1000001)]) (rest := []) cx (k_X4_found E g10) at0 (by decide) lk_X4_45 dX4_kindFor_24 rfl (Nat.le_of_ble_eq_true rfl) rfl ?_
      show GW E fr _ 27 _ (.int r11 :: _) _
      exact gw_iret cx tg (rt1 h) (rt2 h) dX4_kindFor_27
    · refine gw_if_ne_t (pc' := 28) cx c9 dX4_kindFor_18 (by decide) ?_
      refine gw_iconst (pc' := 29) (v := 0) cx ci_0 dX4_kindFor_28 rfl ?_
      refine gw_istore_n (pc' := 30) (lv' := [(3, .int 0), (0, .ref (eA E 0)), (1, .int x1), (2, .int x2)]) cx rfl rfl (by decide) dX4_kindFor_29 rfl ?_
      refine gw_sipush (pc' := 33) (v := 10000) cx cs_10000 dX4_kindFor_30 rfl ?_
      refine gw_istore (pc' := 35) (lv' := [(4, .int 10000), (3, .int 0), (0, .ref (eA E 0)), (1, .int x1), (2, .int x2)]) cx rfl (by decide) dX4_kindFor_33 rfl ?_
      refine gw_iconst (pc' := 36) (v := 0) cx ci_0 dX4_kindFor_35 rfl ?_
      refine gw_istore (pc' := 38) (lv' := [(5, .int 0), (4, .int 10000), (3, .int 0), (0, .ref (eA E 0)), (1, .int x1), (2, .int x2)]) cx rfl (by decide) dX4_kindFor_36 rfl ?_
      refine gw_sub [3, 4, 5, 2, 1, 0] (lv' := [(0, .ref (eA E 0)), (1, .int x1), (2, .int x2), (3, .int 0), (4, .int 10000), (5, .int 0)]) rfl ?_
      exact w_X4_kindFor_L38 cx tg x1 x2 FU 0 10000 0 σ h
def f_X4_borneWithout (x1 : Int32) (x2 : Int32) (x3 : Int32) (σ : Sg) : Option (Int32 × Sg) :=
  ob1 (f_X0_become 25 1 σ) fun s2 =>
  lt (up2 s2 25 7 x1) fun s3 =>
  ob1 (f_X0_passDays 25 x3 s3) fun s6 =>
  chk x2 8 <|
  some ((s6 (25 + 4 + x2.toNatClampNeg) 3), s6)
theorem k_X4_borneWithout (E : Ev) {x1 : Int32} {x2 : Int32} {x3 : Int32} {σ : Sg} {r : Int32} {σ' : Sg} (h : f_X4_borneWithout x1 x2 x3 σ = some (r, σ')) : Con E mX4_borneWithout 6 [.ref (eA E 0), .int x1, .int x2, .int x3] σ (some (.int r)) σ' := by
  refine con_of (by decide) (Nat.le_of_ble_eq_true rfl) (fun fr cx tg => ?_)
  show GW E fr 4 0 [(0, .ref (eA E 0)), (1, .int x1), (2, .int x2), (3, .int x3)] [] σ
  rw [f_X4_borneWithout] at h
  refine gw_aload_n (pc' := 1) cx 0 rfl rfl dX4_borneWithout_0 rfl ?_
  refine gw_getR (pc' := 4) cx at0 rfl fl_X4_19 dX4_borneWithout_1 rfl ?_
  refine gw_aload_n (pc' := 5) cx 0 rfl rfl dX4_borneWithout_4 rfl ?_
  refine gw_getR (pc' := 8) cx at0 rfl fl_X4_12 dX4_borneWithout_5 rfl ?_
  obtain ⟨s2, g1, h⟩ := ob1_some h
  refine gw_cV (pc' := 11) (av := [.ref (eA E 1)]) (rest := []) cx (k_X0_become E cty25 cty1 g1) (atC cty25) (by decide) lk_X4_127 dX4_borneWithout_8 rfl (Nat.le_of_ble_eq_true rfl) rfl ?_
  show GW E fr _ 11 _ [] _
  refine gw_aload_n (pc' := 12) cx 0 rfl rfl dX4_borneWithout_11 rfl ?_
  refine gw_getR (pc' := 15) cx at0 rfl fl_X4_19 dX4_borneWithout_12 rfl ?_
  refine gw_iload_n (pc' := 16) cx 1 rfl rfl dX4_borneWithout_15 rfl ?_
  obtain ⟨s3, e4, h⟩ := lt_some h
  refine gw_put (pc' := 19) cx (atC cty25) rfl fp_X4_174 ⟨rfl, rfl⟩ dX4_borneWithout_16 rfl e4 ?_
  refine gw_aload_n (pc' := 20) cx 0 rfl rfl dX4_borneWithout_19 rfl ?_
  refine gw_getR (pc' := 23) cx at0 rfl fl_X4_19 dX4_borneWithout_20 rfl ?_
  refine gw_iload_n (pc' := 24) cx 3 rfl rfl dX4_borneWithout_23 rfl ?_
  obtain ⟨s6, g5, h⟩ := ob1_some h
  refine gw_cV (pc' := 27) (av := [.int x3]) (rest := []) cx (k_X0_passDays E cty25 g5) (atC cty25) (by decide) lk_X4_110 dX4_borneWithout_24 rfl (Nat.le_of_ble_eq_true rfl) rfl ?_
  show GW E fr _ 27 _ [] _
  refine gw_aload_n (pc' := 28) cx 0 rfl rfl dX4_borneWithout_27 rfl ?_
  refine gw_getR (pc' := 31) cx at0 rfl fl_X4_19 dX4_borneWithout_28 rfl ?_
  refine gw_getR (pc' := 34) cx (atC cty25) rfl fl_X4_68 dX4_borneWithout_31 rfl ?_
  refine gw_iload_n (pc' := 35) cx 2 rfl rfl dX4_borneWithout_34 rfl ?_
  obtain ⟨i7, h⟩ := chk_some h
  refine gw_aald (pc' := 36) cx (atCp cty25) i7 dX4_borneWithout_35 rfl ?_
  refine gw_getI (pc' := 39) cx (atP (psn_of cty25 i7)) rfl fl_X4_138 dX4_borneWithout_36 rfl ?_
  exact gw_iret cx tg (rt1 h) (rt2 h) dX4_borneWithout_39
def f_X4_refuse_L57 (k42 : Int32 → Sg → Option (Int32 × Sg)) (y1 : Int32) (y2 : Int32) (y3 : Int32) (y4 : Int32) : Nat → Int32 → Sg → Option (Int32 × Sg)
  | 0, _, _ => none
  | n + 1, y5, σ =>
    if (jshl 1 (σ 1 3)) ≤ y5 then
      k42 (y4 + 1) σ
    else
      ob0 (f_J6_bitCount_0f7a4 y5 σ) fun r25 =>
      if r25 = y4 then
        ob0 (f_X4_isIn y5 y1 σ) fun r28 =>
        if r28 = 0 then
          ob2 (f_X4_borneWithout y5 y1 y3 σ) fun r31 s32 =>
          if y2 < r31 then
            f_X4_refuse_L57 k42 y1 y2 y3 y4 n (y5 + 1) s32
          else
            some (y5, s32)
        else
          f_X4_refuse_L57 k42 y1 y2 y3 y4 n (y5 + 1) σ
      else
        f_X4_refuse_L57 k42 y1 y2 y3 y4 n (y5 + 1) σ
theorem w_X4_refuse_L57 {E : Ev} {fr : Fr} {r : Int32} {σ' : Sg} (cx : Cx E mX4_refuse 7 fr) (tg : Tg E fr (some .int) (some (.int r)) σ') (y1 : Int32) (y2 : Int32) (y3 : Int32) (y4 : Int32) (k42 : Int32 → Sg → Option (Int32 × Sg)) (hk42 : ∀ (z0 : Int32) (σ : Sg), k42 z0 σ = some (r, σ') → GW E fr 6 42 [(0, .ref (eA E 0)), (1, .int y1), (2, .int y2), (3, .int y3), (4, .int z0)] [] σ) : ∀ (n : Nat) (y5 : Int32) (σ : Sg), f_X4_refuse_L57 k42 y1 y2 y3 y4 n y5 σ = some (r, σ') → GW E fr 6 57 [(0, .ref (eA E 0)), (1, .int y1), (2, .int y2), (3, .int y3), (4, .int y4), (5, .int y5)] [] σ := by
  intro n
  induction n with
  | zero => intro y5 σ h; cases (show (none : Option (Int32 × Sg)) = _ from h)
  | succ n ih =>
    intro y5 σ h
    rw [f_X4_refuse_L57] at h
    refine gw_iload (pc' := 59) cx 5 rfl dX4_refuse_57 rfl ?_
    refine gw_iconst (pc' := 60) (v := 1) cx ci_1 dX4_refuse_59 rfl ?_
    refine gw_aload_n (pc' := 61) cx 0 rfl rfl dX4_refuse_60 rfl ?_
    refine gw_getR (pc' := 64) cx at0 rfl fl_X4_12 dX4_refuse_61 rfl ?_
    refine gw_getI (pc' := 67) cx (atC cty1) rfl fl_X4_56 dX4_refuse_64 rfl ?_
    refine gw_ishl (pc' := 68) cx dX4_refuse_67 rfl ?_
    rcases ite_some h with ⟨c23, h⟩ | ⟨c23, h⟩
    · refine gw_ic_ge_t (pc' := 111) cx c23 dX4_refuse_68 (by decide) ?_
      refine gw_iinc (pc' := 114) (v := (y4 + 1)) (lv' := [(4, .int (y4 + 1)), (0, .ref (eA E 0)), (1, .int y1), (2, .int y2), (3, .int y3), (5, .int y5)]) cx 4 rfl rfl rfl (by decide) dX4_refuse_111 rfl ?_
      refine gw_goto (pc' := 42) cx dX4_refuse_114 (by decide) ?_
      refine gw_sub [1, 2, 3, 4, 0] (lv' := [(0, .ref (eA E 0)), (1, .int y1), (2, .int y2), (3, .int y3), (4, .int (y4 + 1))]) rfl ?_
      exact hk42 (y4 + 1) σ h
    · refine gw_ic_ge_f (pc' := 71) cx c23 dX4_refuse_68 ⟨111, by decide⟩ rfl ?_
      refine gw_iload (pc' := 73) cx 5 rfl dX4_refuse_71 rfl ?_
      obtain ⟨r25, g24, h⟩ := ob0_some h
      refine gw_cS (pc' := 76) (av := [.int y5]) (rest := []) cx (k_J6_bitCount_0f7a4 E g24) (by decide) lk_X4_163 dX4_refuse_73 rfl (Nat.le_of_ble_eq_true rfl) rfl ?_
      show GW E fr _ 76 _ (.int r25 :: _) _
      refine gw_iload (pc' := 78) cx 4 rfl dX4_refuse_76 rfl ?_
      rcases ite_some h with ⟨c26, h⟩ | ⟨c26, h⟩
      · refine gw_ic_ne_f (pc' := 81) cx c26 dX4_refuse_78 ⟨105, by decide⟩ rfl ?_
        refine gw_iload (pc' := 83) cx 5 rfl dX4_refuse_81 rfl ?_
        refine gw_iload_n (pc' := 84) cx 1 rfl rfl dX4_refuse_83 rfl ?_
        obtain ⟨r28, g27, h⟩ := ob0_some h
        refine gw_cS (pc' := 87) (av := [.int y5, .int y1]) (rest := []) cx (k_X4_isIn E g27) (by decide) lk_X4_168 dX4_refuse_84 rfl (Nat.le_of_ble_eq_true rfl) rfl ?_
        show GW E fr _ 87 _ (.int r28 :: _) _
        rcases ite_some h with ⟨c29, h⟩ | ⟨c29, h⟩
        · refine gw_if_ne_f (pc' := 90) cx c29 dX4_refuse_87 ⟨105, by decide⟩ rfl ?_
          refine gw_aload_n (pc' := 91) cx 0 rfl rfl dX4_refuse_90 rfl ?_
          refine gw_iload (pc' := 93) cx 5 rfl dX4_refuse_91 rfl ?_
          refine gw_iload_n (pc' := 94) cx 1 rfl rfl dX4_refuse_93 rfl ?_
          refine gw_iload_n (pc' := 95) cx 3 rfl rfl dX4_refuse_94 rfl ?_
          obtain ⟨r31, s32, g30, h⟩ := ob2_some h
          refine gw_cV (pc' := 98) (av := [.int y5, .int y1, .int y3]) (rest := []) cx (k_X4_borneWithout E g30) at0 (by decide) lk_X4_171 dX4_refuse_95 rfl (Nat.le_of_ble_eq_true rfl) rfl ?_
          show GW E fr _ 98 _ (.int r31 :: _) _
          refine gw_iload_n (pc' := 99) cx 2 rfl rfl dX4_refuse_98 rfl ?_
          rcases ite_some h with ⟨c33, h⟩ | ⟨c33, h⟩
          · refine gw_ic_gt_t (pc' := 105) cx c33 dX4_refuse_99 (by decide) ?_
            refine gw_iinc (pc' := 108) (v := (y5 + 1)) (lv' := [(5, .int (y5 + 1)), (0, .ref (eA E 0)), (1, .int y1), (2, .int y2), (3, .int y3), (4, .int y4)]) cx 5 rfl rfl rfl (by decide) dX4_refuse_105 rfl ?_
            refine gw_goto (pc' := 57) cx dX4_refuse_108 (by decide) ?_
            refine gw_sub [1, 2, 3, 4, 5, 0] (lv' := [(0, .ref (eA E 0)), (1, .int y1), (2, .int y2), (3, .int y3), (4, .int y4), (5, .int (y5 + 1))]) rfl ?_
            exact ih (y5 + 1) s32 h
          · refine gw_ic_gt_f (pc' := 102) cx c33 dX4_refuse_99 ⟨105, by decide⟩ rfl ?_
            refine gw_iload (pc' := 104) cx 5 rfl dX4_refuse_102 rfl ?_
            exact gw_iret cx tg (rt1 h) (rt2 h) dX4_refuse_104
        · refine gw_if_ne_t (pc' := 105) cx c29 dX4_refuse_87 (by decide) ?_
          refine gw_iinc (pc' := 108) (v := (y5 + 1)) (lv' := [(5, .int (y5 + 1)), (0, .ref (eA E 0)), (1, .int y1), (2, .int y2), (3, .int y3), (4, .int y4)]) cx 5 rfl rfl rfl (by decide) dX4_refuse_105 rfl ?_
          refine gw_goto (pc' := 57) cx dX4_refuse_108 (by decide) ?_
          refine gw_sub [1, 2, 3, 4, 5, 0] (lv' := [(0, .ref (eA E 0)), (1, .int y1), (2, .int y2), (3, .int y3), (4, .int y4), (5, .int (y5 + 1))]) rfl ?_
          exact ih (y5 + 1) σ h
      · refine gw_ic_ne_t (pc' := 105) cx c26 dX4_refuse_78 (by decide) ?_
        refine gw_iinc (pc' := 108) (v := (y5 + 1)) (lv' := [(5, .int (y5 + 1)), (0, .ref (eA E 0)), (1, .int y1), (2, .int y2), (3, .int y3), (4, .int y4)]) cx 5 rfl rfl rfl (by decide) dX4_refuse_105 rfl ?_
        refine gw_goto (pc' := 57) cx dX4_refuse_108 (by decide) ?_
        refine gw_sub [1, 2, 3, 4, 5, 0] (lv' := [(0, .ref (eA E 0)), (1, .int y1), (2, .int y2), (3, .int y3), (4, .int y4), (5, .int (y5 + 1))]) rfl ?_
        exact ih (y5 + 1) σ h
def f_X4_refuse_L42 (y1 : Int32) (y2 : Int32) (y3 : Int32) : Nat → Int32 → Sg → Option (Int32 × Sg)
  | 0, _, _ => none
  | n + 1, y4, σ =>
    if (σ 1 3) ≤ y4 then
      ob2 (f_X4_found (-1000004) σ) fun r21 s22 =>
      some (r21, s22)
    else
      f_X4_refuse_L57 (fun z0 s => f_X4_refuse_L42 y1 y2 y3 n z0 s) y1 y2 y3 y4 FU 0 σ
theorem w_X4_refuse_L42 {E : Ev} {fr : Fr} {r : Int32} {σ' : Sg} (cx : Cx E mX4_refuse 7 fr) (tg : Tg E fr (some .int) (some (.int r)) σ') (y1 : Int32) (y2 : Int32) (y3 : Int32)  : ∀ (n : Nat) (y4 : Int32) (σ : Sg), f_X4_refuse_L42 y1 y2 y3 n y4 σ = some (r, σ') → GW E fr 6 42 [(0, .ref (eA E 0)), (1, .int y1), (2, .int y2), (3, .int y3), (4, .int y4)] [] σ := by
  intro n
  induction n with
  | zero => intro y4 σ h; cases (show (none : Option (Int32 × Sg)) = _ from h)
  | succ n ih =>
    intro y4 σ h
    rw [f_X4_refuse_L42] at h
    refine gw_iload (pc' := 44) cx 4 rfl dX4_refuse_42 rfl ?_
    refine gw_aload_n (pc' := 45) cx 0 rfl rfl dX4_refuse_44 rfl ?_
    refine gw_getR (pc' := 48) cx at0 rfl fl_X4_12 dX4_refuse_45 rfl ?_
    refine gw_getI (pc' := 51) cx (atC cty1) rfl fl_X4_56 dX4_refuse_48 rfl ?_
    rcases ite_some h with ⟨c19, h⟩ | ⟨c19, h⟩
    · refine gw_ic_ge_t (pc' := 117) cx c19 dX4_refuse_51 (by decide) ?_
      refine gw_aload_n (pc' := 118) cx 0 rfl rfl dX4_refuse_117 rfl ?_
      refine gw_ldc (pc' := 120) (v := (-1000004)) cx ct_X4_107 dX4_refuse_118 rfl ?_
      obtain ⟨r21, s22, g20, h⟩ := ob2_some h
      refine gw_cV (pc' := 123) (av := [.int (-1000004)]) (rest := []) cx (k_X4_found E g20) at0 (by decide) lk_X4_45 dX4_refuse_120 rfl (Nat.le_of_ble_eq_true rfl) rfl ?_
      show GW E fr _ 123 _ (.int r21 :: _) _
      exact gw_iret cx tg (rt1 h) (rt2 h) dX4_refuse_123
    · refine gw_ic_ge_f (pc' := 54) cx c19 dX4_refuse_51 ⟨117, by decide⟩ rfl ?_
      refine gw_iconst (pc' := 55) (v := 0) cx ci_0 dX4_refuse_54 rfl ?_
      refine gw_istore (pc' := 57) (lv' := [(5, .int 0), (0, .ref (eA E 0)), (1, .int y1), (2, .int y2), (3, .int y3), (4, .int y4)]) cx rfl (by decide) dX4_refuse_55 rfl ?_
      refine gw_sub [1, 2, 3, 4, 5, 0] (lv' := [(0, .ref (eA E 0)), (1, .int y1), (2, .int y2), (3, .int y3), (4, .int y4), (5, .int 0)]) rfl ?_
      exact w_X4_refuse_L57 cx tg y1 y2 y3 y4 (fun z0 s => f_X4_refuse_L42 y1 y2 y3 n z0 s) (fun z0 s hh => ih z0 s hh) FU 0 σ h
def f_X4_refuse (x1 : Int32) (x2 : Int32) (x3 : Int32) (σ : Sg) : Option (Int32 × Sg) :=
  ob0 (f_X0_has 1 x1 σ) fun r2 =>
  if r2 = 0 then
    ob2 (f_X4_found (-1000001) σ) fun r5 s6 =>
    some (r5, s6)
  else
    ob0 (f_X4_within x2 0 9999 σ) fun r8 =>
    if r8 = 0 then
      ob2 (f_X4_found (-1000001) σ) fun r11 s12 =>
      some (r11, s12)
    else
      ob0 (f_X4_within x3 0 20 σ) fun r14 =>
      if r14 = 0 then
        ob2 (f_X4_found (-1000001) σ) fun r17 s18 =>
        some (r17, s18)
      else
        f_X4_refuse_L42 x1 x2 x3 FU 0 σ
theorem k_X4_refuse (E : Ev) {x1 : Int32} {x2 : Int32} {x3 : Int32} {σ : Sg} {r : Int32} {σ' : Sg} (h : f_X4_refuse x1 x2 x3 σ = some (r, σ')) : Con E mX4_refuse 7 [.ref (eA E 0), .int x1, .int x2, .int x3] σ (some (.int r)) σ' := by
  refine con_of (by decide) (Nat.le_of_ble_eq_true rfl) (fun fr cx tg => ?_)
  show GW E fr 6 0 [(0, .ref (eA E 0)), (1, .int x1), (2, .int x2), (3, .int x3)] [] σ
  rw [f_X4_refuse] at h
  refine gw_aload_n (pc' := 1) cx 0 rfl rfl dX4_refuse_0 rfl ?_
  refine gw_getR (pc' := 4) cx at0 rfl fl_X4_12 dX4_refuse_1 rfl ?_
  refine gw_iload_n (pc' := 5) cx 1 rfl rfl dX4_refuse_4 rfl ?_
  obtain ⟨r2, g1, h⟩ := ob0_some h
  refine gw_cV (pc' := 8) (av := [.int x1]) (rest := []) cx (k_X0_has E cty1 g1) (atC cty1) (by decide) lk_X4_64 dX4_refuse_5 rfl (Nat.le_of_ble_eq_true rfl) rfl ?_
  show GW E fr _ 8 _ (.int r2 :: _) _
  rcases ite_some h with ⟨c3, h⟩ | ⟨c3, h⟩
  · refine gw_if_eq_t (pc' := 32) cx c3 dX4_refuse_8 (by decide) ?_
    refine gw_aload_n (pc' := 33) cx 0 rfl rfl dX4_refuse_32 rfl ?_
    refine gw_ldc (pc' := 35) (v := (-1000001)) cx ct_X4_44 dX4_refuse_33 rfl ?_
    obtain ⟨r5, s6, g4, h⟩ := ob2_some h
    refine gw_cV (pc' := 38) (av := [.int (-1000001)]) (rest := []) cx (k_X4_found E g4) at0 (by decide) lk_X4_45 dX4_refuse_35 rfl (Nat.le_of_ble_eq_true rfl) rfl ?_
    show GW E fr _ 38 _ (.int r5 :: _) _
    exact gw_iret cx tg (rt1 h) (rt2 h) dX4_refuse_38
  · refine gw_if_eq_f (pc' := 11) cx c3 dX4_refuse_8 ⟨32, by decide⟩ rfl ?_
    refine gw_iload_n (pc' := 12) cx 2 rfl rfl dX4_refuse_11 rfl ?_
    refine gw_iconst (pc' := 13) (v := 0) cx ci_0 dX4_refuse_12 rfl ?_
    refine gw_sipush (pc' := 16) (v := 9999) cx cs_9999 dX4_refuse_13 rfl ?_
    obtain ⟨r8, g7, h⟩ := ob0_some h
    refine gw_cS (pc' := 19) (av := [.int x2, .int 0, .int 9999]) (rest := []) cx (k_X4_within E g7) (by decide) lk_X4_40 dX4_refuse_16 rfl (Nat.le_of_ble_eq_true rfl) rfl ?_
    show GW E fr _ 19 _ (.int r8 :: _) _
    rcases ite_some h with ⟨c9, h⟩ | ⟨c9, h⟩
    · refine gw_if_eq_t (pc' := 32) cx c9 dX4_refuse_19 (by decide) ?_
      refine gw_aload_n (pc' := 33) cx 0 rfl rfl dX4_refuse_32 rfl ?_
      refine gw_ldc (pc' := 35) (v := (-1000001)) cx ct_X4_44 dX4_refuse_33 rfl ?_
      obtain ⟨r11, s12, g10, h⟩ := ob2_some h
      refine gw_cV (pc' := 38) (av := [.int (-1000001)]) (rest := []) cx (k_X4_found E g10) at0 (by decide) lk_X4_45 dX4_refuse_35 rfl (Nat.le_of_ble_eq_true rfl) rfl ?_
      show GW E fr _ 38 _ (.int r11 :: _) _
      exact gw_iret cx tg (rt1 h) (rt2 h) dX4_refuse_38
    · refine gw_if_eq_f (pc' := 22) cx c9 dX4_refuse_19 ⟨32, by decide⟩ rfl ?_
      refine gw_iload_n (pc' := 23) cx 3 rfl rfl dX4_refuse_22 rfl ?_
      refine gw_iconst (pc' := 24) (v := 0) cx ci_0 dX4_refuse_23 rfl ?_
      refine gw_bipush (pc' := 26) (v := 20) cx cb_20 dX4_refuse_24 rfl ?_
      obtain ⟨r14, g13, h⟩ := ob0_some h
      refine gw_cS (pc' := 29) (av := [.int x3, .int 0, .int 20]) (rest := []) cx (k_X4_within E g13) (by decide) lk_X4_40 dX4_refuse_26 rfl (Nat.le_of_ble_eq_true rfl) rfl ?_
      show GW E fr _ 29 _ (.int r14 :: _) _
      rcases ite_some h with ⟨c15, h⟩ | ⟨c15, h⟩
      · refine gw_if_ne_f (pc' := 32) cx c15 dX4_refuse_29 ⟨39, by decide⟩ rfl ?_
        refine gw_aload_n (pc' := 33) cx 0 rfl rfl dX4_refuse_32 rfl ?_
        refine gw_ldc (pc' := 35) (v := (-1000001)) cx ct_X4_44 dX4_refuse_33 rfl ?_
        obtain ⟨r17, s18, g16, h⟩ := ob2_some h
        refine gw_cV (pc' := 38) (av := [.int (-1000001)]) (rest := []) cx (k_X4_found E g16) at0 (by decide) lk_X4_45 dX4_refuse_35 rfl (Nat.le_of_ble_eq_true rfl) rfl ?_
        show GW E fr _ 38 _ (.int r17 :: _) _
        exact gw_iret cx tg (rt1 h) (rt2 h) dX4_refuse_38
      · refine gw_if_ne_t (pc' := 39) cx c15 dX4_refuse_29 (by decide) ?_
        refine gw_iconst (pc' := 40) (v := 0) cx ci_0 dX4_refuse_39 rfl ?_
        refine gw_istore (pc' := 42) (lv' := [(4, .int 0), (0, .ref (eA E 0)), (1, .int x1), (2, .int x2), (3, .int x3)]) cx rfl (by decide) dX4_refuse_40 rfl ?_
        refine gw_sub [1, 2, 3, 4, 0] (lv' := [(0, .ref (eA E 0)), (1, .int x1), (2, .int x2), (3, .int x3), (4, .int 0)]) rfl ?_
        exact w_X4_refuse_L42 cx tg x1 x2 x3 FU 0 σ h
def f_X4_hintsWithSwapped (x1 : Int32) (x2 : Int32) (x3 : Int32) (σ : Sg) : Option (Int32 × Sg) :=
  ob1 (f_X0_become 25 1 σ) fun s2 =>
  chk x1 8 <|
  chk x2 8 <|
  lt (up2 s2 (25 + 4 + x1.toNatClampNeg) 2 (s2 (1 + 4 + x2.toNatClampNeg) 2)) fun s5 =>
  lt (up2 s5 (25 + 4 + x2.toNatClampNeg) 2 (s5 (1 + 4 + x1.toNatClampNeg) 2)) fun s7 =>
  ob1 (f_X0_passDays 25 x3 s7) fun s10 =>
  some ((s10 25 4), s10)
theorem k_X4_hintsWithSwapped (E : Ev) {x1 : Int32} {x2 : Int32} {x3 : Int32} {σ : Sg} {r : Int32} {σ' : Sg} (h : f_X4_hintsWithSwapped x1 x2 x3 σ = some (r, σ')) : Con E mX4_hintsWithSwapped 6 [.ref (eA E 0), .int x1, .int x2, .int x3] σ (some (.int r)) σ' := by
  refine con_of (by decide) (Nat.le_of_ble_eq_true rfl) (fun fr cx tg => ?_)
  show GW E fr 4 0 [(0, .ref (eA E 0)), (1, .int x1), (2, .int x2), (3, .int x3)] [] σ
  rw [f_X4_hintsWithSwapped] at h
  refine gw_aload_n (pc' := 1) cx 0 rfl rfl dX4_hintsWithSwapped_0 rfl ?_
  refine gw_getR (pc' := 4) cx at0 rfl fl_X4_19 dX4_hintsWithSwapped_1 rfl ?_
  refine gw_aload_n (pc' := 5) cx 0 rfl rfl dX4_hintsWithSwapped_4 rfl ?_
  refine gw_getR (pc' := 8) cx at0 rfl fl_X4_12 dX4_hintsWithSwapped_5 rfl ?_
  obtain ⟨s2, g1, h⟩ := ob1_some h
  refine gw_cV (pc' := 11) (av := [.ref (eA E 1)]) (rest := []) cx (k_X0_become E cty25 cty1 g1) (atC cty25) (by decide) lk_X4_127 dX4_hintsWithSwapped_8 rfl (Nat.le_of_ble_eq_true rfl) rfl ?_
  show GW E fr _ 11 _ [] _
  refine gw_aload_n (pc' := 12) cx 0 rfl rfl dX4_hintsWithSwapped_11 rfl ?_
  refine gw_getR (pc' := 15) cx at0 rfl fl_X4_19 dX4_hintsWithSwapped_12 rfl ?_
  refine gw_getR (pc' := 18) cx (atC cty25) rfl fl_X4_68 dX4_hintsWithSwapped_15 rfl ?_
  refine gw_iload_n (pc' := 19) cx 1 rfl rfl dX4_hintsWithSwapped_18 rfl ?_
  obtain ⟨i3, h⟩ := chk_some h
  refine gw_aald (pc' := 20) cx (atCp cty25) i3 dX4_hintsWithSwapped_19 rfl ?_
  refine gw_aload_n (pc' := 21) cx 0 rfl rfl dX4_hintsWithSwapped_20 rfl ?_
  refine gw_getR (pc' := 24) cx at0 rfl fl_X4_12 dX4_hintsWithSwapped_21 rfl ?_
  refine gw_getR (pc' := 27) cx (atC cty1) rfl fl_X4_68 dX4_hintsWithSwapped_24 rfl ?_
  refine gw_iload_n (pc' := 28) cx 2 rfl rfl dX4_hintsWithSwapped_27 rfl ?_
  obtain ⟨i4, h⟩ := chk_some h
  refine gw_aald (pc' := 29) cx (atCp cty1) i4 dX4_hintsWithSwapped_28 rfl ?_
  refine gw_getI (pc' := 32) cx (atP (psn_of cty1 i4)) rfl fl_X4_154 dX4_hintsWithSwapped_29 rfl ?_
  obtain ⟨s5, e6, h⟩ := lt_some h
  refine gw_put (pc' := 35) cx (atP (psn_of cty25 i3)) rfl fp_X4_154 ⟨rfl, rfl⟩ dX4_hintsWithSwapped_32 rfl e6 ?_
  refine gw_aload_n (pc' := 36) cx 0 rfl rfl dX4_hintsWithSwapped_35 rfl ?_
  refine gw_getR (pc' := 39) cx at0 rfl fl_X4_19 dX4_hintsWithSwapped_36 rfl ?_
  refine gw_getR (pc' := 42) cx (atC cty25) rfl fl_X4_68 dX4_hintsWithSwapped_39 rfl ?_
  refine gw_iload_n (pc' := 43) cx 2 rfl rfl dX4_hintsWithSwapped_42 rfl ?_
  refine gw_aald (pc' := 44) cx (atCp cty25) i4 dX4_hintsWithSwapped_43 rfl ?_
  refine gw_aload_n (pc' := 45) cx 0 rfl rfl dX4_hintsWithSwapped_44 rfl ?_
  refine gw_getR (pc' := 48) cx at0 rfl fl_X4_12 dX4_hintsWithSwapped_45 rfl ?_
  refine gw_getR (pc' := 51) cx (atC cty1) rfl fl_X4_68 dX4_hintsWithSwapped_48 rfl ?_
  refine gw_iload_n (pc' := 52) cx 1 rfl rfl dX4_hintsWithSwapped_51 rfl ?_
  refine gw_aald (pc' := 53) cx (atCp cty1) i3 dX4_hintsWithSwapped_52 rfl ?_
  refine gw_getI (pc' := 56) cx (atP (psn_of cty1 i3)) rfl fl_X4_154 dX4_hintsWithSwapped_53 rfl ?_
  obtain ⟨s7, e8, h⟩ := lt_some h
  refine gw_put (pc' := 59) cx (atP (psn_of cty25 i4)) rfl fp_X4_154 ⟨rfl, rfl⟩ dX4_hintsWithSwapped_56 rfl e8 ?_
  refine gw_aload_n (pc' := 60) cx 0 rfl rfl dX4_hintsWithSwapped_59 rfl ?_
  refine gw_getR (pc' := 63) cx at0 rfl fl_X4_19 dX4_hintsWithSwapped_60 rfl ?_
  refine gw_iload_n (pc' := 64) cx 3 rfl rfl dX4_hintsWithSwapped_63 rfl ?_
  obtain ⟨s10, g9, h⟩ := ob1_some h
  refine gw_cV (pc' := 67) (av := [.int x3]) (rest := []) cx (k_X0_passDays E cty25 g9) (atC cty25) (by decide) lk_X4_110 dX4_hintsWithSwapped_64 rfl (Nat.le_of_ble_eq_true rfl) rfl ?_
  show GW E fr _ 67 _ [] _
  refine gw_aload_n (pc' := 68) cx 0 rfl rfl dX4_hintsWithSwapped_67 rfl ?_
  refine gw_getR (pc' := 71) cx at0 rfl fl_X4_19 dX4_hintsWithSwapped_68 rfl ?_
  refine gw_getI (pc' := 74) cx (atC cty25) rfl fl_X4_117 dX4_hintsWithSwapped_71 rfl ?_
  exact gw_iret cx tg (rt1 h) (rt2 h) dX4_hintsWithSwapped_74
def f_X4_swapFor_L43 (k25 : Int32 → Int32 → Int32 → Sg → Option (Int32 × Sg)) (y1 : Int32) (y4 : Int32) : Nat → Int32 → Int32 → Int32 → Sg → Option (Int32 × Sg)
  | 0, _, _, _, _ => none
  | n + 1, y2, y3, y5, σ =>
    if (σ 1 3) ≤ y5 then
      k25 y2 y3 (y4 + 1) σ
    else
      ob2 (f_X4_hintsWithSwapped y4 y5 y1 σ) fun r14 s15 =>
      if y3 ≤ r14 then
        f_X4_swapFor_L43 k25 y1 y4 n y2 y3 (y5 + 1) s15
      else
        f_X4_swapFor_L43 k25 y1 y4 n ((8 * y4) + y5) r14 (y5 + 1) s15
theorem w_X4_swapFor_L43 {E : Ev} {fr : Fr} {r : Int32} {σ' : Sg} (cx : Cx E mX4_swapFor 7 fr) (tg : Tg E fr (some .int) (some (.int r)) σ') (y1 : Int32) (y4 : Int32) (k25 : Int32 → Int32 → Int32 → Sg → Option (Int32 × Sg)) (hk25 : ∀ (z0 : Int32) (z1 : Int32) (z2 : Int32) (σ : Sg), k25 z0 z1 z2 σ = some (r, σ') → GW E fr 7 25 [(0, .ref (eA E 0)), (1, .int y1), (2, .int z0), (3, .int z1), (4, .int z2)] [] σ) : ∀ (n : Nat) (y2 : Int32) (y3 : Int32) (y5 : Int32) (σ : Sg), f_X4_swapFor_L43 k25 y1 y4 n y2 y3 y5 σ = some (r, σ') → GW E fr 7 43 [(0, .ref (eA E 0)), (1, .int y1), (2, .int y2), (3, .int y3), (4, .int y4), (5, .int y5)] [] σ := by
  intro n
  induction n with
  | zero => intro y2 y3 y5 σ h; cases (show (none : Option (Int32 × Sg)) = _ from h)
  | succ n ih =>
    intro y2 y3 y5 σ h
    rw [f_X4_swapFor_L43] at h
    refine gw_iload (pc' := 45) cx 5 rfl dX4_swapFor_43 rfl ?_
    refine gw_aload_n (pc' := 46) cx 0 rfl rfl dX4_swapFor_45 rfl ?_
    refine gw_getR (pc' := 49) cx at0 rfl fl_X4_12 dX4_swapFor_46 rfl ?_
    refine gw_getI (pc' := 52) cx (atC cty1) rfl fl_X4_56 dX4_swapFor_49 rfl ?_
    rcases ite_some h with ⟨c12, h⟩ | ⟨c12, h⟩
    · refine gw_ic_ge_t (pc' := 90) cx c12 dX4_swapFor_52 (by decide) ?_
      refine gw_iinc (pc' := 93) (v := (y4 + 1)) (lv' := [(4, .int (y4 + 1)), (0, .ref (eA E 0)), (1, .int y1), (2, .int y2), (3, .int y3), (5, .int y5)]) cx 4 rfl rfl rfl (by decide) dX4_swapFor_90 rfl ?_
      refine gw_goto (pc' := 25) cx dX4_swapFor_93 (by decide) ?_
      refine gw_sub [1, 2, 3, 4, 0] (lv' := [(0, .ref (eA E 0)), (1, .int y1), (2, .int y2), (3, .int y3), (4, .int (y4 + 1))]) rfl ?_
      exact hk25 y2 y3 (y4 + 1) σ h
    · refine gw_ic_ge_f (pc' := 55) cx c12 dX4_swapFor_52 ⟨90, by decide⟩ rfl ?_
      refine gw_aload_n (pc' := 56) cx 0 rfl rfl dX4_swapFor_55 rfl ?_
      refine gw_iload (pc' := 58) cx 4 rfl dX4_swapFor_56 rfl ?_
      refine gw_iload (pc' := 60) cx 5 rfl dX4_swapFor_58 rfl ?_
      refine gw_iload_n (pc' := 61) cx 1 rfl rfl dX4_swapFor_60 rfl ?_
      obtain ⟨r14, s15, g13, h⟩ := ob2_some h
      refine gw_cV (pc' := 64) (av := [.int y4, .int y5, .int y1]) (rest := []) cx (k_X4_hintsWithSwapped E g13) at0 (by decide) lk_X4_178 dX4_swapFor_61 rfl (Nat.le_of_ble_eq_true rfl) rfl ?_
      show GW E fr _ 64 _ (.int r14 :: _) _
      refine gw_istore (pc' := 66) (lv' := [(6, .int r14), (0, .ref (eA E 0)), (1, .int y1), (2, .int y2), (3, .int y3), (4, .int y4), (5, .int y5)]) cx rfl (by decide) dX4_swapFor_64 rfl ?_
      refine gw_iload (pc' := 68) cx 0 rfl dX4_swapFor_66 rfl ?_
      refine gw_iload_n (pc' := 69) cx 4 rfl rfl dX4_swapFor_68 rfl ?_
      rcases ite_some h with ⟨c16, h⟩ | ⟨c16, h⟩
      · refine gw_ic_ge_t (pc' := 84) cx c16 dX4_swapFor_69 (by decide) ?_
        refine gw_iinc (pc' := 87) (v := (y5 + 1)) (lv' := [(5, .int (y5 + 1)), (6, .int r14), (0, .ref (eA E 0)), (1, .int y1), (2, .int y2), (3, .int y3), (4, .int y4)]) cx 6 rfl rfl rfl (by decide) dX4_swapFor_84 rfl ?_
        refine gw_goto (pc' := 43) cx dX4_swapFor_87 (by decide) ?_
        refine gw_sub [2, 3, 4, 5, 6, 0] (lv' := [(0, .ref (eA E 0)), (1, .int y1), (2, .int y2), (3, .int y3), (4, .int y4), (5, .int (y5 + 1))]) rfl ?_
        exact ih y2 y3 (y5 + 1) s15 h
      · refine gw_ic_ge_f (pc' := 72) cx c16 dX4_swapFor_69 ⟨84, by decide⟩ rfl ?_
        refine gw_iload (pc' := 74) cx 0 rfl dX4_swapFor_72 rfl ?_
        refine gw_istore_n (pc' := 75) (lv' := [(3, .int r14), (6, .int r14), (0, .ref (eA E 0)), (1, .int y1), (2, .int y2), (4, .int y4), (5, .int y5)]) cx rfl rfl (by decide) dX4_swapFor_74 rfl ?_
        refine gw_bipush (pc' := 77) (v := 8) cx cb_8 dX4_swapFor_75 rfl ?_
        refine gw_iload (pc' := 79) cx 5 rfl dX4_swapFor_77 rfl ?_
        refine gw_imul (pc' := 80) cx dX4_swapFor_79 rfl ?_
        refine gw_iload (pc' := 82) cx 6 rfl dX4_swapFor_80 rfl ?_
        refine gw_iadd (pc' := 83) cx dX4_swapFor_82 rfl ?_
        refine gw_istore_n (pc' := 84) (lv' := [(2, .int ((8 * y4) + y5)), (3, .int r14), (6, .int r14), (0, .ref (eA E 0)), (1, .int y1), (4, .int y4), (5, .int y5)]) cx rfl rfl (by decide) dX4_swapFor_83 rfl ?_
        refine gw_iinc (pc' := 87) (v := (y5 + 1)) (lv' := [(5, .int (y5 + 1)), (2, .int ((8 * y4) + y5)), (3, .int r14), (6, .int r14), (0, .ref (eA E 0)), (1, .int y1), (4, .int y4)]) cx 6 rfl rfl rfl (by decide) dX4_swapFor_84 rfl ?_
        refine gw_goto (pc' := 43) cx dX4_swapFor_87 (by decide) ?_
        refine gw_sub [4, 5, 1, 2, 6, 0] (lv' := [(0, .ref (eA E 0)), (1, .int y1), (2, .int ((8 * y4) + y5)), (3, .int r14), (4, .int y4), (5, .int (y5 + 1))]) rfl ?_
        exact ih ((8 * y4) + y5) r14 (y5 + 1) s15 h
def f_X4_swapFor_L25 (y1 : Int32) : Nat → Int32 → Int32 → Int32 → Sg → Option (Int32 × Sg)
  | 0, _, _, _, _ => none
  | n + 1, y2, y3, y4, σ =>
    if (σ 1 3) ≤ y4 then
      if y2 = (-1) then
        ob2 (f_X4_found (-1000004) σ) fun r10 s11 =>
        some (r10, s11)
      else
        some (y2, σ)
    else
      f_X4_swapFor_L43 (fun z0 z1 z2 s => f_X4_swapFor_L25 y1 n z0 z1 z2 s) y1 y4 FU y2 y3 (y4 + 1) σ
theorem w_X4_swapFor_L25 {E : Ev} {fr : Fr} {r : Int32} {σ' : Sg} (cx : Cx E mX4_swapFor 7 fr) (tg : Tg E fr (some .int) (some (.int r)) σ') (y1 : Int32)  : ∀ (n : Nat) (y2 : Int32) (y3 : Int32) (y4 : Int32) (σ : Sg), f_X4_swapFor_L25 y1 n y2 y3 y4 σ = some (r, σ') → GW E fr 7 25 [(0, .ref (eA E 0)), (1, .int y1), (2, .int y2), (3, .int y3), (4, .int y4)] [] σ := by
  intro n
  induction n with
  | zero => intro y2 y3 y4 σ h; cases (show (none : Option (Int32 × Sg)) = _ from h)
  | succ n ih =>
    intro y2 y3 y4 σ h
    rw [f_X4_swapFor_L25] at h
    refine gw_iload (pc' := 27) cx 4 rfl dX4_swapFor_25 rfl ?_
    refine gw_aload_n (pc' := 28) cx 0 rfl rfl dX4_swapFor_27 rfl ?_
    refine gw_getR (pc' := 31) cx at0 rfl fl_X4_12 dX4_swapFor_28 rfl ?_
    refine gw_getI (pc' := 34) cx (atC cty1) rfl fl_X4_56 dX4_swapFor_31 rfl ?_
    rcases ite_some h with ⟨c7, h⟩ | ⟨c7, h⟩
    · refine gw_ic_ge_t (pc' := 96) cx c7 dX4_swapFor_34 (by decide) ?_
      refine gw_iload_n (pc' := 97) cx 2 rfl rfl dX4_swapFor_96 rfl ?_
      refine gw_iconst (pc' := 98) (v := (-1)) cx ci_m1 dX4_swapFor_97 rfl ?_
      rcases ite_some h with ⟨c8, h⟩ | ⟨c8, h⟩
      · refine gw_ic_ne_f (pc' := 101) cx c8 dX4_swapFor_98 ⟨110, by decide⟩ rfl ?_
        refine gw_aload_n (pc' := 102) cx 0 rfl rfl dX4_swapFor_101 rfl ?_
        refine gw_ldc (pc' := 104) (v := (-1000004)) cx ct_X4_107 dX4_swapFor_102 rfl ?_
        obtain ⟨r10, s11, g9, h⟩ := ob2_some h
        refine gw_cV (pc' := 107) (av := [.int (-1000004)]) (rest := []) cx (k_X4_found E g9) at0 (by decide) lk_X4_45 dX4_swapFor_104 rfl (Nat.le_of_ble_eq_true rfl) rfl ?_
        show GW E fr _ 107 _ (.int r10 :: _) _
        refine gw_goto (pc' := 111) cx dX4_swapFor_107 (by decide) ?_
        exact gw_iret cx tg (rt1 h) (rt2 h) dX4_swapFor_111
      · refine gw_ic_ne_t (pc' := 110) cx c8 dX4_swapFor_98 (by decide) ?_
        refine gw_iload_n (pc' := 111) cx 2 rfl rfl dX4_swapFor_110 rfl ?_
        exact gw_iret cx tg (rt1 h) (rt2 h) dX4_swapFor_111
    · refine gw_ic_ge_f (pc' := 37) cx c7 dX4_swapFor_34 ⟨96, by decide⟩ rfl ?_
      refine gw_iload (pc' := 39) cx 4 rfl dX4_swapFor_37 rfl ?_
      refine gw_iconst (pc' := 40) (v := 1) cx ci_1 dX4_swapFor_39 rfl ?_
      refine gw_iadd (pc' := 41) cx dX4_swapFor_40 rfl ?_
      refine gw_istore (pc' := 43) (lv' := [(5, .int (y4 + 1)), (0, .ref (eA E 0)), (1, .int y1), (2, .int y2), (3, .int y3), (4, .int y4)]) cx rfl (by decide) dX4_swapFor_41 rfl ?_
      refine gw_sub [1, 2, 3, 4, 5, 0] (lv' := [(0, .ref (eA E 0)), (1, .int y1), (2, .int y2), (3, .int y3), (4, .int y4), (5, .int (y4 + 1))]) rfl ?_
      exact w_X4_swapFor_L43 cx tg y1 y4 (fun z0 z1 z2 s => f_X4_swapFor_L25 y1 n z0 z1 z2 s) (fun z0 z1 z2 s hh => ih z0 z1 z2 s hh) FU y2 y3 (y4 + 1) σ h
def f_X4_swapFor (x1 : Int32) (σ : Sg) : Option (Int32 × Sg) :=
  ob0 (f_X4_within x1 0 40 σ) fun r2 =>
  if r2 = 0 then
    ob2 (f_X4_found (-1000001) σ) fun r5 s6 =>
    some (r5, s6)
  else
    f_X4_swapFor_L25 x1 FU (-1) 100000 0 σ
theorem k_X4_swapFor (E : Ev) {x1 : Int32} {σ : Sg} {r : Int32} {σ' : Sg} (h : f_X4_swapFor x1 σ = some (r, σ')) : Con E mX4_swapFor 7 [.ref (eA E 0), .int x1] σ (some (.int r)) σ' := by
  refine con_of (by decide) (Nat.le_of_ble_eq_true rfl) (fun fr cx tg => ?_)
  show GW E fr 7 0 [(0, .ref (eA E 0)), (1, .int x1)] [] σ
  rw [f_X4_swapFor] at h
  refine gw_iload_n (pc' := 1) cx 1 rfl rfl dX4_swapFor_0 rfl ?_
  refine gw_iconst (pc' := 2) (v := 0) cx ci_0 dX4_swapFor_1 rfl ?_
  refine gw_bipush (pc' := 4) (v := 40) cx cb_40 dX4_swapFor_2 rfl ?_
  obtain ⟨r2, g1, h⟩ := ob0_some h
  refine gw_cS (pc' := 7) (av := [.int x1, .int 0, .int 40]) (rest := []) cx (k_X4_within E g1) (by decide) lk_X4_40 dX4_swapFor_4 rfl (Nat.le_of_ble_eq_true rfl) rfl ?_
  show GW E fr _ 7 _ (.int r2 :: _) _
  rcases ite_some h with ⟨c3, h⟩ | ⟨c3, h⟩
  · refine gw_if_ne_f (pc' := 10) cx c3 dX4_swapFor_7 ⟨17, by decide⟩ rfl ?_
    refine gw_aload_n (pc' := 11) cx 0 rfl rfl dX4_swapFor_10 rfl ?_
    refine gw_ldc (pc' := 13) (v := (-1000001)) cx ct_X4_44 dX4_swapFor_11 rfl ?_
    obtain ⟨r5, s6, g4, h⟩ := ob2_some h
    refine gw_cV (pc' := 16) (av := [.int (-1000001)]) (rest := []) cx (k_X4_found E g4) at0 (by decide) lk_X4_45 dX4_swapFor_13 rfl (Nat.le_of_ble_eq_true rfl) rfl ?_
    show GW E fr _ 16 _ (.int r5 :: _) _
    exact gw_iret cx tg (rt1 h) (rt2 h) dX4_swapFor_16
  · refine gw_if_ne_t (pc' := 17) cx c3 dX4_swapFor_7 (by decide) ?_
    refine gw_iconst (pc' := 18) (v := (-1)) cx ci_m1 dX4_swapFor_17 rfl ?_
    refine gw_istore_n (pc' := 19) (lv' := [(2, .int (-1)), (0, .ref (eA E 0)), (1, .int x1)]) cx rfl rfl (by decide) dX4_swapFor_18 rfl ?_
    refine gw_ldc (pc' := 21) (v := 100000) cx ct_X4_177 dX4_swapFor_19 rfl ?_
    refine gw_istore_n (pc' := 22) (lv' := [(3, .int 100000), (2, .int (-1)), (0, .ref (eA E 0)), (1, .int x1)]) cx rfl rfl (by decide) dX4_swapFor_21 rfl ?_
    refine gw_iconst (pc' := 23) (v := 0) cx ci_0 dX4_swapFor_22 rfl ?_
    refine gw_istore (pc' := 25) (lv' := [(4, .int 0), (3, .int 100000), (2, .int (-1)), (0, .ref (eA E 0)), (1, .int x1)]) cx rfl (by decide) dX4_swapFor_23 rfl ?_
    refine gw_sub [3, 4, 2, 1, 0] (lv' := [(0, .ref (eA E 0)), (1, .int x1), (2, .int (-1)), (3, .int 100000), (4, .int 0)]) rfl ?_
    exact w_X4_swapFor_L25 cx tg x1 FU (-1) 100000 0 σ h
def f_X4_sheetFinding (x1 : Int32) (σ : Sg) : Option (Int32) :=
  ob0 (f_X4_within x1 0 3 σ) fun r2 =>
  if r2 = 0 then
    some (-1000001)
  else
    chk x1 4 <|
    ob0 (f_X3_isMissing (40 + x1.toNatClampNeg) σ) fun r6 =>
    if r6 = 0 then
      some 0
    else
      some (-1000006)
theorem k_X4_sheetFinding (E : Ev) {x1 : Int32} {σ : Sg} {r : Int32} (h : f_X4_sheetFinding x1 σ = some r) : Con E mX4_sheetFinding 1 [.ref (eA E 0), .int x1] σ (some (.int r)) σ := by
  refine con_of (by decide) (Nat.le_of_ble_eq_true rfl) (fun fr cx tg => ?_)
  show GW E fr 2 0 [(0, .ref (eA E 0)), (1, .int x1)] [] σ
  rw [f_X4_sheetFinding] at h
  refine gw_iload_n (pc' := 1) cx 1 rfl rfl dX4_sheetFinding_0 rfl ?_
  refine gw_iconst (pc' := 2) (v := 0) cx ci_0 dX4_sheetFinding_1 rfl ?_
  refine gw_iconst (pc' := 3) (v := 3) cx ci_3 dX4_sheetFinding_2 rfl ?_
  obtain ⟨r2, g1, h⟩ := ob0_some h
  refine gw_cS (pc' := 6) (av := [.int x1, .int 0, .int 3]) (rest := []) cx (k_X4_within E g1) (by decide) lk_X4_40 dX4_sheetFinding_3 rfl (Nat.le_of_ble_eq_true rfl) rfl ?_
  show GW E fr _ 6 _ (.int r2 :: _) _
  rcases ite_some h with ⟨c3, h⟩ | ⟨c3, h⟩
  · refine gw_if_ne_f (pc' := 9) cx c3 dX4_sheetFinding_6 ⟨12, by decide⟩ rfl ?_
    refine gw_ldc (pc' := 11) (v := (-1000001)) cx ct_X4_44 dX4_sheetFinding_9 rfl ?_
    exact gw_iret cx tg (rt0 h) rfl dX4_sheetFinding_11
  · refine gw_if_ne_t (pc' := 12) cx c3 dX4_sheetFinding_6 (by decide) ?_
    refine gw_aload_n (pc' := 13) cx 0 rfl rfl dX4_sheetFinding_12 rfl ?_
    refine gw_getR (pc' := 16) cx at0 rfl fl_X4_31 dX4_sheetFinding_13 rfl ?_
    refine gw_iload_n (pc' := 17) cx 1 rfl rfl dX4_sheetFinding_16 rfl ?_
    obtain ⟨i4, h⟩ := chk_some h
    refine gw_aald (pc' := 18) cx at39 i4 dX4_sheetFinding_17 rfl ?_
    obtain ⟨r6, g5, h⟩ := ob0_some h
    refine gw_cV (pc' := 21) (av := []) (rest := []) cx (k_X3_isMissing E (sht_of i4) g5) (atS (sht_of i4)) (by decide) lk_X4_234 dX4_sheetFinding_18 rfl (Nat.le_of_ble_eq_true rfl) rfl ?_
    show GW E fr _ 21 _ (.int r6 :: _) _
    rcases ite_some h with ⟨c7, h⟩ | ⟨c7, h⟩
    · refine gw_if_eq_t (pc' := 29) cx c7 dX4_sheetFinding_21 (by decide) ?_
      refine gw_iconst (pc' := 30) (v := 0) cx ci_0 dX4_sheetFinding_29 rfl ?_
      exact gw_iret cx tg (rt0 h) rfl dX4_sheetFinding_30
    · refine gw_if_eq_f (pc' := 24) cx c7 dX4_sheetFinding_21 ⟨29, by decide⟩ rfl ?_
      refine gw_ldc (pc' := 26) (v := (-1000006)) cx ct_X4_222 dX4_sheetFinding_24 rfl ?_
      refine gw_goto (pc' := 30) cx dX4_sheetFinding_26 (by decide) ?_
      exact gw_iret cx tg (rt0 h) rfl dX4_sheetFinding_30
def f_X4_sheetAndPersonFinding (x1 : Int32) (x2 : Int32) (σ : Sg) : Option (Int32) :=
  ob0 (f_X4_sheetFinding x1 σ) fun r2 =>
  if 0 ≤ r2 then
    ob0 (f_X0_has 1 x2 σ) fun r5 =>
    if r5 = 0 then
      some (-1000001)
    else
      some 0
  else
    some r2
theorem k_X4_sheetAndPersonFinding (E : Ev) {x1 : Int32} {x2 : Int32} {σ : Sg} {r : Int32} (h : f_X4_sheetAndPersonFinding x1 x2 σ = some r) : Con E mX4_sheetAndPersonFinding 2 [.ref (eA E 0), .int x1, .int x2] σ (some (.int r)) σ := by
  refine con_of (by decide) (Nat.le_of_ble_eq_true rfl) (fun fr cx tg => ?_)
  show GW E fr 4 0 [(0, .ref (eA E 0)), (1, .int x1), (2, .int x2)] [] σ
  rw [f_X4_sheetAndPersonFinding] at h
  refine gw_aload_n (pc' := 1) cx 0 rfl rfl dX4_sheetAndPersonFinding_0 rfl ?_
  refine gw_iload_n (pc' := 2) cx 1 rfl rfl dX4_sheetAndPersonFinding_1 rfl ?_
  obtain ⟨r2, g1, h⟩ := ob0_some h
  refine gw_cV (pc' := 5) (av := [.int x1]) (rest := []) cx (k_X4_sheetFinding E g1) at0 (by decide) lk_X4_195 dX4_sheetAndPersonFinding_2 rfl (Nat.le_of_ble_eq_true rfl) rfl ?_
  show GW E fr _ 5 _ (.int r2 :: _) _
  refine gw_istore_n (pc' := 6) (lv' := [(3, .int r2), (0, .ref (eA E 0)), (1, .int x1), (2, .int x2)]) cx rfl rfl (by decide) dX4_sheetAndPersonFinding_5 rfl ?_
  refine gw_iload_n (pc' := 7) cx 0 rfl rfl dX4_sheetAndPersonFinding_6 rfl ?_
  rcases ite_some h with ⟨c3, h⟩ | ⟨c3, h⟩
  · refine gw_if_ge_t (pc' := 12) cx c3 dX4_sheetAndPersonFinding_7 (by decide) ?_
    refine gw_aload_n (pc' := 13) cx 1 rfl rfl dX4_sheetAndPersonFinding_12 rfl ?_
    refine gw_getR (pc' := 16) cx at0 rfl fl_X4_12 dX4_sheetAndPersonFinding_13 rfl ?_
    refine gw_iload_n (pc' := 17) cx 3 rfl rfl dX4_sheetAndPersonFinding_16 rfl ?_
    obtain ⟨r5, g4, h⟩ := ob0_some h
    refine gw_cV (pc' := 20) (av := [.int x2]) (rest := []) cx (k_X0_has E cty1 g4) (atC cty1) (by decide) lk_X4_64 dX4_sheetAndPersonFinding_17 rfl (Nat.le_of_ble_eq_true rfl) rfl ?_
    show GW E fr _ 20 _ (.int r5 :: _) _
    rcases ite_some h with ⟨c6, h⟩ | ⟨c6, h⟩
    · refine gw_if_eq_t (pc' := 27) cx c6 dX4_sheetAndPersonFinding_20 (by decide) ?_
      refine gw_ldc (pc' := 29) (v := (-1000001)) cx ct_X4_44 dX4_sheetAndPersonFinding_27 rfl ?_
      exact gw_iret cx tg (rt0 h) rfl dX4_sheetAndPersonFinding_29
    · refine gw_if_eq_f (pc' := 23) cx c6 dX4_sheetAndPersonFinding_20 ⟨27, by decide⟩ rfl ?_
      refine gw_iconst (pc' := 24) (v := 0) cx ci_0 dX4_sheetAndPersonFinding_23 rfl ?_
      refine gw_goto (pc' := 29) cx dX4_sheetAndPersonFinding_24 (by decide) ?_
      exact gw_iret cx tg (rt0 h) rfl dX4_sheetAndPersonFinding_29
  · refine gw_if_ge_f (pc' := 10) cx c3 dX4_sheetAndPersonFinding_7 ⟨12, by decide⟩ rfl ?_
    refine gw_iload_n (pc' := 11) cx 0 rfl rfl dX4_sheetAndPersonFinding_10 rfl ?_
    exact gw_iret cx tg (rt0 h) rfl dX4_sheetAndPersonFinding_11
def f_X4_isTrialAsTold_L3 (ra1 : Nat) (y2 : Int32) (y3 : Int32) : Nat → Int32 → Sg → Option (Int32 × Sg)
  | 0, _, _ => none
  | n + 1, y4, σ =>
    if (σ ra1 2) ≤ y4 then
      some (1, σ)
    else
      if y4 ≤ 0 then
        chk y4 40 <|
        if (σ (ra1 + 4) y4.toNatClampNeg) = (-1) then
          f_X4_isTrialAsTold_L3 ra1 y2 y3 n (y4 + 1) σ
        else
          chk y2 8 <|
          ob0 (f_X1_attribute (25 + 4 + y2.toNatClampNeg) y3 σ) fun r7 =>
          if (σ (ra1 + 4) y4.toNatClampNeg) = r7 then
            f_X4_isTrialAsTold_L3 ra1 y2 y3 n (y4 + 1) σ
          else
            some (0, σ)
      else
        ob1 (f_X0_passDay 25 σ) fun s10 =>
        chk y4 40 <|
        if (s10 (ra1 + 4) y4.toNatClampNeg) = (-1) then
          f_X4_isTrialAsTold_L3 ra1 y2 y3 n (y4 + 1) s10
        else
          chk y2 8 <|
          ob0 (f_X1_attribute (25 + 4 + y2.toNatClampNeg) y3 s10) fun r15 =>
          if (s10 (ra1 + 4) y4.toNatClampNeg) = r15 then
            f_X4_isTrialAsTold_L3 ra1 y2 y3 n (y4 + 1) s10
          else
            some (0, s10)
theorem w_X4_isTrialAsTold_L3 {E : Ev} {fr : Fr} {r : Int32} {σ' : Sg} (cx : Cx E mX4_isTrialAsTold 5 fr) (tg : Tg E fr (some .boolean) (some (.int r)) σ') (ra1 : Nat) (y2 : Int32) (y3 : Int32) (hra1 : Sht ra1) : ∀ (n : Nat) (y4 : Int32) (σ : Sg), f_X4_isTrialAsTold_L3 ra1 y2 y3 n y4 σ = some (r, σ') → GW E fr 6 3 [(0, .ref (eA E 0)), (1, .ref (eA E ra1)), (2, .int y2), (3, .int y3), (4, .int y4)] [] σ := by
  intro n
  induction n with
  | zero => intro y4 σ h; cases (show (none : Option (Int32 × Sg)) = _ from h)
  | succ n ih =>
    intro y4 σ h
    rw [f_X4_isTrialAsTold_L3] at h
    refine gw_iload (pc' := 5) cx 4 rfl dX4_isTrialAsTold_3 rfl ?_
    refine gw_aload_n (pc' := 6) cx 1 rfl rfl dX4_isTrialAsTold_5 rfl ?_
    refine gw_getI (pc' := 9) cx (atS hra1) rfl fl_X4_191 dX4_isTrialAsTold_6 rfl ?_
    rcases ite_some h with ⟨c1, h⟩ | ⟨c1, h⟩
    · refine gw_ic_ge_t (pc' := 65) cx c1 dX4_isTrialAsTold_9 (by decide) ?_
      refine gw_iconst (pc' := 66) (v := 1) cx ci_1 dX4_isTrialAsTold_65 rfl ?_
      exact gw_zret cx tg (Or.inr rfl) (rt1 h) (rt2 h) dX4_isTrialAsTold_66
    · refine gw_ic_ge_f (pc' := 12) cx c1 dX4_isTrialAsTold_9 ⟨65, by decide⟩ rfl ?_
      refine gw_iload (pc' := 14) cx 4 rfl dX4_isTrialAsTold_12 rfl ?_
      rcases ite_some h with ⟨c2, h⟩ | ⟨c2, h⟩
      · refine gw_if_le_t (pc' := 24) cx c2 dX4_isTrialAsTold_14 (by decide) ?_
        refine gw_aload_n (pc' := 25) cx 1 rfl rfl dX4_isTrialAsTold_24 rfl ?_
        refine gw_getR (pc' := 28) cx (atS hra1) rfl fl_X4_192 dX4_isTrialAsTold_25 rfl ?_
        refine gw_iload (pc' := 30) cx 4 rfl dX4_isTrialAsTold_28 rfl ?_
        obtain ⟨i3, h⟩ := chk_some h
        refine gw_iald (pc' := 31) cx (atSn hra1) i3 rfl dX4_isTrialAsTold_30 rfl ?_
        refine gw_istore (pc' := 33) (lv' := [(5, .int (σ (ra1 + 4) y4.toNatClampNeg)), (0, .ref (eA E 0)), (1, .ref (eA E ra1)), (2, .int y2), (3, .int y3), (4, .int y4)]) cx rfl (by decide) dX4_isTrialAsTold_31 rfl ?_
        refine gw_iload (pc' := 35) cx 0 rfl dX4_isTrialAsTold_33 rfl ?_
        refine gw_iconst (pc' := 36) (v := (-1)) cx ci_m1 dX4_isTrialAsTold_35 rfl ?_
        rcases ite_some h with ⟨c4, h⟩ | ⟨c4, h⟩
        · refine gw_ic_eq_t (pc' := 59) cx c4 dX4_isTrialAsTold_36 (by decide) ?_
          refine gw_iinc (pc' := 62) (v := (y4 + 1)) (lv' := [(4, .int (y4 + 1)), (5, .int (σ (ra1 + 4) y4.toNatClampNeg)), (0, .ref (eA E 0)), (1, .ref (eA E ra1)), (2, .int y2), (3, .int y3)]) cx 5 rfl rfl rfl (by decide) dX4_isTrialAsTold_59 rfl ?_
          refine gw_goto (pc' := 3) cx dX4_isTrialAsTold_62 (by decide) ?_
          refine gw_sub [2, 3, 4, 5, 0] (lv' := [(0, .ref (eA E 0)), (1, .ref (eA E ra1)), (2, .int y2), (3, .int y3), (4, .int (y4 + 1))]) rfl ?_
          exact ih (y4 + 1) σ h
        · refine gw_ic_eq_f (pc' := 39) cx c4 dX4_isTrialAsTold_36 ⟨59, by decide⟩ rfl ?_
          refine gw_iload (pc' := 41) cx 0 rfl dX4_isTrialAsTold_39 rfl ?_
          refine gw_aload_n (pc' := 42) cx 1 rfl rfl dX4_isTrialAsTold_41 rfl ?_
          refine gw_getR (pc' := 45) cx at0 rfl fl_X4_19 dX4_isTrialAsTold_42 rfl ?_
          refine gw_getR (pc' := 48) cx (atC cty25) rfl fl_X4_68 dX4_isTrialAsTold_45 rfl ?_
          refine gw_iload_n (pc' := 49) cx 3 rfl rfl dX4_isTrialAsTold_48 rfl ?_
          obtain ⟨i5, h⟩ := chk_some h
          refine gw_aald (pc' := 50) cx (atCp cty25) i5 dX4_isTrialAsTold_49 rfl ?_
          refine gw_iload_n (pc' := 51) cx 4 rfl rfl dX4_isTrialAsTold_50 rfl ?_
          obtain ⟨r7, g6, h⟩ := ob0_some h
          refine gw_cV (pc' := 54) (av := [.int y3]) (rest := [.int (σ (ra1 + 4) y4.toNatClampNeg)]) cx (k_X1_attribute E (psn_of cty25 i5) g6) (atP (psn_of cty25 i5)) (by decide) lk_X4_87 dX4_isTrialAsTold_51 rfl (Nat.le_of_ble_eq_true rfl) rfl ?_
          show GW E fr _ 54 _ (.int r7 :: _) _
          rcases ite_some h with ⟨c8, h⟩ | ⟨c8, h⟩
          · refine gw_ic_eq_t (pc' := 59) cx c8 dX4_isTrialAsTold_54 (by decide) ?_
            refine gw_iinc (pc' := 62) (v := (y4 + 1)) (lv' := [(4, .int (y4 + 1)), (5, .int (σ (ra1 + 4) y4.toNatClampNeg)), (0, .ref (eA E 0)), (1, .ref (eA E ra1)), (2, .int y2), (3, .int y3)]) cx 5 rfl rfl rfl (by decide) dX4_isTrialAsTold_59 rfl ?_
            refine gw_goto (pc' := 3) cx dX4_isTrialAsTold_62 (by decide) ?_
            refine gw_sub [2, 3, 4, 5, 0] (lv' := [(0, .ref (eA E 0)), (1, .ref (eA E ra1)), (2, .int y2), (3, .int y3), (4, .int (y4 + 1))]) rfl ?_
            exact ih (y4 + 1) σ h
          · refine gw_ic_eq_f (pc' := 57) cx c8 dX4_isTrialAsTold_54 ⟨59, by decide⟩ rfl ?_
            refine gw_iconst (pc' := 58) (v := 0) cx ci_0 dX4_isTrialAsTold_57 rfl ?_
            exact gw_zret cx tg (Or.inl rfl) (rt1 h) (rt2 h) dX4_isTrialAsTold_58
      · refine gw_if_le_f (pc' := 17) cx c2 dX4_isTrialAsTold_14 ⟨24, by decide⟩ rfl ?_
        refine gw_aload_n (pc' := 18) cx 0 rfl rfl dX4_isTrialAsTold_17 rfl ?_
        refine gw_getR (pc' := 21) cx at0 rfl fl_X4_19 dX4_isTrialAsTold_18 rfl ?_
        obtain ⟨s10, g9, h⟩ := ob1_some h
        refine gw_cV (pc' := 24) (av := []) (rest := []) cx (k_X0_passDay E cty25 g9) (atC cty25) (by decide) lk_X4_131 dX4_isTrialAsTold_21 rfl (Nat.le_of_ble_eq_true rfl) rfl ?_
        show GW E fr _ 24 _ [] _
        refine gw_aload_n (pc' := 25) cx 1 rfl rfl dX4_isTrialAsTold_24 rfl ?_
        refine gw_getR (pc' := 28) cx (atS hra1) rfl fl_X4_192 dX4_isTrialAsTold_25 rfl ?_
        refine gw_iload (pc' := 30) cx 4 rfl dX4_isTrialAsTold_28 rfl ?_
        obtain ⟨i11, h⟩ := chk_some h
        refine gw_iald (pc' := 31) cx (atSn hra1) i11 rfl dX4_isTrialAsTold_30 rfl ?_
        refine gw_istore (pc' := 33) (lv' := [(5, .int (s10 (ra1 + 4) y4.toNatClampNeg)), (0, .ref (eA E 0)), (1, .ref (eA E ra1)), (2, .int y2), (3, .int y3), (4, .int y4)]) cx rfl (by decide) dX4_isTrialAsTold_31 rfl ?_
        refine gw_iload (pc' := 35) cx 0 rfl dX4_isTrialAsTold_33 rfl ?_
        refine gw_iconst (pc' := 36) (v := (-1)) cx ci_m1 dX4_isTrialAsTold_35 rfl ?_
        rcases ite_some h with ⟨c12, h⟩ | ⟨c12, h⟩
        · refine gw_ic_eq_t (pc' := 59) cx c12 dX4_isTrialAsTold_36 (by decide) ?_
          refine gw_iinc (pc' := 62) (v := (y4 + 1)) (lv' := [(4, .int (y4 + 1)), (5, .int (s10 (ra1 + 4) y4.toNatClampNeg)), (0, .ref (eA E 0)), (1, .ref (eA E ra1)), (2, .int y2), (3, .int y3)]) cx 5 rfl rfl rfl (by decide) dX4_isTrialAsTold_59 rfl ?_
          refine gw_goto (pc' := 3) cx dX4_isTrialAsTold_62 (by decide) ?_
          refine gw_sub [2, 3, 4, 5, 0] (lv' := [(0, .ref (eA E 0)), (1, .ref (eA E ra1)), (2, .int y2), (3, .int y3), (4, .int (y4 + 1))]) rfl ?_
          exact ih (y4 + 1) s10 h
        · refine gw_ic_eq_f (pc' := 39) cx c12 dX4_isTrialAsTold_36 ⟨59, by decide⟩ rfl ?_
          refine gw_iload (pc' := 41) cx 0 rfl dX4_isTrialAsTold_39 rfl ?_
          refine gw_aload_n (pc' := 42) cx 1 rfl rfl dX4_isTrialAsTold_41 rfl ?_
          refine gw_getR (pc' := 45) cx at0 rfl fl_X4_19 dX4_isTrialAsTold_42 rfl ?_
          refine gw_getR (pc' := 48) cx (atC cty25) rfl fl_X4_68 dX4_isTrialAsTold_45 rfl ?_
          refine gw_iload_n (pc' := 49) cx 3 rfl rfl dX4_isTrialAsTold_48 rfl ?_
          obtain ⟨i13, h⟩ := chk_some h
          refine gw_aald (pc' := 50) cx (atCp cty25) i13 dX4_isTrialAsTold_49 rfl ?_
          refine gw_iload_n (pc' := 51) cx 4 rfl rfl dX4_isTrialAsTold_50 rfl ?_
          obtain ⟨r15, g14, h⟩ := ob0_some h
          refine gw_cV (pc' := 54) (av := [.int y3]) (rest := [.int (s10 (ra1 + 4) y4.toNatClampNeg)]) cx (k_X1_attribute E (psn_of cty25 i13) g14) (atP (psn_of cty25 i13)) (by decide) lk_X4_87 dX4_isTrialAsTold_51 rfl (Nat.le_of_ble_eq_true rfl) rfl ?_
          show GW E fr _ 54 _ (.int r15 :: _) _
          rcases ite_some h with ⟨c16, h⟩ | ⟨c16, h⟩
          · refine gw_ic_eq_t (pc' := 59) cx c16 dX4_isTrialAsTold_54 (by decide) ?_
            refine gw_iinc (pc' := 62) (v := (y4 + 1)) (lv' := [(4, .int (y4 + 1)), (5, .int (s10 (ra1 + 4) y4.toNatClampNeg)), (0, .ref (eA E 0)), (1, .ref (eA E ra1)), (2, .int y2), (3, .int y3)]) cx 5 rfl rfl rfl (by decide) dX4_isTrialAsTold_59 rfl ?_
            refine gw_goto (pc' := 3) cx dX4_isTrialAsTold_62 (by decide) ?_
            refine gw_sub [2, 3, 4, 5, 0] (lv' := [(0, .ref (eA E 0)), (1, .ref (eA E ra1)), (2, .int y2), (3, .int y3), (4, .int (y4 + 1))]) rfl ?_
            exact ih (y4 + 1) s10 h
          · refine gw_ic_eq_f (pc' := 57) cx c16 dX4_isTrialAsTold_54 ⟨59, by decide⟩ rfl ?_
            refine gw_iconst (pc' := 58) (v := 0) cx ci_0 dX4_isTrialAsTold_57 rfl ?_
            exact gw_zret cx tg (Or.inl rfl) (rt1 h) (rt2 h) dX4_isTrialAsTold_58
def f_X4_isTrialAsTold (x1 : Nat) (x2 : Int32) (x3 : Int32) (σ : Sg) : Option (Int32 × Sg) :=
  f_X4_isTrialAsTold_L3 x1 x2 x3 FU 0 σ
theorem k_X4_isTrialAsTold (E : Ev) {x1 : Nat} {x2 : Int32} {x3 : Int32} (hx1 : Sht x1) {σ : Sg} {r : Int32} {σ' : Sg} (h : f_X4_isTrialAsTold x1 x2 x3 σ = some (r, σ')) : Con E mX4_isTrialAsTold 5 [.ref (eA E 0), .ref (eA E x1), .int x2, .int x3] σ (some (.int r)) σ' := by
  refine con_of (by decide) (Nat.le_of_ble_eq_true rfl) (fun fr cx tg => ?_)
  show GW E fr 6 0 [(0, .ref (eA E 0)), (1, .ref (eA E x1)), (2, .int x2), (3, .int x3)] [] σ
  rw [f_X4_isTrialAsTold] at h
  refine gw_iconst (pc' := 1) (v := 0) cx ci_0 dX4_isTrialAsTold_0 rfl ?_
  refine gw_istore (pc' := 3) (lv' := [(4, .int 0), (0, .ref (eA E 0)), (1, .ref (eA E x1)), (2, .int x2), (3, .int x3)]) cx rfl (by decide) dX4_isTrialAsTold_1 rfl ?_
  refine gw_sub [1, 2, 3, 4, 0] (lv' := [(0, .ref (eA E 0)), (1, .ref (eA E x1)), (2, .int x2), (3, .int x3), (4, .int 0)]) rfl ?_
  exact w_X4_isTrialAsTold_L3 cx tg x1 x2 x3 hx1 FU 0 σ h
def f_X4_isWeightAsTold (x1 : Nat) (x2 : Int32) (x3 : Int32) (σ : Sg) : Option (Int32 × Sg) :=
  ob1 (f_X0_become 25 1 σ) fun s2 =>
  ob0 (f_X0_nextWhom 1 s2) fun r4 =>
  ob1 (f_X0_setNext 25 r4 x3 s2) fun s6 =>
  ob2 (f_X4_isTrialAsTold x1 x2 3 s6) fun r8 s9 =>
  chkb r8 <|
  some (r8, s9)
theorem k_X4_isWeightAsTold (E : Ev) {x1 : Nat} {x2 : Int32} {x3 : Int32} (hx1 : Sht x1) {σ : Sg} {r : Int32} {σ' : Sg} (h : f_X4_isWeightAsTold x1 x2 x3 σ = some (r, σ')) : Con E mX4_isWeightAsTold 6 [.ref (eA E 0), .ref (eA E x1), .int x2, .int x3] σ (some (.int r)) σ' := by
  refine con_of (by decide) (Nat.le_of_ble_eq_true rfl) (fun fr cx tg => ?_)
  show GW E fr 4 0 [(0, .ref (eA E 0)), (1, .ref (eA E x1)), (2, .int x2), (3, .int x3)] [] σ
  rw [f_X4_isWeightAsTold] at h
  refine gw_aload_n (pc' := 1) cx 0 rfl rfl dX4_isWeightAsTold_0 rfl ?_
  refine gw_getR (pc' := 4) cx at0 rfl fl_X4_19 dX4_isWeightAsTold_1 rfl ?_
  refine gw_aload_n (pc' := 5) cx 0 rfl rfl dX4_isWeightAsTold_4 rfl ?_
  refine gw_getR (pc' := 8) cx at0 rfl fl_X4_12 dX4_isWeightAsTold_5 rfl ?_
  obtain ⟨s2, g1, h⟩ := ob1_some h
  refine gw_cV (pc' := 11) (av := [.ref (eA E 1)]) (rest := []) cx (k_X0_become E cty25 cty1 g1) (atC cty25) (by decide) lk_X4_127 dX4_isWeightAsTold_8 rfl (Nat.le_of_ble_eq_true rfl) rfl ?_
  show GW E fr _ 11 _ [] _
  refine gw_aload_n (pc' := 12) cx 0 rfl rfl dX4_isWeightAsTold_11 rfl ?_
  refine gw_getR (pc' := 15) cx at0 rfl fl_X4_19 dX4_isWeightAsTold_12 rfl ?_
  refine gw_aload_n (pc' := 16) cx 0 rfl rfl dX4_isWeightAsTold_15 rfl ?_
  refine gw_getR (pc' := 19) cx at0 rfl fl_X4_12 dX4_isWeightAsTold_16 rfl ?_
  obtain ⟨r4, g3, h⟩ := ob0_some h
  refine gw_cV (pc' := 22) (av := []) (rest := [.ref (eA E 25)]) cx (k_X0_nextWhom E cty1 g3) (atC cty1) (by decide) lk_X4_148 dX4_isWeightAsTold_19 rfl (Nat.le_of_ble_eq_true rfl) rfl ?_
  show GW E fr _ 22 _ (.int r4 :: _) _
  refine gw_iload_n (pc' := 23) cx 3 rfl rfl dX4_isWeightAsTold_22 rfl ?_
  obtain ⟨s6, g5, h⟩ := ob1_some h
  refine gw_cV (pc' := 26) (av := [.int r4, .int x3]) (rest := []) cx (k_X0_setNext E cty25 g5) (atC cty25) (by decide) lk_X4_145 dX4_isWeightAsTold_23 rfl (Nat.le_of_ble_eq_true rfl) rfl ?_
  show GW E fr _ 26 _ [] _
  refine gw_aload_n (pc' := 27) cx 0 rfl rfl dX4_isWeightAsTold_26 rfl ?_
  refine gw_aload_n (pc' := 28) cx 1 rfl rfl dX4_isWeightAsTold_27 rfl ?_
  refine gw_iload_n (pc' := 29) cx 2 rfl rfl dX4_isWeightAsTold_28 rfl ?_
  refine gw_iconst (pc' := 30) (v := 3) cx ci_3 dX4_isWeightAsTold_29 rfl ?_
  obtain ⟨r8, s9, g7, h⟩ := ob2_some h
  refine gw_cV (pc' := 33) (av := [.ref (eA E x1), .int x2, .int 3]) (rest := []) cx (k_X4_isTrialAsTold E hx1 g7) at0 (by decide) lk_X4_188 dX4_isWeightAsTold_30 rfl (Nat.le_of_ble_eq_true rfl) rfl ?_
  show GW E fr _ 33 _ (.int r8 :: _) _
  obtain ⟨z10, h⟩ := chkb_some h
  exact gw_zret cx tg z10 (rt1 h) (rt2 h) dX4_isWeightAsTold_33
def f_X4_fits_L23 (y1 : Int32) (y2 : Int32) : Nat → Int32 → Int32 → Sg → Option (Int32 × Sg)
  | 0, _, _, _ => none
  | n + 1, y4, y5, σ =>
    if 20 < y5 then
      some (y4, σ)
    else
      chk y1 4 <|
      ob2 (f_X4_isWeightAsTold (40 + y1.toNatClampNeg) y2 y5 σ) fun r10 s11 =>
      if r10 = 0 then
        f_X4_fits_L23 y1 y2 n y4 (y5 + 1) s11
      else
        f_X4_fits_L23 y1 y2 n (y4 + 1) (y5 + 1) s11
theorem w_X4_fits_L23 {E : Ev} {fr : Fr} {r : Int32} {σ' : Sg} (cx : Cx E mX4_fits 7 fr) (tg : Tg E fr (some .int) (some (.int r)) σ') (y1 : Int32) (y2 : Int32)  : ∀ (n : Nat) (y4 : Int32) (y5 : Int32) (σ : Sg), f_X4_fits_L23 y1 y2 n y4 y5 σ = some (r, σ') → GW E fr 6 23 [(0, .ref (eA E 0)), (1, .int y1), (2, .int y2), (4, .int y4), (5, .int y5)] [] σ := by
  intro n
  induction n with
  | zero => intro y4 y5 σ h; cases (show (none : Option (Int32 × Sg)) = _ from h)
  | succ n ih =>
    intro y4 y5 σ h
    rw [f_X4_fits_L23] at h
    refine gw_iload (pc' := 25) cx 4 rfl dX4_fits_23 rfl ?_
    refine gw_bipush (pc' := 27) (v := 20) cx cb_20 dX4_fits_25 rfl ?_
    rcases ite_some h with ⟨c7, h⟩ | ⟨c7, h⟩
    · refine gw_ic_gt_t (pc' := 55) cx c7 dX4_fits_27 (by decide) ?_
      refine gw_iload (pc' := 57) cx 3 rfl dX4_fits_55 rfl ?_
      exact gw_iret cx tg (rt1 h) (rt2 h) dX4_fits_57
    · refine gw_ic_gt_f (pc' := 30) cx c7 dX4_fits_27 ⟨55, by decide⟩ rfl ?_
      refine gw_aload_n (pc' := 31) cx 0 rfl rfl dX4_fits_30 rfl ?_
      refine gw_aload_n (pc' := 32) cx 0 rfl rfl dX4_fits_31 rfl ?_
      refine gw_getR (pc' := 35) cx at0 rfl fl_X4_31 dX4_fits_32 rfl ?_
      refine gw_iload_n (pc' := 36) cx 1 rfl rfl dX4_fits_35 rfl ?_
      obtain ⟨i8, h⟩ := chk_some h
      refine gw_aald (pc' := 37) cx at39 i8 dX4_fits_36 rfl ?_
      refine gw_iload_n (pc' := 38) cx 2 rfl rfl dX4_fits_37 rfl ?_
      refine gw_iload (pc' := 40) cx 4 rfl dX4_fits_38 rfl ?_
      obtain ⟨r10, s11, g9, h⟩ := ob2_some h
      refine gw_cV (pc' := 43) (av := [.ref (eA E (40 + y1.toNatClampNeg)), .int y2, .int y5]) (rest := []) cx (k_X4_isWeightAsTold E (sht_of i8) g9) at0 (by decide) lk_X4_184 dX4_fits_40 rfl (Nat.le_of_ble_eq_true rfl) rfl ?_
      show GW E fr _ 43 _ (.int r10 :: _) _
      rcases ite_some h with ⟨c12, h⟩ | ⟨c12, h⟩
      · refine gw_if_eq_t (pc' := 49) cx c12 dX4_fits_43 (by decide) ?_
        refine gw_iinc (pc' := 52) (v := (y5 + 1)) (lv' := [(5, .int (y5 + 1)), (0, .ref (eA E 0)), (1, .int y1), (2, .int y2), (4, .int y4)]) cx 4 rfl rfl rfl (by decide) dX4_fits_49 rfl ?_
        refine gw_goto (pc' := 23) cx dX4_fits_52 (by decide) ?_
        refine gw_sub [1, 2, 3, 4, 0] (lv' := [(0, .ref (eA E 0)), (1, .int y1), (2, .int y2), (4, .int y4), (5, .int (y5 + 1))]) rfl ?_
        exact ih y4 (y5 + 1) s11 h
      · refine gw_if_eq_f (pc' := 46) cx c12 dX4_fits_43 ⟨49, by decide⟩ rfl ?_
        refine gw_iinc (pc' := 49) (v := (y4 + 1)) (lv' := [(4, .int (y4 + 1)), (0, .ref (eA E 0)), (1, .int y1), (2, .int y2), (5, .int y5)]) cx 3 rfl rfl rfl (by decide) dX4_fits_46 rfl ?_
        refine gw_iinc (pc' := 52) (v := (y5 + 1)) (lv' := [(5, .int (y5 + 1)), (4, .int (y4 + 1)), (0, .ref (eA E 0)), (1, .int y1), (2, .int y2)]) cx 4 rfl rfl rfl (by decide) dX4_fits_49 rfl ?_
        refine gw_goto (pc' := 23) cx dX4_fits_52 (by decide) ?_
        refine gw_sub [2, 3, 4, 1, 0] (lv' := [(0, .ref (eA E 0)), (1, .int y1), (2, .int y2), (4, .int (y4 + 1)), (5, .int (y5 + 1))]) rfl ?_
        exact ih (y4 + 1) (y5 + 1) s11 h
def f_X4_fits (x1 : Int32) (x2 : Int32) (σ : Sg) : Option (Int32 × Sg) :=
  ob0 (f_X4_sheetAndPersonFinding x1 x2 σ) fun r2 =>
  if 0 ≤ r2 then
    f_X4_fits_L23 x1 x2 FU 0 0 σ
  else
    ob2 (f_X4_found r2 σ) fun r5 s6 =>
    some (r5, s6)
theorem k_X4_fits (E : Ev) {x1 : Int32} {x2 : Int32} {σ : Sg} {r : Int32} {σ' : Sg} (h : f_X4_fits x1 x2 σ = some (r, σ')) : Con E mX4_fits 7 [.ref (eA E 0), .int x1, .int x2] σ (some (.int r)) σ' := by
  refine con_of (by decide) (Nat.le_of_ble_eq_true rfl) (fun fr cx tg => ?_)
  show GW E fr 6 0 [(0, .ref (eA E 0)), (1, .int x1), (2, .int x2)] [] σ
  rw [f_X4_fits] at h
  refine gw_aload_n (pc' := 1) cx 0 rfl rfl dX4_fits_0 rfl ?_
  refine gw_iload_n (pc' := 2) cx 1 rfl rfl dX4_fits_1 rfl ?_
  refine gw_iload_n (pc' := 3) cx 2 rfl rfl dX4_fits_2 rfl ?_
  obtain ⟨r2, g1, h⟩ := ob0_some h
  refine gw_cV (pc' := 6) (av := [.int x1, .int x2]) (rest := []) cx (k_X4_sheetAndPersonFinding E g1) at0 (by decide) lk_X4_181 dX4_fits_3 rfl (Nat.le_of_ble_eq_true rfl) rfl ?_
  show GW E fr _ 6 _ (.int r2 :: _) _
  refine gw_istore_n (pc' := 7) (lv' := [(3, .int r2), (0, .ref (eA E 0)), (1, .int x1), (2, .int x2)]) cx rfl rfl (by decide) dX4_fits_6 rfl ?_
  refine gw_iload_n (pc' := 8) cx 0 rfl rfl dX4_fits_7 rfl ?_
  rcases ite_some h with ⟨c3, h⟩ | ⟨c3, h⟩
  · refine gw_if_ge_t (pc' := 17) cx c3 dX4_fits_8 (by decide) ?_
    refine gw_iconst (pc' := 18) (v := 0) cx ci_0 dX4_fits_17 rfl ?_
    refine gw_istore (pc' := 20) (lv' := [(4, .int 0), (3, .int r2), (0, .ref (eA E 0)), (1, .int x1), (2, .int x2)]) cx rfl (by decide) dX4_fits_18 rfl ?_
    refine gw_iconst (pc' := 21) (v := 0) cx ci_0 dX4_fits_20 rfl ?_
    refine gw_istore (pc' := 23) (lv' := [(5, .int 0), (4, .int 0), (3, .int r2), (0, .ref (eA E 0)), (1, .int x1), (2, .int x2)]) cx rfl (by decide) dX4_fits_21 rfl ?_
    refine gw_sub [3, 4, 5, 1, 0] (lv' := [(0, .ref (eA E 0)), (1, .int x1), (2, .int x2), (4, .int 0), (5, .int 0)]) rfl ?_
    exact w_X4_fits_L23 cx tg x1 x2 FU 0 0 σ h
  · refine gw_if_ge_f (pc' := 11) cx c3 dX4_fits_8 ⟨17, by decide⟩ rfl ?_
    refine gw_aload_n (pc' := 12) cx 1 rfl rfl dX4_fits_11 rfl ?_
    refine gw_iload_n (pc' := 13) cx 0 rfl rfl dX4_fits_12 rfl ?_
    obtain ⟨r5, s6, g4, h⟩ := ob2_some h
    refine gw_cV (pc' := 16) (av := [.int r2]) (rest := []) cx (k_X4_found E g4) at0 (by decide) lk_X4_45 dX4_fits_13 rfl (Nat.le_of_ble_eq_true rfl) rfl ?_
    show GW E fr _ 16 _ (.int r5 :: _) _
    exact gw_iret cx tg (rt1 h) (rt2 h) dX4_fits_16
def f_X4_weighed_L20 (y1 : Int32) (y2 : Int32) : Nat → Int32 → Sg → Option (Int32 × Sg)
  | 0, _, _ => none
  | n + 1, y4, σ =>
    if 20 < y4 then
      ob2 (f_X4_found (-1000004) σ) fun r9 s10 =>
      some (r9, s10)
    else
      chk y1 4 <|
      ob2 (f_X4_isWeightAsTold (40 + y1.toNatClampNeg) y2 y4 σ) fun r13 s14 =>
      if r13 = 0 then
        f_X4_weighed_L20 y1 y2 n (y4 + 1) s14
      else
        some (y4, s14)
theorem w_X4_weighed_L20 {E : Ev} {fr : Fr} {r : Int32} {σ' : Sg} (cx : Cx E mX4_weighed 7 fr) (tg : Tg E fr (some .int) (some (.int r)) σ') (y1 : Int32) (y2 : Int32)  : ∀ (n : Nat) (y4 : Int32) (σ : Sg), f_X4_weighed_L20 y1 y2 n y4 σ = some (r, σ') → GW E fr 5 20 [(0, .ref (eA E 0)), (1, .int y1), (2, .int y2), (4, .int y4)] [] σ := by
  intro n
  induction n with
  | zero => intro y4 σ h; cases (show (none : Option (Int32 × Sg)) = _ from h)
  | succ n ih =>
    intro y4 σ h
    rw [f_X4_weighed_L20] at h
    refine gw_iload (pc' := 22) cx 3 rfl dX4_weighed_20 rfl ?_
    refine gw_bipush (pc' := 24) (v := 20) cx cb_20 dX4_weighed_22 rfl ?_
    rcases ite_some h with ⟨c7, h⟩ | ⟨c7, h⟩
    · refine gw_ic_gt_t (pc' := 52) cx c7 dX4_weighed_24 (by decide) ?_
      refine gw_aload_n (pc' := 53) cx 0 rfl rfl dX4_weighed_52 rfl ?_
      refine gw_ldc (pc' := 55) (v := (-1000004)) cx ct_X4_107 dX4_weighed_53 rfl ?_
      obtain ⟨r9, s10, g8, h⟩ := ob2_some h
      refine gw_cV (pc' := 58) (av := [.int (-1000004)]) (rest := []) cx (k_X4_found E g8) at0 (by decide) lk_X4_45 dX4_weighed_55 rfl (Nat.le_of_ble_eq_true rfl) rfl ?_
      show GW E fr _ 58 _ (.int r9 :: _) _
      exact gw_iret cx tg (rt1 h) (rt2 h) dX4_weighed_58
    · refine gw_ic_gt_f (pc' := 27) cx c7 dX4_weighed_24 ⟨52, by decide⟩ rfl ?_
      refine gw_aload_n (pc' := 28) cx 0 rfl rfl dX4_weighed_27 rfl ?_
      refine gw_aload_n (pc' := 29) cx 0 rfl rfl dX4_weighed_28 rfl ?_
      refine gw_getR (pc' := 32) cx at0 rfl fl_X4_31 dX4_weighed_29 rfl ?_
      refine gw_iload_n (pc' := 33) cx 1 rfl rfl dX4_weighed_32 rfl ?_
      obtain ⟨i11, h⟩ := chk_some h
      refine gw_aald (pc' := 34) cx at39 i11 dX4_weighed_33 rfl ?_
      refine gw_iload_n (pc' := 35) cx 2 rfl rfl dX4_weighed_34 rfl ?_
      refine gw_iload (pc' := 37) cx 3 rfl dX4_weighed_35 rfl ?_
      obtain ⟨r13, s14, g12, h⟩ := ob2_some h
      refine gw_cV (pc' := 40) (av := [.ref (eA E (40 + y1.toNatClampNeg)), .int y2, .int y4]) (rest := []) cx (k_X4_isWeightAsTold E (sht_of i11) g12) at0 (by decide) lk_X4_184 dX4_weighed_37 rfl (Nat.le_of_ble_eq_true rfl) rfl ?_
      show GW E fr _ 40 _ (.int r13 :: _) _
      rcases ite_some h with ⟨c15, h⟩ | ⟨c15, h⟩
      · refine gw_if_eq_t (pc' := 46) cx c15 dX4_weighed_40 (by decide) ?_
        refine gw_iinc (pc' := 49) (v := (y4 + 1)) (lv' := [(4, .int (y4 + 1)), (0, .ref (eA E 0)), (1, .int y1), (2, .int y2)]) cx 3 rfl rfl rfl (by decide) dX4_weighed_46 rfl ?_
        refine gw_goto (pc' := 20) cx dX4_weighed_49 (by decide) ?_
        refine gw_sub [1, 2, 3, 0] (lv' := [(0, .ref (eA E 0)), (1, .int y1), (2, .int y2), (4, .int (y4 + 1))]) rfl ?_
        exact ih (y4 + 1) s14 h
      · refine gw_if_eq_f (pc' := 43) cx c15 dX4_weighed_40 ⟨46, by decide⟩ rfl ?_
        refine gw_iload (pc' := 45) cx 3 rfl dX4_weighed_43 rfl ?_
        exact gw_iret cx tg (rt1 h) (rt2 h) dX4_weighed_45
def f_X4_weighed (x1 : Int32) (x2 : Int32) (σ : Sg) : Option (Int32 × Sg) :=
  ob0 (f_X4_sheetAndPersonFinding x1 x2 σ) fun r2 =>
  if 0 ≤ r2 then
    f_X4_weighed_L20 x1 x2 FU 0 σ
  else
    ob2 (f_X4_found r2 σ) fun r5 s6 =>
    some (r5, s6)
theorem k_X4_weighed (E : Ev) {x1 : Int32} {x2 : Int32} {σ : Sg} {r : Int32} {σ' : Sg} (h : f_X4_weighed x1 x2 σ = some (r, σ')) : Con E mX4_weighed 7 [.ref (eA E 0), .int x1, .int x2] σ (some (.int r)) σ' := by
  refine con_of (by decide) (Nat.le_of_ble_eq_true rfl) (fun fr cx tg => ?_)
  show GW E fr 5 0 [(0, .ref (eA E 0)), (1, .int x1), (2, .int x2)] [] σ
  rw [f_X4_weighed] at h
  refine gw_aload_n (pc' := 1) cx 0 rfl rfl dX4_weighed_0 rfl ?_
  refine gw_iload_n (pc' := 2) cx 1 rfl rfl dX4_weighed_1 rfl ?_
  refine gw_iload_n (pc' := 3) cx 2 rfl rfl dX4_weighed_2 rfl ?_
  obtain ⟨r2, g1, h⟩ := ob0_some h
  refine gw_cV (pc' := 6) (av := [.int x1, .int x2]) (rest := []) cx (k_X4_sheetAndPersonFinding E g1) at0 (by decide) lk_X4_181 dX4_weighed_3 rfl (Nat.le_of_ble_eq_true rfl) rfl ?_
  show GW E fr _ 6 _ (.int r2 :: _) _
  refine gw_istore_n (pc' := 7) (lv' := [(3, .int r2), (0, .ref (eA E 0)), (1, .int x1), (2, .int x2)]) cx rfl rfl (by decide) dX4_weighed_6 rfl ?_
  refine gw_iload_n (pc' := 8) cx 0 rfl rfl dX4_weighed_7 rfl ?_
  rcases ite_some h with ⟨c3, h⟩ | ⟨c3, h⟩
  · refine gw_if_ge_t (pc' := 17) cx c3 dX4_weighed_8 (by decide) ?_
    refine gw_iconst (pc' := 18) (v := 0) cx ci_0 dX4_weighed_17 rfl ?_
    refine gw_istore (pc' := 20) (lv' := [(4, .int 0), (3, .int r2), (0, .ref (eA E 0)), (1, .int x1), (2, .int x2)]) cx rfl (by decide) dX4_weighed_18 rfl ?_
    refine gw_sub [2, 3, 4, 0] (lv' := [(0, .ref (eA E 0)), (1, .int x1), (2, .int x2), (4, .int 0)]) rfl ?_
    exact w_X4_weighed_L20 cx tg x1 x2 FU 0 σ h
  · refine gw_if_ge_f (pc' := 11) cx c3 dX4_weighed_8 ⟨17, by decide⟩ rfl ?_
    refine gw_aload_n (pc' := 12) cx 1 rfl rfl dX4_weighed_11 rfl ?_
    refine gw_iload_n (pc' := 13) cx 0 rfl rfl dX4_weighed_12 rfl ?_
    obtain ⟨r5, s6, g4, h⟩ := ob2_some h
    refine gw_cV (pc' := 16) (av := [.int r2]) (rest := []) cx (k_X4_found E g4) at0 (by decide) lk_X4_45 dX4_weighed_13 rfl (Nat.le_of_ble_eq_true rfl) rfl ?_
    show GW E fr _ 16 _ (.int r5 :: _) _
    exact gw_iret cx tg (rt1 h) (rt2 h) dX4_weighed_16
def f_X4_kinds_L23 (y1 : Int32) (y2 : Int32) : Nat → Int32 → Int32 → Sg → Option (Int32 × Sg)
  | 0, _, _, _ => none
  | n + 1, y4, y5, σ =>
    if 7 ≤ y5 then
      some (y4, σ)
    else
      ob1 (f_X0_become 25 1 σ) fun s9 =>
      chk y2 8 <|
      lt (up2 s9 (25 + 4 + y2.toNatClampNeg) 0 y5) fun s11 =>
      chk y1 4 <|
      ob2 (f_X4_isTrialAsTold (40 + y1.toNatClampNeg) y2 1 s11) fun r15 s16 =>
      if r15 = 0 then
        f_X4_kinds_L23 y1 y2 n y4 (y5 + 1) s16
      else
        f_X4_kinds_L23 y1 y2 n (y4 ||| (jshl 1 y5)) (y5 + 1) s16
theorem w_X4_kinds_L23 {E : Ev} {fr : Fr} {r : Int32} {σ' : Sg} (cx : Cx E mX4_kinds 6 fr) (tg : Tg E fr (some .int) (some (.int r)) σ') (y1 : Int32) (y2 : Int32)  : ∀ (n : Nat) (y4 : Int32) (y5 : Int32) (σ : Sg), f_X4_kinds_L23 y1 y2 n y4 y5 σ = some (r, σ') → GW E fr 6 23 [(0, .ref (eA E 0)), (1, .int y1), (2, .int y2), (4, .int y4), (5, .int y5)] [] σ := by
  intro n
  induction n with
  | zero => intro y4 y5 σ h; cases (show (none : Option (Int32 × Sg)) = _ from h)
  | succ n ih =>
    intro y4 y5 σ h
    rw [f_X4_kinds_L23] at h
    refine gw_iload (pc' := 25) cx 4 rfl dX4_kinds_23 rfl ?_
    refine gw_bipush (pc' := 27) (v := 7) cx cb_7 dX4_kinds_25 rfl ?_
    rcases ite_some h with ⟨c7, h⟩ | ⟨c7, h⟩
    · refine gw_ic_ge_t (pc' := 85) cx c7 dX4_kinds_27 (by decide) ?_
      refine gw_iload (pc' := 87) cx 3 rfl dX4_kinds_85 rfl ?_
      exact gw_iret cx tg (rt1 h) (rt2 h) dX4_kinds_87
    · refine gw_ic_ge_f (pc' := 30) cx c7 dX4_kinds_27 ⟨85, by decide⟩ rfl ?_
      refine gw_aload_n (pc' := 31) cx 0 rfl rfl dX4_kinds_30 rfl ?_
      refine gw_getR (pc' := 34) cx at0 rfl fl_X4_19 dX4_kinds_31 rfl ?_
      refine gw_aload_n (pc' := 35) cx 0 rfl rfl dX4_kinds_34 rfl ?_
      refine gw_getR (pc' := 38) cx at0 rfl fl_X4_12 dX4_kinds_35 rfl ?_
      obtain ⟨s9, g8, h⟩ := ob1_some h
      refine gw_cV (pc' := 41) (av := [.ref (eA E 1)]) (rest := []) cx (k_X0_become E cty25 cty1 g8) (atC cty25) (by decide) lk_X4_127 dX4_kinds_38 rfl (Nat.le_of_ble_eq_true rfl) rfl ?_
      show GW E fr _ 41 _ [] _
      refine gw_aload_n (pc' := 42) cx 0 rfl rfl dX4_kinds_41 rfl ?_
      refine gw_getR (pc' := 45) cx at0 rfl fl_X4_19 dX4_kinds_42 rfl ?_
      refine gw_getR (pc' := 48) cx (atC cty25) rfl fl_X4_68 dX4_kinds_45 rfl ?_
      refine gw_iload_n (pc' := 49) cx 2 rfl rfl dX4_kinds_48 rfl ?_
      obtain ⟨i10, h⟩ := chk_some h
      refine gw_aald (pc' := 50) cx (atCp cty25) i10 dX4_kinds_49 rfl ?_
      refine gw_iload (pc' := 52) cx 4 rfl dX4_kinds_50 rfl ?_
      obtain ⟨s11, e12, h⟩ := lt_some h
      refine gw_put (pc' := 55) cx (atP (psn_of cty25 i10)) rfl fp_X4_160 ⟨rfl, rfl⟩ dX4_kinds_52 rfl e12 ?_
      refine gw_aload_n (pc' := 56) cx 0 rfl rfl dX4_kinds_55 rfl ?_
      refine gw_aload_n (pc' := 57) cx 0 rfl rfl dX4_kinds_56 rfl ?_
      refine gw_getR (pc' := 60) cx at0 rfl fl_X4_31 dX4_kinds_57 rfl ?_
      refine gw_iload_n (pc' := 61) cx 1 rfl rfl dX4_kinds_60 rfl ?_
      obtain ⟨i13, h⟩ := chk_some h
      refine gw_aald (pc' := 62) cx at39 i13 dX4_kinds_61 rfl ?_
      refine gw_iload_n (pc' := 63) cx 2 rfl rfl dX4_kinds_62 rfl ?_
      refine gw_iconst (pc' := 64) (v := 1) cx ci_1 dX4_kinds_63 rfl ?_
      obtain ⟨r15, s16, g14, h⟩ := ob2_some h
      refine gw_cV (pc' := 67) (av := [.ref (eA E (40 + y1.toNatClampNeg)), .int y2, .int 1]) (rest := []) cx (k_X4_isTrialAsTold E (sht_of i13) g14) at0 (by decide) lk_X4_188 dX4_kinds_64 rfl (Nat.le_of_ble_eq_true rfl) rfl ?_
      show GW E fr _ 67 _ (.int r15 :: _) _
      rcases ite_some h with ⟨c17, h⟩ | ⟨c17, h⟩
      · refine gw_if_eq_t (pc' := 79) cx c17 dX4_kinds_67 (by decide) ?_
        refine gw_iinc (pc' := 82) (v := (y5 + 1)) (lv' := [(5, .int (y5 + 1)), (0, .ref (eA E 0)), (1, .int y1), (2, .int y2), (4, .int y4)]) cx 4 rfl rfl rfl (by decide) dX4_kinds_79 rfl ?_
        refine gw_goto (pc' := 23) cx dX4_kinds_82 (by decide) ?_
        refine gw_sub [1, 2, 3, 4, 0] (lv' := [(0, .ref (eA E 0)), (1, .int y1), (2, .int y2), (4, .int y4), (5, .int (y5 + 1))]) rfl ?_
        exact ih y4 (y5 + 1) s16 h
      · refine gw_if_eq_f (pc' := 70) cx c17 dX4_kinds_67 ⟨79, by decide⟩ rfl ?_
        refine gw_iload (pc' := 72) cx 3 rfl dX4_kinds_70 rfl ?_
        refine gw_iconst (pc' := 73) (v := 1) cx ci_1 dX4_kinds_72 rfl ?_
        refine gw_iload (pc' := 75) cx 4 rfl dX4_kinds_73 rfl ?_
        refine gw_ishl (pc' := 76) cx dX4_kinds_75 rfl ?_
        refine gw_ior (pc' := 77) cx dX4_kinds_76 rfl ?_
        refine gw_istore (pc' := 79) (lv' := [(4, .int (y4 ||| (jshl 1 y5))), (0, .ref (eA E 0)), (1, .int y1), (2, .int y2), (5, .int y5)]) cx rfl (by decide) dX4_kinds_77 rfl ?_
        refine gw_iinc (pc' := 82) (v := (y5 + 1)) (lv' := [(5, .int (y5 + 1)), (4, .int (y4 ||| (jshl 1 y5))), (0, .ref (eA E 0)), (1, .int y1), (2, .int y2)]) cx 4 rfl rfl rfl (by decide) dX4_kinds_79 rfl ?_
        refine gw_goto (pc' := 23) cx dX4_kinds_82 (by decide) ?_
        refine gw_sub [2, 3, 4, 1, 0] (lv' := [(0, .ref (eA E 0)), (1, .int y1), (2, .int y2), (4, .int (y4 ||| (jshl 1 y5))), (5, .int (y5 + 1))]) rfl ?_
        exact ih (y4 ||| (jshl 1 y5)) (y5 + 1) s16 h
def f_X4_kinds (x1 : Int32) (x2 : Int32) (σ : Sg) : Option (Int32 × Sg) :=
  ob0 (f_X4_sheetAndPersonFinding x1 x2 σ) fun r2 =>
  if 0 ≤ r2 then
    f_X4_kinds_L23 x1 x2 FU 0 0 σ
  else
    ob2 (f_X4_found r2 σ) fun r5 s6 =>
    some (r5, s6)
theorem k_X4_kinds (E : Ev) {x1 : Int32} {x2 : Int32} {σ : Sg} {r : Int32} {σ' : Sg} (h : f_X4_kinds x1 x2 σ = some (r, σ')) : Con E mX4_kinds 6 [.ref (eA E 0), .int x1, .int x2] σ (some (.int r)) σ' := by
  refine con_of (by decide) (Nat.le_of_ble_eq_true rfl) (fun fr cx tg => ?_)
  show GW E fr 6 0 [(0, .ref (eA E 0)), (1, .int x1), (2, .int x2)] [] σ
  rw [f_X4_kinds] at h
  refine gw_aload_n (pc' := 1) cx 0 rfl rfl dX4_kinds_0 rfl ?_
  refine gw_iload_n (pc' := 2) cx 1 rfl rfl dX4_kinds_1 rfl ?_
  refine gw_iload_n (pc' := 3) cx 2 rfl rfl dX4_kinds_2 rfl ?_
  obtain ⟨r2, g1, h⟩ := ob0_some h
  refine gw_cV (pc' := 6) (av := [.int x1, .int x2]) (rest := []) cx (k_X4_sheetAndPersonFinding E g1) at0 (by decide) lk_X4_181 dX4_kinds_3 rfl (Nat.le_of_ble_eq_true rfl) rfl ?_
  show GW E fr _ 6 _ (.int r2 :: _) _
  refine gw_istore_n (pc' := 7) (lv' := [(3, .int r2), (0, .ref (eA E 0)), (1, .int x1), (2, .int x2)]) cx rfl rfl (by decide) dX4_kinds_6 rfl ?_
  refine gw_iload_n (pc' := 8) cx 0 rfl rfl dX4_kinds_7 rfl ?_
  rcases ite_some h with ⟨c3, h⟩ | ⟨c3, h⟩
  · refine gw_if_ge_t (pc' := 17) cx c3 dX4_kinds_8 (by decide) ?_
    refine gw_iconst (pc' := 18) (v := 0) cx ci_0 dX4_kinds_17 rfl ?_
    refine gw_istore (pc' := 20) (lv' := [(4, .int 0), (3, .int r2), (0, .ref (eA E 0)), (1, .int x1), (2, .int x2)]) cx rfl (by decide) dX4_kinds_18 rfl ?_
    refine gw_iconst (pc' := 21) (v := 0) cx ci_0 dX4_kinds_20 rfl ?_
    refine gw_istore (pc' := 23) (lv' := [(5, .int 0), (4, .int 0), (3, .int r2), (0, .ref (eA E 0)), (1, .int x1), (2, .int x2)]) cx rfl (by decide) dX4_kinds_21 rfl ?_
    refine gw_sub [3, 4, 5, 1, 0] (lv' := [(0, .ref (eA E 0)), (1, .int x1), (2, .int x2), (4, .int 0), (5, .int 0)]) rfl ?_
    exact w_X4_kinds_L23 cx tg x1 x2 FU 0 0 σ h
  · refine gw_if_ge_f (pc' := 11) cx c3 dX4_kinds_8 ⟨17, by decide⟩ rfl ?_
    refine gw_aload_n (pc' := 12) cx 1 rfl rfl dX4_kinds_11 rfl ?_
    refine gw_iload_n (pc' := 13) cx 0 rfl rfl dX4_kinds_12 rfl ?_
    obtain ⟨r5, s6, g4, h⟩ := ob2_some h
    refine gw_cV (pc' := 16) (av := [.int r2]) (rest := []) cx (k_X4_found E g4) at0 (by decide) lk_X4_45 dX4_kinds_13 rfl (Nat.le_of_ble_eq_true rfl) rfl ?_
    show GW E fr _ 16 _ (.int r5 :: _) _
    exact gw_iret cx tg (rt1 h) (rt2 h) dX4_kinds_16
def f_X4_gossip_L40 (y1 : Int32) : Nat → Int32 → Sg → Option (Int32 × Sg)
  | 0, _, _ => none
  | n + 1, y2, σ =>
    if y1 ≤ y2 then
      ob0 (f_X0_sumOf 1 1 σ) fun r13 =>
      some (r13, σ)
    else
      ob2 (f_X0_draw 1 σ) fun r15 s16 =>
      ob2 (f_X0_draw 1 s16) fun r18 s19 =>
      ob1 (f_X0_setNext 1 (jrem r15 8) (jrem r18 21) s19) fun s21 =>
      ob1 (f_X0_passDay 1 s21) fun s23 =>
      f_X4_gossip_L40 y1 n (y2 + 1) s23
theorem w_X4_gossip_L40 {E : Ev} {fr : Fr} {r : Int32} {σ' : Sg} (cx : Cx E mX4_gossip 5 fr) (tg : Tg E fr (some .int) (some (.int r)) σ') (y1 : Int32)  : ∀ (n : Nat) (y2 : Int32) (σ : Sg), f_X4_gossip_L40 y1 n y2 σ = some (r, σ') → GW E fr 5 40 [(0, .ref (eA E 0)), (1, .int y1), (2, .int y2)] [] σ := by
  intro n
  induction n with
  | zero => intro y2 σ h; cases (show (none : Option (Int32 × Sg)) = _ from h)
  | succ n ih =>
    intro y2 σ h
    rw [f_X4_gossip_L40] at h
    refine gw_iload_n (pc' := 41) cx 2 rfl rfl dX4_gossip_40 rfl ?_
    refine gw_iload_n (pc' := 42) cx 1 rfl rfl dX4_gossip_41 rfl ?_
    rcases ite_some h with ⟨c11, h⟩ | ⟨c11, h⟩
    · refine gw_ic_ge_t (pc' := 91) cx c11 dX4_gossip_42 (by decide) ?_
      refine gw_aload_n (pc' := 92) cx 0 rfl rfl dX4_gossip_91 rfl ?_
      refine gw_getR (pc' := 95) cx at0 rfl fl_X4_12 dX4_gossip_92 rfl ?_
      refine gw_iconst (pc' := 96) (v := 1) cx ci_1 dX4_gossip_95 rfl ?_
      obtain ⟨r13, g12, h⟩ := ob0_some h
      refine gw_cV (pc' := 99) (av := [.int 1]) (rest := []) cx (k_X0_sumOf E cty1 g12) (atC cty1) (by decide) lk_X4_114 dX4_gossip_96 rfl (Nat.le_of_ble_eq_true rfl) rfl ?_
      show GW E fr _ 99 _ (.int r13 :: _) _
      exact gw_iret cx tg (rt1 h) (rt2 h) dX4_gossip_99
    · refine gw_ic_ge_f (pc' := 45) cx c11 dX4_gossip_42 ⟨91, by decide⟩ rfl ?_
      refine gw_aload_n (pc' := 46) cx 0 rfl rfl dX4_gossip_45 rfl ?_
      refine gw_getR (pc' := 49) cx at0 rfl fl_X4_12 dX4_gossip_46 rfl ?_
      obtain ⟨r15, s16, g14, h⟩ := ob2_some h
      refine gw_cV (pc' := 52) (av := []) (rest := []) cx (k_X0_draw E cty1 g14) (atC cty1) (by decide) lk_X4_198 dX4_gossip_49 rfl (Nat.le_of_ble_eq_true rfl) rfl ?_
      show GW E fr _ 52 _ (.int r15 :: _) _
      refine gw_bipush (pc' := 54) (v := 8) cx cb_8 dX4_gossip_52 rfl ?_
      refine gw_irem (pc' := 55) cx (by decide) dX4_gossip_54 rfl ?_
      refine gw_istore_n (pc' := 56) (lv' := [(3, .int (jrem r15 8)), (0, .ref (eA E 0)), (1, .int y1), (2, .int y2)]) cx rfl rfl (by decide) dX4_gossip_55 rfl ?_
      refine gw_aload_n (pc' := 57) cx 1 rfl rfl dX4_gossip_56 rfl ?_
      refine gw_getR (pc' := 60) cx at0 rfl fl_X4_12 dX4_gossip_57 rfl ?_
      obtain ⟨r18, s19, g17, h⟩ := ob2_some h
      refine gw_cV (pc' := 63) (av := []) (rest := []) cx (k_X0_draw E cty1 g17) (atC cty1) (by decide) lk_X4_198 dX4_gossip_60 rfl (Nat.le_of_ble_eq_true rfl) rfl ?_
      show GW E fr _ 63 _ (.int r18 :: _) _
      refine gw_bipush (pc' := 65) (v := 21) cx cb_21 dX4_gossip_63 rfl ?_
      refine gw_irem (pc' := 66) cx (by decide) dX4_gossip_65 rfl ?_
      refine gw_istore (pc' := 68) (lv' := [(4, .int (jrem r18 21)), (3, .int (jrem r15 8)), (0, .ref (eA E 0)), (1, .int y1), (2, .int y2)]) cx rfl (by decide) dX4_gossip_66 rfl ?_
      refine gw_aload_n (pc' := 69) cx 2 rfl rfl dX4_gossip_68 rfl ?_
      refine gw_getR (pc' := 72) cx at0 rfl fl_X4_12 dX4_gossip_69 rfl ?_
      refine gw_iload_n (pc' := 73) cx 1 rfl rfl dX4_gossip_72 rfl ?_
      refine gw_iload (pc' := 75) cx 0 rfl dX4_gossip_73 rfl ?_
      obtain ⟨s21, g20, h⟩ := ob1_some h
      refine gw_cV (pc' := 78) (av := [.int (jrem r15 8), .int (jrem r18 21)]) (rest := []) cx (k_X0_setNext E cty1 g20) (atC cty1) (by decide) lk_X4_145 dX4_gossip_75 rfl (Nat.le_of_ble_eq_true rfl) rfl ?_
      show GW E fr _ 78 _ [] _
      refine gw_aload_n (pc' := 79) cx 2 rfl rfl dX4_gossip_78 rfl ?_
      refine gw_getR (pc' := 82) cx at0 rfl fl_X4_12 dX4_gossip_79 rfl ?_
      obtain ⟨s23, g22, h⟩ := ob1_some h
      refine gw_cV (pc' := 85) (av := []) (rest := []) cx (k_X0_passDay E cty1 g22) (atC cty1) (by decide) lk_X4_131 dX4_gossip_82 rfl (Nat.le_of_ble_eq_true rfl) rfl ?_
      show GW E fr _ 85 _ [] _
      refine gw_iinc (pc' := 88) (v := (y2 + 1)) (lv' := [(2, .int (y2 + 1)), (4, .int (jrem r18 21)), (3, .int (jrem r15 8)), (0, .ref (eA E 0)), (1, .int y1)]) cx 4 rfl rfl rfl (by decide) dX4_gossip_85 rfl ?_
      refine gw_goto (pc' := 40) cx dX4_gossip_88 (by decide) ?_
      refine gw_sub [3, 4, 0] (lv' := [(0, .ref (eA E 0)), (1, .int y1), (2, .int (y2 + 1))]) rfl ?_
      exact ih (y2 + 1) s23 h
def f_X4_gossip (x1 : Int32) (σ : Sg) : Option (Int32 × Sg) :=
  ob0 (f_X4_within x1 1 20 σ) fun r2 =>
  if r2 = 0 then
    ob2 (f_X4_found (-1000001) σ) fun r5 s6 =>
    some (r5, s6)
  else
    if ((σ 1 5) + x1) ≤ 99999 then
      f_X4_gossip_L40 x1 FU 0 σ
    else
      ob2 (f_X4_found (-1000005) σ) fun r9 s10 =>
      some (r9, s10)
theorem k_X4_gossip (E : Ev) {x1 : Int32} {σ : Sg} {r : Int32} {σ' : Sg} (h : f_X4_gossip x1 σ = some (r, σ')) : Con E mX4_gossip 5 [.ref (eA E 0), .int x1] σ (some (.int r)) σ' := by
  refine con_of (by decide) (Nat.le_of_ble_eq_true rfl) (fun fr cx tg => ?_)
  show GW E fr 5 0 [(0, .ref (eA E 0)), (1, .int x1)] [] σ
  rw [f_X4_gossip] at h
  refine gw_iload_n (pc' := 1) cx 1 rfl rfl dX4_gossip_0 rfl ?_
  refine gw_iconst (pc' := 2) (v := 1) cx ci_1 dX4_gossip_1 rfl ?_
  refine gw_bipush (pc' := 4) (v := 20) cx cb_20 dX4_gossip_2 rfl ?_
  obtain ⟨r2, g1, h⟩ := ob0_some h
  refine gw_cS (pc' := 7) (av := [.int x1, .int 1, .int 20]) (rest := []) cx (k_X4_within E g1) (by decide) lk_X4_40 dX4_gossip_4 rfl (Nat.le_of_ble_eq_true rfl) rfl ?_
  show GW E fr _ 7 _ (.int r2 :: _) _
  rcases ite_some h with ⟨c3, h⟩ | ⟨c3, h⟩
  · refine gw_if_ne_f (pc' := 10) cx c3 dX4_gossip_7 ⟨17, by decide⟩ rfl ?_
    refine gw_aload_n (pc' := 11) cx 0 rfl rfl dX4_gossip_10 rfl ?_
    refine gw_ldc (pc' := 13) (v := (-1000001)) cx ct_X4_44 dX4_gossip_11 rfl ?_
    obtain ⟨r5, s6, g4, h⟩ := ob2_some h
    refine gw_cV (pc' := 16) (av := [.int (-1000001)]) (rest := []) cx (k_X4_found E g4) at0 (by decide) lk_X4_45 dX4_gossip_13 rfl (Nat.le_of_ble_eq_true rfl) rfl ?_
    show GW E fr _ 16 _ (.int r5 :: _) _
    exact gw_iret cx tg (rt1 h) (rt2 h) dX4_gossip_16
  · refine gw_if_ne_t (pc' := 17) cx c3 dX4_gossip_7 (by decide) ?_
    refine gw_aload_n (pc' := 18) cx 0 rfl rfl dX4_gossip_17 rfl ?_
    refine gw_getR (pc' := 21) cx at0 rfl fl_X4_12 dX4_gossip_18 rfl ?_
    refine gw_getI (pc' := 24) cx (atC cty1) rfl fl_X4_72 dX4_gossip_21 rfl ?_
    refine gw_iload_n (pc' := 25) cx 1 rfl rfl dX4_gossip_24 rfl ?_
    refine gw_iadd (pc' := 26) cx dX4_gossip_25 rfl ?_
    refine gw_ldc (pc' := 28) (v := 99999) cx ct_X4_108 dX4_gossip_26 rfl ?_
    rcases ite_some h with ⟨c7, h⟩ | ⟨c7, h⟩
    · refine gw_ic_le_t (pc' := 38) cx c7 dX4_gossip_28 (by decide) ?_
      refine gw_iconst (pc' := 39) (v := 0) cx ci_0 dX4_gossip_38 rfl ?_
      refine gw_istore_n (pc' := 40) (lv' := [(2, .int 0), (0, .ref (eA E 0)), (1, .int x1)]) cx rfl rfl (by decide) dX4_gossip_39 rfl ?_
      refine gw_sub [1, 2, 0] (lv' := [(0, .ref (eA E 0)), (1, .int x1), (2, .int 0)]) rfl ?_
      exact w_X4_gossip_L40 cx tg x1 FU 0 σ h
    · refine gw_ic_le_f (pc' := 31) cx c7 dX4_gossip_28 ⟨38, by decide⟩ rfl ?_
      refine gw_aload_n (pc' := 32) cx 0 rfl rfl dX4_gossip_31 rfl ?_
      refine gw_ldc (pc' := 34) (v := (-1000005)) cx ct_X4_109 dX4_gossip_32 rfl ?_
      obtain ⟨r9, s10, g8, h⟩ := ob2_some h
      refine gw_cV (pc' := 37) (av := [.int (-1000005)]) (rest := []) cx (k_X4_found E g8) at0 (by decide) lk_X4_45 dX4_gossip_34 rfl (Nat.le_of_ble_eq_true rfl) rfl ?_
      show GW E fr _ 37 _ (.int r9 :: _) _
      exact gw_iret cx tg (rt1 h) (rt2 h) dX4_gossip_37
def f_X4_power_L5 (y0 : Int32) (y1 : Int32) : Nat → Int64 → Int32 → Sg → Option (Int64)
  | 0, _, _, _ => none
  | n + 1, y2, y4, σ =>
    if y1 ≤ y4 then
      some y2
    else
      f_X4_power_L5 y0 y1 n (y2 * y0.toInt64) (y4 + 1) σ
theorem w_X4_power_L5 {E : Ev} {fr : Fr} {r : Int64} {σ0 : Sg} (cx : Cx E mX4_power 0 fr) (tg : Tg E fr (some .long) (some (.long r)) σ0) (y0 : Int32) (y1 : Int32)  : ∀ (n : Nat) (y2 : Int64) (y4 : Int32) (σ : Sg), σ = σ0 → f_X4_power_L5 y0 y1 n y2 y4 σ = some r → GW E fr 5 5 [(0, .int y0), (1, .int y1), (2, .long y2), (4, .int y4)] [] σ := by
  intro n
  induction n with
  | zero => intro y2 y4 σ hs h; cases (show (none : Option (Int64)) = _ from h)
  | succ n ih =>
    intro y2 y4 σ hs h
    rw [f_X4_power_L5] at h
    subst hs
    refine gw_iload (pc' := 7) cx 3 rfl dX4_power_5 rfl ?_
    refine gw_iload_n (pc' := 8) cx 1 rfl rfl dX4_power_7 rfl ?_
    rcases ite_some h with ⟨c1, h⟩ | ⟨c1, h⟩
    · refine gw_ic_ge_t (pc' := 22) cx c1 dX4_power_8 (by decide) ?_
      refine gw_lload_n (pc' := 23) cx 2 rfl rfl dX4_power_22 rfl ?_
      exact gw_lret cx tg (rl0 h) rfl dX4_power_23
    · refine gw_ic_ge_f (pc' := 11) cx c1 dX4_power_8 ⟨22, by decide⟩ rfl ?_
      refine gw_lload_n (pc' := 12) cx 2 rfl rfl dX4_power_11 rfl ?_
      refine gw_iload_n (pc' := 13) cx 0 rfl rfl dX4_power_12 rfl ?_
      refine gw_i2l (pc' := 14) cx dX4_power_13 rfl ?_
      refine gw_lmul (pc' := 15) cx dX4_power_14 rfl ?_
      refine gw_lstore_n (pc' := 16) (lv' := [(2, .long (y2 * y0.toInt64)), (0, .int y0), (1, .int y1), (4, .int y4)]) cx rfl rfl (by decide) dX4_power_15 rfl ?_
      refine gw_iinc (pc' := 19) (v := (y4 + 1)) (lv' := [(4, .int (y4 + 1)), (2, .long (y2 * y0.toInt64)), (0, .int y0), (1, .int y1)]) cx 3 rfl rfl rfl (by decide) dX4_power_16 rfl ?_
      refine gw_goto (pc' := 5) cx dX4_power_19 (by decide) ?_
      refine gw_sub [2, 3, 1, 0] (lv' := [(0, .int y0), (1, .int y1), (2, .long (y2 * y0.toInt64)), (4, .int (y4 + 1))]) rfl ?_
      exact ih (y2 * y0.toInt64) (y4 + 1) σ rfl h
def f_X4_power (x0 : Int32) (x1 : Int32) (σ : Sg) : Option (Int64) :=
  f_X4_power_L5 x0 x1 FU (1 : Int64) 0 σ
theorem k_X4_power (E : Ev) {x0 : Int32} {x1 : Int32} {σ : Sg} {r : Int64} (h : f_X4_power x0 x1 σ = some r) : Con E mX4_power 0 [.int x0, .int x1] σ (some (.long r)) σ := by
  refine con_of (by decide) (Nat.le_of_ble_eq_true rfl) (fun fr cx tg => ?_)
  show GW E fr 5 0 [(0, .int x0), (1, .int x1)] [] σ
  rw [f_X4_power] at h
  refine gw_lconst (pc' := 1) (v := 1) cx cl_1 dX4_power_0 rfl ?_
  refine gw_lstore_n (pc' := 2) (lv' := [(2, .long (1 : Int64)), (0, .int x0), (1, .int x1)]) cx rfl rfl (by decide) dX4_power_1 rfl ?_
  refine gw_iconst (pc' := 3) (v := 0) cx ci_0 dX4_power_2 rfl ?_
  refine gw_istore (pc' := 5) (lv' := [(4, .int 0), (2, .long (1 : Int64)), (0, .int x0), (1, .int x1)]) cx rfl (by decide) dX4_power_3 rfl ?_
  refine gw_sub [2, 3, 1, 0] (lv' := [(0, .int x0), (1, .int x1), (2, .long (1 : Int64)), (4, .int 0)]) rfl ?_
  exact w_X4_power_L5 cx tg x0 x1 FU (1 : Int64) 0 σ rfl h
def f_X4_odds_L42 (y1 : Int32) (y2 : Int32) : Nat → Int32 → Int32 → Int32 → Sg → Option (Int64 × Sg)
  | 0, _, _, _, _ => none
  | n + 1, y3, y4, y5, σ =>
    if 3 ≤ y5 then
      if y2 = 0 then
        ob0 (f_X4_power y3 y1 σ) fun r18 =>
        some (r18, σ)
      else
        ob0 (f_X4_power y4 y1 σ) fun r20 =>
        some (r20, σ)
    else
      if (jrem y3 2) = 0 then
        f_X4_odds_L42 y1 y2 n (y3 / 2) (y4 / 2) (y5 + 1) σ
      else
        if y2 = 0 then
          ob0 (f_X4_power y3 y1 σ) fun r24 =>
          some (r24, σ)
        else
          ob0 (f_X4_power y4 y1 σ) fun r26 =>
          some (r26, σ)
theorem w_X4_odds_L42 {E : Ev} {fr : Fr} {r : Int64} {σ' : Sg} (cx : Cx E mX4_odds 3 fr) (tg : Tg E fr (some .long) (some (.long r)) σ') (y1 : Int32) (y2 : Int32)  : ∀ (n : Nat) (y3 : Int32) (y4 : Int32) (y5 : Int32) (σ : Sg), f_X4_odds_L42 y1 y2 n y3 y4 y5 σ = some (r, σ') → GW E fr 6 42 [(1, .int y1), (2, .int y2), (3, .int y3), (4, .int y4), (5, .int y5)] [] σ := by
  intro n
  induction n with
  | zero => intro y3 y4 y5 σ h; cases (show (none : Option (Int64 × Sg)) = _ from h)
  | succ n ih =>
    intro y3 y4 y5 σ h
    rw [f_X4_odds_L42] at h
    refine gw_iload (pc' := 44) cx 4 rfl dX4_odds_42 rfl ?_
    refine gw_iconst (pc' := 45) (v := 3) cx ci_3 dX4_odds_44 rfl ?_
    rcases ite_some h with ⟨c15, h⟩ | ⟨c15, h⟩
    · refine gw_ic_ge_t (pc' := 70) cx c15 dX4_odds_45 (by decide) ?_
      refine gw_iload_n (pc' := 71) cx 1 rfl rfl dX4_odds_70 rfl ?_
      rcases ite_some h with ⟨c16, h⟩ | ⟨c16, h⟩
      · refine gw_if_ne_f (pc' := 74) cx c16 dX4_odds_71 ⟨78, by decide⟩ rfl ?_
        refine gw_iload_n (pc' := 75) cx 2 rfl rfl dX4_odds_74 rfl ?_
        refine gw_goto (pc' := 80) cx dX4_odds_75 (by decide) ?_
        refine gw_iload_n (pc' := 81) cx 0 rfl rfl dX4_odds_80 rfl ?_
        obtain ⟨r18, g17, h⟩ := ob0_some h
        refine gw_cS (pc' := 84) (av := [.int y3, .int y1]) (rest := []) cx (k_X4_power E g17) (by decide) lk_X4_204 dX4_odds_81 rfl (Nat.le_of_ble_eq_true rfl) rfl ?_
        show GW E fr _ 84 _ (.long r18 :: _) _
        exact gw_lret cx tg (rl1 h) (rl2 h) dX4_odds_84
      · refine gw_if_ne_t (pc' := 78) cx c16 dX4_odds_71 (by decide) ?_
        refine gw_iload (pc' := 80) cx 3 rfl dX4_odds_78 rfl ?_
        refine gw_iload_n (pc' := 81) cx 0 rfl rfl dX4_odds_80 rfl ?_
        obtain ⟨r20, g19, h⟩ := ob0_some h
        refine gw_cS (pc' := 84) (av := [.int y4, .int y1]) (rest := []) cx (k_X4_power E g19) (by decide) lk_X4_204 dX4_odds_81 rfl (Nat.le_of_ble_eq_true rfl) rfl ?_
        show GW E fr _ 84 _ (.long r20 :: _) _
        exact gw_lret cx tg (rl1 h) (rl2 h) dX4_odds_84
    · refine gw_ic_ge_f (pc' := 48) cx c15 dX4_odds_45 ⟨70, by decide⟩ rfl ?_
      refine gw_iload_n (pc' := 49) cx 2 rfl rfl dX4_odds_48 rfl ?_
      refine gw_iconst (pc' := 50) (v := 2) cx ci_2 dX4_odds_49 rfl ?_
      refine gw_irem (pc' := 51) cx (by decide) dX4_odds_50 rfl ?_
      rcases ite_some h with ⟨c21, h⟩ | ⟨c21, h⟩
      · refine gw_if_ne_f (pc' := 54) cx c21 dX4_odds_51 ⟨70, by decide⟩ rfl ?_
        refine gw_iload_n (pc' := 55) cx 2 rfl rfl dX4_odds_54 rfl ?_
        refine gw_iconst (pc' := 56) (v := 2) cx ci_2 dX4_odds_55 rfl ?_
        refine gw_idiv (pc' := 57) cx (by decide) dX4_odds_56 rfl ?_
        refine gw_istore_n (pc' := 58) (lv' := [(3, .int (y3 / 2)), (1, .int y1), (2, .int y2), (4, .int y4), (5, .int y5)]) cx rfl rfl (by decide) dX4_odds_57 rfl ?_
        refine gw_iload (pc' := 60) cx 3 rfl dX4_odds_58 rfl ?_
        refine gw_iconst (pc' := 61) (v := 2) cx ci_2 dX4_odds_60 rfl ?_
        refine gw_idiv (pc' := 62) cx (by decide) dX4_odds_61 rfl ?_
        refine gw_istore (pc' := 64) (lv' := [(4, .int (y4 / 2)), (3, .int (y3 / 2)), (1, .int y1), (2, .int y2), (5, .int y5)]) cx rfl (by decide) dX4_odds_62 rfl ?_
        refine gw_iinc (pc' := 67) (v := (y5 + 1)) (lv' := [(5, .int (y5 + 1)), (4, .int (y4 / 2)), (3, .int (y3 / 2)), (1, .int y1), (2, .int y2)]) cx 4 rfl rfl rfl (by decide) dX4_odds_64 rfl ?_
        refine gw_goto (pc' := 42) cx dX4_odds_67 (by decide) ?_
        refine gw_sub [3, 4, 2, 1, 0] (lv' := [(1, .int y1), (2, .int y2), (3, .int (y3 / 2)), (4, .int (y4 / 2)), (5, .int (y5 + 1))]) rfl ?_
        exact ih (y3 / 2) (y4 / 2) (y5 + 1) σ h
      · refine gw_if_ne_t (pc' := 70) cx c21 dX4_odds_51 (by decide) ?_
        refine gw_iload_n (pc' := 71) cx 1 rfl rfl dX4_odds_70 rfl ?_
        rcases ite_some h with ⟨c22, h⟩ | ⟨c22, h⟩
        · refine gw_if_ne_f (pc' := 74) cx c22 dX4_odds_71 ⟨78, by decide⟩ rfl ?_
          refine gw_iload_n (pc' := 75) cx 2 rfl rfl dX4_odds_74 rfl ?_
          refine gw_goto (pc' := 80) cx dX4_odds_75 (by decide) ?_
          refine gw_iload_n (pc' := 81) cx 0 rfl rfl dX4_odds_80 rfl ?_
          obtain ⟨r24, g23, h⟩ := ob0_some h
          refine gw_cS (pc' := 84) (av := [.int y3, .int y1]) (rest := []) cx (k_X4_power E g23) (by decide) lk_X4_204 dX4_odds_81 rfl (Nat.le_of_ble_eq_true rfl) rfl ?_
          show GW E fr _ 84 _ (.long r24 :: _) _
          exact gw_lret cx tg (rl1 h) (rl2 h) dX4_odds_84
        · refine gw_if_ne_t (pc' := 78) cx c22 dX4_odds_71 (by decide) ?_
          refine gw_iload (pc' := 80) cx 3 rfl dX4_odds_78 rfl ?_
          refine gw_iload_n (pc' := 81) cx 0 rfl rfl dX4_odds_80 rfl ?_
          obtain ⟨r26, g25, h⟩ := ob0_some h
          refine gw_cS (pc' := 84) (av := [.int y4, .int y1]) (rest := []) cx (k_X4_power E g25) (by decide) lk_X4_204 dX4_odds_81 rfl (Nat.le_of_ble_eq_true rfl) rfl ?_
          show GW E fr _ 84 _ (.long r26 :: _) _
          exact gw_lret cx tg (rl1 h) (rl2 h) dX4_odds_84
def f_X4_odds (x1 : Int32) (x2 : Int32) (σ : Sg) : Option (Int64 × Sg) :=
  ob0 (f_X4_within x1 0 20 σ) fun r2 =>
  if r2 = 0 then
    ob2 (f_X4_found (-1000001) σ) fun r5 s6 =>
    some (r5.toInt64, s6)
  else
    ob0 (f_X4_within x2 0 1 σ) fun r8 =>
    if r8 = 0 then
      ob2 (f_X4_found (-1000001) σ) fun r11 s12 =>
      some (r11.toInt64, s12)
    else
      ob0 (f_X0_withRoom 1 σ) fun r14 =>
      f_X4_odds_L42 x1 x2 FU r14 8 0 σ
theorem k_X4_odds (E : Ev) {x1 : Int32} {x2 : Int32} {σ : Sg} {r : Int64} {σ' : Sg} (h : f_X4_odds x1 x2 σ = some (r, σ')) : Con E mX4_odds 3 [.ref (eA E 0), .int x1, .int x2] σ (some (.long r)) σ' := by
  refine con_of (by decide) (Nat.le_of_ble_eq_true rfl) (fun fr cx tg => ?_)
  show GW E fr 6 0 [(0, .ref (eA E 0)), (1, .int x1), (2, .int x2)] [] σ
  rw [f_X4_odds] at h
  refine gw_iload_n (pc' := 1) cx 1 rfl rfl dX4_odds_0 rfl ?_
  refine gw_iconst (pc' := 2) (v := 0) cx ci_0 dX4_odds_1 rfl ?_
  refine gw_bipush (pc' := 4) (v := 20) cx cb_20 dX4_odds_2 rfl ?_
  obtain ⟨r2, g1, h⟩ := ob0_some h
  refine gw_cS (pc' := 7) (av := [.int x1, .int 0, .int 20]) (rest := []) cx (k_X4_within E g1) (by decide) lk_X4_40 dX4_odds_4 rfl (Nat.le_of_ble_eq_true rfl) rfl ?_
  show GW E fr _ 7 _ (.int r2 :: _) _
  rcases ite_some h with ⟨c3, h⟩ | ⟨c3, h⟩
  · refine gw_if_eq_t (pc' := 19) cx c3 dX4_odds_7 (by decide) ?_
    refine gw_aload_n (pc' := 20) cx 0 rfl rfl dX4_odds_19 rfl ?_
    refine gw_ldc (pc' := 22) (v := (-1000001)) cx ct_X4_44 dX4_odds_20 rfl ?_
    obtain ⟨r5, s6, g4, h⟩ := ob2_some h
    refine gw_cV (pc' := 25) (av := [.int (-1000001)]) (rest := []) cx (k_X4_found E g4) at0 (by decide) lk_X4_45 dX4_odds_22 rfl (Nat.le_of_ble_eq_true rfl) rfl ?_
    show GW E fr _ 25 _ (.int r5 :: _) _
    refine gw_i2l (pc' := 26) cx dX4_odds_25 rfl ?_
    exact gw_lret cx tg (rl1 h) (rl2 h) dX4_odds_26
  · refine gw_if_eq_f (pc' := 10) cx c3 dX4_odds_7 ⟨19, by decide⟩ rfl ?_
    refine gw_iload_n (pc' := 11) cx 2 rfl rfl dX4_odds_10 rfl ?_
    refine gw_iconst (pc' := 12) (v := 0) cx ci_0 dX4_odds_11 rfl ?_
    refine gw_iconst (pc' := 13) (v := 1) cx ci_1 dX4_odds_12 rfl ?_
    obtain ⟨r8, g7, h⟩ := ob0_some h
    refine gw_cS (pc' := 16) (av := [.int x2, .int 0, .int 1]) (rest := []) cx (k_X4_within E g7) (by decide) lk_X4_40 dX4_odds_13 rfl (Nat.le_of_ble_eq_true rfl) rfl ?_
    show GW E fr _ 16 _ (.int r8 :: _) _
    rcases ite_some h with ⟨c9, h⟩ | ⟨c9, h⟩
    · refine gw_if_ne_f (pc' := 19) cx c9 dX4_odds_16 ⟨27, by decide⟩ rfl ?_
      refine gw_aload_n (pc' := 20) cx 0 rfl rfl dX4_odds_19 rfl ?_
      refine gw_ldc (pc' := 22) (v := (-1000001)) cx ct_X4_44 dX4_odds_20 rfl ?_
      obtain ⟨r11, s12, g10, h⟩ := ob2_some h
      refine gw_cV (pc' := 25) (av := [.int (-1000001)]) (rest := []) cx (k_X4_found E g10) at0 (by decide) lk_X4_45 dX4_odds_22 rfl (Nat.le_of_ble_eq_true rfl) rfl ?_
      show GW E fr _ 25 _ (.int r11 :: _) _
      refine gw_i2l (pc' := 26) cx dX4_odds_25 rfl ?_
      exact gw_lret cx tg (rl1 h) (rl2 h) dX4_odds_26
    · refine gw_if_ne_t (pc' := 27) cx c9 dX4_odds_16 (by decide) ?_
      refine gw_aload_n (pc' := 28) cx 0 rfl rfl dX4_odds_27 rfl ?_
      refine gw_getR (pc' := 31) cx at0 rfl fl_X4_12 dX4_odds_28 rfl ?_
      obtain ⟨r14, g13, h⟩ := ob0_some h
      refine gw_cV (pc' := 34) (av := []) (rest := []) cx (k_X0_withRoom E cty1 g13) (atC cty1) (by decide) lk_X4_201 dX4_odds_31 rfl (Nat.le_of_ble_eq_true rfl) rfl ?_
      show GW E fr _ 34 _ (.int r14 :: _) _
      refine gw_istore_n (pc' := 35) (lv' := [(3, .int r14), (0, .ref (eA E 0)), (1, .int x1), (2, .int x2)]) cx rfl rfl (by decide) dX4_odds_34 rfl ?_
      refine gw_bipush (pc' := 37) (v := 8) cx cb_8 dX4_odds_35 rfl ?_
      refine gw_istore (pc' := 39) (lv' := [(4, .int 8), (3, .int r14), (0, .ref (eA E 0)), (1, .int x1), (2, .int x2)]) cx rfl (by decide) dX4_odds_37 rfl ?_
      refine gw_iconst (pc' := 40) (v := 0) cx ci_0 dX4_odds_39 rfl ?_
      refine gw_istore (pc' := 42) (lv' := [(5, .int 0), (4, .int 8), (3, .int r14), (0, .ref (eA E 0)), (1, .int x1), (2, .int x2)]) cx rfl (by decide) dX4_odds_40 rfl ?_
      refine gw_sub [4, 5, 2, 1, 0] (lv' := [(1, .int x1), (2, .int x2), (3, .int r14), (4, .int 8), (5, .int 0)]) rfl ?_
      exact w_X4_odds_L42 cx tg x1 x2 FU r14 8 0 σ h
def f_X4_seed (x1 : Int32) (σ : Sg) : Option (Int32 × Sg) :=
  lt (up2 σ 1 6 x1) fun s1 =>
  some ((σ 1 6), s1)
theorem k_X4_seed (E : Ev) {x1 : Int32} {σ : Sg} {r : Int32} {σ' : Sg} (h : f_X4_seed x1 σ = some (r, σ')) : Con E mX4_seed 0 [.ref (eA E 0), .int x1] σ (some (.int r)) σ' := by
  refine con_of (by decide) (Nat.le_of_ble_eq_true rfl) (fun fr cx tg => ?_)
  show GW E fr 3 0 [(0, .ref (eA E 0)), (1, .int x1)] [] σ
  rw [f_X4_seed] at h
  refine gw_aload_n (pc' := 1) cx 0 rfl rfl dX4_seed_0 rfl ?_
  refine gw_getR (pc' := 4) cx at0 rfl fl_X4_12 dX4_seed_1 rfl ?_
  refine gw_getI (pc' := 7) cx (atC cty1) rfl fl_X4_208 dX4_seed_4 rfl ?_
  refine gw_istore_n (pc' := 8) (lv' := [(2, .int (σ 1 6)), (0, .ref (eA E 0)), (1, .int x1)]) cx rfl rfl (by decide) dX4_seed_7 rfl ?_
  refine gw_aload_n (pc' := 9) cx 1 rfl rfl dX4_seed_8 rfl ?_
  refine gw_getR (pc' := 12) cx at0 rfl fl_X4_12 dX4_seed_9 rfl ?_
  refine gw_iload_n (pc' := 13) cx 2 rfl rfl dX4_seed_12 rfl ?_
  obtain ⟨s1, e2, h⟩ := lt_some h
  refine gw_put (pc' := 16) cx (atC cty1) rfl fp_X4_208 ⟨rfl, rfl⟩ dX4_seed_13 rfl e2 ?_
  refine gw_iload_n (pc' := 17) cx 0 rfl rfl dX4_seed_16 rfl ?_
  exact gw_iret cx tg (rt1 h) (rt2 h) dX4_seed_17
def f_X4_feed_L41 (y1 : Int32) : Nat → Int32 → Sg → Option (Int32 × Sg)
  | 0, _, _ => none
  | n + 1, y3, σ =>
    if y3 < 0 then
      some ((σ 37 1), σ)
    else
      ob1 (f_X2_append ((jushr y1 (8 * y3)) &&& 255) σ) fun s13 =>
      f_X4_feed_L41 y1 n (y3 + (-1)) s13
theorem w_X4_feed_L41 {E : Ev} {fr : Fr} {r : Int32} {σ' : Sg} (cx : Cx E mX4_feed 2 fr) (tg : Tg E fr (some .int) (some (.int r)) σ') (y1 : Int32)  : ∀ (n : Nat) (y3 : Int32) (σ : Sg), f_X4_feed_L41 y1 n y3 σ = some (r, σ') → GW E fr 4 41 [(0, .ref (eA E 0)), (1, .int y1), (3, .int y3)] [] σ := by
  intro n
  induction n with
  | zero => intro y3 σ h; cases (show (none : Option (Int32 × Sg)) = _ from h)
  | succ n ih =>
    intro y3 σ h
    rw [f_X4_feed_L41] at h
    refine gw_iload_n (pc' := 42) cx 2 rfl rfl dX4_feed_41 rfl ?_
    rcases ite_some h with ⟨c11, h⟩ | ⟨c11, h⟩
    · refine gw_if_lt_t (pc' := 68) cx c11 dX4_feed_42 (by decide) ?_
      refine gw_aload_n (pc' := 69) cx 0 rfl rfl dX4_feed_68 rfl ?_
      refine gw_getR (pc' := 72) cx at0 rfl fl_X4_25 dX4_feed_69 rfl ?_
      refine gw_getI (pc' := 75) cx at37 rfl fl_X4_211 dX4_feed_72 rfl ?_
      exact gw_iret cx tg (rt1 h) (rt2 h) dX4_feed_75
    · refine gw_if_lt_f (pc' := 45) cx c11 dX4_feed_42 ⟨68, by decide⟩ rfl ?_
      refine gw_aload_n (pc' := 46) cx 0 rfl rfl dX4_feed_45 rfl ?_
      refine gw_getR (pc' := 49) cx at0 rfl fl_X4_25 dX4_feed_46 rfl ?_
      refine gw_iload_n (pc' := 50) cx 1 rfl rfl dX4_feed_49 rfl ?_
      refine gw_bipush (pc' := 52) (v := 8) cx cb_8 dX4_feed_50 rfl ?_
      refine gw_iload_n (pc' := 53) cx 2 rfl rfl dX4_feed_52 rfl ?_
      refine gw_imul (pc' := 54) cx dX4_feed_53 rfl ?_
      refine gw_iushr (pc' := 55) cx dX4_feed_54 rfl ?_
      refine gw_sipush (pc' := 58) (v := 255) cx cs_255 dX4_feed_55 rfl ?_
      refine gw_iand (pc' := 59) cx dX4_feed_58 rfl ?_
      obtain ⟨s13, g12, h⟩ := ob1_some h
      refine gw_cV (pc' := 62) (av := [.int ((jushr y1 (8 * y3)) &&& 255)]) (rest := []) cx (k_X2_append E g12) at37 (by decide) lk_X4_212 dX4_feed_59 rfl (Nat.le_of_ble_eq_true rfl) rfl ?_
      show GW E fr _ 62 _ [] _
      refine gw_iinc (pc' := 65) (v := (y3 + (-1))) (lv' := [(3, .int (y3 + (-1))), (0, .ref (eA E 0)), (1, .int y1)]) cx 2 rfl (congrArg (fun z => y3 + z) ci_m1) rfl (by decide) dX4_feed_62 rfl ?_
      refine gw_goto (pc' := 41) cx dX4_feed_65 (by decide) ?_
      refine gw_sub [1, 2, 0] (lv' := [(0, .ref (eA E 0)), (1, .int y1), (3, .int (y3 + (-1)))]) rfl ?_
      exact ih (y3 + (-1)) s13 h
def f_X4_feed (x1 : Int32) (x2 : Int32) (σ : Sg) : Option (Int32 × Sg) :=
  ob0 (f_X4_within x2 1 4 σ) fun r2 =>
  if r2 = 0 then
    ob2 (f_X4_found (-1000001) σ) fun r5 s6 =>
    some (r5, s6)
  else
    if ((σ 37 1) + x2) ≤ 120 then
      f_X4_feed_L41 x1 FU (x2 - 1) σ
    else
      ob2 (f_X4_found (-1000002) σ) fun r9 s10 =>
      some (r9, s10)
theorem k_X4_feed (E : Ev) {x1 : Int32} {x2 : Int32} {σ : Sg} {r : Int32} {σ' : Sg} (h : f_X4_feed x1 x2 σ = some (r, σ')) : Con E mX4_feed 2 [.ref (eA E 0), .int x1, .int x2] σ (some (.int r)) σ' := by
  refine con_of (by decide) (Nat.le_of_ble_eq_true rfl) (fun fr cx tg => ?_)
  show GW E fr 4 0 [(0, .ref (eA E 0)), (1, .int x1), (2, .int x2)] [] σ
  rw [f_X4_feed] at h
  refine gw_iload_n (pc' := 1) cx 2 rfl rfl dX4_feed_0 rfl ?_
  refine gw_iconst (pc' := 2) (v := 1) cx ci_1 dX4_feed_1 rfl ?_
  refine gw_iconst (pc' := 3) (v := 4) cx ci_4 dX4_feed_2 rfl ?_
  obtain ⟨r2, g1, h⟩ := ob0_some h
  refine gw_cS (pc' := 6) (av := [.int x2, .int 1, .int 4]) (rest := []) cx (k_X4_within E g1) (by decide) lk_X4_40 dX4_feed_3 rfl (Nat.le_of_ble_eq_true rfl) rfl ?_
  show GW E fr _ 6 _ (.int r2 :: _) _
  rcases ite_some h with ⟨c3, h⟩ | ⟨c3, h⟩
  · refine gw_if_ne_f (pc' := 9) cx c3 dX4_feed_6 ⟨16, by decide⟩ rfl ?_
    refine gw_aload_n (pc' := 10) cx 0 rfl rfl dX4_feed_9 rfl ?_
    refine gw_ldc (pc' := 12) (v := (-1000001)) cx ct_X4_44 dX4_feed_10 rfl ?_
    obtain ⟨r5, s6, g4, h⟩ := ob2_some h
    refine gw_cV (pc' := 15) (av := [.int (-1000001)]) (rest := []) cx (k_X4_found E g4) at0 (by decide) lk_X4_45 dX4_feed_12 rfl (Nat.le_of_ble_eq_true rfl) rfl ?_
    show GW E fr _ 15 _ (.int r5 :: _) _
    exact gw_iret cx tg (rt1 h) (rt2 h) dX4_feed_15
  · refine gw_if_ne_t (pc' := 16) cx c3 dX4_feed_6 (by decide) ?_
    refine gw_aload_n (pc' := 17) cx 0 rfl rfl dX4_feed_16 rfl ?_
    refine gw_getR (pc' := 20) cx at0 rfl fl_X4_25 dX4_feed_17 rfl ?_
    refine gw_getI (pc' := 23) cx at37 rfl fl_X4_211 dX4_feed_20 rfl ?_
    refine gw_iload_n (pc' := 24) cx 2 rfl rfl dX4_feed_23 rfl ?_
    refine gw_iadd (pc' := 25) cx dX4_feed_24 rfl ?_
    refine gw_bipush (pc' := 27) (v := 120) cx cb_120 dX4_feed_25 rfl ?_
    rcases ite_some h with ⟨c7, h⟩ | ⟨c7, h⟩
    · refine gw_ic_le_t (pc' := 37) cx c7 dX4_feed_27 (by decide) ?_
      refine gw_iload_n (pc' := 38) cx 2 rfl rfl dX4_feed_37 rfl ?_
      refine gw_iconst (pc' := 39) (v := 1) cx ci_1 dX4_feed_38 rfl ?_
      refine gw_isub (pc' := 40) cx dX4_feed_39 rfl ?_
      refine gw_istore_n (pc' := 41) (lv' := [(3, .int (x2 - 1)), (0, .ref (eA E 0)), (1, .int x1), (2, .int x2)]) cx rfl rfl (by decide) dX4_feed_40 rfl ?_
      refine gw_sub [1, 2, 0] (lv' := [(0, .ref (eA E 0)), (1, .int x1), (3, .int (x2 - 1))]) rfl ?_
      exact w_X4_feed_L41 cx tg x1 FU (x2 - 1) σ h
    · refine gw_ic_le_f (pc' := 30) cx c7 dX4_feed_27 ⟨37, by decide⟩ rfl ?_
      refine gw_aload_n (pc' := 31) cx 0 rfl rfl dX4_feed_30 rfl ?_
      refine gw_ldc (pc' := 33) (v := (-1000002)) cx ct_X4_60 dX4_feed_31 rfl ?_
      obtain ⟨r9, s10, g8, h⟩ := ob2_some h
      refine gw_cV (pc' := 36) (av := [.int (-1000002)]) (rest := []) cx (k_X4_found E g8) at0 (by decide) lk_X4_45 dX4_feed_33 rfl (Nat.le_of_ble_eq_true rfl) rfl ?_
      show GW E fr _ 36 _ (.int r9 :: _) _
      exact gw_iret cx tg (rt1 h) (rt2 h) dX4_feed_36
def f_X4_wipe (σ : Sg) : Option (Int32 × Sg) :=
  lt (up2 σ 37 1 0) fun s1 =>
  some ((σ 37 1), s1)
theorem k_X4_wipe (E : Ev)  {σ : Sg} {r : Int32} {σ' : Sg} (h : f_X4_wipe σ = some (r, σ')) : Con E mX4_wipe 0 [.ref (eA E 0)] σ (some (.int r)) σ' := by
  refine con_of (by decide) (Nat.le_of_ble_eq_true rfl) (fun fr cx tg => ?_)
  show GW E fr 2 0 [(0, .ref (eA E 0))] [] σ
  rw [f_X4_wipe] at h
  refine gw_aload_n (pc' := 1) cx 0 rfl rfl dX4_wipe_0 rfl ?_
  refine gw_getR (pc' := 4) cx at0 rfl fl_X4_25 dX4_wipe_1 rfl ?_
  refine gw_getI (pc' := 7) cx at37 rfl fl_X4_211 dX4_wipe_4 rfl ?_
  refine gw_istore_n (pc' := 8) (lv' := [(1, .int (σ 37 1)), (0, .ref (eA E 0))]) cx rfl rfl (by decide) dX4_wipe_7 rfl ?_
  refine gw_aload_n (pc' := 9) cx 1 rfl rfl dX4_wipe_8 rfl ?_
  refine gw_getR (pc' := 12) cx at0 rfl fl_X4_25 dX4_wipe_9 rfl ?_
  refine gw_iconst (pc' := 13) (v := 0) cx ci_0 dX4_wipe_12 rfl ?_
  obtain ⟨s1, e2, h⟩ := lt_some h
  refine gw_put (pc' := 16) cx at37 rfl fp_X4_211 ⟨rfl, rfl⟩ dX4_wipe_13 rfl e2 ?_
  refine gw_iload_n (pc' := 17) cx 0 rfl rfl dX4_wipe_16 rfl ?_
  exact gw_iret cx tg (rt1 h) (rt2 h) dX4_wipe_17
def f_X4_text (σ : Sg) : Option (Int32 × Sg) :=
  ob1 (f_X0_become 25 1 σ) fun s2 =>
  ob2 (f_X2_readInto 25 s2) fun r4 s5 =>
  if r4 < 0 then
    lt (up2 s5 37 1 0) fun s7 =>
    some (r4, s7)
  else
    ob1 (f_X0_become 1 25 s5) fun s10 =>
    lt (up2 s10 37 1 0) fun s11 =>
    some (r4, s11)
theorem k_X4_text (E : Ev)  {σ : Sg} {r : Int32} {σ' : Sg} (h : f_X4_text σ = some (r, σ')) : Con E mX4_text 9 [.ref (eA E 0)] σ (some (.int r)) σ' := by
  refine con_of (by decide) (Nat.le_of_ble_eq_true rfl) (fun fr cx tg => ?_)
  show GW E fr 2 0 [(0, .ref (eA E 0))] [] σ
  rw [f_X4_text] at h
  refine gw_aload_n (pc' := 1) cx 0 rfl rfl dX4_text_0 rfl ?_
  refine gw_getR (pc' := 4) cx at0 rfl fl_X4_19 dX4_text_1 rfl ?_
  refine gw_aload_n (pc' := 5) cx 0 rfl rfl dX4_text_4 rfl ?_
  refine gw_getR (pc' := 8) cx at0 rfl fl_X4_12 dX4_text_5 rfl ?_
  obtain ⟨s2, g1, h⟩ := ob1_some h
  refine gw_cV (pc' := 11) (av := [.ref (eA E 1)]) (rest := []) cx (k_X0_become E cty25 cty1 g1) (atC cty25) (by decide) lk_X4_127 dX4_text_8 rfl (Nat.le_of_ble_eq_true rfl) rfl ?_
  show GW E fr _ 11 _ [] _
  refine gw_aload_n (pc' := 12) cx 0 rfl rfl dX4_text_11 rfl ?_
  refine gw_getR (pc' := 15) cx at0 rfl fl_X4_25 dX4_text_12 rfl ?_
  refine gw_aload_n (pc' := 16) cx 0 rfl rfl dX4_text_15 rfl ?_
  refine gw_getR (pc' := 19) cx at0 rfl fl_X4_19 dX4_text_16 rfl ?_
  obtain ⟨r4, s5, g3, h⟩ := ob2_some h
  refine gw_cV (pc' := 22) (av := [.ref (eA E 25)]) (rest := []) cx (k_X2_readInto E cty25 g3) at37 (by decide) lk_X4_215 dX4_text_19 rfl (Nat.le_of_ble_eq_true rfl) rfl ?_
  show GW E fr _ 22 _ (.int r4 :: _) _
  refine gw_istore_n (pc' := 23) (lv' := [(1, .int r4), (0, .ref (eA E 0))]) cx rfl rfl (by decide) dX4_text_22 rfl ?_
  refine gw_iload_n (pc' := 24) cx 0 rfl rfl dX4_text_23 rfl ?_
  rcases ite_some h with ⟨c6, h⟩ | ⟨c6, h⟩
  · refine gw_if_lt_t (pc' := 38) cx c6 dX4_text_24 (by decide) ?_
    refine gw_aload_n (pc' := 39) cx 1 rfl rfl dX4_text_38 rfl ?_
    refine gw_getR (pc' := 42) cx at0 rfl fl_X4_25 dX4_text_39 rfl ?_
    refine gw_iconst (pc' := 43) (v := 0) cx ci_0 dX4_text_42 rfl ?_
    obtain ⟨s7, e8, h⟩ := lt_some h
    refine gw_put (pc' := 46) cx at37 rfl fp_X4_211 ⟨rfl, rfl⟩ dX4_text_43 rfl e8 ?_
    refine gw_iload_n (pc' := 47) cx 0 rfl rfl dX4_text_46 rfl ?_
    exact gw_iret cx tg (rt1 h) (rt2 h) dX4_text_47
  · refine gw_if_lt_f (pc' := 27) cx c6 dX4_text_24 ⟨38, by decide⟩ rfl ?_
    refine gw_aload_n (pc' := 28) cx 1 rfl rfl dX4_text_27 rfl ?_
    refine gw_getR (pc' := 31) cx at0 rfl fl_X4_12 dX4_text_28 rfl ?_
    refine gw_aload_n (pc' := 32) cx 1 rfl rfl dX4_text_31 rfl ?_
    refine gw_getR (pc' := 35) cx at0 rfl fl_X4_19 dX4_text_32 rfl ?_
    obtain ⟨s10, g9, h⟩ := ob1_some h
    refine gw_cV (pc' := 38) (av := [.ref (eA E 25)]) (rest := []) cx (k_X0_become E cty1 cty25 g9) (atC cty1) (by decide) lk_X4_127 dX4_text_35 rfl (Nat.le_of_ble_eq_true rfl) rfl ?_
    show GW E fr _ 38 _ [] _
    refine gw_aload_n (pc' := 39) cx 1 rfl rfl dX4_text_38 rfl ?_
    refine gw_getR (pc' := 42) cx at0 rfl fl_X4_25 dX4_text_39 rfl ?_
    refine gw_iconst (pc' := 43) (v := 0) cx ci_0 dX4_text_42 rfl ?_
    obtain ⟨s11, e12, h⟩ := lt_some h
    refine gw_put (pc' := 46) cx at37 rfl fp_X4_211 ⟨rfl, rfl⟩ dX4_text_43 rfl e12 ?_
    refine gw_iload_n (pc' := 47) cx 0 rfl rfl dX4_text_46 rfl ?_
    exact gw_iret cx tg (rt1 h) (rt2 h) dX4_text_47
def f_X4_hold (x1 : Int32) (x2 : Int32) (σ : Sg) : Option (Int32 × Sg) :=
  ob0 (f_X4_within x1 0 9 σ) fun r2 =>
  if r2 = 0 then
    ob2 (f_X4_found (-1000001) σ) fun r5 s6 =>
    some (r5, s6)
  else
    if x2 = (-1) then
      chk x1 10 <|
      lt (up2 σ (1 + 3) x1.toNatClampNeg x2) fun s9 =>
      some (1, s9)
    else
      ob0 (f_X0_has 1 x2 σ) fun r12 =>
      if r12 = 0 then
        ob2 (f_X4_found (-1000001) σ) fun r15 s16 =>
        some (r15, s16)
      else
        chk x1 10 <|
        lt (up2 σ (1 + 3) x1.toNatClampNeg x2) fun s18 =>
        some (1, s18)
theorem k_X4_hold (E : Ev) {x1 : Int32} {x2 : Int32} {σ : Sg} {r : Int32} {σ' : Sg} (h : f_X4_hold x1 x2 σ = some (r, σ')) : Con E mX4_hold 2 [.ref (eA E 0), .int x1, .int x2] σ (some (.int r)) σ' := by
  refine con_of (by decide) (Nat.le_of_ble_eq_true rfl) (fun fr cx tg => ?_)
  show GW E fr 3 0 [(0, .ref (eA E 0)), (1, .int x1), (2, .int x2)] [] σ
  rw [f_X4_hold] at h
  refine gw_iload_n (pc' := 1) cx 1 rfl rfl dX4_hold_0 rfl ?_
  refine gw_iconst (pc' := 2) (v := 0) cx ci_0 dX4_hold_1 rfl ?_
  refine gw_bipush (pc' := 4) (v := 9) cx cb_9 dX4_hold_2 rfl ?_
  obtain ⟨r2, g1, h⟩ := ob0_some h
  refine gw_cS (pc' := 7) (av := [.int x1, .int 0, .int 9]) (rest := []) cx (k_X4_within E g1) (by decide) lk_X4_40 dX4_hold_4 rfl (Nat.le_of_ble_eq_true rfl) rfl ?_
  show GW E fr _ 7 _ (.int r2 :: _) _
  rcases ite_some h with ⟨c3, h⟩ | ⟨c3, h⟩
  · refine gw_if_eq_t (pc' := 26) cx c3 dX4_hold_7 (by decide) ?_
    refine gw_aload_n (pc' := 27) cx 0 rfl rfl dX4_hold_26 rfl ?_
    refine gw_ldc (pc' := 29) (v := (-1000001)) cx ct_X4_44 dX4_hold_27 rfl ?_
    obtain ⟨r5, s6, g4, h⟩ := ob2_some h
    refine gw_cV (pc' := 32) (av := [.int (-1000001)]) (rest := []) cx (k_X4_found E g4) at0 (by decide) lk_X4_45 dX4_hold_29 rfl (Nat.le_of_ble_eq_true rfl) rfl ?_
    show GW E fr _ 32 _ (.int r5 :: _) _
    exact gw_iret cx tg (rt1 h) (rt2 h) dX4_hold_32
  · refine gw_if_eq_f (pc' := 10) cx c3 dX4_hold_7 ⟨26, by decide⟩ rfl ?_
    refine gw_iload_n (pc' := 11) cx 2 rfl rfl dX4_hold_10 rfl ?_
    refine gw_iconst (pc' := 12) (v := (-1)) cx ci_m1 dX4_hold_11 rfl ?_
    rcases ite_some h with ⟨c7, h⟩ | ⟨c7, h⟩
    · refine gw_ic_eq_t (pc' := 33) cx c7 dX4_hold_12 (by decide) ?_
      refine gw_aload_n (pc' := 34) cx 0 rfl rfl dX4_hold_33 rfl ?_
      refine gw_getR (pc' := 37) cx at0 rfl fl_X4_12 dX4_hold_34 rfl ?_
      refine gw_getR (pc' := 40) cx (atC cty1) rfl fl_X4_219 dX4_hold_37 rfl ?_
      refine gw_iload_n (pc' := 41) cx 1 rfl rfl dX4_hold_40 rfl ?_
      refine gw_iload_n (pc' := 42) cx 2 rfl rfl dX4_hold_41 rfl ?_
      obtain ⟨i8, h⟩ := chk_some h
      obtain ⟨s9, e10, h⟩ := lt_some h
      refine gw_iast (pc' := 43) cx (atCs cty1) i8 rfl dX4_hold_42 rfl e10 ?_
      refine gw_iconst (pc' := 44) (v := 1) cx ci_1 dX4_hold_43 rfl ?_
      exact gw_iret cx tg (rt1 h) (rt2 h) dX4_hold_44
    · refine gw_ic_eq_f (pc' := 15) cx c7 dX4_hold_12 ⟨33, by decide⟩ rfl ?_
      refine gw_aload_n (pc' := 16) cx 0 rfl rfl dX4_hold_15 rfl ?_
      refine gw_getR (pc' := 19) cx at0 rfl fl_X4_12 dX4_hold_16 rfl ?_
      refine gw_iload_n (pc' := 20) cx 2 rfl rfl dX4_hold_19 rfl ?_
      obtain ⟨r12, g11, h⟩ := ob0_some h
      refine gw_cV (pc' := 23) (av := [.int x2]) (rest := []) cx (k_X0_has E cty1 g11) (atC cty1) (by decide) lk_X4_64 dX4_hold_20 rfl (Nat.le_of_ble_eq_true rfl) rfl ?_
      show GW E fr _ 23 _ (.int r12 :: _) _
      rcases ite_some h with ⟨c13, h⟩ | ⟨c13, h⟩
      · refine gw_if_ne_f (pc' := 26) cx c13 dX4_hold_23 ⟨33, by decide⟩ rfl ?_
        refine gw_aload_n (pc' := 27) cx 0 rfl rfl dX4_hold_26 rfl ?_
        refine gw_ldc (pc' := 29) (v := (-1000001)) cx ct_X4_44 dX4_hold_27 rfl ?_
        obtain ⟨r15, s16, g14, h⟩ := ob2_some h
        refine gw_cV (pc' := 32) (av := [.int (-1000001)]) (rest := []) cx (k_X4_found E g14) at0 (by decide) lk_X4_45 dX4_hold_29 rfl (Nat.le_of_ble_eq_true rfl) rfl ?_
        show GW E fr _ 32 _ (.int r15 :: _) _
        exact gw_iret cx tg (rt1 h) (rt2 h) dX4_hold_32
      · refine gw_if_ne_t (pc' := 33) cx c13 dX4_hold_23 (by decide) ?_
        refine gw_aload_n (pc' := 34) cx 0 rfl rfl dX4_hold_33 rfl ?_
        refine gw_getR (pc' := 37) cx at0 rfl fl_X4_12 dX4_hold_34 rfl ?_
        refine gw_getR (pc' := 40) cx (atC cty1) rfl fl_X4_219 dX4_hold_37 rfl ?_
        refine gw_iload_n (pc' := 41) cx 1 rfl rfl dX4_hold_40 rfl ?_
        refine gw_iload_n (pc' := 42) cx 2 rfl rfl dX4_hold_41 rfl ?_
        obtain ⟨i17, h⟩ := chk_some h
        obtain ⟨s18, e19, h⟩ := lt_some h
        refine gw_iast (pc' := 43) cx (atCs cty1) i17 rfl dX4_hold_42 rfl e19 ?_
        refine gw_iconst (pc' := 44) (v := 1) cx ci_1 dX4_hold_43 rfl ?_
        exact gw_iret cx tg (rt1 h) (rt2 h) dX4_hold_44
def f_X4_as (x1 : Int32) (x2 : Int32) (σ : Sg) : Option (Int32 × Sg) :=
  ob0 (f_X4_within x1 0 9 σ) fun r2 =>
  if r2 = 0 then
    ob2 (f_X4_found (-1000001) σ) fun r5 s6 =>
    some (r5, s6)
  else
    ob0 (f_X4_within x2 0 6 σ) fun r8 =>
    if r8 = 0 then
      ob2 (f_X4_found (-1000001) σ) fun r11 s12 =>
      some (r11, s12)
    else
      chk x1 10 <|
      ob0 (f_X0_has 1 (σ (1 + 3) x1.toNatClampNeg) σ) fun r15 =>
      if r15 = 0 then
        ob2 (f_X4_found (-1000006) σ) fun r18 s19 =>
        some (r18, s19)
      else
        chk (σ (1 + 3) x1.toNatClampNeg) 8 <|
        ob0 (f_X1_isOfKind (1 + 4 + (σ (1 + 3) x1.toNatClampNeg).toNatClampNeg) x2 σ) fun r22 =>
        if r22 = 0 then
          ob2 (f_X4_found (-1000003) σ) fun r25 s26 =>
          some (r25, s26)
        else
          some ((σ (1 + 3) x1.toNatClampNeg), σ)
theorem k_X4_as (E : Ev) {x1 : Int32} {x2 : Int32} {σ : Sg} {r : Int32} {σ' : Sg} (h : f_X4_as x1 x2 σ = some (r, σ')) : Con E mX4_as 2 [.ref (eA E 0), .int x1, .int x2] σ (some (.int r)) σ' := by
  refine con_of (by decide) (Nat.le_of_ble_eq_true rfl) (fun fr cx tg => ?_)
  show GW E fr 4 0 [(0, .ref (eA E 0)), (1, .int x1), (2, .int x2)] [] σ
  rw [f_X4_as] at h
  refine gw_iload_n (pc' := 1) cx 1 rfl rfl dX4_as_0 rfl ?_
  refine gw_iconst (pc' := 2) (v := 0) cx ci_0 dX4_as_1 rfl ?_
  refine gw_bipush (pc' := 4) (v := 9) cx cb_9 dX4_as_2 rfl ?_
  obtain ⟨r2, g1, h⟩ := ob0_some h
  refine gw_cS (pc' := 7) (av := [.int x1, .int 0, .int 9]) (rest := []) cx (k_X4_within E g1) (by decide) lk_X4_40 dX4_as_4 rfl (Nat.le_of_ble_eq_true rfl) rfl ?_
  show GW E fr _ 7 _ (.int r2 :: _) _
  rcases ite_some h with ⟨c3, h⟩ | ⟨c3, h⟩
  · refine gw_if_eq_t (pc' := 20) cx c3 dX4_as_7 (by decide) ?_
    refine gw_aload_n (pc' := 21) cx 0 rfl rfl dX4_as_20 rfl ?_
    refine gw_ldc (pc' := 23) (v := (-1000001)) cx ct_X4_44 dX4_as_21 rfl ?_
    obtain ⟨r5, s6, g4, h⟩ := ob2_some h
    refine gw_cV (pc' := 26) (av := [.int (-1000001)]) (rest := []) cx (k_X4_found E g4) at0 (by decide) lk_X4_45 dX4_as_23 rfl (Nat.le_of_ble_eq_true rfl) rfl ?_
    show GW E fr _ 26 _ (.int r5 :: _) _
    exact gw_iret cx tg (rt1 h) (rt2 h) dX4_as_26
  · refine gw_if_eq_f (pc' := 10) cx c3 dX4_as_7 ⟨20, by decide⟩ rfl ?_
    refine gw_iload_n (pc' := 11) cx 2 rfl rfl dX4_as_10 rfl ?_
    refine gw_iconst (pc' := 12) (v := 0) cx ci_0 dX4_as_11 rfl ?_
    refine gw_bipush (pc' := 14) (v := 6) cx cb_6 dX4_as_12 rfl ?_
    obtain ⟨r8, g7, h⟩ := ob0_some h
    refine gw_cS (pc' := 17) (av := [.int x2, .int 0, .int 6]) (rest := []) cx (k_X4_within E g7) (by decide) lk_X4_40 dX4_as_14 rfl (Nat.le_of_ble_eq_true rfl) rfl ?_
    show GW E fr _ 17 _ (.int r8 :: _) _
    rcases ite_some h with ⟨c9, h⟩ | ⟨c9, h⟩
    · refine gw_if_ne_f (pc' := 20) cx c9 dX4_as_17 ⟨27, by decide⟩ rfl ?_
      refine gw_aload_n (pc' := 21) cx 0 rfl rfl dX4_as_20 rfl ?_
      refine gw_ldc (pc' := 23) (v := (-1000001)) cx ct_X4_44 dX4_as_21 rfl ?_
      obtain ⟨r11, s12, g10, h⟩ := ob2_some h
      refine gw_cV (pc' := 26) (av := [.int (-1000001)]) (rest := []) cx (k_X4_found E g10) at0 (by decide) lk_X4_45 dX4_as_23 rfl (Nat.le_of_ble_eq_true rfl) rfl ?_
      show GW E fr _ 26 _ (.int r11 :: _) _
      exact gw_iret cx tg (rt1 h) (rt2 h) dX4_as_26
    · refine gw_if_ne_t (pc' := 27) cx c9 dX4_as_17 (by decide) ?_
      refine gw_aload_n (pc' := 28) cx 0 rfl rfl dX4_as_27 rfl ?_
      refine gw_getR (pc' := 31) cx at0 rfl fl_X4_12 dX4_as_28 rfl ?_
      refine gw_getR (pc' := 34) cx (atC cty1) rfl fl_X4_219 dX4_as_31 rfl ?_
      refine gw_iload_n (pc' := 35) cx 1 rfl rfl dX4_as_34 rfl ?_
      obtain ⟨i13, h⟩ := chk_some h
      refine gw_iald (pc' := 36) cx (atCs cty1) i13 rfl dX4_as_35 rfl ?_
      refine gw_istore_n (pc' := 37) (lv' := [(3, .int (σ (1 + 3) x1.toNatClampNeg)), (0, .ref (eA E 0)), (1, .int x1), (2, .int x2)]) cx rfl rfl (by decide) dX4_as_36 rfl ?_
      refine gw_aload_n (pc' := 38) cx 1 rfl rfl dX4_as_37 rfl ?_
      refine gw_getR (pc' := 41) cx at0 rfl fl_X4_12 dX4_as_38 rfl ?_
      refine gw_iload_n (pc' := 42) cx 0 rfl rfl dX4_as_41 rfl ?_
      obtain ⟨r15, g14, h⟩ := ob0_some h
      refine gw_cV (pc' := 45) (av := [.int (σ (1 + 3) x1.toNatClampNeg)]) (rest := []) cx (k_X0_has E cty1 g14) (atC cty1) (by decide) lk_X4_64 dX4_as_42 rfl (Nat.le_of_ble_eq_true rfl) rfl ?_
      show GW E fr _ 45 _ (.int r15 :: _) _
      rcases ite_some h with ⟨c16, h⟩ | ⟨c16, h⟩
      · refine gw_if_ne_f (pc' := 48) cx c16 dX4_as_45 ⟨55, by decide⟩ rfl ?_
        refine gw_aload_n (pc' := 49) cx 1 rfl rfl dX4_as_48 rfl ?_
        refine gw_ldc (pc' := 51) (v := (-1000006)) cx ct_X4_222 dX4_as_49 rfl ?_
        obtain ⟨r18, s19, g17, h⟩ := ob2_some h
        refine gw_cV (pc' := 54) (av := [.int (-1000006)]) (rest := []) cx (k_X4_found E g17) at0 (by decide) lk_X4_45 dX4_as_51 rfl (Nat.le_of_ble_eq_true rfl) rfl ?_
        show GW E fr _ 54 _ (.int r18 :: _) _
        exact gw_iret cx tg (rt1 h) (rt2 h) dX4_as_54
      · refine gw_if_ne_t (pc' := 55) cx c16 dX4_as_45 (by decide) ?_
        refine gw_aload_n (pc' := 56) cx 1 rfl rfl dX4_as_55 rfl ?_
        refine gw_getR (pc' := 59) cx at0 rfl fl_X4_12 dX4_as_56 rfl ?_
        refine gw_getR (pc' := 62) cx (atC cty1) rfl fl_X4_68 dX4_as_59 rfl ?_
        refine gw_iload_n (pc' := 63) cx 0 rfl rfl dX4_as_62 rfl ?_
        obtain ⟨i20, h⟩ := chk_some h
        refine gw_aald (pc' := 64) cx (atCp cty1) i20 dX4_as_63 rfl ?_
        refine gw_iload_n (pc' := 65) cx 3 rfl rfl dX4_as_64 rfl ?_
        obtain ⟨r22, g21, h⟩ := ob0_some h
        refine gw_cV (pc' := 68) (av := [.int x2]) (rest := []) cx (k_X1_isOfKind E (psn_of cty1 i20) g21) (atP (psn_of cty1 i20)) (by decide) lk_X4_223 dX4_as_65 rfl (Nat.le_of_ble_eq_true rfl) rfl ?_
        show GW E fr _ 68 _ (.int r22 :: _) _
        rcases ite_some h with ⟨c23, h⟩ | ⟨c23, h⟩
        · refine gw_if_eq_t (pc' := 75) cx c23 dX4_as_68 (by decide) ?_
          refine gw_aload_n (pc' := 76) cx 1 rfl rfl dX4_as_75 rfl ?_
          refine gw_ldc (pc' := 78) (v := (-1000003)) cx ct_X4_226 dX4_as_76 rfl ?_
          obtain ⟨r25, s26, g24, h⟩ := ob2_some h
          refine gw_cV (pc' := 81) (av := [.int (-1000003)]) (rest := []) cx (k_X4_found E g24) at0 (by decide) lk_X4_45 dX4_as_78 rfl (Nat.le_of_ble_eq_true rfl) rfl ?_
          show GW E fr _ 81 _ (.int r25 :: _) _
          exact gw_iret cx tg (rt1 h) (rt2 h) dX4_as_81
        · refine gw_if_eq_f (pc' := 71) cx c23 dX4_as_68 ⟨75, by decide⟩ rfl ?_
          refine gw_iload_n (pc' := 72) cx 0 rfl rfl dX4_as_71 rfl ?_
          refine gw_goto (pc' := 81) cx dX4_as_72 (by decide) ?_
          exact gw_iret cx tg (rt1 h) (rt2 h) dX4_as_81
def f_X4_sheet (x1 : Int32) (x2 : Int32) (x3 : Int32) (σ : Sg) : Option (Int32 × Sg) :=
  ob0 (f_X4_within x1 0 3 σ) fun r2 =>
  if r2 = 0 then
    ob2 (f_X4_found (-1000001) σ) fun r5 s6 =>
    some (r5, s6)
  else
    if x2 = 0 then
      if 0 ≤ x3 then
        if x3 ≤ 40 then
          chk x1 4 <|
          ob1 (f_X3_lay (40 + x1.toNatClampNeg) x2 0 σ) fun s12 =>
          some ((s12 (40 + x1.toNatClampNeg) 2), s12)
        else
          ob2 (f_X4_found (-1000001) σ) fun r14 s15 =>
          some (r14, s15)
      else
        ob2 (f_X4_found (-1000007) σ) fun r17 s18 =>
        some (r17, s18)
    else
      if x2 = 8 then
        if 0 ≤ x3 then
          if x3 ≤ 40 then
            chk x1 4 <|
            ob1 (f_X3_lay (40 + x1.toNatClampNeg) x2 x3 σ) fun s24 =>
            some ((s24 (40 + x1.toNatClampNeg) 2), s24)
          else
            ob2 (f_X4_found (-1000001) σ) fun r26 s27 =>
            some (r26, s27)
        else
          ob2 (f_X4_found (-1000007) σ) fun r29 s30 =>
          some (r29, s30)
      else
        if x2 = 16 then
          if 0 ≤ x3 then
            if x3 ≤ 40 then
              chk x1 4 <|
              ob1 (f_X3_lay (40 + x1.toNatClampNeg) x2 x3 σ) fun s36 =>
              some ((s36 (40 + x1.toNatClampNeg) 2), s36)
            else
              ob2 (f_X4_found (-1000001) σ) fun r38 s39 =>
              some (r38, s39)
          else
            ob2 (f_X4_found (-1000007) σ) fun r41 s42 =>
            some (r41, s42)
        else
          if x2 = 32 then
            if 0 ≤ x3 then
              if x3 ≤ 40 then
                chk x1 4 <|
                ob1 (f_X3_lay (40 + x1.toNatClampNeg) x2 x3 σ) fun s48 =>
                some ((s48 (40 + x1.toNatClampNeg) 2), s48)
              else
                ob2 (f_X4_found (-1000001) σ) fun r50 s51 =>
                some (r50, s51)
            else
              ob2 (f_X4_found (-1000007) σ) fun r53 s54 =>
              some (r53, s54)
          else
            ob2 (f_X4_found (-1000001) σ) fun r56 s57 =>
            some (r56, s57)
theorem k_X4_sheet (E : Ev) {x1 : Int32} {x2 : Int32} {x3 : Int32} {σ : Sg} {r : Int32} {σ' : Sg} (h : f_X4_sheet x1 x2 x3 σ = some (r, σ')) : Con E mX4_sheet 2 [.ref (eA E 0), .int x1, .int x2, .int x3] σ (some (.int r)) σ' := by
  refine con_of (by decide) (Nat.le_of_ble_eq_true rfl) (fun fr cx tg => ?_)
  show GW E fr 4 0 [(0, .ref (eA E 0)), (1, .int x1), (2, .int x2), (3, .int x3)] [] σ
  rw [f_X4_sheet] at h
  refine gw_iload_n (pc' := 1) cx 1 rfl rfl dX4_sheet_0 rfl ?_
  refine gw_iconst (pc' := 2) (v := 0) cx ci_0 dX4_sheet_1 rfl ?_
  refine gw_iconst (pc' := 3) (v := 3) cx ci_3 dX4_sheet_2 rfl ?_
  obtain ⟨r2, g1, h⟩ := ob0_some h
  refine gw_cS (pc' := 6) (av := [.int x1, .int 0, .int 3]) (rest := []) cx (k_X4_within E g1) (by decide) lk_X4_40 dX4_sheet_3 rfl (Nat.le_of_ble_eq_true rfl) rfl ?_
  show GW E fr _ 6 _ (.int r2 :: _) _
  rcases ite_some h with ⟨c3, h⟩ | ⟨c3, h⟩
  · refine gw_if_eq_t (pc' := 31) cx c3 dX4_sheet_6 (by decide) ?_
    refine gw_aload_n (pc' := 32) cx 0 rfl rfl dX4_sheet_31 rfl ?_
    refine gw_ldc (pc' := 34) (v := (-1000001)) cx ct_X4_44 dX4_sheet_32 rfl ?_
    obtain ⟨r5, s6, g4, h⟩ := ob2_some h
    refine gw_cV (pc' := 37) (av := [.int (-1000001)]) (rest := []) cx (k_X4_found E g4) at0 (by decide) lk_X4_45 dX4_sheet_34 rfl (Nat.le_of_ble_eq_true rfl) rfl ?_
    show GW E fr _ 37 _ (.int r5 :: _) _
    exact gw_iret cx tg (rt1 h) (rt2 h) dX4_sheet_37
  · refine gw_if_eq_f (pc' := 9) cx c3 dX4_sheet_6 ⟨31, by decide⟩ rfl ?_
    refine gw_iload_n (pc' := 10) cx 2 rfl rfl dX4_sheet_9 rfl ?_
    rcases ite_some h with ⟨c7, h⟩ | ⟨c7, h⟩
    · refine gw_if_eq_t (pc' := 38) cx c7 dX4_sheet_10 (by decide) ?_
      refine gw_iload_n (pc' := 39) cx 3 rfl rfl dX4_sheet_38 rfl ?_
      rcases ite_some h with ⟨c8, h⟩ | ⟨c8, h⟩
      · refine gw_if_ge_t (pc' := 49) cx c8 dX4_sheet_39 (by decide) ?_
        refine gw_iload_n (pc' := 50) cx 3 rfl rfl dX4_sheet_49 rfl ?_
        refine gw_bipush (pc' := 52) (v := 40) cx cb_40 dX4_sheet_50 rfl ?_
        rcases ite_some h with ⟨c9, h⟩ | ⟨c9, h⟩
        · refine gw_ic_le_t (pc' := 62) cx c9 dX4_sheet_52 (by decide) ?_
          refine gw_aload_n (pc' := 63) cx 0 rfl rfl dX4_sheet_62 rfl ?_
          refine gw_getR (pc' := 66) cx at0 rfl fl_X4_31 dX4_sheet_63 rfl ?_
          refine gw_iload_n (pc' := 67) cx 1 rfl rfl dX4_sheet_66 rfl ?_
          obtain ⟨i10, h⟩ := chk_some h
          refine gw_aald (pc' := 68) cx at39 i10 dX4_sheet_67 rfl ?_
          refine gw_iload_n (pc' := 69) cx 2 rfl rfl dX4_sheet_68 rfl ?_
          refine gw_iload_n (pc' := 70) cx 2 rfl rfl dX4_sheet_69 rfl ?_
          refine gw_if_ne_f (pc' := 73) cx c7 dX4_sheet_70 ⟨77, by decide⟩ rfl ?_
          refine gw_iconst (pc' := 74) (v := 0) cx ci_0 dX4_sheet_73 rfl ?_
          refine gw_goto (pc' := 78) cx dX4_sheet_74 (by decide) ?_
          obtain ⟨s12, g11, h⟩ := ob1_some h
          refine gw_cV (pc' := 81) (av := [.int x2, .int 0]) (rest := []) cx (k_X3_lay E (sht_of i10) g11) (atS (sht_of i10)) (by decide) lk_X4_228 dX4_sheet_78 rfl (Nat.le_of_ble_eq_true rfl) rfl ?_
          show GW E fr _ 81 _ [] _
          refine gw_aload_n (pc' := 82) cx 0 rfl rfl dX4_sheet_81 rfl ?_
          refine gw_getR (pc' := 85) cx at0 rfl fl_X4_31 dX4_sheet_82 rfl ?_
          refine gw_iload_n (pc' := 86) cx 1 rfl rfl dX4_sheet_85 rfl ?_
          refine gw_aald (pc' := 87) cx at39 i10 dX4_sheet_86 rfl ?_
          refine gw_getI (pc' := 90) cx (atS (sht_of i10)) rfl fl_X4_191 dX4_sheet_87 rfl ?_
          exact gw_iret cx tg (rt1 h) (rt2 h) dX4_sheet_90
        · refine gw_ic_le_f (pc' := 55) cx c9 dX4_sheet_52 ⟨62, by decide⟩ rfl ?_
          refine gw_aload_n (pc' := 56) cx 0 rfl rfl dX4_sheet_55 rfl ?_
          refine gw_ldc (pc' := 58) (v := (-1000001)) cx ct_X4_44 dX4_sheet_56 rfl ?_
          obtain ⟨r14, s15, g13, h⟩ := ob2_some h
          refine gw_cV (pc' := 61) (av := [.int (-1000001)]) (rest := []) cx (k_X4_found E g13) at0 (by decide) lk_X4_45 dX4_sheet_58 rfl (Nat.le_of_ble_eq_true rfl) rfl ?_
          show GW E fr _ 61 _ (.int r14 :: _) _
          exact gw_iret cx tg (rt1 h) (rt2 h) dX4_sheet_61
      · refine gw_if_ge_f (pc' := 42) cx c8 dX4_sheet_39 ⟨49, by decide⟩ rfl ?_
        refine gw_aload_n (pc' := 43) cx 0 rfl rfl dX4_sheet_42 rfl ?_
        refine gw_ldc (pc' := 45) (v := (-1000007)) cx ct_X4_227 dX4_sheet_43 rfl ?_
        obtain ⟨r17, s18, g16, h⟩ := ob2_some h
        refine gw_cV (pc' := 48) (av := [.int (-1000007)]) (rest := []) cx (k_X4_found E g16) at0 (by decide) lk_X4_45 dX4_sheet_45 rfl (Nat.le_of_ble_eq_true rfl) rfl ?_
        show GW E fr _ 48 _ (.int r17 :: _) _
        exact gw_iret cx tg (rt1 h) (rt2 h) dX4_sheet_48
    · refine gw_if_eq_f (pc' := 13) cx c7 dX4_sheet_10 ⟨38, by decide⟩ rfl ?_
      refine gw_iload_n (pc' := 14) cx 2 rfl rfl dX4_sheet_13 rfl ?_
      refine gw_bipush (pc' := 16) (v := 8) cx cb_8 dX4_sheet_14 rfl ?_
      rcases ite_some h with ⟨c19, h⟩ | ⟨c19, h⟩
      · refine gw_ic_eq_t (pc' := 38) cx c19 dX4_sheet_16 (by decide) ?_
        refine gw_iload_n (pc' := 39) cx 3 rfl rfl dX4_sheet_38 rfl ?_
        rcases ite_some h with ⟨c20, h⟩ | ⟨c20, h⟩
        · refine gw_if_ge_t (pc' := 49) cx c20 dX4_sheet_39 (by decide) ?_
          refine gw_iload_n (pc' := 50) cx 3 rfl rfl dX4_sheet_49 rfl ?_
          refine gw_bipush (pc' := 52) (v := 40) cx cb_40 dX4_sheet_50 rfl ?_
          rcases ite_some h with ⟨c21, h⟩ | ⟨c21, h⟩
          · refine gw_ic_le_t (pc' := 62) cx c21 dX4_sheet_52 (by decide) ?_
            refine gw_aload_n (pc' := 63) cx 0 rfl rfl dX4_sheet_62 rfl ?_
            refine gw_getR (pc' := 66) cx at0 rfl fl_X4_31 dX4_sheet_63 rfl ?_
            refine gw_iload_n (pc' := 67) cx 1 rfl rfl dX4_sheet_66 rfl ?_
            obtain ⟨i22, h⟩ := chk_some h
            refine gw_aald (pc' := 68) cx at39 i22 dX4_sheet_67 rfl ?_
            refine gw_iload_n (pc' := 69) cx 2 rfl rfl dX4_sheet_68 rfl ?_
            refine gw_iload_n (pc' := 70) cx 2 rfl rfl dX4_sheet_69 rfl ?_
            refine gw_if_ne_t (pc' := 77) cx c7 dX4_sheet_70 (by decide) ?_
            refine gw_iload_n (pc' := 78) cx 3 rfl rfl dX4_sheet_77 rfl ?_
            obtain ⟨s24, g23, h⟩ := ob1_some h
            refine gw_cV (pc' := 81) (av := [.int x2, .int x3]) (rest := []) cx (k_X3_lay E (sht_of i22) g23) (atS (sht_of i22)) (by decide) lk_X4_228 dX4_sheet_78 rfl (Nat.le_of_ble_eq_true rfl) rfl ?_
            show GW E fr _ 81 _ [] _
            refine gw_aload_n (pc' := 82) cx 0 rfl rfl dX4_sheet_81 rfl ?_
            refine gw_getR (pc' := 85) cx at0 rfl fl_X4_31 dX4_sheet_82 rfl ?_
            refine gw_iload_n (pc' := 86) cx 1 rfl rfl dX4_sheet_85 rfl ?_
            refine gw_aald (pc' := 87) cx at39 i22 dX4_sheet_86 rfl ?_
            refine gw_getI (pc' := 90) cx (atS (sht_of i22)) rfl fl_X4_191 dX4_sheet_87 rfl ?_
            exact gw_iret cx tg (rt1 h) (rt2 h) dX4_sheet_90
          · refine gw_ic_le_f (pc' := 55) cx c21 dX4_sheet_52 ⟨62, by decide⟩ rfl ?_
            refine gw_aload_n (pc' := 56) cx 0 rfl rfl dX4_sheet_55 rfl ?_
            refine gw_ldc (pc' := 58) (v := (-1000001)) cx ct_X4_44 dX4_sheet_56 rfl ?_
            obtain ⟨r26, s27, g25, h⟩ := ob2_some h
            refine gw_cV (pc' := 61) (av := [.int (-1000001)]) (rest := []) cx (k_X4_found E g25) at0 (by decide) lk_X4_45 dX4_sheet_58 rfl (Nat.le_of_ble_eq_true rfl) rfl ?_
            show GW E fr _ 61 _ (.int r26 :: _) _
            exact gw_iret cx tg (rt1 h) (rt2 h) dX4_sheet_61
        · refine gw_if_ge_f (pc' := 42) cx c20 dX4_sheet_39 ⟨49, by decide⟩ rfl ?_
          refine gw_aload_n (pc' := 43) cx 0 rfl rfl dX4_sheet_42 rfl ?_
          refine gw_ldc (pc' := 45) (v := (-1000007)) cx ct_X4_227 dX4_sheet_43 rfl ?_
          obtain ⟨r29, s30, g28, h⟩ := ob2_some h
          refine gw_cV (pc' := 48) (av := [.int (-1000007)]) (rest := []) cx (k_X4_found E g28) at0 (by decide) lk_X4_45 dX4_sheet_45 rfl (Nat.le_of_ble_eq_true rfl) rfl ?_
          show GW E fr _ 48 _ (.int r29 :: _) _
          exact gw_iret cx tg (rt1 h) (rt2 h) dX4_sheet_48
      · refine gw_ic_eq_f (pc' := 19) cx c19 dX4_sheet_16 ⟨38, by decide⟩ rfl ?_
        refine gw_iload_n (pc' := 20) cx 2 rfl rfl dX4_sheet_19 rfl ?_
        refine gw_bipush (pc' := 22) (v := 16) cx cb_16 dX4_sheet_20 rfl ?_
        rcases ite_some h with ⟨c31, h⟩ | ⟨c31, h⟩
        · refine gw_ic_eq_t (pc' := 38) cx c31 dX4_sheet_22 (by decide) ?_
          refine gw_iload_n (pc' := 39) cx 3 rfl rfl dX4_sheet_38 rfl ?_
          rcases ite_some h with ⟨c32, h⟩ | ⟨c32, h⟩
          · refine gw_if_ge_t (pc' := 49) cx c32 dX4_sheet_39 (by decide) ?_
            refine gw_iload_n (pc' := 50) cx 3 rfl rfl dX4_sheet_49 rfl ?_
            refine gw_bipush (pc' := 52) (v := 40) cx cb_40 dX4_sheet_50 rfl ?_
            rcases ite_some h with ⟨c33, h⟩ | ⟨c33, h⟩
            · refine gw_ic_le_t (pc' := 62) cx c33 dX4_sheet_52 (by decide) ?_
              refine gw_aload_n (pc' := 63) cx 0 rfl rfl dX4_sheet_62 rfl ?_
              refine gw_getR (pc' := 66) cx at0 rfl fl_X4_31 dX4_sheet_63 rfl ?_
              refine gw_iload_n (pc' := 67) cx 1 rfl rfl dX4_sheet_66 rfl ?_
              obtain ⟨i34, h⟩ := chk_some h
              refine gw_aald (pc' := 68) cx at39 i34 dX4_sheet_67 rfl ?_
              refine gw_iload_n (pc' := 69) cx 2 rfl rfl dX4_sheet_68 rfl ?_
              refine gw_iload_n (pc' := 70) cx 2 rfl rfl dX4_sheet_69 rfl ?_
              refine gw_if_ne_t (pc' := 77) cx c7 dX4_sheet_70 (by decide) ?_
              refine gw_iload_n (pc' := 78) cx 3 rfl rfl dX4_sheet_77 rfl ?_
              obtain ⟨s36, g35, h⟩ := ob1_some h
              refine gw_cV (pc' := 81) (av := [.int x2, .int x3]) (rest := []) cx (k_X3_lay E (sht_of i34) g35) (atS (sht_of i34)) (by decide) lk_X4_228 dX4_sheet_78 rfl (Nat.le_of_ble_eq_true rfl) rfl ?_
              show GW E fr _ 81 _ [] _
              refine gw_aload_n (pc' := 82) cx 0 rfl rfl dX4_sheet_81 rfl ?_
              refine gw_getR (pc' := 85) cx at0 rfl fl_X4_31 dX4_sheet_82 rfl ?_
              refine gw_iload_n (pc' := 86) cx 1 rfl rfl dX4_sheet_85 rfl ?_
              refine gw_aald (pc' := 87) cx at39 i34 dX4_sheet_86 rfl ?_
              refine gw_getI (pc' := 90) cx (atS (sht_of i34)) rfl fl_X4_191 dX4_sheet_87 rfl ?_
              exact gw_iret cx tg (rt1 h) (rt2 h) dX4_sheet_90
            · refine gw_ic_le_f (pc' := 55) cx c33 dX4_sheet_52 ⟨62, by decide⟩ rfl ?_
              refine gw_aload_n (pc' := 56) cx 0 rfl rfl dX4_sheet_55 rfl ?_
              refine gw_ldc (pc' := 58) (v := (-1000001)) cx ct_X4_44 dX4_sheet_56 rfl ?_
              obtain ⟨r38, s39, g37, h⟩ := ob2_some h
              refine gw_cV (pc' := 61) (av := [.int (-1000001)]) (rest := []) cx (k_X4_found E g37) at0 (by decide) lk_X4_45 dX4_sheet_58 rfl (Nat.le_of_ble_eq_true rfl) rfl ?_
              show GW E fr _ 61 _ (.int r38 :: _) _
              exact gw_iret cx tg (rt1 h) (rt2 h) dX4_sheet_61
          · refine gw_if_ge_f (pc' := 42) cx c32 dX4_sheet_39 ⟨49, by decide⟩ rfl ?_
            refine gw_aload_n (pc' := 43) cx 0 rfl rfl dX4_sheet_42 rfl ?_
            refine gw_ldc (pc' := 45) (v := (-1000007)) cx ct_X4_227 dX4_sheet_43 rfl ?_
            obtain ⟨r41, s42, g40, h⟩ := ob2_some h
            refine gw_cV (pc' := 48) (av := [.int (-1000007)]) (rest := []) cx (k_X4_found E g40) at0 (by decide) lk_X4_45 dX4_sheet_45 rfl (Nat.le_of_ble_eq_true rfl) rfl ?_
            show GW E fr _ 48 _ (.int r41 :: _) _
            exact gw_iret cx tg (rt1 h) (rt2 h) dX4_sheet_48
        · refine gw_ic_eq_f (pc' := 25) cx c31 dX4_sheet_22 ⟨38, by decide⟩ rfl ?_
          refine gw_iload_n (pc' := 26) cx 2 rfl rfl dX4_sheet_25 rfl ?_
          refine gw_bipush (pc' := 28) (v := 32) cx cb_32 dX4_sheet_26 rfl ?_
          rcases ite_some h with ⟨c43, h⟩ | ⟨c43, h⟩
          · refine gw_ic_eq_t (pc' := 38) cx c43 dX4_sheet_28 (by decide) ?_
            refine gw_iload_n (pc' := 39) cx 3 rfl rfl dX4_sheet_38 rfl ?_
            rcases ite_some h with ⟨c44, h⟩ | ⟨c44, h⟩
            · refine gw_if_ge_t (pc' := 49) cx c44 dX4_sheet_39 (by decide) ?_
              refine gw_iload_n (pc' := 50) cx 3 rfl rfl dX4_sheet_49 rfl ?_
              refine gw_bipush (pc' := 52) (v := 40) cx cb_40 dX4_sheet_50 rfl ?_
              rcases ite_some h with ⟨c45, h⟩ | ⟨c45, h⟩
              · refine gw_ic_le_t (pc' := 62) cx c45 dX4_sheet_52 (by decide) ?_
                refine gw_aload_n (pc' := 63) cx 0 rfl rfl dX4_sheet_62 rfl ?_
                refine gw_getR (pc' := 66) cx at0 rfl fl_X4_31 dX4_sheet_63 rfl ?_
                refine gw_iload_n (pc' := 67) cx 1 rfl rfl dX4_sheet_66 rfl ?_
                obtain ⟨i46, h⟩ := chk_some h
                refine gw_aald (pc' := 68) cx at39 i46 dX4_sheet_67 rfl ?_
                refine gw_iload_n (pc' := 69) cx 2 rfl rfl dX4_sheet_68 rfl ?_
                refine gw_iload_n (pc' := 70) cx 2 rfl rfl dX4_sheet_69 rfl ?_
                refine gw_if_ne_t (pc' := 77) cx c7 dX4_sheet_70 (by decide) ?_
                refine gw_iload_n (pc' := 78) cx 3 rfl rfl dX4_sheet_77 rfl ?_
                obtain ⟨s48, g47, h⟩ := ob1_some h
                refine gw_cV (pc' := 81) (av := [.int x2, .int x3]) (rest := []) cx (k_X3_lay E (sht_of i46) g47) (atS (sht_of i46)) (by decide) lk_X4_228 dX4_sheet_78 rfl (Nat.le_of_ble_eq_true rfl) rfl ?_
                show GW E fr _ 81 _ [] _
                refine gw_aload_n (pc' := 82) cx 0 rfl rfl dX4_sheet_81 rfl ?_
                refine gw_getR (pc' := 85) cx at0 rfl fl_X4_31 dX4_sheet_82 rfl ?_
                refine gw_iload_n (pc' := 86) cx 1 rfl rfl dX4_sheet_85 rfl ?_
                refine gw_aald (pc' := 87) cx at39 i46 dX4_sheet_86 rfl ?_
                refine gw_getI (pc' := 90) cx (atS (sht_of i46)) rfl fl_X4_191 dX4_sheet_87 rfl ?_
                exact gw_iret cx tg (rt1 h) (rt2 h) dX4_sheet_90
              · refine gw_ic_le_f (pc' := 55) cx c45 dX4_sheet_52 ⟨62, by decide⟩ rfl ?_
                refine gw_aload_n (pc' := 56) cx 0 rfl rfl dX4_sheet_55 rfl ?_
                refine gw_ldc (pc' := 58) (v := (-1000001)) cx ct_X4_44 dX4_sheet_56 rfl ?_
                obtain ⟨r50, s51, g49, h⟩ := ob2_some h
                refine gw_cV (pc' := 61) (av := [.int (-1000001)]) (rest := []) cx (k_X4_found E g49) at0 (by decide) lk_X4_45 dX4_sheet_58 rfl (Nat.le_of_ble_eq_true rfl) rfl ?_
                show GW E fr _ 61 _ (.int r50 :: _) _
                exact gw_iret cx tg (rt1 h) (rt2 h) dX4_sheet_61
            · refine gw_if_ge_f (pc' := 42) cx c44 dX4_sheet_39 ⟨49, by decide⟩ rfl ?_
              refine gw_aload_n (pc' := 43) cx 0 rfl rfl dX4_sheet_42 rfl ?_
              refine gw_ldc (pc' := 45) (v := (-1000007)) cx ct_X4_227 dX4_sheet_43 rfl ?_
              obtain ⟨r53, s54, g52, h⟩ := ob2_some h
              refine gw_cV (pc' := 48) (av := [.int (-1000007)]) (rest := []) cx (k_X4_found E g52) at0 (by decide) lk_X4_45 dX4_sheet_45 rfl (Nat.le_of_ble_eq_true rfl) rfl ?_
              show GW E fr _ 48 _ (.int r53 :: _) _
              exact gw_iret cx tg (rt1 h) (rt2 h) dX4_sheet_48
          · refine gw_ic_eq_f (pc' := 31) cx c43 dX4_sheet_28 ⟨38, by decide⟩ rfl ?_
            refine gw_aload_n (pc' := 32) cx 0 rfl rfl dX4_sheet_31 rfl ?_
            refine gw_ldc (pc' := 34) (v := (-1000001)) cx ct_X4_44 dX4_sheet_32 rfl ?_
            obtain ⟨r56, s57, g55, h⟩ := ob2_some h
            refine gw_cV (pc' := 37) (av := [.int (-1000001)]) (rest := []) cx (k_X4_found E g55) at0 (by decide) lk_X4_45 dX4_sheet_34 rfl (Nat.le_of_ble_eq_true rfl) rfl ?_
            show GW E fr _ 37 _ (.int r56 :: _) _
            exact gw_iret cx tg (rt1 h) (rt2 h) dX4_sheet_37
def f_X4_write (x1 : Int32) (x2 : Int32) (x3 : Int32) (σ : Sg) : Option (Int32 × Sg) :=
  ob0 (f_X4_sheetFinding x1 σ) fun r2 =>
  if 0 ≤ r2 then
    chk x1 4 <|
    ob0 (f_X4_within x2 0 ((σ (40 + x1.toNatClampNeg) 2) - 1) σ) fun r6 =>
    if r6 = 0 then
      ob2 (f_X4_found (-1000001) σ) fun r9 s10 =>
      some (r9, s10)
    else
      ob1 (f_X3_put (40 + x1.toNatClampNeg) x2 x3 σ) fun s12 =>
      some (1, s12)
  else
    ob2 (f_X4_found r2 σ) fun r14 s15 =>
    some (r14, s15)
theorem k_X4_write (E : Ev) {x1 : Int32} {x2 : Int32} {x3 : Int32} {σ : Sg} {r : Int32} {σ' : Sg} (h : f_X4_write x1 x2 x3 σ = some (r, σ')) : Con E mX4_write 2 [.ref (eA E 0), .int x1, .int x2, .int x3] σ (some (.int r)) σ' := by
  refine con_of (by decide) (Nat.le_of_ble_eq_true rfl) (fun fr cx tg => ?_)
  show GW E fr 5 0 [(0, .ref (eA E 0)), (1, .int x1), (2, .int x2), (3, .int x3)] [] σ
  rw [f_X4_write] at h
  refine gw_aload_n (pc' := 1) cx 0 rfl rfl dX4_write_0 rfl ?_
  refine gw_iload_n (pc' := 2) cx 1 rfl rfl dX4_write_1 rfl ?_
  obtain ⟨r2, g1, h⟩ := ob0_some h
  refine gw_cV (pc' := 5) (av := [.int x1]) (rest := []) cx (k_X4_sheetFinding E g1) at0 (by decide) lk_X4_195 dX4_write_2 rfl (Nat.le_of_ble_eq_true rfl) rfl ?_
  show GW E fr _ 5 _ (.int r2 :: _) _
  refine gw_istore (pc' := 7) (lv' := [(4, .int r2), (0, .ref (eA E 0)), (1, .int x1), (2, .int x2), (3, .int x3)]) cx rfl (by decide) dX4_write_5 rfl ?_
  refine gw_iload (pc' := 9) cx 0 rfl dX4_write_7 rfl ?_
  rcases ite_some h with ⟨c3, h⟩ | ⟨c3, h⟩
  · refine gw_if_ge_t (pc' := 19) cx c3 dX4_write_9 (by decide) ?_
    refine gw_iload_n (pc' := 20) cx 3 rfl rfl dX4_write_19 rfl ?_
    refine gw_iconst (pc' := 21) (v := 0) cx ci_0 dX4_write_20 rfl ?_
    refine gw_aload_n (pc' := 22) cx 1 rfl rfl dX4_write_21 rfl ?_
    refine gw_getR (pc' := 25) cx at0 rfl fl_X4_31 dX4_write_22 rfl ?_
    refine gw_iload_n (pc' := 26) cx 2 rfl rfl dX4_write_25 rfl ?_
    obtain ⟨i4, h⟩ := chk_some h
    refine gw_aald (pc' := 27) cx at39 i4 dX4_write_26 rfl ?_
    refine gw_getI (pc' := 30) cx (atS (sht_of i4)) rfl fl_X4_191 dX4_write_27 rfl ?_
    refine gw_iconst (pc' := 31) (v := 1) cx ci_1 dX4_write_30 rfl ?_
    refine gw_isub (pc' := 32) cx dX4_write_31 rfl ?_
    obtain ⟨r6, g5, h⟩ := ob0_some h
    refine gw_cS (pc' := 35) (av := [.int x2, .int 0, .int ((σ (40 + x1.toNatClampNeg) 2) - 1)]) (rest := []) cx (k_X4_within E g5) (by decide) lk_X4_40 dX4_write_32 rfl (Nat.le_of_ble_eq_true rfl) rfl ?_
    show GW E fr _ 35 _ (.int r6 :: _) _
    rcases ite_some h with ⟨c7, h⟩ | ⟨c7, h⟩
    · refine gw_if_ne_f (pc' := 38) cx c7 dX4_write_35 ⟨45, by decide⟩ rfl ?_
      refine gw_aload_n (pc' := 39) cx 1 rfl rfl dX4_write_38 rfl ?_
      refine gw_ldc (pc' := 41) (v := (-1000001)) cx ct_X4_44 dX4_write_39 rfl ?_
      obtain ⟨r9, s10, g8, h⟩ := ob2_some h
      refine gw_cV (pc' := 44) (av := [.int (-1000001)]) (rest := []) cx (k_X4_found E g8) at0 (by decide) lk_X4_45 dX4_write_41 rfl (Nat.le_of_ble_eq_true rfl) rfl ?_
      show GW E fr _ 44 _ (.int r9 :: _) _
      exact gw_iret cx tg (rt1 h) (rt2 h) dX4_write_44
    · refine gw_if_ne_t (pc' := 45) cx c7 dX4_write_35 (by decide) ?_
      refine gw_aload_n (pc' := 46) cx 1 rfl rfl dX4_write_45 rfl ?_
      refine gw_getR (pc' := 49) cx at0 rfl fl_X4_31 dX4_write_46 rfl ?_
      refine gw_iload_n (pc' := 50) cx 2 rfl rfl dX4_write_49 rfl ?_
      refine gw_aald (pc' := 51) cx at39 i4 dX4_write_50 rfl ?_
      refine gw_iload_n (pc' := 52) cx 3 rfl rfl dX4_write_51 rfl ?_
      refine gw_iload_n (pc' := 53) cx 4 rfl rfl dX4_write_52 rfl ?_
      obtain ⟨s12, g11, h⟩ := ob1_some h
      refine gw_cV (pc' := 56) (av := [.int x2, .int x3]) (rest := []) cx (k_X3_put E (sht_of i4) g11) (atS (sht_of i4)) (by decide) lk_X4_231 dX4_write_53 rfl (Nat.le_of_ble_eq_true rfl) rfl ?_
      show GW E fr _ 56 _ [] _
      refine gw_iconst (pc' := 57) (v := 1) cx ci_1 dX4_write_56 rfl ?_
      exact gw_iret cx tg (rt1 h) (rt2 h) dX4_write_57
  · refine gw_if_ge_f (pc' := 12) cx c3 dX4_write_9 ⟨19, by decide⟩ rfl ?_
    refine gw_aload_n (pc' := 13) cx 1 rfl rfl dX4_write_12 rfl ?_
    refine gw_iload (pc' := 15) cx 0 rfl dX4_write_13 rfl ?_
    obtain ⟨r14, s15, g13, h⟩ := ob2_some h
    refine gw_cV (pc' := 18) (av := [.int r2]) (rest := []) cx (k_X4_found E g13) at0 (by decide) lk_X4_45 dX4_write_15 rfl (Nat.le_of_ble_eq_true rfl) rfl ?_
    show GW E fr _ 18 _ (.int r14 :: _) _
    exact gw_iret cx tg (rt1 h) (rt2 h) dX4_write_18
def f_X4_copy (x1 : Int32) (x2 : Int32) (x3 : Int32) (x4 : Int32) (x5 : Int32) (σ : Sg) : Option (Int32 × Sg) :=
  ob0 (f_X4_within x1 0 3 σ) fun r2 =>
  if r2 = 0 then
    ob2 (f_X4_found (-1000001) σ) fun r5 s6 =>
    some (r5, s6)
  else
    ob0 (f_X4_within x3 0 3 σ) fun r8 =>
    if r8 = 0 then
      ob2 (f_X4_found (-1000001) σ) fun r11 s12 =>
      some (r11, s12)
    else
      chk x1 4 <|
      chk x3 4 <|
      ob0 (f_X3_isMissing (40 + x1.toNatClampNeg) σ) fun r16 =>
      if r16 = 0 then
        ob0 (f_X3_isMissing (40 + x3.toNatClampNeg) σ) fun r19 =>
        if r19 = 0 then
          if (σ (40 + x1.toNatClampNeg) 1) = (σ (40 + x3.toNatClampNeg) 1) then
            ob0 (f_X3_hasRange (40 + x1.toNatClampNeg) x2 x5 σ) fun r23 =>
            if r23 = 0 then
              ob2 (f_X4_found (-1000001) σ) fun r26 s27 =>
              some (r26, s27)
            else
              ob0 (f_X3_hasRange (40 + x3.toNatClampNeg) x4 x5 σ) fun r29 =>
              if r29 = 0 then
                ob2 (f_X4_found (-1000001) σ) fun r32 s33 =>
                some (r32, s33)
              else
                cp x2 x4 x5 40 40 (cpyR σ ((40 + x1.toNatClampNeg) + 4) ((40 + x3.toNatClampNeg) + 4) x2 x4 x5) fun s35 =>
                some (x5, s35)
          else
            ob2 (f_X4_found (-1000003) σ) fun r38 s39 =>
            some (r38, s39)
        else
          ob2 (f_X4_found (-1000006) σ) fun r41 s42 =>
          some (r41, s42)
      else
        ob2 (f_X4_found (-1000006) σ) fun r44 s45 =>
        some (r44, s45)
theorem k_X4_copy (E : Ev) {x1 : Int32} {x2 : Int32} {x3 : Int32} {x4 : Int32} {x5 : Int32} {σ : Sg} {r : Int32} {σ' : Sg} (h : f_X4_copy x1 x2 x3 x4 x5 σ = some (r, σ')) : Con E mX4_copy 2 [.ref (eA E 0), .int x1, .int x2, .int x3, .int x4, .int x5] σ (some (.int r)) σ' := by
  refine con_of (by decide) (Nat.le_of_ble_eq_true rfl) (fun fr cx tg => ?_)
  show GW E fr 8 0 [(0, .ref (eA E 0)), (1, .int x1), (2, .int x2), (3, .int x3), (4, .int x4), (5, .int x5)] [] σ
  rw [f_X4_copy] at h
  refine gw_iload_n (pc' := 1) cx 1 rfl rfl dX4_copy_0 rfl ?_
  refine gw_iconst (pc' := 2) (v := 0) cx ci_0 dX4_copy_1 rfl ?_
  refine gw_iconst (pc' := 3) (v := 3) cx ci_3 dX4_copy_2 rfl ?_
  obtain ⟨r2, g1, h⟩ := ob0_some h
  refine gw_cS (pc' := 6) (av := [.int x1, .int 0, .int 3]) (rest := []) cx (k_X4_within E g1) (by decide) lk_X4_40 dX4_copy_3 rfl (Nat.le_of_ble_eq_true rfl) rfl ?_
  show GW E fr _ 6 _ (.int r2 :: _) _
  rcases ite_some h with ⟨c3, h⟩ | ⟨c3, h⟩
  · refine gw_if_eq_t (pc' := 18) cx c3 dX4_copy_6 (by decide) ?_
    refine gw_aload_n (pc' := 19) cx 0 rfl rfl dX4_copy_18 rfl ?_
    refine gw_ldc (pc' := 21) (v := (-1000001)) cx ct_X4_44 dX4_copy_19 rfl ?_
    obtain ⟨r5, s6, g4, h⟩ := ob2_some h
    refine gw_cV (pc' := 24) (av := [.int (-1000001)]) (rest := []) cx (k_X4_found E g4) at0 (by decide) lk_X4_45 dX4_copy_21 rfl (Nat.le_of_ble_eq_true rfl) rfl ?_
    show GW E fr _ 24 _ (.int r5 :: _) _
    exact gw_iret cx tg (rt1 h) (rt2 h) dX4_copy_24
  · refine gw_if_eq_f (pc' := 9) cx c3 dX4_copy_6 ⟨18, by decide⟩ rfl ?_
    refine gw_iload_n (pc' := 10) cx 3 rfl rfl dX4_copy_9 rfl ?_
    refine gw_iconst (pc' := 11) (v := 0) cx ci_0 dX4_copy_10 rfl ?_
    refine gw_iconst (pc' := 12) (v := 3) cx ci_3 dX4_copy_11 rfl ?_
    obtain ⟨r8, g7, h⟩ := ob0_some h
    refine gw_cS (pc' := 15) (av := [.int x3, .int 0, .int 3]) (rest := []) cx (k_X4_within E g7) (by decide) lk_X4_40 dX4_copy_12 rfl (Nat.le_of_ble_eq_true rfl) rfl ?_
    show GW E fr _ 15 _ (.int r8 :: _) _
    rcases ite_some h with ⟨c9, h⟩ | ⟨c9, h⟩
    · refine gw_if_ne_f (pc' := 18) cx c9 dX4_copy_15 ⟨25, by decide⟩ rfl ?_
      refine gw_aload_n (pc' := 19) cx 0 rfl rfl dX4_copy_18 rfl ?_
      refine gw_ldc (pc' := 21) (v := (-1000001)) cx ct_X4_44 dX4_copy_19 rfl ?_
      obtain ⟨r11, s12, g10, h⟩ := ob2_some h
      refine gw_cV (pc' := 24) (av := [.int (-1000001)]) (rest := []) cx (k_X4_found E g10) at0 (by decide) lk_X4_45 dX4_copy_21 rfl (Nat.le_of_ble_eq_true rfl) rfl ?_
      show GW E fr _ 24 _ (.int r11 :: _) _
      exact gw_iret cx tg (rt1 h) (rt2 h) dX4_copy_24
    · refine gw_if_ne_t (pc' := 25) cx c9 dX4_copy_15 (by decide) ?_
      refine gw_aload_n (pc' := 26) cx 0 rfl rfl dX4_copy_25 rfl ?_
      refine gw_getR (pc' := 29) cx at0 rfl fl_X4_31 dX4_copy_26 rfl ?_
      refine gw_iload_n (pc' := 30) cx 1 rfl rfl dX4_copy_29 rfl ?_
      obtain ⟨i13, h⟩ := chk_some h
      refine gw_aald (pc' := 31) cx at39 i13 dX4_copy_30 rfl ?_
      refine gw_astore (pc' := 33) (lv' := [(6, .ref (eA E (40 + x1.toNatClampNeg))), (0, .ref (eA E 0)), (1, .int x1), (2, .int x2), (3, .int x3), (4, .int x4), (5, .int x5)]) cx rfl (by decide) dX4_copy_31 rfl ?_
      refine gw_aload_n (pc' := 34) cx 1 rfl rfl dX4_copy_33 rfl ?_
      refine gw_getR (pc' := 37) cx at0 rfl fl_X4_31 dX4_copy_34 rfl ?_
      refine gw_iload_n (pc' := 38) cx 4 rfl rfl dX4_copy_37 rfl ?_
      obtain ⟨i14, h⟩ := chk_some h
      refine gw_aald (pc' := 39) cx at39 i14 dX4_copy_38 rfl ?_
      refine gw_astore (pc' := 41) (lv' := [(7, .ref (eA E (40 + x3.toNatClampNeg))), (6, .ref (eA E (40 + x1.toNatClampNeg))), (0, .ref (eA E 0)), (1, .int x1), (2, .int x2), (3, .int x3), (4, .int x4), (5, .int x5)]) cx rfl (by decide) dX4_copy_39 rfl ?_
      refine gw_aload (pc' := 43) cx 1 rfl dX4_copy_41 rfl ?_
      obtain ⟨r16, g15, h⟩ := ob0_some h
      refine gw_cV (pc' := 46) (av := []) (rest := []) cx (k_X3_isMissing E (sht_of i13) g15) (atS (sht_of i13)) (by decide) lk_X4_234 dX4_copy_43 rfl (Nat.le_of_ble_eq_true rfl) rfl ?_
      show GW E fr _ 46 _ (.int r16 :: _) _
      rcases ite_some h with ⟨c17, h⟩ | ⟨c17, h⟩
      · refine gw_if_ne_f (pc' := 49) cx c17 dX4_copy_46 ⟨57, by decide⟩ rfl ?_
        refine gw_aload (pc' := 51) cx 0 rfl dX4_copy_49 rfl ?_
        obtain ⟨r19, g18, h⟩ := ob0_some h
        refine gw_cV (pc' := 54) (av := []) (rest := []) cx (k_X3_isMissing E (sht_of i14) g18) (atS (sht_of i14)) (by decide) lk_X4_234 dX4_copy_51 rfl (Nat.le_of_ble_eq_true rfl) rfl ?_
        show GW E fr _ 54 _ (.int r19 :: _) _
        rcases ite_some h with ⟨c20, h⟩ | ⟨c20, h⟩
        · refine gw_if_eq_t (pc' := 64) cx c20 dX4_copy_54 (by decide) ?_
          refine gw_aload (pc' := 66) cx 1 rfl dX4_copy_64 rfl ?_
          refine gw_getI (pc' := 69) cx (atS (sht_of i13)) rfl fl_X4_237 dX4_copy_66 rfl ?_
          refine gw_aload (pc' := 71) cx 0 rfl dX4_copy_69 rfl ?_
          refine gw_getI (pc' := 74) cx (atS (sht_of i14)) rfl fl_X4_237 dX4_copy_71 rfl ?_
          rcases ite_some h with ⟨c21, h⟩ | ⟨c21, h⟩
          · refine gw_ic_eq_t (pc' := 84) cx c21 dX4_copy_74 (by decide) ?_
            refine gw_aload (pc' := 86) cx 1 rfl dX4_copy_84 rfl ?_
            refine gw_iload_n (pc' := 87) cx 4 rfl rfl dX4_copy_86 rfl ?_
            refine gw_iload (pc' := 89) cx 7 rfl dX4_copy_87 rfl ?_
            obtain ⟨r23, g22, h⟩ := ob0_some h
            refine gw_cV (pc' := 92) (av := [.int x2, .int x5]) (rest := []) cx (k_X3_hasRange E (sht_of i13) g22) (atS (sht_of i13)) (by decide) lk_X4_240 dX4_copy_89 rfl (Nat.le_of_ble_eq_true rfl) rfl ?_
            show GW E fr _ 92 _ (.int r23 :: _) _
            rcases ite_some h with ⟨c24, h⟩ | ⟨c24, h⟩
            · refine gw_if_eq_t (pc' := 107) cx c24 dX4_copy_92 (by decide) ?_
              refine gw_aload_n (pc' := 108) cx 2 rfl rfl dX4_copy_107 rfl ?_
              refine gw_ldc (pc' := 110) (v := (-1000001)) cx ct_X4_44 dX4_copy_108 rfl ?_
              obtain ⟨r26, s27, g25, h⟩ := ob2_some h
              refine gw_cV (pc' := 113) (av := [.int (-1000001)]) (rest := []) cx (k_X4_found E g25) at0 (by decide) lk_X4_45 dX4_copy_110 rfl (Nat.le_of_ble_eq_true rfl) rfl ?_
              show GW E fr _ 113 _ (.int r26 :: _) _
              exact gw_iret cx tg (rt1 h) (rt2 h) dX4_copy_113
            · refine gw_if_eq_f (pc' := 95) cx c24 dX4_copy_92 ⟨107, by decide⟩ rfl ?_
              refine gw_aload (pc' := 97) cx 0 rfl dX4_copy_95 rfl ?_
              refine gw_iload (pc' := 99) cx 6 rfl dX4_copy_97 rfl ?_
              refine gw_iload (pc' := 101) cx 7 rfl dX4_copy_99 rfl ?_
              obtain ⟨r29, g28, h⟩ := ob0_some h
              refine gw_cV (pc' := 104) (av := [.int x4, .int x5]) (rest := []) cx (k_X3_hasRange E (sht_of i14) g28) (atS (sht_of i14)) (by decide) lk_X4_240 dX4_copy_101 rfl (Nat.le_of_ble_eq_true rfl) rfl ?_
              show GW E fr _ 104 _ (.int r29 :: _) _
              rcases ite_some h with ⟨c30, h⟩ | ⟨c30, h⟩
              · refine gw_if_ne_f (pc' := 107) cx c30 dX4_copy_104 ⟨114, by decide⟩ rfl ?_
                refine gw_aload_n (pc' := 108) cx 2 rfl rfl dX4_copy_107 rfl ?_
                refine gw_ldc (pc' := 110) (v := (-1000001)) cx ct_X4_44 dX4_copy_108 rfl ?_
                obtain ⟨r32, s33, g31, h⟩ := ob2_some h
                refine gw_cV (pc' := 113) (av := [.int (-1000001)]) (rest := []) cx (k_X4_found E g31) at0 (by decide) lk_X4_45 dX4_copy_110 rfl (Nat.le_of_ble_eq_true rfl) rfl ?_
                show GW E fr _ 113 _ (.int r32 :: _) _
                exact gw_iret cx tg (rt1 h) (rt2 h) dX4_copy_113
              · refine gw_if_ne_t (pc' := 114) cx c30 dX4_copy_104 (by decide) ?_
                refine gw_aload (pc' := 116) cx 1 rfl dX4_copy_114 rfl ?_
                refine gw_getR (pc' := 119) cx (atS (sht_of i13)) rfl fl_X4_192 dX4_copy_116 rfl ?_
                refine gw_iload_n (pc' := 120) cx 4 rfl rfl dX4_copy_119 rfl ?_
                refine gw_aload (pc' := 122) cx 0 rfl dX4_copy_120 rfl ?_
                refine gw_getR (pc' := 125) cx (atS (sht_of i14)) rfl fl_X4_192 dX4_copy_122 rfl ?_
                refine gw_iload (pc' := 127) cx 6 rfl dX4_copy_125 rfl ?_
                refine gw_iload (pc' := 129) cx 7 rfl dX4_copy_127 rfl ?_
                obtain ⟨o34, s35, e36, h⟩ := cp_some h
                refine gw_copy (pc' := 132) cx (atSn (sht_of i13)) (atSn (sht_of i14)) lk_X4_243 o34 (by decide) (Nat.le_of_ble_eq_true rfl) dX4_copy_129 rfl e36 ?_
                refine gw_iload (pc' := 134) cx 7 rfl dX4_copy_132 rfl ?_
                exact gw_iret cx tg (rt1 h) (rt2 h) dX4_copy_134
          · refine gw_ic_eq_f (pc' := 77) cx c21 dX4_copy_74 ⟨84, by decide⟩ rfl ?_
            refine gw_aload_n (pc' := 78) cx 2 rfl rfl dX4_copy_77 rfl ?_
            refine gw_ldc (pc' := 80) (v := (-1000003)) cx ct_X4_226 dX4_copy_78 rfl ?_
            obtain ⟨r38, s39, g37, h⟩ := ob2_some h
            refine gw_cV (pc' := 83) (av := [.int (-1000003)]) (rest := []) cx (k_X4_found E g37) at0 (by decide) lk_X4_45 dX4_copy_80 rfl (Nat.le_of_ble_eq_true rfl) rfl ?_
            show GW E fr _ 83 _ (.int r38 :: _) _
            exact gw_iret cx tg (rt1 h) (rt2 h) dX4_copy_83
        · refine gw_if_eq_f (pc' := 57) cx c20 dX4_copy_54 ⟨64, by decide⟩ rfl ?_
          refine gw_aload_n (pc' := 58) cx 2 rfl rfl dX4_copy_57 rfl ?_
          refine gw_ldc (pc' := 60) (v := (-1000006)) cx ct_X4_222 dX4_copy_58 rfl ?_
          obtain ⟨r41, s42, g40, h⟩ := ob2_some h
          refine gw_cV (pc' := 63) (av := [.int (-1000006)]) (rest := []) cx (k_X4_found E g40) at0 (by decide) lk_X4_45 dX4_copy_60 rfl (Nat.le_of_ble_eq_true rfl) rfl ?_
          show GW E fr _ 63 _ (.int r41 :: _) _
          exact gw_iret cx tg (rt1 h) (rt2 h) dX4_copy_63
      · refine gw_if_ne_t (pc' := 57) cx c17 dX4_copy_46 (by decide) ?_
        refine gw_aload_n (pc' := 58) cx 2 rfl rfl dX4_copy_57 rfl ?_
        refine gw_ldc (pc' := 60) (v := (-1000006)) cx ct_X4_222 dX4_copy_58 rfl ?_
        obtain ⟨r44, s45, g43, h⟩ := ob2_some h
        refine gw_cV (pc' := 63) (av := [.int (-1000006)]) (rest := []) cx (k_X4_found E g43) at0 (by decide) lk_X4_45 dX4_copy_60 rfl (Nat.le_of_ble_eq_true rfl) rfl ?_
        show GW E fr _ 63 _ (.int r44 :: _) _
        exact gw_iret cx tg (rt1 h) (rt2 h) dX4_copy_63
def f_X4_isSaying (x0 : Int32) (σ : Sg) : Option (Int32) :=
  ob0 (f_X4_saying 7 20 σ) fun r2 =>
  ob0 (f_X4_within x0 0 r2 σ) fun r4 =>
  if r4 = 0 then
    some 0
  else
    if 20 < (jrem x0 100) then
      some 0
    else
      some 1
theorem k_X4_isSaying (E : Ev) {x0 : Int32} {σ : Sg} {r : Int32} (h : f_X4_isSaying x0 σ = some r) : Con E mX4_isSaying 1 [.int x0] σ (some (.int r)) σ := by
  refine con_of (by decide) (Nat.le_of_ble_eq_true rfl) (fun fr cx tg => ?_)
  show GW E fr 1 0 [(0, .int x0)] [] σ
  rw [f_X4_isSaying] at h
  refine gw_iload_n (pc' := 1) cx 0 rfl rfl dX4_isSaying_0 rfl ?_
  refine gw_iconst (pc' := 2) (v := 0) cx ci_0 dX4_isSaying_1 rfl ?_
  refine gw_bipush (pc' := 4) (v := 7) cx cb_7 dX4_isSaying_2 rfl ?_
  refine gw_bipush (pc' := 6) (v := 20) cx cb_20 dX4_isSaying_4 rfl ?_
  obtain ⟨r2, g1, h⟩ := ob0_some h
  refine gw_cS (pc' := 9) (av := [.int 7, .int 20]) (rest := [.int 0, .int x0]) cx (k_X4_saying E g1) (by decide) lk_X4_52 dX4_isSaying_6 rfl (Nat.le_of_ble_eq_true rfl) rfl ?_
  show GW E fr _ 9 _ (.int r2 :: _) _
  obtain ⟨r4, g3, h⟩ := ob0_some h
  refine gw_cS (pc' := 12) (av := [.int x0, .int 0, .int r2]) (rest := []) cx (k_X4_within E g3) (by decide) lk_X4_40 dX4_isSaying_9 rfl (Nat.le_of_ble_eq_true rfl) rfl ?_
  show GW E fr _ 12 _ (.int r4 :: _) _
  rcases ite_some h with ⟨c5, h⟩ | ⟨c5, h⟩
  · refine gw_if_eq_t (pc' := 28) cx c5 dX4_isSaying_12 (by decide) ?_
    refine gw_iconst (pc' := 29) (v := 0) cx ci_0 dX4_isSaying_28 rfl ?_
    exact gw_zret cx tg (Or.inl rfl) (rt0 h) rfl dX4_isSaying_29
  · refine gw_if_eq_f (pc' := 15) cx c5 dX4_isSaying_12 ⟨28, by decide⟩ rfl ?_
    refine gw_iload_n (pc' := 16) cx 0 rfl rfl dX4_isSaying_15 rfl ?_
    refine gw_bipush (pc' := 18) (v := 100) cx cb_100 dX4_isSaying_16 rfl ?_
    refine gw_irem (pc' := 19) cx (by decide) dX4_isSaying_18 rfl ?_
    refine gw_bipush (pc' := 21) (v := 20) cx cb_20 dX4_isSaying_19 rfl ?_
    rcases ite_some h with ⟨c6, h⟩ | ⟨c6, h⟩
    · refine gw_ic_gt_t (pc' := 28) cx c6 dX4_isSaying_21 (by decide) ?_
      refine gw_iconst (pc' := 29) (v := 0) cx ci_0 dX4_isSaying_28 rfl ?_
      exact gw_zret cx tg (Or.inl rfl) (rt0 h) rfl dX4_isSaying_29
    · refine gw_ic_gt_f (pc' := 24) cx c6 dX4_isSaying_21 ⟨28, by decide⟩ rfl ?_
      refine gw_iconst (pc' := 25) (v := 1) cx ci_1 dX4_isSaying_24 rfl ?_
      refine gw_goto (pc' := 29) cx dX4_isSaying_25 (by decide) ?_
      exact gw_zret cx tg (Or.inr rfl) (rt0 h) rfl dX4_isSaying_29
def f_X4_load_L26 (ra3 : Nat) : Nat → Int32 → Sg → Option (Int32 × Sg)
  | 0, _, _ => none
  | n + 1, y4, σ =>
    if (σ ra3 2) ≤ y4 then
      some ((σ ra3 2), σ)
    else
      if 6 ≤ y4 then
        some (y4, σ)
      else
        chk y4 40 <|
        ob0 (f_X4_isSaying (σ (ra3 + 4) y4.toNatClampNeg) σ) fun r12 =>
        if r12 = 0 then
          some (y4, σ)
        else
          chk y4 6 <|
          lt (up2 σ (1 + 1) y4.toNatClampNeg (σ (ra3 + 4) y4.toNatClampNeg)) fun s15 =>
          f_X4_load_L26 ra3 n (y4 + 1) s15
theorem w_X4_load_L26 {E : Ev} {fr : Fr} {r : Int32} {σ' : Sg} (cx : Cx E mX4_load 2 fr) (tg : Tg E fr (some .int) (some (.int r)) σ') (ra3 : Nat) (hra3 : Sht ra3) : ∀ (n : Nat) (y4 : Int32) (σ : Sg), f_X4_load_L26 ra3 n y4 σ = some (r, σ') → GW E fr 5 26 [(0, .ref (eA E 0)), (3, .ref (eA E ra3)), (4, .int y4)] [] σ := by
  intro n
  induction n with
  | zero => intro y4 σ h; cases (show (none : Option (Int32 × Sg)) = _ from h)
  | succ n ih =>
    intro y4 σ h
    rw [f_X4_load_L26] at h
    refine gw_iload (pc' := 28) cx 2 rfl dX4_load_26 rfl ?_
    refine gw_aload_n (pc' := 29) cx 1 rfl rfl dX4_load_28 rfl ?_
    refine gw_getI (pc' := 32) cx (atS hra3) rfl fl_X4_191 dX4_load_29 rfl ?_
    rcases ite_some h with ⟨c8, h⟩ | ⟨c8, h⟩
    · refine gw_ic_ge_t (pc' := 81) cx c8 dX4_load_32 (by decide) ?_
      refine gw_aload_n (pc' := 82) cx 1 rfl rfl dX4_load_81 rfl ?_
      refine gw_getI (pc' := 85) cx (atS hra3) rfl fl_X4_191 dX4_load_82 rfl ?_
      exact gw_iret cx tg (rt1 h) (rt2 h) dX4_load_85
    · refine gw_ic_ge_f (pc' := 35) cx c8 dX4_load_32 ⟨81, by decide⟩ rfl ?_
      refine gw_iload (pc' := 37) cx 2 rfl dX4_load_35 rfl ?_
      refine gw_bipush (pc' := 39) (v := 6) cx cb_6 dX4_load_37 rfl ?_
      rcases ite_some h with ⟨c9, h⟩ | ⟨c9, h⟩
      · refine gw_ic_ge_t (pc' := 55) cx c9 dX4_load_39 (by decide) ?_
        refine gw_iload (pc' := 57) cx 2 rfl dX4_load_55 rfl ?_
        exact gw_iret cx tg (rt1 h) (rt2 h) dX4_load_57
      · refine gw_ic_ge_f (pc' := 42) cx c9 dX4_load_39 ⟨55, by decide⟩ rfl ?_
        refine gw_aload_n (pc' := 43) cx 1 rfl rfl dX4_load_42 rfl ?_
        refine gw_getR (pc' := 46) cx (atS hra3) rfl fl_X4_192 dX4_load_43 rfl ?_
        refine gw_iload (pc' := 48) cx 2 rfl dX4_load_46 rfl ?_
        obtain ⟨i10, h⟩ := chk_some h
        refine gw_iald (pc' := 49) cx (atSn hra3) i10 rfl dX4_load_48 rfl ?_
        obtain ⟨r12, g11, h⟩ := ob0_some h
        refine gw_cS (pc' := 52) (av := [.int (σ (ra3 + 4) y4.toNatClampNeg)]) (rest := []) cx (k_X4_isSaying E g11) (by decide) lk_X4_249 dX4_load_49 rfl (Nat.le_of_ble_eq_true rfl) rfl ?_
        show GW E fr _ 52 _ (.int r12 :: _) _
        rcases ite_some h with ⟨c13, h⟩ | ⟨c13, h⟩
        · refine gw_if_ne_f (pc' := 55) cx c13 dX4_load_52 ⟨58, by decide⟩ rfl ?_
          refine gw_iload (pc' := 57) cx 2 rfl dX4_load_55 rfl ?_
          exact gw_iret cx tg (rt1 h) (rt2 h) dX4_load_57
        · refine gw_if_ne_t (pc' := 58) cx c13 dX4_load_52 (by decide) ?_
          refine gw_aload_n (pc' := 59) cx 0 rfl rfl dX4_load_58 rfl ?_
          refine gw_getR (pc' := 62) cx at0 rfl fl_X4_12 dX4_load_59 rfl ?_
          refine gw_getR (pc' := 65) cx (atC cty1) rfl fl_X4_49 dX4_load_62 rfl ?_
          refine gw_iload (pc' := 67) cx 2 rfl dX4_load_65 rfl ?_
          refine gw_aload_n (pc' := 68) cx 1 rfl rfl dX4_load_67 rfl ?_
          refine gw_getR (pc' := 71) cx (atS hra3) rfl fl_X4_192 dX4_load_68 rfl ?_
          refine gw_iload (pc' := 73) cx 2 rfl dX4_load_71 rfl ?_
          refine gw_iald (pc' := 74) cx (atSn hra3) i10 rfl dX4_load_73 rfl ?_
          obtain ⟨i14, h⟩ := chk_some h
          obtain ⟨s15, e16, h⟩ := lt_some h
          refine gw_iast (pc' := 75) cx (atCl cty1) i14 rfl dX4_load_74 rfl e16 ?_
          refine gw_iinc (pc' := 78) (v := (y4 + 1)) (lv' := [(4, .int (y4 + 1)), (0, .ref (eA E 0)), (3, .ref (eA E ra3))]) cx 2 rfl rfl rfl (by decide) dX4_load_75 rfl ?_
          refine gw_goto (pc' := 26) cx dX4_load_78 (by decide) ?_
          refine gw_sub [1, 2, 0] (lv' := [(0, .ref (eA E 0)), (3, .ref (eA E ra3)), (4, .int (y4 + 1))]) rfl ?_
          exact ih (y4 + 1) s15 h
def f_X4_load (x1 : Int32) (σ : Sg) : Option (Int32 × Sg) :=
  ob0 (f_X4_sheetFinding x1 σ) fun r2 =>
  if 0 ≤ r2 then
    chk x1 4 <|
    f_X4_load_L26 (40 + x1.toNatClampNeg) FU 0 σ
  else
    ob2 (f_X4_found r2 σ) fun r6 s7 =>
    some (r6, s7)
theorem k_X4_load (E : Ev) {x1 : Int32} {σ : Sg} {r : Int32} {σ' : Sg} (h : f_X4_load x1 σ = some (r, σ')) : Con E mX4_load 2 [.ref (eA E 0), .int x1] σ (some (.int r)) σ' := by
  refine con_of (by decide) (Nat.le_of_ble_eq_true rfl) (fun fr cx tg => ?_)
  show GW E fr 5 0 [(0, .ref (eA E 0)), (1, .int x1)] [] σ
  rw [f_X4_load] at h
  refine gw_aload_n (pc' := 1) cx 0 rfl rfl dX4_load_0 rfl ?_
  refine gw_iload_n (pc' := 2) cx 1 rfl rfl dX4_load_1 rfl ?_
  obtain ⟨r2, g1, h⟩ := ob0_some h
  refine gw_cV (pc' := 5) (av := [.int x1]) (rest := []) cx (k_X4_sheetFinding E g1) at0 (by decide) lk_X4_195 dX4_load_2 rfl (Nat.le_of_ble_eq_true rfl) rfl ?_
  show GW E fr _ 5 _ (.int r2 :: _) _
  refine gw_istore_n (pc' := 6) (lv' := [(2, .int r2), (0, .ref (eA E 0)), (1, .int x1)]) cx rfl rfl (by decide) dX4_load_5 rfl ?_
  refine gw_iload_n (pc' := 7) cx 0 rfl rfl dX4_load_6 rfl ?_
  rcases ite_some h with ⟨c3, h⟩ | ⟨c3, h⟩
  · refine gw_if_ge_t (pc' := 16) cx c3 dX4_load_7 (by decide) ?_
    refine gw_aload_n (pc' := 17) cx 1 rfl rfl dX4_load_16 rfl ?_
    refine gw_getR (pc' := 20) cx at0 rfl fl_X4_31 dX4_load_17 rfl ?_
    refine gw_iload_n (pc' := 21) cx 2 rfl rfl dX4_load_20 rfl ?_
    obtain ⟨i4, h⟩ := chk_some h
    refine gw_aald (pc' := 22) cx at39 i4 dX4_load_21 rfl ?_
    refine gw_astore_n (pc' := 23) (lv' := [(3, .ref (eA E (40 + x1.toNatClampNeg))), (2, .int r2), (0, .ref (eA E 0)), (1, .int x1)]) cx rfl rfl (by decide) dX4_load_22 rfl ?_
    refine gw_iconst (pc' := 24) (v := 0) cx ci_0 dX4_load_23 rfl ?_
    refine gw_istore (pc' := 26) (lv' := [(4, .int 0), (3, .ref (eA E (40 + x1.toNatClampNeg))), (2, .int r2), (0, .ref (eA E 0)), (1, .int x1)]) cx rfl (by decide) dX4_load_24 rfl ?_
    refine gw_sub [3, 1, 0] (lv' := [(0, .ref (eA E 0)), (3, .ref (eA E (40 + x1.toNatClampNeg))), (4, .int 0)]) rfl ?_
    exact w_X4_load_L26 cx tg (40 + x1.toNatClampNeg) (sht_of i4) FU 0 σ h
  · refine gw_if_ge_f (pc' := 10) cx c3 dX4_load_7 ⟨16, by decide⟩ rfl ?_
    refine gw_aload_n (pc' := 11) cx 1 rfl rfl dX4_load_10 rfl ?_
    refine gw_iload_n (pc' := 12) cx 0 rfl rfl dX4_load_11 rfl ?_
    obtain ⟨r6, s7, g5, h⟩ := ob2_some h
    refine gw_cV (pc' := 15) (av := [.int r2]) (rest := []) cx (k_X4_found E g5) at0 (by decide) lk_X4_45 dX4_load_12 rfl (Nat.le_of_ble_eq_true rfl) rfl ?_
    show GW E fr _ 15 _ (.int r6 :: _) _
    exact gw_iret cx tg (rt1 h) (rt2 h) dX4_load_15
def f_X4_judge_L26 (ra3 : Nat) : Nat → Int32 → Sg → Option (Int32 × Sg)
  | 0, _, _ => none
  | n + 1, y4, σ =>
    if (σ ra3 2) ≤ y4 then
      some (0, σ)
    else
      ob0 (f_X0_has 1 y4 σ) fun r10 =>
      if r10 = 0 then
        some ((1 + y4), σ)
      else
        chk y4 8 <|
        chk y4 40 <|
        if (σ (1 + 4 + y4.toNatClampNeg) 1) = (σ (ra3 + 4) y4.toNatClampNeg) then
          f_X4_judge_L26 ra3 n (y4 + 1) σ
        else
          some ((1 + y4), σ)
theorem w_X4_judge_L26 {E : Ev} {fr : Fr} {r : Int32} {σ' : Sg} (cx : Cx E mX4_judge 2 fr) (tg : Tg E fr (some .int) (some (.int r)) σ') (ra3 : Nat) (hra3 : Sht ra3) : ∀ (n : Nat) (y4 : Int32) (σ : Sg), f_X4_judge_L26 ra3 n y4 σ = some (r, σ') → GW E fr 5 26 [(0, .ref (eA E 0)), (3, .ref (eA E ra3)), (4, .int y4)] [] σ := by
  intro n
  induction n with
  | zero => intro y4 σ h; cases (show (none : Option (Int32 × Sg)) = _ from h)
  | succ n ih =>
    intro y4 σ h
    rw [f_X4_judge_L26] at h
    refine gw_iload (pc' := 28) cx 2 rfl dX4_judge_26 rfl ?_
    refine gw_aload_n (pc' := 29) cx 1 rfl rfl dX4_judge_28 rfl ?_
    refine gw_getI (pc' := 32) cx (atS hra3) rfl fl_X4_191 dX4_judge_29 rfl ?_
    rcases ite_some h with ⟨c8, h⟩ | ⟨c8, h⟩
    · refine gw_ic_ge_t (pc' := 81) cx c8 dX4_judge_32 (by decide) ?_
      refine gw_iconst (pc' := 82) (v := 0) cx ci_0 dX4_judge_81 rfl ?_
      exact gw_iret cx tg (rt1 h) (rt2 h) dX4_judge_82
    · refine gw_ic_ge_f (pc' := 35) cx c8 dX4_judge_32 ⟨81, by decide⟩ rfl ?_
      refine gw_aload_n (pc' := 36) cx 0 rfl rfl dX4_judge_35 rfl ?_
      refine gw_getR (pc' := 39) cx at0 rfl fl_X4_12 dX4_judge_36 rfl ?_
      refine gw_iload (pc' := 41) cx 2 rfl dX4_judge_39 rfl ?_
      obtain ⟨r10, g9, h⟩ := ob0_some h
      refine gw_cV (pc' := 44) (av := [.int y4]) (rest := []) cx (k_X0_has E cty1 g9) (atC cty1) (by decide) lk_X4_64 dX4_judge_41 rfl (Nat.le_of_ble_eq_true rfl) rfl ?_
      show GW E fr _ 44 _ (.int r10 :: _) _
      rcases ite_some h with ⟨c11, h⟩ | ⟨c11, h⟩
      · refine gw_if_eq_t (pc' := 70) cx c11 dX4_judge_44 (by decide) ?_
        refine gw_iconst (pc' := 71) (v := 1) cx ci_1 dX4_judge_70 rfl ?_
        refine gw_iload (pc' := 73) cx 2 rfl dX4_judge_71 rfl ?_
        refine gw_iadd (pc' := 74) cx dX4_judge_73 rfl ?_
        exact gw_iret cx tg (rt1 h) (rt2 h) dX4_judge_74
      · refine gw_if_eq_f (pc' := 47) cx c11 dX4_judge_44 ⟨70, by decide⟩ rfl ?_
        refine gw_aload_n (pc' := 48) cx 0 rfl rfl dX4_judge_47 rfl ?_
        refine gw_getR (pc' := 51) cx at0 rfl fl_X4_12 dX4_judge_48 rfl ?_
        refine gw_getR (pc' := 54) cx (atC cty1) rfl fl_X4_68 dX4_judge_51 rfl ?_
        refine gw_iload (pc' := 56) cx 2 rfl dX4_judge_54 rfl ?_
        obtain ⟨i12, h⟩ := chk_some h
        refine gw_aald (pc' := 57) cx (atCp cty1) i12 dX4_judge_56 rfl ?_
        refine gw_getI (pc' := 60) cx (atP (psn_of cty1 i12)) rfl fl_X4_252 dX4_judge_57 rfl ?_
        refine gw_aload_n (pc' := 61) cx 1 rfl rfl dX4_judge_60 rfl ?_
        refine gw_getR (pc' := 64) cx (atS hra3) rfl fl_X4_192 dX4_judge_61 rfl ?_
        refine gw_iload (pc' := 66) cx 2 rfl dX4_judge_64 rfl ?_
        obtain ⟨i13, h⟩ := chk_some h
        refine gw_iald (pc' := 67) cx (atSn hra3) i13 rfl dX4_judge_66 rfl ?_
        rcases ite_some h with ⟨c14, h⟩ | ⟨c14, h⟩
        · refine gw_ic_eq_t (pc' := 75) cx c14 dX4_judge_67 (by decide) ?_
          refine gw_iinc (pc' := 78) (v := (y4 + 1)) (lv' := [(4, .int (y4 + 1)), (0, .ref (eA E 0)), (3, .ref (eA E ra3))]) cx 2 rfl rfl rfl (by decide) dX4_judge_75 rfl ?_
          refine gw_goto (pc' := 26) cx dX4_judge_78 (by decide) ?_
          refine gw_sub [1, 2, 0] (lv' := [(0, .ref (eA E 0)), (3, .ref (eA E ra3)), (4, .int (y4 + 1))]) rfl ?_
          exact ih (y4 + 1) σ h
        · refine gw_ic_eq_f (pc' := 70) cx c14 dX4_judge_67 ⟨75, by decide⟩ rfl ?_
          refine gw_iconst (pc' := 71) (v := 1) cx ci_1 dX4_judge_70 rfl ?_
          refine gw_iload (pc' := 73) cx 2 rfl dX4_judge_71 rfl ?_
          refine gw_iadd (pc' := 74) cx dX4_judge_73 rfl ?_
          exact gw_iret cx tg (rt1 h) (rt2 h) dX4_judge_74
def f_X4_judge (x1 : Int32) (σ : Sg) : Option (Int32 × Sg) :=
  ob0 (f_X4_sheetFinding x1 σ) fun r2 =>
  if 0 ≤ r2 then
    chk x1 4 <|
    f_X4_judge_L26 (40 + x1.toNatClampNeg) FU 0 σ
  else
    ob2 (f_X4_found r2 σ) fun r6 s7 =>
    some (r6, s7)
theorem k_X4_judge (E : Ev) {x1 : Int32} {σ : Sg} {r : Int32} {σ' : Sg} (h : f_X4_judge x1 σ = some (r, σ')) : Con E mX4_judge 2 [.ref (eA E 0), .int x1] σ (some (.int r)) σ' := by
  refine con_of (by decide) (Nat.le_of_ble_eq_true rfl) (fun fr cx tg => ?_)
  show GW E fr 5 0 [(0, .ref (eA E 0)), (1, .int x1)] [] σ
  rw [f_X4_judge] at h
  refine gw_aload_n (pc' := 1) cx 0 rfl rfl dX4_judge_0 rfl ?_
  refine gw_iload_n (pc' := 2) cx 1 rfl rfl dX4_judge_1 rfl ?_
  obtain ⟨r2, g1, h⟩ := ob0_some h
  refine gw_cV (pc' := 5) (av := [.int x1]) (rest := []) cx (k_X4_sheetFinding E g1) at0 (by decide) lk_X4_195 dX4_judge_2 rfl (Nat.le_of_ble_eq_true rfl) rfl ?_
  show GW E fr _ 5 _ (.int r2 :: _) _
  refine gw_istore_n (pc' := 6) (lv' := [(2, .int r2), (0, .ref (eA E 0)), (1, .int x1)]) cx rfl rfl (by decide) dX4_judge_5 rfl ?_
  refine gw_iload_n (pc' := 7) cx 0 rfl rfl dX4_judge_6 rfl ?_
  rcases ite_some h with ⟨c3, h⟩ | ⟨c3, h⟩
  · refine gw_if_ge_t (pc' := 16) cx c3 dX4_judge_7 (by decide) ?_
    refine gw_aload_n (pc' := 17) cx 1 rfl rfl dX4_judge_16 rfl ?_
    refine gw_getR (pc' := 20) cx at0 rfl fl_X4_31 dX4_judge_17 rfl ?_
    refine gw_iload_n (pc' := 21) cx 2 rfl rfl dX4_judge_20 rfl ?_
    obtain ⟨i4, h⟩ := chk_some h
    refine gw_aald (pc' := 22) cx at39 i4 dX4_judge_21 rfl ?_
    refine gw_astore_n (pc' := 23) (lv' := [(3, .ref (eA E (40 + x1.toNatClampNeg))), (2, .int r2), (0, .ref (eA E 0)), (1, .int x1)]) cx rfl rfl (by decide) dX4_judge_22 rfl ?_
    refine gw_iconst (pc' := 24) (v := 0) cx ci_0 dX4_judge_23 rfl ?_
    refine gw_istore (pc' := 26) (lv' := [(4, .int 0), (3, .ref (eA E (40 + x1.toNatClampNeg))), (2, .int r2), (0, .ref (eA E 0)), (1, .int x1)]) cx rfl (by decide) dX4_judge_24 rfl ?_
    refine gw_sub [3, 1, 0] (lv' := [(0, .ref (eA E 0)), (3, .ref (eA E (40 + x1.toNatClampNeg))), (4, .int 0)]) rfl ?_
    exact w_X4_judge_L26 cx tg (40 + x1.toNatClampNeg) (sht_of i4) FU 0 σ h
  · refine gw_if_ge_f (pc' := 10) cx c3 dX4_judge_7 ⟨16, by decide⟩ rfl ?_
    refine gw_aload_n (pc' := 11) cx 1 rfl rfl dX4_judge_10 rfl ?_
    refine gw_iload_n (pc' := 12) cx 0 rfl rfl dX4_judge_11 rfl ?_
    obtain ⟨r6, s7, g5, h⟩ := ob2_some h
    refine gw_cV (pc' := 15) (av := [.int r2]) (rest := []) cx (k_X4_found E g5) at0 (by decide) lk_X4_45 dX4_judge_12 rfl (Nat.le_of_ble_eq_true rfl) rfl ?_
    show GW E fr _ 15 _ (.int r6 :: _) _
    exact gw_iret cx tg (rt1 h) (rt2 h) dX4_judge_15
def f_X4_image (σ : Sg) : Option (Int32 × Sg) :=
  ob1 (f_X0_become 13 1 σ) fun s2 =>
  lt (up2 s2 0 6 1) fun s3 =>
  some (1, s3)
theorem k_X4_image (E : Ev)  {σ : Sg} {r : Int32} {σ' : Sg} (h : f_X4_image σ = some (r, σ')) : Con E mX4_image 2 [.ref (eA E 0)] σ (some (.int r)) σ' := by
  refine con_of (by decide) (Nat.le_of_ble_eq_true rfl) (fun fr cx tg => ?_)
  show GW E fr 1 0 [(0, .ref (eA E 0))] [] σ
  rw [f_X4_image] at h
  refine gw_aload_n (pc' := 1) cx 0 rfl rfl dX4_image_0 rfl ?_
  refine gw_getR (pc' := 4) cx at0 rfl fl_X4_16 dX4_image_1 rfl ?_
  refine gw_aload_n (pc' := 5) cx 0 rfl rfl dX4_image_4 rfl ?_
  refine gw_getR (pc' := 8) cx at0 rfl fl_X4_12 dX4_image_5 rfl ?_
  obtain ⟨s2, g1, h⟩ := ob1_some h
  refine gw_cV (pc' := 11) (av := [.ref (eA E 1)]) (rest := []) cx (k_X0_become E cty13 cty1 g1) (atC cty13) (by decide) lk_X4_127 dX4_image_8 rfl (Nat.le_of_ble_eq_true rfl) rfl ?_
  show GW E fr _ 11 _ [] _
  refine gw_aload_n (pc' := 12) cx 0 rfl rfl dX4_image_11 rfl ?_
  refine gw_iconst (pc' := 13) (v := 1) cx ci_1 dX4_image_12 rfl ?_
  obtain ⟨s3, e4, h⟩ := lt_some h
  refine gw_put (pc' := 16) cx at0 rfl fp_X4_255 ⟨rfl, rfl⟩ dX4_image_13 rfl e4 ?_
  refine gw_iconst (pc' := 17) (v := 1) cx ci_1 dX4_image_16 rfl ?_
  exact gw_iret cx tg (rt1 h) (rt2 h) dX4_image_17
def f_X4_undo (σ : Sg) : Option (Int32 × Sg) :=
  if (σ 0 6) = 0 then
    ob2 (f_X4_found (-1000004) σ) fun r3 s4 =>
    some (r3, s4)
  else
    ob1 (f_X0_become 1 13 σ) fun s6 =>
    some ((s6 1 5), s6)
theorem k_X4_undo (E : Ev)  {σ : Sg} {r : Int32} {σ' : Sg} (h : f_X4_undo σ = some (r, σ')) : Con E mX4_undo 2 [.ref (eA E 0)] σ (some (.int r)) σ' := by
  refine con_of (by decide) (Nat.le_of_ble_eq_true rfl) (fun fr cx tg => ?_)
  show GW E fr 1 0 [(0, .ref (eA E 0))] [] σ
  rw [f_X4_undo] at h
  refine gw_aload_n (pc' := 1) cx 0 rfl rfl dX4_undo_0 rfl ?_
  refine gw_getI (pc' := 4) cx at0 rfl fl_X4_255 dX4_undo_1 rfl ?_
  rcases ite_some h with ⟨c1, h⟩ | ⟨c1, h⟩
  · refine gw_if_ne_f (pc' := 7) cx c1 dX4_undo_4 ⟨14, by decide⟩ rfl ?_
    refine gw_aload_n (pc' := 8) cx 0 rfl rfl dX4_undo_7 rfl ?_
    refine gw_ldc (pc' := 10) (v := (-1000004)) cx ct_X4_107 dX4_undo_8 rfl ?_
    obtain ⟨r3, s4, g2, h⟩ := ob2_some h
    refine gw_cV (pc' := 13) (av := [.int (-1000004)]) (rest := []) cx (k_X4_found E g2) at0 (by decide) lk_X4_45 dX4_undo_10 rfl (Nat.le_of_ble_eq_true rfl) rfl ?_
    show GW E fr _ 13 _ (.int r3 :: _) _
    exact gw_iret cx tg (rt1 h) (rt2 h) dX4_undo_13
  · refine gw_if_ne_t (pc' := 14) cx c1 dX4_undo_4 (by decide) ?_
    refine gw_aload_n (pc' := 15) cx 0 rfl rfl dX4_undo_14 rfl ?_
    refine gw_getR (pc' := 18) cx at0 rfl fl_X4_12 dX4_undo_15 rfl ?_
    refine gw_aload_n (pc' := 19) cx 0 rfl rfl dX4_undo_18 rfl ?_
    refine gw_getR (pc' := 22) cx at0 rfl fl_X4_16 dX4_undo_19 rfl ?_
    obtain ⟨s6, g5, h⟩ := ob1_some h
    refine gw_cV (pc' := 25) (av := [.ref (eA E 13)]) (rest := []) cx (k_X0_become E cty1 cty13 g5) (atC cty1) (by decide) lk_X4_127 dX4_undo_22 rfl (Nat.le_of_ble_eq_true rfl) rfl ?_
    show GW E fr _ 25 _ [] _
    refine gw_aload_n (pc' := 26) cx 0 rfl rfl dX4_undo_25 rfl ?_
    refine gw_getR (pc' := 29) cx at0 rfl fl_X4_12 dX4_undo_26 rfl ?_
    refine gw_getI (pc' := 32) cx (atC cty1) rfl fl_X4_72 dX4_undo_29 rfl ?_
    exact gw_iret cx tg (rt1 h) (rt2 h) dX4_undo_32
def f_X4_tear (σ : Sg) : Option (Int32 × Sg) :=
  if (σ 0 6) = 0 then
    lt (up2 σ 0 6 0) fun s2 =>
    some (0, s2)
  else
    lt (up2 σ 0 6 0) fun s4 =>
    some (1, s4)
theorem k_X4_tear (E : Ev)  {σ : Sg} {r : Int32} {σ' : Sg} (h : f_X4_tear σ = some (r, σ')) : Con E mX4_tear 0 [.ref (eA E 0)] σ (some (.int r)) σ' := by
  refine con_of (by decide) (Nat.le_of_ble_eq_true rfl) (fun fr cx tg => ?_)
  show GW E fr 2 0 [(0, .ref (eA E 0))] [] σ
  rw [f_X4_tear] at h
  refine gw_aload_n (pc' := 1) cx 0 rfl rfl dX4_tear_0 rfl ?_
  refine gw_getI (pc' := 4) cx at0 rfl fl_X4_255 dX4_tear_1 rfl ?_
  rcases ite_some h with ⟨c1, h⟩ | ⟨c1, h⟩
  · refine gw_if_eq_t (pc' := 11) cx c1 dX4_tear_4 (by decide) ?_
    refine gw_iconst (pc' := 12) (v := 0) cx ci_0 dX4_tear_11 rfl ?_
    refine gw_istore_n (pc' := 13) (lv' := [(1, .int 0), (0, .ref (eA E 0))]) cx rfl rfl (by decide) dX4_tear_12 rfl ?_
    refine gw_aload_n (pc' := 14) cx 1 rfl rfl dX4_tear_13 rfl ?_
    refine gw_iconst (pc' := 15) (v := 0) cx ci_0 dX4_tear_14 rfl ?_
    obtain ⟨s2, e3, h⟩ := lt_some h
    refine gw_put (pc' := 18) cx at0 rfl fp_X4_255 ⟨rfl, rfl⟩ dX4_tear_15 rfl e3 ?_
    refine gw_iload_n (pc' := 19) cx 0 rfl rfl dX4_tear_18 rfl ?_
    exact gw_iret cx tg (rt1 h) (rt2 h) dX4_tear_19
  · refine gw_if_eq_f (pc' := 7) cx c1 dX4_tear_4 ⟨11, by decide⟩ rfl ?_
    refine gw_iconst (pc' := 8) (v := 1) cx ci_1 dX4_tear_7 rfl ?_
    refine gw_goto (pc' := 12) cx dX4_tear_8 (by decide) ?_
    refine gw_istore_n (pc' := 13) (lv' := [(1, .int 1), (0, .ref (eA E 0))]) cx rfl rfl (by decide) dX4_tear_12 rfl ?_
    refine gw_aload_n (pc' := 14) cx 1 rfl rfl dX4_tear_13 rfl ?_
    refine gw_iconst (pc' := 15) (v := 0) cx ci_0 dX4_tear_14 rfl ?_
    obtain ⟨s4, e5, h⟩ := lt_some h
    refine gw_put (pc' := 18) cx at0 rfl fp_X4_255 ⟨rfl, rfl⟩ dX4_tear_15 rfl e5 ?_
    refine gw_iload_n (pc' := 19) cx 0 rfl rfl dX4_tear_18 rfl ?_
    exact gw_iret cx tg (rt1 h) (rt2 h) dX4_tear_19
def f_X4_count (x1 : Int32) (σ : Sg) : Option (Int32 × Sg) :=
  if x1 = 0 then
    some ((σ 1 5), σ)
  else
    if x1 = 1 then
      some ((σ 1 3), σ)
    else
      if x1 = 2 then
        ob0 (f_X0_sumOf 1 1 σ) fun r5 =>
        some (r5, σ)
      else
        if x1 = 3 then
          ob0 (f_X0_sumOf 1 3 σ) fun r8 =>
          some (r8, σ)
        else
          if x1 = 4 then
            some ((σ 1 4), σ)
          else
            if x1 = 5 then
              some ((σ 37 1), σ)
            else
              if x1 = 6 then
                some ((σ 1 6), σ)
              else
                if x1 = 7 then
                  ob0 (f_X0_spotsInUse 1 σ) fun r14 =>
                  some (r14, σ)
                else
                  ob2 (f_X4_found (-1000001) σ) fun r16 s17 =>
                  some (r16, s17)
theorem k_X4_count (E : Ev) {x1 : Int32} {σ : Sg} {r : Int32} {σ' : Sg} (h : f_X4_count x1 σ = some (r, σ')) : Con E mX4_count 2 [.ref (eA E 0), .int x1] σ (some (.int r)) σ' := by
  refine con_of (by decide) (Nat.le_of_ble_eq_true rfl) (fun fr cx tg => ?_)
  show GW E fr 2 0 [(0, .ref (eA E 0)), (1, .int x1)] [] σ
  rw [f_X4_count] at h
  refine gw_iload_n (pc' := 1) cx 1 rfl rfl dX4_count_0 rfl ?_
  rcases ite_some h with ⟨c1, h⟩ | ⟨c1, h⟩
  · refine gw_tin (pc' := 48) (off := 47) 0 cx c1 dX4_count_1 (by decide) (by decide) ?_
    refine gw_aload_n (pc' := 49) cx 0 rfl rfl dX4_count_48 rfl ?_
    refine gw_getR (pc' := 52) cx at0 rfl fl_X4_12 dX4_count_49 rfl ?_
    refine gw_getI (pc' := 55) cx (atC cty1) rfl fl_X4_72 dX4_count_52 rfl ?_
    exact gw_iret cx tg (rt1 h) (rt2 h) dX4_count_55
  · skip
    rcases ite_some h with ⟨c2, h⟩ | ⟨c2, h⟩
    · refine gw_tin (pc' := 56) (off := 55) 1 cx c2 dX4_count_1 (by decide) (by decide) ?_
      refine gw_aload_n (pc' := 57) cx 0 rfl rfl dX4_count_56 rfl ?_
      refine gw_getR (pc' := 60) cx at0 rfl fl_X4_12 dX4_count_57 rfl ?_
      refine gw_getI (pc' := 63) cx (atC cty1) rfl fl_X4_56 dX4_count_60 rfl ?_
      exact gw_iret cx tg (rt1 h) (rt2 h) dX4_count_63
    · skip
      rcases ite_some h with ⟨c3, h⟩ | ⟨c3, h⟩
      · refine gw_tin (pc' := 64) (off := 63) 2 cx c3 dX4_count_1 (by decide) (by decide) ?_
        refine gw_aload_n (pc' := 65) cx 0 rfl rfl dX4_count_64 rfl ?_
        refine gw_getR (pc' := 68) cx at0 rfl fl_X4_12 dX4_count_65 rfl ?_
        refine gw_iconst (pc' := 69) (v := 1) cx ci_1 dX4_count_68 rfl ?_
        obtain ⟨r5, g4, h⟩ := ob0_some h
        refine gw_cV (pc' := 72) (av := [.int 1]) (rest := []) cx (k_X0_sumOf E cty1 g4) (atC cty1) (by decide) lk_X4_114 dX4_count_69 rfl (Nat.le_of_ble_eq_true rfl) rfl ?_
        show GW E fr _ 72 _ (.int r5 :: _) _
        exact gw_iret cx tg (rt1 h) (rt2 h) dX4_count_72
      · skip
        rcases ite_some h with ⟨c6, h⟩ | ⟨c6, h⟩
        · refine gw_tin (pc' := 73) (off := 72) 3 cx c6 dX4_count_1 (by decide) (by decide) ?_
          refine gw_aload_n (pc' := 74) cx 0 rfl rfl dX4_count_73 rfl ?_
          refine gw_getR (pc' := 77) cx at0 rfl fl_X4_12 dX4_count_74 rfl ?_
          refine gw_iconst (pc' := 78) (v := 3) cx ci_3 dX4_count_77 rfl ?_
          obtain ⟨r8, g7, h⟩ := ob0_some h
          refine gw_cV (pc' := 81) (av := [.int 3]) (rest := []) cx (k_X0_sumOf E cty1 g7) (atC cty1) (by decide) lk_X4_114 dX4_count_78 rfl (Nat.le_of_ble_eq_true rfl) rfl ?_
          show GW E fr _ 81 _ (.int r8 :: _) _
          exact gw_iret cx tg (rt1 h) (rt2 h) dX4_count_81
        · skip
          rcases ite_some h with ⟨c9, h⟩ | ⟨c9, h⟩
          · refine gw_tin (pc' := 82) (off := 81) 4 cx c9 dX4_count_1 (by decide) (by decide) ?_
            refine gw_aload_n (pc' := 83) cx 0 rfl rfl dX4_count_82 rfl ?_
            refine gw_getR (pc' := 86) cx at0 rfl fl_X4_12 dX4_count_83 rfl ?_
            refine gw_getI (pc' := 89) cx (atC cty1) rfl fl_X4_117 dX4_count_86 rfl ?_
            exact gw_iret cx tg (rt1 h) (rt2 h) dX4_count_89
          · skip
            rcases ite_some h with ⟨c10, h⟩ | ⟨c10, h⟩
            · refine gw_tin (pc' := 90) (off := 89) 5 cx c10 dX4_count_1 (by decide) (by decide) ?_
              refine gw_aload_n (pc' := 91) cx 0 rfl rfl dX4_count_90 rfl ?_
              refine gw_getR (pc' := 94) cx at0 rfl fl_X4_25 dX4_count_91 rfl ?_
              refine gw_getI (pc' := 97) cx at37 rfl fl_X4_211 dX4_count_94 rfl ?_
              exact gw_iret cx tg (rt1 h) (rt2 h) dX4_count_97
            · skip
              rcases ite_some h with ⟨c11, h⟩ | ⟨c11, h⟩
              · refine gw_tin (pc' := 98) (off := 97) 6 cx c11 dX4_count_1 (by decide) (by decide) ?_
                refine gw_aload_n (pc' := 99) cx 0 rfl rfl dX4_count_98 rfl ?_
                refine gw_getR (pc' := 102) cx at0 rfl fl_X4_12 dX4_count_99 rfl ?_
                refine gw_getI (pc' := 105) cx (atC cty1) rfl fl_X4_208 dX4_count_102 rfl ?_
                exact gw_iret cx tg (rt1 h) (rt2 h) dX4_count_105
              · skip
                rcases ite_some h with ⟨c12, h⟩ | ⟨c12, h⟩
                · refine gw_tin (pc' := 106) (off := 105) 7 cx c12 dX4_count_1 (by decide) (by decide) ?_
                  refine gw_aload_n (pc' := 107) cx 0 rfl rfl dX4_count_106 rfl ?_
                  refine gw_getR (pc' := 110) cx at0 rfl fl_X4_12 dX4_count_107 rfl ?_
                  obtain ⟨r14, g13, h⟩ := ob0_some h
                  refine gw_cV (pc' := 113) (av := []) (rest := []) cx (k_X0_spotsInUse E cty1 g13) (atC cty1) (by decide) lk_X4_259 dX4_count_110 rfl (Nat.le_of_ble_eq_true rfl) rfl ?_
                  show GW E fr _ 113 _ (.int r14 :: _) _
                  exact gw_iret cx tg (rt1 h) (rt2 h) dX4_count_113
                · skip
                  refine gw_tout (pc' := 114) cx dX4_count_1 (by have a0 := lv_neT (a := 0) c1 rfl; have a1 := lv_neT (a := 1) c2 rfl; have a2 := lv_neT (a := 2) c3 rfl; have a3 := lv_neT (a := 3) c6 rfl; have a4 := lv_neT (a := 4) c9 rfl; have a5 := lv_neT (a := 5) c10 rfl; have a6 := lv_neT (a := 6) c11 rfl; have a7 := lv_neT (a := 7) c12 rfl; omega) (by decide) ?_
                  refine gw_aload_n (pc' := 115) cx 0 rfl rfl dX4_count_114 rfl ?_
                  refine gw_ldc (pc' := 117) (v := (-1000001)) cx ct_X4_44 dX4_count_115 rfl ?_
                  obtain ⟨r16, s17, g15, h⟩ := ob2_some h
                  refine gw_cV (pc' := 120) (av := [.int (-1000001)]) (rest := []) cx (k_X4_found E g15) at0 (by decide) lk_X4_45 dX4_count_117 rfl (Nat.le_of_ble_eq_true rfl) rfl ?_
                  show GW E fr _ 120 _ (.int r16 :: _) _
                  exact gw_iret cx tg (rt1 h) (rt2 h) dX4_count_120
def f_X4_status_L33 : Nat → Int32 → Int32 → Sg → Option (Int32 × Sg)
  | 0, _, _, _ => none
  | n + 1, y2, y3, σ =>
    if 7 ≤ y3 then
      some (y2, σ)
    else
      chk y3 7 <|
      f_X4_status_L33 n (y2 + (σ 48 y3.toNatClampNeg)) (y3 + 1) σ
theorem w_X4_status_L33 {E : Ev} {fr : Fr} {r : Int32} {σ' : Sg} (cx : Cx E mX4_status 2 fr) (tg : Tg E fr (some .int) (some (.int r)) σ')  : ∀ (n : Nat) (y2 : Int32) (y3 : Int32) (σ : Sg), f_X4_status_L33 n y2 y3 σ = some (r, σ') → GW E fr 4 33 [(0, .ref (eA E 0)), (2, .int y2), (3, .int y3)] [] σ := by
  intro n
  induction n with
  | zero => intro y2 y3 σ h; cases (show (none : Option (Int32 × Sg)) = _ from h)
  | succ n ih =>
    intro y2 y3 σ h
    rw [f_X4_status_L33] at h
    refine gw_iload_n (pc' := 34) cx 2 rfl rfl dX4_status_33 rfl ?_
    refine gw_bipush (pc' := 36) (v := 7) cx cb_7 dX4_status_34 rfl ?_
    rcases ite_some h with ⟨c9, h⟩ | ⟨c9, h⟩
    · refine gw_ic_ge_t (pc' := 54) cx c9 dX4_status_36 (by decide) ?_
      refine gw_iload_n (pc' := 55) cx 1 rfl rfl dX4_status_54 rfl ?_
      exact gw_iret cx tg (rt1 h) (rt2 h) dX4_status_55
    · refine gw_ic_ge_f (pc' := 39) cx c9 dX4_status_36 ⟨54, by decide⟩ rfl ?_
      refine gw_iload_n (pc' := 40) cx 1 rfl rfl dX4_status_39 rfl ?_
      refine gw_aload_n (pc' := 41) cx 0 rfl rfl dX4_status_40 rfl ?_
      refine gw_getR (pc' := 44) cx at0 rfl fl_X4_36 dX4_status_41 rfl ?_
      refine gw_iload_n (pc' := 45) cx 2 rfl rfl dX4_status_44 rfl ?_
      obtain ⟨i10, h⟩ := chk_some h
      refine gw_iald (pc' := 46) cx at48 i10 rfl dX4_status_45 rfl ?_
      refine gw_iadd (pc' := 47) cx dX4_status_46 rfl ?_
      refine gw_istore_n (pc' := 48) (lv' := [(2, .int (y2 + (σ 48 y3.toNatClampNeg))), (0, .ref (eA E 0)), (3, .int y3)]) cx rfl rfl (by decide) dX4_status_47 rfl ?_
      refine gw_iinc (pc' := 51) (v := (y3 + 1)) (lv' := [(3, .int (y3 + 1)), (2, .int (y2 + (σ 48 y3.toNatClampNeg))), (0, .ref (eA E 0))]) cx 2 rfl rfl rfl (by decide) dX4_status_48 rfl ?_
      refine gw_goto (pc' := 33) cx dX4_status_51 (by decide) ?_
      refine gw_sub [2, 1, 0] (lv' := [(0, .ref (eA E 0)), (2, .int (y2 + (σ 48 y3.toNatClampNeg))), (3, .int (y3 + 1))]) rfl ?_
      exact ih (y2 + (σ 48 y3.toNatClampNeg)) (y3 + 1) σ h
def f_X4_status (x1 : Int32) (σ : Sg) : Option (Int32 × Sg) :=
  ob0 (f_X4_within x1 0 6 σ) fun r2 =>
  if r2 = 0 then
    if x1 = (-1) then
      f_X4_status_L33 FU 0 0 σ
    else
      ob2 (f_X4_found (-1000001) σ) fun r6 s7 =>
      some (r6, s7)
  else
    chk x1 7 <|
    some ((σ 48 x1.toNatClampNeg), σ)
theorem k_X4_status (E : Ev) {x1 : Int32} {σ : Sg} {r : Int32} {σ' : Sg} (h : f_X4_status x1 σ = some (r, σ')) : Con E mX4_status 2 [.ref (eA E 0), .int x1] σ (some (.int r)) σ' := by
  refine con_of (by decide) (Nat.le_of_ble_eq_true rfl) (fun fr cx tg => ?_)
  show GW E fr 4 0 [(0, .ref (eA E 0)), (1, .int x1)] [] σ
  rw [f_X4_status] at h
  refine gw_iload_n (pc' := 1) cx 1 rfl rfl dX4_status_0 rfl ?_
  refine gw_iconst (pc' := 2) (v := 0) cx ci_0 dX4_status_1 rfl ?_
  refine gw_bipush (pc' := 4) (v := 6) cx cb_6 dX4_status_2 rfl ?_
  obtain ⟨r2, g1, h⟩ := ob0_some h
  refine gw_cS (pc' := 7) (av := [.int x1, .int 0, .int 6]) (rest := []) cx (k_X4_within E g1) (by decide) lk_X4_40 dX4_status_4 rfl (Nat.le_of_ble_eq_true rfl) rfl ?_
  show GW E fr _ 7 _ (.int r2 :: _) _
  rcases ite_some h with ⟨c3, h⟩ | ⟨c3, h⟩
  · refine gw_if_eq_t (pc' := 17) cx c3 dX4_status_7 (by decide) ?_
    refine gw_iload_n (pc' := 18) cx 1 rfl rfl dX4_status_17 rfl ?_
    refine gw_iconst (pc' := 19) (v := (-1)) cx ci_m1 dX4_status_18 rfl ?_
    rcases ite_some h with ⟨c4, h⟩ | ⟨c4, h⟩
    · refine gw_ic_eq_t (pc' := 29) cx c4 dX4_status_19 (by decide) ?_
      refine gw_iconst (pc' := 30) (v := 0) cx ci_0 dX4_status_29 rfl ?_
      refine gw_istore_n (pc' := 31) (lv' := [(2, .int 0), (0, .ref (eA E 0)), (1, .int x1)]) cx rfl rfl (by decide) dX4_status_30 rfl ?_
      refine gw_iconst (pc' := 32) (v := 0) cx ci_0 dX4_status_31 rfl ?_
      refine gw_istore_n (pc' := 33) (lv' := [(3, .int 0), (2, .int 0), (0, .ref (eA E 0)), (1, .int x1)]) cx rfl rfl (by decide) dX4_status_32 rfl ?_
      refine gw_sub [2, 1, 0] (lv' := [(0, .ref (eA E 0)), (2, .int 0), (3, .int 0)]) rfl ?_
      exact w_X4_status_L33 cx tg FU 0 0 σ h
    · refine gw_ic_eq_f (pc' := 22) cx c4 dX4_status_19 ⟨29, by decide⟩ rfl ?_
      refine gw_aload_n (pc' := 23) cx 0 rfl rfl dX4_status_22 rfl ?_
      refine gw_ldc (pc' := 25) (v := (-1000001)) cx ct_X4_44 dX4_status_23 rfl ?_
      obtain ⟨r6, s7, g5, h⟩ := ob2_some h
      refine gw_cV (pc' := 28) (av := [.int (-1000001)]) (rest := []) cx (k_X4_found E g5) at0 (by decide) lk_X4_45 dX4_status_25 rfl (Nat.le_of_ble_eq_true rfl) rfl ?_
      show GW E fr _ 28 _ (.int r6 :: _) _
      exact gw_iret cx tg (rt1 h) (rt2 h) dX4_status_28
  · refine gw_if_eq_f (pc' := 10) cx c3 dX4_status_7 ⟨17, by decide⟩ rfl ?_
    refine gw_aload_n (pc' := 11) cx 0 rfl rfl dX4_status_10 rfl ?_
    refine gw_getR (pc' := 14) cx at0 rfl fl_X4_36 dX4_status_11 rfl ?_
    refine gw_iload_n (pc' := 15) cx 1 rfl rfl dX4_status_14 rfl ?_
    obtain ⟨i8, h⟩ := chk_some h
    refine gw_iald (pc' := 16) cx at48 i8 rfl dX4_status_15 rfl ?_
    exact gw_iret cx tg (rt1 h) (rt2 h) dX4_status_16
