def f_X1_become (q : Nat) (x1 : Nat) (σ : Sg) : Option (Sg) :=
  lt (up2 σ q 0 (σ x1 0)) fun s1 =>
  lt (up2 s1 q 1 (s1 x1 1)) fun s3 =>
  lt (up2 s3 q 2 (s3 x1 2)) fun s5 =>
  lt (up2 s5 q 3 (s5 x1 3)) fun s7 =>
  lt (up2 s7 q 4 (s7 x1 4)) fun s9 =>
  some s9
theorem k_X1_become (E : Ev) {q : Nat} {x1 : Nat} (hq : Psn q) (hx1 : Psn x1) {σ : Sg} {σ' : Sg} (h : f_X1_become q x1 σ = some σ') : Con E mX1_become 0 [.ref (eA E q), .ref (eA E x1)] σ none σ' := by
  refine con_of (by decide) (Nat.le_of_ble_eq_true rfl) (fun fr cx tg => ?_)
  show GW E fr 2 0 [(0, .ref (eA E q)), (1, .ref (eA E x1))] [] σ
  rw [f_X1_become] at h
  refine gw_aload_n (pc' := 1) cx 0 rfl rfl dX1_become_0 rfl ?_
  refine gw_aload_n (pc' := 2) cx 1 rfl rfl dX1_become_1 rfl ?_
  refine gw_getI (pc' := 5) cx (atP hx1) rfl fl_X1_9 dX1_become_2 rfl ?_
  obtain ⟨s1, e2, h⟩ := lt_some h
  refine gw_put (pc' := 8) cx (atP hq) rfl fp_X1_9 ⟨rfl, rfl⟩ dX1_become_5 rfl e2 ?_
  refine gw_aload_n (pc' := 9) cx 0 rfl rfl dX1_become_8 rfl ?_
  refine gw_aload_n (pc' := 10) cx 1 rfl rfl dX1_become_9 rfl ?_
  refine gw_getI (pc' := 13) cx (atP hx1) rfl fl_X1_15 dX1_become_10 rfl ?_
  obtain ⟨s3, e4, h⟩ := lt_some h
  refine gw_put (pc' := 16) cx (atP hq) rfl fp_X1_15 ⟨rfl, rfl⟩ dX1_become_13 rfl e4 ?_
  refine gw_aload_n (pc' := 17) cx 0 rfl rfl dX1_become_16 rfl ?_
  refine gw_aload_n (pc' := 18) cx 1 rfl rfl dX1_become_17 rfl ?_
  refine gw_getI (pc' := 21) cx (atP hx1) rfl fl_X1_18 dX1_become_18 rfl ?_
  obtain ⟨s5, e6, h⟩ := lt_some h
  refine gw_put (pc' := 24) cx (atP hq) rfl fp_X1_18 ⟨rfl, rfl⟩ dX1_become_21 rfl e6 ?_
  refine gw_aload_n (pc' := 25) cx 0 rfl rfl dX1_become_24 rfl ?_
  refine gw_aload_n (pc' := 26) cx 1 rfl rfl dX1_become_25 rfl ?_
  refine gw_getI (pc' := 29) cx (atP hx1) rfl fl_X1_21 dX1_become_26 rfl ?_
  obtain ⟨s7, e8, h⟩ := lt_some h
  refine gw_put (pc' := 32) cx (atP hq) rfl fp_X1_21 ⟨rfl, rfl⟩ dX1_become_29 rfl e8 ?_
  refine gw_aload_n (pc' := 33) cx 0 rfl rfl dX1_become_32 rfl ?_
  refine gw_aload_n (pc' := 34) cx 1 rfl rfl dX1_become_33 rfl ?_
  refine gw_getI (pc' := 37) cx (atP hx1) rfl fl_X1_24 dX1_become_34 rfl ?_
  obtain ⟨s9, e10, h⟩ := lt_some h
  refine gw_put (pc' := 40) cx (atP hq) rfl fp_X1_24 ⟨rfl, rfl⟩ dX1_become_37 rfl e10 ?_
  exact gw_vret cx tg rfl (rtV h) dX1_become_40
def f_X1_begin (q : Nat) (x1 : Int32) (x2 : Int32) (σ : Sg) : Option (Sg) :=
  lt (up2 σ q 0 x1) fun s1 =>
  lt (up2 s1 q 1 0) fun s3 =>
  lt (up2 s3 q 2 x2) fun s5 =>
  lt (up2 s5 q 3 0) fun s7 =>
  lt (up2 s7 q 4 0) fun s9 =>
  some s9
theorem k_X1_begin (E : Ev) {q : Nat} {x1 : Int32} {x2 : Int32} (hq : Psn q) {σ : Sg} {σ' : Sg} (h : f_X1_begin q x1 x2 σ = some σ') : Con E mX1_begin 0 [.ref (eA E q), .int x1, .int x2] σ none σ' := by
  refine con_of (by decide) (Nat.le_of_ble_eq_true rfl) (fun fr cx tg => ?_)
  show GW E fr 3 0 [(0, .ref (eA E q)), (1, .int x1), (2, .int x2)] [] σ
  rw [f_X1_begin] at h
  refine gw_aload_n (pc' := 1) cx 0 rfl rfl dX1_begin_0 rfl ?_
  refine gw_iload_n (pc' := 2) cx 1 rfl rfl dX1_begin_1 rfl ?_
  obtain ⟨s1, e2, h⟩ := lt_some h
  refine gw_put (pc' := 5) cx (atP hq) rfl fp_X1_9 ⟨rfl, rfl⟩ dX1_begin_2 rfl e2 ?_
  refine gw_aload_n (pc' := 6) cx 0 rfl rfl dX1_begin_5 rfl ?_
  refine gw_iconst (pc' := 7) (v := 0) cx ci_0 dX1_begin_6 rfl ?_
  obtain ⟨s3, e4, h⟩ := lt_some h
  refine gw_put (pc' := 10) cx (atP hq) rfl fp_X1_15 ⟨rfl, rfl⟩ dX1_begin_7 rfl e4 ?_
  refine gw_aload_n (pc' := 11) cx 0 rfl rfl dX1_begin_10 rfl ?_
  refine gw_iload_n (pc' := 12) cx 2 rfl rfl dX1_begin_11 rfl ?_
  obtain ⟨s5, e6, h⟩ := lt_some h
  refine gw_put (pc' := 15) cx (atP hq) rfl fp_X1_18 ⟨rfl, rfl⟩ dX1_begin_12 rfl e6 ?_
  refine gw_aload_n (pc' := 16) cx 0 rfl rfl dX1_begin_15 rfl ?_
  refine gw_iconst (pc' := 17) (v := 0) cx ci_0 dX1_begin_16 rfl ?_
  obtain ⟨s7, e8, h⟩ := lt_some h
  refine gw_put (pc' := 20) cx (atP hq) rfl fp_X1_21 ⟨rfl, rfl⟩ dX1_begin_17 rfl e8 ?_
  refine gw_aload_n (pc' := 21) cx 0 rfl rfl dX1_begin_20 rfl ?_
  refine gw_iconst (pc' := 22) (v := 0) cx ci_0 dX1_begin_21 rfl ?_
  obtain ⟨s9, e10, h⟩ := lt_some h
  refine gw_put (pc' := 25) cx (atP hq) rfl fp_X1_24 ⟨rfl, rfl⟩ dX1_begin_22 rfl e10 ?_
  exact gw_vret cx tg rfl (rtV h) dX1_begin_25
def f_X1_attribute (q : Nat) (x1 : Int32) (σ : Sg) : Option (Int32) :=
  if x1 = 0 then
    some (σ q 0)
  else
    if x1 = 1 then
      some (σ q 1)
    else
      if x1 = 2 then
        some (σ q 2)
      else
        if x1 = 3 then
          some (σ q 3)
        else
          some (σ q 4)
theorem k_X1_attribute (E : Ev) {q : Nat} {x1 : Int32} (hq : Psn q) {σ : Sg} {r : Int32} (h : f_X1_attribute q x1 σ = some r) : Con E mX1_attribute 0 [.ref (eA E q), .int x1] σ (some (.int r)) σ := by
  refine con_of (by decide) (Nat.le_of_ble_eq_true rfl) (fun fr cx tg => ?_)
  show GW E fr 2 0 [(0, .ref (eA E q)), (1, .int x1)] [] σ
  rw [f_X1_attribute] at h
  refine gw_iload_n (pc' := 1) cx 1 rfl rfl dX1_attribute_0 rfl ?_
  rcases ite_some h with ⟨c1, h⟩ | ⟨c1, h⟩
  · refine gw_tin (pc' := 32) (off := 31) 0 cx c1 dX1_attribute_1 (by decide) (by decide) ?_
    refine gw_aload_n (pc' := 33) cx 0 rfl rfl dX1_attribute_32 rfl ?_
    refine gw_getI (pc' := 36) cx (atP hq) rfl fl_X1_9 dX1_attribute_33 rfl ?_
    exact gw_iret cx tg (rt0 h) rfl dX1_attribute_36
  · skip
    rcases ite_some h with ⟨c2, h⟩ | ⟨c2, h⟩
    · refine gw_tin (pc' := 37) (off := 36) 1 cx c2 dX1_attribute_1 (by decide) (by decide) ?_
      refine gw_aload_n (pc' := 38) cx 0 rfl rfl dX1_attribute_37 rfl ?_
      refine gw_getI (pc' := 41) cx (atP hq) rfl fl_X1_15 dX1_attribute_38 rfl ?_
      exact gw_iret cx tg (rt0 h) rfl dX1_attribute_41
    · skip
      rcases ite_some h with ⟨c3, h⟩ | ⟨c3, h⟩
      · refine gw_tin (pc' := 42) (off := 41) 2 cx c3 dX1_attribute_1 (by decide) (by decide) ?_
        refine gw_aload_n (pc' := 43) cx 0 rfl rfl dX1_attribute_42 rfl ?_
        refine gw_getI (pc' := 46) cx (atP hq) rfl fl_X1_18 dX1_attribute_43 rfl ?_
        exact gw_iret cx tg (rt0 h) rfl dX1_attribute_46
      · skip
        rcases ite_some h with ⟨c4, h⟩ | ⟨c4, h⟩
        · refine gw_tin (pc' := 47) (off := 46) 3 cx c4 dX1_attribute_1 (by decide) (by decide) ?_
          refine gw_aload_n (pc' := 48) cx 0 rfl rfl dX1_attribute_47 rfl ?_
          refine gw_getI (pc' := 51) cx (atP hq) rfl fl_X1_21 dX1_attribute_48 rfl ?_
          exact gw_iret cx tg (rt0 h) rfl dX1_attribute_51
        · skip
          refine gw_tout (pc' := 52) cx dX1_attribute_1 (by have a0 := lv_neT (a := 0) c1 rfl; have a1 := lv_neT (a := 1) c2 rfl; have a2 := lv_neT (a := 2) c3 rfl; have a3 := lv_neT (a := 3) c4 rfl; omega) (by decide) ?_
          refine gw_aload_n (pc' := 53) cx 0 rfl rfl dX1_attribute_52 rfl ?_
          refine gw_getI (pc' := 56) cx (atP hq) rfl fl_X1_24 dX1_attribute_53 rfl ?_
          exact gw_iret cx tg (rt0 h) rfl dX1_attribute_56
def f_X1_room (q : Nat) (σ : Sg) : Option (Int32) :=
  if (σ q 0) = 1 then
    some ((jmax 0 ((σ q 2) - (σ q 3))) / 2)
  else
    if (σ q 0) = 2 then
      some (jmax 0 ((σ q 2) - (σ q 3)))
    else
      if (σ q 0) = 3 then
        some ((jmax 0 ((σ q 2) - (σ q 3))) + (σ q 2))
      else
        if (σ q 0) = 4 then
          some ((jmax 0 ((σ q 2) - (σ q 3))) + (σ q 2))
        else
          if (σ q 0) = 5 then
            if (σ q 3) = 0 then
              some 99
            else
              some (jmax 0 ((σ q 2) - (σ q 3)))
          else
            if (σ q 0) = 6 then
              some (((jmax 0 ((σ q 2) - (σ q 3))) / 2) + 5)
            else
              some (jmax 0 ((σ q 2) - (σ q 3)))
theorem k_X1_room (E : Ev) {q : Nat} (hq : Psn q) {σ : Sg} {r : Int32} (h : f_X1_room q σ = some r) : Con E mX1_room 1 [.ref (eA E q)] σ (some (.int r)) σ := by
  refine con_of (by decide) (Nat.le_of_ble_eq_true rfl) (fun fr cx tg => ?_)
  show GW E fr 2 0 [(0, .ref (eA E q))] [] σ
  rw [f_X1_room] at h
  refine gw_iconst (pc' := 1) (v := 0) cx ci_0 dX1_room_0 rfl ?_
  refine gw_aload_n (pc' := 2) cx 0 rfl rfl dX1_room_1 rfl ?_
  refine gw_getI (pc' := 5) cx (atP hq) rfl fl_X1_18 dX1_room_2 rfl ?_
  refine gw_aload_n (pc' := 6) cx 0 rfl rfl dX1_room_5 rfl ?_
  refine gw_getI (pc' := 9) cx (atP hq) rfl fl_X1_21 dX1_room_6 rfl ?_
  refine gw_isub (pc' := 10) cx dX1_room_9 rfl ?_
  refine gw_mmax (pc' := 13) (rest := []) cx lm_X1_27 (by decide) (Nat.le_of_ble_eq_true rfl) dX1_room_10 rfl ?_
  refine gw_istore_n (pc' := 14) (lv' := [(1, .int (jmax 0 ((σ q 2) - (σ q 3)))), (0, .ref (eA E q))]) cx rfl rfl (by decide) dX1_room_13 rfl ?_
  refine gw_aload_n (pc' := 15) cx 1 rfl rfl dX1_room_14 rfl ?_
  refine gw_getI (pc' := 18) cx (atP hq) rfl fl_X1_9 dX1_room_15 rfl ?_
  rcases ite_some h with ⟨c1, h⟩ | ⟨c1, h⟩
  · refine gw_tin (pc' := 56) (off := 38) 1 cx c1 dX1_room_18 (by decide) (by decide) ?_
    refine gw_iload_n (pc' := 57) cx 0 rfl rfl dX1_room_56 rfl ?_
    refine gw_iconst (pc' := 58) (v := 2) cx ci_2 dX1_room_57 rfl ?_
    refine gw_idiv (pc' := 59) cx (by decide) dX1_room_58 rfl ?_
    exact gw_iret cx tg (rt0 h) rfl dX1_room_59
  · skip
    rcases ite_some h with ⟨c2, h⟩ | ⟨c2, h⟩
    · refine gw_tin (pc' := 87) (off := 69) 2 cx c2 dX1_room_18 (by decide) (by decide) ?_
      refine gw_iload_n (pc' := 88) cx 0 rfl rfl dX1_room_87 rfl ?_
      exact gw_iret cx tg (rt0 h) rfl dX1_room_88
    · skip
      rcases ite_some h with ⟨c3, h⟩ | ⟨c3, h⟩
      · refine gw_tin (pc' := 66) (off := 48) 3 cx c3 dX1_room_18 (by decide) (by decide) ?_
        refine gw_iload_n (pc' := 67) cx 0 rfl rfl dX1_room_66 rfl ?_
        refine gw_aload_n (pc' := 68) cx 1 rfl rfl dX1_room_67 rfl ?_
        refine gw_getI (pc' := 71) cx (atP hq) rfl fl_X1_18 dX1_room_68 rfl ?_
        refine gw_iadd (pc' := 72) cx dX1_room_71 rfl ?_
        exact gw_iret cx tg (rt0 h) rfl dX1_room_72
      · skip
        rcases ite_some h with ⟨c4, h⟩ | ⟨c4, h⟩
        · refine gw_tin (pc' := 66) (off := 48) 4 cx c4 dX1_room_18 (by decide) (by decide) ?_
          refine gw_iload_n (pc' := 67) cx 0 rfl rfl dX1_room_66 rfl ?_
          refine gw_aload_n (pc' := 68) cx 1 rfl rfl dX1_room_67 rfl ?_
          refine gw_getI (pc' := 71) cx (atP hq) rfl fl_X1_18 dX1_room_68 rfl ?_
          refine gw_iadd (pc' := 72) cx dX1_room_71 rfl ?_
          exact gw_iret cx tg (rt0 h) rfl dX1_room_72
        · skip
          rcases ite_some h with ⟨c5, h⟩ | ⟨c5, h⟩
          · refine gw_tin (pc' := 73) (off := 55) 5 cx c5 dX1_room_18 (by decide) (by decide) ?_
            refine gw_aload_n (pc' := 74) cx 1 rfl rfl dX1_room_73 rfl ?_
            refine gw_getI (pc' := 77) cx (atP hq) rfl fl_X1_21 dX1_room_74 rfl ?_
            rcases ite_some h with ⟨c6, h⟩ | ⟨c6, h⟩
            · refine gw_if_ne_f (pc' := 80) cx c6 dX1_room_77 ⟨85, by decide⟩ rfl ?_
              refine gw_bipush (pc' := 82) (v := 99) cx cb_99 dX1_room_80 rfl ?_
              refine gw_goto (pc' := 86) cx dX1_room_82 (by decide) ?_
              exact gw_iret cx tg (rt0 h) rfl dX1_room_86
            · refine gw_if_ne_t (pc' := 85) cx c6 dX1_room_77 (by decide) ?_
              refine gw_iload_n (pc' := 86) cx 0 rfl rfl dX1_room_85 rfl ?_
              exact gw_iret cx tg (rt0 h) rfl dX1_room_86
          · skip
            rcases ite_some h with ⟨c7, h⟩ | ⟨c7, h⟩
            · refine gw_tin (pc' := 60) (off := 42) 6 cx c7 dX1_room_18 (by decide) (by decide) ?_
              refine gw_iload_n (pc' := 61) cx 0 rfl rfl dX1_room_60 rfl ?_
              refine gw_iconst (pc' := 62) (v := 2) cx ci_2 dX1_room_61 rfl ?_
              refine gw_idiv (pc' := 63) cx (by decide) dX1_room_62 rfl ?_
              refine gw_iconst (pc' := 64) (v := 5) cx ci_5 dX1_room_63 rfl ?_
              refine gw_iadd (pc' := 65) cx dX1_room_64 rfl ?_
              exact gw_iret cx tg (rt0 h) rfl dX1_room_65
            · skip
              refine gw_tout (pc' := 87) cx dX1_room_18 (by have a1 := lv_neT (a := 1) c1 rfl; have a2 := lv_neT (a := 2) c2 rfl; have a3 := lv_neT (a := 3) c3 rfl; have a4 := lv_neT (a := 4) c4 rfl; have a5 := lv_neT (a := 5) c5 rfl; have a6 := lv_neT (a := 6) c7 rfl; omega) (by decide) ?_
              refine gw_iload_n (pc' := 88) cx 0 rfl rfl dX1_room_87 rfl ?_
              exact gw_iret cx tg (rt0 h) rfl dX1_room_88
def f_X4_saying (x0 : Int32) (x1 : Int32) (σ : Sg) : Option (Int32) :=
  some ((100 * x0) + x1)
theorem k_X4_saying (E : Ev) {x0 : Int32} {x1 : Int32} {σ : Sg} {r : Int32} (h : f_X4_saying x0 x1 σ = some r) : Con E mX4_saying 0 [.int x0, .int x1] σ (some (.int r)) σ := by
  refine con_of (by decide) (Nat.le_of_ble_eq_true rfl) (fun fr cx tg => ?_)
  show GW E fr 2 0 [(0, .int x0), (1, .int x1)] [] σ
  rw [f_X4_saying] at h
  refine gw_bipush (pc' := 2) (v := 100) cx cb_100 dX4_saying_0 rfl ?_
  refine gw_iload_n (pc' := 3) cx 0 rfl rfl dX4_saying_2 rfl ?_
  refine gw_imul (pc' := 4) cx dX4_saying_3 rfl ?_
  refine gw_iload_n (pc' := 5) cx 1 rfl rfl dX4_saying_4 rfl ?_
  refine gw_iadd (pc' := 6) cx dX4_saying_5 rfl ?_
  exact gw_iret cx tg (rt0 h) rfl dX4_saying_6
def f_X1_feeling (q : Nat) (x1 : Int32) (σ : Sg) : Option (Int32) :=
  if (σ q 0) = 1 then
    some (2 * x1)
  else
    if (σ q 0) = 2 then
      some (x1 / 2)
    else
      if (σ q 0) = 3 then
        some ((x1 / 2) + 1)
      else
        if (σ q 0) = 4 then
          some (((x1 / 2) + 1) + ((σ q 3) / 10))
        else
          if (σ q 0) = 5 then
            if 5 ≤ x1 then
              some x1
            else
              some 0
          else
            if (σ q 0) = 6 then
              some (jmax 0 ((2 * x1) - 3))
            else
              some x1
theorem k_X1_feeling (E : Ev) {q : Nat} {x1 : Int32} (hq : Psn q) {σ : Sg} {r : Int32} (h : f_X1_feeling q x1 σ = some r) : Con E mX1_feeling 1 [.ref (eA E q), .int x1] σ (some (.int r)) σ := by
  refine con_of (by decide) (Nat.le_of_ble_eq_true rfl) (fun fr cx tg => ?_)
  show GW E fr 2 0 [(0, .ref (eA E q)), (1, .int x1)] [] σ
  rw [f_X1_feeling] at h
  refine gw_aload_n (pc' := 1) cx 0 rfl rfl dX1_feeling_0 rfl ?_
  refine gw_getI (pc' := 4) cx (atP hq) rfl fl_X1_9 dX1_feeling_1 rfl ?_
  rcases ite_some h with ⟨c1, h⟩ | ⟨c1, h⟩
  · refine gw_tin (pc' := 44) (off := 40) 1 cx c1 dX1_feeling_4 (by decide) (by decide) ?_
    refine gw_iconst (pc' := 45) (v := 2) cx ci_2 dX1_feeling_44 rfl ?_
    refine gw_iload_n (pc' := 46) cx 1 rfl rfl dX1_feeling_45 rfl ?_
    refine gw_imul (pc' := 47) cx dX1_feeling_46 rfl ?_
    exact gw_iret cx tg (rt0 h) rfl dX1_feeling_47
  · skip
    rcases ite_some h with ⟨c2, h⟩ | ⟨c2, h⟩
    · refine gw_tin (pc' := 58) (off := 54) 2 cx c2 dX1_feeling_4 (by decide) (by decide) ?_
      refine gw_iload_n (pc' := 59) cx 1 rfl rfl dX1_feeling_58 rfl ?_
      refine gw_iconst (pc' := 60) (v := 2) cx ci_2 dX1_feeling_59 rfl ?_
      refine gw_idiv (pc' := 61) cx (by decide) dX1_feeling_60 rfl ?_
      exact gw_iret cx tg (rt0 h) rfl dX1_feeling_61
    · skip
      rcases ite_some h with ⟨c3, h⟩ | ⟨c3, h⟩
      · refine gw_tin (pc' := 62) (off := 58) 3 cx c3 dX1_feeling_4 (by decide) (by decide) ?_
        refine gw_iload_n (pc' := 63) cx 1 rfl rfl dX1_feeling_62 rfl ?_
        refine gw_iconst (pc' := 64) (v := 2) cx ci_2 dX1_feeling_63 rfl ?_
        refine gw_idiv (pc' := 65) cx (by decide) dX1_feeling_64 rfl ?_
        refine gw_iconst (pc' := 66) (v := 1) cx ci_1 dX1_feeling_65 rfl ?_
        refine gw_iadd (pc' := 67) cx dX1_feeling_66 rfl ?_
        exact gw_iret cx tg (rt0 h) rfl dX1_feeling_67
      · skip
        rcases ite_some h with ⟨c4, h⟩ | ⟨c4, h⟩
        · refine gw_tin (pc' := 68) (off := 64) 4 cx c4 dX1_feeling_4 (by decide) (by decide) ?_
          refine gw_iload_n (pc' := 69) cx 1 rfl rfl dX1_feeling_68 rfl ?_
          refine gw_iconst (pc' := 70) (v := 2) cx ci_2 dX1_feeling_69 rfl ?_
          refine gw_idiv (pc' := 71) cx (by decide) dX1_feeling_70 rfl ?_
          refine gw_iconst (pc' := 72) (v := 1) cx ci_1 dX1_feeling_71 rfl ?_
          refine gw_iadd (pc' := 73) cx dX1_feeling_72 rfl ?_
          refine gw_aload_n (pc' := 74) cx 0 rfl rfl dX1_feeling_73 rfl ?_
          refine gw_getI (pc' := 77) cx (atP hq) rfl fl_X1_21 dX1_feeling_74 rfl ?_
          refine gw_bipush (pc' := 79) (v := 10) cx cb_10 dX1_feeling_77 rfl ?_
          refine gw_idiv (pc' := 80) cx (by decide) dX1_feeling_79 rfl ?_
          refine gw_iadd (pc' := 81) cx dX1_feeling_80 rfl ?_
          exact gw_iret cx tg (rt0 h) rfl dX1_feeling_81
        · skip
          rcases ite_some h with ⟨c5, h⟩ | ⟨c5, h⟩
          · refine gw_tin (pc' := 82) (off := 78) 5 cx c5 dX1_feeling_4 (by decide) (by decide) ?_
            refine gw_iload_n (pc' := 83) cx 1 rfl rfl dX1_feeling_82 rfl ?_
            refine gw_iconst (pc' := 84) (v := 5) cx ci_5 dX1_feeling_83 rfl ?_
            rcases ite_some h with ⟨c6, h⟩ | ⟨c6, h⟩
            · refine gw_ic_ge_t (pc' := 91) cx c6 dX1_feeling_84 (by decide) ?_
              refine gw_iload_n (pc' := 92) cx 1 rfl rfl dX1_feeling_91 rfl ?_
              exact gw_iret cx tg (rt0 h) rfl dX1_feeling_92
            · refine gw_ic_ge_f (pc' := 87) cx c6 dX1_feeling_84 ⟨91, by decide⟩ rfl ?_
              refine gw_iconst (pc' := 88) (v := 0) cx ci_0 dX1_feeling_87 rfl ?_
              refine gw_goto (pc' := 92) cx dX1_feeling_88 (by decide) ?_
              exact gw_iret cx tg (rt0 h) rfl dX1_feeling_92
          · skip
            rcases ite_some h with ⟨c7, h⟩ | ⟨c7, h⟩
            · refine gw_tin (pc' := 48) (off := 44) 6 cx c7 dX1_feeling_4 (by decide) (by decide) ?_
              refine gw_iconst (pc' := 49) (v := 0) cx ci_0 dX1_feeling_48 rfl ?_
              refine gw_iconst (pc' := 50) (v := 2) cx ci_2 dX1_feeling_49 rfl ?_
              refine gw_iload_n (pc' := 51) cx 1 rfl rfl dX1_feeling_50 rfl ?_
              refine gw_imul (pc' := 52) cx dX1_feeling_51 rfl ?_
              refine gw_iconst (pc' := 53) (v := 3) cx ci_3 dX1_feeling_52 rfl ?_
              refine gw_isub (pc' := 54) cx dX1_feeling_53 rfl ?_
              refine gw_mmax (pc' := 57) (rest := []) cx lm_X1_27 (by decide) (Nat.le_of_ble_eq_true rfl) dX1_feeling_54 rfl ?_
              exact gw_iret cx tg (rt0 h) rfl dX1_feeling_57
            · skip
              refine gw_tout (pc' := 93) cx dX1_feeling_4 (by have a1 := lv_neT (a := 1) c1 rfl; have a2 := lv_neT (a := 2) c2 rfl; have a3 := lv_neT (a := 3) c3 rfl; have a4 := lv_neT (a := 4) c4 rfl; have a5 := lv_neT (a := 5) c5 rfl; have a6 := lv_neT (a := 6) c7 rfl; omega) (by decide) ?_
              refine gw_iload_n (pc' := 94) cx 1 rfl rfl dX1_feeling_93 rfl ?_
              exact gw_iret cx tg (rt0 h) rfl dX1_feeling_94
def f_X1_suffer (q : Nat) (x1 : Int32) (x2 : Int32) (σ : Sg) : Option (Sg) :=
  lt (up2 σ q 1 (jmin 9999 ((σ q 1) + x1))) fun s1 =>
  lt (up2 s1 q 3 (jmin 9999 ((s1 q 3) + x2))) fun s3 =>
  some s3
theorem k_X1_suffer (E : Ev) {q : Nat} {x1 : Int32} {x2 : Int32} (hq : Psn q) {σ : Sg} {σ' : Sg} (h : f_X1_suffer q x1 x2 σ = some σ') : Con E mX1_suffer 1 [.ref (eA E q), .int x1, .int x2] σ none σ' := by
  refine con_of (by decide) (Nat.le_of_ble_eq_true rfl) (fun fr cx tg => ?_)
  show GW E fr 3 0 [(0, .ref (eA E q)), (1, .int x1), (2, .int x2)] [] σ
  rw [f_X1_suffer] at h
  refine gw_aload_n (pc' := 1) cx 0 rfl rfl dX1_suffer_0 rfl ?_
  refine gw_sipush (pc' := 4) (v := 9999) cx cs_9999 dX1_suffer_1 rfl ?_
  refine gw_aload_n (pc' := 5) cx 0 rfl rfl dX1_suffer_4 rfl ?_
  refine gw_getI (pc' := 8) cx (atP hq) rfl fl_X1_15 dX1_suffer_5 rfl ?_
  refine gw_iload_n (pc' := 9) cx 1 rfl rfl dX1_suffer_8 rfl ?_
  refine gw_iadd (pc' := 10) cx dX1_suffer_9 rfl ?_
  refine gw_mmin (pc' := 13) (rest := [.ref (eA E q)]) cx lm_X1_37 (by decide) (Nat.le_of_ble_eq_true rfl) dX1_suffer_10 rfl ?_
  obtain ⟨s1, e2, h⟩ := lt_some h
  refine gw_put (pc' := 16) cx (atP hq) rfl fp_X1_15 ⟨rfl, rfl⟩ dX1_suffer_13 rfl e2 ?_
  refine gw_aload_n (pc' := 17) cx 0 rfl rfl dX1_suffer_16 rfl ?_
  refine gw_sipush (pc' := 20) (v := 9999) cx cs_9999 dX1_suffer_17 rfl ?_
  refine gw_aload_n (pc' := 21) cx 0 rfl rfl dX1_suffer_20 rfl ?_
  refine gw_getI (pc' := 24) cx (atP hq) rfl fl_X1_21 dX1_suffer_21 rfl ?_
  refine gw_iload_n (pc' := 25) cx 2 rfl rfl dX1_suffer_24 rfl ?_
  refine gw_iadd (pc' := 26) cx dX1_suffer_25 rfl ?_
  refine gw_mmin (pc' := 29) (rest := [.ref (eA E q)]) cx lm_X1_37 (by decide) (Nat.le_of_ble_eq_true rfl) dX1_suffer_26 rfl ?_
  obtain ⟨s3, e4, h⟩ := lt_some h
  refine gw_put (pc' := 32) cx (atP hq) rfl fp_X1_21 ⟨rfl, rfl⟩ dX1_suffer_29 rfl e4 ?_
  exact gw_vret cx tg rfl (rtV h) dX1_suffer_32
def f_X4_isIn (x0 : Int32) (x1 : Int32) (σ : Sg) : Option (Int32) :=
  if ((jshr x0 x1) &&& 1) = 1 then
    some 1
  else
    some 0
theorem k_X4_isIn (E : Ev) {x0 : Int32} {x1 : Int32} {σ : Sg} {r : Int32} (h : f_X4_isIn x0 x1 σ = some r) : Con E mX4_isIn 0 [.int x0, .int x1] σ (some (.int r)) σ := by
  refine con_of (by decide) (Nat.le_of_ble_eq_true rfl) (fun fr cx tg => ?_)
  show GW E fr 2 0 [(0, .int x0), (1, .int x1)] [] σ
  rw [f_X4_isIn] at h
  refine gw_iload_n (pc' := 1) cx 0 rfl rfl dX4_isIn_0 rfl ?_
  refine gw_iload_n (pc' := 2) cx 1 rfl rfl dX4_isIn_1 rfl ?_
  refine gw_ishr (pc' := 3) cx dX4_isIn_2 rfl ?_
  refine gw_iconst (pc' := 4) (v := 1) cx ci_1 dX4_isIn_3 rfl ?_
  refine gw_iand (pc' := 5) cx dX4_isIn_4 rfl ?_
  refine gw_iconst (pc' := 6) (v := 1) cx ci_1 dX4_isIn_5 rfl ?_
  rcases ite_some h with ⟨c1, h⟩ | ⟨c1, h⟩
  · refine gw_ic_ne_f (pc' := 9) cx c1 dX4_isIn_6 ⟨13, by decide⟩ rfl ?_
    refine gw_iconst (pc' := 10) (v := 1) cx ci_1 dX4_isIn_9 rfl ?_
    refine gw_goto (pc' := 14) cx dX4_isIn_10 (by decide) ?_
    exact gw_zret cx tg (Or.inr rfl) (rt0 h) rfl dX4_isIn_14
  · refine gw_ic_ne_t (pc' := 13) cx c1 dX4_isIn_6 (by decide) ?_
    refine gw_iconst (pc' := 14) (v := 0) cx ci_0 dX4_isIn_13 rfl ?_
    exact gw_zret cx tg (Or.inl rfl) (rt0 h) rfl dX4_isIn_14
def f_X1_mostAsked (q : Nat) (x1 : Int32) (σ : Sg) : Option (Int32) :=
  if (σ q 0) = 1 then
    some 5
  else
    if (σ q 0) = 2 then
      some 20
    else
      if (σ q 0) = 3 then
        some 0
      else
        if (σ q 0) = 4 then
          if (jrem x1 7) = 6 then
            some 3
          else
            some 0
        else
          if (σ q 0) = 5 then
            some 10
          else
            if (σ q 0) = 6 then
              some 15
            else
              some 10
theorem k_X1_mostAsked (E : Ev) {q : Nat} {x1 : Int32} (hq : Psn q) {σ : Sg} {r : Int32} (h : f_X1_mostAsked q x1 σ = some r) : Con E mX1_mostAsked 0 [.ref (eA E q), .int x1] σ (some (.int r)) σ := by
  refine con_of (by decide) (Nat.le_of_ble_eq_true rfl) (fun fr cx tg => ?_)
  show GW E fr 2 0 [(0, .ref (eA E q)), (1, .int x1)] [] σ
  rw [f_X1_mostAsked] at h
  refine gw_aload_n (pc' := 1) cx 0 rfl rfl dX1_mostAsked_0 rfl ?_
  refine gw_getI (pc' := 4) cx (atP hq) rfl fl_X1_9 dX1_mostAsked_1 rfl ?_
  rcases ite_some h with ⟨c1, h⟩ | ⟨c1, h⟩
  · refine gw_tin (pc' := 44) (off := 40) 1 cx c1 dX1_mostAsked_4 (by decide) (by decide) ?_
    refine gw_iconst (pc' := 45) (v := 5) cx ci_5 dX1_mostAsked_44 rfl ?_
    exact gw_iret cx tg (rt0 h) rfl dX1_mostAsked_45
  · skip
    rcases ite_some h with ⟨c2, h⟩ | ⟨c2, h⟩
    · refine gw_tin (pc' := 49) (off := 45) 2 cx c2 dX1_mostAsked_4 (by decide) (by decide) ?_
      refine gw_bipush (pc' := 51) (v := 20) cx cb_20 dX1_mostAsked_49 rfl ?_
      exact gw_iret cx tg (rt0 h) rfl dX1_mostAsked_51
    · skip
      rcases ite_some h with ⟨c3, h⟩ | ⟨c3, h⟩
      · refine gw_tin (pc' := 52) (off := 48) 3 cx c3 dX1_mostAsked_4 (by decide) (by decide) ?_
        refine gw_iconst (pc' := 53) (v := 0) cx ci_0 dX1_mostAsked_52 rfl ?_
        exact gw_iret cx tg (rt0 h) rfl dX1_mostAsked_53
      · skip
        rcases ite_some h with ⟨c4, h⟩ | ⟨c4, h⟩
        · refine gw_tin (pc' := 54) (off := 50) 4 cx c4 dX1_mostAsked_4 (by decide) (by decide) ?_
          refine gw_iload_n (pc' := 55) cx 1 rfl rfl dX1_mostAsked_54 rfl ?_
          refine gw_bipush (pc' := 57) (v := 7) cx cb_7 dX1_mostAsked_55 rfl ?_
          refine gw_irem (pc' := 58) cx (by decide) dX1_mostAsked_57 rfl ?_
          refine gw_bipush (pc' := 60) (v := 6) cx cb_6 dX1_mostAsked_58 rfl ?_
          rcases ite_some h with ⟨c5, h⟩ | ⟨c5, h⟩
          · refine gw_ic_ne_f (pc' := 63) cx c5 dX1_mostAsked_60 ⟨67, by decide⟩ rfl ?_
            refine gw_iconst (pc' := 64) (v := 3) cx ci_3 dX1_mostAsked_63 rfl ?_
            refine gw_goto (pc' := 68) cx dX1_mostAsked_64 (by decide) ?_
            exact gw_iret cx tg (rt0 h) rfl dX1_mostAsked_68
          · refine gw_ic_ne_t (pc' := 67) cx c5 dX1_mostAsked_60 (by decide) ?_
            refine gw_iconst (pc' := 68) (v := 0) cx ci_0 dX1_mostAsked_67 rfl ?_
            exact gw_iret cx tg (rt0 h) rfl dX1_mostAsked_68
        · skip
          rcases ite_some h with ⟨c6, h⟩ | ⟨c6, h⟩
          · refine gw_tin (pc' := 69) (off := 65) 5 cx c6 dX1_mostAsked_4 (by decide) (by decide) ?_
            refine gw_bipush (pc' := 71) (v := 10) cx cb_10 dX1_mostAsked_69 rfl ?_
            exact gw_iret cx tg (rt0 h) rfl dX1_mostAsked_71
          · skip
            rcases ite_some h with ⟨c7, h⟩ | ⟨c7, h⟩
            · refine gw_tin (pc' := 46) (off := 42) 6 cx c7 dX1_mostAsked_4 (by decide) (by decide) ?_
              refine gw_bipush (pc' := 48) (v := 15) cx cb_15 dX1_mostAsked_46 rfl ?_
              exact gw_iret cx tg (rt0 h) rfl dX1_mostAsked_48
            · skip
              refine gw_tout (pc' := 69) cx dX1_mostAsked_4 (by have a1 := lv_neT (a := 1) c1 rfl; have a2 := lv_neT (a := 2) c2 rfl; have a3 := lv_neT (a := 3) c3 rfl; have a4 := lv_neT (a := 4) c4 rfl; have a5 := lv_neT (a := 5) c6 rfl; have a6 := lv_neT (a := 6) c7 rfl; omega) (by decide) ?_
              refine gw_bipush (pc' := 71) (v := 10) cx cb_10 dX1_mostAsked_69 rfl ?_
              exact gw_iret cx tg (rt0 h) rfl dX1_mostAsked_71
def f_X1_asking (q : Nat) (x1 : Int32) (σ : Sg) : Option (Int32) :=
  ob0 (f_X1_mostAsked q x1 σ) fun r2 =>
  some (jmin r2 (σ q 1))
theorem k_X1_asking (E : Ev) {q : Nat} {x1 : Int32} (hq : Psn q) {σ : Sg} {r : Int32} (h : f_X1_asking q x1 σ = some r) : Con E mX1_asking 1 [.ref (eA E q), .int x1] σ (some (.int r)) σ := by
  refine con_of (by decide) (Nat.le_of_ble_eq_true rfl) (fun fr cx tg => ?_)
  show GW E fr 2 0 [(0, .ref (eA E q)), (1, .int x1)] [] σ
  rw [f_X1_asking] at h
  refine gw_aload_n (pc' := 1) cx 0 rfl rfl dX1_asking_0 rfl ?_
  refine gw_iload_n (pc' := 2) cx 1 rfl rfl dX1_asking_1 rfl ?_
  obtain ⟨r2, g1, h⟩ := ob0_some h
  refine gw_cV (pc' := 5) (av := [.int x1]) (rest := []) cx (k_X1_mostAsked E hq g1) (atP hq) (by decide) lk_X1_33 dX1_asking_2 rfl (Nat.le_of_ble_eq_true rfl) rfl ?_
  show GW E fr _ 5 _ (.int r2 :: _) _
  refine gw_aload_n (pc' := 6) cx 0 rfl rfl dX1_asking_5 rfl ?_
  refine gw_getI (pc' := 9) cx (atP hq) rfl fl_X1_15 dX1_asking_6 rfl ?_
  refine gw_mmin (pc' := 12) (rest := []) cx lm_X1_37 (by decide) (Nat.le_of_ble_eq_true rfl) dX1_asking_9 rfl ?_
  exact gw_iret cx tg (rt0 h) rfl dX1_asking_12
def f_X1_forgetting (q : Nat) (σ : Sg) : Option (Int32) :=
  if (σ q 0) = 1 then
    some 0
  else
    if (σ q 0) = 2 then
      some 3
    else
      if (σ q 0) = 3 then
        some 3
      else
        if (σ q 0) = 4 then
          some 6
        else
          some 1
theorem k_X1_forgetting (E : Ev) {q : Nat} (hq : Psn q) {σ : Sg} {r : Int32} (h : f_X1_forgetting q σ = some r) : Con E mX1_forgetting 0 [.ref (eA E q)] σ (some (.int r)) σ := by
  refine con_of (by decide) (Nat.le_of_ble_eq_true rfl) (fun fr cx tg => ?_)
  show GW E fr 1 0 [(0, .ref (eA E q))] [] σ
  rw [f_X1_forgetting] at h
  refine gw_aload_n (pc' := 1) cx 0 rfl rfl dX1_forgetting_0 rfl ?_
  refine gw_getI (pc' := 4) cx (atP hq) rfl fl_X1_9 dX1_forgetting_1 rfl ?_
  rcases ite_some h with ⟨c1, h⟩ | ⟨c1, h⟩
  · refine gw_tin (pc' := 36) (off := 32) 1 cx c1 dX1_forgetting_4 (by decide) (by decide) ?_
    refine gw_iconst (pc' := 37) (v := 0) cx ci_0 dX1_forgetting_36 rfl ?_
    exact gw_iret cx tg (rt0 h) rfl dX1_forgetting_37
  · skip
    rcases ite_some h with ⟨c2, h⟩ | ⟨c2, h⟩
    · refine gw_tin (pc' := 38) (off := 34) 2 cx c2 dX1_forgetting_4 (by decide) (by decide) ?_
      refine gw_iconst (pc' := 39) (v := 3) cx ci_3 dX1_forgetting_38 rfl ?_
      exact gw_iret cx tg (rt0 h) rfl dX1_forgetting_39
    · skip
      rcases ite_some h with ⟨c3, h⟩ | ⟨c3, h⟩
      · refine gw_tin (pc' := 38) (off := 34) 3 cx c3 dX1_forgetting_4 (by decide) (by decide) ?_
        refine gw_iconst (pc' := 39) (v := 3) cx ci_3 dX1_forgetting_38 rfl ?_
        exact gw_iret cx tg (rt0 h) rfl dX1_forgetting_39
      · skip
        rcases ite_some h with ⟨c4, h⟩ | ⟨c4, h⟩
        · refine gw_tin (pc' := 40) (off := 36) 4 cx c4 dX1_forgetting_4 (by decide) (by decide) ?_
          refine gw_bipush (pc' := 42) (v := 6) cx cb_6 dX1_forgetting_40 rfl ?_
          exact gw_iret cx tg (rt0 h) rfl dX1_forgetting_42
        · skip
          refine gw_tout (pc' := 43) cx dX1_forgetting_4 (by have a1 := lv_neT (a := 1) c1 rfl; have a2 := lv_neT (a := 2) c2 rfl; have a3 := lv_neT (a := 3) c3 rfl; have a4 := lv_neT (a := 4) c4 rfl; omega) (by decide) ?_
          refine gw_iconst (pc' := 44) (v := 1) cx ci_1 dX1_forgetting_43 rfl ?_
          exact gw_iret cx tg (rt0 h) rfl dX1_forgetting_44
def f_X1_forget (q : Nat) (σ : Sg) : Option (Sg) :=
  ob0 (f_X1_forgetting q σ) fun r2 =>
  lt (up2 σ q 3 (jmax 0 ((σ q 3) - r2))) fun s3 =>
  some s3
theorem k_X1_forget (E : Ev) {q : Nat} (hq : Psn q) {σ : Sg} {σ' : Sg} (h : f_X1_forget q σ = some σ') : Con E mX1_forget 1 [.ref (eA E q)] σ none σ' := by
  refine con_of (by decide) (Nat.le_of_ble_eq_true rfl) (fun fr cx tg => ?_)
  show GW E fr 1 0 [(0, .ref (eA E q))] [] σ
  rw [f_X1_forget] at h
  refine gw_aload_n (pc' := 1) cx 0 rfl rfl dX1_forget_0 rfl ?_
  refine gw_iconst (pc' := 2) (v := 0) cx ci_0 dX1_forget_1 rfl ?_
  refine gw_aload_n (pc' := 3) cx 0 rfl rfl dX1_forget_2 rfl ?_
  refine gw_getI (pc' := 6) cx (atP hq) rfl fl_X1_21 dX1_forget_3 rfl ?_
  refine gw_aload_n (pc' := 7) cx 0 rfl rfl dX1_forget_6 rfl ?_
  obtain ⟨r2, g1, h⟩ := ob0_some h
  refine gw_cV (pc' := 10) (av := []) (rest := [.int (σ q 3), .int 0, .ref (eA E q)]) cx (k_X1_forgetting E hq g1) (atP hq) (by decide) lk_X1_48 dX1_forget_7 rfl (Nat.le_of_ble_eq_true rfl) rfl ?_
  show GW E fr _ 10 _ (.int r2 :: _) _
  refine gw_isub (pc' := 11) cx dX1_forget_10 rfl ?_
  refine gw_mmax (pc' := 14) (rest := [.ref (eA E q)]) cx lm_X1_27 (by decide) (Nat.le_of_ble_eq_true rfl) dX1_forget_11 rfl ?_
  obtain ⟨s3, e4, h⟩ := lt_some h
  refine gw_put (pc' := 17) cx (atP hq) rfl fp_X1_21 ⟨rfl, rfl⟩ dX1_forget_14 rfl e4 ?_
  exact gw_vret cx tg rfl (rtV h) dX1_forget_17
def f_X1_setAttribute (q : Nat) (x1 : Int32) (x2 : Int32) (σ : Sg) : Option (Sg) :=
  if x1 = 0 then
    lt (up2 σ q 0 x2) fun s2 =>
    some s2
  else
    if x1 = 1 then
      lt (up2 σ q 1 x2) fun s5 =>
      some s5
    else
      if x1 = 2 then
        lt (up2 σ q 2 x2) fun s8 =>
        some s8
      else
        if x1 = 3 then
          lt (up2 σ q 3 x2) fun s11 =>
          some s11
        else
          lt (up2 σ q 4 x2) fun s13 =>
          some s13
theorem k_X1_setAttribute (E : Ev) {q : Nat} {x1 : Int32} {x2 : Int32} (hq : Psn q) {σ : Sg} {σ' : Sg} (h : f_X1_setAttribute q x1 x2 σ = some σ') : Con E mX1_setAttribute 0 [.ref (eA E q), .int x1, .int x2] σ none σ' := by
  refine con_of (by decide) (Nat.le_of_ble_eq_true rfl) (fun fr cx tg => ?_)
  show GW E fr 3 0 [(0, .ref (eA E q)), (1, .int x1), (2, .int x2)] [] σ
  rw [f_X1_setAttribute] at h
  refine gw_iload_n (pc' := 1) cx 1 rfl rfl dX1_setAttribute_0 rfl ?_
  rcases ite_some h with ⟨c1, h⟩ | ⟨c1, h⟩
  · refine gw_tin (pc' := 32) (off := 31) 0 cx c1 dX1_setAttribute_1 (by decide) (by decide) ?_
    refine gw_aload_n (pc' := 33) cx 0 rfl rfl dX1_setAttribute_32 rfl ?_
    refine gw_iload_n (pc' := 34) cx 2 rfl rfl dX1_setAttribute_33 rfl ?_
    obtain ⟨s2, e3, h⟩ := lt_some h
    refine gw_put (pc' := 37) cx (atP hq) rfl fp_X1_9 ⟨rfl, rfl⟩ dX1_setAttribute_34 rfl e3 ?_
    refine gw_goto (pc' := 69) cx dX1_setAttribute_37 (by decide) ?_
    exact gw_vret cx tg rfl (rtV h) dX1_setAttribute_69
  · skip
    rcases ite_some h with ⟨c4, h⟩ | ⟨c4, h⟩
    · refine gw_tin (pc' := 40) (off := 39) 1 cx c4 dX1_setAttribute_1 (by decide) (by decide) ?_
      refine gw_aload_n (pc' := 41) cx 0 rfl rfl dX1_setAttribute_40 rfl ?_
      refine gw_iload_n (pc' := 42) cx 2 rfl rfl dX1_setAttribute_41 rfl ?_
      obtain ⟨s5, e6, h⟩ := lt_some h
      refine gw_put (pc' := 45) cx (atP hq) rfl fp_X1_15 ⟨rfl, rfl⟩ dX1_setAttribute_42 rfl e6 ?_
      refine gw_goto (pc' := 69) cx dX1_setAttribute_45 (by decide) ?_
      exact gw_vret cx tg rfl (rtV h) dX1_setAttribute_69
    · skip
      rcases ite_some h with ⟨c7, h⟩ | ⟨c7, h⟩
      · refine gw_tin (pc' := 48) (off := 47) 2 cx c7 dX1_setAttribute_1 (by decide) (by decide) ?_
        refine gw_aload_n (pc' := 49) cx 0 rfl rfl dX1_setAttribute_48 rfl ?_
        refine gw_iload_n (pc' := 50) cx 2 rfl rfl dX1_setAttribute_49 rfl ?_
        obtain ⟨s8, e9, h⟩ := lt_some h
        refine gw_put (pc' := 53) cx (atP hq) rfl fp_X1_18 ⟨rfl, rfl⟩ dX1_setAttribute_50 rfl e9 ?_
        refine gw_goto (pc' := 69) cx dX1_setAttribute_53 (by decide) ?_
        exact gw_vret cx tg rfl (rtV h) dX1_setAttribute_69
      · skip
        rcases ite_some h with ⟨c10, h⟩ | ⟨c10, h⟩
        · refine gw_tin (pc' := 56) (off := 55) 3 cx c10 dX1_setAttribute_1 (by decide) (by decide) ?_
          refine gw_aload_n (pc' := 57) cx 0 rfl rfl dX1_setAttribute_56 rfl ?_
          refine gw_iload_n (pc' := 58) cx 2 rfl rfl dX1_setAttribute_57 rfl ?_
          obtain ⟨s11, e12, h⟩ := lt_some h
          refine gw_put (pc' := 61) cx (atP hq) rfl fp_X1_21 ⟨rfl, rfl⟩ dX1_setAttribute_58 rfl e12 ?_
          refine gw_goto (pc' := 69) cx dX1_setAttribute_61 (by decide) ?_
          exact gw_vret cx tg rfl (rtV h) dX1_setAttribute_69
        · skip
          refine gw_tout (pc' := 64) cx dX1_setAttribute_1 (by have a0 := lv_neT (a := 0) c1 rfl; have a1 := lv_neT (a := 1) c4 rfl; have a2 := lv_neT (a := 2) c7 rfl; have a3 := lv_neT (a := 3) c10 rfl; omega) (by decide) ?_
          refine gw_aload_n (pc' := 65) cx 0 rfl rfl dX1_setAttribute_64 rfl ?_
          refine gw_iload_n (pc' := 66) cx 2 rfl rfl dX1_setAttribute_65 rfl ?_
          obtain ⟨s13, e14, h⟩ := lt_some h
          refine gw_put (pc' := 69) cx (atP hq) rfl fp_X1_24 ⟨rfl, rfl⟩ dX1_setAttribute_66 rfl e14 ?_
          exact gw_vret cx tg rfl (rtV h) dX1_setAttribute_69
def f_X4_within (x0 : Int32) (x1 : Int32) (x2 : Int32) (σ : Sg) : Option (Int32) :=
  if x0 < x1 then
    some 0
  else
    if x2 < x0 then
      some 0
    else
      some 1
theorem k_X4_within (E : Ev) {x0 : Int32} {x1 : Int32} {x2 : Int32} {σ : Sg} {r : Int32} (h : f_X4_within x0 x1 x2 σ = some r) : Con E mX4_within 0 [.int x0, .int x1, .int x2] σ (some (.int r)) σ := by
  refine con_of (by decide) (Nat.le_of_ble_eq_true rfl) (fun fr cx tg => ?_)
  show GW E fr 3 0 [(0, .int x0), (1, .int x1), (2, .int x2)] [] σ
  rw [f_X4_within] at h
  refine gw_iload_n (pc' := 1) cx 0 rfl rfl dX4_within_0 rfl ?_
  refine gw_iload_n (pc' := 2) cx 1 rfl rfl dX4_within_1 rfl ?_
  rcases ite_some h with ⟨c1, h⟩ | ⟨c1, h⟩
  · refine gw_ic_lt_t (pc' := 14) cx c1 dX4_within_2 (by decide) ?_
    refine gw_iconst (pc' := 15) (v := 0) cx ci_0 dX4_within_14 rfl ?_
    exact gw_zret cx tg (Or.inl rfl) (rt0 h) rfl dX4_within_15
  · refine gw_ic_lt_f (pc' := 5) cx c1 dX4_within_2 ⟨14, by decide⟩ rfl ?_
    refine gw_iload_n (pc' := 6) cx 0 rfl rfl dX4_within_5 rfl ?_
    refine gw_iload_n (pc' := 7) cx 2 rfl rfl dX4_within_6 rfl ?_
    rcases ite_some h with ⟨c2, h⟩ | ⟨c2, h⟩
    · refine gw_ic_gt_t (pc' := 14) cx c2 dX4_within_7 (by decide) ?_
      refine gw_iconst (pc' := 15) (v := 0) cx ci_0 dX4_within_14 rfl ?_
      exact gw_zret cx tg (Or.inl rfl) (rt0 h) rfl dX4_within_15
    · refine gw_ic_gt_f (pc' := 10) cx c2 dX4_within_7 ⟨14, by decide⟩ rfl ?_
      refine gw_iconst (pc' := 11) (v := 1) cx ci_1 dX4_within_10 rfl ?_
      refine gw_goto (pc' := 15) cx dX4_within_11 (by decide) ?_
      exact gw_zret cx tg (Or.inr rfl) (rt0 h) rfl dX4_within_15
def f_X1_isOfKind_L7 (y1 : Int32) : Nat → Int32 → Int32 → Sg → Option (Int32)
  | 0, _, _, _ => none
  | n + 1, y2, y3, σ =>
    if 7 ≤ y3 then
      some 0
    else
      ob0 (f_X4_within y2 0 6 σ) fun r3 =>
      if r3 = 0 then
        some 0
      else
        if y2 = y1 then
          some 1
        else
          chk y2 7 <|
          f_X1_isOfKind_L7 y1 n (abv.getD y2.toNatClampNeg 0) (y3 + 1) σ
theorem w_X1_isOfKind_L7 {E : Ev} {fr : Fr} {r : Int32} {σ0 : Sg} (cx : Cx E mX1_isOfKind 1 fr) (tg : Tg E fr (some .boolean) (some (.int r)) σ0) (y1 : Int32)  : ∀ (n : Nat) (y2 : Int32) (y3 : Int32) (σ : Sg), σ = σ0 → f_X1_isOfKind_L7 y1 n y2 y3 σ = some r → GW E fr 4 7 [(1, .int y1), (2, .int y2), (3, .int y3)] [] σ := by
  intro n
  induction n with
  | zero => intro y2 y3 σ hs h; cases (show (none : Option (Int32)) = _ from h)
  | succ n ih =>
    intro y2 y3 σ hs h
    rw [f_X1_isOfKind_L7] at h
    subst hs
    refine gw_iload_n (pc' := 8) cx 2 rfl rfl dX1_isOfKind_7 rfl ?_
    refine gw_bipush (pc' := 10) (v := 7) cx cb_7 dX1_isOfKind_8 rfl ?_
    rcases ite_some h with ⟨c1, h⟩ | ⟨c1, h⟩
    · refine gw_ic_ge_t (pc' := 42) cx c1 dX1_isOfKind_10 (by decide) ?_
      refine gw_iconst (pc' := 43) (v := 0) cx ci_0 dX1_isOfKind_42 rfl ?_
      exact gw_zret cx tg (Or.inl rfl) (rt0 h) rfl dX1_isOfKind_43
    · refine gw_ic_ge_f (pc' := 13) cx c1 dX1_isOfKind_10 ⟨42, by decide⟩ rfl ?_
      refine gw_iload_n (pc' := 14) cx 1 rfl rfl dX1_isOfKind_13 rfl ?_
      refine gw_iconst (pc' := 15) (v := 0) cx ci_0 dX1_isOfKind_14 rfl ?_
      refine gw_bipush (pc' := 17) (v := 6) cx cb_6 dX1_isOfKind_15 rfl ?_
      obtain ⟨r3, g2, h⟩ := ob0_some h
      refine gw_cN (pc' := 20) (av := [.int y2, .int 0, .int 6]) (rest := []) cx (k_X4_within E g2) (by decide) lk_X1_40 dX1_isOfKind_17 rfl (Nat.le_of_ble_eq_true rfl) rfl ?_
      show GW E fr _ 20 _ (.int r3 :: _) _
      rcases ite_some h with ⟨c4, h⟩ | ⟨c4, h⟩
      · refine gw_if_eq_t (pc' := 42) cx c4 dX1_isOfKind_20 (by decide) ?_
        refine gw_iconst (pc' := 43) (v := 0) cx ci_0 dX1_isOfKind_42 rfl ?_
        exact gw_zret cx tg (Or.inl rfl) (rt0 h) rfl dX1_isOfKind_43
      · refine gw_if_eq_f (pc' := 23) cx c4 dX1_isOfKind_20 ⟨42, by decide⟩ rfl ?_
        refine gw_iload_n (pc' := 24) cx 1 rfl rfl dX1_isOfKind_23 rfl ?_
        refine gw_iload_n (pc' := 25) cx 0 rfl rfl dX1_isOfKind_24 rfl ?_
        rcases ite_some h with ⟨c5, h⟩ | ⟨c5, h⟩
        · refine gw_ic_ne_f (pc' := 28) cx c5 dX1_isOfKind_25 ⟨30, by decide⟩ rfl ?_
          refine gw_iconst (pc' := 29) (v := 1) cx ci_1 dX1_isOfKind_28 rfl ?_
          exact gw_zret cx tg (Or.inr rfl) (rt0 h) rfl dX1_isOfKind_29
        · refine gw_ic_ne_t (pc' := 30) cx c5 dX1_isOfKind_25 (by decide) ?_
          refine gw_above (pc' := 33) cx (fun U h => h.2.2.2.2.2) dX1_isOfKind_30 rfl ?_
          refine gw_iload_n (pc' := 34) cx 1 rfl rfl dX1_isOfKind_33 rfl ?_
          obtain ⟨i6, h⟩ := chk_some h
          refine gw_abld (pc' := 35) cx i6 dX1_isOfKind_34 rfl ?_
          refine gw_istore_n (pc' := 36) (lv' := [(2, .int (abv.getD y2.toNatClampNeg 0)), (1, .int y1), (3, .int y3)]) cx rfl rfl (by decide) dX1_isOfKind_35 rfl ?_
          refine gw_iinc (pc' := 39) (v := (y3 + 1)) (lv' := [(3, .int (y3 + 1)), (2, .int (abv.getD y2.toNatClampNeg 0)), (1, .int y1)]) cx 2 rfl rfl rfl (by decide) dX1_isOfKind_36 rfl ?_
          refine gw_goto (pc' := 7) cx dX1_isOfKind_39 (by decide) ?_
          refine gw_sub [2, 1, 0] (lv' := [(1, .int y1), (2, .int (abv.getD y2.toNatClampNeg 0)), (3, .int (y3 + 1))]) rfl ?_
          exact ih (abv.getD y2.toNatClampNeg 0) (y3 + 1) σ rfl h
def f_X1_isOfKind (q : Nat) (x1 : Int32) (σ : Sg) : Option (Int32) :=
  f_X1_isOfKind_L7 x1 FU (σ q 0) 0 σ
theorem k_X1_isOfKind (E : Ev) {q : Nat} {x1 : Int32} (hq : Psn q) {σ : Sg} {r : Int32} (h : f_X1_isOfKind q x1 σ = some r) : Con E mX1_isOfKind 1 [.ref (eA E q), .int x1] σ (some (.int r)) σ := by
  refine con_of (by decide) (Nat.le_of_ble_eq_true rfl) (fun fr cx tg => ?_)
  show GW E fr 4 0 [(0, .ref (eA E q)), (1, .int x1)] [] σ
  rw [f_X1_isOfKind] at h
  refine gw_aload_n (pc' := 1) cx 0 rfl rfl dX1_isOfKind_0 rfl ?_
  refine gw_getI (pc' := 4) cx (atP hq) rfl fl_X1_9 dX1_isOfKind_1 rfl ?_
  refine gw_istore_n (pc' := 5) (lv' := [(2, .int (σ q 0)), (0, .ref (eA E q)), (1, .int x1)]) cx rfl rfl (by decide) dX1_isOfKind_4 rfl ?_
  refine gw_iconst (pc' := 6) (v := 0) cx ci_0 dX1_isOfKind_5 rfl ?_
  refine gw_istore_n (pc' := 7) (lv' := [(3, .int 0), (2, .int (σ q 0)), (0, .ref (eA E q)), (1, .int x1)]) cx rfl rfl (by decide) dX1_isOfKind_6 rfl ?_
  refine gw_sub [3, 1, 0] (lv' := [(1, .int x1), (2, .int (σ q 0)), (3, .int 0)]) rfl ?_
  exact w_X1_isOfKind_L7 cx tg x1 FU (σ q 0) 0 σ rfl h
def f_X4_mostOf (x0 : Int32) (σ : Sg) : Option (Int32) :=
  if x0 = 0 then
    some 6
  else
    if x0 = 2 then
      some 99
    else
      some 9999
theorem k_X4_mostOf (E : Ev) {x0 : Int32} {σ : Sg} {r : Int32} (h : f_X4_mostOf x0 σ = some r) : Con E mX4_mostOf 0 [.int x0] σ (some (.int r)) σ := by
  refine con_of (by decide) (Nat.le_of_ble_eq_true rfl) (fun fr cx tg => ?_)
  show GW E fr 1 0 [(0, .int x0)] [] σ
  rw [f_X4_mostOf] at h
  refine gw_iload_n (pc' := 1) cx 0 rfl rfl dX4_mostOf_0 rfl ?_
  rcases ite_some h with ⟨c1, h⟩ | ⟨c1, h⟩
  · refine gw_look (pc' := 28) (off := 27) cx dX4_mostOf_1 (by decide) (by rw [c1]; decide) (by decide) ?_
    refine gw_bipush (pc' := 30) (v := 6) cx cb_6 dX4_mostOf_28 rfl ?_
    exact gw_iret cx tg (rt0 h) rfl dX4_mostOf_30
  · skip
    rcases ite_some h with ⟨c2, h⟩ | ⟨c2, h⟩
    · refine gw_look (pc' := 31) (off := 30) cx dX4_mostOf_1 (by decide) (by rw [c2]; decide) (by decide) ?_
      refine gw_bipush (pc' := 33) (v := 99) cx cb_99 dX4_mostOf_31 rfl ?_
      exact gw_iret cx tg (rt0 h) rfl dX4_mostOf_33
    · skip
      refine gw_look (pc' := 34) (off := 33) cx dX4_mostOf_1 (by decide) (by show Op.lookupswitch.offset [(0, 27), (2, 30)] 33 _ = _; rw [lv_osw (a := 0) c1 (by decide), lv_osw (a := 2) c2 (by decide)]; rfl) (by decide) ?_
      refine gw_sipush (pc' := 37) (v := 9999) cx cs_9999 dX4_mostOf_34 rfl ?_
      exact gw_iret cx tg (rt0 h) rfl dX4_mostOf_37
def f_X3_isMissing (t : Nat) (σ : Sg) : Option (Int32) :=
  if (σ t 1) = 0 then
    some 1
  else
    some 0
theorem k_X3_isMissing (E : Ev) {t : Nat} (ht : Sht t) {σ : Sg} {r : Int32} (h : f_X3_isMissing t σ = some r) : Con E mX3_isMissing 0 [.ref (eA E t)] σ (some (.int r)) σ := by
  refine con_of (by decide) (Nat.le_of_ble_eq_true rfl) (fun fr cx tg => ?_)
  show GW E fr 1 0 [(0, .ref (eA E t))] [] σ
  rw [f_X3_isMissing] at h
  refine gw_aload_n (pc' := 1) cx 0 rfl rfl dX3_isMissing_0 rfl ?_
  refine gw_getI (pc' := 4) cx (atS ht) rfl fl_X3_15 dX3_isMissing_1 rfl ?_
  rcases ite_some h with ⟨c1, h⟩ | ⟨c1, h⟩
  · refine gw_if_ne_f (pc' := 7) cx c1 dX3_isMissing_4 ⟨11, by decide⟩ rfl ?_
    refine gw_iconst (pc' := 8) (v := 1) cx ci_1 dX3_isMissing_7 rfl ?_
    refine gw_goto (pc' := 12) cx dX3_isMissing_8 (by decide) ?_
    exact gw_zret cx tg (Or.inr rfl) (rt0 h) rfl dX3_isMissing_12
  · refine gw_if_ne_t (pc' := 11) cx c1 dX3_isMissing_4 (by decide) ?_
    refine gw_iconst (pc' := 12) (v := 0) cx ci_0 dX3_isMissing_11 rfl ?_
    exact gw_zret cx tg (Or.inl rfl) (rt0 h) rfl dX3_isMissing_12
def f_X3_lay_L12 (ra0 : Nat) : Nat → Int32 → Sg → Option (Sg)
  | 0, _, _ => none
  | n + 1, y3, σ =>
    if 40 ≤ y3 then
      some σ
    else
      chk y3 40 <|
      lt (up2 σ (ra0 + 4) y3.toNatClampNeg 0) fun s7 =>
      f_X3_lay_L12 ra0 n (y3 + 1) s7
theorem w_X3_lay_L12 {E : Ev} {fr : Fr} {σ' : Sg} (cx : Cx E mX3_lay 0 fr) (tg : Tg E fr none none σ') (ra0 : Nat) (hra0 : Sht ra0) : ∀ (n : Nat) (y3 : Int32) (σ : Sg), f_X3_lay_L12 ra0 n y3 σ = some σ' → GW E fr 4 12 [(0, .ref (eA E ra0)), (3, .int y3)] [] σ := by
  intro n
  induction n with
  | zero => intro y3 σ h; cases (show (none : Option (Sg)) = _ from h)
  | succ n ih =>
    intro y3 σ h
    rw [f_X3_lay_L12] at h
    refine gw_iload_n (pc' := 13) cx 1 rfl rfl dX3_lay_12 rfl ?_
    refine gw_bipush (pc' := 15) (v := 40) cx cb_40 dX3_lay_13 rfl ?_
    rcases ite_some h with ⟨c5, h⟩ | ⟨c5, h⟩
    · refine gw_ic_ge_t (pc' := 31) cx c5 dX3_lay_15 (by decide) ?_
      exact gw_vret cx tg rfl (rtV h) dX3_lay_31
    · refine gw_ic_ge_f (pc' := 18) cx c5 dX3_lay_15 ⟨31, by decide⟩ rfl ?_
      refine gw_aload_n (pc' := 19) cx 0 rfl rfl dX3_lay_18 rfl ?_
      refine gw_getR (pc' := 22) cx (atS hra0) rfl fl_X3_9 dX3_lay_19 rfl ?_
      refine gw_iload_n (pc' := 23) cx 1 rfl rfl dX3_lay_22 rfl ?_
      refine gw_iconst (pc' := 24) (v := 0) cx ci_0 dX3_lay_23 rfl ?_
      obtain ⟨i6, h⟩ := chk_some h
      obtain ⟨s7, e8, h⟩ := lt_some h
      refine gw_iast (pc' := 25) cx (atSn hra0) i6 rfl dX3_lay_24 rfl e8 ?_
      refine gw_iinc (pc' := 28) (v := (y3 + 1)) (lv' := [(3, .int (y3 + 1)), (0, .ref (eA E ra0))]) cx 1 rfl rfl rfl (by decide) dX3_lay_25 rfl ?_
      refine gw_goto (pc' := 12) cx dX3_lay_28 (by decide) ?_
      refine gw_sub [1, 0] (lv' := [(0, .ref (eA E ra0)), (3, .int (y3 + 1))]) rfl ?_
      exact ih (y3 + 1) s7 h
def f_X3_lay (t : Nat) (x1 : Int32) (x2 : Int32) (σ : Sg) : Option (Sg) :=
  lt (up2 σ t 1 x1) fun s1 =>
  lt (up2 s1 t 2 x2) fun s3 =>
  f_X3_lay_L12 t FU 0 s3
theorem k_X3_lay (E : Ev) {t : Nat} {x1 : Int32} {x2 : Int32} (ht : Sht t) {σ : Sg} {σ' : Sg} (h : f_X3_lay t x1 x2 σ = some σ') : Con E mX3_lay 0 [.ref (eA E t), .int x1, .int x2] σ none σ' := by
  refine con_of (by decide) (Nat.le_of_ble_eq_true rfl) (fun fr cx tg => ?_)
  show GW E fr 4 0 [(0, .ref (eA E t)), (1, .int x1), (2, .int x2)] [] σ
  rw [f_X3_lay] at h
  refine gw_aload_n (pc' := 1) cx 0 rfl rfl dX3_lay_0 rfl ?_
  refine gw_iload_n (pc' := 2) cx 1 rfl rfl dX3_lay_1 rfl ?_
  obtain ⟨s1, e2, h⟩ := lt_some h
  refine gw_put (pc' := 5) cx (atS ht) rfl fp_X3_15 ⟨rfl, rfl⟩ dX3_lay_2 rfl e2 ?_
  refine gw_aload_n (pc' := 6) cx 0 rfl rfl dX3_lay_5 rfl ?_
  refine gw_iload_n (pc' := 7) cx 2 rfl rfl dX3_lay_6 rfl ?_
  obtain ⟨s3, e4, h⟩ := lt_some h
  refine gw_put (pc' := 10) cx (atS ht) rfl fp_X3_19 ⟨rfl, rfl⟩ dX3_lay_7 rfl e4 ?_
  refine gw_iconst (pc' := 11) (v := 0) cx ci_0 dX3_lay_10 rfl ?_
  refine gw_istore_n (pc' := 12) (lv' := [(3, .int 0), (0, .ref (eA E t)), (1, .int x1), (2, .int x2)]) cx rfl rfl (by decide) dX3_lay_11 rfl ?_
  refine gw_sub [1, 0] (lv' := [(0, .ref (eA E t)), (3, .int 0)]) rfl ?_
  exact w_X3_lay_L12 cx tg t ht FU 0 s3 h
def f_X3_put (t : Nat) (x1 : Int32) (x2 : Int32) (σ : Sg) : Option (Sg) :=
  chk x1 40 <|
  lt (up2 σ (t + 4) x1.toNatClampNeg (jshr (jshl x2 (32 - (σ t 1))) (32 - (σ t 1)))) fun s2 =>
  some s2
theorem k_X3_put (E : Ev) {t : Nat} {x1 : Int32} {x2 : Int32} (ht : Sht t) {σ : Sg} {σ' : Sg} (h : f_X3_put t x1 x2 σ = some σ') : Con E mX3_put 0 [.ref (eA E t), .int x1, .int x2] σ none σ' := by
  refine con_of (by decide) (Nat.le_of_ble_eq_true rfl) (fun fr cx tg => ?_)
  show GW E fr 4 0 [(0, .ref (eA E t)), (1, .int x1), (2, .int x2)] [] σ
  rw [f_X3_put] at h
  refine gw_bipush (pc' := 2) (v := 32) cx cb_32 dX3_put_0 rfl ?_
  refine gw_aload_n (pc' := 3) cx 0 rfl rfl dX3_put_2 rfl ?_
  refine gw_getI (pc' := 6) cx (atS ht) rfl fl_X3_15 dX3_put_3 rfl ?_
  refine gw_isub (pc' := 7) cx dX3_put_6 rfl ?_
  refine gw_istore_n (pc' := 8) (lv' := [(3, .int (32 - (σ t 1))), (0, .ref (eA E t)), (1, .int x1), (2, .int x2)]) cx rfl rfl (by decide) dX3_put_7 rfl ?_
  refine gw_aload_n (pc' := 9) cx 1 rfl rfl dX3_put_8 rfl ?_
  refine gw_getR (pc' := 12) cx (atS ht) rfl fl_X3_9 dX3_put_9 rfl ?_
  refine gw_iload_n (pc' := 13) cx 2 rfl rfl dX3_put_12 rfl ?_
  refine gw_iload_n (pc' := 14) cx 3 rfl rfl dX3_put_13 rfl ?_
  refine gw_iload_n (pc' := 15) cx 0 rfl rfl dX3_put_14 rfl ?_
  refine gw_ishl (pc' := 16) cx dX3_put_15 rfl ?_
  refine gw_iload_n (pc' := 17) cx 0 rfl rfl dX3_put_16 rfl ?_
  refine gw_ishr (pc' := 18) cx dX3_put_17 rfl ?_
  obtain ⟨i1, h⟩ := chk_some h
  obtain ⟨s2, e3, h⟩ := lt_some h
  refine gw_iast (pc' := 19) cx (atSn ht) i1 rfl dX3_put_18 rfl e3 ?_
  exact gw_vret cx tg rfl (rtV h) dX3_put_19
def f_X3_hasRange (t : Nat) (x1 : Int32) (x2 : Int32) (σ : Sg) : Option (Int32) :=
  if x1 < 0 then
    some 0
  else
    if x2 < 0 then
      some 0
    else
      if (σ t 2) < x2 then
        some 0
      else
        if ((σ t 2) - x2) < x1 then
          some 0
        else
          some 1
theorem k_X3_hasRange (E : Ev) {t : Nat} {x1 : Int32} {x2 : Int32} (ht : Sht t) {σ : Sg} {r : Int32} (h : f_X3_hasRange t x1 x2 σ = some r) : Con E mX3_hasRange 0 [.ref (eA E t), .int x1, .int x2] σ (some (.int r)) σ := by
  refine con_of (by decide) (Nat.le_of_ble_eq_true rfl) (fun fr cx tg => ?_)
  show GW E fr 3 0 [(0, .ref (eA E t)), (1, .int x1), (2, .int x2)] [] σ
  rw [f_X3_hasRange] at h
  refine gw_iload_n (pc' := 1) cx 1 rfl rfl dX3_hasRange_0 rfl ?_
  rcases ite_some h with ⟨c1, h⟩ | ⟨c1, h⟩
  · refine gw_if_lt_t (pc' := 30) cx c1 dX3_hasRange_1 (by decide) ?_
    refine gw_iconst (pc' := 31) (v := 0) cx ci_0 dX3_hasRange_30 rfl ?_
    exact gw_zret cx tg (Or.inl rfl) (rt0 h) rfl dX3_hasRange_31
  · refine gw_if_lt_f (pc' := 4) cx c1 dX3_hasRange_1 ⟨30, by decide⟩ rfl ?_
    refine gw_iload_n (pc' := 5) cx 2 rfl rfl dX3_hasRange_4 rfl ?_
    rcases ite_some h with ⟨c2, h⟩ | ⟨c2, h⟩
    · refine gw_if_lt_t (pc' := 30) cx c2 dX3_hasRange_5 (by decide) ?_
      refine gw_iconst (pc' := 31) (v := 0) cx ci_0 dX3_hasRange_30 rfl ?_
      exact gw_zret cx tg (Or.inl rfl) (rt0 h) rfl dX3_hasRange_31
    · refine gw_if_lt_f (pc' := 8) cx c2 dX3_hasRange_5 ⟨30, by decide⟩ rfl ?_
      refine gw_iload_n (pc' := 9) cx 2 rfl rfl dX3_hasRange_8 rfl ?_
      refine gw_aload_n (pc' := 10) cx 0 rfl rfl dX3_hasRange_9 rfl ?_
      refine gw_getI (pc' := 13) cx (atS ht) rfl fl_X3_19 dX3_hasRange_10 rfl ?_
      rcases ite_some h with ⟨c3, h⟩ | ⟨c3, h⟩
      · refine gw_ic_gt_t (pc' := 30) cx c3 dX3_hasRange_13 (by decide) ?_
        refine gw_iconst (pc' := 31) (v := 0) cx ci_0 dX3_hasRange_30 rfl ?_
        exact gw_zret cx tg (Or.inl rfl) (rt0 h) rfl dX3_hasRange_31
      · refine gw_ic_gt_f (pc' := 16) cx c3 dX3_hasRange_13 ⟨30, by decide⟩ rfl ?_
        refine gw_iload_n (pc' := 17) cx 1 rfl rfl dX3_hasRange_16 rfl ?_
        refine gw_aload_n (pc' := 18) cx 0 rfl rfl dX3_hasRange_17 rfl ?_
        refine gw_getI (pc' := 21) cx (atS ht) rfl fl_X3_19 dX3_hasRange_18 rfl ?_
        refine gw_iload_n (pc' := 22) cx 2 rfl rfl dX3_hasRange_21 rfl ?_
        refine gw_isub (pc' := 23) cx dX3_hasRange_22 rfl ?_
        rcases ite_some h with ⟨c4, h⟩ | ⟨c4, h⟩
        · refine gw_ic_gt_t (pc' := 30) cx c4 dX3_hasRange_23 (by decide) ?_
          refine gw_iconst (pc' := 31) (v := 0) cx ci_0 dX3_hasRange_30 rfl ?_
          exact gw_zret cx tg (Or.inl rfl) (rt0 h) rfl dX3_hasRange_31
        · refine gw_ic_gt_f (pc' := 26) cx c4 dX3_hasRange_23 ⟨30, by decide⟩ rfl ?_
          refine gw_iconst (pc' := 27) (v := 1) cx ci_1 dX3_hasRange_26 rfl ?_
          refine gw_goto (pc' := 31) cx dX3_hasRange_27 (by decide) ?_
          exact gw_zret cx tg (Or.inr rfl) (rt0 h) rfl dX3_hasRange_31
def f_J6_bitCount_0f7a4 (x0 : Int32) (σ : Sg) : Option (Int32) :=
  some ((((((((x0 - ((jushr x0 1) &&& 1431655765)) &&& 858993459) + ((jushr (x0 - ((jushr x0 1) &&& 1431655765)) 2) &&& 858993459)) + (jushr (((x0 - ((jushr x0 1) &&& 1431655765)) &&& 858993459) + ((jushr (x0 - ((jushr x0 1) &&& 1431655765)) 2) &&& 858993459)) 4)) &&& 252645135) + (jushr (((((x0 - ((jushr x0 1) &&& 1431655765)) &&& 858993459) + ((jushr (x0 - ((jushr x0 1) &&& 1431655765)) 2) &&& 858993459)) + (jushr (((x0 - ((jushr x0 1) &&& 1431655765)) &&& 858993459) + ((jushr (x0 - ((jushr x0 1) &&& 1431655765)) 2) &&& 858993459)) 4)) &&& 252645135) 8)) + (jushr ((((((x0 - ((jushr x0 1) &&& 1431655765)) &&& 858993459) + ((jushr (x0 - ((jushr x0 1) &&& 1431655765)) 2) &&& 858993459)) + (jushr (((x0 - ((jushr x0 1) &&& 1431655765)) &&& 858993459) + ((jushr (x0 - ((jushr x0 1) &&& 1431655765)) 2) &&& 858993459)) 4)) &&& 252645135) + (jushr (((((x0 - ((jushr x0 1) &&& 1431655765)) &&& 858993459) + ((jushr (x0 - ((jushr x0 1) &&& 1431655765)) 2) &&& 858993459)) + (jushr (((x0 - ((jushr x0 1) &&& 1431655765)) &&& 858993459) + ((jushr (x0 - ((jushr x0 1) &&& 1431655765)) 2) &&& 858993459)) 4)) &&& 252645135) 8)) 16)) &&& 63)
theorem k_J6_bitCount_0f7a4 (E : Ev) {x0 : Int32} {σ : Sg} {r : Int32} (h : f_J6_bitCount_0f7a4 x0 σ = some r) : Con E mJ6_bitCount_0f7a4 0 [.int x0] σ (some (.int r)) σ := by
  refine con_of (by decide) (Nat.le_of_ble_eq_true rfl) (fun fr cx tg => ?_)
  show GW E fr 1 0 [(0, .int x0)] [] σ
  rw [f_J6_bitCount_0f7a4] at h
  refine gw_iload_n (pc' := 1) cx 0 rfl rfl dJ6_bitCount_0f7a4_0 rfl ?_
  refine gw_iload_n (pc' := 2) cx 0 rfl rfl dJ6_bitCount_0f7a4_1 rfl ?_
  refine gw_iconst (pc' := 3) (v := 1) cx ci_1 dJ6_bitCount_0f7a4_2 rfl ?_
  refine gw_iushr (pc' := 4) cx dJ6_bitCount_0f7a4_3 rfl ?_
  refine gw_ldc_w (pc' := 7) (v := 1431655765) cx ct_J6_265 dJ6_bitCount_0f7a4_4 rfl ?_
  refine gw_iand (pc' := 8) cx dJ6_bitCount_0f7a4_7 rfl ?_
  refine gw_isub (pc' := 9) cx dJ6_bitCount_0f7a4_8 rfl ?_
  refine gw_istore_n (pc' := 10) (lv' := [(0, .int (x0 - ((jushr x0 1) &&& 1431655765)))]) cx rfl rfl (by decide) dJ6_bitCount_0f7a4_9 rfl ?_
  refine gw_iload_n (pc' := 11) cx 0 rfl rfl dJ6_bitCount_0f7a4_10 rfl ?_
  refine gw_ldc_w (pc' := 14) (v := 858993459) cx ct_J6_266 dJ6_bitCount_0f7a4_11 rfl ?_
  refine gw_iand (pc' := 15) cx dJ6_bitCount_0f7a4_14 rfl ?_
  refine gw_iload_n (pc' := 16) cx 0 rfl rfl dJ6_bitCount_0f7a4_15 rfl ?_
  refine gw_iconst (pc' := 17) (v := 2) cx ci_2 dJ6_bitCount_0f7a4_16 rfl ?_
  refine gw_iushr (pc' := 18) cx dJ6_bitCount_0f7a4_17 rfl ?_
  refine gw_ldc_w (pc' := 21) (v := 858993459) cx ct_J6_266 dJ6_bitCount_0f7a4_18 rfl ?_
  refine gw_iand (pc' := 22) cx dJ6_bitCount_0f7a4_21 rfl ?_
  refine gw_iadd (pc' := 23) cx dJ6_bitCount_0f7a4_22 rfl ?_
  refine gw_istore_n (pc' := 24) (lv' := [(0, .int (((x0 - ((jushr x0 1) &&& 1431655765)) &&& 858993459) + ((jushr (x0 - ((jushr x0 1) &&& 1431655765)) 2) &&& 858993459)))]) cx rfl rfl (by decide) dJ6_bitCount_0f7a4_23 rfl ?_
  refine gw_iload_n (pc' := 25) cx 0 rfl rfl dJ6_bitCount_0f7a4_24 rfl ?_
  refine gw_iload_n (pc' := 26) cx 0 rfl rfl dJ6_bitCount_0f7a4_25 rfl ?_
  refine gw_iconst (pc' := 27) (v := 4) cx ci_4 dJ6_bitCount_0f7a4_26 rfl ?_
  refine gw_iushr (pc' := 28) cx dJ6_bitCount_0f7a4_27 rfl ?_
  refine gw_iadd (pc' := 29) cx dJ6_bitCount_0f7a4_28 rfl ?_
  refine gw_ldc_w (pc' := 32) (v := 252645135) cx ct_J6_267 dJ6_bitCount_0f7a4_29 rfl ?_
  refine gw_iand (pc' := 33) cx dJ6_bitCount_0f7a4_32 rfl ?_
  refine gw_istore_n (pc' := 34) (lv' := [(0, .int (((((x0 - ((jushr x0 1) &&& 1431655765)) &&& 858993459) + ((jushr (x0 - ((jushr x0 1) &&& 1431655765)) 2) &&& 858993459)) + (jushr (((x0 - ((jushr x0 1) &&& 1431655765)) &&& 858993459) + ((jushr (x0 - ((jushr x0 1) &&& 1431655765)) 2) &&& 858993459)) 4)) &&& 252645135))]) cx rfl rfl (by decide) dJ6_bitCount_0f7a4_33 rfl ?_
  refine gw_iload_n (pc' := 35) cx 0 rfl rfl dJ6_bitCount_0f7a4_34 rfl ?_
  refine gw_iload_n (pc' := 36) cx 0 rfl rfl dJ6_bitCount_0f7a4_35 rfl ?_
  refine gw_bipush (pc' := 38) (v := 8) cx cb_8 dJ6_bitCount_0f7a4_36 rfl ?_
  refine gw_iushr (pc' := 39) cx dJ6_bitCount_0f7a4_38 rfl ?_
  refine gw_iadd (pc' := 40) cx dJ6_bitCount_0f7a4_39 rfl ?_
  refine gw_istore_n (pc' := 41) (lv' := [(0, .int ((((((x0 - ((jushr x0 1) &&& 1431655765)) &&& 858993459) + ((jushr (x0 - ((jushr x0 1) &&& 1431655765)) 2) &&& 858993459)) + (jushr (((x0 - ((jushr x0 1) &&& 1431655765)) &&& 858993459) + ((jushr (x0 - ((jushr x0 1) &&& 1431655765)) 2) &&& 858993459)) 4)) &&& 252645135) + (jushr (((((x0 - ((jushr x0 1) &&& 1431655765)) &&& 858993459) + ((jushr (x0 - ((jushr x0 1) &&& 1431655765)) 2) &&& 858993459)) + (jushr (((x0 - ((jushr x0 1) &&& 1431655765)) &&& 858993459) + ((jushr (x0 - ((jushr x0 1) &&& 1431655765)) 2) &&& 858993459)) 4)) &&& 252645135) 8)))]) cx rfl rfl (by decide) dJ6_bitCount_0f7a4_40 rfl ?_
  refine gw_iload_n (pc' := 42) cx 0 rfl rfl dJ6_bitCount_0f7a4_41 rfl ?_
  refine gw_iload_n (pc' := 43) cx 0 rfl rfl dJ6_bitCount_0f7a4_42 rfl ?_
  refine gw_bipush (pc' := 45) (v := 16) cx cb_16 dJ6_bitCount_0f7a4_43 rfl ?_
  refine gw_iushr (pc' := 46) cx dJ6_bitCount_0f7a4_45 rfl ?_
  refine gw_iadd (pc' := 47) cx dJ6_bitCount_0f7a4_46 rfl ?_
  refine gw_istore_n (pc' := 48) (lv' := [(0, .int (((((((x0 - ((jushr x0 1) &&& 1431655765)) &&& 858993459) + ((jushr (x0 - ((jushr x0 1) &&& 1431655765)) 2) &&& 858993459)) + (jushr (((x0 - ((jushr x0 1) &&& 1431655765)) &&& 858993459) + ((jushr (x0 - ((jushr x0 1) &&& 1431655765)) 2) &&& 858993459)) 4)) &&& 252645135) + (jushr (((((x0 - ((jushr x0 1) &&& 1431655765)) &&& 858993459) + ((jushr (x0 - ((jushr x0 1) &&& 1431655765)) 2) &&& 858993459)) + (jushr (((x0 - ((jushr x0 1) &&& 1431655765)) &&& 858993459) + ((jushr (x0 - ((jushr x0 1) &&& 1431655765)) 2) &&& 858993459)) 4)) &&& 252645135) 8)) + (jushr ((((((x0 - ((jushr x0 1) &&& 1431655765)) &&& 858993459) + ((jushr (x0 - ((jushr x0 1) &&& 1431655765)) 2) &&& 858993459)) + (jushr (((x0 - ((jushr x0 1) &&& 1431655765)) &&& 858993459) + ((jushr (x0 - ((jushr x0 1) &&& 1431655765)) 2) &&& 858993459)) 4)) &&& 252645135) + (jushr (((((x0 - ((jushr x0 1) &&& 1431655765)) &&& 858993459) + ((jushr (x0 - ((jushr x0 1) &&& 1431655765)) 2) &&& 858993459)) + (jushr (((x0 - ((jushr x0 1) &&& 1431655765)) &&& 858993459) + ((jushr (x0 - ((jushr x0 1) &&& 1431655765)) 2) &&& 858993459)) 4)) &&& 252645135) 8)) 16)))]) cx rfl rfl (by decide) dJ6_bitCount_0f7a4_47 rfl ?_
  refine gw_iload_n (pc' := 49) cx 0 rfl rfl dJ6_bitCount_0f7a4_48 rfl ?_
  refine gw_bipush (pc' := 51) (v := 63) cx cb_63 dJ6_bitCount_0f7a4_49 rfl ?_
  refine gw_iand (pc' := 52) cx dJ6_bitCount_0f7a4_51 rfl ?_
  exact gw_iret cx tg (rt0 h) rfl dJ6_bitCount_0f7a4_52
