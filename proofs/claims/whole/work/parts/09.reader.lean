def f_X2_append (x1 : Int32) (σ : Sg) : Option (Sg) :=
  if 120 ≤ (σ 37 1) then
    some σ
  else
    chk (σ 37 1) 120 <|
    lt (up2 σ 38 (σ 37 1).toNatClampNeg x1) fun s3 =>
    lt (up2 s3 37 1 ((s3 37 1) + 1)) fun s5 =>
    some s5
theorem k_X2_append (E : Ev) {x1 : Int32} {σ : Sg} {σ' : Sg} (h : f_X2_append x1 σ = some σ') : Con E mX2_append 0 [.ref (eA E 37), .int x1] σ none σ' := by
  refine con_of (by decide) (Nat.le_of_ble_eq_true rfl) (fun fr cx tg => ?_)
  show GW E fr 2 0 [(0, .ref (eA E 37)), (1, .int x1)] [] σ
  rw [f_X2_append] at h
  refine gw_aload_n (pc' := 1) cx 0 rfl rfl dX2_append_0 rfl ?_
  refine gw_getI (pc' := 4) cx at37 rfl fl_X2_15 dX2_append_1 rfl ?_
  refine gw_bipush (pc' := 6) (v := 120) cx cb_120 dX2_append_4 rfl ?_
  rcases ite_some h with ⟨c1, h⟩ | ⟨c1, h⟩
  · refine gw_ic_ge_t (pc' := 29) cx c1 dX2_append_6 (by decide) ?_
    exact gw_vret cx tg rfl (rtV h) dX2_append_29
  · refine gw_ic_ge_f (pc' := 9) cx c1 dX2_append_6 ⟨29, by decide⟩ rfl ?_
    refine gw_aload_n (pc' := 10) cx 0 rfl rfl dX2_append_9 rfl ?_
    refine gw_getR (pc' := 13) cx at37 rfl fl_X2_9 dX2_append_10 rfl ?_
    refine gw_aload_n (pc' := 14) cx 0 rfl rfl dX2_append_13 rfl ?_
    refine gw_getI (pc' := 17) cx at37 rfl fl_X2_15 dX2_append_14 rfl ?_
    refine gw_iload_n (pc' := 18) cx 1 rfl rfl dX2_append_17 rfl ?_
    obtain ⟨i2, h⟩ := chk_some h
    obtain ⟨s3, e4, h⟩ := lt_some h
    refine gw_iast (pc' := 19) cx at38 i2 rfl dX2_append_18 rfl e4 ?_
    refine gw_aload_n (pc' := 20) cx 0 rfl rfl dX2_append_19 rfl ?_
    refine gw_dup (pc' := 21) cx rfl dX2_append_20 rfl ?_
    refine gw_getI (pc' := 24) cx at37 rfl fl_X2_15 dX2_append_21 rfl ?_
    refine gw_iconst (pc' := 25) (v := 1) cx ci_1 dX2_append_24 rfl ?_
    refine gw_iadd (pc' := 26) cx dX2_append_25 rfl ?_
    obtain ⟨s5, e6, h⟩ := lt_some h
    refine gw_put (pc' := 29) cx at37 rfl fp_X2_15 ⟨rfl, rfl⟩ dX2_append_26 rfl e6 ?_
    exact gw_vret cx tg rfl (rtV h) dX2_append_29
def f_X2_isLetter (x0 : Int32) (σ : Sg) : Option (Int32) :=
  if x0 < 97 then
    some 0
  else
    if 122 < x0 then
      some 0
    else
      some 1
theorem k_X2_isLetter (E : Ev) {x0 : Int32} {σ : Sg} {r : Int32} (h : f_X2_isLetter x0 σ = some r) : Con E mX2_isLetter 0 [.int x0] σ (some (.int r)) σ := by
  refine con_of (by decide) (Nat.le_of_ble_eq_true rfl) (fun fr cx tg => ?_)
  show GW E fr 1 0 [(0, .int x0)] [] σ
  rw [f_X2_isLetter] at h
  refine gw_iload_n (pc' := 1) cx 0 rfl rfl dX2_isLetter_0 rfl ?_
  refine gw_bipush (pc' := 3) (v := 97) cx cb_97 dX2_isLetter_1 rfl ?_
  rcases ite_some h with ⟨c1, h⟩ | ⟨c1, h⟩
  · refine gw_ic_lt_t (pc' := 16) cx c1 dX2_isLetter_3 (by decide) ?_
    refine gw_iconst (pc' := 17) (v := 0) cx ci_0 dX2_isLetter_16 rfl ?_
    exact gw_zret cx tg (Or.inl rfl) (rt0 h) rfl dX2_isLetter_17
  · refine gw_ic_lt_f (pc' := 6) cx c1 dX2_isLetter_3 ⟨16, by decide⟩ rfl ?_
    refine gw_iload_n (pc' := 7) cx 0 rfl rfl dX2_isLetter_6 rfl ?_
    refine gw_bipush (pc' := 9) (v := 122) cx cb_122 dX2_isLetter_7 rfl ?_
    rcases ite_some h with ⟨c2, h⟩ | ⟨c2, h⟩
    · refine gw_ic_gt_t (pc' := 16) cx c2 dX2_isLetter_9 (by decide) ?_
      refine gw_iconst (pc' := 17) (v := 0) cx ci_0 dX2_isLetter_16 rfl ?_
      exact gw_zret cx tg (Or.inl rfl) (rt0 h) rfl dX2_isLetter_17
    · refine gw_ic_gt_f (pc' := 12) cx c2 dX2_isLetter_9 ⟨16, by decide⟩ rfl ?_
      refine gw_iconst (pc' := 13) (v := 1) cx ci_1 dX2_isLetter_12 rfl ?_
      refine gw_goto (pc' := 17) cx dX2_isLetter_13 (by decide) ?_
      exact gw_zret cx tg (Or.inr rfl) (rt0 h) rfl dX2_isLetter_17
def f_X2_isDigit (x0 : Int32) (σ : Sg) : Option (Int32) :=
  if x0 < 48 then
    some 0
  else
    if 57 < x0 then
      some 0
    else
      some 1
theorem k_X2_isDigit (E : Ev) {x0 : Int32} {σ : Sg} {r : Int32} (h : f_X2_isDigit x0 σ = some r) : Con E mX2_isDigit 0 [.int x0] σ (some (.int r)) σ := by
  refine con_of (by decide) (Nat.le_of_ble_eq_true rfl) (fun fr cx tg => ?_)
  show GW E fr 1 0 [(0, .int x0)] [] σ
  rw [f_X2_isDigit] at h
  refine gw_iload_n (pc' := 1) cx 0 rfl rfl dX2_isDigit_0 rfl ?_
  refine gw_bipush (pc' := 3) (v := 48) cx cb_48 dX2_isDigit_1 rfl ?_
  rcases ite_some h with ⟨c1, h⟩ | ⟨c1, h⟩
  · refine gw_ic_lt_t (pc' := 16) cx c1 dX2_isDigit_3 (by decide) ?_
    refine gw_iconst (pc' := 17) (v := 0) cx ci_0 dX2_isDigit_16 rfl ?_
    exact gw_zret cx tg (Or.inl rfl) (rt0 h) rfl dX2_isDigit_17
  · refine gw_ic_lt_f (pc' := 6) cx c1 dX2_isDigit_3 ⟨16, by decide⟩ rfl ?_
    refine gw_iload_n (pc' := 7) cx 0 rfl rfl dX2_isDigit_6 rfl ?_
    refine gw_bipush (pc' := 9) (v := 57) cx cb_57 dX2_isDigit_7 rfl ?_
    rcases ite_some h with ⟨c2, h⟩ | ⟨c2, h⟩
    · refine gw_ic_gt_t (pc' := 16) cx c2 dX2_isDigit_9 (by decide) ?_
      refine gw_iconst (pc' := 17) (v := 0) cx ci_0 dX2_isDigit_16 rfl ?_
      exact gw_zret cx tg (Or.inl rfl) (rt0 h) rfl dX2_isDigit_17
    · refine gw_ic_gt_f (pc' := 12) cx c2 dX2_isDigit_9 ⟨16, by decide⟩ rfl ?_
      refine gw_iconst (pc' := 13) (v := 1) cx ci_1 dX2_isDigit_12 rfl ?_
      refine gw_goto (pc' := 17) cx dX2_isDigit_13 (by decide) ?_
      exact gw_zret cx tg (Or.inr rfl) (rt0 h) rfl dX2_isDigit_17
def f_X2_step_L149 : Nat → Sg → Option (Sg)
  | 0, _ => none
  | n + 1, σ =>
    if (σ 37 1) ≤ (σ 37 4) then
      some σ
    else
      chk (σ 37 4) 120 <|
      ob0 (f_X2_isDigit (σ 38 (σ 37 4).toNatClampNeg) σ) fun r63 =>
      if r63 = 0 then
        some σ
      else
        lt (up2 σ 37 5 (jmin 10000 (((10 * (σ 37 5)) + (σ 38 (σ 37 4).toNatClampNeg)) - 48))) fun s65 =>
        lt (up2 s65 37 4 ((s65 37 4) + 1)) fun s67 =>
        f_X2_step_L149 n s67
theorem w_X2_step_L149 {E : Ev} {fr : Fr} {σ' : Sg} (cx : Cx E mX2_step 1 fr) (tg : Tg E fr none none σ')  : ∀ (n : Nat) (σ : Sg), f_X2_step_L149 n σ = some σ' → GW E fr 1 149 [(0, .ref (eA E 37))] [] σ := by
  intro n
  induction n with
  | zero => intro σ h; cases (show (none : Option (Sg)) = _ from h)
  | succ n ih =>
    intro σ h
    rw [f_X2_step_L149] at h
    refine gw_aload_n (pc' := 150) cx 0 rfl rfl dX2_step_149 rfl ?_
    refine gw_getI (pc' := 153) cx at37 rfl fl_X2_19 dX2_step_150 rfl ?_
    refine gw_aload_n (pc' := 154) cx 0 rfl rfl dX2_step_153 rfl ?_
    refine gw_getI (pc' := 157) cx at37 rfl fl_X2_15 dX2_step_154 rfl ?_
    rcases ite_some h with ⟨c60, h⟩ | ⟨c60, h⟩
    · refine gw_ic_ge_t (pc' := 251) cx c60 dX2_step_157 (by decide) ?_
      exact gw_vret cx tg rfl (rtV h) dX2_step_251
    · refine gw_ic_ge_f (pc' := 160) cx c60 dX2_step_157 ⟨251, by decide⟩ rfl ?_
      refine gw_aload_n (pc' := 161) cx 0 rfl rfl dX2_step_160 rfl ?_
      refine gw_getR (pc' := 164) cx at37 rfl fl_X2_9 dX2_step_161 rfl ?_
      refine gw_aload_n (pc' := 165) cx 0 rfl rfl dX2_step_164 rfl ?_
      refine gw_getI (pc' := 168) cx at37 rfl fl_X2_19 dX2_step_165 rfl ?_
      obtain ⟨i61, h⟩ := chk_some h
      refine gw_iald (pc' := 169) cx at38 i61 rfl dX2_step_168 rfl ?_
      obtain ⟨r63, g62, h⟩ := ob0_some h
      refine gw_cS (pc' := 172) (av := [.int (σ 38 (σ 37 4).toNatClampNeg)]) (rest := []) cx (k_X2_isDigit E g62) (by decide) lk_X2_130 dX2_step_169 rfl (Nat.le_of_ble_eq_true rfl) rfl ?_
      show GW E fr _ 172 _ (.int r63 :: _) _
      rcases ite_some h with ⟨c64, h⟩ | ⟨c64, h⟩
      · refine gw_if_eq_t (pc' := 251) cx c64 dX2_step_172 (by decide) ?_
        exact gw_vret cx tg rfl (rtV h) dX2_step_251
      · refine gw_if_eq_f (pc' := 175) cx c64 dX2_step_172 ⟨251, by decide⟩ rfl ?_
        refine gw_aload_n (pc' := 176) cx 0 rfl rfl dX2_step_175 rfl ?_
        refine gw_sipush (pc' := 179) (v := 10000) cx cs_10000 dX2_step_176 rfl ?_
        refine gw_bipush (pc' := 181) (v := 10) cx cb_10 dX2_step_179 rfl ?_
        refine gw_aload_n (pc' := 182) cx 0 rfl rfl dX2_step_181 rfl ?_
        refine gw_getI (pc' := 185) cx at37 rfl fl_X2_101 dX2_step_182 rfl ?_
        refine gw_imul (pc' := 186) cx dX2_step_185 rfl ?_
        refine gw_aload_n (pc' := 187) cx 0 rfl rfl dX2_step_186 rfl ?_
        refine gw_getR (pc' := 190) cx at37 rfl fl_X2_9 dX2_step_187 rfl ?_
        refine gw_aload_n (pc' := 191) cx 0 rfl rfl dX2_step_190 rfl ?_
        refine gw_getI (pc' := 194) cx at37 rfl fl_X2_19 dX2_step_191 rfl ?_
        refine gw_iald (pc' := 195) cx at38 i61 rfl dX2_step_194 rfl ?_
        refine gw_iadd (pc' := 196) cx dX2_step_195 rfl ?_
        refine gw_bipush (pc' := 198) (v := 48) cx cb_48 dX2_step_196 rfl ?_
        refine gw_isub (pc' := 199) cx dX2_step_198 rfl ?_
        refine gw_mmin (pc' := 202) (rest := [.ref (eA E 37)]) cx lm_X2_133 (by decide) (Nat.le_of_ble_eq_true rfl) dX2_step_199 rfl ?_
        obtain ⟨s65, e66, h⟩ := lt_some h
        refine gw_put (pc' := 205) cx at37 rfl fp_X2_101 ⟨rfl, rfl⟩ dX2_step_202 rfl e66 ?_
        refine gw_aload_n (pc' := 206) cx 0 rfl rfl dX2_step_205 rfl ?_
        refine gw_dup (pc' := 207) cx rfl dX2_step_206 rfl ?_
        refine gw_getI (pc' := 210) cx at37 rfl fl_X2_19 dX2_step_207 rfl ?_
        refine gw_iconst (pc' := 211) (v := 1) cx ci_1 dX2_step_210 rfl ?_
        refine gw_iadd (pc' := 212) cx dX2_step_211 rfl ?_
        obtain ⟨s67, e68, h⟩ := lt_some h
        refine gw_put (pc' := 215) cx at37 rfl fp_X2_19 ⟨rfl, rfl⟩ dX2_step_212 rfl e68 ?_
        refine gw_goto (pc' := 149) cx dX2_step_215 (by decide) ?_
        exact ih  s67 h
def f_X2_step_L85 : Nat → Sg → Option (Sg)
  | 0, _ => none
  | n + 1, σ =>
    if (σ 37 1) ≤ (σ 37 4) then
      some σ
    else
      chk (σ 37 4) 120 <|
      ob0 (f_X2_isLetter (σ 38 (σ 37 4).toNatClampNeg) σ) fun r72 =>
      if r72 = 0 then
        some σ
      else
        lt (up2 σ 37 4 ((σ 37 4) + 1)) fun s74 =>
        f_X2_step_L85 n s74
theorem w_X2_step_L85 {E : Ev} {fr : Fr} {σ' : Sg} (cx : Cx E mX2_step 1 fr) (tg : Tg E fr none none σ')  : ∀ (n : Nat) (σ : Sg), f_X2_step_L85 n σ = some σ' → GW E fr 1 85 [(0, .ref (eA E 37))] [] σ := by
  intro n
  induction n with
  | zero => intro σ h; cases (show (none : Option (Sg)) = _ from h)
  | succ n ih =>
    intro σ h
    rw [f_X2_step_L85] at h
    refine gw_aload_n (pc' := 86) cx 0 rfl rfl dX2_step_85 rfl ?_
    refine gw_getI (pc' := 89) cx at37 rfl fl_X2_19 dX2_step_86 rfl ?_
    refine gw_aload_n (pc' := 90) cx 0 rfl rfl dX2_step_89 rfl ?_
    refine gw_getI (pc' := 93) cx at37 rfl fl_X2_15 dX2_step_90 rfl ?_
    rcases ite_some h with ⟨c69, h⟩ | ⟨c69, h⟩
    · refine gw_ic_ge_t (pc' := 251) cx c69 dX2_step_93 (by decide) ?_
      exact gw_vret cx tg rfl (rtV h) dX2_step_251
    · refine gw_ic_ge_f (pc' := 96) cx c69 dX2_step_93 ⟨251, by decide⟩ rfl ?_
      refine gw_aload_n (pc' := 97) cx 0 rfl rfl dX2_step_96 rfl ?_
      refine gw_getR (pc' := 100) cx at37 rfl fl_X2_9 dX2_step_97 rfl ?_
      refine gw_aload_n (pc' := 101) cx 0 rfl rfl dX2_step_100 rfl ?_
      refine gw_getI (pc' := 104) cx at37 rfl fl_X2_19 dX2_step_101 rfl ?_
      obtain ⟨i70, h⟩ := chk_some h
      refine gw_iald (pc' := 105) cx at38 i70 rfl dX2_step_104 rfl ?_
      obtain ⟨r72, g71, h⟩ := ob0_some h
      refine gw_cS (pc' := 108) (av := [.int (σ 38 (σ 37 4).toNatClampNeg)]) (rest := []) cx (k_X2_isLetter E g71) (by decide) lk_X2_127 dX2_step_105 rfl (Nat.le_of_ble_eq_true rfl) rfl ?_
      show GW E fr _ 108 _ (.int r72 :: _) _
      rcases ite_some h with ⟨c73, h⟩ | ⟨c73, h⟩
      · refine gw_if_eq_t (pc' := 251) cx c73 dX2_step_108 (by decide) ?_
        exact gw_vret cx tg rfl (rtV h) dX2_step_251
      · refine gw_if_eq_f (pc' := 111) cx c73 dX2_step_108 ⟨251, by decide⟩ rfl ?_
        refine gw_aload_n (pc' := 112) cx 0 rfl rfl dX2_step_111 rfl ?_
        refine gw_dup (pc' := 113) cx rfl dX2_step_112 rfl ?_
        refine gw_getI (pc' := 116) cx at37 rfl fl_X2_19 dX2_step_113 rfl ?_
        refine gw_iconst (pc' := 117) (v := 1) cx ci_1 dX2_step_116 rfl ?_
        refine gw_iadd (pc' := 118) cx dX2_step_117 rfl ?_
        obtain ⟨s74, e75, h⟩ := lt_some h
        refine gw_put (pc' := 121) cx at37 rfl fp_X2_19 ⟨rfl, rfl⟩ dX2_step_118 rfl e75 ?_
        refine gw_goto (pc' := 85) cx dX2_step_121 (by decide) ?_
        exact ih  s74 h
def f_X2_step_L0 : Nat → Sg → Option (Sg)
  | 0, _ => none
  | n + 1, σ =>
    if (σ 37 1) ≤ (σ 37 4) then
      lt (up2 σ 37 3 (σ 37 4)) fun s2 =>
      if (s2 37 3) < (s2 37 1) then
        chk (s2 37 3) 120 <|
        ob0 (f_X2_isLetter (s2 38 (s2 37 3).toNatClampNeg) s2) fun r7 =>
        if r7 = 0 then
          ob0 (f_X2_isDigit (s2 38 (s2 37 3).toNatClampNeg) s2) fun r10 =>
          if r10 = 0 then
            if (s2 38 (s2 37 3).toNatClampNeg) = 59 then
              lt (up2 s2 37 2 3) fun s13 =>
              lt (up2 s13 37 4 ((s13 37 4) + 1)) fun s15 =>
              some s15
            else
              lt (up2 s2 37 2 4) fun s17 =>
              lt (up2 s17 37 4 ((s17 37 4) + 1)) fun s19 =>
              some s19
          else
            lt (up2 s2 37 2 2) fun s21 =>
            lt (up2 s21 37 5 0) fun s23 =>
            f_X2_step_L149 FU s23
        else
          lt (up2 s2 37 2 1) fun s25 =>
          f_X2_step_L85 FU s25
      else
        lt (up2 s2 37 2 0) fun s27 =>
        some s27
    else
      chk (σ 37 4) 120 <|
      if (σ 38 (σ 37 4).toNatClampNeg) = 32 then
        lt (up2 σ 37 4 ((σ 37 4) + 1)) fun s31 =>
        f_X2_step_L0 n s31
      else
        lt (up2 σ 37 3 (σ 37 4)) fun s33 =>
        if (s33 37 3) < (s33 37 1) then
          chk (s33 37 3) 120 <|
          ob0 (f_X2_isLetter (s33 38 (s33 37 3).toNatClampNeg) s33) fun r38 =>
          if r38 = 0 then
            ob0 (f_X2_isDigit (s33 38 (s33 37 3).toNatClampNeg) s33) fun r41 =>
            if r41 = 0 then
              if (s33 38 (s33 37 3).toNatClampNeg) = 59 then
                lt (up2 s33 37 2 3) fun s44 =>
                lt (up2 s44 37 4 ((s44 37 4) + 1)) fun s46 =>
                some s46
              else
                lt (up2 s33 37 2 4) fun s48 =>
                lt (up2 s48 37 4 ((s48 37 4) + 1)) fun s50 =>
                some s50
            else
              lt (up2 s33 37 2 2) fun s52 =>
              lt (up2 s52 37 5 0) fun s54 =>
              f_X2_step_L149 FU s54
          else
            lt (up2 s33 37 2 1) fun s56 =>
            f_X2_step_L85 FU s56
        else
          lt (up2 s33 37 2 0) fun s58 =>
          some s58
theorem w_X2_step_L0 {E : Ev} {fr : Fr} {σ' : Sg} (cx : Cx E mX2_step 1 fr) (tg : Tg E fr none none σ')  : ∀ (n : Nat) (σ : Sg), f_X2_step_L0 n σ = some σ' → GW E fr 1 0 [(0, .ref (eA E 37))] [] σ := by
  intro n
  induction n with
  | zero => intro σ h; cases (show (none : Option (Sg)) = _ from h)
  | succ n ih =>
    intro σ h
    rw [f_X2_step_L0] at h
    refine gw_aload_n (pc' := 1) cx 0 rfl rfl dX2_step_0 rfl ?_
    refine gw_getI (pc' := 4) cx at37 rfl fl_X2_19 dX2_step_1 rfl ?_
    refine gw_aload_n (pc' := 5) cx 0 rfl rfl dX2_step_4 rfl ?_
    refine gw_getI (pc' := 8) cx at37 rfl fl_X2_15 dX2_step_5 rfl ?_
    rcases ite_some h with ⟨c1, h⟩ | ⟨c1, h⟩
    · refine gw_ic_ge_t (pc' := 38) cx c1 dX2_step_8 (by decide) ?_
      refine gw_aload_n (pc' := 39) cx 0 rfl rfl dX2_step_38 rfl ?_
      refine gw_aload_n (pc' := 40) cx 0 rfl rfl dX2_step_39 rfl ?_
      refine gw_getI (pc' := 43) cx at37 rfl fl_X2_19 dX2_step_40 rfl ?_
      obtain ⟨s2, e3, h⟩ := lt_some h
      refine gw_put (pc' := 46) cx at37 rfl fp_X2_32 ⟨rfl, rfl⟩ dX2_step_43 rfl e3 ?_
      refine gw_aload_n (pc' := 47) cx 0 rfl rfl dX2_step_46 rfl ?_
      refine gw_getI (pc' := 50) cx at37 rfl fl_X2_32 dX2_step_47 rfl ?_
      refine gw_aload_n (pc' := 51) cx 0 rfl rfl dX2_step_50 rfl ?_
      refine gw_getI (pc' := 54) cx at37 rfl fl_X2_15 dX2_step_51 rfl ?_
      rcases ite_some h with ⟨c4, h⟩ | ⟨c4, h⟩
      · refine gw_ic_lt_t (pc' := 65) cx c4 dX2_step_54 (by decide) ?_
        refine gw_aload_n (pc' := 66) cx 0 rfl rfl dX2_step_65 rfl ?_
        refine gw_getR (pc' := 69) cx at37 rfl fl_X2_9 dX2_step_66 rfl ?_
        refine gw_aload_n (pc' := 70) cx 0 rfl rfl dX2_step_69 rfl ?_
        refine gw_getI (pc' := 73) cx at37 rfl fl_X2_32 dX2_step_70 rfl ?_
        obtain ⟨i5, h⟩ := chk_some h
        refine gw_iald (pc' := 74) cx at38 i5 rfl dX2_step_73 rfl ?_
        obtain ⟨r7, g6, h⟩ := ob0_some h
        refine gw_cS (pc' := 77) (av := [.int (s2 38 (s2 37 3).toNatClampNeg)]) (rest := []) cx (k_X2_isLetter E g6) (by decide) lk_X2_127 dX2_step_74 rfl (Nat.le_of_ble_eq_true rfl) rfl ?_
        show GW E fr _ 77 _ (.int r7 :: _) _
        rcases ite_some h with ⟨c8, h⟩ | ⟨c8, h⟩
        · refine gw_if_eq_t (pc' := 124) cx c8 dX2_step_77 (by decide) ?_
          refine gw_aload_n (pc' := 125) cx 0 rfl rfl dX2_step_124 rfl ?_
          refine gw_getR (pc' := 128) cx at37 rfl fl_X2_9 dX2_step_125 rfl ?_
          refine gw_aload_n (pc' := 129) cx 0 rfl rfl dX2_step_128 rfl ?_
          refine gw_getI (pc' := 132) cx at37 rfl fl_X2_32 dX2_step_129 rfl ?_
          refine gw_iald (pc' := 133) cx at38 i5 rfl dX2_step_132 rfl ?_
          obtain ⟨r10, g9, h⟩ := ob0_some h
          refine gw_cS (pc' := 136) (av := [.int (s2 38 (s2 37 3).toNatClampNeg)]) (rest := []) cx (k_X2_isDigit E g9) (by decide) lk_X2_130 dX2_step_133 rfl (Nat.le_of_ble_eq_true rfl) rfl ?_
          show GW E fr _ 136 _ (.int r10 :: _) _
          rcases ite_some h with ⟨c11, h⟩ | ⟨c11, h⟩
          · refine gw_if_eq_t (pc' := 218) cx c11 dX2_step_136 (by decide) ?_
            refine gw_aload_n (pc' := 219) cx 0 rfl rfl dX2_step_218 rfl ?_
            refine gw_aload_n (pc' := 220) cx 0 rfl rfl dX2_step_219 rfl ?_
            refine gw_getR (pc' := 223) cx at37 rfl fl_X2_9 dX2_step_220 rfl ?_
            refine gw_aload_n (pc' := 224) cx 0 rfl rfl dX2_step_223 rfl ?_
            refine gw_getI (pc' := 227) cx at37 rfl fl_X2_32 dX2_step_224 rfl ?_
            refine gw_iald (pc' := 228) cx at38 i5 rfl dX2_step_227 rfl ?_
            refine gw_bipush (pc' := 230) (v := 59) cx cb_59 dX2_step_228 rfl ?_
            rcases ite_some h with ⟨c12, h⟩ | ⟨c12, h⟩
            · refine gw_ic_ne_f (pc' := 233) cx c12 dX2_step_230 ⟨237, by decide⟩ rfl ?_
              refine gw_iconst (pc' := 234) (v := 3) cx ci_3 dX2_step_233 rfl ?_
              refine gw_goto (pc' := 238) cx dX2_step_234 (by decide) ?_
              obtain ⟨s13, e14, h⟩ := lt_some h
              refine gw_put (pc' := 241) cx at37 rfl fp_X2_29 ⟨rfl, rfl⟩ dX2_step_238 rfl e14 ?_
              refine gw_aload_n (pc' := 242) cx 0 rfl rfl dX2_step_241 rfl ?_
              refine gw_dup (pc' := 243) cx rfl dX2_step_242 rfl ?_
              refine gw_getI (pc' := 246) cx at37 rfl fl_X2_19 dX2_step_243 rfl ?_
              refine gw_iconst (pc' := 247) (v := 1) cx ci_1 dX2_step_246 rfl ?_
              refine gw_iadd (pc' := 248) cx dX2_step_247 rfl ?_
              obtain ⟨s15, e16, h⟩ := lt_some h
              refine gw_put (pc' := 251) cx at37 rfl fp_X2_19 ⟨rfl, rfl⟩ dX2_step_248 rfl e16 ?_
              exact gw_vret cx tg rfl (rtV h) dX2_step_251
            · refine gw_ic_ne_t (pc' := 237) cx c12 dX2_step_230 (by decide) ?_
              refine gw_iconst (pc' := 238) (v := 4) cx ci_4 dX2_step_237 rfl ?_
              obtain ⟨s17, e18, h⟩ := lt_some h
              refine gw_put (pc' := 241) cx at37 rfl fp_X2_29 ⟨rfl, rfl⟩ dX2_step_238 rfl e18 ?_
              refine gw_aload_n (pc' := 242) cx 0 rfl rfl dX2_step_241 rfl ?_
              refine gw_dup (pc' := 243) cx rfl dX2_step_242 rfl ?_
              refine gw_getI (pc' := 246) cx at37 rfl fl_X2_19 dX2_step_243 rfl ?_
              refine gw_iconst (pc' := 247) (v := 1) cx ci_1 dX2_step_246 rfl ?_
              refine gw_iadd (pc' := 248) cx dX2_step_247 rfl ?_
              obtain ⟨s19, e20, h⟩ := lt_some h
              refine gw_put (pc' := 251) cx at37 rfl fp_X2_19 ⟨rfl, rfl⟩ dX2_step_248 rfl e20 ?_
              exact gw_vret cx tg rfl (rtV h) dX2_step_251
          · refine gw_if_eq_f (pc' := 139) cx c11 dX2_step_136 ⟨218, by decide⟩ rfl ?_
            refine gw_aload_n (pc' := 140) cx 0 rfl rfl dX2_step_139 rfl ?_
            refine gw_iconst (pc' := 141) (v := 2) cx ci_2 dX2_step_140 rfl ?_
            obtain ⟨s21, e22, h⟩ := lt_some h
            refine gw_put (pc' := 144) cx at37 rfl fp_X2_29 ⟨rfl, rfl⟩ dX2_step_141 rfl e22 ?_
            refine gw_aload_n (pc' := 145) cx 0 rfl rfl dX2_step_144 rfl ?_
            refine gw_iconst (pc' := 146) (v := 0) cx ci_0 dX2_step_145 rfl ?_
            obtain ⟨s23, e24, h⟩ := lt_some h
            refine gw_put (pc' := 149) cx at37 rfl fp_X2_101 ⟨rfl, rfl⟩ dX2_step_146 rfl e24 ?_
            exact w_X2_step_L149 cx tg FU s23 h
        · refine gw_if_eq_f (pc' := 80) cx c8 dX2_step_77 ⟨124, by decide⟩ rfl ?_
          refine gw_aload_n (pc' := 81) cx 0 rfl rfl dX2_step_80 rfl ?_
          refine gw_iconst (pc' := 82) (v := 1) cx ci_1 dX2_step_81 rfl ?_
          obtain ⟨s25, e26, h⟩ := lt_some h
          refine gw_put (pc' := 85) cx at37 rfl fp_X2_29 ⟨rfl, rfl⟩ dX2_step_82 rfl e26 ?_
          exact w_X2_step_L85 cx tg FU s25 h
      · refine gw_ic_lt_f (pc' := 57) cx c4 dX2_step_54 ⟨65, by decide⟩ rfl ?_
        refine gw_aload_n (pc' := 58) cx 0 rfl rfl dX2_step_57 rfl ?_
        refine gw_iconst (pc' := 59) (v := 0) cx ci_0 dX2_step_58 rfl ?_
        obtain ⟨s27, e28, h⟩ := lt_some h
        refine gw_put (pc' := 62) cx at37 rfl fp_X2_29 ⟨rfl, rfl⟩ dX2_step_59 rfl e28 ?_
        refine gw_goto (pc' := 251) cx dX2_step_62 (by decide) ?_
        exact gw_vret cx tg rfl (rtV h) dX2_step_251
    · refine gw_ic_ge_f (pc' := 11) cx c1 dX2_step_8 ⟨38, by decide⟩ rfl ?_
      refine gw_aload_n (pc' := 12) cx 0 rfl rfl dX2_step_11 rfl ?_
      refine gw_getR (pc' := 15) cx at37 rfl fl_X2_9 dX2_step_12 rfl ?_
      refine gw_aload_n (pc' := 16) cx 0 rfl rfl dX2_step_15 rfl ?_
      refine gw_getI (pc' := 19) cx at37 rfl fl_X2_19 dX2_step_16 rfl ?_
      obtain ⟨i29, h⟩ := chk_some h
      refine gw_iald (pc' := 20) cx at38 i29 rfl dX2_step_19 rfl ?_
      refine gw_bipush (pc' := 22) (v := 32) cx cb_32 dX2_step_20 rfl ?_
      rcases ite_some h with ⟨c30, h⟩ | ⟨c30, h⟩
      · refine gw_ic_ne_f (pc' := 25) cx c30 dX2_step_22 ⟨38, by decide⟩ rfl ?_
        refine gw_aload_n (pc' := 26) cx 0 rfl rfl dX2_step_25 rfl ?_
        refine gw_dup (pc' := 27) cx rfl dX2_step_26 rfl ?_
        refine gw_getI (pc' := 30) cx at37 rfl fl_X2_19 dX2_step_27 rfl ?_
        refine gw_iconst (pc' := 31) (v := 1) cx ci_1 dX2_step_30 rfl ?_
        refine gw_iadd (pc' := 32) cx dX2_step_31 rfl ?_
        obtain ⟨s31, e32, h⟩ := lt_some h
        refine gw_put (pc' := 35) cx at37 rfl fp_X2_19 ⟨rfl, rfl⟩ dX2_step_32 rfl e32 ?_
        refine gw_goto (pc' := 0) cx dX2_step_35 (by decide) ?_
        exact ih  s31 h
      · refine gw_ic_ne_t (pc' := 38) cx c30 dX2_step_22 (by decide) ?_
        refine gw_aload_n (pc' := 39) cx 0 rfl rfl dX2_step_38 rfl ?_
        refine gw_aload_n (pc' := 40) cx 0 rfl rfl dX2_step_39 rfl ?_
        refine gw_getI (pc' := 43) cx at37 rfl fl_X2_19 dX2_step_40 rfl ?_
        obtain ⟨s33, e34, h⟩ := lt_some h
        refine gw_put (pc' := 46) cx at37 rfl fp_X2_32 ⟨rfl, rfl⟩ dX2_step_43 rfl e34 ?_
        refine gw_aload_n (pc' := 47) cx 0 rfl rfl dX2_step_46 rfl ?_
        refine gw_getI (pc' := 50) cx at37 rfl fl_X2_32 dX2_step_47 rfl ?_
        refine gw_aload_n (pc' := 51) cx 0 rfl rfl dX2_step_50 rfl ?_
        refine gw_getI (pc' := 54) cx at37 rfl fl_X2_15 dX2_step_51 rfl ?_
        rcases ite_some h with ⟨c35, h⟩ | ⟨c35, h⟩
        · refine gw_ic_lt_t (pc' := 65) cx c35 dX2_step_54 (by decide) ?_
          refine gw_aload_n (pc' := 66) cx 0 rfl rfl dX2_step_65 rfl ?_
          refine gw_getR (pc' := 69) cx at37 rfl fl_X2_9 dX2_step_66 rfl ?_
          refine gw_aload_n (pc' := 70) cx 0 rfl rfl dX2_step_69 rfl ?_
          refine gw_getI (pc' := 73) cx at37 rfl fl_X2_32 dX2_step_70 rfl ?_
          obtain ⟨i36, h⟩ := chk_some h
          refine gw_iald (pc' := 74) cx at38 i36 rfl dX2_step_73 rfl ?_
          obtain ⟨r38, g37, h⟩ := ob0_some h
          refine gw_cS (pc' := 77) (av := [.int (s33 38 (s33 37 3).toNatClampNeg)]) (rest := []) cx (k_X2_isLetter E g37) (by decide) lk_X2_127 dX2_step_74 rfl (Nat.le_of_ble_eq_true rfl) rfl ?_
          show GW E fr _ 77 _ (.int r38 :: _) _
          rcases ite_some h with ⟨c39, h⟩ | ⟨c39, h⟩
          · refine gw_if_eq_t (pc' := 124) cx c39 dX2_step_77 (by decide) ?_
            refine gw_aload_n (pc' := 125) cx 0 rfl rfl dX2_step_124 rfl ?_
            refine gw_getR (pc' := 128) cx at37 rfl fl_X2_9 dX2_step_125 rfl ?_
            refine gw_aload_n (pc' := 129) cx 0 rfl rfl dX2_step_128 rfl ?_
            refine gw_getI (pc' := 132) cx at37 rfl fl_X2_32 dX2_step_129 rfl ?_
            refine gw_iald (pc' := 133) cx at38 i36 rfl dX2_step_132 rfl ?_
            obtain ⟨r41, g40, h⟩ := ob0_some h
            refine gw_cS (pc' := 136) (av := [.int (s33 38 (s33 37 3).toNatClampNeg)]) (rest := []) cx (k_X2_isDigit E g40) (by decide) lk_X2_130 dX2_step_133 rfl (Nat.le_of_ble_eq_true rfl) rfl ?_
            show GW E fr _ 136 _ (.int r41 :: _) _
            rcases ite_some h with ⟨c42, h⟩ | ⟨c42, h⟩
            · refine gw_if_eq_t (pc' := 218) cx c42 dX2_step_136 (by decide) ?_
              refine gw_aload_n (pc' := 219) cx 0 rfl rfl dX2_step_218 rfl ?_
              refine gw_aload_n (pc' := 220) cx 0 rfl rfl dX2_step_219 rfl ?_
              refine gw_getR (pc' := 223) cx at37 rfl fl_X2_9 dX2_step_220 rfl ?_
              refine gw_aload_n (pc' := 224) cx 0 rfl rfl dX2_step_223 rfl ?_
              refine gw_getI (pc' := 227) cx at37 rfl fl_X2_32 dX2_step_224 rfl ?_
              refine gw_iald (pc' := 228) cx at38 i36 rfl dX2_step_227 rfl ?_
              refine gw_bipush (pc' := 230) (v := 59) cx cb_59 dX2_step_228 rfl ?_
              rcases ite_some h with ⟨c43, h⟩ | ⟨c43, h⟩
              · refine gw_ic_ne_f (pc' := 233) cx c43 dX2_step_230 ⟨237, by decide⟩ rfl ?_
                refine gw_iconst (pc' := 234) (v := 3) cx ci_3 dX2_step_233 rfl ?_
                refine gw_goto (pc' := 238) cx dX2_step_234 (by decide) ?_
                obtain ⟨s44, e45, h⟩ := lt_some h
                refine gw_put (pc' := 241) cx at37 rfl fp_X2_29 ⟨rfl, rfl⟩ dX2_step_238 rfl e45 ?_
                refine gw_aload_n (pc' := 242) cx 0 rfl rfl dX2_step_241 rfl ?_
                refine gw_dup (pc' := 243) cx rfl dX2_step_242 rfl ?_
                refine gw_getI (pc' := 246) cx at37 rfl fl_X2_19 dX2_step_243 rfl ?_
                refine gw_iconst (pc' := 247) (v := 1) cx ci_1 dX2_step_246 rfl ?_
                refine gw_iadd (pc' := 248) cx dX2_step_247 rfl ?_
                obtain ⟨s46, e47, h⟩ := lt_some h
                refine gw_put (pc' := 251) cx at37 rfl fp_X2_19 ⟨rfl, rfl⟩ dX2_step_248 rfl e47 ?_
                exact gw_vret cx tg rfl (rtV h) dX2_step_251
              · refine gw_ic_ne_t (pc' := 237) cx c43 dX2_step_230 (by decide) ?_
                refine gw_iconst (pc' := 238) (v := 4) cx ci_4 dX2_step_237 rfl ?_
                obtain ⟨s48, e49, h⟩ := lt_some h
                refine gw_put (pc' := 241) cx at37 rfl fp_X2_29 ⟨rfl, rfl⟩ dX2_step_238 rfl e49 ?_
                refine gw_aload_n (pc' := 242) cx 0 rfl rfl dX2_step_241 rfl ?_
                refine gw_dup (pc' := 243) cx rfl dX2_step_242 rfl ?_
                refine gw_getI (pc' := 246) cx at37 rfl fl_X2_19 dX2_step_243 rfl ?_
                refine gw_iconst (pc' := 247) (v := 1) cx ci_1 dX2_step_246 rfl ?_
                refine gw_iadd (pc' := 248) cx dX2_step_247 rfl ?_
                obtain ⟨s50, e51, h⟩ := lt_some h
                refine gw_put (pc' := 251) cx at37 rfl fp_X2_19 ⟨rfl, rfl⟩ dX2_step_248 rfl e51 ?_
                exact gw_vret cx tg rfl (rtV h) dX2_step_251
            · refine gw_if_eq_f (pc' := 139) cx c42 dX2_step_136 ⟨218, by decide⟩ rfl ?_
              refine gw_aload_n (pc' := 140) cx 0 rfl rfl dX2_step_139 rfl ?_
              refine gw_iconst (pc' := 141) (v := 2) cx ci_2 dX2_step_140 rfl ?_
              obtain ⟨s52, e53, h⟩ := lt_some h
              refine gw_put (pc' := 144) cx at37 rfl fp_X2_29 ⟨rfl, rfl⟩ dX2_step_141 rfl e53 ?_
              refine gw_aload_n (pc' := 145) cx 0 rfl rfl dX2_step_144 rfl ?_
              refine gw_iconst (pc' := 146) (v := 0) cx ci_0 dX2_step_145 rfl ?_
              obtain ⟨s54, e55, h⟩ := lt_some h
              refine gw_put (pc' := 149) cx at37 rfl fp_X2_101 ⟨rfl, rfl⟩ dX2_step_146 rfl e55 ?_
              exact w_X2_step_L149 cx tg FU s54 h
          · refine gw_if_eq_f (pc' := 80) cx c39 dX2_step_77 ⟨124, by decide⟩ rfl ?_
            refine gw_aload_n (pc' := 81) cx 0 rfl rfl dX2_step_80 rfl ?_
            refine gw_iconst (pc' := 82) (v := 1) cx ci_1 dX2_step_81 rfl ?_
            obtain ⟨s56, e57, h⟩ := lt_some h
            refine gw_put (pc' := 85) cx at37 rfl fp_X2_29 ⟨rfl, rfl⟩ dX2_step_82 rfl e57 ?_
            exact w_X2_step_L85 cx tg FU s56 h
        · refine gw_ic_lt_f (pc' := 57) cx c35 dX2_step_54 ⟨65, by decide⟩ rfl ?_
          refine gw_aload_n (pc' := 58) cx 0 rfl rfl dX2_step_57 rfl ?_
          refine gw_iconst (pc' := 59) (v := 0) cx ci_0 dX2_step_58 rfl ?_
          obtain ⟨s58, e59, h⟩ := lt_some h
          refine gw_put (pc' := 62) cx at37 rfl fp_X2_29 ⟨rfl, rfl⟩ dX2_step_59 rfl e59 ?_
          refine gw_goto (pc' := 251) cx dX2_step_62 (by decide) ?_
          exact gw_vret cx tg rfl (rtV h) dX2_step_251
def f_X2_step (σ : Sg) : Option (Sg) :=
  f_X2_step_L0 FU σ
theorem k_X2_step (E : Ev)  {σ : Sg} {σ' : Sg} (h : f_X2_step σ = some σ') : Con E mX2_step 1 [.ref (eA E 37)] σ none σ' := by
  refine con_of (by decide) (Nat.le_of_ble_eq_true rfl) (fun fr cx tg => ?_)
  show GW E fr 1 0 [(0, .ref (eA E 37))] [] σ
  rw [f_X2_step] at h
  exact w_X2_step_L0 cx tg FU σ h
def f_X2_isWord_L28 (ra1 : Nat) : Nat → Int32 → Sg → Option (Int32)
  | 0, _, _ => none
  | n + 1, y2, σ =>
    if (nI (lenS.getD ra1 0)) ≤ y2 then
      some 1
    else
      chk ((σ 37 3) + y2) 120 <|
      chk y2 (lenS.getD ra1 0) <|
      if (σ 38 ((σ 37 3) + y2).toNatClampNeg) = ((bytS.getD ra1 []).getD y2.toNatClampNeg 0) then
        f_X2_isWord_L28 ra1 n (y2 + 1) σ
      else
        some 0
theorem w_X2_isWord_L28 {E : Ev} {fr : Fr} {r : Int32} {σ0 : Sg} (cx : Cx E mX2_isWord 4 fr) (tg : Tg E fr (some .boolean) (some (.int r)) σ0) (ra1 : Nat) (hra1 : ra1 < 12) : ∀ (n : Nat) (y2 : Int32) (σ : Sg), σ = σ0 → f_X2_isWord_L28 ra1 n y2 σ = some r → GW E fr 3 28 [(0, .ref (eA E 37)), (1, .ref (eK E ra1)), (2, .int y2)] [] σ := by
  intro n
  induction n with
  | zero => intro y2 σ hs h; cases (show (none : Option (Int32)) = _ from h)
  | succ n ih =>
    intro y2 σ hs h
    rw [f_X2_isWord_L28] at h
    subst hs
    refine gw_iload_n (pc' := 29) cx 2 rfl rfl dX2_isWord_28 rfl ?_
    refine gw_aload_n (pc' := 30) cx 1 rfl rfl dX2_isWord_29 rfl ?_
    refine gw_strlen (pc' := 33) (rest := [.int y2]) cx hra1 (by decide) lkk_X2_118 dX2_isWord_30 (Nat.le_of_ble_eq_true rfl) rfl ?_
    rcases ite_some h with ⟨c3, h⟩ | ⟨c3, h⟩
    · refine gw_ic_ge_t (pc' := 63) cx c3 dX2_isWord_33 (by decide) ?_
      refine gw_iconst (pc' := 64) (v := 1) cx ci_1 dX2_isWord_63 rfl ?_
      exact gw_zret cx tg (Or.inr rfl) (rt0 h) rfl dX2_isWord_64
    · refine gw_ic_ge_f (pc' := 36) cx c3 dX2_isWord_33 ⟨63, by decide⟩ rfl ?_
      refine gw_aload_n (pc' := 37) cx 0 rfl rfl dX2_isWord_36 rfl ?_
      refine gw_getR (pc' := 40) cx at37 rfl fl_X2_9 dX2_isWord_37 rfl ?_
      refine gw_aload_n (pc' := 41) cx 0 rfl rfl dX2_isWord_40 rfl ?_
      refine gw_getI (pc' := 44) cx at37 rfl fl_X2_32 dX2_isWord_41 rfl ?_
      refine gw_iload_n (pc' := 45) cx 2 rfl rfl dX2_isWord_44 rfl ?_
      refine gw_iadd (pc' := 46) cx dX2_isWord_45 rfl ?_
      obtain ⟨i4, h⟩ := chk_some h
      refine gw_iald (pc' := 47) cx at38 i4 rfl dX2_isWord_46 rfl ?_
      refine gw_aload_n (pc' := 48) cx 1 rfl rfl dX2_isWord_47 rfl ?_
      refine gw_iload_n (pc' := 49) cx 2 rfl rfl dX2_isWord_48 rfl ?_
      obtain ⟨i5, h⟩ := chk_some h
      refine gw_charAt (pc' := 52) (rest := [.int (σ 38 ((σ 37 3) + y2).toNatClampNeg)]) cx hra1 i5 (by decide) lkk_X2_123 dX2_isWord_49 (Nat.le_of_ble_eq_true rfl) rfl ?_
      rcases ite_some h with ⟨c6, h⟩ | ⟨c6, h⟩
      · refine gw_ic_eq_t (pc' := 57) cx c6 dX2_isWord_52 (by decide) ?_
        refine gw_iinc (pc' := 60) (v := (y2 + 1)) (lv' := [(2, .int (y2 + 1)), (0, .ref (eA E 37)), (1, .ref (eK E ra1))]) cx 2 rfl rfl rfl (by decide) dX2_isWord_57 rfl ?_
        refine gw_goto (pc' := 28) cx dX2_isWord_60 (by decide) ?_
        refine gw_sub [1, 2, 0] (lv' := [(0, .ref (eA E 37)), (1, .ref (eK E ra1)), (2, .int (y2 + 1))]) rfl ?_
        exact ih (y2 + 1) σ rfl h
      · refine gw_ic_eq_f (pc' := 55) cx c6 dX2_isWord_52 ⟨57, by decide⟩ rfl ?_
        refine gw_iconst (pc' := 56) (v := 0) cx ci_0 dX2_isWord_55 rfl ?_
        exact gw_zret cx tg (Or.inl rfl) (rt0 h) rfl dX2_isWord_56
def f_X2_isWord (x1 : Nat) (σ : Sg) : Option (Int32) :=
  if (σ 37 2) = 1 then
    if ((σ 37 4) - (σ 37 3)) = (nI (lenS.getD x1 0)) then
      f_X2_isWord_L28 x1 FU 0 σ
    else
      some 0
  else
    some 0
theorem k_X2_isWord (E : Ev) {x1 : Nat} (hx1 : x1 < 12) {σ : Sg} {r : Int32} (h : f_X2_isWord x1 σ = some r) : Con E mX2_isWord 4 [.ref (eA E 37), .ref (eK E x1)] σ (some (.int r)) σ := by
  refine con_of (by decide) (Nat.le_of_ble_eq_true rfl) (fun fr cx tg => ?_)
  show GW E fr 3 0 [(0, .ref (eA E 37)), (1, .ref (eK E x1))] [] σ
  rw [f_X2_isWord] at h
  refine gw_aload_n (pc' := 1) cx 0 rfl rfl dX2_isWord_0 rfl ?_
  refine gw_getI (pc' := 4) cx at37 rfl fl_X2_29 dX2_isWord_1 rfl ?_
  refine gw_iconst (pc' := 5) (v := 1) cx ci_1 dX2_isWord_4 rfl ?_
  rcases ite_some h with ⟨c1, h⟩ | ⟨c1, h⟩
  · refine gw_ic_ne_f (pc' := 8) cx c1 dX2_isWord_5 ⟨24, by decide⟩ rfl ?_
    refine gw_aload_n (pc' := 9) cx 0 rfl rfl dX2_isWord_8 rfl ?_
    refine gw_getI (pc' := 12) cx at37 rfl fl_X2_19 dX2_isWord_9 rfl ?_
    refine gw_aload_n (pc' := 13) cx 0 rfl rfl dX2_isWord_12 rfl ?_
    refine gw_getI (pc' := 16) cx at37 rfl fl_X2_32 dX2_isWord_13 rfl ?_
    refine gw_isub (pc' := 17) cx dX2_isWord_16 rfl ?_
    refine gw_aload_n (pc' := 18) cx 1 rfl rfl dX2_isWord_17 rfl ?_
    refine gw_strlen (pc' := 21) (rest := [.int ((σ 37 4) - (σ 37 3))]) cx hx1 (by decide) lkk_X2_118 dX2_isWord_18 (Nat.le_of_ble_eq_true rfl) rfl ?_
    rcases ite_some h with ⟨c2, h⟩ | ⟨c2, h⟩
    · refine gw_ic_eq_t (pc' := 26) cx c2 dX2_isWord_21 (by decide) ?_
      refine gw_iconst (pc' := 27) (v := 0) cx ci_0 dX2_isWord_26 rfl ?_
      refine gw_istore_n (pc' := 28) (lv' := [(2, .int 0), (0, .ref (eA E 37)), (1, .ref (eK E x1))]) cx rfl rfl (by decide) dX2_isWord_27 rfl ?_
      refine gw_sub [1, 2, 0] (lv' := [(0, .ref (eA E 37)), (1, .ref (eK E x1)), (2, .int 0)]) rfl ?_
      exact w_X2_isWord_L28 cx tg x1 hx1 FU 0 σ rfl h
    · refine gw_ic_eq_f (pc' := 24) cx c2 dX2_isWord_21 ⟨26, by decide⟩ rfl ?_
      refine gw_iconst (pc' := 25) (v := 0) cx ci_0 dX2_isWord_24 rfl ?_
      exact gw_zret cx tg (Or.inl rfl) (rt0 h) rfl dX2_isWord_25
  · refine gw_ic_ne_t (pc' := 24) cx c1 dX2_isWord_5 (by decide) ?_
    refine gw_iconst (pc' := 25) (v := 0) cx ci_0 dX2_isWord_24 rfl ?_
    exact gw_zret cx tg (Or.inl rfl) (rt0 h) rfl dX2_isWord_25
def f_X2_readNumber (x1 : Int32) (σ : Sg) : Option (Int32 × Sg) :=
  if (σ 37 2) = 2 then
    if (σ 37 5) ≤ x1 then
      ob1 (f_X2_step σ) fun s4 =>
      some ((σ 37 5), s4)
    else
      some ((-1), σ)
  else
    some ((-1), σ)
theorem k_X2_readNumber (E : Ev) {x1 : Int32} {σ : Sg} {r : Int32} {σ' : Sg} (h : f_X2_readNumber x1 σ = some (r, σ')) : Con E mX2_readNumber 2 [.ref (eA E 37), .int x1] σ (some (.int r)) σ' := by
  refine con_of (by decide) (Nat.le_of_ble_eq_true rfl) (fun fr cx tg => ?_)
  show GW E fr 3 0 [(0, .ref (eA E 37)), (1, .int x1)] [] σ
  rw [f_X2_readNumber] at h
  refine gw_aload_n (pc' := 1) cx 0 rfl rfl dX2_readNumber_0 rfl ?_
  refine gw_getI (pc' := 4) cx at37 rfl fl_X2_29 dX2_readNumber_1 rfl ?_
  refine gw_iconst (pc' := 5) (v := 2) cx ci_2 dX2_readNumber_4 rfl ?_
  rcases ite_some h with ⟨c1, h⟩ | ⟨c1, h⟩
  · refine gw_ic_ne_f (pc' := 8) cx c1 dX2_readNumber_5 ⟨16, by decide⟩ rfl ?_
    refine gw_aload_n (pc' := 9) cx 0 rfl rfl dX2_readNumber_8 rfl ?_
    refine gw_getI (pc' := 12) cx at37 rfl fl_X2_101 dX2_readNumber_9 rfl ?_
    refine gw_iload_n (pc' := 13) cx 1 rfl rfl dX2_readNumber_12 rfl ?_
    rcases ite_some h with ⟨c2, h⟩ | ⟨c2, h⟩
    · refine gw_ic_le_t (pc' := 18) cx c2 dX2_readNumber_13 (by decide) ?_
      refine gw_aload_n (pc' := 19) cx 0 rfl rfl dX2_readNumber_18 rfl ?_
      refine gw_getI (pc' := 22) cx at37 rfl fl_X2_101 dX2_readNumber_19 rfl ?_
      refine gw_istore_n (pc' := 23) (lv' := [(2, .int (σ 37 5)), (0, .ref (eA E 37)), (1, .int x1)]) cx rfl rfl (by decide) dX2_readNumber_22 rfl ?_
      refine gw_aload_n (pc' := 24) cx 1 rfl rfl dX2_readNumber_23 rfl ?_
      obtain ⟨s4, g3, h⟩ := ob1_some h
      refine gw_cV (pc' := 27) (av := []) (rest := []) cx (k_X2_step E g3) at37 (by decide) lk_X2_22 dX2_readNumber_24 rfl (Nat.le_of_ble_eq_true rfl) rfl ?_
      show GW E fr _ 27 _ [] _
      refine gw_iload_n (pc' := 28) cx 0 rfl rfl dX2_readNumber_27 rfl ?_
      exact gw_iret cx tg (rt1 h) (rt2 h) dX2_readNumber_28
    · refine gw_ic_le_f (pc' := 16) cx c2 dX2_readNumber_13 ⟨18, by decide⟩ rfl ?_
      refine gw_iconst (pc' := 17) (v := (-1)) cx ci_m1 dX2_readNumber_16 rfl ?_
      exact gw_iret cx tg (rt1 h) (rt2 h) dX2_readNumber_17
  · refine gw_ic_ne_t (pc' := 16) cx c1 dX2_readNumber_5 (by decide) ?_
    refine gw_iconst (pc' := 17) (v := (-1)) cx ci_m1 dX2_readNumber_16 rfl ?_
    exact gw_iret cx tg (rt1 h) (rt2 h) dX2_readNumber_17
def f_X2_readSaying (x1 : Nat) (σ : Sg) : Option (Int32 × Sg) :=
  ob2 (f_X2_readNumber 5 σ) fun r2 s3 =>
  if r2 = (-1) then
    some (0, s3)
  else
    ob2 (f_X2_readNumber 7 s3) fun r6 s7 =>
    if r6 = (-1) then
      some (0, s7)
    else
      ob2 (f_X2_readNumber 20 s7) fun r10 s11 =>
      if r10 = (-1) then
        some (0, s11)
      else
        ob0 (f_X4_saying r6 r10 s11) fun r14 =>
        chk r2 6 <|
        lt (up2 s11 (x1 + 1) r2.toNatClampNeg r14) fun s16 =>
        some (1, s16)
theorem k_X2_readSaying (E : Ev) {x1 : Nat} (hx1 : Cty x1) {σ : Sg} {r : Int32} {σ' : Sg} (h : f_X2_readSaying x1 σ = some (r, σ')) : Con E mX2_readSaying 3 [.ref (eA E 37), .ref (eA E x1)] σ (some (.int r)) σ' := by
  refine con_of (by decide) (Nat.le_of_ble_eq_true rfl) (fun fr cx tg => ?_)
  show GW E fr 5 0 [(0, .ref (eA E 37)), (1, .ref (eA E x1))] [] σ
  rw [f_X2_readSaying] at h
  refine gw_aload_n (pc' := 1) cx 0 rfl rfl dX2_readSaying_0 rfl ?_
  refine gw_iconst (pc' := 2) (v := 5) cx ci_5 dX2_readSaying_1 rfl ?_
  obtain ⟨r2, s3, g1, h⟩ := ob2_some h
  refine gw_cV (pc' := 5) (av := [.int 5]) (rest := []) cx (k_X2_readNumber E g1) at37 (by decide) lk_X2_52 dX2_readSaying_2 rfl (Nat.le_of_ble_eq_true rfl) rfl ?_
  show GW E fr _ 5 _ (.int r2 :: _) _
  refine gw_istore_n (pc' := 6) (lv' := [(2, .int r2), (0, .ref (eA E 37)), (1, .ref (eA E x1))]) cx rfl rfl (by decide) dX2_readSaying_5 rfl ?_
  refine gw_iload_n (pc' := 7) cx 0 rfl rfl dX2_readSaying_6 rfl ?_
  refine gw_iconst (pc' := 8) (v := (-1)) cx ci_m1 dX2_readSaying_7 rfl ?_
  rcases ite_some h with ⟨c4, h⟩ | ⟨c4, h⟩
  · refine gw_ic_ne_f (pc' := 11) cx c4 dX2_readSaying_8 ⟨13, by decide⟩ rfl ?_
    refine gw_iconst (pc' := 12) (v := 0) cx ci_0 dX2_readSaying_11 rfl ?_
    exact gw_zret cx tg (Or.inl rfl) (rt1 h) (rt2 h) dX2_readSaying_12
  · refine gw_ic_ne_t (pc' := 13) cx c4 dX2_readSaying_8 (by decide) ?_
    refine gw_aload_n (pc' := 14) cx 1 rfl rfl dX2_readSaying_13 rfl ?_
    refine gw_bipush (pc' := 16) (v := 7) cx cb_7 dX2_readSaying_14 rfl ?_
    obtain ⟨r6, s7, g5, h⟩ := ob2_some h
    refine gw_cV (pc' := 19) (av := [.int 7]) (rest := []) cx (k_X2_readNumber E g5) at37 (by decide) lk_X2_52 dX2_readSaying_16 rfl (Nat.le_of_ble_eq_true rfl) rfl ?_
    show GW E fr _ 19 _ (.int r6 :: _) _
    refine gw_istore_n (pc' := 20) (lv' := [(3, .int r6), (2, .int r2), (0, .ref (eA E 37)), (1, .ref (eA E x1))]) cx rfl rfl (by decide) dX2_readSaying_19 rfl ?_
    refine gw_iload_n (pc' := 21) cx 0 rfl rfl dX2_readSaying_20 rfl ?_
    refine gw_iconst (pc' := 22) (v := (-1)) cx ci_m1 dX2_readSaying_21 rfl ?_
    rcases ite_some h with ⟨c8, h⟩ | ⟨c8, h⟩
    · refine gw_ic_ne_f (pc' := 25) cx c8 dX2_readSaying_22 ⟨27, by decide⟩ rfl ?_
      refine gw_iconst (pc' := 26) (v := 0) cx ci_0 dX2_readSaying_25 rfl ?_
      exact gw_zret cx tg (Or.inl rfl) (rt1 h) (rt2 h) dX2_readSaying_26
    · refine gw_ic_ne_t (pc' := 27) cx c8 dX2_readSaying_22 (by decide) ?_
      refine gw_aload_n (pc' := 28) cx 2 rfl rfl dX2_readSaying_27 rfl ?_
      refine gw_bipush (pc' := 30) (v := 20) cx cb_20 dX2_readSaying_28 rfl ?_
      obtain ⟨r10, s11, g9, h⟩ := ob2_some h
      refine gw_cV (pc' := 33) (av := [.int 20]) (rest := []) cx (k_X2_readNumber E g9) at37 (by decide) lk_X2_52 dX2_readSaying_30 rfl (Nat.le_of_ble_eq_true rfl) rfl ?_
      show GW E fr _ 33 _ (.int r10 :: _) _
      refine gw_istore (pc' := 35) (lv' := [(4, .int r10), (3, .int r6), (2, .int r2), (0, .ref (eA E 37)), (1, .ref (eA E x1))]) cx rfl (by decide) dX2_readSaying_33 rfl ?_
      refine gw_iload (pc' := 37) cx 0 rfl dX2_readSaying_35 rfl ?_
      refine gw_iconst (pc' := 38) (v := (-1)) cx ci_m1 dX2_readSaying_37 rfl ?_
      rcases ite_some h with ⟨c12, h⟩ | ⟨c12, h⟩
      · refine gw_ic_ne_f (pc' := 41) cx c12 dX2_readSaying_38 ⟨43, by decide⟩ rfl ?_
        refine gw_iconst (pc' := 42) (v := 0) cx ci_0 dX2_readSaying_41 rfl ?_
        exact gw_zret cx tg (Or.inl rfl) (rt1 h) (rt2 h) dX2_readSaying_42
      · refine gw_ic_ne_t (pc' := 43) cx c12 dX2_readSaying_38 (by decide) ?_
        refine gw_aload_n (pc' := 44) cx 4 rfl rfl dX2_readSaying_43 rfl ?_
        refine gw_getR (pc' := 47) cx (atC hx1) rfl fl_X2_56 dX2_readSaying_44 rfl ?_
        refine gw_iload_n (pc' := 48) cx 2 rfl rfl dX2_readSaying_47 rfl ?_
        refine gw_iload_n (pc' := 49) cx 1 rfl rfl dX2_readSaying_48 rfl ?_
        refine gw_iload (pc' := 51) cx 0 rfl dX2_readSaying_49 rfl ?_
        obtain ⟨r14, g13, h⟩ := ob0_some h
        refine gw_cN (pc' := 54) (av := [.int r6, .int r10]) (rest := [.int r2, .ref (eA E (x1 + 1))]) cx (k_X4_saying E g13) (by decide) lk_X2_61 dX2_readSaying_51 rfl (Nat.le_of_ble_eq_true rfl) rfl ?_
        show GW E fr _ 54 _ (.int r14 :: _) _
        obtain ⟨i15, h⟩ := chk_some h
        obtain ⟨s16, e17, h⟩ := lt_some h
        refine gw_iast (pc' := 55) cx (atCl hx1) i15 rfl dX2_readSaying_54 rfl e17 ?_
        refine gw_iconst (pc' := 56) (v := 1) cx ci_1 dX2_readSaying_55 rfl ?_
        exact gw_zret cx tg (Or.inr rfl) (rt1 h) (rt2 h) dX2_readSaying_56
def f_X2_readHints (x1 : Nat) (σ : Sg) : Option (Int32 × Sg) :=
  ob2 (f_X2_readNumber 9999 σ) fun r2 s3 =>
  if r2 = (-1) then
    some (0, s3)
  else
    lt (up2 s3 x1 4 r2) fun s5 =>
    some (1, s5)
theorem k_X2_readHints (E : Ev) {x1 : Nat} (hx1 : Cty x1) {σ : Sg} {r : Int32} {σ' : Sg} (h : f_X2_readHints x1 σ = some (r, σ')) : Con E mX2_readHints 3 [.ref (eA E 37), .ref (eA E x1)] σ (some (.int r)) σ' := by
  refine con_of (by decide) (Nat.le_of_ble_eq_true rfl) (fun fr cx tg => ?_)
  show GW E fr 3 0 [(0, .ref (eA E 37)), (1, .ref (eA E x1))] [] σ
  rw [f_X2_readHints] at h
  refine gw_aload_n (pc' := 1) cx 0 rfl rfl dX2_readHints_0 rfl ?_
  refine gw_sipush (pc' := 4) (v := 9999) cx cs_9999 dX2_readHints_1 rfl ?_
  obtain ⟨r2, s3, g1, h⟩ := ob2_some h
  refine gw_cV (pc' := 7) (av := [.int 9999]) (rest := []) cx (k_X2_readNumber E g1) at37 (by decide) lk_X2_52 dX2_readHints_4 rfl (Nat.le_of_ble_eq_true rfl) rfl ?_
  show GW E fr _ 7 _ (.int r2 :: _) _
  refine gw_istore_n (pc' := 8) (lv' := [(2, .int r2), (0, .ref (eA E 37)), (1, .ref (eA E x1))]) cx rfl rfl (by decide) dX2_readHints_7 rfl ?_
  refine gw_iload_n (pc' := 9) cx 0 rfl rfl dX2_readHints_8 rfl ?_
  refine gw_iconst (pc' := 10) (v := (-1)) cx ci_m1 dX2_readHints_9 rfl ?_
  rcases ite_some h with ⟨c4, h⟩ | ⟨c4, h⟩
  · refine gw_ic_ne_f (pc' := 13) cx c4 dX2_readHints_10 ⟨15, by decide⟩ rfl ?_
    refine gw_iconst (pc' := 14) (v := 0) cx ci_0 dX2_readHints_13 rfl ?_
    exact gw_zret cx tg (Or.inl rfl) (rt1 h) (rt2 h) dX2_readHints_14
  · refine gw_ic_ne_t (pc' := 15) cx c4 dX2_readHints_10 (by decide) ?_
    refine gw_aload_n (pc' := 16) cx 2 rfl rfl dX2_readHints_15 rfl ?_
    refine gw_iload_n (pc' := 17) cx 0 rfl rfl dX2_readHints_16 rfl ?_
    obtain ⟨s5, e6, h⟩ := lt_some h
    refine gw_put (pc' := 20) cx (atC hx1) rfl fp_X2_65 ⟨rfl, rfl⟩ dX2_readHints_17 rfl e6 ?_
    refine gw_iconst (pc' := 21) (v := 1) cx ci_1 dX2_readHints_20 rfl ?_
    exact gw_zret cx tg (Or.inr rfl) (rt1 h) (rt2 h) dX2_readHints_21
def f_X2_kindOfWord (σ : Sg) : Option (Int32) :=
  ob0 (f_X2_isWord 2 σ) fun r2 =>
  if r2 = 0 then
    ob0 (f_X2_isWord 3 σ) fun r5 =>
    if r5 = 0 then
      ob0 (f_X2_isWord 4 σ) fun r8 =>
      if r8 = 0 then
        ob0 (f_X2_isWord 5 σ) fun r11 =>
        if r11 = 0 then
          ob0 (f_X2_isWord 6 σ) fun r14 =>
          if r14 = 0 then
            ob0 (f_X2_isWord 7 σ) fun r17 =>
            if r17 = 0 then
              ob0 (f_X2_isWord 8 σ) fun r20 =>
              if r20 = 0 then
                some (-1)
              else
                some 6
            else
              some 5
          else
            some 4
        else
          some 3
      else
        some 2
    else
      some 1
  else
    some 0
theorem k_X2_kindOfWord (E : Ev)  {σ : Sg} {r : Int32} (h : f_X2_kindOfWord σ = some r) : Con E mX2_kindOfWord 5 [.ref (eA E 37)] σ (some (.int r)) σ := by
  refine con_of (by decide) (Nat.le_of_ble_eq_true rfl) (fun fr cx tg => ?_)
  show GW E fr 1 0 [(0, .ref (eA E 37))] [] σ
  rw [f_X2_kindOfWord] at h
  refine gw_aload_n (pc' := 1) cx 0 rfl rfl dX2_kindOfWord_0 rfl ?_
  refine gw_ldcS (pc' := 3) 2 cx (by decide) ⟨rfl, rfl⟩ dX2_kindOfWord_1 rfl ?_
  obtain ⟨r2, g1, h⟩ := ob0_some h
  refine gw_cV (pc' := 6) (av := [.ref (eK E 2)]) (rest := []) cx (k_X2_isWord E (by decide) g1) at37 (by decide) lk_X2_37 dX2_kindOfWord_3 rfl (Nat.le_of_ble_eq_true rfl) rfl ?_
  show GW E fr _ 6 _ (.int r2 :: _) _
  rcases ite_some h with ⟨c3, h⟩ | ⟨c3, h⟩
  · refine gw_if_eq_t (pc' := 11) cx c3 dX2_kindOfWord_6 (by decide) ?_
    refine gw_aload_n (pc' := 12) cx 0 rfl rfl dX2_kindOfWord_11 rfl ?_
    refine gw_ldcS (pc' := 14) 3 cx (by decide) ⟨rfl, rfl⟩ dX2_kindOfWord_12 rfl ?_
    obtain ⟨r5, g4, h⟩ := ob0_some h
    refine gw_cV (pc' := 17) (av := [.ref (eK E 3)]) (rest := []) cx (k_X2_isWord E (by decide) g4) at37 (by decide) lk_X2_37 dX2_kindOfWord_14 rfl (Nat.le_of_ble_eq_true rfl) rfl ?_
    show GW E fr _ 17 _ (.int r5 :: _) _
    rcases ite_some h with ⟨c6, h⟩ | ⟨c6, h⟩
    · refine gw_if_eq_t (pc' := 22) cx c6 dX2_kindOfWord_17 (by decide) ?_
      refine gw_aload_n (pc' := 23) cx 0 rfl rfl dX2_kindOfWord_22 rfl ?_
      refine gw_ldcS (pc' := 25) 4 cx (by decide) ⟨rfl, rfl⟩ dX2_kindOfWord_23 rfl ?_
      obtain ⟨r8, g7, h⟩ := ob0_some h
      refine gw_cV (pc' := 28) (av := [.ref (eK E 4)]) (rest := []) cx (k_X2_isWord E (by decide) g7) at37 (by decide) lk_X2_37 dX2_kindOfWord_25 rfl (Nat.le_of_ble_eq_true rfl) rfl ?_
      show GW E fr _ 28 _ (.int r8 :: _) _
      rcases ite_some h with ⟨c9, h⟩ | ⟨c9, h⟩
      · refine gw_if_eq_t (pc' := 33) cx c9 dX2_kindOfWord_28 (by decide) ?_
        refine gw_aload_n (pc' := 34) cx 0 rfl rfl dX2_kindOfWord_33 rfl ?_
        refine gw_ldcS (pc' := 36) 5 cx (by decide) ⟨rfl, rfl⟩ dX2_kindOfWord_34 rfl ?_
        obtain ⟨r11, g10, h⟩ := ob0_some h
        refine gw_cV (pc' := 39) (av := [.ref (eK E 5)]) (rest := []) cx (k_X2_isWord E (by decide) g10) at37 (by decide) lk_X2_37 dX2_kindOfWord_36 rfl (Nat.le_of_ble_eq_true rfl) rfl ?_
        show GW E fr _ 39 _ (.int r11 :: _) _
        rcases ite_some h with ⟨c12, h⟩ | ⟨c12, h⟩
        · refine gw_if_eq_t (pc' := 44) cx c12 dX2_kindOfWord_39 (by decide) ?_
          refine gw_aload_n (pc' := 45) cx 0 rfl rfl dX2_kindOfWord_44 rfl ?_
          refine gw_ldcS (pc' := 47) 6 cx (by decide) ⟨rfl, rfl⟩ dX2_kindOfWord_45 rfl ?_
          obtain ⟨r14, g13, h⟩ := ob0_some h
          refine gw_cV (pc' := 50) (av := [.ref (eK E 6)]) (rest := []) cx (k_X2_isWord E (by decide) g13) at37 (by decide) lk_X2_37 dX2_kindOfWord_47 rfl (Nat.le_of_ble_eq_true rfl) rfl ?_
          show GW E fr _ 50 _ (.int r14 :: _) _
          rcases ite_some h with ⟨c15, h⟩ | ⟨c15, h⟩
          · refine gw_if_eq_t (pc' := 55) cx c15 dX2_kindOfWord_50 (by decide) ?_
            refine gw_aload_n (pc' := 56) cx 0 rfl rfl dX2_kindOfWord_55 rfl ?_
            refine gw_ldcS (pc' := 58) 7 cx (by decide) ⟨rfl, rfl⟩ dX2_kindOfWord_56 rfl ?_
            obtain ⟨r17, g16, h⟩ := ob0_some h
            refine gw_cV (pc' := 61) (av := [.ref (eK E 7)]) (rest := []) cx (k_X2_isWord E (by decide) g16) at37 (by decide) lk_X2_37 dX2_kindOfWord_58 rfl (Nat.le_of_ble_eq_true rfl) rfl ?_
            show GW E fr _ 61 _ (.int r17 :: _) _
            rcases ite_some h with ⟨c18, h⟩ | ⟨c18, h⟩
            · refine gw_if_eq_t (pc' := 66) cx c18 dX2_kindOfWord_61 (by decide) ?_
              refine gw_aload_n (pc' := 67) cx 0 rfl rfl dX2_kindOfWord_66 rfl ?_
              refine gw_ldcS (pc' := 69) 8 cx (by decide) ⟨rfl, rfl⟩ dX2_kindOfWord_67 rfl ?_
              obtain ⟨r20, g19, h⟩ := ob0_some h
              refine gw_cV (pc' := 72) (av := [.ref (eK E 8)]) (rest := []) cx (k_X2_isWord E (by decide) g19) at37 (by decide) lk_X2_37 dX2_kindOfWord_69 rfl (Nat.le_of_ble_eq_true rfl) rfl ?_
              show GW E fr _ 72 _ (.int r20 :: _) _
              rcases ite_some h with ⟨c21, h⟩ | ⟨c21, h⟩
              · refine gw_if_eq_t (pc' := 78) cx c21 dX2_kindOfWord_72 (by decide) ?_
                refine gw_iconst (pc' := 79) (v := (-1)) cx ci_m1 dX2_kindOfWord_78 rfl ?_
                exact gw_iret cx tg (rt0 h) rfl dX2_kindOfWord_79
              · refine gw_if_eq_f (pc' := 75) cx c21 dX2_kindOfWord_72 ⟨78, by decide⟩ rfl ?_
                refine gw_bipush (pc' := 77) (v := 6) cx cb_6 dX2_kindOfWord_75 rfl ?_
                exact gw_iret cx tg (rt0 h) rfl dX2_kindOfWord_77
            · refine gw_if_eq_f (pc' := 64) cx c18 dX2_kindOfWord_61 ⟨66, by decide⟩ rfl ?_
              refine gw_iconst (pc' := 65) (v := 5) cx ci_5 dX2_kindOfWord_64 rfl ?_
              exact gw_iret cx tg (rt0 h) rfl dX2_kindOfWord_65
          · refine gw_if_eq_f (pc' := 53) cx c15 dX2_kindOfWord_50 ⟨55, by decide⟩ rfl ?_
            refine gw_iconst (pc' := 54) (v := 4) cx ci_4 dX2_kindOfWord_53 rfl ?_
            exact gw_iret cx tg (rt0 h) rfl dX2_kindOfWord_54
        · refine gw_if_eq_f (pc' := 42) cx c12 dX2_kindOfWord_39 ⟨44, by decide⟩ rfl ?_
          refine gw_iconst (pc' := 43) (v := 3) cx ci_3 dX2_kindOfWord_42 rfl ?_
          exact gw_iret cx tg (rt0 h) rfl dX2_kindOfWord_43
      · refine gw_if_eq_f (pc' := 31) cx c9 dX2_kindOfWord_28 ⟨33, by decide⟩ rfl ?_
        refine gw_iconst (pc' := 32) (v := 2) cx ci_2 dX2_kindOfWord_31 rfl ?_
        exact gw_iret cx tg (rt0 h) rfl dX2_kindOfWord_32
    · refine gw_if_eq_f (pc' := 20) cx c6 dX2_kindOfWord_17 ⟨22, by decide⟩ rfl ?_
      refine gw_iconst (pc' := 21) (v := 1) cx ci_1 dX2_kindOfWord_20 rfl ?_
      exact gw_iret cx tg (rt0 h) rfl dX2_kindOfWord_21
  · refine gw_if_eq_f (pc' := 9) cx c3 dX2_kindOfWord_6 ⟨11, by decide⟩ rfl ?_
    refine gw_iconst (pc' := 10) (v := 0) cx ci_0 dX2_kindOfWord_9 rfl ?_
    exact gw_iret cx tg (rt0 h) rfl dX2_kindOfWord_10
def f_X2_readAttribute (x1 : Nat) (x2 : Nat) (x3 : Int32) (σ : Sg) : Option (Int32 × Sg) :=
  ob0 (f_X2_isWord x1 σ) fun r2 =>
  if r2 = 0 then
    some (1, σ)
  else
    ob1 (f_X2_step σ) fun s5 =>
    ob0 (f_X4_mostOf x3 s5) fun r7 =>
    ob2 (f_X2_readNumber r7 s5) fun r9 s10 =>
    if r9 = (-1) then
      some (0, s10)
    else
      ob1 (f_X1_setAttribute x2 x3 r9 s10) fun s13 =>
      some (1, s13)
theorem k_X2_readAttribute (E : Ev) {x1 : Nat} {x2 : Nat} {x3 : Int32} (hx1 : x1 < 12) (hx2 : Psn x2) {σ : Sg} {r : Int32} {σ' : Sg} (h : f_X2_readAttribute x1 x2 x3 σ = some (r, σ')) : Con E mX2_readAttribute 5 [.ref (eA E 37), .ref (eK E x1), .ref (eA E x2), .int x3] σ (some (.int r)) σ' := by
  refine con_of (by decide) (Nat.le_of_ble_eq_true rfl) (fun fr cx tg => ?_)
  show GW E fr 5 0 [(0, .ref (eA E 37)), (1, .ref (eK E x1)), (2, .ref (eA E x2)), (3, .int x3)] [] σ
  rw [f_X2_readAttribute] at h
  refine gw_aload_n (pc' := 1) cx 0 rfl rfl dX2_readAttribute_0 rfl ?_
  refine gw_aload_n (pc' := 2) cx 1 rfl rfl dX2_readAttribute_1 rfl ?_
  obtain ⟨r2, g1, h⟩ := ob0_some h
  refine gw_cV (pc' := 5) (av := [.ref (eK E x1)]) (rest := []) cx (k_X2_isWord E hx1 g1) at37 (by decide) lk_X2_37 dX2_readAttribute_2 rfl (Nat.le_of_ble_eq_true rfl) rfl ?_
  show GW E fr _ 5 _ (.int r2 :: _) _
  rcases ite_some h with ⟨c3, h⟩ | ⟨c3, h⟩
  · refine gw_if_ne_f (pc' := 8) cx c3 dX2_readAttribute_5 ⟨10, by decide⟩ rfl ?_
    refine gw_iconst (pc' := 9) (v := 1) cx ci_1 dX2_readAttribute_8 rfl ?_
    exact gw_zret cx tg (Or.inr rfl) (rt1 h) (rt2 h) dX2_readAttribute_9
  · refine gw_if_ne_t (pc' := 10) cx c3 dX2_readAttribute_5 (by decide) ?_
    refine gw_aload_n (pc' := 11) cx 0 rfl rfl dX2_readAttribute_10 rfl ?_
    obtain ⟨s5, g4, h⟩ := ob1_some h
    refine gw_cV (pc' := 14) (av := []) (rest := []) cx (k_X2_step E g4) at37 (by decide) lk_X2_22 dX2_readAttribute_11 rfl (Nat.le_of_ble_eq_true rfl) rfl ?_
    show GW E fr _ 14 _ [] _
    refine gw_aload_n (pc' := 15) cx 0 rfl rfl dX2_readAttribute_14 rfl ?_
    refine gw_iload_n (pc' := 16) cx 3 rfl rfl dX2_readAttribute_15 rfl ?_
    obtain ⟨r7, g6, h⟩ := ob0_some h
    refine gw_cN (pc' := 19) (av := [.int x3]) (rest := [.ref (eA E 37)]) cx (k_X4_mostOf E g6) (by decide) lk_X2_92 dX2_readAttribute_16 rfl (Nat.le_of_ble_eq_true rfl) rfl ?_
    show GW E fr _ 19 _ (.int r7 :: _) _
    obtain ⟨r9, s10, g8, h⟩ := ob2_some h
    refine gw_cV (pc' := 22) (av := [.int r7]) (rest := []) cx (k_X2_readNumber E g8) at37 (by decide) lk_X2_52 dX2_readAttribute_19 rfl (Nat.le_of_ble_eq_true rfl) rfl ?_
    show GW E fr _ 22 _ (.int r9 :: _) _
    refine gw_istore (pc' := 24) (lv' := [(4, .int r9), (0, .ref (eA E 37)), (1, .ref (eK E x1)), (2, .ref (eA E x2)), (3, .int x3)]) cx rfl (by decide) dX2_readAttribute_22 rfl ?_
    refine gw_iload (pc' := 26) cx 0 rfl dX2_readAttribute_24 rfl ?_
    refine gw_iconst (pc' := 27) (v := (-1)) cx ci_m1 dX2_readAttribute_26 rfl ?_
    rcases ite_some h with ⟨c11, h⟩ | ⟨c11, h⟩
    · refine gw_ic_ne_f (pc' := 30) cx c11 dX2_readAttribute_27 ⟨32, by decide⟩ rfl ?_
      refine gw_iconst (pc' := 31) (v := 0) cx ci_0 dX2_readAttribute_30 rfl ?_
      exact gw_zret cx tg (Or.inl rfl) (rt1 h) (rt2 h) dX2_readAttribute_31
    · refine gw_ic_ne_t (pc' := 32) cx c11 dX2_readAttribute_27 (by decide) ?_
      refine gw_aload_n (pc' := 33) cx 3 rfl rfl dX2_readAttribute_32 rfl ?_
      refine gw_iload_n (pc' := 34) cx 4 rfl rfl dX2_readAttribute_33 rfl ?_
      refine gw_iload (pc' := 36) cx 0 rfl dX2_readAttribute_34 rfl ?_
      obtain ⟨s13, g12, h⟩ := ob1_some h
      refine gw_cV (pc' := 39) (av := [.int x3, .int r9]) (rest := []) cx (k_X1_setAttribute E hx2 g12) (atP hx2) (by decide) lk_X2_95 dX2_readAttribute_36 rfl (Nat.le_of_ble_eq_true rfl) rfl ?_
      show GW E fr _ 39 _ [] _
      refine gw_iconst (pc' := 40) (v := 1) cx ci_1 dX2_readAttribute_39 rfl ?_
      exact gw_zret cx tg (Or.inr rfl) (rt1 h) (rt2 h) dX2_readAttribute_40
def f_X2_readPerson (x1 : Nat) (σ : Sg) : Option (Int32 × Sg) :=
  ob0 (f_X2_kindOfWord σ) fun r2 =>
  if r2 = (-1) then
    ob0 (f_X0_has x1 (-1) σ) fun r5 =>
    if r5 = 0 then
      some (0, σ)
    else
      ob1 (f_X2_step σ) fun s8 =>
      none
  else
    ob2 (f_X0_add x1 r2 20 σ) fun r10 s11 =>
    ob0 (f_X0_has x1 r10 s11) fun r13 =>
    if r13 = 0 then
      some (0, s11)
    else
      ob1 (f_X2_step s11) fun s16 =>
      chk r10 8 <|
      ob2 (f_X2_readAttribute 9 (x1 + 4 + r10.toNatClampNeg) 2 s16) fun r19 s20 =>
      if r19 = 0 then
        some (0, s20)
      else
        ob2 (f_X2_readAttribute 10 (x1 + 4 + r10.toNatClampNeg) 1 s20) fun r23 s24 =>
        if r23 = 0 then
          some (0, s24)
        else
          ob2 (f_X2_readAttribute 11 (x1 + 4 + r10.toNatClampNeg) 3 s24) fun r27 s28 =>
          if r27 = 0 then
            some (0, s28)
          else
            some (1, s28)
theorem k_X2_readPerson (E : Ev) {x1 : Nat} (hx1 : Cty x1) {σ : Sg} {r : Int32} {σ' : Sg} (h : f_X2_readPerson x1 σ = some (r, σ')) : Con E mX2_readPerson 6 [.ref (eA E 37), .ref (eA E x1)] σ (some (.int r)) σ' := by
  refine con_of (by decide) (Nat.le_of_ble_eq_true rfl) (fun fr cx tg => ?_)
  show GW E fr 5 0 [(0, .ref (eA E 37)), (1, .ref (eA E x1))] [] σ
  rw [f_X2_readPerson] at h
  refine gw_aload_n (pc' := 1) cx 0 rfl rfl dX2_readPerson_0 rfl ?_
  obtain ⟨r2, g1, h⟩ := ob0_some h
  refine gw_cV (pc' := 4) (av := []) (rest := []) cx (k_X2_kindOfWord E g1) at37 (by decide) lk_X2_67 dX2_readPerson_1 rfl (Nat.le_of_ble_eq_true rfl) rfl ?_
  show GW E fr _ 4 _ (.int r2 :: _) _
  refine gw_istore_n (pc' := 5) (lv' := [(2, .int r2), (0, .ref (eA E 37)), (1, .ref (eA E x1))]) cx rfl rfl (by decide) dX2_readPerson_4 rfl ?_
  refine gw_iload_n (pc' := 6) cx 0 rfl rfl dX2_readPerson_5 rfl ?_
  refine gw_iconst (pc' := 7) (v := (-1)) cx ci_m1 dX2_readPerson_6 rfl ?_
  rcases ite_some h with ⟨c3, h⟩ | ⟨c3, h⟩
  · refine gw_ic_ne_f (pc' := 10) cx c3 dX2_readPerson_7 ⟨14, by decide⟩ rfl ?_
    refine gw_iconst (pc' := 11) (v := (-1)) cx ci_m1 dX2_readPerson_10 rfl ?_
    refine gw_goto (pc' := 21) cx dX2_readPerson_11 (by decide) ?_
    refine gw_istore_n (pc' := 22) (lv' := [(3, .int (-1)), (2, .int r2), (0, .ref (eA E 37)), (1, .ref (eA E x1))]) cx rfl rfl (by decide) dX2_readPerson_21 rfl ?_
    refine gw_aload_n (pc' := 23) cx 3 rfl rfl dX2_readPerson_22 rfl ?_
    refine gw_iload_n (pc' := 24) cx 0 rfl rfl dX2_readPerson_23 rfl ?_
    obtain ⟨r5, g4, h⟩ := ob0_some h
    refine gw_cV (pc' := 27) (av := [.int (-1)]) (rest := []) cx (k_X0_has E hx1 g4) (atC hx1) (by decide) lk_X2_74 dX2_readPerson_24 rfl (Nat.le_of_ble_eq_true rfl) rfl ?_
    show GW E fr _ 27 _ (.int r5 :: _) _
    rcases ite_some h with ⟨c6, h⟩ | ⟨c6, h⟩
    · refine gw_if_ne_f (pc' := 30) cx c6 dX2_readPerson_27 ⟨32, by decide⟩ rfl ?_
      refine gw_iconst (pc' := 31) (v := 0) cx ci_0 dX2_readPerson_30 rfl ?_
      exact gw_zret cx tg (Or.inl rfl) (rt1 h) (rt2 h) dX2_readPerson_31
    · refine gw_if_ne_t (pc' := 32) cx c6 dX2_readPerson_27 (by decide) ?_
      refine gw_aload_n (pc' := 33) cx 2 rfl rfl dX2_readPerson_32 rfl ?_
      obtain ⟨s8, g7, h⟩ := ob1_some h
      refine gw_cV (pc' := 36) (av := []) (rest := []) cx (k_X2_step E g7) at37 (by decide) lk_X2_22 dX2_readPerson_33 rfl (Nat.le_of_ble_eq_true rfl) rfl ?_
      show GW E fr _ 36 _ [] _
      refine gw_aload_n (pc' := 37) cx 3 rfl rfl dX2_readPerson_36 rfl ?_
      refine gw_getR (pc' := 40) cx (atC hx1) rfl fl_X2_78 dX2_readPerson_37 rfl ?_
      refine gw_iload_n (pc' := 41) cx 0 rfl rfl dX2_readPerson_40 rfl ?_
      cases h
  · refine gw_ic_ne_t (pc' := 14) cx c3 dX2_readPerson_7 (by decide) ?_
    refine gw_aload_n (pc' := 15) cx 2 rfl rfl dX2_readPerson_14 rfl ?_
    refine gw_iload_n (pc' := 16) cx 0 rfl rfl dX2_readPerson_15 rfl ?_
    refine gw_bipush (pc' := 18) (v := 20) cx cb_20 dX2_readPerson_16 rfl ?_
    obtain ⟨r10, s11, g9, h⟩ := ob2_some h
    refine gw_cV (pc' := 21) (av := [.int r2, .int 20]) (rest := []) cx (k_X0_add E hx1 g9) (atC hx1) (by decide) lk_X2_71 dX2_readPerson_18 rfl (Nat.le_of_ble_eq_true rfl) rfl ?_
    show GW E fr _ 21 _ (.int r10 :: _) _
    refine gw_istore_n (pc' := 22) (lv' := [(3, .int r10), (2, .int r2), (0, .ref (eA E 37)), (1, .ref (eA E x1))]) cx rfl rfl (by decide) dX2_readPerson_21 rfl ?_
    refine gw_aload_n (pc' := 23) cx 3 rfl rfl dX2_readPerson_22 rfl ?_
    refine gw_iload_n (pc' := 24) cx 0 rfl rfl dX2_readPerson_23 rfl ?_
    obtain ⟨r13, g12, h⟩ := ob0_some h
    refine gw_cV (pc' := 27) (av := [.int r10]) (rest := []) cx (k_X0_has E hx1 g12) (atC hx1) (by decide) lk_X2_74 dX2_readPerson_24 rfl (Nat.le_of_ble_eq_true rfl) rfl ?_
    show GW E fr _ 27 _ (.int r13 :: _) _
    rcases ite_some h with ⟨c14, h⟩ | ⟨c14, h⟩
    · refine gw_if_ne_f (pc' := 30) cx c14 dX2_readPerson_27 ⟨32, by decide⟩ rfl ?_
      refine gw_iconst (pc' := 31) (v := 0) cx ci_0 dX2_readPerson_30 rfl ?_
      exact gw_zret cx tg (Or.inl rfl) (rt1 h) (rt2 h) dX2_readPerson_31
    · refine gw_if_ne_t (pc' := 32) cx c14 dX2_readPerson_27 (by decide) ?_
      refine gw_aload_n (pc' := 33) cx 2 rfl rfl dX2_readPerson_32 rfl ?_
      obtain ⟨s16, g15, h⟩ := ob1_some h
      refine gw_cV (pc' := 36) (av := []) (rest := []) cx (k_X2_step E g15) at37 (by decide) lk_X2_22 dX2_readPerson_33 rfl (Nat.le_of_ble_eq_true rfl) rfl ?_
      show GW E fr _ 36 _ [] _
      refine gw_aload_n (pc' := 37) cx 3 rfl rfl dX2_readPerson_36 rfl ?_
      refine gw_getR (pc' := 40) cx (atC hx1) rfl fl_X2_78 dX2_readPerson_37 rfl ?_
      refine gw_iload_n (pc' := 41) cx 0 rfl rfl dX2_readPerson_40 rfl ?_
      obtain ⟨i17, h⟩ := chk_some h
      refine gw_aald (pc' := 42) cx (atCp hx1) i17 dX2_readPerson_41 rfl ?_
      refine gw_astore (pc' := 44) (lv' := [(4, .ref (eA E (x1 + 4 + r10.toNatClampNeg))), (3, .int r10), (2, .int r2), (0, .ref (eA E 37)), (1, .ref (eA E x1))]) cx rfl (by decide) dX2_readPerson_42 rfl ?_
      refine gw_aload_n (pc' := 45) cx 3 rfl rfl dX2_readPerson_44 rfl ?_
      refine gw_ldcS (pc' := 47) 9 cx (by decide) ⟨rfl, rfl⟩ dX2_readPerson_45 rfl ?_
      refine gw_aload (pc' := 49) cx 0 rfl dX2_readPerson_47 rfl ?_
      refine gw_iconst (pc' := 50) (v := 2) cx ci_2 dX2_readPerson_49 rfl ?_
      obtain ⟨r19, s20, g18, h⟩ := ob2_some h
      refine gw_cV (pc' := 53) (av := [.ref (eK E 9), .ref (eA E (x1 + 4 + r10.toNatClampNeg)), .int 2]) (rest := []) cx (k_X2_readAttribute E (by decide) (psn_of hx1 i17) g18) at37 (by decide) lk_X2_84 dX2_readPerson_50 rfl (Nat.le_of_ble_eq_true rfl) rfl ?_
      show GW E fr _ 53 _ (.int r19 :: _) _
      rcases ite_some h with ⟨c21, h⟩ | ⟨c21, h⟩
      · refine gw_if_eq_t (pc' := 84) cx c21 dX2_readPerson_53 (by decide) ?_
        refine gw_iconst (pc' := 85) (v := 0) cx ci_0 dX2_readPerson_84 rfl ?_
        exact gw_zret cx tg (Or.inl rfl) (rt1 h) (rt2 h) dX2_readPerson_85
      · refine gw_if_eq_f (pc' := 56) cx c21 dX2_readPerson_53 ⟨84, by decide⟩ rfl ?_
        refine gw_aload_n (pc' := 57) cx 3 rfl rfl dX2_readPerson_56 rfl ?_
        refine gw_ldcS (pc' := 59) 10 cx (by decide) ⟨rfl, rfl⟩ dX2_readPerson_57 rfl ?_
        refine gw_aload (pc' := 61) cx 0 rfl dX2_readPerson_59 rfl ?_
        refine gw_iconst (pc' := 62) (v := 1) cx ci_1 dX2_readPerson_61 rfl ?_
        obtain ⟨r23, s24, g22, h⟩ := ob2_some h
        refine gw_cV (pc' := 65) (av := [.ref (eK E 10), .ref (eA E (x1 + 4 + r10.toNatClampNeg)), .int 1]) (rest := []) cx (k_X2_readAttribute E (by decide) (psn_of hx1 i17) g22) at37 (by decide) lk_X2_84 dX2_readPerson_62 rfl (Nat.le_of_ble_eq_true rfl) rfl ?_
        show GW E fr _ 65 _ (.int r23 :: _) _
        rcases ite_some h with ⟨c25, h⟩ | ⟨c25, h⟩
        · refine gw_if_eq_t (pc' := 84) cx c25 dX2_readPerson_65 (by decide) ?_
          refine gw_iconst (pc' := 85) (v := 0) cx ci_0 dX2_readPerson_84 rfl ?_
          exact gw_zret cx tg (Or.inl rfl) (rt1 h) (rt2 h) dX2_readPerson_85
        · refine gw_if_eq_f (pc' := 68) cx c25 dX2_readPerson_65 ⟨84, by decide⟩ rfl ?_
          refine gw_aload_n (pc' := 69) cx 3 rfl rfl dX2_readPerson_68 rfl ?_
          refine gw_ldcS (pc' := 71) 11 cx (by decide) ⟨rfl, rfl⟩ dX2_readPerson_69 rfl ?_
          refine gw_aload (pc' := 73) cx 0 rfl dX2_readPerson_71 rfl ?_
          refine gw_iconst (pc' := 74) (v := 3) cx ci_3 dX2_readPerson_73 rfl ?_
          obtain ⟨r27, s28, g26, h⟩ := ob2_some h
          refine gw_cV (pc' := 77) (av := [.ref (eK E 11), .ref (eA E (x1 + 4 + r10.toNatClampNeg)), .int 3]) (rest := []) cx (k_X2_readAttribute E (by decide) (psn_of hx1 i17) g26) at37 (by decide) lk_X2_84 dX2_readPerson_74 rfl (Nat.le_of_ble_eq_true rfl) rfl ?_
          show GW E fr _ 77 _ (.int r27 :: _) _
          rcases ite_some h with ⟨c29, h⟩ | ⟨c29, h⟩
          · refine gw_if_eq_t (pc' := 84) cx c29 dX2_readPerson_77 (by decide) ?_
            refine gw_iconst (pc' := 85) (v := 0) cx ci_0 dX2_readPerson_84 rfl ?_
            exact gw_zret cx tg (Or.inl rfl) (rt1 h) (rt2 h) dX2_readPerson_85
          · refine gw_if_eq_f (pc' := 80) cx c29 dX2_readPerson_77 ⟨84, by decide⟩ rfl ?_
            refine gw_iconst (pc' := 81) (v := 1) cx ci_1 dX2_readPerson_80 rfl ?_
            refine gw_goto (pc' := 85) cx dX2_readPerson_81 (by decide) ?_
            exact gw_zret cx tg (Or.inr rfl) (rt1 h) (rt2 h) dX2_readPerson_85
def f_X2_readItem (x1 : Nat) (σ : Sg) : Option (Int32 × Sg) :=
  ob0 (f_X2_isWord 0 σ) fun r2 =>
  if r2 = 0 then
    ob0 (f_X2_isWord 1 σ) fun r5 =>
    if r5 = 0 then
      ob2 (f_X2_readPerson x1 σ) fun r8 s9 =>
      chkb r8 <|
      some (r8, s9)
    else
      ob1 (f_X2_step σ) fun s12 =>
      ob2 (f_X2_readHints x1 s12) fun r14 s15 =>
      chkb r14 <|
      some (r14, s15)
  else
    ob1 (f_X2_step σ) fun s18 =>
    ob2 (f_X2_readSaying x1 s18) fun r20 s21 =>
    chkb r20 <|
    some (r20, s21)
theorem k_X2_readItem (E : Ev) {x1 : Nat} (hx1 : Cty x1) {σ : Sg} {r : Int32} {σ' : Sg} (h : f_X2_readItem x1 σ = some (r, σ')) : Con E mX2_readItem 7 [.ref (eA E 37), .ref (eA E x1)] σ (some (.int r)) σ' := by
  refine con_of (by decide) (Nat.le_of_ble_eq_true rfl) (fun fr cx tg => ?_)
  show GW E fr 2 0 [(0, .ref (eA E 37)), (1, .ref (eA E x1))] [] σ
  rw [f_X2_readItem] at h
  refine gw_aload_n (pc' := 1) cx 0 rfl rfl dX2_readItem_0 rfl ?_
  refine gw_ldcS (pc' := 3) 0 cx (by decide) ⟨rfl, rfl⟩ dX2_readItem_1 rfl ?_
  obtain ⟨r2, g1, h⟩ := ob0_some h
  refine gw_cV (pc' := 6) (av := [.ref (eK E 0)]) (rest := []) cx (k_X2_isWord E (by decide) g1) at37 (by decide) lk_X2_37 dX2_readItem_3 rfl (Nat.le_of_ble_eq_true rfl) rfl ?_
  show GW E fr _ 6 _ (.int r2 :: _) _
  rcases ite_some h with ⟨c3, h⟩ | ⟨c3, h⟩
  · refine gw_if_eq_t (pc' := 19) cx c3 dX2_readItem_6 (by decide) ?_
    refine gw_aload_n (pc' := 20) cx 0 rfl rfl dX2_readItem_19 rfl ?_
    refine gw_ldcS (pc' := 22) 1 cx (by decide) ⟨rfl, rfl⟩ dX2_readItem_20 rfl ?_
    obtain ⟨r5, g4, h⟩ := ob0_some h
    refine gw_cV (pc' := 25) (av := [.ref (eK E 1)]) (rest := []) cx (k_X2_isWord E (by decide) g4) at37 (by decide) lk_X2_37 dX2_readItem_22 rfl (Nat.le_of_ble_eq_true rfl) rfl ?_
    show GW E fr _ 25 _ (.int r5 :: _) _
    rcases ite_some h with ⟨c6, h⟩ | ⟨c6, h⟩
    · refine gw_if_eq_t (pc' := 38) cx c6 dX2_readItem_25 (by decide) ?_
      refine gw_aload_n (pc' := 39) cx 0 rfl rfl dX2_readItem_38 rfl ?_
      refine gw_aload_n (pc' := 40) cx 1 rfl rfl dX2_readItem_39 rfl ?_
      obtain ⟨r8, s9, g7, h⟩ := ob2_some h
      refine gw_cV (pc' := 43) (av := [.ref (eA E x1)]) (rest := []) cx (k_X2_readPerson E hx1 g7) at37 (by decide) lk_X2_49 dX2_readItem_40 rfl (Nat.le_of_ble_eq_true rfl) rfl ?_
      show GW E fr _ 43 _ (.int r8 :: _) _
      obtain ⟨z10, h⟩ := chkb_some h
      exact gw_zret cx tg z10 (rt1 h) (rt2 h) dX2_readItem_43
    · refine gw_if_eq_f (pc' := 28) cx c6 dX2_readItem_25 ⟨38, by decide⟩ rfl ?_
      refine gw_aload_n (pc' := 29) cx 0 rfl rfl dX2_readItem_28 rfl ?_
      obtain ⟨s12, g11, h⟩ := ob1_some h
      refine gw_cV (pc' := 32) (av := []) (rest := []) cx (k_X2_step E g11) at37 (by decide) lk_X2_22 dX2_readItem_29 rfl (Nat.le_of_ble_eq_true rfl) rfl ?_
      show GW E fr _ 32 _ [] _
      refine gw_aload_n (pc' := 33) cx 0 rfl rfl dX2_readItem_32 rfl ?_
      refine gw_aload_n (pc' := 34) cx 1 rfl rfl dX2_readItem_33 rfl ?_
      obtain ⟨r14, s15, g13, h⟩ := ob2_some h
      refine gw_cV (pc' := 37) (av := [.ref (eA E x1)]) (rest := []) cx (k_X2_readHints E hx1 g13) at37 (by decide) lk_X2_46 dX2_readItem_34 rfl (Nat.le_of_ble_eq_true rfl) rfl ?_
      show GW E fr _ 37 _ (.int r14 :: _) _
      obtain ⟨z16, h⟩ := chkb_some h
      exact gw_zret cx tg z16 (rt1 h) (rt2 h) dX2_readItem_37
  · refine gw_if_eq_f (pc' := 9) cx c3 dX2_readItem_6 ⟨19, by decide⟩ rfl ?_
    refine gw_aload_n (pc' := 10) cx 0 rfl rfl dX2_readItem_9 rfl ?_
    obtain ⟨s18, g17, h⟩ := ob1_some h
    refine gw_cV (pc' := 13) (av := []) (rest := []) cx (k_X2_step E g17) at37 (by decide) lk_X2_22 dX2_readItem_10 rfl (Nat.le_of_ble_eq_true rfl) rfl ?_
    show GW E fr _ 13 _ [] _
    refine gw_aload_n (pc' := 14) cx 0 rfl rfl dX2_readItem_13 rfl ?_
    refine gw_aload_n (pc' := 15) cx 1 rfl rfl dX2_readItem_14 rfl ?_
    obtain ⟨r20, s21, g19, h⟩ := ob2_some h
    refine gw_cV (pc' := 18) (av := [.ref (eA E x1)]) (rest := []) cx (k_X2_readSaying E hx1 g19) at37 (by decide) lk_X2_41 dX2_readItem_15 rfl (Nat.le_of_ble_eq_true rfl) rfl ?_
    show GW E fr _ 18 _ (.int r20 :: _) _
    obtain ⟨z22, h⟩ := chkb_some h
    exact gw_zret cx tg z22 (rt1 h) (rt2 h) dX2_readItem_18
def f_X2_readInto_L11 (ra1 : Nat) : Nat → Int32 → Sg → Option (Int32 × Sg)
  | 0, _, _ => none
  | n + 1, y2, σ =>
    if 120 < y2 then
      some (((-1) - (σ 37 3)), σ)
    else
      ob2 (f_X2_readItem ra1 σ) fun r7 s8 =>
      if r7 = 0 then
        some (((-1) - (s8 37 3)), s8)
      else
        if (s8 37 2) = 0 then
          some (y2, s8)
        else
          if (s8 37 2) = 3 then
            ob1 (f_X2_step s8) fun s13 =>
            f_X2_readInto_L11 ra1 n (y2 + 1) s13
          else
            some (((-1) - (s8 37 3)), s8)
theorem w_X2_readInto_L11 {E : Ev} {fr : Fr} {r : Int32} {σ' : Sg} (cx : Cx E mX2_readInto 8 fr) (tg : Tg E fr (some .int) (some (.int r)) σ') (ra1 : Nat) (hra1 : Cty ra1) : ∀ (n : Nat) (y2 : Int32) (σ : Sg), f_X2_readInto_L11 ra1 n y2 σ = some (r, σ') → GW E fr 3 11 [(0, .ref (eA E 37)), (1, .ref (eA E ra1)), (2, .int y2)] [] σ := by
  intro n
  induction n with
  | zero => intro y2 σ h; cases (show (none : Option (Int32 × Sg)) = _ from h)
  | succ n ih =>
    intro y2 σ h
    rw [f_X2_readInto_L11] at h
    refine gw_iload_n (pc' := 12) cx 2 rfl rfl dX2_readInto_11 rfl ?_
    refine gw_bipush (pc' := 14) (v := 120) cx cb_120 dX2_readInto_12 rfl ?_
    rcases ite_some h with ⟨c5, h⟩ | ⟨c5, h⟩
    · refine gw_ic_gt_t (pc' := 58) cx c5 dX2_readInto_14 (by decide) ?_
      refine gw_iconst (pc' := 59) (v := (-1)) cx ci_m1 dX2_readInto_58 rfl ?_
      refine gw_aload_n (pc' := 60) cx 0 rfl rfl dX2_readInto_59 rfl ?_
      refine gw_getI (pc' := 63) cx at37 rfl fl_X2_32 dX2_readInto_60 rfl ?_
      refine gw_isub (pc' := 64) cx dX2_readInto_63 rfl ?_
      exact gw_iret cx tg (rt1 h) (rt2 h) dX2_readInto_64
    · refine gw_ic_gt_f (pc' := 17) cx c5 dX2_readInto_14 ⟨58, by decide⟩ rfl ?_
      refine gw_aload_n (pc' := 18) cx 0 rfl rfl dX2_readInto_17 rfl ?_
      refine gw_aload_n (pc' := 19) cx 1 rfl rfl dX2_readInto_18 rfl ?_
      obtain ⟨r7, s8, g6, h⟩ := ob2_some h
      refine gw_cV (pc' := 22) (av := [.ref (eA E ra1)]) (rest := []) cx (k_X2_readItem E hra1 g6) at37 (by decide) lk_X2_25 dX2_readInto_19 rfl (Nat.le_of_ble_eq_true rfl) rfl ?_
      show GW E fr _ 22 _ (.int r7 :: _) _
      rcases ite_some h with ⟨c9, h⟩ | ⟨c9, h⟩
      · refine gw_if_ne_f (pc' := 25) cx c9 dX2_readInto_22 ⟨28, by decide⟩ rfl ?_
        refine gw_goto (pc' := 58) cx dX2_readInto_25 (by decide) ?_
        refine gw_iconst (pc' := 59) (v := (-1)) cx ci_m1 dX2_readInto_58 rfl ?_
        refine gw_aload_n (pc' := 60) cx 0 rfl rfl dX2_readInto_59 rfl ?_
        refine gw_getI (pc' := 63) cx at37 rfl fl_X2_32 dX2_readInto_60 rfl ?_
        refine gw_isub (pc' := 64) cx dX2_readInto_63 rfl ?_
        exact gw_iret cx tg (rt1 h) (rt2 h) dX2_readInto_64
      · refine gw_if_ne_t (pc' := 28) cx c9 dX2_readInto_22 (by decide) ?_
        refine gw_aload_n (pc' := 29) cx 0 rfl rfl dX2_readInto_28 rfl ?_
        refine gw_getI (pc' := 32) cx at37 rfl fl_X2_29 dX2_readInto_29 rfl ?_
        rcases ite_some h with ⟨c10, h⟩ | ⟨c10, h⟩
        · refine gw_if_ne_f (pc' := 35) cx c10 dX2_readInto_32 ⟨37, by decide⟩ rfl ?_
          refine gw_iload_n (pc' := 36) cx 2 rfl rfl dX2_readInto_35 rfl ?_
          exact gw_iret cx tg (rt1 h) (rt2 h) dX2_readInto_36
        · refine gw_if_ne_t (pc' := 37) cx c10 dX2_readInto_32 (by decide) ?_
          refine gw_aload_n (pc' := 38) cx 0 rfl rfl dX2_readInto_37 rfl ?_
          refine gw_getI (pc' := 41) cx at37 rfl fl_X2_29 dX2_readInto_38 rfl ?_
          refine gw_iconst (pc' := 42) (v := 3) cx ci_3 dX2_readInto_41 rfl ?_
          rcases ite_some h with ⟨c11, h⟩ | ⟨c11, h⟩
          · refine gw_ic_eq_t (pc' := 48) cx c11 dX2_readInto_42 (by decide) ?_
            refine gw_aload_n (pc' := 49) cx 0 rfl rfl dX2_readInto_48 rfl ?_
            obtain ⟨s13, g12, h⟩ := ob1_some h
            refine gw_cV (pc' := 52) (av := []) (rest := []) cx (k_X2_step E g12) at37 (by decide) lk_X2_22 dX2_readInto_49 rfl (Nat.le_of_ble_eq_true rfl) rfl ?_
            show GW E fr _ 52 _ [] _
            refine gw_iinc (pc' := 55) (v := (y2 + 1)) (lv' := [(2, .int (y2 + 1)), (0, .ref (eA E 37)), (1, .ref (eA E ra1))]) cx 2 rfl rfl rfl (by decide) dX2_readInto_52 rfl ?_
            refine gw_goto (pc' := 11) cx dX2_readInto_55 (by decide) ?_
            refine gw_sub [1, 2, 0] (lv' := [(0, .ref (eA E 37)), (1, .ref (eA E ra1)), (2, .int (y2 + 1))]) rfl ?_
            exact ih (y2 + 1) s13 h
          · refine gw_ic_eq_f (pc' := 45) cx c11 dX2_readInto_42 ⟨48, by decide⟩ rfl ?_
            refine gw_goto (pc' := 58) cx dX2_readInto_45 (by decide) ?_
            refine gw_iconst (pc' := 59) (v := (-1)) cx ci_m1 dX2_readInto_58 rfl ?_
            refine gw_aload_n (pc' := 60) cx 0 rfl rfl dX2_readInto_59 rfl ?_
            refine gw_getI (pc' := 63) cx at37 rfl fl_X2_32 dX2_readInto_60 rfl ?_
            refine gw_isub (pc' := 64) cx dX2_readInto_63 rfl ?_
            exact gw_iret cx tg (rt1 h) (rt2 h) dX2_readInto_64
def f_X2_readInto (x1 : Nat) (σ : Sg) : Option (Int32 × Sg) :=
  lt (up2 σ 37 4 0) fun s1 =>
  ob1 (f_X2_step s1) fun s4 =>
  f_X2_readInto_L11 x1 FU 1 s4
theorem k_X2_readInto (E : Ev) {x1 : Nat} (hx1 : Cty x1) {σ : Sg} {r : Int32} {σ' : Sg} (h : f_X2_readInto x1 σ = some (r, σ')) : Con E mX2_readInto 8 [.ref (eA E 37), .ref (eA E x1)] σ (some (.int r)) σ' := by
  refine con_of (by decide) (Nat.le_of_ble_eq_true rfl) (fun fr cx tg => ?_)
  show GW E fr 3 0 [(0, .ref (eA E 37)), (1, .ref (eA E x1))] [] σ
  rw [f_X2_readInto] at h
  refine gw_aload_n (pc' := 1) cx 0 rfl rfl dX2_readInto_0 rfl ?_
  refine gw_iconst (pc' := 2) (v := 0) cx ci_0 dX2_readInto_1 rfl ?_
  obtain ⟨s1, e2, h⟩ := lt_some h
  refine gw_put (pc' := 5) cx at37 rfl fp_X2_19 ⟨rfl, rfl⟩ dX2_readInto_2 rfl e2 ?_
  refine gw_aload_n (pc' := 6) cx 0 rfl rfl dX2_readInto_5 rfl ?_
  obtain ⟨s4, g3, h⟩ := ob1_some h
  refine gw_cV (pc' := 9) (av := []) (rest := []) cx (k_X2_step E g3) at37 (by decide) lk_X2_22 dX2_readInto_6 rfl (Nat.le_of_ble_eq_true rfl) rfl ?_
  show GW E fr _ 9 _ [] _
  refine gw_iconst (pc' := 10) (v := 1) cx ci_1 dX2_readInto_9 rfl ?_
  refine gw_istore_n (pc' := 11) (lv' := [(2, .int 1), (0, .ref (eA E 37)), (1, .ref (eA E x1))]) cx rfl rfl (by decide) dX2_readInto_10 rfl ?_
  refine gw_sub [1, 2, 0] (lv' := [(0, .ref (eA E 37)), (1, .ref (eA E x1)), (2, .int 1)]) rfl ?_
  exact w_X2_readInto_L11 cx tg x1 hx1 FU 1 s4 h
