def f_X5_isIn (x0 : Int64) (x2 : Int64) (x4 : Int64) (σ : Sg) : Option (Int32) :=
  if (lg_cmp x0 x2) < 0 then
    some 0
  else
    if 0 < (lg_cmp x0 x4) then
      some 0
    else
      some 1
theorem k_X5_isIn (E : Ev) {x0 : Int64} {x2 : Int64} {x4 : Int64} {σ : Sg} {r : Int32} (h : f_X5_isIn x0 x2 x4 σ = some r) : Con E mX5_isIn 0 [.long x0, .long x2, .long x4] σ (some (.int r)) σ := by
  refine con_of (by decide) (Nat.le_of_ble_eq_true rfl) (fun fr cx tg => ?_)
  show GW E fr 6 0 [(0, .long x0), (2, .long x2), (4, .long x4)] [] σ
  rw [f_X5_isIn] at h
  refine gw_lload_n (pc' := 1) cx 0 rfl rfl dX5_isIn_0 rfl ?_
  refine gw_lload_n (pc' := 2) cx 1 rfl rfl dX5_isIn_1 rfl ?_
  refine gw_lcmp (pc' := 3) cx dX5_isIn_2 rfl ?_
  rcases ite_some h with ⟨c1, h⟩ | ⟨c1, h⟩
  · refine gw_if_lt_t (pc' := 17) cx c1 dX5_isIn_3 (by decide) ?_
    refine gw_iconst (pc' := 18) (v := 0) cx ci_0 dX5_isIn_17 rfl ?_
    exact gw_zret cx tg (Or.inl rfl) (rt0 h) rfl dX5_isIn_18
  · refine gw_if_lt_f (pc' := 6) cx c1 dX5_isIn_3 ⟨17, by decide⟩ rfl ?_
    refine gw_lload_n (pc' := 7) cx 0 rfl rfl dX5_isIn_6 rfl ?_
    refine gw_lload (pc' := 9) cx 2 rfl dX5_isIn_7 rfl ?_
    refine gw_lcmp (pc' := 10) cx dX5_isIn_9 rfl ?_
    rcases ite_some h with ⟨c2, h⟩ | ⟨c2, h⟩
    · refine gw_if_gt_t (pc' := 17) cx c2 dX5_isIn_10 (by decide) ?_
      refine gw_iconst (pc' := 18) (v := 0) cx ci_0 dX5_isIn_17 rfl ?_
      exact gw_zret cx tg (Or.inl rfl) (rt0 h) rfl dX5_isIn_18
    · refine gw_if_gt_f (pc' := 13) cx c2 dX5_isIn_10 ⟨17, by decide⟩ rfl ?_
      refine gw_iconst (pc' := 14) (v := 1) cx ci_1 dX5_isIn_13 rfl ?_
      refine gw_goto (pc' := 18) cx dX5_isIn_14 (by decide) ?_
      exact gw_zret cx tg (Or.inr rfl) (rt0 h) rfl dX5_isIn_18
def f_X5_finds (x1 : Int32) (σ : Sg) : Option (Int32 × Sg) :=
  lt (up2 σ 54 0 ((σ 54 0) + 1)) fun s1 =>
  chk (((-1000001) - x1) + 1) 8 <|
  lt (up2 s1 54 (((-1000001) - x1) + 1).toNatClampNeg ((s1 54 (((-1000001) - x1) + 1).toNatClampNeg) + 1)) fun s4 =>
  some (x1, s4)
theorem k_X5_finds (E : Ev) {x1 : Int32} {σ : Sg} {r : Int32} {σ' : Sg} (h : f_X5_finds x1 σ = some (r, σ')) : Con E mX5_finds 0 [.ref (eA E 49), .int x1] σ (some (.int r)) σ' := by
  refine con_of (by decide) (Nat.le_of_ble_eq_true rfl) (fun fr cx tg => ?_)
  show GW E fr 2 0 [(0, .ref (eA E 49)), (1, .int x1)] [] σ
  rw [f_X5_finds] at h
  refine gw_aload_n (pc' := 1) cx 0 rfl rfl dX5_finds_0 rfl ?_
  refine gw_getR (pc' := 4) cx at49 rfl fl_X5_22 dX5_finds_1 rfl ?_
  refine gw_iconst (pc' := 5) (v := 0) cx ci_0 dX5_finds_4 rfl ?_
  refine gw_dup2 (pc' := 6) cx rfl rfl dX5_finds_5 rfl ?_
  refine gw_iald (pc' := 7) cx at54 (vpc (by decide)) cn_0 dX5_finds_6 rfl ?_
  refine gw_iconst (pc' := 8) (v := 1) cx ci_1 dX5_finds_7 rfl ?_
  refine gw_iadd (pc' := 9) cx dX5_finds_8 rfl ?_
  obtain ⟨s1, e2, h⟩ := lt_some h
  refine gw_iast (pc' := 10) cx at54 (vpc (by decide)) cn_0 dX5_finds_9 rfl e2 ?_
  refine gw_aload_n (pc' := 11) cx 0 rfl rfl dX5_finds_10 rfl ?_
  refine gw_getR (pc' := 14) cx at49 rfl fl_X5_22 dX5_finds_11 rfl ?_
  refine gw_ldc (pc' := 16) (v := (-1000001)) cx ct_X5_37 dX5_finds_14 rfl ?_
  refine gw_iload_n (pc' := 17) cx 1 rfl rfl dX5_finds_16 rfl ?_
  refine gw_isub (pc' := 18) cx dX5_finds_17 rfl ?_
  refine gw_iconst (pc' := 19) (v := 1) cx ci_1 dX5_finds_18 rfl ?_
  refine gw_iadd (pc' := 20) cx dX5_finds_19 rfl ?_
  refine gw_dup2 (pc' := 21) cx rfl rfl dX5_finds_20 rfl ?_
  obtain ⟨i3, h⟩ := chk_some h
  refine gw_iald (pc' := 22) cx at54 i3 rfl dX5_finds_21 rfl ?_
  refine gw_iconst (pc' := 23) (v := 1) cx ci_1 dX5_finds_22 rfl ?_
  refine gw_iadd (pc' := 24) cx dX5_finds_23 rfl ?_
  obtain ⟨s4, e5, h⟩ := lt_some h
  refine gw_iast (pc' := 25) cx at54 i3 rfl dX5_finds_24 rfl e5 ?_
  refine gw_iload_n (pc' := 26) cx 1 rfl rfl dX5_finds_25 rfl ?_
  exact gw_iret cx tg (rt1 h) (rt2 h) dX5_finds_26
def f_X5_becomes (x1 : Int32) (x2 : Int32) (σ : Sg) : Option (Int32 × Sg) :=
  chk x1 60 <|
  lt (up2 σ 50 x1.toNatClampNeg x2) fun s2 =>
  some ((σ 50 x1.toNatClampNeg), s2)
theorem k_X5_becomes (E : Ev) {x1 : Int32} {x2 : Int32} {σ : Sg} {r : Int32} {σ' : Sg} (h : f_X5_becomes x1 x2 σ = some (r, σ')) : Con E mX5_becomes 0 [.ref (eA E 49), .int x1, .int x2] σ (some (.int r)) σ' := by
  refine con_of (by decide) (Nat.le_of_ble_eq_true rfl) (fun fr cx tg => ?_)
  show GW E fr 4 0 [(0, .ref (eA E 49)), (1, .int x1), (2, .int x2)] [] σ
  rw [f_X5_becomes] at h
  refine gw_aload_n (pc' := 1) cx 0 rfl rfl dX5_becomes_0 rfl ?_
  refine gw_getR (pc' := 4) cx at49 rfl fl_X5_7 dX5_becomes_1 rfl ?_
  refine gw_iload_n (pc' := 5) cx 1 rfl rfl dX5_becomes_4 rfl ?_
  obtain ⟨i1, h⟩ := chk_some h
  refine gw_iald (pc' := 6) cx at50 i1 rfl dX5_becomes_5 rfl ?_
  refine gw_istore_n (pc' := 7) (lv' := [(3, .int (σ 50 x1.toNatClampNeg)), (0, .ref (eA E 49)), (1, .int x1), (2, .int x2)]) cx rfl rfl (by decide) dX5_becomes_6 rfl ?_
  refine gw_aload_n (pc' := 8) cx 1 rfl rfl dX5_becomes_7 rfl ?_
  refine gw_getR (pc' := 11) cx at49 rfl fl_X5_7 dX5_becomes_8 rfl ?_
  refine gw_iload_n (pc' := 12) cx 2 rfl rfl dX5_becomes_11 rfl ?_
  refine gw_iload_n (pc' := 13) cx 3 rfl rfl dX5_becomes_12 rfl ?_
  obtain ⟨s2, e3, h⟩ := lt_some h
  refine gw_iast (pc' := 14) cx at50 i1 rfl dX5_becomes_13 rfl e3 ?_
  refine gw_iload_n (pc' := 15) cx 0 rfl rfl dX5_becomes_14 rfl ?_
  exact gw_iret cx tg (rt1 h) (rt2 h) dX5_becomes_15
def f_X5_copyRow_L2 (ra0 : Nat) (ra1 : Nat) : Nat → Int32 → Sg → Option (Sg)
  | 0, _, _ => none
  | n + 1, y2, σ =>
    if 60 ≤ y2 then
      some σ
    else
      chk y2 60 <|
      lt (up2 σ ra1 y2.toNatClampNeg (σ ra0 y2.toNatClampNeg)) fun s3 =>
      f_X5_copyRow_L2 ra0 ra1 n (y2 + 1) s3
theorem w_X5_copyRow_L2 {E : Ev} {fr : Fr} {σ' : Sg} (cx : Cx E mX5_copyRow 0 fr) (tg : Tg E fr none none σ') (ra0 : Nat) (ra1 : Nat) (hra0 : At ra0 (.inr (60, none))) (hra1 : At ra1 (.inr (60, none))) : ∀ (n : Nat) (y2 : Int32) (σ : Sg), f_X5_copyRow_L2 ra0 ra1 n y2 σ = some σ' → GW E fr 3 2 [(0, .ref (eA E ra0)), (1, .ref (eA E ra1)), (2, .int y2)] [] σ := by
  intro n
  induction n with
  | zero => intro y2 σ h; cases (show (none : Option (Sg)) = _ from h)
  | succ n ih =>
    intro y2 σ h
    rw [f_X5_copyRow_L2] at h
    refine gw_iload_n (pc' := 3) cx 2 rfl rfl dX5_copyRow_2 rfl ?_
    refine gw_bipush (pc' := 5) (v := 60) cx cb_60 dX5_copyRow_3 rfl ?_
    rcases ite_some h with ⟨c1, h⟩ | ⟨c1, h⟩
    · refine gw_ic_ge_t (pc' := 20) cx c1 dX5_copyRow_5 (by decide) ?_
      exact gw_vret cx tg rfl (rtV h) dX5_copyRow_20
    · refine gw_ic_ge_f (pc' := 8) cx c1 dX5_copyRow_5 ⟨20, by decide⟩ rfl ?_
      refine gw_aload_n (pc' := 9) cx 1 rfl rfl dX5_copyRow_8 rfl ?_
      refine gw_iload_n (pc' := 10) cx 2 rfl rfl dX5_copyRow_9 rfl ?_
      refine gw_aload_n (pc' := 11) cx 0 rfl rfl dX5_copyRow_10 rfl ?_
      refine gw_iload_n (pc' := 12) cx 2 rfl rfl dX5_copyRow_11 rfl ?_
      obtain ⟨i2, h⟩ := chk_some h
      refine gw_iald (pc' := 13) cx hra0 i2 rfl dX5_copyRow_12 rfl ?_
      obtain ⟨s3, e4, h⟩ := lt_some h
      refine gw_iast (pc' := 14) cx hra1 i2 rfl dX5_copyRow_13 rfl e4 ?_
      refine gw_iinc (pc' := 17) (v := (y2 + 1)) (lv' := [(2, .int (y2 + 1)), (0, .ref (eA E ra0)), (1, .ref (eA E ra1))]) cx 2 rfl rfl rfl (by decide) dX5_copyRow_14 rfl ?_
      refine gw_goto (pc' := 2) cx dX5_copyRow_17 (by decide) ?_
      refine gw_sub [1, 2, 0] (lv' := [(0, .ref (eA E ra0)), (1, .ref (eA E ra1)), (2, .int (y2 + 1))]) rfl ?_
      exact ih (y2 + 1) s3 h
def f_X5_copyRow (x0 : Nat) (x1 : Nat) (σ : Sg) : Option (Sg) :=
  f_X5_copyRow_L2 x0 x1 FU 0 σ
theorem k_X5_copyRow (E : Ev) {x0 : Nat} {x1 : Nat} (hx0 : At x0 (.inr (60, none))) (hx1 : At x1 (.inr (60, none))) {σ : Sg} {σ' : Sg} (h : f_X5_copyRow x0 x1 σ = some σ') : Con E mX5_copyRow 0 [.ref (eA E x0), .ref (eA E x1)] σ none σ' := by
  refine con_of (by decide) (Nat.le_of_ble_eq_true rfl) (fun fr cx tg => ?_)
  show GW E fr 3 0 [(0, .ref (eA E x0)), (1, .ref (eA E x1))] [] σ
  rw [f_X5_copyRow] at h
  refine gw_iconst (pc' := 1) (v := 0) cx ci_0 dX5_copyRow_0 rfl ?_
  refine gw_istore_n (pc' := 2) (lv' := [(2, .int 0), (0, .ref (eA E x0)), (1, .ref (eA E x1))]) cx rfl rfl (by decide) dX5_copyRow_1 rfl ?_
  refine gw_sub [1, 2, 0] (lv' := [(0, .ref (eA E x0)), (1, .ref (eA E x1)), (2, .int 0)]) rfl ?_
  exact w_X5_copyRow_L2 cx tg x0 x1 hx0 hx1 FU 0 σ h
def f_X5_isPlace (x0 : Int32) (σ : Sg) : Option (Int32) :=
  if x0 < 0 then
    some 0
  else
    if 6 ≤ x0 then
      some 0
    else
      some 1
theorem k_X5_isPlace (E : Ev) {x0 : Int32} {σ : Sg} {r : Int32} (h : f_X5_isPlace x0 σ = some r) : Con E mX5_isPlace 0 [.int x0] σ (some (.int r)) σ := by
  refine con_of (by decide) (Nat.le_of_ble_eq_true rfl) (fun fr cx tg => ?_)
  show GW E fr 1 0 [(0, .int x0)] [] σ
  rw [f_X5_isPlace] at h
  refine gw_iload_n (pc' := 1) cx 0 rfl rfl dX5_isPlace_0 rfl ?_
  rcases ite_some h with ⟨c1, h⟩ | ⟨c1, h⟩
  · refine gw_if_lt_t (pc' := 14) cx c1 dX5_isPlace_1 (by decide) ?_
    refine gw_iconst (pc' := 15) (v := 0) cx ci_0 dX5_isPlace_14 rfl ?_
    exact gw_zret cx tg (Or.inl rfl) (rt0 h) rfl dX5_isPlace_15
  · refine gw_if_lt_f (pc' := 4) cx c1 dX5_isPlace_1 ⟨14, by decide⟩ rfl ?_
    refine gw_iload_n (pc' := 5) cx 0 rfl rfl dX5_isPlace_4 rfl ?_
    refine gw_bipush (pc' := 7) (v := 6) cx cb_6 dX5_isPlace_5 rfl ?_
    rcases ite_some h with ⟨c2, h⟩ | ⟨c2, h⟩
    · refine gw_ic_ge_t (pc' := 14) cx c2 dX5_isPlace_7 (by decide) ?_
      refine gw_iconst (pc' := 15) (v := 0) cx ci_0 dX5_isPlace_14 rfl ?_
      exact gw_zret cx tg (Or.inl rfl) (rt0 h) rfl dX5_isPlace_15
    · refine gw_ic_ge_f (pc' := 10) cx c2 dX5_isPlace_7 ⟨14, by decide⟩ rfl ?_
      refine gw_iconst (pc' := 11) (v := 1) cx ci_1 dX5_isPlace_10 rfl ?_
      refine gw_goto (pc' := 15) cx dX5_isPlace_11 (by decide) ?_
      exact gw_zret cx tg (Or.inr rfl) (rt0 h) rfl dX5_isPlace_15
def f_X5_isOne (x1 : Int32) (σ : Sg) : Option (Int32) :=
  if x1 < 0 then
    some 0
  else
    if (σ 50 0) ≤ x1 then
      some 0
    else
      some 1
theorem k_X5_isOne (E : Ev) {x1 : Int32} {σ : Sg} {r : Int32} (h : f_X5_isOne x1 σ = some r) : Con E mX5_isOne 0 [.ref (eA E 49), .int x1] σ (some (.int r)) σ := by
  refine con_of (by decide) (Nat.le_of_ble_eq_true rfl) (fun fr cx tg => ?_)
  show GW E fr 2 0 [(0, .ref (eA E 49)), (1, .int x1)] [] σ
  rw [f_X5_isOne] at h
  refine gw_iload_n (pc' := 1) cx 1 rfl rfl dX5_isOne_0 rfl ?_
  rcases ite_some h with ⟨c1, h⟩ | ⟨c1, h⟩
  · refine gw_if_lt_t (pc' := 18) cx c1 dX5_isOne_1 (by decide) ?_
    refine gw_iconst (pc' := 19) (v := 0) cx ci_0 dX5_isOne_18 rfl ?_
    exact gw_zret cx tg (Or.inl rfl) (rt0 h) rfl dX5_isOne_19
  · refine gw_if_lt_f (pc' := 4) cx c1 dX5_isOne_1 ⟨18, by decide⟩ rfl ?_
    refine gw_iload_n (pc' := 5) cx 1 rfl rfl dX5_isOne_4 rfl ?_
    refine gw_aload_n (pc' := 6) cx 0 rfl rfl dX5_isOne_5 rfl ?_
    refine gw_getR (pc' := 9) cx at49 rfl fl_X5_7 dX5_isOne_6 rfl ?_
    refine gw_iconst (pc' := 10) (v := 0) cx ci_0 dX5_isOne_9 rfl ?_
    refine gw_iald (pc' := 11) cx at50 (vpc (by decide)) cn_0 dX5_isOne_10 rfl ?_
    rcases ite_some h with ⟨c2, h⟩ | ⟨c2, h⟩
    · refine gw_ic_ge_t (pc' := 18) cx c2 dX5_isOne_11 (by decide) ?_
      refine gw_iconst (pc' := 19) (v := 0) cx ci_0 dX5_isOne_18 rfl ?_
      exact gw_zret cx tg (Or.inl rfl) (rt0 h) rfl dX5_isOne_19
    · refine gw_ic_ge_f (pc' := 14) cx c2 dX5_isOne_11 ⟨18, by decide⟩ rfl ?_
      refine gw_iconst (pc' := 15) (v := 1) cx ci_1 dX5_isOne_14 rfl ?_
      refine gw_goto (pc' := 19) cx dX5_isOne_15 (by decide) ?_
      exact gw_zret cx tg (Or.inr rfl) (rt0 h) rfl dX5_isOne_19
def f_X5_at (x0 : Int32) (x1 : Int32) (σ : Sg) : Option (Int32) :=
  some ((10 + (5 * x0)) + x1)
theorem k_X5_at (E : Ev) {x0 : Int32} {x1 : Int32} {σ : Sg} {r : Int32} (h : f_X5_at x0 x1 σ = some r) : Con E mX5_at 0 [.int x0, .int x1] σ (some (.int r)) σ := by
  refine con_of (by decide) (Nat.le_of_ble_eq_true rfl) (fun fr cx tg => ?_)
  show GW E fr 2 0 [(0, .int x0), (1, .int x1)] [] σ
  rw [f_X5_at] at h
  refine gw_bipush (pc' := 2) (v := 10) cx cb_10 dX5_at_0 rfl ?_
  refine gw_iconst (pc' := 3) (v := 5) cx ci_5 dX5_at_2 rfl ?_
  refine gw_iload_n (pc' := 4) cx 0 rfl rfl dX5_at_3 rfl ?_
  refine gw_imul (pc' := 5) cx dX5_at_4 rfl ?_
  refine gw_iadd (pc' := 6) cx dX5_at_5 rfl ?_
  refine gw_iload_n (pc' := 7) cx 1 rfl rfl dX5_at_6 rfl ?_
  refine gw_iadd (pc' := 8) cx dX5_at_7 rfl ?_
  exact gw_iret cx tg (rt0 h) rfl dX5_at_8
def f_X5_its (x1 : Int32) (x2 : Int32) (σ : Sg) : Option (Int32) :=
  chk ((10 + (5 * x1)) + x2) 60 <|
  some (σ 50 ((10 + (5 * x1)) + x2).toNatClampNeg)
theorem k_X5_its (E : Ev) {x1 : Int32} {x2 : Int32} {σ : Sg} {r : Int32} (h : f_X5_its x1 x2 σ = some r) : Con E mX5_its 0 [.ref (eA E 49), .int x1, .int x2] σ (some (.int r)) σ := by
  refine con_of (by decide) (Nat.le_of_ble_eq_true rfl) (fun fr cx tg => ?_)
  show GW E fr 3 0 [(0, .ref (eA E 49)), (1, .int x1), (2, .int x2)] [] σ
  rw [f_X5_its] at h
  refine gw_aload_n (pc' := 1) cx 0 rfl rfl dX5_its_0 rfl ?_
  refine gw_getR (pc' := 4) cx at49 rfl fl_X5_7 dX5_its_1 rfl ?_
  refine gw_bipush (pc' := 6) (v := 10) cx cb_10 dX5_its_4 rfl ?_
  refine gw_iconst (pc' := 7) (v := 5) cx ci_5 dX5_its_6 rfl ?_
  refine gw_iload_n (pc' := 8) cx 1 rfl rfl dX5_its_7 rfl ?_
  refine gw_imul (pc' := 9) cx dX5_its_8 rfl ?_
  refine gw_iadd (pc' := 10) cx dX5_its_9 rfl ?_
  refine gw_iload_n (pc' := 11) cx 2 rfl rfl dX5_its_10 rfl ?_
  refine gw_iadd (pc' := 12) cx dX5_its_11 rfl ?_
  obtain ⟨i1, h⟩ := chk_some h
  refine gw_iald (pc' := 13) cx at50 i1 rfl dX5_its_12 rfl ?_
  exact gw_iret cx tg (rt0 h) rfl dX5_its_13
def f_X5_least (x0 : Int32) (x1 : Int32) (σ : Sg) : Option (Int32) :=
  if x1 ≤ x0 then
    some x1
  else
    some x0
theorem k_X5_least (E : Ev) {x0 : Int32} {x1 : Int32} {σ : Sg} {r : Int32} (h : f_X5_least x0 x1 σ = some r) : Con E mX5_least 0 [.int x0, .int x1] σ (some (.int r)) σ := by
  refine con_of (by decide) (Nat.le_of_ble_eq_true rfl) (fun fr cx tg => ?_)
  show GW E fr 2 0 [(0, .int x0), (1, .int x1)] [] σ
  rw [f_X5_least] at h
  refine gw_iload_n (pc' := 1) cx 0 rfl rfl dX5_least_0 rfl ?_
  refine gw_iload_n (pc' := 2) cx 1 rfl rfl dX5_least_1 rfl ?_
  rcases ite_some h with ⟨c1, h⟩ | ⟨c1, h⟩
  · refine gw_ic_ge_t (pc' := 9) cx c1 dX5_least_2 (by decide) ?_
    refine gw_iload_n (pc' := 10) cx 1 rfl rfl dX5_least_9 rfl ?_
    exact gw_iret cx tg (rt0 h) rfl dX5_least_10
  · refine gw_ic_ge_f (pc' := 5) cx c1 dX5_least_2 ⟨9, by decide⟩ rfl ?_
    refine gw_iload_n (pc' := 6) cx 0 rfl rfl dX5_least_5 rfl ?_
    refine gw_goto (pc' := 10) cx dX5_least_6 (by decide) ?_
    exact gw_iret cx tg (rt0 h) rfl dX5_least_10
def f_X5_greatest (x0 : Int32) (x1 : Int32) (σ : Sg) : Option (Int32) :=
  if x0 ≤ x1 then
    some x1
  else
    some x0
theorem k_X5_greatest (E : Ev) {x0 : Int32} {x1 : Int32} {σ : Sg} {r : Int32} (h : f_X5_greatest x0 x1 σ = some r) : Con E mX5_greatest 0 [.int x0, .int x1] σ (some (.int r)) σ := by
  refine con_of (by decide) (Nat.le_of_ble_eq_true rfl) (fun fr cx tg => ?_)
  show GW E fr 2 0 [(0, .int x0), (1, .int x1)] [] σ
  rw [f_X5_greatest] at h
  refine gw_iload_n (pc' := 1) cx 0 rfl rfl dX5_greatest_0 rfl ?_
  refine gw_iload_n (pc' := 2) cx 1 rfl rfl dX5_greatest_1 rfl ?_
  rcases ite_some h with ⟨c1, h⟩ | ⟨c1, h⟩
  · refine gw_ic_le_t (pc' := 9) cx c1 dX5_greatest_2 (by decide) ?_
    refine gw_iload_n (pc' := 10) cx 1 rfl rfl dX5_greatest_9 rfl ?_
    exact gw_iret cx tg (rt0 h) rfl dX5_greatest_10
  · refine gw_ic_le_f (pc' := 5) cx c1 dX5_greatest_2 ⟨9, by decide⟩ rfl ?_
    refine gw_iload_n (pc' := 6) cx 0 rfl rfl dX5_greatest_5 rfl ?_
    refine gw_goto (pc' := 10) cx dX5_greatest_6 (by decide) ?_
    exact gw_iret cx tg (rt0 h) rfl dX5_greatest_10
def f_X5_orNone (x1 : Int32) (σ : Sg) : Option (Int32 × Sg) :=
  if 0 ≤ x1 then
    some (x1, σ)
  else
    ob2 (f_X5_finds (-1000004) σ) fun r3 s4 =>
    some (r3, s4)
theorem k_X5_orNone (E : Ev) {x1 : Int32} {σ : Sg} {r : Int32} {σ' : Sg} (h : f_X5_orNone x1 σ = some (r, σ')) : Con E mX5_orNone 1 [.ref (eA E 49), .int x1] σ (some (.int r)) σ' := by
  refine con_of (by decide) (Nat.le_of_ble_eq_true rfl) (fun fr cx tg => ?_)
  show GW E fr 2 0 [(0, .ref (eA E 49)), (1, .int x1)] [] σ
  rw [f_X5_orNone] at h
  refine gw_iload_n (pc' := 1) cx 1 rfl rfl dX5_orNone_0 rfl ?_
  rcases ite_some h with ⟨c1, h⟩ | ⟨c1, h⟩
  · refine gw_if_ge_t (pc' := 13) cx c1 dX5_orNone_1 (by decide) ?_
    refine gw_iload_n (pc' := 14) cx 1 rfl rfl dX5_orNone_13 rfl ?_
    exact gw_iret cx tg (rt1 h) (rt2 h) dX5_orNone_14
  · refine gw_if_ge_f (pc' := 4) cx c1 dX5_orNone_1 ⟨13, by decide⟩ rfl ?_
    refine gw_aload_n (pc' := 5) cx 0 rfl rfl dX5_orNone_4 rfl ?_
    refine gw_ldc (pc' := 7) (v := (-1000004)) cx ct_X5_38 dX5_orNone_5 rfl ?_
    obtain ⟨r3, s4, g2, h⟩ := ob2_some h
    refine gw_cV (pc' := 10) (av := [.int (-1000004)]) (rest := []) cx (k_X5_finds E g2) at49 (by decide) lk_X5_39 dX5_orNone_7 rfl (Nat.le_of_ble_eq_true rfl) rfl ?_
    show GW E fr _ 10 _ (.int r3 :: _) _
    refine gw_goto (pc' := 14) cx dX5_orNone_10 (by decide) ?_
    exact gw_iret cx tg (rt1 h) (rt2 h) dX5_orNone_14
def f_X5_many_L4 : Nat → Int32 → Int32 → Sg → Option (Int32)
  | 0, _, _, _ => none
  | n + 1, y1, y2, σ =>
    if y2 = 0 then
      some y1
    else
      f_X5_many_L4 n (y1 + 1) (y2 &&& (y2 - 1)) σ
theorem w_X5_many_L4 {E : Ev} {fr : Fr} {r : Int32} {σ0 : Sg} (cx : Cx E mX5_many 0 fr) (tg : Tg E fr (some .int) (some (.int r)) σ0)  : ∀ (n : Nat) (y1 : Int32) (y2 : Int32) (σ : Sg), σ = σ0 → f_X5_many_L4 n y1 y2 σ = some r → GW E fr 3 4 [(1, .int y1), (2, .int y2)] [] σ := by
  intro n
  induction n with
  | zero => intro y1 y2 σ hs h; cases (show (none : Option (Int32)) = _ from h)
  | succ n ih =>
    intro y1 y2 σ hs h
    rw [f_X5_many_L4] at h
    subst hs
    refine gw_iload_n (pc' := 5) cx 1 rfl rfl dX5_many_4 rfl ?_
    rcases ite_some h with ⟨c1, h⟩ | ⟨c1, h⟩
    · refine gw_if_eq_t (pc' := 20) cx c1 dX5_many_5 (by decide) ?_
      refine gw_iload_n (pc' := 21) cx 0 rfl rfl dX5_many_20 rfl ?_
      exact gw_iret cx tg (rt0 h) rfl dX5_many_21
    · refine gw_if_eq_f (pc' := 8) cx c1 dX5_many_5 ⟨20, by decide⟩ rfl ?_
      refine gw_iinc (pc' := 11) (v := (y1 + 1)) (lv' := [(1, .int (y1 + 1)), (2, .int y2)]) cx 0 rfl rfl rfl (by decide) dX5_many_8 rfl ?_
      refine gw_iload_n (pc' := 12) cx 1 rfl rfl dX5_many_11 rfl ?_
      refine gw_iload_n (pc' := 13) cx 1 rfl rfl dX5_many_12 rfl ?_
      refine gw_iconst (pc' := 14) (v := 1) cx ci_1 dX5_many_13 rfl ?_
      refine gw_isub (pc' := 15) cx dX5_many_14 rfl ?_
      refine gw_iand (pc' := 16) cx dX5_many_15 rfl ?_
      refine gw_istore_n (pc' := 17) (lv' := [(2, .int (y2 &&& (y2 - 1))), (1, .int (y1 + 1))]) cx rfl rfl (by decide) dX5_many_16 rfl ?_
      refine gw_goto (pc' := 4) cx dX5_many_17 (by decide) ?_
      refine gw_sub [1, 0] (lv' := [(1, .int (y1 + 1)), (2, .int (y2 &&& (y2 - 1)))]) rfl ?_
      exact ih (y1 + 1) (y2 &&& (y2 - 1)) σ rfl h
def f_X5_many (x0 : Int32) (σ : Sg) : Option (Int32) :=
  f_X5_many_L4 FU 0 x0 σ
theorem k_X5_many (E : Ev) {x0 : Int32} {σ : Sg} {r : Int32} (h : f_X5_many x0 σ = some r) : Con E mX5_many 0 [.int x0] σ (some (.int r)) σ := by
  refine con_of (by decide) (Nat.le_of_ble_eq_true rfl) (fun fr cx tg => ?_)
  show GW E fr 3 0 [(0, .int x0)] [] σ
  rw [f_X5_many] at h
  refine gw_iconst (pc' := 1) (v := 0) cx ci_0 dX5_many_0 rfl ?_
  refine gw_istore_n (pc' := 2) (lv' := [(1, .int 0), (0, .int x0)]) cx rfl rfl (by decide) dX5_many_1 rfl ?_
  refine gw_iload_n (pc' := 3) cx 1 rfl rfl dX5_many_2 rfl ?_
  refine gw_istore_n (pc' := 4) (lv' := [(2, .int x0), (1, .int 0), (0, .int x0)]) cx rfl rfl (by decide) dX5_many_3 rfl ?_
  refine gw_sub [1, 0] (lv' := [(1, .int 0), (2, .int x0)]) rfl ?_
  exact w_X5_many_L4 cx tg FU 0 x0 σ rfl h
def f_X5_isSaying (x0 : Int32) (σ : Sg) : Option (Int32) :=
  ob0 (f_X5_isIn x0.toInt64 (0 : Int64) (720 : Int64) σ) fun r2 =>
  if r2 = 0 then
    some 0
  else
    if 20 < (jrem x0 100) then
      some 0
    else
      some 1
theorem k_X5_isSaying (E : Ev) {x0 : Int32} {σ : Sg} {r : Int32} (h : f_X5_isSaying x0 σ = some r) : Con E mX5_isSaying 1 [.int x0] σ (some (.int r)) σ := by
  refine con_of (by decide) (Nat.le_of_ble_eq_true rfl) (fun fr cx tg => ?_)
  show GW E fr 1 0 [(0, .int x0)] [] σ
  rw [f_X5_isSaying] at h
  refine gw_iload_n (pc' := 1) cx 0 rfl rfl dX5_isSaying_0 rfl ?_
  refine gw_i2l (pc' := 2) cx dX5_isSaying_1 rfl ?_
  refine gw_lconst (pc' := 3) (v := 0) cx cl_0 dX5_isSaying_2 rfl ?_
  refine gw_ldc2_w (pc' := 6) (v := 720) cx ct_X5_43 dX5_isSaying_3 rfl ?_
  obtain ⟨r2, g1, h⟩ := ob0_some h
  refine gw_cS (pc' := 9) (av := [.long x0.toInt64, .long (0 : Int64), .long (720 : Int64)]) (rest := []) cx (k_X5_isIn E g1) (by decide) lk_X5_45 dX5_isSaying_6 rfl (Nat.le_of_ble_eq_true rfl) rfl ?_
  show GW E fr _ 9 _ (.int r2 :: _) _
  rcases ite_some h with ⟨c3, h⟩ | ⟨c3, h⟩
  · refine gw_if_eq_t (pc' := 25) cx c3 dX5_isSaying_9 (by decide) ?_
    refine gw_iconst (pc' := 26) (v := 0) cx ci_0 dX5_isSaying_25 rfl ?_
    exact gw_zret cx tg (Or.inl rfl) (rt0 h) rfl dX5_isSaying_26
  · refine gw_if_eq_f (pc' := 12) cx c3 dX5_isSaying_9 ⟨25, by decide⟩ rfl ?_
    refine gw_iload_n (pc' := 13) cx 0 rfl rfl dX5_isSaying_12 rfl ?_
    refine gw_bipush (pc' := 15) (v := 100) cx cb_100 dX5_isSaying_13 rfl ?_
    refine gw_irem (pc' := 16) cx (by decide) dX5_isSaying_15 rfl ?_
    refine gw_bipush (pc' := 18) (v := 20) cx cb_20 dX5_isSaying_16 rfl ?_
    rcases ite_some h with ⟨c4, h⟩ | ⟨c4, h⟩
    · refine gw_ic_gt_t (pc' := 25) cx c4 dX5_isSaying_18 (by decide) ?_
      refine gw_iconst (pc' := 26) (v := 0) cx ci_0 dX5_isSaying_25 rfl ?_
      exact gw_zret cx tg (Or.inl rfl) (rt0 h) rfl dX5_isSaying_26
    · refine gw_ic_gt_f (pc' := 21) cx c4 dX5_isSaying_18 ⟨25, by decide⟩ rfl ?_
      refine gw_iconst (pc' := 22) (v := 1) cx ci_1 dX5_isSaying_21 rfl ?_
      refine gw_goto (pc' := 26) cx dX5_isSaying_22 (by decide) ?_
      exact gw_zret cx tg (Or.inr rfl) (rt0 h) rfl dX5_isSaying_26
def f_X5_say (x1 : Int32) (x2 : Int32) (x3 : Int32) (σ : Sg) : Option (Int32 × Sg) :=
  ob0 (f_X5_isPlace x1 σ) fun r2 =>
  if r2 = 0 then
    ob2 (f_X5_finds (-1000001) σ) fun r5 s6 =>
    some (r5, s6)
  else
    ob0 (f_X5_isIn x2.toInt64 (0 : Int64) (7 : Int64) σ) fun r8 =>
    if r8 = 0 then
      ob2 (f_X5_finds (-1000001) σ) fun r11 s12 =>
      some (r11, s12)
    else
      ob0 (f_X5_isIn x3.toInt64 (0 : Int64) (20 : Int64) σ) fun r14 =>
      if r14 = 0 then
        ob2 (f_X5_finds (-1000001) σ) fun r17 s18 =>
        some (r17, s18)
      else
        ob2 (f_X5_becomes (4 + x1) ((100 * x2) + x3) σ) fun r20 s21 =>
        some (r20, s21)
theorem k_X5_say (E : Ev) {x1 : Int32} {x2 : Int32} {x3 : Int32} {σ : Sg} {r : Int32} {σ' : Sg} (h : f_X5_say x1 x2 x3 σ = some (r, σ')) : Con E mX5_say 1 [.ref (eA E 49), .int x1, .int x2, .int x3] σ (some (.int r)) σ' := by
  refine con_of (by decide) (Nat.le_of_ble_eq_true rfl) (fun fr cx tg => ?_)
  show GW E fr 5 0 [(0, .ref (eA E 49)), (1, .int x1), (2, .int x2), (3, .int x3)] [] σ
  rw [f_X5_say] at h
  refine gw_iload_n (pc' := 1) cx 1 rfl rfl dX5_say_0 rfl ?_
  obtain ⟨r2, g1, h⟩ := ob0_some h
  refine gw_cS (pc' := 4) (av := [.int x1]) (rest := []) cx (k_X5_isPlace E g1) (by decide) lk_X5_49 dX5_say_1 rfl (Nat.le_of_ble_eq_true rfl) rfl ?_
  show GW E fr _ 4 _ (.int r2 :: _) _
  rcases ite_some h with ⟨c3, h⟩ | ⟨c3, h⟩
  · refine gw_if_eq_t (pc' := 35) cx c3 dX5_say_4 (by decide) ?_
    refine gw_iconst (pc' := 36) (v := 0) cx ci_0 dX5_say_35 rfl ?_
    refine gw_istore (pc' := 38) (lv' := [(4, .int 0), (0, .ref (eA E 49)), (1, .int x1), (2, .int x2), (3, .int x3)]) cx rfl (by decide) dX5_say_36 rfl ?_
    refine gw_iload (pc' := 40) cx 0 rfl dX5_say_38 rfl ?_
    refine gw_if_eq_t (pc' := 59) cx (by decide) dX5_say_40 (by decide) ?_
    refine gw_aload_n (pc' := 60) cx 1 rfl rfl dX5_say_59 rfl ?_
    refine gw_ldc (pc' := 62) (v := (-1000001)) cx ct_X5_37 dX5_say_60 rfl ?_
    obtain ⟨r5, s6, g4, h⟩ := ob2_some h
    refine gw_cV (pc' := 65) (av := [.int (-1000001)]) (rest := []) cx (k_X5_finds E g4) at49 (by decide) lk_X5_39 dX5_say_62 rfl (Nat.le_of_ble_eq_true rfl) rfl ?_
    show GW E fr _ 65 _ (.int r5 :: _) _
    exact gw_iret cx tg (rt1 h) (rt2 h) dX5_say_65
  · refine gw_if_eq_f (pc' := 7) cx c3 dX5_say_4 ⟨35, by decide⟩ rfl ?_
    refine gw_iload_n (pc' := 8) cx 2 rfl rfl dX5_say_7 rfl ?_
    refine gw_i2l (pc' := 9) cx dX5_say_8 rfl ?_
    refine gw_lconst (pc' := 10) (v := 0) cx cl_0 dX5_say_9 rfl ?_
    refine gw_ldc2_w (pc' := 13) (v := 7) cx ct_X5_53 dX5_say_10 rfl ?_
    obtain ⟨r8, g7, h⟩ := ob0_some h
    refine gw_cS (pc' := 16) (av := [.long x2.toInt64, .long (0 : Int64), .long (7 : Int64)]) (rest := []) cx (k_X5_isIn E g7) (by decide) lk_X5_45 dX5_say_13 rfl (Nat.le_of_ble_eq_true rfl) rfl ?_
    show GW E fr _ 16 _ (.int r8 :: _) _
    rcases ite_some h with ⟨c9, h⟩ | ⟨c9, h⟩
    · refine gw_if_eq_t (pc' := 35) cx c9 dX5_say_16 (by decide) ?_
      refine gw_iconst (pc' := 36) (v := 0) cx ci_0 dX5_say_35 rfl ?_
      refine gw_istore (pc' := 38) (lv' := [(4, .int 0), (0, .ref (eA E 49)), (1, .int x1), (2, .int x2), (3, .int x3)]) cx rfl (by decide) dX5_say_36 rfl ?_
      refine gw_iload (pc' := 40) cx 0 rfl dX5_say_38 rfl ?_
      refine gw_if_eq_t (pc' := 59) cx (by decide) dX5_say_40 (by decide) ?_
      refine gw_aload_n (pc' := 60) cx 1 rfl rfl dX5_say_59 rfl ?_
      refine gw_ldc (pc' := 62) (v := (-1000001)) cx ct_X5_37 dX5_say_60 rfl ?_
      obtain ⟨r11, s12, g10, h⟩ := ob2_some h
      refine gw_cV (pc' := 65) (av := [.int (-1000001)]) (rest := []) cx (k_X5_finds E g10) at49 (by decide) lk_X5_39 dX5_say_62 rfl (Nat.le_of_ble_eq_true rfl) rfl ?_
      show GW E fr _ 65 _ (.int r11 :: _) _
      exact gw_iret cx tg (rt1 h) (rt2 h) dX5_say_65
    · refine gw_if_eq_f (pc' := 19) cx c9 dX5_say_16 ⟨35, by decide⟩ rfl ?_
      refine gw_iload_n (pc' := 20) cx 3 rfl rfl dX5_say_19 rfl ?_
      refine gw_i2l (pc' := 21) cx dX5_say_20 rfl ?_
      refine gw_lconst (pc' := 22) (v := 0) cx cl_0 dX5_say_21 rfl ?_
      refine gw_ldc2_w (pc' := 25) (v := 20) cx ct_X5_55 dX5_say_22 rfl ?_
      obtain ⟨r14, g13, h⟩ := ob0_some h
      refine gw_cS (pc' := 28) (av := [.long x3.toInt64, .long (0 : Int64), .long (20 : Int64)]) (rest := []) cx (k_X5_isIn E g13) (by decide) lk_X5_45 dX5_say_25 rfl (Nat.le_of_ble_eq_true rfl) rfl ?_
      show GW E fr _ 28 _ (.int r14 :: _) _
      rcases ite_some h with ⟨c15, h⟩ | ⟨c15, h⟩
      · refine gw_if_eq_t (pc' := 35) cx c15 dX5_say_28 (by decide) ?_
        refine gw_iconst (pc' := 36) (v := 0) cx ci_0 dX5_say_35 rfl ?_
        refine gw_istore (pc' := 38) (lv' := [(4, .int 0), (0, .ref (eA E 49)), (1, .int x1), (2, .int x2), (3, .int x3)]) cx rfl (by decide) dX5_say_36 rfl ?_
        refine gw_iload (pc' := 40) cx 0 rfl dX5_say_38 rfl ?_
        refine gw_if_eq_t (pc' := 59) cx (by decide) dX5_say_40 (by decide) ?_
        refine gw_aload_n (pc' := 60) cx 1 rfl rfl dX5_say_59 rfl ?_
        refine gw_ldc (pc' := 62) (v := (-1000001)) cx ct_X5_37 dX5_say_60 rfl ?_
        obtain ⟨r17, s18, g16, h⟩ := ob2_some h
        refine gw_cV (pc' := 65) (av := [.int (-1000001)]) (rest := []) cx (k_X5_finds E g16) at49 (by decide) lk_X5_39 dX5_say_62 rfl (Nat.le_of_ble_eq_true rfl) rfl ?_
        show GW E fr _ 65 _ (.int r17 :: _) _
        exact gw_iret cx tg (rt1 h) (rt2 h) dX5_say_65
      · refine gw_if_eq_f (pc' := 31) cx c15 dX5_say_28 ⟨35, by decide⟩ rfl ?_
        refine gw_iconst (pc' := 32) (v := 1) cx ci_1 dX5_say_31 rfl ?_
        refine gw_goto (pc' := 36) cx dX5_say_32 (by decide) ?_
        refine gw_istore (pc' := 38) (lv' := [(4, .int 1), (0, .ref (eA E 49)), (1, .int x1), (2, .int x2), (3, .int x3)]) cx rfl (by decide) dX5_say_36 rfl ?_
        refine gw_iload (pc' := 40) cx 0 rfl dX5_say_38 rfl ?_
        refine gw_if_eq_f (pc' := 43) cx (by decide) dX5_say_40 ⟨59, by decide⟩ rfl ?_
        refine gw_aload_n (pc' := 44) cx 1 rfl rfl dX5_say_43 rfl ?_
        refine gw_iconst (pc' := 45) (v := 4) cx ci_4 dX5_say_44 rfl ?_
        refine gw_iload_n (pc' := 46) cx 2 rfl rfl dX5_say_45 rfl ?_
        refine gw_iadd (pc' := 47) cx dX5_say_46 rfl ?_
        refine gw_bipush (pc' := 49) (v := 100) cx cb_100 dX5_say_47 rfl ?_
        refine gw_iload_n (pc' := 50) cx 3 rfl rfl dX5_say_49 rfl ?_
        refine gw_imul (pc' := 51) cx dX5_say_50 rfl ?_
        refine gw_iload_n (pc' := 52) cx 4 rfl rfl dX5_say_51 rfl ?_
        refine gw_iadd (pc' := 53) cx dX5_say_52 rfl ?_
        obtain ⟨r20, s21, g19, h⟩ := ob2_some h
        refine gw_cV (pc' := 56) (av := [.int (4 + x1), .int ((100 * x2) + x3)]) (rest := []) cx (k_X5_becomes E g19) at49 (by decide) lk_X5_57 dX5_say_53 rfl (Nat.le_of_ble_eq_true rfl) rfl ?_
        show GW E fr _ 56 _ (.int r20 :: _) _
        refine gw_goto (pc' := 65) cx dX5_say_56 (by decide) ?_
        exact gw_iret cx tg (rt1 h) (rt2 h) dX5_say_65
def f_X5_said (x1 : Int32) (σ : Sg) : Option (Int32 × Sg) :=
  ob0 (f_X5_isPlace x1 σ) fun r2 =>
  if r2 = 0 then
    ob2 (f_X5_finds (-1000001) σ) fun r5 s6 =>
    some (r5, s6)
  else
    chk (4 + x1) 60 <|
    some ((σ 50 (4 + x1).toNatClampNeg), σ)
theorem k_X5_said (E : Ev) {x1 : Int32} {σ : Sg} {r : Int32} {σ' : Sg} (h : f_X5_said x1 σ = some (r, σ')) : Con E mX5_said 1 [.ref (eA E 49), .int x1] σ (some (.int r)) σ' := by
  refine con_of (by decide) (Nat.le_of_ble_eq_true rfl) (fun fr cx tg => ?_)
  show GW E fr 2 0 [(0, .ref (eA E 49)), (1, .int x1)] [] σ
  rw [f_X5_said] at h
  refine gw_iload_n (pc' := 1) cx 1 rfl rfl dX5_said_0 rfl ?_
  obtain ⟨r2, g1, h⟩ := ob0_some h
  refine gw_cS (pc' := 4) (av := [.int x1]) (rest := []) cx (k_X5_isPlace E g1) (by decide) lk_X5_49 dX5_said_1 rfl (Nat.le_of_ble_eq_true rfl) rfl ?_
  show GW E fr _ 4 _ (.int r2 :: _) _
  rcases ite_some h with ⟨c3, h⟩ | ⟨c3, h⟩
  · refine gw_if_eq_t (pc' := 18) cx c3 dX5_said_4 (by decide) ?_
    refine gw_aload_n (pc' := 19) cx 0 rfl rfl dX5_said_18 rfl ?_
    refine gw_ldc (pc' := 21) (v := (-1000001)) cx ct_X5_37 dX5_said_19 rfl ?_
    obtain ⟨r5, s6, g4, h⟩ := ob2_some h
    refine gw_cV (pc' := 24) (av := [.int (-1000001)]) (rest := []) cx (k_X5_finds E g4) at49 (by decide) lk_X5_39 dX5_said_21 rfl (Nat.le_of_ble_eq_true rfl) rfl ?_
    show GW E fr _ 24 _ (.int r5 :: _) _
    exact gw_iret cx tg (rt1 h) (rt2 h) dX5_said_24
  · refine gw_if_eq_f (pc' := 7) cx c3 dX5_said_4 ⟨18, by decide⟩ rfl ?_
    refine gw_aload_n (pc' := 8) cx 0 rfl rfl dX5_said_7 rfl ?_
    refine gw_getR (pc' := 11) cx at49 rfl fl_X5_7 dX5_said_8 rfl ?_
    refine gw_iconst (pc' := 12) (v := 4) cx ci_4 dX5_said_11 rfl ?_
    refine gw_iload_n (pc' := 13) cx 1 rfl rfl dX5_said_12 rfl ?_
    refine gw_iadd (pc' := 14) cx dX5_said_13 rfl ?_
    obtain ⟨i7, h⟩ := chk_some h
    refine gw_iald (pc' := 15) cx at50 i7 rfl dX5_said_14 rfl ?_
    refine gw_goto (pc' := 24) cx dX5_said_15 (by decide) ?_
    exact gw_iret cx tg (rt1 h) (rt2 h) dX5_said_24
def f_X5_comes (x1 : Int32) (x2 : Int32) (σ : Sg) : Option (Sg) :=
  ob0 (f_X5_at (σ 50 0) 0 σ) fun r2 =>
  chk r2 60 <|
  lt (up2 σ 50 r2.toNatClampNeg x1) fun s4 =>
  ob0 (f_X5_at (σ 50 0) 1 s4) fun r7 =>
  chk r7 60 <|
  lt (up2 s4 50 r7.toNatClampNeg 0) fun s9 =>
  ob0 (f_X5_at (σ 50 0) 2 s9) fun r12 =>
  chk r12 60 <|
  lt (up2 s9 50 r12.toNatClampNeg x2) fun s14 =>
  ob0 (f_X5_at (σ 50 0) 3 s14) fun r17 =>
  chk r17 60 <|
  lt (up2 s14 50 r17.toNatClampNeg 0) fun s19 =>
  ob0 (f_X5_at (σ 50 0) 4 s19) fun r22 =>
  chk r22 60 <|
  lt (up2 s19 50 r22.toNatClampNeg 0) fun s24 =>
  lt (up2 s24 50 0 ((s24 50 0) + 1)) fun s26 =>
  some s26
theorem k_X5_comes (E : Ev) {x1 : Int32} {x2 : Int32} {σ : Sg} {σ' : Sg} (h : f_X5_comes x1 x2 σ = some σ') : Con E mX5_comes 1 [.ref (eA E 49), .int x1, .int x2] σ none σ' := by
  refine con_of (by decide) (Nat.le_of_ble_eq_true rfl) (fun fr cx tg => ?_)
  show GW E fr 4 0 [(0, .ref (eA E 49)), (1, .int x1), (2, .int x2)] [] σ
  rw [f_X5_comes] at h
  refine gw_aload_n (pc' := 1) cx 0 rfl rfl dX5_comes_0 rfl ?_
  refine gw_getR (pc' := 4) cx at49 rfl fl_X5_7 dX5_comes_1 rfl ?_
  refine gw_iconst (pc' := 5) (v := 0) cx ci_0 dX5_comes_4 rfl ?_
  refine gw_iald (pc' := 6) cx at50 (vpc (by decide)) cn_0 dX5_comes_5 rfl ?_
  refine gw_istore_n (pc' := 7) (lv' := [(3, .int (σ 50 0)), (0, .ref (eA E 49)), (1, .int x1), (2, .int x2)]) cx rfl rfl (by decide) dX5_comes_6 rfl ?_
  refine gw_aload_n (pc' := 8) cx 1 rfl rfl dX5_comes_7 rfl ?_
  refine gw_getR (pc' := 11) cx at49 rfl fl_X5_7 dX5_comes_8 rfl ?_
  refine gw_iload_n (pc' := 12) cx 0 rfl rfl dX5_comes_11 rfl ?_
  refine gw_iconst (pc' := 13) (v := 0) cx ci_0 dX5_comes_12 rfl ?_
  obtain ⟨r2, g1, h⟩ := ob0_some h
  refine gw_cS (pc' := 16) (av := [.int (σ 50 0), .int 0]) (rest := [.ref (eA E 50)]) cx (k_X5_at E g1) (by decide) lk_X5_61 dX5_comes_13 rfl (Nat.le_of_ble_eq_true rfl) rfl ?_
  show GW E fr _ 16 _ (.int r2 :: _) _
  refine gw_iload_n (pc' := 17) cx 2 rfl rfl dX5_comes_16 rfl ?_
  obtain ⟨i3, h⟩ := chk_some h
  obtain ⟨s4, e5, h⟩ := lt_some h
  refine gw_iast (pc' := 18) cx at50 i3 rfl dX5_comes_17 rfl e5 ?_
  refine gw_aload_n (pc' := 19) cx 1 rfl rfl dX5_comes_18 rfl ?_
  refine gw_getR (pc' := 22) cx at49 rfl fl_X5_7 dX5_comes_19 rfl ?_
  refine gw_iload_n (pc' := 23) cx 0 rfl rfl dX5_comes_22 rfl ?_
  refine gw_iconst (pc' := 24) (v := 1) cx ci_1 dX5_comes_23 rfl ?_
  obtain ⟨r7, g6, h⟩ := ob0_some h
  refine gw_cS (pc' := 27) (av := [.int (σ 50 0), .int 1]) (rest := [.ref (eA E 50)]) cx (k_X5_at E g6) (by decide) lk_X5_61 dX5_comes_24 rfl (Nat.le_of_ble_eq_true rfl) rfl ?_
  show GW E fr _ 27 _ (.int r7 :: _) _
  refine gw_iconst (pc' := 28) (v := 0) cx ci_0 dX5_comes_27 rfl ?_
  obtain ⟨i8, h⟩ := chk_some h
  obtain ⟨s9, e10, h⟩ := lt_some h
  refine gw_iast (pc' := 29) cx at50 i8 rfl dX5_comes_28 rfl e10 ?_
  refine gw_aload_n (pc' := 30) cx 1 rfl rfl dX5_comes_29 rfl ?_
  refine gw_getR (pc' := 33) cx at49 rfl fl_X5_7 dX5_comes_30 rfl ?_
  refine gw_iload_n (pc' := 34) cx 0 rfl rfl dX5_comes_33 rfl ?_
  refine gw_iconst (pc' := 35) (v := 2) cx ci_2 dX5_comes_34 rfl ?_
  obtain ⟨r12, g11, h⟩ := ob0_some h
  refine gw_cS (pc' := 38) (av := [.int (σ 50 0), .int 2]) (rest := [.ref (eA E 50)]) cx (k_X5_at E g11) (by decide) lk_X5_61 dX5_comes_35 rfl (Nat.le_of_ble_eq_true rfl) rfl ?_
  show GW E fr _ 38 _ (.int r12 :: _) _
  refine gw_iload_n (pc' := 39) cx 3 rfl rfl dX5_comes_38 rfl ?_
  obtain ⟨i13, h⟩ := chk_some h
  obtain ⟨s14, e15, h⟩ := lt_some h
  refine gw_iast (pc' := 40) cx at50 i13 rfl dX5_comes_39 rfl e15 ?_
  refine gw_aload_n (pc' := 41) cx 1 rfl rfl dX5_comes_40 rfl ?_
  refine gw_getR (pc' := 44) cx at49 rfl fl_X5_7 dX5_comes_41 rfl ?_
  refine gw_iload_n (pc' := 45) cx 0 rfl rfl dX5_comes_44 rfl ?_
  refine gw_iconst (pc' := 46) (v := 3) cx ci_3 dX5_comes_45 rfl ?_
  obtain ⟨r17, g16, h⟩ := ob0_some h
  refine gw_cS (pc' := 49) (av := [.int (σ 50 0), .int 3]) (rest := [.ref (eA E 50)]) cx (k_X5_at E g16) (by decide) lk_X5_61 dX5_comes_46 rfl (Nat.le_of_ble_eq_true rfl) rfl ?_
  show GW E fr _ 49 _ (.int r17 :: _) _
  refine gw_iconst (pc' := 50) (v := 0) cx ci_0 dX5_comes_49 rfl ?_
  obtain ⟨i18, h⟩ := chk_some h
  obtain ⟨s19, e20, h⟩ := lt_some h
  refine gw_iast (pc' := 51) cx at50 i18 rfl dX5_comes_50 rfl e20 ?_
  refine gw_aload_n (pc' := 52) cx 1 rfl rfl dX5_comes_51 rfl ?_
  refine gw_getR (pc' := 55) cx at49 rfl fl_X5_7 dX5_comes_52 rfl ?_
  refine gw_iload_n (pc' := 56) cx 0 rfl rfl dX5_comes_55 rfl ?_
  refine gw_iconst (pc' := 57) (v := 4) cx ci_4 dX5_comes_56 rfl ?_
  obtain ⟨r22, g21, h⟩ := ob0_some h
  refine gw_cS (pc' := 60) (av := [.int (σ 50 0), .int 4]) (rest := [.ref (eA E 50)]) cx (k_X5_at E g21) (by decide) lk_X5_61 dX5_comes_57 rfl (Nat.le_of_ble_eq_true rfl) rfl ?_
  show GW E fr _ 60 _ (.int r22 :: _) _
  refine gw_iconst (pc' := 61) (v := 0) cx ci_0 dX5_comes_60 rfl ?_
  obtain ⟨i23, h⟩ := chk_some h
  obtain ⟨s24, e25, h⟩ := lt_some h
  refine gw_iast (pc' := 62) cx at50 i23 rfl dX5_comes_61 rfl e25 ?_
  refine gw_aload_n (pc' := 63) cx 1 rfl rfl dX5_comes_62 rfl ?_
  refine gw_getR (pc' := 66) cx at49 rfl fl_X5_7 dX5_comes_63 rfl ?_
  refine gw_iconst (pc' := 67) (v := 0) cx ci_0 dX5_comes_66 rfl ?_
  refine gw_dup2 (pc' := 68) cx rfl rfl dX5_comes_67 rfl ?_
  refine gw_iald (pc' := 69) cx at50 (vpc (by decide)) cn_0 dX5_comes_68 rfl ?_
  refine gw_iconst (pc' := 70) (v := 1) cx ci_1 dX5_comes_69 rfl ?_
  refine gw_iadd (pc' := 71) cx dX5_comes_70 rfl ?_
  obtain ⟨s26, e27, h⟩ := lt_some h
  refine gw_iast (pc' := 72) cx at50 (vpc (by decide)) cn_0 dX5_comes_71 rfl e27 ?_
  exact gw_vret cx tg rfl (rtV h) dX5_comes_72
def f_X5_person (x1 : Int32) (x2 : Int32) (σ : Sg) : Option (Int32 × Sg) :=
  ob0 (f_X5_isIn x1.toInt64 (0 : Int64) (6 : Int64) σ) fun r2 =>
  if r2 = 0 then
    ob2 (f_X5_finds (-1000001) σ) fun r5 s6 =>
    some (r5, s6)
  else
    ob0 (f_X5_isIn x2.toInt64 (0 : Int64) (99 : Int64) σ) fun r8 =>
    if r8 = 0 then
      ob2 (f_X5_finds (-1000001) σ) fun r11 s12 =>
      some (r11, s12)
    else
      if (σ 50 0) = 8 then
        ob2 (f_X5_finds (-1000002) σ) fun r15 s16 =>
        some (r15, s16)
      else
        ob1 (f_X5_comes x1 x2 σ) fun s18 =>
        some (((s18 50 0) - 1), s18)
theorem k_X5_person (E : Ev) {x1 : Int32} {x2 : Int32} {σ : Sg} {r : Int32} {σ' : Sg} (h : f_X5_person x1 x2 σ = some (r, σ')) : Con E mX5_person 2 [.ref (eA E 49), .int x1, .int x2] σ (some (.int r)) σ' := by
  refine con_of (by decide) (Nat.le_of_ble_eq_true rfl) (fun fr cx tg => ?_)
  show GW E fr 3 0 [(0, .ref (eA E 49)), (1, .int x1), (2, .int x2)] [] σ
  rw [f_X5_person] at h
  refine gw_iload_n (pc' := 1) cx 1 rfl rfl dX5_person_0 rfl ?_
  refine gw_i2l (pc' := 2) cx dX5_person_1 rfl ?_
  refine gw_lconst (pc' := 3) (v := 0) cx cl_0 dX5_person_2 rfl ?_
  refine gw_ldc2_w (pc' := 6) (v := 6) cx ct_X5_64 dX5_person_3 rfl ?_
  obtain ⟨r2, g1, h⟩ := ob0_some h
  refine gw_cS (pc' := 9) (av := [.long x1.toInt64, .long (0 : Int64), .long (6 : Int64)]) (rest := []) cx (k_X5_isIn E g1) (by decide) lk_X5_45 dX5_person_6 rfl (Nat.le_of_ble_eq_true rfl) rfl ?_
  show GW E fr _ 9 _ (.int r2 :: _) _
  rcases ite_some h with ⟨c3, h⟩ | ⟨c3, h⟩
  · refine gw_if_eq_t (pc' := 24) cx c3 dX5_person_9 (by decide) ?_
    refine gw_aload_n (pc' := 25) cx 0 rfl rfl dX5_person_24 rfl ?_
    refine gw_ldc (pc' := 27) (v := (-1000001)) cx ct_X5_37 dX5_person_25 rfl ?_
    obtain ⟨r5, s6, g4, h⟩ := ob2_some h
    refine gw_cV (pc' := 30) (av := [.int (-1000001)]) (rest := []) cx (k_X5_finds E g4) at49 (by decide) lk_X5_39 dX5_person_27 rfl (Nat.le_of_ble_eq_true rfl) rfl ?_
    show GW E fr _ 30 _ (.int r5 :: _) _
    exact gw_iret cx tg (rt1 h) (rt2 h) dX5_person_30
  · refine gw_if_eq_f (pc' := 12) cx c3 dX5_person_9 ⟨24, by decide⟩ rfl ?_
    refine gw_iload_n (pc' := 13) cx 2 rfl rfl dX5_person_12 rfl ?_
    refine gw_i2l (pc' := 14) cx dX5_person_13 rfl ?_
    refine gw_lconst (pc' := 15) (v := 0) cx cl_0 dX5_person_14 rfl ?_
    refine gw_ldc2_w (pc' := 18) (v := 99) cx ct_X5_66 dX5_person_15 rfl ?_
    obtain ⟨r8, g7, h⟩ := ob0_some h
    refine gw_cS (pc' := 21) (av := [.long x2.toInt64, .long (0 : Int64), .long (99 : Int64)]) (rest := []) cx (k_X5_isIn E g7) (by decide) lk_X5_45 dX5_person_18 rfl (Nat.le_of_ble_eq_true rfl) rfl ?_
    show GW E fr _ 21 _ (.int r8 :: _) _
    rcases ite_some h with ⟨c9, h⟩ | ⟨c9, h⟩
    · refine gw_if_ne_f (pc' := 24) cx c9 dX5_person_21 ⟨31, by decide⟩ rfl ?_
      refine gw_aload_n (pc' := 25) cx 0 rfl rfl dX5_person_24 rfl ?_
      refine gw_ldc (pc' := 27) (v := (-1000001)) cx ct_X5_37 dX5_person_25 rfl ?_
      obtain ⟨r11, s12, g10, h⟩ := ob2_some h
      refine gw_cV (pc' := 30) (av := [.int (-1000001)]) (rest := []) cx (k_X5_finds E g10) at49 (by decide) lk_X5_39 dX5_person_27 rfl (Nat.le_of_ble_eq_true rfl) rfl ?_
      show GW E fr _ 30 _ (.int r11 :: _) _
      exact gw_iret cx tg (rt1 h) (rt2 h) dX5_person_30
    · refine gw_if_ne_t (pc' := 31) cx c9 dX5_person_21 (by decide) ?_
      refine gw_aload_n (pc' := 32) cx 0 rfl rfl dX5_person_31 rfl ?_
      refine gw_getR (pc' := 35) cx at49 rfl fl_X5_7 dX5_person_32 rfl ?_
      refine gw_iconst (pc' := 36) (v := 0) cx ci_0 dX5_person_35 rfl ?_
      refine gw_iald (pc' := 37) cx at50 (vpc (by decide)) cn_0 dX5_person_36 rfl ?_
      refine gw_bipush (pc' := 39) (v := 8) cx cb_8 dX5_person_37 rfl ?_
      rcases ite_some h with ⟨c13, h⟩ | ⟨c13, h⟩
      · refine gw_ic_ne_f (pc' := 42) cx c13 dX5_person_39 ⟨49, by decide⟩ rfl ?_
        refine gw_aload_n (pc' := 43) cx 0 rfl rfl dX5_person_42 rfl ?_
        refine gw_ldc (pc' := 45) (v := (-1000002)) cx ct_X5_68 dX5_person_43 rfl ?_
        obtain ⟨r15, s16, g14, h⟩ := ob2_some h
        refine gw_cV (pc' := 48) (av := [.int (-1000002)]) (rest := []) cx (k_X5_finds E g14) at49 (by decide) lk_X5_39 dX5_person_45 rfl (Nat.le_of_ble_eq_true rfl) rfl ?_
        show GW E fr _ 48 _ (.int r15 :: _) _
        exact gw_iret cx tg (rt1 h) (rt2 h) dX5_person_48
      · refine gw_ic_ne_t (pc' := 49) cx c13 dX5_person_39 (by decide) ?_
        refine gw_aload_n (pc' := 50) cx 0 rfl rfl dX5_person_49 rfl ?_
        refine gw_iload_n (pc' := 51) cx 1 rfl rfl dX5_person_50 rfl ?_
        refine gw_iload_n (pc' := 52) cx 2 rfl rfl dX5_person_51 rfl ?_
        obtain ⟨s18, g17, h⟩ := ob1_some h
        refine gw_cV (pc' := 55) (av := [.int x1, .int x2]) (rest := []) cx (k_X5_comes E g17) at49 (by decide) lk_X5_69 dX5_person_52 rfl (Nat.le_of_ble_eq_true rfl) rfl ?_
        show GW E fr _ 55 _ [] _
        refine gw_aload_n (pc' := 56) cx 0 rfl rfl dX5_person_55 rfl ?_
        refine gw_getR (pc' := 59) cx at49 rfl fl_X5_7 dX5_person_56 rfl ?_
        refine gw_iconst (pc' := 60) (v := 0) cx ci_0 dX5_person_59 rfl ?_
        refine gw_iald (pc' := 61) cx at50 (vpc (by decide)) cn_0 dX5_person_60 rfl ?_
        refine gw_iconst (pc' := 62) (v := 1) cx ci_1 dX5_person_61 rfl ?_
        refine gw_isub (pc' := 63) cx dX5_person_62 rfl ?_
        exact gw_iret cx tg (rt1 h) (rt2 h) dX5_person_63
def f_X5_feelsOf (x1 : Int32) (x2 : Int32) (σ : Sg) : Option (Int32) :=
  ob0 (f_X5_its x1 0 σ) fun r2 =>
  if r2 = 1 then
    some (2 * x2)
  else
    if r2 = 2 then
      some (x2 / 2)
    else
      if r2 = 3 then
        some ((x2 / 2) + 1)
      else
        if r2 = 4 then
          ob0 (f_X5_its x1 3 σ) fun r8 =>
          some (((x2 / 2) + 1) + (r8 / 10))
        else
          if r2 = 5 then
            if 5 ≤ x2 then
              some x2
            else
              some 0
          else
            if r2 = 6 then
              ob0 (f_X5_greatest 0 ((2 * x2) - 3) σ) fun r13 =>
              some r13
            else
              some x2
theorem k_X5_feelsOf (E : Ev) {x1 : Int32} {x2 : Int32} {σ : Sg} {r : Int32} (h : f_X5_feelsOf x1 x2 σ = some r) : Con E mX5_feelsOf 1 [.ref (eA E 49), .int x1, .int x2] σ (some (.int r)) σ := by
  refine con_of (by decide) (Nat.le_of_ble_eq_true rfl) (fun fr cx tg => ?_)
  show GW E fr 3 0 [(0, .ref (eA E 49)), (1, .int x1), (2, .int x2)] [] σ
  rw [f_X5_feelsOf] at h
  refine gw_aload_n (pc' := 1) cx 0 rfl rfl dX5_feelsOf_0 rfl ?_
  refine gw_iload_n (pc' := 2) cx 1 rfl rfl dX5_feelsOf_1 rfl ?_
  refine gw_iconst (pc' := 3) (v := 0) cx ci_0 dX5_feelsOf_2 rfl ?_
  obtain ⟨r2, g1, h⟩ := ob0_some h
  refine gw_cV (pc' := 6) (av := [.int x1, .int 0]) (rest := []) cx (k_X5_its E g1) at49 (by decide) lk_X5_73 dX5_feelsOf_3 rfl (Nat.le_of_ble_eq_true rfl) rfl ?_
  show GW E fr _ 6 _ (.int r2 :: _) _
  rcases ite_some h with ⟨c3, h⟩ | ⟨c3, h⟩
  · refine gw_tin (pc' := 44) (off := 38) 1 cx c3 dX5_feelsOf_6 (by decide) (by decide) ?_
    refine gw_iconst (pc' := 45) (v := 2) cx ci_2 dX5_feelsOf_44 rfl ?_
    refine gw_iload_n (pc' := 46) cx 2 rfl rfl dX5_feelsOf_45 rfl ?_
    refine gw_imul (pc' := 47) cx dX5_feelsOf_46 rfl ?_
    exact gw_iret cx tg (rt0 h) rfl dX5_feelsOf_47
  · skip
    rcases ite_some h with ⟨c4, h⟩ | ⟨c4, h⟩
    · refine gw_tin (pc' := 48) (off := 42) 2 cx c4 dX5_feelsOf_6 (by decide) (by decide) ?_
      refine gw_iload_n (pc' := 49) cx 2 rfl rfl dX5_feelsOf_48 rfl ?_
      refine gw_iconst (pc' := 50) (v := 2) cx ci_2 dX5_feelsOf_49 rfl ?_
      refine gw_idiv (pc' := 51) cx (by decide) dX5_feelsOf_50 rfl ?_
      exact gw_iret cx tg (rt0 h) rfl dX5_feelsOf_51
    · skip
      rcases ite_some h with ⟨c5, h⟩ | ⟨c5, h⟩
      · refine gw_tin (pc' := 52) (off := 46) 3 cx c5 dX5_feelsOf_6 (by decide) (by decide) ?_
        refine gw_iload_n (pc' := 53) cx 2 rfl rfl dX5_feelsOf_52 rfl ?_
        refine gw_iconst (pc' := 54) (v := 2) cx ci_2 dX5_feelsOf_53 rfl ?_
        refine gw_idiv (pc' := 55) cx (by decide) dX5_feelsOf_54 rfl ?_
        refine gw_iconst (pc' := 56) (v := 1) cx ci_1 dX5_feelsOf_55 rfl ?_
        refine gw_iadd (pc' := 57) cx dX5_feelsOf_56 rfl ?_
        exact gw_iret cx tg (rt0 h) rfl dX5_feelsOf_57
      · skip
        rcases ite_some h with ⟨c6, h⟩ | ⟨c6, h⟩
        · refine gw_tin (pc' := 58) (off := 52) 4 cx c6 dX5_feelsOf_6 (by decide) (by decide) ?_
          refine gw_iload_n (pc' := 59) cx 2 rfl rfl dX5_feelsOf_58 rfl ?_
          refine gw_iconst (pc' := 60) (v := 2) cx ci_2 dX5_feelsOf_59 rfl ?_
          refine gw_idiv (pc' := 61) cx (by decide) dX5_feelsOf_60 rfl ?_
          refine gw_iconst (pc' := 62) (v := 1) cx ci_1 dX5_feelsOf_61 rfl ?_
          refine gw_iadd (pc' := 63) cx dX5_feelsOf_62 rfl ?_
          refine gw_aload_n (pc' := 64) cx 0 rfl rfl dX5_feelsOf_63 rfl ?_
          refine gw_iload_n (pc' := 65) cx 1 rfl rfl dX5_feelsOf_64 rfl ?_
          refine gw_iconst (pc' := 66) (v := 3) cx ci_3 dX5_feelsOf_65 rfl ?_
          obtain ⟨r8, g7, h⟩ := ob0_some h
          refine gw_cV (pc' := 69) (av := [.int x1, .int 3]) (rest := [.int ((x2 / 2) + 1)]) cx (k_X5_its E g7) at49 (by decide) lk_X5_73 dX5_feelsOf_66 rfl (Nat.le_of_ble_eq_true rfl) rfl ?_
          show GW E fr _ 69 _ (.int r8 :: _) _
          refine gw_bipush (pc' := 71) (v := 10) cx cb_10 dX5_feelsOf_69 rfl ?_
          refine gw_idiv (pc' := 72) cx (by decide) dX5_feelsOf_71 rfl ?_
          refine gw_iadd (pc' := 73) cx dX5_feelsOf_72 rfl ?_
          exact gw_iret cx tg (rt0 h) rfl dX5_feelsOf_73
        · skip
          rcases ite_some h with ⟨c9, h⟩ | ⟨c9, h⟩
          · refine gw_tin (pc' := 74) (off := 68) 5 cx c9 dX5_feelsOf_6 (by decide) (by decide) ?_
            refine gw_iload_n (pc' := 75) cx 2 rfl rfl dX5_feelsOf_74 rfl ?_
            refine gw_iconst (pc' := 76) (v := 5) cx ci_5 dX5_feelsOf_75 rfl ?_
            rcases ite_some h with ⟨c10, h⟩ | ⟨c10, h⟩
            · refine gw_ic_ge_t (pc' := 83) cx c10 dX5_feelsOf_76 (by decide) ?_
              refine gw_iload_n (pc' := 84) cx 2 rfl rfl dX5_feelsOf_83 rfl ?_
              exact gw_iret cx tg (rt0 h) rfl dX5_feelsOf_84
            · refine gw_ic_ge_f (pc' := 79) cx c10 dX5_feelsOf_76 ⟨83, by decide⟩ rfl ?_
              refine gw_iconst (pc' := 80) (v := 0) cx ci_0 dX5_feelsOf_79 rfl ?_
              refine gw_goto (pc' := 84) cx dX5_feelsOf_80 (by decide) ?_
              exact gw_iret cx tg (rt0 h) rfl dX5_feelsOf_84
          · skip
            rcases ite_some h with ⟨c11, h⟩ | ⟨c11, h⟩
            · refine gw_tin (pc' := 85) (off := 79) 6 cx c11 dX5_feelsOf_6 (by decide) (by decide) ?_
              refine gw_iconst (pc' := 86) (v := 0) cx ci_0 dX5_feelsOf_85 rfl ?_
              refine gw_iconst (pc' := 87) (v := 2) cx ci_2 dX5_feelsOf_86 rfl ?_
              refine gw_iload_n (pc' := 88) cx 2 rfl rfl dX5_feelsOf_87 rfl ?_
              refine gw_imul (pc' := 89) cx dX5_feelsOf_88 rfl ?_
              refine gw_iconst (pc' := 90) (v := 3) cx ci_3 dX5_feelsOf_89 rfl ?_
              refine gw_isub (pc' := 91) cx dX5_feelsOf_90 rfl ?_
              obtain ⟨r13, g12, h⟩ := ob0_some h
              refine gw_cS (pc' := 94) (av := [.int 0, .int ((2 * x2) - 3)]) (rest := []) cx (k_X5_greatest E g12) (by decide) lk_X5_76 dX5_feelsOf_91 rfl (Nat.le_of_ble_eq_true rfl) rfl ?_
              show GW E fr _ 94 _ (.int r13 :: _) _
              exact gw_iret cx tg (rt0 h) rfl dX5_feelsOf_94
            · skip
              refine gw_tout (pc' := 95) cx dX5_feelsOf_6 (by have a1 := lv_neT (a := 1) c3 rfl; have a2 := lv_neT (a := 2) c4 rfl; have a3 := lv_neT (a := 3) c5 rfl; have a4 := lv_neT (a := 4) c6 rfl; have a5 := lv_neT (a := 5) c9 rfl; have a6 := lv_neT (a := 6) c11 rfl; omega) (by decide) ?_
              refine gw_iload_n (pc' := 96) cx 2 rfl rfl dX5_feelsOf_95 rfl ?_
              exact gw_iret cx tg (rt0 h) rfl dX5_feelsOf_96
def f_X5_asksMost (x1 : Int32) (σ : Sg) : Option (Int32) :=
  ob0 (f_X5_its x1 0 σ) fun r2 =>
  if r2 = 1 then
    some 5
  else
    if r2 = 2 then
      some 20
    else
      if r2 = 3 then
        some 0
      else
        if r2 = 4 then
          if (jrem (σ 50 1) 7) = 6 then
            some 3
          else
            some 0
        else
          if r2 = 5 then
            some 10
          else
            if r2 = 6 then
              some 15
            else
              some 10
theorem k_X5_asksMost (E : Ev) {x1 : Int32} {σ : Sg} {r : Int32} (h : f_X5_asksMost x1 σ = some r) : Con E mX5_asksMost 1 [.ref (eA E 49), .int x1] σ (some (.int r)) σ := by
  refine con_of (by decide) (Nat.le_of_ble_eq_true rfl) (fun fr cx tg => ?_)
  show GW E fr 2 0 [(0, .ref (eA E 49)), (1, .int x1)] [] σ
  rw [f_X5_asksMost] at h
  refine gw_aload_n (pc' := 1) cx 0 rfl rfl dX5_asksMost_0 rfl ?_
  refine gw_iload_n (pc' := 2) cx 1 rfl rfl dX5_asksMost_1 rfl ?_
  refine gw_iconst (pc' := 3) (v := 0) cx ci_0 dX5_asksMost_2 rfl ?_
  obtain ⟨r2, g1, h⟩ := ob0_some h
  refine gw_cV (pc' := 6) (av := [.int x1, .int 0]) (rest := []) cx (k_X5_its E g1) at49 (by decide) lk_X5_73 dX5_asksMost_3 rfl (Nat.le_of_ble_eq_true rfl) rfl ?_
  show GW E fr _ 6 _ (.int r2 :: _) _
  rcases ite_some h with ⟨c3, h⟩ | ⟨c3, h⟩
  · refine gw_tin (pc' := 44) (off := 38) 1 cx c3 dX5_asksMost_6 (by decide) (by decide) ?_
    refine gw_iconst (pc' := 45) (v := 5) cx ci_5 dX5_asksMost_44 rfl ?_
    exact gw_iret cx tg (rt0 h) rfl dX5_asksMost_45
  · skip
    rcases ite_some h with ⟨c4, h⟩ | ⟨c4, h⟩
    · refine gw_tin (pc' := 46) (off := 40) 2 cx c4 dX5_asksMost_6 (by decide) (by decide) ?_
      refine gw_bipush (pc' := 48) (v := 20) cx cb_20 dX5_asksMost_46 rfl ?_
      exact gw_iret cx tg (rt0 h) rfl dX5_asksMost_48
    · skip
      rcases ite_some h with ⟨c5, h⟩ | ⟨c5, h⟩
      · refine gw_tin (pc' := 49) (off := 43) 3 cx c5 dX5_asksMost_6 (by decide) (by decide) ?_
        refine gw_iconst (pc' := 50) (v := 0) cx ci_0 dX5_asksMost_49 rfl ?_
        exact gw_iret cx tg (rt0 h) rfl dX5_asksMost_50
      · skip
        rcases ite_some h with ⟨c6, h⟩ | ⟨c6, h⟩
        · refine gw_tin (pc' := 51) (off := 45) 4 cx c6 dX5_asksMost_6 (by decide) (by decide) ?_
          refine gw_aload_n (pc' := 52) cx 0 rfl rfl dX5_asksMost_51 rfl ?_
          refine gw_getR (pc' := 55) cx at49 rfl fl_X5_7 dX5_asksMost_52 rfl ?_
          refine gw_iconst (pc' := 56) (v := 1) cx ci_1 dX5_asksMost_55 rfl ?_
          refine gw_iald (pc' := 57) cx at50 (vpc (by decide)) cn_1 dX5_asksMost_56 rfl ?_
          refine gw_bipush (pc' := 59) (v := 7) cx cb_7 dX5_asksMost_57 rfl ?_
          refine gw_irem (pc' := 60) cx (by decide) dX5_asksMost_59 rfl ?_
          refine gw_bipush (pc' := 62) (v := 6) cx cb_6 dX5_asksMost_60 rfl ?_
          rcases ite_some h with ⟨c7, h⟩ | ⟨c7, h⟩
          · refine gw_ic_ne_f (pc' := 65) cx c7 dX5_asksMost_62 ⟨69, by decide⟩ rfl ?_
            refine gw_iconst (pc' := 66) (v := 3) cx ci_3 dX5_asksMost_65 rfl ?_
            refine gw_goto (pc' := 70) cx dX5_asksMost_66 (by decide) ?_
            exact gw_iret cx tg (rt0 h) rfl dX5_asksMost_70
          · refine gw_ic_ne_t (pc' := 69) cx c7 dX5_asksMost_62 (by decide) ?_
            refine gw_iconst (pc' := 70) (v := 0) cx ci_0 dX5_asksMost_69 rfl ?_
            exact gw_iret cx tg (rt0 h) rfl dX5_asksMost_70
        · skip
          rcases ite_some h with ⟨c8, h⟩ | ⟨c8, h⟩
          · refine gw_tin (pc' := 74) (off := 68) 5 cx c8 dX5_asksMost_6 (by decide) (by decide) ?_
            refine gw_bipush (pc' := 76) (v := 10) cx cb_10 dX5_asksMost_74 rfl ?_
            exact gw_iret cx tg (rt0 h) rfl dX5_asksMost_76
          · skip
            rcases ite_some h with ⟨c9, h⟩ | ⟨c9, h⟩
            · refine gw_tin (pc' := 71) (off := 65) 6 cx c9 dX5_asksMost_6 (by decide) (by decide) ?_
              refine gw_bipush (pc' := 73) (v := 15) cx cb_15 dX5_asksMost_71 rfl ?_
              exact gw_iret cx tg (rt0 h) rfl dX5_asksMost_73
            · skip
              refine gw_tout (pc' := 74) cx dX5_asksMost_6 (by have a1 := lv_neT (a := 1) c3 rfl; have a2 := lv_neT (a := 2) c4 rfl; have a3 := lv_neT (a := 3) c5 rfl; have a4 := lv_neT (a := 4) c6 rfl; have a5 := lv_neT (a := 5) c8 rfl; have a6 := lv_neT (a := 6) c9 rfl; omega) (by decide) ?_
              refine gw_bipush (pc' := 76) (v := 10) cx cb_10 dX5_asksMost_74 rfl ?_
              exact gw_iret cx tg (rt0 h) rfl dX5_asksMost_76
def f_X5_asks (x1 : Int32) (σ : Sg) : Option (Int32) :=
  ob0 (f_X5_asksMost x1 σ) fun r2 =>
  ob0 (f_X5_its x1 1 σ) fun r4 =>
  ob0 (f_X5_least r2 r4 σ) fun r6 =>
  some r6
theorem k_X5_asks (E : Ev) {x1 : Int32} {σ : Sg} {r : Int32} (h : f_X5_asks x1 σ = some r) : Con E mX5_asks 2 [.ref (eA E 49), .int x1] σ (some (.int r)) σ := by
  refine con_of (by decide) (Nat.le_of_ble_eq_true rfl) (fun fr cx tg => ?_)
  show GW E fr 2 0 [(0, .ref (eA E 49)), (1, .int x1)] [] σ
  rw [f_X5_asks] at h
  refine gw_aload_n (pc' := 1) cx 0 rfl rfl dX5_asks_0 rfl ?_
  refine gw_iload_n (pc' := 2) cx 1 rfl rfl dX5_asks_1 rfl ?_
  obtain ⟨r2, g1, h⟩ := ob0_some h
  refine gw_cV (pc' := 5) (av := [.int x1]) (rest := []) cx (k_X5_asksMost E g1) at49 (by decide) lk_X5_79 dX5_asks_2 rfl (Nat.le_of_ble_eq_true rfl) rfl ?_
  show GW E fr _ 5 _ (.int r2 :: _) _
  refine gw_aload_n (pc' := 6) cx 0 rfl rfl dX5_asks_5 rfl ?_
  refine gw_iload_n (pc' := 7) cx 1 rfl rfl dX5_asks_6 rfl ?_
  refine gw_iconst (pc' := 8) (v := 1) cx ci_1 dX5_asks_7 rfl ?_
  obtain ⟨r4, g3, h⟩ := ob0_some h
  refine gw_cV (pc' := 11) (av := [.int x1, .int 1]) (rest := [.int r2]) cx (k_X5_its E g3) at49 (by decide) lk_X5_73 dX5_asks_8 rfl (Nat.le_of_ble_eq_true rfl) rfl ?_
  show GW E fr _ 11 _ (.int r4 :: _) _
  obtain ⟨r6, g5, h⟩ := ob0_some h
  refine gw_cS (pc' := 14) (av := [.int r2, .int r4]) (rest := []) cx (k_X5_least E g5) (by decide) lk_X5_82 dX5_asks_11 rfl (Nat.le_of_ble_eq_true rfl) rfl ?_
  show GW E fr _ 14 _ (.int r6 :: _) _
  exact gw_iret cx tg (rt0 h) rfl dX5_asks_14
def f_X5_room (x1 : Int32) (σ : Sg) : Option (Int32) :=
  ob0 (f_X5_its x1 2 σ) fun r2 =>
  ob0 (f_X5_its x1 3 σ) fun r4 =>
  ob0 (f_X5_greatest 0 (r2 - r4) σ) fun r6 =>
  ob0 (f_X5_its x1 0 σ) fun r8 =>
  if r8 = 1 then
    some (r6 / 2)
  else
    if r8 = 2 then
      some r6
    else
      if r8 = 3 then
        ob0 (f_X5_its x1 2 σ) fun r13 =>
        some (r6 + r13)
      else
        if r8 = 4 then
          ob0 (f_X5_its x1 2 σ) fun r16 =>
          some (r6 + r16)
        else
          if r8 = 5 then
            ob0 (f_X5_its x1 3 σ) fun r19 =>
            if r19 = 0 then
              some 99
            else
              some r6
          else
            if r8 = 6 then
              some ((r6 / 2) + 5)
            else
              some r6
theorem k_X5_room (E : Ev) {x1 : Int32} {σ : Sg} {r : Int32} (h : f_X5_room x1 σ = some r) : Con E mX5_room 1 [.ref (eA E 49), .int x1] σ (some (.int r)) σ := by
  refine con_of (by decide) (Nat.le_of_ble_eq_true rfl) (fun fr cx tg => ?_)
  show GW E fr 3 0 [(0, .ref (eA E 49)), (1, .int x1)] [] σ
  rw [f_X5_room] at h
  refine gw_iconst (pc' := 1) (v := 0) cx ci_0 dX5_room_0 rfl ?_
  refine gw_aload_n (pc' := 2) cx 0 rfl rfl dX5_room_1 rfl ?_
  refine gw_iload_n (pc' := 3) cx 1 rfl rfl dX5_room_2 rfl ?_
  refine gw_iconst (pc' := 4) (v := 2) cx ci_2 dX5_room_3 rfl ?_
  obtain ⟨r2, g1, h⟩ := ob0_some h
  refine gw_cV (pc' := 7) (av := [.int x1, .int 2]) (rest := [.int 0]) cx (k_X5_its E g1) at49 (by decide) lk_X5_73 dX5_room_4 rfl (Nat.le_of_ble_eq_true rfl) rfl ?_
  show GW E fr _ 7 _ (.int r2 :: _) _
  refine gw_aload_n (pc' := 8) cx 0 rfl rfl dX5_room_7 rfl ?_
  refine gw_iload_n (pc' := 9) cx 1 rfl rfl dX5_room_8 rfl ?_
  refine gw_iconst (pc' := 10) (v := 3) cx ci_3 dX5_room_9 rfl ?_
  obtain ⟨r4, g3, h⟩ := ob0_some h
  refine gw_cV (pc' := 13) (av := [.int x1, .int 3]) (rest := [.int r2, .int 0]) cx (k_X5_its E g3) at49 (by decide) lk_X5_73 dX5_room_10 rfl (Nat.le_of_ble_eq_true rfl) rfl ?_
  show GW E fr _ 13 _ (.int r4 :: _) _
  refine gw_isub (pc' := 14) cx dX5_room_13 rfl ?_
  obtain ⟨r6, g5, h⟩ := ob0_some h
  refine gw_cS (pc' := 17) (av := [.int 0, .int (r2 - r4)]) (rest := []) cx (k_X5_greatest E g5) (by decide) lk_X5_76 dX5_room_14 rfl (Nat.le_of_ble_eq_true rfl) rfl ?_
  show GW E fr _ 17 _ (.int r6 :: _) _
  refine gw_istore_n (pc' := 18) (lv' := [(2, .int r6), (0, .ref (eA E 49)), (1, .int x1)]) cx rfl rfl (by decide) dX5_room_17 rfl ?_
  refine gw_aload_n (pc' := 19) cx 1 rfl rfl dX5_room_18 rfl ?_
  refine gw_iload_n (pc' := 20) cx 2 rfl rfl dX5_room_19 rfl ?_
  refine gw_iconst (pc' := 21) (v := 0) cx ci_0 dX5_room_20 rfl ?_
  obtain ⟨r8, g7, h⟩ := ob0_some h
  refine gw_cV (pc' := 24) (av := [.int x1, .int 0]) (rest := []) cx (k_X5_its E g7) at49 (by decide) lk_X5_73 dX5_room_21 rfl (Nat.le_of_ble_eq_true rfl) rfl ?_
  show GW E fr _ 24 _ (.int r8 :: _) _
  rcases ite_some h with ⟨c9, h⟩ | ⟨c9, h⟩
  · refine gw_tin (pc' := 64) (off := 40) 1 cx c9 dX5_room_24 (by decide) (by decide) ?_
    refine gw_iload_n (pc' := 65) cx 0 rfl rfl dX5_room_64 rfl ?_
    refine gw_iconst (pc' := 66) (v := 2) cx ci_2 dX5_room_65 rfl ?_
    refine gw_idiv (pc' := 67) cx (by decide) dX5_room_66 rfl ?_
    exact gw_iret cx tg (rt0 h) rfl dX5_room_67
  · skip
    rcases ite_some h with ⟨c10, h⟩ | ⟨c10, h⟩
    · refine gw_tin (pc' := 99) (off := 75) 2 cx c10 dX5_room_24 (by decide) (by decide) ?_
      refine gw_iload_n (pc' := 100) cx 0 rfl rfl dX5_room_99 rfl ?_
      exact gw_iret cx tg (rt0 h) rfl dX5_room_100
    · skip
      rcases ite_some h with ⟨c11, h⟩ | ⟨c11, h⟩
      · refine gw_tin (pc' := 68) (off := 44) 3 cx c11 dX5_room_24 (by decide) (by decide) ?_
        refine gw_iload_n (pc' := 69) cx 0 rfl rfl dX5_room_68 rfl ?_
        refine gw_aload_n (pc' := 70) cx 1 rfl rfl dX5_room_69 rfl ?_
        refine gw_iload_n (pc' := 71) cx 2 rfl rfl dX5_room_70 rfl ?_
        refine gw_iconst (pc' := 72) (v := 2) cx ci_2 dX5_room_71 rfl ?_
        obtain ⟨r13, g12, h⟩ := ob0_some h
        refine gw_cV (pc' := 75) (av := [.int x1, .int 2]) (rest := [.int r6]) cx (k_X5_its E g12) at49 (by decide) lk_X5_73 dX5_room_72 rfl (Nat.le_of_ble_eq_true rfl) rfl ?_
        show GW E fr _ 75 _ (.int r13 :: _) _
        refine gw_iadd (pc' := 76) cx dX5_room_75 rfl ?_
        exact gw_iret cx tg (rt0 h) rfl dX5_room_76
      · skip
        rcases ite_some h with ⟨c14, h⟩ | ⟨c14, h⟩
        · refine gw_tin (pc' := 68) (off := 44) 4 cx c14 dX5_room_24 (by decide) (by decide) ?_
          refine gw_iload_n (pc' := 69) cx 0 rfl rfl dX5_room_68 rfl ?_
          refine gw_aload_n (pc' := 70) cx 1 rfl rfl dX5_room_69 rfl ?_
          refine gw_iload_n (pc' := 71) cx 2 rfl rfl dX5_room_70 rfl ?_
          refine gw_iconst (pc' := 72) (v := 2) cx ci_2 dX5_room_71 rfl ?_
          obtain ⟨r16, g15, h⟩ := ob0_some h
          refine gw_cV (pc' := 75) (av := [.int x1, .int 2]) (rest := [.int r6]) cx (k_X5_its E g15) at49 (by decide) lk_X5_73 dX5_room_72 rfl (Nat.le_of_ble_eq_true rfl) rfl ?_
          show GW E fr _ 75 _ (.int r16 :: _) _
          refine gw_iadd (pc' := 76) cx dX5_room_75 rfl ?_
          exact gw_iret cx tg (rt0 h) rfl dX5_room_76
        · skip
          rcases ite_some h with ⟨c17, h⟩ | ⟨c17, h⟩
          · refine gw_tin (pc' := 77) (off := 53) 5 cx c17 dX5_room_24 (by decide) (by decide) ?_
            refine gw_aload_n (pc' := 78) cx 1 rfl rfl dX5_room_77 rfl ?_
            refine gw_iload_n (pc' := 79) cx 2 rfl rfl dX5_room_78 rfl ?_
            refine gw_iconst (pc' := 80) (v := 3) cx ci_3 dX5_room_79 rfl ?_
            obtain ⟨r19, g18, h⟩ := ob0_some h
            refine gw_cV (pc' := 83) (av := [.int x1, .int 3]) (rest := []) cx (k_X5_its E g18) at49 (by decide) lk_X5_73 dX5_room_80 rfl (Nat.le_of_ble_eq_true rfl) rfl ?_
            show GW E fr _ 83 _ (.int r19 :: _) _
            rcases ite_some h with ⟨c20, h⟩ | ⟨c20, h⟩
            · refine gw_if_ne_f (pc' := 86) cx c20 dX5_room_83 ⟨91, by decide⟩ rfl ?_
              refine gw_bipush (pc' := 88) (v := 99) cx cb_99 dX5_room_86 rfl ?_
              refine gw_goto (pc' := 92) cx dX5_room_88 (by decide) ?_
              exact gw_iret cx tg (rt0 h) rfl dX5_room_92
            · refine gw_if_ne_t (pc' := 91) cx c20 dX5_room_83 (by decide) ?_
              refine gw_iload_n (pc' := 92) cx 0 rfl rfl dX5_room_91 rfl ?_
              exact gw_iret cx tg (rt0 h) rfl dX5_room_92
          · skip
            rcases ite_some h with ⟨c21, h⟩ | ⟨c21, h⟩
            · refine gw_tin (pc' := 93) (off := 69) 6 cx c21 dX5_room_24 (by decide) (by decide) ?_
              refine gw_iload_n (pc' := 94) cx 0 rfl rfl dX5_room_93 rfl ?_
              refine gw_iconst (pc' := 95) (v := 2) cx ci_2 dX5_room_94 rfl ?_
              refine gw_idiv (pc' := 96) cx (by decide) dX5_room_95 rfl ?_
              refine gw_iconst (pc' := 97) (v := 5) cx ci_5 dX5_room_96 rfl ?_
              refine gw_iadd (pc' := 98) cx dX5_room_97 rfl ?_
              exact gw_iret cx tg (rt0 h) rfl dX5_room_98
            · skip
              refine gw_tout (pc' := 99) cx dX5_room_24 (by have a1 := lv_neT (a := 1) c9 rfl; have a2 := lv_neT (a := 2) c10 rfl; have a3 := lv_neT (a := 3) c11 rfl; have a4 := lv_neT (a := 4) c14 rfl; have a5 := lv_neT (a := 5) c17 rfl; have a6 := lv_neT (a := 6) c21 rfl; omega) (by decide) ?_
              refine gw_iload_n (pc' := 100) cx 0 rfl rfl dX5_room_99 rfl ?_
              exact gw_iret cx tg (rt0 h) rfl dX5_room_100
def f_X5_forgets (x1 : Int32) (σ : Sg) : Option (Int32) :=
  ob0 (f_X5_its x1 0 σ) fun r2 =>
  if r2 = 1 then
    some 0
  else
    if r2 = 2 then
      some 3
    else
      if r2 = 3 then
        some 3
      else
        if r2 = 4 then
          some 6
        else
          some 1
theorem k_X5_forgets (E : Ev) {x1 : Int32} {σ : Sg} {r : Int32} (h : f_X5_forgets x1 σ = some r) : Con E mX5_forgets 1 [.ref (eA E 49), .int x1] σ (some (.int r)) σ := by
  refine con_of (by decide) (Nat.le_of_ble_eq_true rfl) (fun fr cx tg => ?_)
  show GW E fr 2 0 [(0, .ref (eA E 49)), (1, .int x1)] [] σ
  rw [f_X5_forgets] at h
  refine gw_aload_n (pc' := 1) cx 0 rfl rfl dX5_forgets_0 rfl ?_
  refine gw_iload_n (pc' := 2) cx 1 rfl rfl dX5_forgets_1 rfl ?_
  refine gw_iconst (pc' := 3) (v := 0) cx ci_0 dX5_forgets_2 rfl ?_
  obtain ⟨r2, g1, h⟩ := ob0_some h
  refine gw_cV (pc' := 6) (av := [.int x1, .int 0]) (rest := []) cx (k_X5_its E g1) at49 (by decide) lk_X5_73 dX5_forgets_3 rfl (Nat.le_of_ble_eq_true rfl) rfl ?_
  show GW E fr _ 6 _ (.int r2 :: _) _
  rcases ite_some h with ⟨c3, h⟩ | ⟨c3, h⟩
  · refine gw_tin (pc' := 36) (off := 30) 1 cx c3 dX5_forgets_6 (by decide) (by decide) ?_
    refine gw_iconst (pc' := 37) (v := 0) cx ci_0 dX5_forgets_36 rfl ?_
    exact gw_iret cx tg (rt0 h) rfl dX5_forgets_37
  · skip
    rcases ite_some h with ⟨c4, h⟩ | ⟨c4, h⟩
    · refine gw_tin (pc' := 38) (off := 32) 2 cx c4 dX5_forgets_6 (by decide) (by decide) ?_
      refine gw_iconst (pc' := 39) (v := 3) cx ci_3 dX5_forgets_38 rfl ?_
      exact gw_iret cx tg (rt0 h) rfl dX5_forgets_39
    · skip
      rcases ite_some h with ⟨c5, h⟩ | ⟨c5, h⟩
      · refine gw_tin (pc' := 38) (off := 32) 3 cx c5 dX5_forgets_6 (by decide) (by decide) ?_
        refine gw_iconst (pc' := 39) (v := 3) cx ci_3 dX5_forgets_38 rfl ?_
        exact gw_iret cx tg (rt0 h) rfl dX5_forgets_39
      · skip
        rcases ite_some h with ⟨c6, h⟩ | ⟨c6, h⟩
        · refine gw_tin (pc' := 40) (off := 34) 4 cx c6 dX5_forgets_6 (by decide) (by decide) ?_
          refine gw_bipush (pc' := 42) (v := 6) cx cb_6 dX5_forgets_40 rfl ?_
          exact gw_iret cx tg (rt0 h) rfl dX5_forgets_42
        · skip
          refine gw_tout (pc' := 43) cx dX5_forgets_6 (by have a1 := lv_neT (a := 1) c3 rfl; have a2 := lv_neT (a := 2) c4 rfl; have a3 := lv_neT (a := 3) c5 rfl; have a4 := lv_neT (a := 4) c6 rfl; omega) (by decide) ?_
          refine gw_iconst (pc' := 44) (v := 1) cx ci_1 dX5_forgets_43 rfl ?_
          exact gw_iret cx tg (rt0 h) rfl dX5_forgets_44
def f_X5_of (x1 : Int32) (x2 : Int32) (σ : Sg) : Option (Int32 × Sg) :=
  ob0 (f_X5_isOne x1 σ) fun r2 =>
  if r2 = 0 then
    ob2 (f_X5_finds (-1000001) σ) fun r5 s6 =>
    some (r5, s6)
  else
    ob0 (f_X5_isIn x2.toInt64 (0 : Int64) (7 : Int64) σ) fun r8 =>
    if r8 = 0 then
      ob2 (f_X5_finds (-1000001) σ) fun r11 s12 =>
      some (r11, s12)
    else
      if x2 = 5 then
        ob0 (f_X5_asks x1 σ) fun r15 =>
        some (r15, σ)
      else
        if x2 = 6 then
          ob0 (f_X5_room x1 σ) fun r18 =>
          some (r18, σ)
        else
          if x2 = 7 then
            ob0 (f_X5_forgets x1 σ) fun r21 =>
            some (r21, σ)
          else
            ob0 (f_X5_its x1 x2 σ) fun r23 =>
            some (r23, σ)
theorem k_X5_of (E : Ev) {x1 : Int32} {x2 : Int32} {σ : Sg} {r : Int32} {σ' : Sg} (h : f_X5_of x1 x2 σ = some (r, σ')) : Con E mX5_of 3 [.ref (eA E 49), .int x1, .int x2] σ (some (.int r)) σ' := by
  refine con_of (by decide) (Nat.le_of_ble_eq_true rfl) (fun fr cx tg => ?_)
  show GW E fr 3 0 [(0, .ref (eA E 49)), (1, .int x1), (2, .int x2)] [] σ
  rw [f_X5_of] at h
  refine gw_aload_n (pc' := 1) cx 0 rfl rfl dX5_of_0 rfl ?_
  refine gw_iload_n (pc' := 2) cx 1 rfl rfl dX5_of_1 rfl ?_
  obtain ⟨r2, g1, h⟩ := ob0_some h
  refine gw_cV (pc' := 5) (av := [.int x1]) (rest := []) cx (k_X5_isOne E g1) at49 (by decide) lk_X5_85 dX5_of_2 rfl (Nat.le_of_ble_eq_true rfl) rfl ?_
  show GW E fr _ 5 _ (.int r2 :: _) _
  rcases ite_some h with ⟨c3, h⟩ | ⟨c3, h⟩
  · refine gw_if_eq_t (pc' := 20) cx c3 dX5_of_5 (by decide) ?_
    refine gw_aload_n (pc' := 21) cx 0 rfl rfl dX5_of_20 rfl ?_
    refine gw_ldc (pc' := 23) (v := (-1000001)) cx ct_X5_37 dX5_of_21 rfl ?_
    obtain ⟨r5, s6, g4, h⟩ := ob2_some h
    refine gw_cV (pc' := 26) (av := [.int (-1000001)]) (rest := []) cx (k_X5_finds E g4) at49 (by decide) lk_X5_39 dX5_of_23 rfl (Nat.le_of_ble_eq_true rfl) rfl ?_
    show GW E fr _ 26 _ (.int r5 :: _) _
    exact gw_iret cx tg (rt1 h) (rt2 h) dX5_of_26
  · refine gw_if_eq_f (pc' := 8) cx c3 dX5_of_5 ⟨20, by decide⟩ rfl ?_
    refine gw_iload_n (pc' := 9) cx 2 rfl rfl dX5_of_8 rfl ?_
    refine gw_i2l (pc' := 10) cx dX5_of_9 rfl ?_
    refine gw_lconst (pc' := 11) (v := 0) cx cl_0 dX5_of_10 rfl ?_
    refine gw_ldc2_w (pc' := 14) (v := 7) cx ct_X5_53 dX5_of_11 rfl ?_
    obtain ⟨r8, g7, h⟩ := ob0_some h
    refine gw_cS (pc' := 17) (av := [.long x2.toInt64, .long (0 : Int64), .long (7 : Int64)]) (rest := []) cx (k_X5_isIn E g7) (by decide) lk_X5_45 dX5_of_14 rfl (Nat.le_of_ble_eq_true rfl) rfl ?_
    show GW E fr _ 17 _ (.int r8 :: _) _
    rcases ite_some h with ⟨c9, h⟩ | ⟨c9, h⟩
    · refine gw_if_ne_f (pc' := 20) cx c9 dX5_of_17 ⟨27, by decide⟩ rfl ?_
      refine gw_aload_n (pc' := 21) cx 0 rfl rfl dX5_of_20 rfl ?_
      refine gw_ldc (pc' := 23) (v := (-1000001)) cx ct_X5_37 dX5_of_21 rfl ?_
      obtain ⟨r11, s12, g10, h⟩ := ob2_some h
      refine gw_cV (pc' := 26) (av := [.int (-1000001)]) (rest := []) cx (k_X5_finds E g10) at49 (by decide) lk_X5_39 dX5_of_23 rfl (Nat.le_of_ble_eq_true rfl) rfl ?_
      show GW E fr _ 26 _ (.int r11 :: _) _
      exact gw_iret cx tg (rt1 h) (rt2 h) dX5_of_26
    · refine gw_if_ne_t (pc' := 27) cx c9 dX5_of_17 (by decide) ?_
      refine gw_iload_n (pc' := 28) cx 2 rfl rfl dX5_of_27 rfl ?_
      rcases ite_some h with ⟨c13, h⟩ | ⟨c13, h⟩
      · refine gw_tin (pc' := 56) (off := 28) 5 cx c13 dX5_of_28 (by decide) (by decide) ?_
        refine gw_aload_n (pc' := 57) cx 0 rfl rfl dX5_of_56 rfl ?_
        refine gw_iload_n (pc' := 58) cx 1 rfl rfl dX5_of_57 rfl ?_
        obtain ⟨r15, g14, h⟩ := ob0_some h
        refine gw_cV (pc' := 61) (av := [.int x1]) (rest := []) cx (k_X5_asks E g14) at49 (by decide) lk_X5_88 dX5_of_58 rfl (Nat.le_of_ble_eq_true rfl) rfl ?_
        show GW E fr _ 61 _ (.int r15 :: _) _
        exact gw_iret cx tg (rt1 h) (rt2 h) dX5_of_61
      · skip
        rcases ite_some h with ⟨c16, h⟩ | ⟨c16, h⟩
        · refine gw_tin (pc' := 62) (off := 34) 6 cx c16 dX5_of_28 (by decide) (by decide) ?_
          refine gw_aload_n (pc' := 63) cx 0 rfl rfl dX5_of_62 rfl ?_
          refine gw_iload_n (pc' := 64) cx 1 rfl rfl dX5_of_63 rfl ?_
          obtain ⟨r18, g17, h⟩ := ob0_some h
          refine gw_cV (pc' := 67) (av := [.int x1]) (rest := []) cx (k_X5_room E g17) at49 (by decide) lk_X5_91 dX5_of_64 rfl (Nat.le_of_ble_eq_true rfl) rfl ?_
          show GW E fr _ 67 _ (.int r18 :: _) _
          exact gw_iret cx tg (rt1 h) (rt2 h) dX5_of_67
        · skip
          rcases ite_some h with ⟨c19, h⟩ | ⟨c19, h⟩
          · refine gw_tin (pc' := 68) (off := 40) 7 cx c19 dX5_of_28 (by decide) (by decide) ?_
            refine gw_aload_n (pc' := 69) cx 0 rfl rfl dX5_of_68 rfl ?_
            refine gw_iload_n (pc' := 70) cx 1 rfl rfl dX5_of_69 rfl ?_
            obtain ⟨r21, g20, h⟩ := ob0_some h
            refine gw_cV (pc' := 73) (av := [.int x1]) (rest := []) cx (k_X5_forgets E g20) at49 (by decide) lk_X5_94 dX5_of_70 rfl (Nat.le_of_ble_eq_true rfl) rfl ?_
            show GW E fr _ 73 _ (.int r21 :: _) _
            exact gw_iret cx tg (rt1 h) (rt2 h) dX5_of_73
          · skip
            refine gw_tout (pc' := 74) cx dX5_of_28 (by have a5 := lv_neT (a := 5) c13 rfl; have a6 := lv_neT (a := 6) c16 rfl; have a7 := lv_neT (a := 7) c19 rfl; omega) (by decide) ?_
            refine gw_aload_n (pc' := 75) cx 0 rfl rfl dX5_of_74 rfl ?_
            refine gw_iload_n (pc' := 76) cx 1 rfl rfl dX5_of_75 rfl ?_
            refine gw_iload_n (pc' := 77) cx 2 rfl rfl dX5_of_76 rfl ?_
            obtain ⟨r23, g22, h⟩ := ob0_some h
            refine gw_cV (pc' := 80) (av := [.int x1, .int x2]) (rest := []) cx (k_X5_its E g22) at49 (by decide) lk_X5_73 dX5_of_77 rfl (Nat.le_of_ble_eq_true rfl) rfl ?_
            show GW E fr _ 80 _ (.int r23 :: _) _
            exact gw_iret cx tg (rt1 h) (rt2 h) dX5_of_80
def f_X5_greatestOf (x0 : Int32) (σ : Sg) : Option (Int32) :=
  if x0 = 0 then
    some 6
  else
    if x0 = 2 then
      some 99
    else
      some 9999
theorem k_X5_greatestOf (E : Ev) {x0 : Int32} {σ : Sg} {r : Int32} (h : f_X5_greatestOf x0 σ = some r) : Con E mX5_greatestOf 0 [.int x0] σ (some (.int r)) σ := by
  refine con_of (by decide) (Nat.le_of_ble_eq_true rfl) (fun fr cx tg => ?_)
  show GW E fr 1 0 [(0, .int x0)] [] σ
  rw [f_X5_greatestOf] at h
  refine gw_iload_n (pc' := 1) cx 0 rfl rfl dX5_greatestOf_0 rfl ?_
  rcases ite_some h with ⟨c1, h⟩ | ⟨c1, h⟩
  · refine gw_if_ne_f (pc' := 4) cx c1 dX5_greatestOf_1 ⟨9, by decide⟩ rfl ?_
    refine gw_bipush (pc' := 6) (v := 6) cx cb_6 dX5_greatestOf_4 rfl ?_
    refine gw_goto (pc' := 22) cx dX5_greatestOf_6 (by decide) ?_
    exact gw_iret cx tg (rt0 h) rfl dX5_greatestOf_22
  · refine gw_if_ne_t (pc' := 9) cx c1 dX5_greatestOf_1 (by decide) ?_
    refine gw_iload_n (pc' := 10) cx 0 rfl rfl dX5_greatestOf_9 rfl ?_
    refine gw_iconst (pc' := 11) (v := 2) cx ci_2 dX5_greatestOf_10 rfl ?_
    rcases ite_some h with ⟨c2, h⟩ | ⟨c2, h⟩
    · refine gw_ic_ne_f (pc' := 14) cx c2 dX5_greatestOf_11 ⟨19, by decide⟩ rfl ?_
      refine gw_bipush (pc' := 16) (v := 99) cx cb_99 dX5_greatestOf_14 rfl ?_
      refine gw_goto (pc' := 22) cx dX5_greatestOf_16 (by decide) ?_
      exact gw_iret cx tg (rt0 h) rfl dX5_greatestOf_22
    · refine gw_ic_ne_t (pc' := 19) cx c2 dX5_greatestOf_11 (by decide) ?_
      refine gw_sipush (pc' := 22) (v := 9999) cx cs_9999 dX5_greatestOf_19 rfl ?_
      exact gw_iret cx tg (rt0 h) rfl dX5_greatestOf_22
def f_X5_change (x1 : Int32) (x2 : Int32) (x3 : Int32) (σ : Sg) : Option (Int32 × Sg) :=
  ob0 (f_X5_isOne x1 σ) fun r2 =>
  if r2 = 0 then
    ob2 (f_X5_finds (-1000001) σ) fun r5 s6 =>
    some (r5, s6)
  else
    ob0 (f_X5_isIn x2.toInt64 (0 : Int64) (4 : Int64) σ) fun r8 =>
    if r8 = 0 then
      ob2 (f_X5_finds (-1000001) σ) fun r11 s12 =>
      some (r11, s12)
    else
      ob0 (f_X5_greatestOf x2 σ) fun r14 =>
      ob0 (f_X5_isIn x3.toInt64 (0 : Int64) r14.toInt64 σ) fun r16 =>
      if r16 = 0 then
        ob2 (f_X5_finds (-1000001) σ) fun r19 s20 =>
        some (r19, s20)
      else
        ob0 (f_X5_at x1 x2 σ) fun r22 =>
        ob2 (f_X5_becomes r22 x3 σ) fun r24 s25 =>
        some (r24, s25)
theorem k_X5_change (E : Ev) {x1 : Int32} {x2 : Int32} {x3 : Int32} {σ : Sg} {r : Int32} {σ' : Sg} (h : f_X5_change x1 x2 x3 σ = some (r, σ')) : Con E mX5_change 1 [.ref (eA E 49), .int x1, .int x2, .int x3] σ (some (.int r)) σ' := by
  refine con_of (by decide) (Nat.le_of_ble_eq_true rfl) (fun fr cx tg => ?_)
  show GW E fr 5 0 [(0, .ref (eA E 49)), (1, .int x1), (2, .int x2), (3, .int x3)] [] σ
  rw [f_X5_change] at h
  refine gw_aload_n (pc' := 1) cx 0 rfl rfl dX5_change_0 rfl ?_
  refine gw_iload_n (pc' := 2) cx 1 rfl rfl dX5_change_1 rfl ?_
  obtain ⟨r2, g1, h⟩ := ob0_some h
  refine gw_cV (pc' := 5) (av := [.int x1]) (rest := []) cx (k_X5_isOne E g1) at49 (by decide) lk_X5_85 dX5_change_2 rfl (Nat.le_of_ble_eq_true rfl) rfl ?_
  show GW E fr _ 5 _ (.int r2 :: _) _
  rcases ite_some h with ⟨c3, h⟩ | ⟨c3, h⟩
  · refine gw_if_eq_t (pc' := 38) cx c3 dX5_change_5 (by decide) ?_
    refine gw_iconst (pc' := 39) (v := 0) cx ci_0 dX5_change_38 rfl ?_
    refine gw_istore (pc' := 41) (lv' := [(4, .int 0), (0, .ref (eA E 49)), (1, .int x1), (2, .int x2), (3, .int x3)]) cx rfl (by decide) dX5_change_39 rfl ?_
    refine gw_iload (pc' := 43) cx 0 rfl dX5_change_41 rfl ?_
    refine gw_if_eq_t (pc' := 59) cx (by decide) dX5_change_43 (by decide) ?_
    refine gw_aload_n (pc' := 60) cx 1 rfl rfl dX5_change_59 rfl ?_
    refine gw_ldc (pc' := 62) (v := (-1000001)) cx ct_X5_37 dX5_change_60 rfl ?_
    obtain ⟨r5, s6, g4, h⟩ := ob2_some h
    refine gw_cV (pc' := 65) (av := [.int (-1000001)]) (rest := []) cx (k_X5_finds E g4) at49 (by decide) lk_X5_39 dX5_change_62 rfl (Nat.le_of_ble_eq_true rfl) rfl ?_
    show GW E fr _ 65 _ (.int r5 :: _) _
    exact gw_iret cx tg (rt1 h) (rt2 h) dX5_change_65
  · refine gw_if_eq_f (pc' := 8) cx c3 dX5_change_5 ⟨38, by decide⟩ rfl ?_
    refine gw_iload_n (pc' := 9) cx 2 rfl rfl dX5_change_8 rfl ?_
    refine gw_i2l (pc' := 10) cx dX5_change_9 rfl ?_
    refine gw_lconst (pc' := 11) (v := 0) cx cl_0 dX5_change_10 rfl ?_
    refine gw_ldc2_w (pc' := 14) (v := 4) cx ct_X5_97 dX5_change_11 rfl ?_
    obtain ⟨r8, g7, h⟩ := ob0_some h
    refine gw_cS (pc' := 17) (av := [.long x2.toInt64, .long (0 : Int64), .long (4 : Int64)]) (rest := []) cx (k_X5_isIn E g7) (by decide) lk_X5_45 dX5_change_14 rfl (Nat.le_of_ble_eq_true rfl) rfl ?_
    show GW E fr _ 17 _ (.int r8 :: _) _
    rcases ite_some h with ⟨c9, h⟩ | ⟨c9, h⟩
    · refine gw_if_eq_t (pc' := 38) cx c9 dX5_change_17 (by decide) ?_
      refine gw_iconst (pc' := 39) (v := 0) cx ci_0 dX5_change_38 rfl ?_
      refine gw_istore (pc' := 41) (lv' := [(4, .int 0), (0, .ref (eA E 49)), (1, .int x1), (2, .int x2), (3, .int x3)]) cx rfl (by decide) dX5_change_39 rfl ?_
      refine gw_iload (pc' := 43) cx 0 rfl dX5_change_41 rfl ?_
      refine gw_if_eq_t (pc' := 59) cx (by decide) dX5_change_43 (by decide) ?_
      refine gw_aload_n (pc' := 60) cx 1 rfl rfl dX5_change_59 rfl ?_
      refine gw_ldc (pc' := 62) (v := (-1000001)) cx ct_X5_37 dX5_change_60 rfl ?_
      obtain ⟨r11, s12, g10, h⟩ := ob2_some h
      refine gw_cV (pc' := 65) (av := [.int (-1000001)]) (rest := []) cx (k_X5_finds E g10) at49 (by decide) lk_X5_39 dX5_change_62 rfl (Nat.le_of_ble_eq_true rfl) rfl ?_
      show GW E fr _ 65 _ (.int r11 :: _) _
      exact gw_iret cx tg (rt1 h) (rt2 h) dX5_change_65
    · refine gw_if_eq_f (pc' := 20) cx c9 dX5_change_17 ⟨38, by decide⟩ rfl ?_
      refine gw_iload_n (pc' := 21) cx 3 rfl rfl dX5_change_20 rfl ?_
      refine gw_i2l (pc' := 22) cx dX5_change_21 rfl ?_
      refine gw_lconst (pc' := 23) (v := 0) cx cl_0 dX5_change_22 rfl ?_
      refine gw_iload_n (pc' := 24) cx 2 rfl rfl dX5_change_23 rfl ?_
      obtain ⟨r14, g13, h⟩ := ob0_some h
      refine gw_cS (pc' := 27) (av := [.int x2]) (rest := [.long (0 : Int64), .long x3.toInt64]) cx (k_X5_greatestOf E g13) (by decide) lk_X5_99 dX5_change_24 rfl (Nat.le_of_ble_eq_true rfl) rfl ?_
      show GW E fr _ 27 _ (.int r14 :: _) _
      refine gw_i2l (pc' := 28) cx dX5_change_27 rfl ?_
      obtain ⟨r16, g15, h⟩ := ob0_some h
      refine gw_cS (pc' := 31) (av := [.long x3.toInt64, .long (0 : Int64), .long r14.toInt64]) (rest := []) cx (k_X5_isIn E g15) (by decide) lk_X5_45 dX5_change_28 rfl (Nat.le_of_ble_eq_true rfl) rfl ?_
      show GW E fr _ 31 _ (.int r16 :: _) _
      rcases ite_some h with ⟨c17, h⟩ | ⟨c17, h⟩
      · refine gw_if_eq_t (pc' := 38) cx c17 dX5_change_31 (by decide) ?_
        refine gw_iconst (pc' := 39) (v := 0) cx ci_0 dX5_change_38 rfl ?_
        refine gw_istore (pc' := 41) (lv' := [(4, .int 0), (0, .ref (eA E 49)), (1, .int x1), (2, .int x2), (3, .int x3)]) cx rfl (by decide) dX5_change_39 rfl ?_
        refine gw_iload (pc' := 43) cx 0 rfl dX5_change_41 rfl ?_
        refine gw_if_eq_t (pc' := 59) cx (by decide) dX5_change_43 (by decide) ?_
        refine gw_aload_n (pc' := 60) cx 1 rfl rfl dX5_change_59 rfl ?_
        refine gw_ldc (pc' := 62) (v := (-1000001)) cx ct_X5_37 dX5_change_60 rfl ?_
        obtain ⟨r19, s20, g18, h⟩ := ob2_some h
        refine gw_cV (pc' := 65) (av := [.int (-1000001)]) (rest := []) cx (k_X5_finds E g18) at49 (by decide) lk_X5_39 dX5_change_62 rfl (Nat.le_of_ble_eq_true rfl) rfl ?_
        show GW E fr _ 65 _ (.int r19 :: _) _
        exact gw_iret cx tg (rt1 h) (rt2 h) dX5_change_65
      · refine gw_if_eq_f (pc' := 34) cx c17 dX5_change_31 ⟨38, by decide⟩ rfl ?_
        refine gw_iconst (pc' := 35) (v := 1) cx ci_1 dX5_change_34 rfl ?_
        refine gw_goto (pc' := 39) cx dX5_change_35 (by decide) ?_
        refine gw_istore (pc' := 41) (lv' := [(4, .int 1), (0, .ref (eA E 49)), (1, .int x1), (2, .int x2), (3, .int x3)]) cx rfl (by decide) dX5_change_39 rfl ?_
        refine gw_iload (pc' := 43) cx 0 rfl dX5_change_41 rfl ?_
        refine gw_if_eq_f (pc' := 46) cx (by decide) dX5_change_43 ⟨59, by decide⟩ rfl ?_
        refine gw_aload_n (pc' := 47) cx 1 rfl rfl dX5_change_46 rfl ?_
        refine gw_iload_n (pc' := 48) cx 2 rfl rfl dX5_change_47 rfl ?_
        refine gw_iload_n (pc' := 49) cx 3 rfl rfl dX5_change_48 rfl ?_
        obtain ⟨r22, g21, h⟩ := ob0_some h
        refine gw_cS (pc' := 52) (av := [.int x1, .int x2]) (rest := [.ref (eA E 49)]) cx (k_X5_at E g21) (by decide) lk_X5_61 dX5_change_49 rfl (Nat.le_of_ble_eq_true rfl) rfl ?_
        show GW E fr _ 52 _ (.int r22 :: _) _
        refine gw_iload_n (pc' := 53) cx 4 rfl rfl dX5_change_52 rfl ?_
        obtain ⟨r24, s25, g23, h⟩ := ob2_some h
        refine gw_cV (pc' := 56) (av := [.int r22, .int x3]) (rest := []) cx (k_X5_becomes E g23) at49 (by decide) lk_X5_57 dX5_change_53 rfl (Nat.le_of_ble_eq_true rfl) rfl ?_
        show GW E fr _ 56 _ (.int r24 :: _) _
        refine gw_goto (pc' := 65) cx dX5_change_56 (by decide) ?_
        exact gw_iret cx tg (rt1 h) (rt2 h) dX5_change_65
def f_X5_feels (x1 : Int32) (x2 : Int32) (σ : Sg) : Option (Int32 × Sg) :=
  ob0 (f_X5_isOne x1 σ) fun r2 =>
  if r2 = 0 then
    ob2 (f_X5_finds (-1000001) σ) fun r5 s6 =>
    some (r5, s6)
  else
    ob0 (f_X5_isIn x2.toInt64 (0 : Int64) (20 : Int64) σ) fun r8 =>
    if r8 = 0 then
      ob2 (f_X5_finds (-1000001) σ) fun r11 s12 =>
      some (r11, s12)
    else
      ob0 (f_X5_feelsOf x1 x2 σ) fun r14 =>
      some (r14, σ)
theorem k_X5_feels (E : Ev) {x1 : Int32} {x2 : Int32} {σ : Sg} {r : Int32} {σ' : Sg} (h : f_X5_feels x1 x2 σ = some (r, σ')) : Con E mX5_feels 2 [.ref (eA E 49), .int x1, .int x2] σ (some (.int r)) σ' := by
  refine con_of (by decide) (Nat.le_of_ble_eq_true rfl) (fun fr cx tg => ?_)
  show GW E fr 3 0 [(0, .ref (eA E 49)), (1, .int x1), (2, .int x2)] [] σ
  rw [f_X5_feels] at h
  refine gw_aload_n (pc' := 1) cx 0 rfl rfl dX5_feels_0 rfl ?_
  refine gw_iload_n (pc' := 2) cx 1 rfl rfl dX5_feels_1 rfl ?_
  obtain ⟨r2, g1, h⟩ := ob0_some h
  refine gw_cV (pc' := 5) (av := [.int x1]) (rest := []) cx (k_X5_isOne E g1) at49 (by decide) lk_X5_85 dX5_feels_2 rfl (Nat.le_of_ble_eq_true rfl) rfl ?_
  show GW E fr _ 5 _ (.int r2 :: _) _
  rcases ite_some h with ⟨c3, h⟩ | ⟨c3, h⟩
  · refine gw_if_eq_t (pc' := 29) cx c3 dX5_feels_5 (by decide) ?_
    refine gw_aload_n (pc' := 30) cx 0 rfl rfl dX5_feels_29 rfl ?_
    refine gw_ldc (pc' := 32) (v := (-1000001)) cx ct_X5_37 dX5_feels_30 rfl ?_
    obtain ⟨r5, s6, g4, h⟩ := ob2_some h
    refine gw_cV (pc' := 35) (av := [.int (-1000001)]) (rest := []) cx (k_X5_finds E g4) at49 (by decide) lk_X5_39 dX5_feels_32 rfl (Nat.le_of_ble_eq_true rfl) rfl ?_
    show GW E fr _ 35 _ (.int r5 :: _) _
    exact gw_iret cx tg (rt1 h) (rt2 h) dX5_feels_35
  · refine gw_if_eq_f (pc' := 8) cx c3 dX5_feels_5 ⟨29, by decide⟩ rfl ?_
    refine gw_iload_n (pc' := 9) cx 2 rfl rfl dX5_feels_8 rfl ?_
    refine gw_i2l (pc' := 10) cx dX5_feels_9 rfl ?_
    refine gw_lconst (pc' := 11) (v := 0) cx cl_0 dX5_feels_10 rfl ?_
    refine gw_ldc2_w (pc' := 14) (v := 20) cx ct_X5_55 dX5_feels_11 rfl ?_
    obtain ⟨r8, g7, h⟩ := ob0_some h
    refine gw_cS (pc' := 17) (av := [.long x2.toInt64, .long (0 : Int64), .long (20 : Int64)]) (rest := []) cx (k_X5_isIn E g7) (by decide) lk_X5_45 dX5_feels_14 rfl (Nat.le_of_ble_eq_true rfl) rfl ?_
    show GW E fr _ 17 _ (.int r8 :: _) _
    rcases ite_some h with ⟨c9, h⟩ | ⟨c9, h⟩
    · refine gw_if_eq_t (pc' := 29) cx c9 dX5_feels_17 (by decide) ?_
      refine gw_aload_n (pc' := 30) cx 0 rfl rfl dX5_feels_29 rfl ?_
      refine gw_ldc (pc' := 32) (v := (-1000001)) cx ct_X5_37 dX5_feels_30 rfl ?_
      obtain ⟨r11, s12, g10, h⟩ := ob2_some h
      refine gw_cV (pc' := 35) (av := [.int (-1000001)]) (rest := []) cx (k_X5_finds E g10) at49 (by decide) lk_X5_39 dX5_feels_32 rfl (Nat.le_of_ble_eq_true rfl) rfl ?_
      show GW E fr _ 35 _ (.int r11 :: _) _
      exact gw_iret cx tg (rt1 h) (rt2 h) dX5_feels_35
    · refine gw_if_eq_f (pc' := 20) cx c9 dX5_feels_17 ⟨29, by decide⟩ rfl ?_
      refine gw_aload_n (pc' := 21) cx 0 rfl rfl dX5_feels_20 rfl ?_
      refine gw_iload_n (pc' := 22) cx 1 rfl rfl dX5_feels_21 rfl ?_
      refine gw_iload_n (pc' := 23) cx 2 rfl rfl dX5_feels_22 rfl ?_
      obtain ⟨r14, g13, h⟩ := ob0_some h
      refine gw_cV (pc' := 26) (av := [.int x1, .int x2]) (rest := []) cx (k_X5_feelsOf E g13) at49 (by decide) lk_X5_102 dX5_feels_23 rfl (Nat.le_of_ble_eq_true rfl) rfl ?_
      show GW E fr _ 26 _ (.int r14 :: _) _
      refine gw_goto (pc' := 35) cx dX5_feels_26 (by decide) ?_
      exact gw_iret cx tg (rt1 h) (rt2 h) dX5_feels_35
def f_X5_roomiestBut_L4 (y1 : Int32) : Nat → Int32 → Int32 → Sg → Option (Int32)
  | 0, _, _, _ => none
  | n + 1, y2, y3, σ =>
    if (σ 50 0) ≤ y3 then
      some y2
    else
      if y3 = y1 then
        f_X5_roomiestBut_L4 y1 n y2 (y3 + 1) σ
      else
        if y2 < 0 then
          f_X5_roomiestBut_L4 y1 n y3 (y3 + 1) σ
        else
          ob0 (f_X5_room y3 σ) fun r5 =>
          ob0 (f_X5_room y2 σ) fun r7 =>
          if r5 ≤ r7 then
            f_X5_roomiestBut_L4 y1 n y2 (y3 + 1) σ
          else
            f_X5_roomiestBut_L4 y1 n y3 (y3 + 1) σ
theorem w_X5_roomiestBut_L4 {E : Ev} {fr : Fr} {r : Int32} {σ0 : Sg} (cx : Cx E mX5_roomiestBut 2 fr) (tg : Tg E fr (some .int) (some (.int r)) σ0) (y1 : Int32)  : ∀ (n : Nat) (y2 : Int32) (y3 : Int32) (σ : Sg), σ = σ0 → f_X5_roomiestBut_L4 y1 n y2 y3 σ = some r → GW E fr 4 4 [(0, .ref (eA E 49)), (1, .int y1), (2, .int y2), (3, .int y3)] [] σ := by
  intro n
  induction n with
  | zero => intro y2 y3 σ hs h; cases (show (none : Option (Int32)) = _ from h)
  | succ n ih =>
    intro y2 y3 σ hs h
    rw [f_X5_roomiestBut_L4] at h
    subst hs
    refine gw_iload_n (pc' := 5) cx 3 rfl rfl dX5_roomiestBut_4 rfl ?_
    refine gw_aload_n (pc' := 6) cx 0 rfl rfl dX5_roomiestBut_5 rfl ?_
    refine gw_getR (pc' := 9) cx at49 rfl fl_X5_7 dX5_roomiestBut_6 rfl ?_
    refine gw_iconst (pc' := 10) (v := 0) cx ci_0 dX5_roomiestBut_9 rfl ?_
    refine gw_iald (pc' := 11) cx at50 (vpc (by decide)) cn_0 dX5_roomiestBut_10 rfl ?_
    rcases ite_some h with ⟨c1, h⟩ | ⟨c1, h⟩
    · refine gw_ic_ge_t (pc' := 48) cx c1 dX5_roomiestBut_11 (by decide) ?_
      refine gw_iload_n (pc' := 49) cx 2 rfl rfl dX5_roomiestBut_48 rfl ?_
      exact gw_iret cx tg (rt0 h) rfl dX5_roomiestBut_49
    · refine gw_ic_ge_f (pc' := 14) cx c1 dX5_roomiestBut_11 ⟨48, by decide⟩ rfl ?_
      refine gw_iload_n (pc' := 15) cx 3 rfl rfl dX5_roomiestBut_14 rfl ?_
      refine gw_iload_n (pc' := 16) cx 1 rfl rfl dX5_roomiestBut_15 rfl ?_
      rcases ite_some h with ⟨c2, h⟩ | ⟨c2, h⟩
      · refine gw_ic_eq_t (pc' := 40) cx c2 dX5_roomiestBut_16 (by decide) ?_
        refine gw_iload_n (pc' := 41) cx 2 rfl rfl dX5_roomiestBut_40 rfl ?_
        refine gw_istore_n (pc' := 42) (lv' := [(2, .int y2), (0, .ref (eA E 49)), (1, .int y1), (3, .int y3)]) cx rfl rfl (by decide) dX5_roomiestBut_41 rfl ?_
        refine gw_iinc (pc' := 45) (v := (y3 + 1)) (lv' := [(3, .int (y3 + 1)), (2, .int y2), (0, .ref (eA E 49)), (1, .int y1)]) cx 3 rfl rfl rfl (by decide) dX5_roomiestBut_42 rfl ?_
        refine gw_goto (pc' := 4) cx dX5_roomiestBut_45 (by decide) ?_
        refine gw_sub [2, 3, 1, 0] (lv' := [(0, .ref (eA E 49)), (1, .int y1), (2, .int y2), (3, .int (y3 + 1))]) rfl ?_
        exact ih y2 (y3 + 1) σ rfl h
      · refine gw_ic_eq_f (pc' := 19) cx c2 dX5_roomiestBut_16 ⟨40, by decide⟩ rfl ?_
        refine gw_iload_n (pc' := 20) cx 2 rfl rfl dX5_roomiestBut_19 rfl ?_
        rcases ite_some h with ⟨c3, h⟩ | ⟨c3, h⟩
        · refine gw_if_lt_t (pc' := 36) cx c3 dX5_roomiestBut_20 (by decide) ?_
          refine gw_iload_n (pc' := 37) cx 3 rfl rfl dX5_roomiestBut_36 rfl ?_
          refine gw_goto (pc' := 41) cx dX5_roomiestBut_37 (by decide) ?_
          refine gw_istore_n (pc' := 42) (lv' := [(2, .int y3), (0, .ref (eA E 49)), (1, .int y1), (3, .int y3)]) cx rfl rfl (by decide) dX5_roomiestBut_41 rfl ?_
          refine gw_iinc (pc' := 45) (v := (y3 + 1)) (lv' := [(3, .int (y3 + 1)), (2, .int y3), (0, .ref (eA E 49)), (1, .int y1)]) cx 3 rfl rfl rfl (by decide) dX5_roomiestBut_42 rfl ?_
          refine gw_goto (pc' := 4) cx dX5_roomiestBut_45 (by decide) ?_
          refine gw_sub [2, 3, 1, 0] (lv' := [(0, .ref (eA E 49)), (1, .int y1), (2, .int y3), (3, .int (y3 + 1))]) rfl ?_
          exact ih y3 (y3 + 1) σ rfl h
        · refine gw_if_lt_f (pc' := 23) cx c3 dX5_roomiestBut_20 ⟨36, by decide⟩ rfl ?_
          refine gw_aload_n (pc' := 24) cx 0 rfl rfl dX5_roomiestBut_23 rfl ?_
          refine gw_iload_n (pc' := 25) cx 3 rfl rfl dX5_roomiestBut_24 rfl ?_
          obtain ⟨r5, g4, h⟩ := ob0_some h
          refine gw_cV (pc' := 28) (av := [.int y3]) (rest := []) cx (k_X5_room E g4) at49 (by decide) lk_X5_91 dX5_roomiestBut_25 rfl (Nat.le_of_ble_eq_true rfl) rfl ?_
          show GW E fr _ 28 _ (.int r5 :: _) _
          refine gw_aload_n (pc' := 29) cx 0 rfl rfl dX5_roomiestBut_28 rfl ?_
          refine gw_iload_n (pc' := 30) cx 2 rfl rfl dX5_roomiestBut_29 rfl ?_
          obtain ⟨r7, g6, h⟩ := ob0_some h
          refine gw_cV (pc' := 33) (av := [.int y2]) (rest := [.int r5]) cx (k_X5_room E g6) at49 (by decide) lk_X5_91 dX5_roomiestBut_30 rfl (Nat.le_of_ble_eq_true rfl) rfl ?_
          show GW E fr _ 33 _ (.int r7 :: _) _
          rcases ite_some h with ⟨c8, h⟩ | ⟨c8, h⟩
          · refine gw_ic_le_t (pc' := 40) cx c8 dX5_roomiestBut_33 (by decide) ?_
            refine gw_iload_n (pc' := 41) cx 2 rfl rfl dX5_roomiestBut_40 rfl ?_
            refine gw_istore_n (pc' := 42) (lv' := [(2, .int y2), (0, .ref (eA E 49)), (1, .int y1), (3, .int y3)]) cx rfl rfl (by decide) dX5_roomiestBut_41 rfl ?_
            refine gw_iinc (pc' := 45) (v := (y3 + 1)) (lv' := [(3, .int (y3 + 1)), (2, .int y2), (0, .ref (eA E 49)), (1, .int y1)]) cx 3 rfl rfl rfl (by decide) dX5_roomiestBut_42 rfl ?_
            refine gw_goto (pc' := 4) cx dX5_roomiestBut_45 (by decide) ?_
            refine gw_sub [2, 3, 1, 0] (lv' := [(0, .ref (eA E 49)), (1, .int y1), (2, .int y2), (3, .int (y3 + 1))]) rfl ?_
            exact ih y2 (y3 + 1) σ rfl h
          · refine gw_ic_le_f (pc' := 36) cx c8 dX5_roomiestBut_33 ⟨40, by decide⟩ rfl ?_
            refine gw_iload_n (pc' := 37) cx 3 rfl rfl dX5_roomiestBut_36 rfl ?_
            refine gw_goto (pc' := 41) cx dX5_roomiestBut_37 (by decide) ?_
            refine gw_istore_n (pc' := 42) (lv' := [(2, .int y3), (0, .ref (eA E 49)), (1, .int y1), (3, .int y3)]) cx rfl rfl (by decide) dX5_roomiestBut_41 rfl ?_
            refine gw_iinc (pc' := 45) (v := (y3 + 1)) (lv' := [(3, .int (y3 + 1)), (2, .int y3), (0, .ref (eA E 49)), (1, .int y1)]) cx 3 rfl rfl rfl (by decide) dX5_roomiestBut_42 rfl ?_
            refine gw_goto (pc' := 4) cx dX5_roomiestBut_45 (by decide) ?_
            refine gw_sub [2, 3, 1, 0] (lv' := [(0, .ref (eA E 49)), (1, .int y1), (2, .int y3), (3, .int (y3 + 1))]) rfl ?_
            exact ih y3 (y3 + 1) σ rfl h
def f_X5_roomiestBut (x1 : Int32) (σ : Sg) : Option (Int32) :=
  f_X5_roomiestBut_L4 x1 FU (-1) 0 σ
theorem k_X5_roomiestBut (E : Ev) {x1 : Int32} {σ : Sg} {r : Int32} (h : f_X5_roomiestBut x1 σ = some r) : Con E mX5_roomiestBut 2 [.ref (eA E 49), .int x1] σ (some (.int r)) σ := by
  refine con_of (by decide) (Nat.le_of_ble_eq_true rfl) (fun fr cx tg => ?_)
  show GW E fr 4 0 [(0, .ref (eA E 49)), (1, .int x1)] [] σ
  rw [f_X5_roomiestBut] at h
  refine gw_iconst (pc' := 1) (v := (-1)) cx ci_m1 dX5_roomiestBut_0 rfl ?_
  refine gw_istore_n (pc' := 2) (lv' := [(2, .int (-1)), (0, .ref (eA E 49)), (1, .int x1)]) cx rfl rfl (by decide) dX5_roomiestBut_1 rfl ?_
  refine gw_iconst (pc' := 3) (v := 0) cx ci_0 dX5_roomiestBut_2 rfl ?_
  refine gw_istore_n (pc' := 4) (lv' := [(3, .int 0), (2, .int (-1)), (0, .ref (eA E 49)), (1, .int x1)]) cx rfl rfl (by decide) dX5_roomiestBut_3 rfl ?_
  refine gw_sub [2, 3, 1, 0] (lv' := [(0, .ref (eA E 49)), (1, .int x1), (2, .int (-1)), (3, .int 0)]) rfl ?_
  exact w_X5_roomiestBut_L4 cx tg x1 FU (-1) 0 σ rfl h
def f_X5_bearerOf (x1 : Int32) (x2 : Int32) (σ : Sg) : Option (Int32) :=
  ob0 (f_X5_roomiestBut x1 σ) fun r2 =>
  if r2 < 0 then
    some (-1)
  else
    ob0 (f_X5_room r2 σ) fun r5 =>
    if r5 < x2 then
      some (-1)
    else
      some r2
theorem k_X5_bearerOf (E : Ev) {x1 : Int32} {x2 : Int32} {σ : Sg} {r : Int32} (h : f_X5_bearerOf x1 x2 σ = some r) : Con E mX5_bearerOf 3 [.ref (eA E 49), .int x1, .int x2] σ (some (.int r)) σ := by
  refine con_of (by decide) (Nat.le_of_ble_eq_true rfl) (fun fr cx tg => ?_)
  show GW E fr 4 0 [(0, .ref (eA E 49)), (1, .int x1), (2, .int x2)] [] σ
  rw [f_X5_bearerOf] at h
  refine gw_aload_n (pc' := 1) cx 0 rfl rfl dX5_bearerOf_0 rfl ?_
  refine gw_iload_n (pc' := 2) cx 1 rfl rfl dX5_bearerOf_1 rfl ?_
  obtain ⟨r2, g1, h⟩ := ob0_some h
  refine gw_cV (pc' := 5) (av := [.int x1]) (rest := []) cx (k_X5_roomiestBut E g1) at49 (by decide) lk_X5_105 dX5_bearerOf_2 rfl (Nat.le_of_ble_eq_true rfl) rfl ?_
  show GW E fr _ 5 _ (.int r2 :: _) _
  refine gw_istore_n (pc' := 6) (lv' := [(3, .int r2), (0, .ref (eA E 49)), (1, .int x1), (2, .int x2)]) cx rfl rfl (by decide) dX5_bearerOf_5 rfl ?_
  refine gw_iload_n (pc' := 7) cx 0 rfl rfl dX5_bearerOf_6 rfl ?_
  rcases ite_some h with ⟨c3, h⟩ | ⟨c3, h⟩
  · refine gw_if_lt_t (pc' := 23) cx c3 dX5_bearerOf_7 (by decide) ?_
    refine gw_iconst (pc' := 24) (v := (-1)) cx ci_m1 dX5_bearerOf_23 rfl ?_
    exact gw_iret cx tg (rt0 h) rfl dX5_bearerOf_24
  · refine gw_if_lt_f (pc' := 10) cx c3 dX5_bearerOf_7 ⟨23, by decide⟩ rfl ?_
    refine gw_aload_n (pc' := 11) cx 1 rfl rfl dX5_bearerOf_10 rfl ?_
    refine gw_iload_n (pc' := 12) cx 0 rfl rfl dX5_bearerOf_11 rfl ?_
    obtain ⟨r5, g4, h⟩ := ob0_some h
    refine gw_cV (pc' := 15) (av := [.int r2]) (rest := []) cx (k_X5_room E g4) at49 (by decide) lk_X5_91 dX5_bearerOf_12 rfl (Nat.le_of_ble_eq_true rfl) rfl ?_
    show GW E fr _ 15 _ (.int r5 :: _) _
    refine gw_iload_n (pc' := 16) cx 3 rfl rfl dX5_bearerOf_15 rfl ?_
    rcases ite_some h with ⟨c6, h⟩ | ⟨c6, h⟩
    · refine gw_ic_lt_t (pc' := 23) cx c6 dX5_bearerOf_16 (by decide) ?_
      refine gw_iconst (pc' := 24) (v := (-1)) cx ci_m1 dX5_bearerOf_23 rfl ?_
      exact gw_iret cx tg (rt0 h) rfl dX5_bearerOf_24
    · refine gw_ic_lt_f (pc' := 19) cx c6 dX5_bearerOf_16 ⟨23, by decide⟩ rfl ?_
      refine gw_iload_n (pc' := 20) cx 0 rfl rfl dX5_bearerOf_19 rfl ?_
      refine gw_goto (pc' := 24) cx dX5_bearerOf_20 (by decide) ?_
      exact gw_iret cx tg (rt0 h) rfl dX5_bearerOf_24
def f_X5_bearer (x1 : Int32) (x2 : Int32) (σ : Sg) : Option (Int32 × Sg) :=
  ob0 (f_X5_isOne x1 σ) fun r2 =>
  if r2 = 0 then
    ob2 (f_X5_finds (-1000001) σ) fun r5 s6 =>
    some (r5, s6)
  else
    ob0 (f_X5_isIn x2.toInt64 (1 : Int64) (20 : Int64) σ) fun r8 =>
    if r8 = 0 then
      ob2 (f_X5_finds (-1000001) σ) fun r11 s12 =>
      some (r11, s12)
    else
      ob0 (f_X5_bearerOf x1 x2 σ) fun r14 =>
      ob2 (f_X5_orNone r14 σ) fun r16 s17 =>
      some (r16, s17)
theorem k_X5_bearer (E : Ev) {x1 : Int32} {x2 : Int32} {σ : Sg} {r : Int32} {σ' : Sg} (h : f_X5_bearer x1 x2 σ = some (r, σ')) : Con E mX5_bearer 4 [.ref (eA E 49), .int x1, .int x2] σ (some (.int r)) σ' := by
  refine con_of (by decide) (Nat.le_of_ble_eq_true rfl) (fun fr cx tg => ?_)
  show GW E fr 3 0 [(0, .ref (eA E 49)), (1, .int x1), (2, .int x2)] [] σ
  rw [f_X5_bearer] at h
  refine gw_aload_n (pc' := 1) cx 0 rfl rfl dX5_bearer_0 rfl ?_
  refine gw_iload_n (pc' := 2) cx 1 rfl rfl dX5_bearer_1 rfl ?_
  obtain ⟨r2, g1, h⟩ := ob0_some h
  refine gw_cV (pc' := 5) (av := [.int x1]) (rest := []) cx (k_X5_isOne E g1) at49 (by decide) lk_X5_85 dX5_bearer_2 rfl (Nat.le_of_ble_eq_true rfl) rfl ?_
  show GW E fr _ 5 _ (.int r2 :: _) _
  rcases ite_some h with ⟨c3, h⟩ | ⟨c3, h⟩
  · refine gw_if_eq_t (pc' := 33) cx c3 dX5_bearer_5 (by decide) ?_
    refine gw_aload_n (pc' := 34) cx 0 rfl rfl dX5_bearer_33 rfl ?_
    refine gw_ldc (pc' := 36) (v := (-1000001)) cx ct_X5_37 dX5_bearer_34 rfl ?_
    obtain ⟨r5, s6, g4, h⟩ := ob2_some h
    refine gw_cV (pc' := 39) (av := [.int (-1000001)]) (rest := []) cx (k_X5_finds E g4) at49 (by decide) lk_X5_39 dX5_bearer_36 rfl (Nat.le_of_ble_eq_true rfl) rfl ?_
    show GW E fr _ 39 _ (.int r5 :: _) _
    exact gw_iret cx tg (rt1 h) (rt2 h) dX5_bearer_39
  · refine gw_if_eq_f (pc' := 8) cx c3 dX5_bearer_5 ⟨33, by decide⟩ rfl ?_
    refine gw_iload_n (pc' := 9) cx 2 rfl rfl dX5_bearer_8 rfl ?_
    refine gw_i2l (pc' := 10) cx dX5_bearer_9 rfl ?_
    refine gw_lconst (pc' := 11) (v := 1) cx cl_1 dX5_bearer_10 rfl ?_
    refine gw_ldc2_w (pc' := 14) (v := 20) cx ct_X5_55 dX5_bearer_11 rfl ?_
    obtain ⟨r8, g7, h⟩ := ob0_some h
    refine gw_cS (pc' := 17) (av := [.long x2.toInt64, .long (1 : Int64), .long (20 : Int64)]) (rest := []) cx (k_X5_isIn E g7) (by decide) lk_X5_45 dX5_bearer_14 rfl (Nat.le_of_ble_eq_true rfl) rfl ?_
    show GW E fr _ 17 _ (.int r8 :: _) _
    rcases ite_some h with ⟨c9, h⟩ | ⟨c9, h⟩
    · refine gw_if_eq_t (pc' := 33) cx c9 dX5_bearer_17 (by decide) ?_
      refine gw_aload_n (pc' := 34) cx 0 rfl rfl dX5_bearer_33 rfl ?_
      refine gw_ldc (pc' := 36) (v := (-1000001)) cx ct_X5_37 dX5_bearer_34 rfl ?_
      obtain ⟨r11, s12, g10, h⟩ := ob2_some h
      refine gw_cV (pc' := 39) (av := [.int (-1000001)]) (rest := []) cx (k_X5_finds E g10) at49 (by decide) lk_X5_39 dX5_bearer_36 rfl (Nat.le_of_ble_eq_true rfl) rfl ?_
      show GW E fr _ 39 _ (.int r11 :: _) _
      exact gw_iret cx tg (rt1 h) (rt2 h) dX5_bearer_39
    · refine gw_if_eq_f (pc' := 20) cx c9 dX5_bearer_17 ⟨33, by decide⟩ rfl ?_
      refine gw_aload_n (pc' := 21) cx 0 rfl rfl dX5_bearer_20 rfl ?_
      refine gw_aload_n (pc' := 22) cx 0 rfl rfl dX5_bearer_21 rfl ?_
      refine gw_iload_n (pc' := 23) cx 1 rfl rfl dX5_bearer_22 rfl ?_
      refine gw_iload_n (pc' := 24) cx 2 rfl rfl dX5_bearer_23 rfl ?_
      obtain ⟨r14, g13, h⟩ := ob0_some h
      refine gw_cV (pc' := 27) (av := [.int x1, .int x2]) (rest := [.ref (eA E 49)]) cx (k_X5_bearerOf E g13) at49 (by decide) lk_X5_108 dX5_bearer_24 rfl (Nat.le_of_ble_eq_true rfl) rfl ?_
      show GW E fr _ 27 _ (.int r14 :: _) _
      obtain ⟨r16, s17, g15, h⟩ := ob2_some h
      refine gw_cV (pc' := 30) (av := [.int r14]) (rest := []) cx (k_X5_orNone E g15) at49 (by decide) lk_X5_111 dX5_bearer_27 rfl (Nat.le_of_ble_eq_true rfl) rfl ?_
      show GW E fr _ 30 _ (.int r16 :: _) _
      refine gw_goto (pc' := 39) cx dX5_bearer_30 (by decide) ?_
      exact gw_iret cx tg (rt1 h) (rt2 h) dX5_bearer_39
def f_X5_bears (x1 : Int32) (x2 : Int32) (x3 : Int32) (σ : Sg) : Option (Sg) :=
  ob0 (f_X5_at x1 1 σ) fun r2 =>
  ob0 (f_X5_its x1 1 σ) fun r4 =>
  ob0 (f_X5_least 9999 (r4 + x3) σ) fun r6 =>
  chk r2 60 <|
  lt (up2 σ 50 r2.toNatClampNeg r6) fun s8 =>
  ob0 (f_X5_at x1 3 s8) fun r11 =>
  ob0 (f_X5_its x1 3 s8) fun r13 =>
  ob0 (f_X5_least 9999 (r13 + x2) s8) fun r15 =>
  chk r11 60 <|
  lt (up2 s8 50 r11.toNatClampNeg r15) fun s17 =>
  some s17
theorem k_X5_bears (E : Ev) {x1 : Int32} {x2 : Int32} {x3 : Int32} {σ : Sg} {σ' : Sg} (h : f_X5_bears x1 x2 x3 σ = some σ') : Con E mX5_bears 1 [.ref (eA E 49), .int x1, .int x2, .int x3] σ none σ' := by
  refine con_of (by decide) (Nat.le_of_ble_eq_true rfl) (fun fr cx tg => ?_)
  show GW E fr 4 0 [(0, .ref (eA E 49)), (1, .int x1), (2, .int x2), (3, .int x3)] [] σ
  rw [f_X5_bears] at h
  refine gw_aload_n (pc' := 1) cx 0 rfl rfl dX5_bears_0 rfl ?_
  refine gw_getR (pc' := 4) cx at49 rfl fl_X5_7 dX5_bears_1 rfl ?_
  refine gw_iload_n (pc' := 5) cx 1 rfl rfl dX5_bears_4 rfl ?_
  refine gw_iconst (pc' := 6) (v := 1) cx ci_1 dX5_bears_5 rfl ?_
  obtain ⟨r2, g1, h⟩ := ob0_some h
  refine gw_cS (pc' := 9) (av := [.int x1, .int 1]) (rest := [.ref (eA E 50)]) cx (k_X5_at E g1) (by decide) lk_X5_61 dX5_bears_6 rfl (Nat.le_of_ble_eq_true rfl) rfl ?_
  show GW E fr _ 9 _ (.int r2 :: _) _
  refine gw_sipush (pc' := 12) (v := 9999) cx cs_9999 dX5_bears_9 rfl ?_
  refine gw_aload_n (pc' := 13) cx 0 rfl rfl dX5_bears_12 rfl ?_
  refine gw_iload_n (pc' := 14) cx 1 rfl rfl dX5_bears_13 rfl ?_
  refine gw_iconst (pc' := 15) (v := 1) cx ci_1 dX5_bears_14 rfl ?_
  obtain ⟨r4, g3, h⟩ := ob0_some h
  refine gw_cV (pc' := 18) (av := [.int x1, .int 1]) (rest := [.int 9999, .int r2, .ref (eA E 50)]) cx (k_X5_its E g3) at49 (by decide) lk_X5_73 dX5_bears_15 rfl (Nat.le_of_ble_eq_true rfl) rfl ?_
  show GW E fr _ 18 _ (.int r4 :: _) _
  refine gw_iload_n (pc' := 19) cx 3 rfl rfl dX5_bears_18 rfl ?_
  refine gw_iadd (pc' := 20) cx dX5_bears_19 rfl ?_
  obtain ⟨r6, g5, h⟩ := ob0_some h
  refine gw_cS (pc' := 23) (av := [.int 9999, .int (r4 + x3)]) (rest := [.int r2, .ref (eA E 50)]) cx (k_X5_least E g5) (by decide) lk_X5_82 dX5_bears_20 rfl (Nat.le_of_ble_eq_true rfl) rfl ?_
  show GW E fr _ 23 _ (.int r6 :: _) _
  obtain ⟨i7, h⟩ := chk_some h
  obtain ⟨s8, e9, h⟩ := lt_some h
  refine gw_iast (pc' := 24) cx at50 i7 rfl dX5_bears_23 rfl e9 ?_
  refine gw_aload_n (pc' := 25) cx 0 rfl rfl dX5_bears_24 rfl ?_
  refine gw_getR (pc' := 28) cx at49 rfl fl_X5_7 dX5_bears_25 rfl ?_
  refine gw_iload_n (pc' := 29) cx 1 rfl rfl dX5_bears_28 rfl ?_
  refine gw_iconst (pc' := 30) (v := 3) cx ci_3 dX5_bears_29 rfl ?_
  obtain ⟨r11, g10, h⟩ := ob0_some h
  refine gw_cS (pc' := 33) (av := [.int x1, .int 3]) (rest := [.ref (eA E 50)]) cx (k_X5_at E g10) (by decide) lk_X5_61 dX5_bears_30 rfl (Nat.le_of_ble_eq_true rfl) rfl ?_
  show GW E fr _ 33 _ (.int r11 :: _) _
  refine gw_sipush (pc' := 36) (v := 9999) cx cs_9999 dX5_bears_33 rfl ?_
  refine gw_aload_n (pc' := 37) cx 0 rfl rfl dX5_bears_36 rfl ?_
  refine gw_iload_n (pc' := 38) cx 1 rfl rfl dX5_bears_37 rfl ?_
  refine gw_iconst (pc' := 39) (v := 3) cx ci_3 dX5_bears_38 rfl ?_
  obtain ⟨r13, g12, h⟩ := ob0_some h
  refine gw_cV (pc' := 42) (av := [.int x1, .int 3]) (rest := [.int 9999, .int r11, .ref (eA E 50)]) cx (k_X5_its E g12) at49 (by decide) lk_X5_73 dX5_bears_39 rfl (Nat.le_of_ble_eq_true rfl) rfl ?_
  show GW E fr _ 42 _ (.int r13 :: _) _
  refine gw_iload_n (pc' := 43) cx 2 rfl rfl dX5_bears_42 rfl ?_
  refine gw_iadd (pc' := 44) cx dX5_bears_43 rfl ?_
  obtain ⟨r15, g14, h⟩ := ob0_some h
  refine gw_cS (pc' := 47) (av := [.int 9999, .int (r13 + x2)]) (rest := [.int r11, .ref (eA E 50)]) cx (k_X5_least E g14) (by decide) lk_X5_82 dX5_bears_44 rfl (Nat.le_of_ble_eq_true rfl) rfl ?_
  show GW E fr _ 47 _ (.int r15 :: _) _
  obtain ⟨i16, h⟩ := chk_some h
  obtain ⟨s17, e18, h⟩ := lt_some h
  refine gw_iast (pc' := 48) cx at50 i16 rfl dX5_bears_47 rfl e18 ?_
  exact gw_vret cx tg rfl (rtV h) dX5_bears_48
def f_X5_asksNow (x1 : Int32) (σ : Sg) : Option (Sg) :=
  ob0 (f_X5_asks x1 σ) fun r2 =>
  ob0 (f_X5_bearerOf x1 r2 σ) fun r4 =>
  if r2 ≤ 0 then
    some σ
  else
    if r4 < 0 then
      ob0 (f_X5_at x1 1 σ) fun r8 =>
      chk r8 60 <|
      lt (up2 σ 50 r8.toNatClampNeg ((σ 50 r8.toNatClampNeg) - 1)) fun s10 =>
      ob0 (f_X5_least 99999 ((s10 50 3) + 1) s10) fun r13 =>
      lt (up2 s10 50 3 r13) fun s14 =>
      some s14
    else
      ob0 (f_X5_at x1 1 σ) fun r17 =>
      chk r17 60 <|
      lt (up2 σ 50 r17.toNatClampNeg ((σ 50 r17.toNatClampNeg) - r2)) fun s19 =>
      ob0 (f_X5_at x1 4 s19) fun r22 =>
      ob0 (f_X5_its x1 4 s19) fun r24 =>
      ob0 (f_X5_least 9999 (r24 + 1) s19) fun r26 =>
      chk r22 60 <|
      lt (up2 s19 50 r22.toNatClampNeg r26) fun s28 =>
      ob0 (f_X5_feelsOf r4 r2 s28) fun r31 =>
      ob1 (f_X5_bears r4 r2 (r31 / 2) s28) fun s33 =>
      some s33
theorem k_X5_asksNow (E : Ev) {x1 : Int32} {σ : Sg} {σ' : Sg} (h : f_X5_asksNow x1 σ = some σ') : Con E mX5_asksNow 4 [.ref (eA E 49), .int x1] σ none σ' := by
  refine con_of (by decide) (Nat.le_of_ble_eq_true rfl) (fun fr cx tg => ?_)
  show GW E fr 4 0 [(0, .ref (eA E 49)), (1, .int x1)] [] σ
  rw [f_X5_asksNow] at h
  refine gw_aload_n (pc' := 1) cx 0 rfl rfl dX5_asksNow_0 rfl ?_
  refine gw_iload_n (pc' := 2) cx 1 rfl rfl dX5_asksNow_1 rfl ?_
  obtain ⟨r2, g1, h⟩ := ob0_some h
  refine gw_cV (pc' := 5) (av := [.int x1]) (rest := []) cx (k_X5_asks E g1) at49 (by decide) lk_X5_88 dX5_asksNow_2 rfl (Nat.le_of_ble_eq_true rfl) rfl ?_
  show GW E fr _ 5 _ (.int r2 :: _) _
  refine gw_istore_n (pc' := 6) (lv' := [(2, .int r2), (0, .ref (eA E 49)), (1, .int x1)]) cx rfl rfl (by decide) dX5_asksNow_5 rfl ?_
  refine gw_aload_n (pc' := 7) cx 1 rfl rfl dX5_asksNow_6 rfl ?_
  refine gw_iload_n (pc' := 8) cx 2 rfl rfl dX5_asksNow_7 rfl ?_
  refine gw_iload_n (pc' := 9) cx 0 rfl rfl dX5_asksNow_8 rfl ?_
  obtain ⟨r4, g3, h⟩ := ob0_some h
  refine gw_cV (pc' := 12) (av := [.int x1, .int r2]) (rest := []) cx (k_X5_bearerOf E g3) at49 (by decide) lk_X5_108 dX5_asksNow_9 rfl (Nat.le_of_ble_eq_true rfl) rfl ?_
  show GW E fr _ 12 _ (.int r4 :: _) _
  refine gw_istore_n (pc' := 13) (lv' := [(3, .int r4), (2, .int r2), (0, .ref (eA E 49)), (1, .int x1)]) cx rfl rfl (by decide) dX5_asksNow_12 rfl ?_
  refine gw_iload_n (pc' := 14) cx 1 rfl rfl dX5_asksNow_13 rfl ?_
  rcases ite_some h with ⟨c5, h⟩ | ⟨c5, h⟩
  · refine gw_if_le_t (pc' := 76) cx c5 dX5_asksNow_14 (by decide) ?_
    refine gw_iload_n (pc' := 77) cx 1 rfl rfl dX5_asksNow_76 rfl ?_
    refine gw_if_le_t (pc' := 113) cx c5 dX5_asksNow_77 (by decide) ?_
    exact gw_vret cx tg rfl (rtV h) dX5_asksNow_113
  · refine gw_if_le_f (pc' := 17) cx c5 dX5_asksNow_14 ⟨76, by decide⟩ rfl ?_
    refine gw_iload_n (pc' := 18) cx 0 rfl rfl dX5_asksNow_17 rfl ?_
    rcases ite_some h with ⟨c6, h⟩ | ⟨c6, h⟩
    · refine gw_if_lt_t (pc' := 76) cx c6 dX5_asksNow_18 (by decide) ?_
      refine gw_iload_n (pc' := 77) cx 1 rfl rfl dX5_asksNow_76 rfl ?_
      refine gw_if_le_f (pc' := 80) cx c5 dX5_asksNow_77 ⟨113, by decide⟩ rfl ?_
      refine gw_aload_n (pc' := 81) cx 2 rfl rfl dX5_asksNow_80 rfl ?_
      refine gw_getR (pc' := 84) cx at49 rfl fl_X5_7 dX5_asksNow_81 rfl ?_
      refine gw_iload_n (pc' := 85) cx 3 rfl rfl dX5_asksNow_84 rfl ?_
      refine gw_iconst (pc' := 86) (v := 1) cx ci_1 dX5_asksNow_85 rfl ?_
      obtain ⟨r8, g7, h⟩ := ob0_some h
      refine gw_cS (pc' := 89) (av := [.int x1, .int 1]) (rest := [.ref (eA E 50)]) cx (k_X5_at E g7) (by decide) lk_X5_61 dX5_asksNow_86 rfl (Nat.le_of_ble_eq_true rfl) rfl ?_
      show GW E fr _ 89 _ (.int r8 :: _) _
      refine gw_dup2 (pc' := 90) cx rfl rfl dX5_asksNow_89 rfl ?_
      obtain ⟨i9, h⟩ := chk_some h
      refine gw_iald (pc' := 91) cx at50 i9 rfl dX5_asksNow_90 rfl ?_
      refine gw_iconst (pc' := 92) (v := 1) cx ci_1 dX5_asksNow_91 rfl ?_
      refine gw_isub (pc' := 93) cx dX5_asksNow_92 rfl ?_
      obtain ⟨s10, e11, h⟩ := lt_some h
      refine gw_iast (pc' := 94) cx at50 i9 rfl dX5_asksNow_93 rfl e11 ?_
      refine gw_aload_n (pc' := 95) cx 2 rfl rfl dX5_asksNow_94 rfl ?_
      refine gw_getR (pc' := 98) cx at49 rfl fl_X5_7 dX5_asksNow_95 rfl ?_
      refine gw_iconst (pc' := 99) (v := 3) cx ci_3 dX5_asksNow_98 rfl ?_
      refine gw_ldc (pc' := 101) (v := 99999) cx ct_X5_118 dX5_asksNow_99 rfl ?_
      refine gw_aload_n (pc' := 102) cx 2 rfl rfl dX5_asksNow_101 rfl ?_
      refine gw_getR (pc' := 105) cx at49 rfl fl_X5_7 dX5_asksNow_102 rfl ?_
      refine gw_iconst (pc' := 106) (v := 3) cx ci_3 dX5_asksNow_105 rfl ?_
      refine gw_iald (pc' := 107) cx at50 (vpc (by decide)) cn_3 dX5_asksNow_106 rfl ?_
      refine gw_iconst (pc' := 108) (v := 1) cx ci_1 dX5_asksNow_107 rfl ?_
      refine gw_iadd (pc' := 109) cx dX5_asksNow_108 rfl ?_
      obtain ⟨r13, g12, h⟩ := ob0_some h
      refine gw_cS (pc' := 112) (av := [.int 99999, .int ((s10 50 3) + 1)]) (rest := [.int 3, .ref (eA E 50)]) cx (k_X5_least E g12) (by decide) lk_X5_82 dX5_asksNow_109 rfl (Nat.le_of_ble_eq_true rfl) rfl ?_
      show GW E fr _ 112 _ (.int r13 :: _) _
      obtain ⟨s14, e15, h⟩ := lt_some h
      refine gw_iast (pc' := 113) cx at50 (vpc (by decide)) cn_3 dX5_asksNow_112 rfl e15 ?_
      exact gw_vret cx tg rfl (rtV h) dX5_asksNow_113
    · refine gw_if_lt_f (pc' := 21) cx c6 dX5_asksNow_18 ⟨76, by decide⟩ rfl ?_
      refine gw_aload_n (pc' := 22) cx 2 rfl rfl dX5_asksNow_21 rfl ?_
      refine gw_getR (pc' := 25) cx at49 rfl fl_X5_7 dX5_asksNow_22 rfl ?_
      refine gw_iload_n (pc' := 26) cx 3 rfl rfl dX5_asksNow_25 rfl ?_
      refine gw_iconst (pc' := 27) (v := 1) cx ci_1 dX5_asksNow_26 rfl ?_
      obtain ⟨r17, g16, h⟩ := ob0_some h
      refine gw_cS (pc' := 30) (av := [.int x1, .int 1]) (rest := [.ref (eA E 50)]) cx (k_X5_at E g16) (by decide) lk_X5_61 dX5_asksNow_27 rfl (Nat.le_of_ble_eq_true rfl) rfl ?_
      show GW E fr _ 30 _ (.int r17 :: _) _
      refine gw_dup2 (pc' := 31) cx rfl rfl dX5_asksNow_30 rfl ?_
      obtain ⟨i18, h⟩ := chk_some h
      refine gw_iald (pc' := 32) cx at50 i18 rfl dX5_asksNow_31 rfl ?_
      refine gw_iload_n (pc' := 33) cx 1 rfl rfl dX5_asksNow_32 rfl ?_
      refine gw_isub (pc' := 34) cx dX5_asksNow_33 rfl ?_
      obtain ⟨s19, e20, h⟩ := lt_some h
      refine gw_iast (pc' := 35) cx at50 i18 rfl dX5_asksNow_34 rfl e20 ?_
      refine gw_aload_n (pc' := 36) cx 2 rfl rfl dX5_asksNow_35 rfl ?_
      refine gw_getR (pc' := 39) cx at49 rfl fl_X5_7 dX5_asksNow_36 rfl ?_
      refine gw_iload_n (pc' := 40) cx 3 rfl rfl dX5_asksNow_39 rfl ?_
      refine gw_iconst (pc' := 41) (v := 4) cx ci_4 dX5_asksNow_40 rfl ?_
      obtain ⟨r22, g21, h⟩ := ob0_some h
      refine gw_cS (pc' := 44) (av := [.int x1, .int 4]) (rest := [.ref (eA E 50)]) cx (k_X5_at E g21) (by decide) lk_X5_61 dX5_asksNow_41 rfl (Nat.le_of_ble_eq_true rfl) rfl ?_
      show GW E fr _ 44 _ (.int r22 :: _) _
      refine gw_sipush (pc' := 47) (v := 9999) cx cs_9999 dX5_asksNow_44 rfl ?_
      refine gw_aload_n (pc' := 48) cx 2 rfl rfl dX5_asksNow_47 rfl ?_
      refine gw_iload_n (pc' := 49) cx 3 rfl rfl dX5_asksNow_48 rfl ?_
      refine gw_iconst (pc' := 50) (v := 4) cx ci_4 dX5_asksNow_49 rfl ?_
      obtain ⟨r24, g23, h⟩ := ob0_some h
      refine gw_cV (pc' := 53) (av := [.int x1, .int 4]) (rest := [.int 9999, .int r22, .ref (eA E 50)]) cx (k_X5_its E g23) at49 (by decide) lk_X5_73 dX5_asksNow_50 rfl (Nat.le_of_ble_eq_true rfl) rfl ?_
      show GW E fr _ 53 _ (.int r24 :: _) _
      refine gw_iconst (pc' := 54) (v := 1) cx ci_1 dX5_asksNow_53 rfl ?_
      refine gw_iadd (pc' := 55) cx dX5_asksNow_54 rfl ?_
      obtain ⟨r26, g25, h⟩ := ob0_some h
      refine gw_cS (pc' := 58) (av := [.int 9999, .int (r24 + 1)]) (rest := [.int r22, .ref (eA E 50)]) cx (k_X5_least E g25) (by decide) lk_X5_82 dX5_asksNow_55 rfl (Nat.le_of_ble_eq_true rfl) rfl ?_
      show GW E fr _ 58 _ (.int r26 :: _) _
      obtain ⟨i27, h⟩ := chk_some h
      obtain ⟨s28, e29, h⟩ := lt_some h
      refine gw_iast (pc' := 59) cx at50 i27 rfl dX5_asksNow_58 rfl e29 ?_
      refine gw_aload_n (pc' := 60) cx 2 rfl rfl dX5_asksNow_59 rfl ?_
      refine gw_iload_n (pc' := 61) cx 0 rfl rfl dX5_asksNow_60 rfl ?_
      refine gw_iload_n (pc' := 62) cx 1 rfl rfl dX5_asksNow_61 rfl ?_
      refine gw_aload_n (pc' := 63) cx 2 rfl rfl dX5_asksNow_62 rfl ?_
      refine gw_iload_n (pc' := 64) cx 0 rfl rfl dX5_asksNow_63 rfl ?_
      refine gw_iload_n (pc' := 65) cx 1 rfl rfl dX5_asksNow_64 rfl ?_
      obtain ⟨r31, g30, h⟩ := ob0_some h
      refine gw_cV (pc' := 68) (av := [.int r4, .int r2]) (rest := [.int r2, .int r4, .ref (eA E 49)]) cx (k_X5_feelsOf E g30) at49 (by decide) lk_X5_102 dX5_asksNow_65 rfl (Nat.le_of_ble_eq_true rfl) rfl ?_
      show GW E fr _ 68 _ (.int r31 :: _) _
      refine gw_iconst (pc' := 69) (v := 2) cx ci_2 dX5_asksNow_68 rfl ?_
      refine gw_idiv (pc' := 70) cx (by decide) dX5_asksNow_69 rfl ?_
      obtain ⟨s33, g32, h⟩ := ob1_some h
      refine gw_cV (pc' := 73) (av := [.int r4, .int r2, .int (r31 / 2)]) (rest := []) cx (k_X5_bears E g32) at49 (by decide) lk_X5_114 dX5_asksNow_70 rfl (Nat.le_of_ble_eq_true rfl) rfl ?_
      show GW E fr _ 73 _ [] _
      refine gw_goto (pc' := 113) cx dX5_asksNow_73 (by decide) ?_
      exact gw_vret cx tg rfl (rtV h) dX5_asksNow_113
def f_X5_dayBut_L95 : Nat → Int32 → Sg → Option (Sg)
  | 0, _, _ => none
  | n + 1, y5, σ =>
    if (σ 50 0) ≤ y5 then
      lt (up2 σ 50 1 ((σ 50 1) + 1)) fun s13 =>
      some s13
    else
      ob0 (f_X5_at y5 3 σ) fun r16 =>
      ob0 (f_X5_its y5 3 σ) fun r18 =>
      ob0 (f_X5_forgets y5 σ) fun r20 =>
      ob0 (f_X5_greatest 0 (r18 - r20) σ) fun r22 =>
      chk r16 60 <|
      lt (up2 σ 50 r16.toNatClampNeg r22) fun s24 =>
      f_X5_dayBut_L95 n (y5 + 1) s24
theorem w_X5_dayBut_L95 {E : Ev} {fr : Fr} {σ' : Sg} (cx : Cx E mX5_dayBut 5 fr) (tg : Tg E fr none none σ')  : ∀ (n : Nat) (y5 : Int32) (σ : Sg), f_X5_dayBut_L95 n y5 σ = some σ' → GW E fr 6 95 [(0, .ref (eA E 49)), (5, .int y5)] [] σ := by
  intro n
  induction n with
  | zero => intro y5 σ h; cases (show (none : Option (Sg)) = _ from h)
  | succ n ih =>
    intro y5 σ h
    rw [f_X5_dayBut_L95] at h
    refine gw_iload (pc' := 97) cx 1 rfl dX5_dayBut_95 rfl ?_
    refine gw_aload_n (pc' := 98) cx 0 rfl rfl dX5_dayBut_97 rfl ?_
    refine gw_getR (pc' := 101) cx at49 rfl fl_X5_7 dX5_dayBut_98 rfl ?_
    refine gw_iconst (pc' := 102) (v := 0) cx ci_0 dX5_dayBut_101 rfl ?_
    refine gw_iald (pc' := 103) cx at50 (vpc (by decide)) cn_0 dX5_dayBut_102 rfl ?_
    rcases ite_some h with ⟨c12, h⟩ | ⟨c12, h⟩
    · refine gw_ic_ge_t (pc' := 141) cx c12 dX5_dayBut_103 (by decide) ?_
      refine gw_aload_n (pc' := 142) cx 0 rfl rfl dX5_dayBut_141 rfl ?_
      refine gw_getR (pc' := 145) cx at49 rfl fl_X5_7 dX5_dayBut_142 rfl ?_
      refine gw_iconst (pc' := 146) (v := 1) cx ci_1 dX5_dayBut_145 rfl ?_
      refine gw_dup2 (pc' := 147) cx rfl rfl dX5_dayBut_146 rfl ?_
      refine gw_iald (pc' := 148) cx at50 (vpc (by decide)) cn_1 dX5_dayBut_147 rfl ?_
      refine gw_iconst (pc' := 149) (v := 1) cx ci_1 dX5_dayBut_148 rfl ?_
      refine gw_iadd (pc' := 150) cx dX5_dayBut_149 rfl ?_
      obtain ⟨s13, e14, h⟩ := lt_some h
      refine gw_iast (pc' := 151) cx at50 (vpc (by decide)) cn_1 dX5_dayBut_150 rfl e14 ?_
      exact gw_vret cx tg rfl (rtV h) dX5_dayBut_151
    · refine gw_ic_ge_f (pc' := 106) cx c12 dX5_dayBut_103 ⟨141, by decide⟩ rfl ?_
      refine gw_aload_n (pc' := 107) cx 0 rfl rfl dX5_dayBut_106 rfl ?_
      refine gw_getR (pc' := 110) cx at49 rfl fl_X5_7 dX5_dayBut_107 rfl ?_
      refine gw_iload (pc' := 112) cx 1 rfl dX5_dayBut_110 rfl ?_
      refine gw_iconst (pc' := 113) (v := 3) cx ci_3 dX5_dayBut_112 rfl ?_
      obtain ⟨r16, g15, h⟩ := ob0_some h
      refine gw_cS (pc' := 116) (av := [.int y5, .int 3]) (rest := [.ref (eA E 50)]) cx (k_X5_at E g15) (by decide) lk_X5_61 dX5_dayBut_113 rfl (Nat.le_of_ble_eq_true rfl) rfl ?_
      show GW E fr _ 116 _ (.int r16 :: _) _
      refine gw_iconst (pc' := 117) (v := 0) cx ci_0 dX5_dayBut_116 rfl ?_
      refine gw_aload_n (pc' := 118) cx 0 rfl rfl dX5_dayBut_117 rfl ?_
      refine gw_iload (pc' := 120) cx 1 rfl dX5_dayBut_118 rfl ?_
      refine gw_iconst (pc' := 121) (v := 3) cx ci_3 dX5_dayBut_120 rfl ?_
      obtain ⟨r18, g17, h⟩ := ob0_some h
      refine gw_cV (pc' := 124) (av := [.int y5, .int 3]) (rest := [.int 0, .int r16, .ref (eA E 50)]) cx (k_X5_its E g17) at49 (by decide) lk_X5_73 dX5_dayBut_121 rfl (Nat.le_of_ble_eq_true rfl) rfl ?_
      show GW E fr _ 124 _ (.int r18 :: _) _
      refine gw_aload_n (pc' := 125) cx 0 rfl rfl dX5_dayBut_124 rfl ?_
      refine gw_iload (pc' := 127) cx 1 rfl dX5_dayBut_125 rfl ?_
      obtain ⟨r20, g19, h⟩ := ob0_some h
      refine gw_cV (pc' := 130) (av := [.int y5]) (rest := [.int r18, .int 0, .int r16, .ref (eA E 50)]) cx (k_X5_forgets E g19) at49 (by decide) lk_X5_94 dX5_dayBut_127 rfl (Nat.le_of_ble_eq_true rfl) rfl ?_
      show GW E fr _ 130 _ (.int r20 :: _) _
      refine gw_isub (pc' := 131) cx dX5_dayBut_130 rfl ?_
      obtain ⟨r22, g21, h⟩ := ob0_some h
      refine gw_cS (pc' := 134) (av := [.int 0, .int (r18 - r20)]) (rest := [.int r16, .ref (eA E 50)]) cx (k_X5_greatest E g21) (by decide) lk_X5_76 dX5_dayBut_131 rfl (Nat.le_of_ble_eq_true rfl) rfl ?_
      show GW E fr _ 134 _ (.int r22 :: _) _
      obtain ⟨i23, h⟩ := chk_some h
      obtain ⟨s24, e25, h⟩ := lt_some h
      refine gw_iast (pc' := 135) cx at50 i23 rfl dX5_dayBut_134 rfl e25 ?_
      refine gw_iinc (pc' := 138) (v := (y5 + 1)) (lv' := [(5, .int (y5 + 1)), (0, .ref (eA E 49))]) cx 1 rfl rfl rfl (by decide) dX5_dayBut_135 rfl ?_
      refine gw_goto (pc' := 95) cx dX5_dayBut_138 (by decide) ?_
      refine gw_sub [1, 0] (lv' := [(0, .ref (eA E 49)), (5, .int (y5 + 1))]) rfl ?_
      exact ih (y5 + 1) s24 h
def f_X5_dayBut_L60 (y1 : Int32) : Nat → Int32 → Sg → Option (Sg)
  | 0, _, _ => none
  | n + 1, y5, σ =>
    if (σ 50 0) ≤ y5 then
      f_X5_dayBut_L95 FU 0 σ
    else
      if ((jshr y1 y5) &&& 1) = 0 then
        ob1 (f_X5_asksNow y5 σ) fun s11 =>
        f_X5_dayBut_L60 y1 n (y5 + 1) s11
      else
        f_X5_dayBut_L60 y1 n (y5 + 1) σ
theorem w_X5_dayBut_L60 {E : Ev} {fr : Fr} {σ' : Sg} (cx : Cx E mX5_dayBut 5 fr) (tg : Tg E fr none none σ') (y1 : Int32)  : ∀ (n : Nat) (y5 : Int32) (σ : Sg), f_X5_dayBut_L60 y1 n y5 σ = some σ' → GW E fr 6 60 [(0, .ref (eA E 49)), (1, .int y1), (5, .int y5)] [] σ := by
  intro n
  induction n with
  | zero => intro y5 σ h; cases (show (none : Option (Sg)) = _ from h)
  | succ n ih =>
    intro y5 σ h
    rw [f_X5_dayBut_L60] at h
    refine gw_iload (pc' := 62) cx 2 rfl dX5_dayBut_60 rfl ?_
    refine gw_aload_n (pc' := 63) cx 0 rfl rfl dX5_dayBut_62 rfl ?_
    refine gw_getR (pc' := 66) cx at49 rfl fl_X5_7 dX5_dayBut_63 rfl ?_
    refine gw_iconst (pc' := 67) (v := 0) cx ci_0 dX5_dayBut_66 rfl ?_
    refine gw_iald (pc' := 68) cx at50 (vpc (by decide)) cn_0 dX5_dayBut_67 rfl ?_
    rcases ite_some h with ⟨c8, h⟩ | ⟨c8, h⟩
    · refine gw_ic_ge_t (pc' := 92) cx c8 dX5_dayBut_68 (by decide) ?_
      refine gw_iconst (pc' := 93) (v := 0) cx ci_0 dX5_dayBut_92 rfl ?_
      refine gw_istore (pc' := 95) (lv' := [(5, .int 0), (0, .ref (eA E 49)), (1, .int y1)]) cx rfl (by decide) dX5_dayBut_93 rfl ?_
      refine gw_sub [1, 0] (lv' := [(0, .ref (eA E 49)), (5, .int 0)]) rfl ?_
      exact w_X5_dayBut_L95 cx tg FU 0 σ h
    · refine gw_ic_ge_f (pc' := 71) cx c8 dX5_dayBut_68 ⟨92, by decide⟩ rfl ?_
      refine gw_iload_n (pc' := 72) cx 1 rfl rfl dX5_dayBut_71 rfl ?_
      refine gw_iload (pc' := 74) cx 2 rfl dX5_dayBut_72 rfl ?_
      refine gw_ishr (pc' := 75) cx dX5_dayBut_74 rfl ?_
      refine gw_iconst (pc' := 76) (v := 1) cx ci_1 dX5_dayBut_75 rfl ?_
      refine gw_iand (pc' := 77) cx dX5_dayBut_76 rfl ?_
      rcases ite_some h with ⟨c9, h⟩ | ⟨c9, h⟩
      · refine gw_if_ne_f (pc' := 80) cx c9 dX5_dayBut_77 ⟨86, by decide⟩ rfl ?_
        refine gw_aload_n (pc' := 81) cx 0 rfl rfl dX5_dayBut_80 rfl ?_
        refine gw_iload (pc' := 83) cx 2 rfl dX5_dayBut_81 rfl ?_
        obtain ⟨s11, g10, h⟩ := ob1_some h
        refine gw_cV (pc' := 86) (av := [.int y5]) (rest := []) cx (k_X5_asksNow E g10) at49 (by decide) lk_X5_119 dX5_dayBut_83 rfl (Nat.le_of_ble_eq_true rfl) rfl ?_
        show GW E fr _ 86 _ [] _
        refine gw_iinc (pc' := 89) (v := (y5 + 1)) (lv' := [(5, .int (y5 + 1)), (0, .ref (eA E 49)), (1, .int y1)]) cx 2 rfl rfl rfl (by decide) dX5_dayBut_86 rfl ?_
        refine gw_goto (pc' := 60) cx dX5_dayBut_89 (by decide) ?_
        refine gw_sub [1, 2, 0] (lv' := [(0, .ref (eA E 49)), (1, .int y1), (5, .int (y5 + 1))]) rfl ?_
        exact ih (y5 + 1) s11 h
      · refine gw_if_ne_t (pc' := 86) cx c9 dX5_dayBut_77 (by decide) ?_
        refine gw_iinc (pc' := 89) (v := (y5 + 1)) (lv' := [(5, .int (y5 + 1)), (0, .ref (eA E 49)), (1, .int y1)]) cx 2 rfl rfl rfl (by decide) dX5_dayBut_86 rfl ?_
        refine gw_goto (pc' := 60) cx dX5_dayBut_89 (by decide) ?_
        refine gw_sub [1, 2, 0] (lv' := [(0, .ref (eA E 49)), (1, .int y1), (5, .int (y5 + 1))]) rfl ?_
        exact ih (y5 + 1) σ h
def f_X5_dayBut (x1 : Int32) (σ : Sg) : Option (Sg) :=
  chk (4 + (jrem (σ 50 1) 6)) 60 <|
  if (σ 50 0) ≤ ((σ 50 (4 + (jrem (σ 50 1) 6)).toNatClampNeg) / 100) then
    f_X5_dayBut_L60 x1 FU 0 σ
  else
    if (jrem (σ 50 (4 + (jrem (σ 50 1) 6)).toNatClampNeg) 100) ≤ 0 then
      f_X5_dayBut_L60 x1 FU 0 σ
    else
      ob0 (f_X5_feelsOf ((σ 50 (4 + (jrem (σ 50 1) 6)).toNatClampNeg) / 100) (jrem (σ 50 (4 + (jrem (σ 50 1) 6)).toNatClampNeg) 100) σ) fun r5 =>
      ob1 (f_X5_bears ((σ 50 (4 + (jrem (σ 50 1) 6)).toNatClampNeg) / 100) (jrem (σ 50 (4 + (jrem (σ 50 1) 6)).toNatClampNeg) 100) r5 σ) fun s7 =>
      f_X5_dayBut_L60 x1 FU 0 s7
theorem k_X5_dayBut (E : Ev) {x1 : Int32} {σ : Sg} {σ' : Sg} (h : f_X5_dayBut x1 σ = some σ') : Con E mX5_dayBut 5 [.ref (eA E 49), .int x1] σ none σ' := by
  refine con_of (by decide) (Nat.le_of_ble_eq_true rfl) (fun fr cx tg => ?_)
  show GW E fr 6 0 [(0, .ref (eA E 49)), (1, .int x1)] [] σ
  rw [f_X5_dayBut] at h
  refine gw_aload_n (pc' := 1) cx 0 rfl rfl dX5_dayBut_0 rfl ?_
  refine gw_getR (pc' := 4) cx at49 rfl fl_X5_7 dX5_dayBut_1 rfl ?_
  refine gw_iconst (pc' := 5) (v := 4) cx ci_4 dX5_dayBut_4 rfl ?_
  refine gw_aload_n (pc' := 6) cx 0 rfl rfl dX5_dayBut_5 rfl ?_
  refine gw_getR (pc' := 9) cx at49 rfl fl_X5_7 dX5_dayBut_6 rfl ?_
  refine gw_iconst (pc' := 10) (v := 1) cx ci_1 dX5_dayBut_9 rfl ?_
  refine gw_iald (pc' := 11) cx at50 (vpc (by decide)) cn_1 dX5_dayBut_10 rfl ?_
  refine gw_bipush (pc' := 13) (v := 6) cx cb_6 dX5_dayBut_11 rfl ?_
  refine gw_irem (pc' := 14) cx (by decide) dX5_dayBut_13 rfl ?_
  refine gw_iadd (pc' := 15) cx dX5_dayBut_14 rfl ?_
  obtain ⟨i1, h⟩ := chk_some h
  refine gw_iald (pc' := 16) cx at50 i1 rfl dX5_dayBut_15 rfl ?_
  refine gw_istore_n (pc' := 17) (lv' := [(2, .int (σ 50 (4 + (jrem (σ 50 1) 6)).toNatClampNeg)), (0, .ref (eA E 49)), (1, .int x1)]) cx rfl rfl (by decide) dX5_dayBut_16 rfl ?_
  refine gw_iload_n (pc' := 18) cx 0 rfl rfl dX5_dayBut_17 rfl ?_
  refine gw_bipush (pc' := 20) (v := 100) cx cb_100 dX5_dayBut_18 rfl ?_
  refine gw_idiv (pc' := 21) cx (by decide) dX5_dayBut_20 rfl ?_
  refine gw_istore_n (pc' := 22) (lv' := [(3, .int ((σ 50 (4 + (jrem (σ 50 1) 6)).toNatClampNeg) / 100)), (2, .int (σ 50 (4 + (jrem (σ 50 1) 6)).toNatClampNeg)), (0, .ref (eA E 49)), (1, .int x1)]) cx rfl rfl (by decide) dX5_dayBut_21 rfl ?_
  refine gw_iload_n (pc' := 23) cx 1 rfl rfl dX5_dayBut_22 rfl ?_
  refine gw_bipush (pc' := 25) (v := 100) cx cb_100 dX5_dayBut_23 rfl ?_
  refine gw_irem (pc' := 26) cx (by decide) dX5_dayBut_25 rfl ?_
  refine gw_istore (pc' := 28) (lv' := [(4, .int (jrem (σ 50 (4 + (jrem (σ 50 1) 6)).toNatClampNeg) 100)), (3, .int ((σ 50 (4 + (jrem (σ 50 1) 6)).toNatClampNeg) / 100)), (2, .int (σ 50 (4 + (jrem (σ 50 1) 6)).toNatClampNeg)), (0, .ref (eA E 49)), (1, .int x1)]) cx rfl (by decide) dX5_dayBut_26 rfl ?_
  refine gw_iload_n (pc' := 29) cx 1 rfl rfl dX5_dayBut_28 rfl ?_
  refine gw_aload_n (pc' := 30) cx 3 rfl rfl dX5_dayBut_29 rfl ?_
  refine gw_getR (pc' := 33) cx at49 rfl fl_X5_7 dX5_dayBut_30 rfl ?_
  refine gw_iconst (pc' := 34) (v := 0) cx ci_0 dX5_dayBut_33 rfl ?_
  refine gw_iald (pc' := 35) cx at50 (vpc (by decide)) cn_0 dX5_dayBut_34 rfl ?_
  rcases ite_some h with ⟨c2, h⟩ | ⟨c2, h⟩
  · refine gw_ic_ge_t (pc' := 57) cx c2 dX5_dayBut_35 (by decide) ?_
    refine gw_iconst (pc' := 58) (v := 0) cx ci_0 dX5_dayBut_57 rfl ?_
    refine gw_istore (pc' := 60) (lv' := [(5, .int 0), (4, .int (jrem (σ 50 (4 + (jrem (σ 50 1) 6)).toNatClampNeg) 100)), (3, .int ((σ 50 (4 + (jrem (σ 50 1) 6)).toNatClampNeg) / 100)), (2, .int (σ 50 (4 + (jrem (σ 50 1) 6)).toNatClampNeg)), (0, .ref (eA E 49)), (1, .int x1)]) cx rfl (by decide) dX5_dayBut_58 rfl ?_
    refine gw_sub [4, 5, 0] (lv' := [(0, .ref (eA E 49)), (1, .int x1), (5, .int 0)]) rfl ?_
    exact w_X5_dayBut_L60 cx tg x1 FU 0 σ h
  · refine gw_ic_ge_f (pc' := 38) cx c2 dX5_dayBut_35 ⟨57, by decide⟩ rfl ?_
    refine gw_iload (pc' := 40) cx 0 rfl dX5_dayBut_38 rfl ?_
    rcases ite_some h with ⟨c3, h⟩ | ⟨c3, h⟩
    · refine gw_if_le_t (pc' := 57) cx c3 dX5_dayBut_40 (by decide) ?_
      refine gw_iconst (pc' := 58) (v := 0) cx ci_0 dX5_dayBut_57 rfl ?_
      refine gw_istore (pc' := 60) (lv' := [(5, .int 0), (4, .int (jrem (σ 50 (4 + (jrem (σ 50 1) 6)).toNatClampNeg) 100)), (3, .int ((σ 50 (4 + (jrem (σ 50 1) 6)).toNatClampNeg) / 100)), (2, .int (σ 50 (4 + (jrem (σ 50 1) 6)).toNatClampNeg)), (0, .ref (eA E 49)), (1, .int x1)]) cx rfl (by decide) dX5_dayBut_58 rfl ?_
      refine gw_sub [4, 5, 0] (lv' := [(0, .ref (eA E 49)), (1, .int x1), (5, .int 0)]) rfl ?_
      exact w_X5_dayBut_L60 cx tg x1 FU 0 σ h
    · refine gw_if_le_f (pc' := 43) cx c3 dX5_dayBut_40 ⟨57, by decide⟩ rfl ?_
      refine gw_aload_n (pc' := 44) cx 3 rfl rfl dX5_dayBut_43 rfl ?_
      refine gw_iload_n (pc' := 45) cx 1 rfl rfl dX5_dayBut_44 rfl ?_
      refine gw_iload (pc' := 47) cx 0 rfl dX5_dayBut_45 rfl ?_
      refine gw_aload_n (pc' := 48) cx 3 rfl rfl dX5_dayBut_47 rfl ?_
      refine gw_iload_n (pc' := 49) cx 1 rfl rfl dX5_dayBut_48 rfl ?_
      refine gw_iload (pc' := 51) cx 0 rfl dX5_dayBut_49 rfl ?_
      obtain ⟨r5, g4, h⟩ := ob0_some h
      refine gw_cV (pc' := 54) (av := [.int ((σ 50 (4 + (jrem (σ 50 1) 6)).toNatClampNeg) / 100), .int (jrem (σ 50 (4 + (jrem (σ 50 1) 6)).toNatClampNeg) 100)]) (rest := [.int (jrem (σ 50 (4 + (jrem (σ 50 1) 6)).toNatClampNeg) 100), .int ((σ 50 (4 + (jrem (σ 50 1) 6)).toNatClampNeg) / 100), .ref (eA E 49)]) cx (k_X5_feelsOf E g4) at49 (by decide) lk_X5_102 dX5_dayBut_51 rfl (Nat.le_of_ble_eq_true rfl) rfl ?_
      show GW E fr _ 54 _ (.int r5 :: _) _
      obtain ⟨s7, g6, h⟩ := ob1_some h
      refine gw_cV (pc' := 57) (av := [.int ((σ 50 (4 + (jrem (σ 50 1) 6)).toNatClampNeg) / 100), .int (jrem (σ 50 (4 + (jrem (σ 50 1) 6)).toNatClampNeg) 100), .int r5]) (rest := []) cx (k_X5_bears E g6) at49 (by decide) lk_X5_114 dX5_dayBut_54 rfl (Nat.le_of_ble_eq_true rfl) rfl ?_
      show GW E fr _ 57 _ [] _
      refine gw_iconst (pc' := 58) (v := 0) cx ci_0 dX5_dayBut_57 rfl ?_
      refine gw_istore (pc' := 60) (lv' := [(5, .int 0), (4, .int (jrem (σ 50 (4 + (jrem (σ 50 1) 6)).toNatClampNeg) 100)), (3, .int ((σ 50 (4 + (jrem (σ 50 1) 6)).toNatClampNeg) / 100)), (2, .int (σ 50 (4 + (jrem (σ 50 1) 6)).toNatClampNeg)), (0, .ref (eA E 49)), (1, .int x1)]) cx rfl (by decide) dX5_dayBut_58 rfl ?_
      refine gw_sub [4, 5, 0] (lv' := [(0, .ref (eA E 49)), (1, .int x1), (5, .int 0)]) rfl ?_
      exact w_X5_dayBut_L60 cx tg x1 FU 0 s7 h
def f_X5_goes_L2 (y1 : Int32) : Nat → Int32 → Sg → Option (Sg)
  | 0, _, _ => none
  | n + 1, y2, σ =>
    if y1 ≤ y2 then
      some σ
    else
      ob1 (f_X5_dayBut 0 σ) fun s3 =>
      f_X5_goes_L2 y1 n (y2 + 1) s3
theorem w_X5_goes_L2 {E : Ev} {fr : Fr} {σ' : Sg} (cx : Cx E mX5_goes 6 fr) (tg : Tg E fr none none σ') (y1 : Int32)  : ∀ (n : Nat) (y2 : Int32) (σ : Sg), f_X5_goes_L2 y1 n y2 σ = some σ' → GW E fr 3 2 [(0, .ref (eA E 49)), (1, .int y1), (2, .int y2)] [] σ := by
  intro n
  induction n with
  | zero => intro y2 σ h; cases (show (none : Option (Sg)) = _ from h)
  | succ n ih =>
    intro y2 σ h
    rw [f_X5_goes_L2] at h
    refine gw_iload_n (pc' := 3) cx 2 rfl rfl dX5_goes_2 rfl ?_
    refine gw_iload_n (pc' := 4) cx 1 rfl rfl dX5_goes_3 rfl ?_
    rcases ite_some h with ⟨c1, h⟩ | ⟨c1, h⟩
    · refine gw_ic_ge_t (pc' := 18) cx c1 dX5_goes_4 (by decide) ?_
      exact gw_vret cx tg rfl (rtV h) dX5_goes_18
    · refine gw_ic_ge_f (pc' := 7) cx c1 dX5_goes_4 ⟨18, by decide⟩ rfl ?_
      refine gw_aload_n (pc' := 8) cx 0 rfl rfl dX5_goes_7 rfl ?_
      refine gw_iconst (pc' := 9) (v := 0) cx ci_0 dX5_goes_8 rfl ?_
      obtain ⟨s3, g2, h⟩ := ob1_some h
      refine gw_cV (pc' := 12) (av := [.int 0]) (rest := []) cx (k_X5_dayBut E g2) at49 (by decide) lk_X5_123 dX5_goes_9 rfl (Nat.le_of_ble_eq_true rfl) rfl ?_
      show GW E fr _ 12 _ [] _
      refine gw_iinc (pc' := 15) (v := (y2 + 1)) (lv' := [(2, .int (y2 + 1)), (0, .ref (eA E 49)), (1, .int y1)]) cx 2 rfl rfl rfl (by decide) dX5_goes_12 rfl ?_
      refine gw_goto (pc' := 2) cx dX5_goes_15 (by decide) ?_
      refine gw_sub [1, 2, 0] (lv' := [(0, .ref (eA E 49)), (1, .int y1), (2, .int (y2 + 1))]) rfl ?_
      exact ih (y2 + 1) s3 h
def f_X5_goes (x1 : Int32) (σ : Sg) : Option (Sg) :=
  f_X5_goes_L2 x1 FU 0 σ
theorem k_X5_goes (E : Ev) {x1 : Int32} {σ : Sg} {σ' : Sg} (h : f_X5_goes x1 σ = some σ') : Con E mX5_goes 6 [.ref (eA E 49), .int x1] σ none σ' := by
  refine con_of (by decide) (Nat.le_of_ble_eq_true rfl) (fun fr cx tg => ?_)
  show GW E fr 3 0 [(0, .ref (eA E 49)), (1, .int x1)] [] σ
  rw [f_X5_goes] at h
  refine gw_iconst (pc' := 1) (v := 0) cx ci_0 dX5_goes_0 rfl ?_
  refine gw_istore_n (pc' := 2) (lv' := [(2, .int 0), (0, .ref (eA E 49)), (1, .int x1)]) cx rfl rfl (by decide) dX5_goes_1 rfl ?_
  refine gw_sub [1, 2, 0] (lv' := [(0, .ref (eA E 49)), (1, .int x1), (2, .int 0)]) rfl ?_
  exact w_X5_goes_L2 cx tg x1 FU 0 σ h
def f_X5_sumOf_L4 (y1 : Int32) : Nat → Int32 → Int32 → Sg → Option (Int32)
  | 0, _, _, _ => none
  | n + 1, y2, y3, σ =>
    if (σ 50 0) ≤ y3 then
      some y2
    else
      ob0 (f_X5_its y3 y1 σ) fun r3 =>
      f_X5_sumOf_L4 y1 n (y2 + r3) (y3 + 1) σ
theorem w_X5_sumOf_L4 {E : Ev} {fr : Fr} {r : Int32} {σ0 : Sg} (cx : Cx E mX5_sumOf 1 fr) (tg : Tg E fr (some .int) (some (.int r)) σ0) (y1 : Int32)  : ∀ (n : Nat) (y2 : Int32) (y3 : Int32) (σ : Sg), σ = σ0 → f_X5_sumOf_L4 y1 n y2 y3 σ = some r → GW E fr 4 4 [(0, .ref (eA E 49)), (1, .int y1), (2, .int y2), (3, .int y3)] [] σ := by
  intro n
  induction n with
  | zero => intro y2 y3 σ hs h; cases (show (none : Option (Int32)) = _ from h)
  | succ n ih =>
    intro y2 y3 σ hs h
    rw [f_X5_sumOf_L4] at h
    subst hs
    refine gw_iload_n (pc' := 5) cx 3 rfl rfl dX5_sumOf_4 rfl ?_
    refine gw_aload_n (pc' := 6) cx 0 rfl rfl dX5_sumOf_5 rfl ?_
    refine gw_getR (pc' := 9) cx at49 rfl fl_X5_7 dX5_sumOf_6 rfl ?_
    refine gw_iconst (pc' := 10) (v := 0) cx ci_0 dX5_sumOf_9 rfl ?_
    refine gw_iald (pc' := 11) cx at50 (vpc (by decide)) cn_0 dX5_sumOf_10 rfl ?_
    rcases ite_some h with ⟨c1, h⟩ | ⟨c1, h⟩
    · refine gw_ic_ge_t (pc' := 29) cx c1 dX5_sumOf_11 (by decide) ?_
      refine gw_iload_n (pc' := 30) cx 2 rfl rfl dX5_sumOf_29 rfl ?_
      exact gw_iret cx tg (rt0 h) rfl dX5_sumOf_30
    · refine gw_ic_ge_f (pc' := 14) cx c1 dX5_sumOf_11 ⟨29, by decide⟩ rfl ?_
      refine gw_iload_n (pc' := 15) cx 2 rfl rfl dX5_sumOf_14 rfl ?_
      refine gw_aload_n (pc' := 16) cx 0 rfl rfl dX5_sumOf_15 rfl ?_
      refine gw_iload_n (pc' := 17) cx 3 rfl rfl dX5_sumOf_16 rfl ?_
      refine gw_iload_n (pc' := 18) cx 1 rfl rfl dX5_sumOf_17 rfl ?_
      obtain ⟨r3, g2, h⟩ := ob0_some h
      refine gw_cV (pc' := 21) (av := [.int y3, .int y1]) (rest := [.int y2]) cx (k_X5_its E g2) at49 (by decide) lk_X5_73 dX5_sumOf_18 rfl (Nat.le_of_ble_eq_true rfl) rfl ?_
      show GW E fr _ 21 _ (.int r3 :: _) _
      refine gw_iadd (pc' := 22) cx dX5_sumOf_21 rfl ?_
      refine gw_istore_n (pc' := 23) (lv' := [(2, .int (y2 + r3)), (0, .ref (eA E 49)), (1, .int y1), (3, .int y3)]) cx rfl rfl (by decide) dX5_sumOf_22 rfl ?_
      refine gw_iinc (pc' := 26) (v := (y3 + 1)) (lv' := [(3, .int (y3 + 1)), (2, .int (y2 + r3)), (0, .ref (eA E 49)), (1, .int y1)]) cx 3 rfl rfl rfl (by decide) dX5_sumOf_23 rfl ?_
      refine gw_goto (pc' := 4) cx dX5_sumOf_26 (by decide) ?_
      refine gw_sub [2, 3, 1, 0] (lv' := [(0, .ref (eA E 49)), (1, .int y1), (2, .int (y2 + r3)), (3, .int (y3 + 1))]) rfl ?_
      exact ih (y2 + r3) (y3 + 1) σ rfl h
def f_X5_sumOf (x1 : Int32) (σ : Sg) : Option (Int32) :=
  f_X5_sumOf_L4 x1 FU 0 0 σ
theorem k_X5_sumOf (E : Ev) {x1 : Int32} {σ : Sg} {r : Int32} (h : f_X5_sumOf x1 σ = some r) : Con E mX5_sumOf 1 [.ref (eA E 49), .int x1] σ (some (.int r)) σ := by
  refine con_of (by decide) (Nat.le_of_ble_eq_true rfl) (fun fr cx tg => ?_)
  show GW E fr 4 0 [(0, .ref (eA E 49)), (1, .int x1)] [] σ
  rw [f_X5_sumOf] at h
  refine gw_iconst (pc' := 1) (v := 0) cx ci_0 dX5_sumOf_0 rfl ?_
  refine gw_istore_n (pc' := 2) (lv' := [(2, .int 0), (0, .ref (eA E 49)), (1, .int x1)]) cx rfl rfl (by decide) dX5_sumOf_1 rfl ?_
  refine gw_iconst (pc' := 3) (v := 0) cx ci_0 dX5_sumOf_2 rfl ?_
  refine gw_istore_n (pc' := 4) (lv' := [(3, .int 0), (2, .int 0), (0, .ref (eA E 49)), (1, .int x1)]) cx rfl rfl (by decide) dX5_sumOf_3 rfl ?_
  refine gw_sub [2, 3, 1, 0] (lv' := [(0, .ref (eA E 49)), (1, .int x1), (2, .int 0), (3, .int 0)]) rfl ?_
  exact w_X5_sumOf_L4 cx tg x1 FU 0 0 σ rfl h
def f_X5_go (x1 : Int32) (σ : Sg) : Option (Int32 × Sg) :=
  ob0 (f_X5_isIn x1.toInt64 (1 : Int64) (60 : Int64) σ) fun r2 =>
  if r2 = 0 then
    ob2 (f_X5_finds (-1000001) σ) fun r5 s6 =>
    some (r5, s6)
  else
    if ((σ 50 1) + x1) ≤ 99999 then
      ob1 (f_X5_goes x1 σ) fun s9 =>
      ob0 (f_X5_sumOf 1 s9) fun r11 =>
      some (r11, s9)
    else
      ob2 (f_X5_finds (-1000005) σ) fun r13 s14 =>
      some (r13, s14)
theorem k_X5_go (E : Ev) {x1 : Int32} {σ : Sg} {r : Int32} {σ' : Sg} (h : f_X5_go x1 σ = some (r, σ')) : Con E mX5_go 7 [.ref (eA E 49), .int x1] σ (some (.int r)) σ' := by
  refine con_of (by decide) (Nat.le_of_ble_eq_true rfl) (fun fr cx tg => ?_)
  show GW E fr 2 0 [(0, .ref (eA E 49)), (1, .int x1)] [] σ
  rw [f_X5_go] at h
  refine gw_iload_n (pc' := 1) cx 1 rfl rfl dX5_go_0 rfl ?_
  refine gw_i2l (pc' := 2) cx dX5_go_1 rfl ?_
  refine gw_lconst (pc' := 3) (v := 1) cx cl_1 dX5_go_2 rfl ?_
  refine gw_ldc2_w (pc' := 6) (v := 60) cx ct_X5_126 dX5_go_3 rfl ?_
  obtain ⟨r2, g1, h⟩ := ob0_some h
  refine gw_cS (pc' := 9) (av := [.long x1.toInt64, .long (1 : Int64), .long (60 : Int64)]) (rest := []) cx (k_X5_isIn E g1) (by decide) lk_X5_45 dX5_go_6 rfl (Nat.le_of_ble_eq_true rfl) rfl ?_
  show GW E fr _ 9 _ (.int r2 :: _) _
  rcases ite_some h with ⟨c3, h⟩ | ⟨c3, h⟩
  · refine gw_if_ne_f (pc' := 12) cx c3 dX5_go_9 ⟨19, by decide⟩ rfl ?_
    refine gw_aload_n (pc' := 13) cx 0 rfl rfl dX5_go_12 rfl ?_
    refine gw_ldc (pc' := 15) (v := (-1000001)) cx ct_X5_37 dX5_go_13 rfl ?_
    obtain ⟨r5, s6, g4, h⟩ := ob2_some h
    refine gw_cV (pc' := 18) (av := [.int (-1000001)]) (rest := []) cx (k_X5_finds E g4) at49 (by decide) lk_X5_39 dX5_go_15 rfl (Nat.le_of_ble_eq_true rfl) rfl ?_
    show GW E fr _ 18 _ (.int r5 :: _) _
    exact gw_iret cx tg (rt1 h) (rt2 h) dX5_go_18
  · refine gw_if_ne_t (pc' := 19) cx c3 dX5_go_9 (by decide) ?_
    refine gw_aload_n (pc' := 20) cx 0 rfl rfl dX5_go_19 rfl ?_
    refine gw_getR (pc' := 23) cx at49 rfl fl_X5_7 dX5_go_20 rfl ?_
    refine gw_iconst (pc' := 24) (v := 1) cx ci_1 dX5_go_23 rfl ?_
    refine gw_iald (pc' := 25) cx at50 (vpc (by decide)) cn_1 dX5_go_24 rfl ?_
    refine gw_iload_n (pc' := 26) cx 1 rfl rfl dX5_go_25 rfl ?_
    refine gw_iadd (pc' := 27) cx dX5_go_26 rfl ?_
    refine gw_ldc (pc' := 29) (v := 99999) cx ct_X5_118 dX5_go_27 rfl ?_
    rcases ite_some h with ⟨c7, h⟩ | ⟨c7, h⟩
    · refine gw_ic_le_t (pc' := 39) cx c7 dX5_go_29 (by decide) ?_
      refine gw_aload_n (pc' := 40) cx 0 rfl rfl dX5_go_39 rfl ?_
      refine gw_iload_n (pc' := 41) cx 1 rfl rfl dX5_go_40 rfl ?_
      obtain ⟨s9, g8, h⟩ := ob1_some h
      refine gw_cV (pc' := 44) (av := [.int x1]) (rest := []) cx (k_X5_goes E g8) at49 (by decide) lk_X5_129 dX5_go_41 rfl (Nat.le_of_ble_eq_true rfl) rfl ?_
      show GW E fr _ 44 _ [] _
      refine gw_aload_n (pc' := 45) cx 0 rfl rfl dX5_go_44 rfl ?_
      refine gw_iconst (pc' := 46) (v := 1) cx ci_1 dX5_go_45 rfl ?_
      obtain ⟨r11, g10, h⟩ := ob0_some h
      refine gw_cV (pc' := 49) (av := [.int 1]) (rest := []) cx (k_X5_sumOf E g10) at49 (by decide) lk_X5_132 dX5_go_46 rfl (Nat.le_of_ble_eq_true rfl) rfl ?_
      show GW E fr _ 49 _ (.int r11 :: _) _
      exact gw_iret cx tg (rt1 h) (rt2 h) dX5_go_49
    · refine gw_ic_le_f (pc' := 32) cx c7 dX5_go_29 ⟨39, by decide⟩ rfl ?_
      refine gw_aload_n (pc' := 33) cx 0 rfl rfl dX5_go_32 rfl ?_
      refine gw_ldc (pc' := 35) (v := (-1000005)) cx ct_X5_128 dX5_go_33 rfl ?_
      obtain ⟨r13, s14, g12, h⟩ := ob2_some h
      refine gw_cV (pc' := 38) (av := [.int (-1000005)]) (rest := []) cx (k_X5_finds E g12) at49 (by decide) lk_X5_39 dX5_go_35 rfl (Nat.le_of_ble_eq_true rfl) rfl ?_
      show GW E fr _ 38 _ (.int r13 :: _) _
      exact gw_iret cx tg (rt1 h) (rt2 h) dX5_go_38
def f_X5_owedOnes_L4 : Nat → Int32 → Int32 → Sg → Option (Int32)
  | 0, _, _, _ => none
  | n + 1, y1, y2, σ =>
    if (σ 50 0) ≤ y2 then
      some y1
    else
      ob0 (f_X5_its y2 1 σ) fun r3 =>
      if r3 ≤ 0 then
        f_X5_owedOnes_L4 n (y1 ||| 0) (y2 + 1) σ
      else
        f_X5_owedOnes_L4 n (y1 ||| (jshl 1 y2)) (y2 + 1) σ
theorem w_X5_owedOnes_L4 {E : Ev} {fr : Fr} {r : Int32} {σ0 : Sg} (cx : Cx E mX5_owedOnes 1 fr) (tg : Tg E fr (some .int) (some (.int r)) σ0)  : ∀ (n : Nat) (y1 : Int32) (y2 : Int32) (σ : Sg), σ = σ0 → f_X5_owedOnes_L4 n y1 y2 σ = some r → GW E fr 3 4 [(0, .ref (eA E 49)), (1, .int y1), (2, .int y2)] [] σ := by
  intro n
  induction n with
  | zero => intro y1 y2 σ hs h; cases (show (none : Option (Int32)) = _ from h)
  | succ n ih =>
    intro y1 y2 σ hs h
    rw [f_X5_owedOnes_L4] at h
    subst hs
    refine gw_iload_n (pc' := 5) cx 2 rfl rfl dX5_owedOnes_4 rfl ?_
    refine gw_aload_n (pc' := 6) cx 0 rfl rfl dX5_owedOnes_5 rfl ?_
    refine gw_getR (pc' := 9) cx at49 rfl fl_X5_7 dX5_owedOnes_6 rfl ?_
    refine gw_iconst (pc' := 10) (v := 0) cx ci_0 dX5_owedOnes_9 rfl ?_
    refine gw_iald (pc' := 11) cx at50 (vpc (by decide)) cn_0 dX5_owedOnes_10 rfl ?_
    rcases ite_some h with ⟨c1, h⟩ | ⟨c1, h⟩
    · refine gw_ic_ge_t (pc' := 39) cx c1 dX5_owedOnes_11 (by decide) ?_
      refine gw_iload_n (pc' := 40) cx 1 rfl rfl dX5_owedOnes_39 rfl ?_
      exact gw_iret cx tg (rt0 h) rfl dX5_owedOnes_40
    · refine gw_ic_ge_f (pc' := 14) cx c1 dX5_owedOnes_11 ⟨39, by decide⟩ rfl ?_
      refine gw_iload_n (pc' := 15) cx 1 rfl rfl dX5_owedOnes_14 rfl ?_
      refine gw_aload_n (pc' := 16) cx 0 rfl rfl dX5_owedOnes_15 rfl ?_
      refine gw_iload_n (pc' := 17) cx 2 rfl rfl dX5_owedOnes_16 rfl ?_
      refine gw_iconst (pc' := 18) (v := 1) cx ci_1 dX5_owedOnes_17 rfl ?_
      obtain ⟨r3, g2, h⟩ := ob0_some h
      refine gw_cV (pc' := 21) (av := [.int y2, .int 1]) (rest := [.int y1]) cx (k_X5_its E g2) at49 (by decide) lk_X5_73 dX5_owedOnes_18 rfl (Nat.le_of_ble_eq_true rfl) rfl ?_
      show GW E fr _ 21 _ (.int r3 :: _) _
      rcases ite_some h with ⟨c4, h⟩ | ⟨c4, h⟩
      · refine gw_if_le_t (pc' := 30) cx c4 dX5_owedOnes_21 (by decide) ?_
        refine gw_iconst (pc' := 31) (v := 0) cx ci_0 dX5_owedOnes_30 rfl ?_
        refine gw_ior (pc' := 32) cx dX5_owedOnes_31 rfl ?_
        refine gw_istore_n (pc' := 33) (lv' := [(1, .int (y1 ||| 0)), (0, .ref (eA E 49)), (2, .int y2)]) cx rfl rfl (by decide) dX5_owedOnes_32 rfl ?_
        refine gw_iinc (pc' := 36) (v := (y2 + 1)) (lv' := [(2, .int (y2 + 1)), (1, .int (y1 ||| 0)), (0, .ref (eA E 49))]) cx 2 rfl rfl rfl (by decide) dX5_owedOnes_33 rfl ?_
        refine gw_goto (pc' := 4) cx dX5_owedOnes_36 (by decide) ?_
        refine gw_sub [2, 1, 0] (lv' := [(0, .ref (eA E 49)), (1, .int (y1 ||| 0)), (2, .int (y2 + 1))]) rfl ?_
        exact ih (y1 ||| 0) (y2 + 1) σ rfl h
      · refine gw_if_le_f (pc' := 24) cx c4 dX5_owedOnes_21 ⟨30, by decide⟩ rfl ?_
        refine gw_iconst (pc' := 25) (v := 1) cx ci_1 dX5_owedOnes_24 rfl ?_
        refine gw_iload_n (pc' := 26) cx 2 rfl rfl dX5_owedOnes_25 rfl ?_
        refine gw_ishl (pc' := 27) cx dX5_owedOnes_26 rfl ?_
        refine gw_goto (pc' := 31) cx dX5_owedOnes_27 (by decide) ?_
        refine gw_ior (pc' := 32) cx dX5_owedOnes_31 rfl ?_
        refine gw_istore_n (pc' := 33) (lv' := [(1, .int (y1 ||| (jshl 1 y2))), (0, .ref (eA E 49)), (2, .int y2)]) cx rfl rfl (by decide) dX5_owedOnes_32 rfl ?_
        refine gw_iinc (pc' := 36) (v := (y2 + 1)) (lv' := [(2, .int (y2 + 1)), (1, .int (y1 ||| (jshl 1 y2))), (0, .ref (eA E 49))]) cx 2 rfl rfl rfl (by decide) dX5_owedOnes_33 rfl ?_
        refine gw_goto (pc' := 4) cx dX5_owedOnes_36 (by decide) ?_
        refine gw_sub [2, 1, 0] (lv' := [(0, .ref (eA E 49)), (1, .int (y1 ||| (jshl 1 y2))), (2, .int (y2 + 1))]) rfl ?_
        exact ih (y1 ||| (jshl 1 y2)) (y2 + 1) σ rfl h
def f_X5_owedOnes (σ : Sg) : Option (Int32) :=
  f_X5_owedOnes_L4 FU 0 0 σ
theorem k_X5_owedOnes (E : Ev)  {σ : Sg} {r : Int32} (h : f_X5_owedOnes σ = some r) : Con E mX5_owedOnes 1 [.ref (eA E 49)] σ (some (.int r)) σ := by
  refine con_of (by decide) (Nat.le_of_ble_eq_true rfl) (fun fr cx tg => ?_)
  show GW E fr 3 0 [(0, .ref (eA E 49))] [] σ
  rw [f_X5_owedOnes] at h
  refine gw_iconst (pc' := 1) (v := 0) cx ci_0 dX5_owedOnes_0 rfl ?_
  refine gw_istore_n (pc' := 2) (lv' := [(1, .int 0), (0, .ref (eA E 49))]) cx rfl rfl (by decide) dX5_owedOnes_1 rfl ?_
  refine gw_iconst (pc' := 3) (v := 0) cx ci_0 dX5_owedOnes_2 rfl ?_
  refine gw_istore_n (pc' := 4) (lv' := [(2, .int 0), (1, .int 0), (0, .ref (eA E 49))]) cx rfl rfl (by decide) dX5_owedOnes_3 rfl ?_
  refine gw_sub [2, 1, 0] (lv' := [(0, .ref (eA E 49)), (1, .int 0), (2, .int 0)]) rfl ?_
  exact w_X5_owedOnes_L4 cx tg FU 0 0 σ rfl h
def f_X5_now (x1 : Int32) (σ : Sg) : Option (Int32 × Sg) :=
  if x1 = 0 then
    some ((σ 50 1), σ)
  else
    if x1 = 1 then
      ob0 (f_X5_sumOf 1 σ) fun r4 =>
      some (r4, σ)
    else
      if x1 = 2 then
        ob0 (f_X5_sumOf 3 σ) fun r7 =>
        some (r7, σ)
      else
        if x1 = 3 then
          some ((σ 50 3), σ)
        else
          if x1 = 4 then
            ob0 (f_X5_owedOnes σ) fun r11 =>
            some (r11, σ)
          else
            if x1 = 5 then
              ob0 (f_X5_roomiestBut (-1) σ) fun r14 =>
              some (r14, σ)
            else
              if x1 = 6 then
                ob0 (f_X5_sumOf 4 σ) fun r17 =>
                some (r17, σ)
              else
                if x1 = 7 then
                  ob0 (f_X5_owedOnes σ) fun r20 =>
                  if r20 = 0 then
                    some (1, σ)
                  else
                    some (0, σ)
                else
                  ob2 (f_X5_finds (-1000001) σ) fun r23 s24 =>
                  some (r23, s24)
theorem k_X5_now (E : Ev) {x1 : Int32} {σ : Sg} {r : Int32} {σ' : Sg} (h : f_X5_now x1 σ = some (r, σ')) : Con E mX5_now 3 [.ref (eA E 49), .int x1] σ (some (.int r)) σ' := by
  refine con_of (by decide) (Nat.le_of_ble_eq_true rfl) (fun fr cx tg => ?_)
  show GW E fr 2 0 [(0, .ref (eA E 49)), (1, .int x1)] [] σ
  rw [f_X5_now] at h
  refine gw_iload_n (pc' := 1) cx 1 rfl rfl dX5_now_0 rfl ?_
  rcases ite_some h with ⟨c1, h⟩ | ⟨c1, h⟩
  · refine gw_tin (pc' := 48) (off := 47) 0 cx c1 dX5_now_1 (by decide) (by decide) ?_
    refine gw_aload_n (pc' := 49) cx 0 rfl rfl dX5_now_48 rfl ?_
    refine gw_getR (pc' := 52) cx at49 rfl fl_X5_7 dX5_now_49 rfl ?_
    refine gw_iconst (pc' := 53) (v := 1) cx ci_1 dX5_now_52 rfl ?_
    refine gw_iald (pc' := 54) cx at50 (vpc (by decide)) cn_1 dX5_now_53 rfl ?_
    exact gw_iret cx tg (rt1 h) (rt2 h) dX5_now_54
  · skip
    rcases ite_some h with ⟨c2, h⟩ | ⟨c2, h⟩
    · refine gw_tin (pc' := 55) (off := 54) 1 cx c2 dX5_now_1 (by decide) (by decide) ?_
      refine gw_aload_n (pc' := 56) cx 0 rfl rfl dX5_now_55 rfl ?_
      refine gw_iconst (pc' := 57) (v := 1) cx ci_1 dX5_now_56 rfl ?_
      obtain ⟨r4, g3, h⟩ := ob0_some h
      refine gw_cV (pc' := 60) (av := [.int 1]) (rest := []) cx (k_X5_sumOf E g3) at49 (by decide) lk_X5_132 dX5_now_57 rfl (Nat.le_of_ble_eq_true rfl) rfl ?_
      show GW E fr _ 60 _ (.int r4 :: _) _
      exact gw_iret cx tg (rt1 h) (rt2 h) dX5_now_60
    · skip
      rcases ite_some h with ⟨c5, h⟩ | ⟨c5, h⟩
      · refine gw_tin (pc' := 61) (off := 60) 2 cx c5 dX5_now_1 (by decide) (by decide) ?_
        refine gw_aload_n (pc' := 62) cx 0 rfl rfl dX5_now_61 rfl ?_
        refine gw_iconst (pc' := 63) (v := 3) cx ci_3 dX5_now_62 rfl ?_
        obtain ⟨r7, g6, h⟩ := ob0_some h
        refine gw_cV (pc' := 66) (av := [.int 3]) (rest := []) cx (k_X5_sumOf E g6) at49 (by decide) lk_X5_132 dX5_now_63 rfl (Nat.le_of_ble_eq_true rfl) rfl ?_
        show GW E fr _ 66 _ (.int r7 :: _) _
        exact gw_iret cx tg (rt1 h) (rt2 h) dX5_now_66
      · skip
        rcases ite_some h with ⟨c8, h⟩ | ⟨c8, h⟩
        · refine gw_tin (pc' := 67) (off := 66) 3 cx c8 dX5_now_1 (by decide) (by decide) ?_
          refine gw_aload_n (pc' := 68) cx 0 rfl rfl dX5_now_67 rfl ?_
          refine gw_getR (pc' := 71) cx at49 rfl fl_X5_7 dX5_now_68 rfl ?_
          refine gw_iconst (pc' := 72) (v := 3) cx ci_3 dX5_now_71 rfl ?_
          refine gw_iald (pc' := 73) cx at50 (vpc (by decide)) cn_3 dX5_now_72 rfl ?_
          exact gw_iret cx tg (rt1 h) (rt2 h) dX5_now_73
        · skip
          rcases ite_some h with ⟨c9, h⟩ | ⟨c9, h⟩
          · refine gw_tin (pc' := 74) (off := 73) 4 cx c9 dX5_now_1 (by decide) (by decide) ?_
            refine gw_aload_n (pc' := 75) cx 0 rfl rfl dX5_now_74 rfl ?_
            obtain ⟨r11, g10, h⟩ := ob0_some h
            refine gw_cV (pc' := 78) (av := []) (rest := []) cx (k_X5_owedOnes E g10) at49 (by decide) lk_X5_135 dX5_now_75 rfl (Nat.le_of_ble_eq_true rfl) rfl ?_
            show GW E fr _ 78 _ (.int r11 :: _) _
            exact gw_iret cx tg (rt1 h) (rt2 h) dX5_now_78
          · skip
            rcases ite_some h with ⟨c12, h⟩ | ⟨c12, h⟩
            · refine gw_tin (pc' := 79) (off := 78) 5 cx c12 dX5_now_1 (by decide) (by decide) ?_
              refine gw_aload_n (pc' := 80) cx 0 rfl rfl dX5_now_79 rfl ?_
              refine gw_iconst (pc' := 81) (v := (-1)) cx ci_m1 dX5_now_80 rfl ?_
              obtain ⟨r14, g13, h⟩ := ob0_some h
              refine gw_cV (pc' := 84) (av := [.int (-1)]) (rest := []) cx (k_X5_roomiestBut E g13) at49 (by decide) lk_X5_105 dX5_now_81 rfl (Nat.le_of_ble_eq_true rfl) rfl ?_
              show GW E fr _ 84 _ (.int r14 :: _) _
              exact gw_iret cx tg (rt1 h) (rt2 h) dX5_now_84
            · skip
              rcases ite_some h with ⟨c15, h⟩ | ⟨c15, h⟩
              · refine gw_tin (pc' := 85) (off := 84) 6 cx c15 dX5_now_1 (by decide) (by decide) ?_
                refine gw_aload_n (pc' := 86) cx 0 rfl rfl dX5_now_85 rfl ?_
                refine gw_iconst (pc' := 87) (v := 4) cx ci_4 dX5_now_86 rfl ?_
                obtain ⟨r17, g16, h⟩ := ob0_some h
                refine gw_cV (pc' := 90) (av := [.int 4]) (rest := []) cx (k_X5_sumOf E g16) at49 (by decide) lk_X5_132 dX5_now_87 rfl (Nat.le_of_ble_eq_true rfl) rfl ?_
                show GW E fr _ 90 _ (.int r17 :: _) _
                exact gw_iret cx tg (rt1 h) (rt2 h) dX5_now_90
              · skip
                rcases ite_some h with ⟨c18, h⟩ | ⟨c18, h⟩
                · refine gw_tin (pc' := 91) (off := 90) 7 cx c18 dX5_now_1 (by decide) (by decide) ?_
                  refine gw_aload_n (pc' := 92) cx 0 rfl rfl dX5_now_91 rfl ?_
                  obtain ⟨r20, g19, h⟩ := ob0_some h
                  refine gw_cV (pc' := 95) (av := []) (rest := []) cx (k_X5_owedOnes E g19) at49 (by decide) lk_X5_135 dX5_now_92 rfl (Nat.le_of_ble_eq_true rfl) rfl ?_
                  show GW E fr _ 95 _ (.int r20 :: _) _
                  rcases ite_some h with ⟨c21, h⟩ | ⟨c21, h⟩
                  · refine gw_if_ne_f (pc' := 98) cx c21 dX5_now_95 ⟨102, by decide⟩ rfl ?_
                    refine gw_iconst (pc' := 99) (v := 1) cx ci_1 dX5_now_98 rfl ?_
                    refine gw_goto (pc' := 103) cx dX5_now_99 (by decide) ?_
                    exact gw_iret cx tg (rt1 h) (rt2 h) dX5_now_103
                  · refine gw_if_ne_t (pc' := 102) cx c21 dX5_now_95 (by decide) ?_
                    refine gw_iconst (pc' := 103) (v := 0) cx ci_0 dX5_now_102 rfl ?_
                    exact gw_iret cx tg (rt1 h) (rt2 h) dX5_now_103
                · skip
                  refine gw_tout (pc' := 104) cx dX5_now_1 (by have a0 := lv_neT (a := 0) c1 rfl; have a1 := lv_neT (a := 1) c2 rfl; have a2 := lv_neT (a := 2) c5 rfl; have a3 := lv_neT (a := 3) c8 rfl; have a4 := lv_neT (a := 4) c9 rfl; have a5 := lv_neT (a := 5) c12 rfl; have a6 := lv_neT (a := 6) c15 rfl; have a7 := lv_neT (a := 7) c18 rfl; omega) (by decide) ?_
                  refine gw_aload_n (pc' := 105) cx 0 rfl rfl dX5_now_104 rfl ?_
                  refine gw_ldc (pc' := 107) (v := (-1000001)) cx ct_X5_37 dX5_now_105 rfl ?_
                  obtain ⟨r23, s24, g22, h⟩ := ob2_some h
                  refine gw_cV (pc' := 110) (av := [.int (-1000001)]) (rest := []) cx (k_X5_finds E g22) at49 (by decide) lk_X5_39 dX5_now_107 rfl (Nat.le_of_ble_eq_true rfl) rfl ?_
                  show GW E fr _ 110 _ (.int r23 :: _) _
                  exact gw_iret cx tg (rt1 h) (rt2 h) dX5_now_110
def f_X5_thenAt (x1 : Int32) (x2 : Int32) (σ : Sg) : Option (Int32 × Sg) :=
  ob1 (f_X5_copyRow 50 53 σ) fun s2 =>
  ob1 (f_X5_goes x2 s2) fun s4 =>
  chk x1 60 <|
  ob1 (f_X5_copyRow 53 50 s4) fun s7 =>
  some ((s4 50 x1.toNatClampNeg), s7)
theorem k_X5_thenAt (E : Ev) {x1 : Int32} {x2 : Int32} {σ : Sg} {r : Int32} {σ' : Sg} (h : f_X5_thenAt x1 x2 σ = some (r, σ')) : Con E mX5_thenAt 7 [.ref (eA E 49), .int x1, .int x2] σ (some (.int r)) σ' := by
  refine con_of (by decide) (Nat.le_of_ble_eq_true rfl) (fun fr cx tg => ?_)
  show GW E fr 4 0 [(0, .ref (eA E 49)), (1, .int x1), (2, .int x2)] [] σ
  rw [f_X5_thenAt] at h
  refine gw_aload_n (pc' := 1) cx 0 rfl rfl dX5_thenAt_0 rfl ?_
  refine gw_getR (pc' := 4) cx at49 rfl fl_X5_7 dX5_thenAt_1 rfl ?_
  refine gw_aload_n (pc' := 5) cx 0 rfl rfl dX5_thenAt_4 rfl ?_
  refine gw_getR (pc' := 8) cx at49 rfl fl_X5_19 dX5_thenAt_5 rfl ?_
  obtain ⟨s2, g1, h⟩ := ob1_some h
  refine gw_cS (pc' := 11) (av := [.ref (eA E 50), .ref (eA E 53)]) (rest := []) cx (k_X5_copyRow E at50 at53 g1) (by decide) lk_X5_139 dX5_thenAt_8 rfl (Nat.le_of_ble_eq_true rfl) rfl ?_
  show GW E fr _ 11 _ [] _
  refine gw_aload_n (pc' := 12) cx 0 rfl rfl dX5_thenAt_11 rfl ?_
  refine gw_iload_n (pc' := 13) cx 2 rfl rfl dX5_thenAt_12 rfl ?_
  obtain ⟨s4, g3, h⟩ := ob1_some h
  refine gw_cV (pc' := 16) (av := [.int x2]) (rest := []) cx (k_X5_goes E g3) at49 (by decide) lk_X5_129 dX5_thenAt_13 rfl (Nat.le_of_ble_eq_true rfl) rfl ?_
  show GW E fr _ 16 _ [] _
  refine gw_aload_n (pc' := 17) cx 0 rfl rfl dX5_thenAt_16 rfl ?_
  refine gw_getR (pc' := 20) cx at49 rfl fl_X5_7 dX5_thenAt_17 rfl ?_
  refine gw_iload_n (pc' := 21) cx 1 rfl rfl dX5_thenAt_20 rfl ?_
  obtain ⟨i5, h⟩ := chk_some h
  refine gw_iald (pc' := 22) cx at50 i5 rfl dX5_thenAt_21 rfl ?_
  refine gw_istore_n (pc' := 23) (lv' := [(3, .int (s4 50 x1.toNatClampNeg)), (0, .ref (eA E 49)), (1, .int x1), (2, .int x2)]) cx rfl rfl (by decide) dX5_thenAt_22 rfl ?_
  refine gw_aload_n (pc' := 24) cx 1 rfl rfl dX5_thenAt_23 rfl ?_
  refine gw_getR (pc' := 27) cx at49 rfl fl_X5_19 dX5_thenAt_24 rfl ?_
  refine gw_aload_n (pc' := 28) cx 1 rfl rfl dX5_thenAt_27 rfl ?_
  refine gw_getR (pc' := 31) cx at49 rfl fl_X5_7 dX5_thenAt_28 rfl ?_
  obtain ⟨s7, g6, h⟩ := ob1_some h
  refine gw_cS (pc' := 34) (av := [.ref (eA E 53), .ref (eA E 50)]) (rest := []) cx (k_X5_copyRow E at53 at50 g6) (by decide) lk_X5_139 dX5_thenAt_31 rfl (Nat.le_of_ble_eq_true rfl) rfl ?_
  show GW E fr _ 34 _ [] _
  refine gw_iload_n (pc' := 35) cx 0 rfl rfl dX5_thenAt_34 rfl ?_
  exact gw_iret cx tg (rt1 h) (rt2 h) dX5_thenAt_35
def f_X5_ahead (x1 : Int32) (x2 : Int32) (x3 : Int32) (σ : Sg) : Option (Int32 × Sg) :=
  ob0 (f_X5_isOne x1 σ) fun r2 =>
  if r2 = 0 then
    ob2 (f_X5_finds (-1000001) σ) fun r5 s6 =>
    some (r5, s6)
  else
    if x2 = 1 then
      ob0 (f_X5_isIn x3.toInt64 (0 : Int64) (100 : Int64) σ) fun r9 =>
      if r9 = 0 then
        ob2 (f_X5_finds (-1000001) σ) fun r12 s13 =>
        some (r12, s13)
      else
        ob0 (f_X5_at x1 x2 σ) fun r15 =>
        ob2 (f_X5_thenAt r15 x3 σ) fun r17 s18 =>
        some (r17, s18)
    else
      if x2 = 3 then
        ob0 (f_X5_isIn x3.toInt64 (0 : Int64) (100 : Int64) σ) fun r21 =>
        if r21 = 0 then
          ob2 (f_X5_finds (-1000001) σ) fun r24 s25 =>
          some (r24, s25)
        else
          ob0 (f_X5_at x1 x2 σ) fun r27 =>
          ob2 (f_X5_thenAt r27 x3 σ) fun r29 s30 =>
          some (r29, s30)
      else
        if x2 = 4 then
          ob0 (f_X5_isIn x3.toInt64 (0 : Int64) (100 : Int64) σ) fun r33 =>
          if r33 = 0 then
            ob2 (f_X5_finds (-1000001) σ) fun r36 s37 =>
            some (r36, s37)
          else
            ob0 (f_X5_at x1 x2 σ) fun r39 =>
            ob2 (f_X5_thenAt r39 x3 σ) fun r41 s42 =>
            some (r41, s42)
        else
          ob2 (f_X5_finds (-1000001) σ) fun r44 s45 =>
          some (r44, s45)
theorem k_X5_ahead (E : Ev) {x1 : Int32} {x2 : Int32} {x3 : Int32} {σ : Sg} {r : Int32} {σ' : Sg} (h : f_X5_ahead x1 x2 x3 σ = some (r, σ')) : Con E mX5_ahead 8 [.ref (eA E 49), .int x1, .int x2, .int x3] σ (some (.int r)) σ' := by
  refine con_of (by decide) (Nat.le_of_ble_eq_true rfl) (fun fr cx tg => ?_)
  show GW E fr 5 0 [(0, .ref (eA E 49)), (1, .int x1), (2, .int x2), (3, .int x3)] [] σ
  rw [f_X5_ahead] at h
  refine gw_aload_n (pc' := 1) cx 0 rfl rfl dX5_ahead_0 rfl ?_
  refine gw_iload_n (pc' := 2) cx 1 rfl rfl dX5_ahead_1 rfl ?_
  obtain ⟨r2, g1, h⟩ := ob0_some h
  refine gw_cV (pc' := 5) (av := [.int x1]) (rest := []) cx (k_X5_isOne E g1) at49 (by decide) lk_X5_85 dX5_ahead_2 rfl (Nat.le_of_ble_eq_true rfl) rfl ?_
  show GW E fr _ 5 _ (.int r2 :: _) _
  rcases ite_some h with ⟨c3, h⟩ | ⟨c3, h⟩
  · refine gw_if_eq_t (pc' := 39) cx c3 dX5_ahead_5 (by decide) ?_
    refine gw_iconst (pc' := 40) (v := 0) cx ci_0 dX5_ahead_39 rfl ?_
    refine gw_istore (pc' := 42) (lv' := [(4, .int 0), (0, .ref (eA E 49)), (1, .int x1), (2, .int x2), (3, .int x3)]) cx rfl (by decide) dX5_ahead_40 rfl ?_
    refine gw_iload (pc' := 44) cx 0 rfl dX5_ahead_42 rfl ?_
    refine gw_if_eq_t (pc' := 60) cx (by decide) dX5_ahead_44 (by decide) ?_
    refine gw_aload_n (pc' := 61) cx 1 rfl rfl dX5_ahead_60 rfl ?_
    refine gw_ldc (pc' := 63) (v := (-1000001)) cx ct_X5_37 dX5_ahead_61 rfl ?_
    obtain ⟨r5, s6, g4, h⟩ := ob2_some h
    refine gw_cV (pc' := 66) (av := [.int (-1000001)]) (rest := []) cx (k_X5_finds E g4) at49 (by decide) lk_X5_39 dX5_ahead_63 rfl (Nat.le_of_ble_eq_true rfl) rfl ?_
    show GW E fr _ 66 _ (.int r5 :: _) _
    exact gw_iret cx tg (rt1 h) (rt2 h) dX5_ahead_66
  · refine gw_if_eq_f (pc' := 8) cx c3 dX5_ahead_5 ⟨39, by decide⟩ rfl ?_
    refine gw_iload_n (pc' := 9) cx 2 rfl rfl dX5_ahead_8 rfl ?_
    refine gw_iconst (pc' := 10) (v := 1) cx ci_1 dX5_ahead_9 rfl ?_
    rcases ite_some h with ⟨c7, h⟩ | ⟨c7, h⟩
    · refine gw_ic_eq_t (pc' := 23) cx c7 dX5_ahead_10 (by decide) ?_
      refine gw_iload_n (pc' := 24) cx 3 rfl rfl dX5_ahead_23 rfl ?_
      refine gw_i2l (pc' := 25) cx dX5_ahead_24 rfl ?_
      refine gw_lconst (pc' := 26) (v := 0) cx cl_0 dX5_ahead_25 rfl ?_
      refine gw_ldc2_w (pc' := 29) (v := 100) cx ct_X5_143 dX5_ahead_26 rfl ?_
      obtain ⟨r9, g8, h⟩ := ob0_some h
      refine gw_cS (pc' := 32) (av := [.long x3.toInt64, .long (0 : Int64), .long (100 : Int64)]) (rest := []) cx (k_X5_isIn E g8) (by decide) lk_X5_45 dX5_ahead_29 rfl (Nat.le_of_ble_eq_true rfl) rfl ?_
      show GW E fr _ 32 _ (.int r9 :: _) _
      rcases ite_some h with ⟨c10, h⟩ | ⟨c10, h⟩
      · refine gw_if_eq_t (pc' := 39) cx c10 dX5_ahead_32 (by decide) ?_
        refine gw_iconst (pc' := 40) (v := 0) cx ci_0 dX5_ahead_39 rfl ?_
        refine gw_istore (pc' := 42) (lv' := [(4, .int 0), (0, .ref (eA E 49)), (1, .int x1), (2, .int x2), (3, .int x3)]) cx rfl (by decide) dX5_ahead_40 rfl ?_
        refine gw_iload (pc' := 44) cx 0 rfl dX5_ahead_42 rfl ?_
        refine gw_if_eq_t (pc' := 60) cx (by decide) dX5_ahead_44 (by decide) ?_
        refine gw_aload_n (pc' := 61) cx 1 rfl rfl dX5_ahead_60 rfl ?_
        refine gw_ldc (pc' := 63) (v := (-1000001)) cx ct_X5_37 dX5_ahead_61 rfl ?_
        obtain ⟨r12, s13, g11, h⟩ := ob2_some h
        refine gw_cV (pc' := 66) (av := [.int (-1000001)]) (rest := []) cx (k_X5_finds E g11) at49 (by decide) lk_X5_39 dX5_ahead_63 rfl (Nat.le_of_ble_eq_true rfl) rfl ?_
        show GW E fr _ 66 _ (.int r12 :: _) _
        exact gw_iret cx tg (rt1 h) (rt2 h) dX5_ahead_66
      · refine gw_if_eq_f (pc' := 35) cx c10 dX5_ahead_32 ⟨39, by decide⟩ rfl ?_
        refine gw_iconst (pc' := 36) (v := 1) cx ci_1 dX5_ahead_35 rfl ?_
        refine gw_goto (pc' := 40) cx dX5_ahead_36 (by decide) ?_
        refine gw_istore (pc' := 42) (lv' := [(4, .int 1), (0, .ref (eA E 49)), (1, .int x1), (2, .int x2), (3, .int x3)]) cx rfl (by decide) dX5_ahead_40 rfl ?_
        refine gw_iload (pc' := 44) cx 0 rfl dX5_ahead_42 rfl ?_
        refine gw_if_eq_f (pc' := 47) cx (by decide) dX5_ahead_44 ⟨60, by decide⟩ rfl ?_
        refine gw_aload_n (pc' := 48) cx 1 rfl rfl dX5_ahead_47 rfl ?_
        refine gw_iload_n (pc' := 49) cx 2 rfl rfl dX5_ahead_48 rfl ?_
        refine gw_iload_n (pc' := 50) cx 3 rfl rfl dX5_ahead_49 rfl ?_
        obtain ⟨r15, g14, h⟩ := ob0_some h
        refine gw_cS (pc' := 53) (av := [.int x1, .int x2]) (rest := [.ref (eA E 49)]) cx (k_X5_at E g14) (by decide) lk_X5_61 dX5_ahead_50 rfl (Nat.le_of_ble_eq_true rfl) rfl ?_
        show GW E fr _ 53 _ (.int r15 :: _) _
        refine gw_iload_n (pc' := 54) cx 4 rfl rfl dX5_ahead_53 rfl ?_
        obtain ⟨r17, s18, g16, h⟩ := ob2_some h
        refine gw_cV (pc' := 57) (av := [.int r15, .int x3]) (rest := []) cx (k_X5_thenAt E g16) at49 (by decide) lk_X5_145 dX5_ahead_54 rfl (Nat.le_of_ble_eq_true rfl) rfl ?_
        show GW E fr _ 57 _ (.int r17 :: _) _
        refine gw_goto (pc' := 66) cx dX5_ahead_57 (by decide) ?_
        exact gw_iret cx tg (rt1 h) (rt2 h) dX5_ahead_66
    · refine gw_ic_eq_f (pc' := 13) cx c7 dX5_ahead_10 ⟨23, by decide⟩ rfl ?_
      refine gw_iload_n (pc' := 14) cx 2 rfl rfl dX5_ahead_13 rfl ?_
      refine gw_iconst (pc' := 15) (v := 3) cx ci_3 dX5_ahead_14 rfl ?_
      rcases ite_some h with ⟨c19, h⟩ | ⟨c19, h⟩
      · refine gw_ic_eq_t (pc' := 23) cx c19 dX5_ahead_15 (by decide) ?_
        refine gw_iload_n (pc' := 24) cx 3 rfl rfl dX5_ahead_23 rfl ?_
        refine gw_i2l (pc' := 25) cx dX5_ahead_24 rfl ?_
        refine gw_lconst (pc' := 26) (v := 0) cx cl_0 dX5_ahead_25 rfl ?_
        refine gw_ldc2_w (pc' := 29) (v := 100) cx ct_X5_143 dX5_ahead_26 rfl ?_
        obtain ⟨r21, g20, h⟩ := ob0_some h
        refine gw_cS (pc' := 32) (av := [.long x3.toInt64, .long (0 : Int64), .long (100 : Int64)]) (rest := []) cx (k_X5_isIn E g20) (by decide) lk_X5_45 dX5_ahead_29 rfl (Nat.le_of_ble_eq_true rfl) rfl ?_
        show GW E fr _ 32 _ (.int r21 :: _) _
        rcases ite_some h with ⟨c22, h⟩ | ⟨c22, h⟩
        · refine gw_if_eq_t (pc' := 39) cx c22 dX5_ahead_32 (by decide) ?_
          refine gw_iconst (pc' := 40) (v := 0) cx ci_0 dX5_ahead_39 rfl ?_
          refine gw_istore (pc' := 42) (lv' := [(4, .int 0), (0, .ref (eA E 49)), (1, .int x1), (2, .int x2), (3, .int x3)]) cx rfl (by decide) dX5_ahead_40 rfl ?_
          refine gw_iload (pc' := 44) cx 0 rfl dX5_ahead_42 rfl ?_
          refine gw_if_eq_t (pc' := 60) cx (by decide) dX5_ahead_44 (by decide) ?_
          refine gw_aload_n (pc' := 61) cx 1 rfl rfl dX5_ahead_60 rfl ?_
          refine gw_ldc (pc' := 63) (v := (-1000001)) cx ct_X5_37 dX5_ahead_61 rfl ?_
          obtain ⟨r24, s25, g23, h⟩ := ob2_some h
          refine gw_cV (pc' := 66) (av := [.int (-1000001)]) (rest := []) cx (k_X5_finds E g23) at49 (by decide) lk_X5_39 dX5_ahead_63 rfl (Nat.le_of_ble_eq_true rfl) rfl ?_
          show GW E fr _ 66 _ (.int r24 :: _) _
          exact gw_iret cx tg (rt1 h) (rt2 h) dX5_ahead_66
        · refine gw_if_eq_f (pc' := 35) cx c22 dX5_ahead_32 ⟨39, by decide⟩ rfl ?_
          refine gw_iconst (pc' := 36) (v := 1) cx ci_1 dX5_ahead_35 rfl ?_
          refine gw_goto (pc' := 40) cx dX5_ahead_36 (by decide) ?_
          refine gw_istore (pc' := 42) (lv' := [(4, .int 1), (0, .ref (eA E 49)), (1, .int x1), (2, .int x2), (3, .int x3)]) cx rfl (by decide) dX5_ahead_40 rfl ?_
          refine gw_iload (pc' := 44) cx 0 rfl dX5_ahead_42 rfl ?_
          refine gw_if_eq_f (pc' := 47) cx (by decide) dX5_ahead_44 ⟨60, by decide⟩ rfl ?_
          refine gw_aload_n (pc' := 48) cx 1 rfl rfl dX5_ahead_47 rfl ?_
          refine gw_iload_n (pc' := 49) cx 2 rfl rfl dX5_ahead_48 rfl ?_
          refine gw_iload_n (pc' := 50) cx 3 rfl rfl dX5_ahead_49 rfl ?_
          obtain ⟨r27, g26, h⟩ := ob0_some h
          refine gw_cS (pc' := 53) (av := [.int x1, .int x2]) (rest := [.ref (eA E 49)]) cx (k_X5_at E g26) (by decide) lk_X5_61 dX5_ahead_50 rfl (Nat.le_of_ble_eq_true rfl) rfl ?_
          show GW E fr _ 53 _ (.int r27 :: _) _
          refine gw_iload_n (pc' := 54) cx 4 rfl rfl dX5_ahead_53 rfl ?_
          obtain ⟨r29, s30, g28, h⟩ := ob2_some h
          refine gw_cV (pc' := 57) (av := [.int r27, .int x3]) (rest := []) cx (k_X5_thenAt E g28) at49 (by decide) lk_X5_145 dX5_ahead_54 rfl (Nat.le_of_ble_eq_true rfl) rfl ?_
          show GW E fr _ 57 _ (.int r29 :: _) _
          refine gw_goto (pc' := 66) cx dX5_ahead_57 (by decide) ?_
          exact gw_iret cx tg (rt1 h) (rt2 h) dX5_ahead_66
      · refine gw_ic_eq_f (pc' := 18) cx c19 dX5_ahead_15 ⟨23, by decide⟩ rfl ?_
        refine gw_iload_n (pc' := 19) cx 2 rfl rfl dX5_ahead_18 rfl ?_
        refine gw_iconst (pc' := 20) (v := 4) cx ci_4 dX5_ahead_19 rfl ?_
        rcases ite_some h with ⟨c31, h⟩ | ⟨c31, h⟩
        · refine gw_ic_ne_f (pc' := 23) cx c31 dX5_ahead_20 ⟨39, by decide⟩ rfl ?_
          refine gw_iload_n (pc' := 24) cx 3 rfl rfl dX5_ahead_23 rfl ?_
          refine gw_i2l (pc' := 25) cx dX5_ahead_24 rfl ?_
          refine gw_lconst (pc' := 26) (v := 0) cx cl_0 dX5_ahead_25 rfl ?_
          refine gw_ldc2_w (pc' := 29) (v := 100) cx ct_X5_143 dX5_ahead_26 rfl ?_
          obtain ⟨r33, g32, h⟩ := ob0_some h
          refine gw_cS (pc' := 32) (av := [.long x3.toInt64, .long (0 : Int64), .long (100 : Int64)]) (rest := []) cx (k_X5_isIn E g32) (by decide) lk_X5_45 dX5_ahead_29 rfl (Nat.le_of_ble_eq_true rfl) rfl ?_
          show GW E fr _ 32 _ (.int r33 :: _) _
          rcases ite_some h with ⟨c34, h⟩ | ⟨c34, h⟩
          · refine gw_if_eq_t (pc' := 39) cx c34 dX5_ahead_32 (by decide) ?_
            refine gw_iconst (pc' := 40) (v := 0) cx ci_0 dX5_ahead_39 rfl ?_
            refine gw_istore (pc' := 42) (lv' := [(4, .int 0), (0, .ref (eA E 49)), (1, .int x1), (2, .int x2), (3, .int x3)]) cx rfl (by decide) dX5_ahead_40 rfl ?_
            refine gw_iload (pc' := 44) cx 0 rfl dX5_ahead_42 rfl ?_
            refine gw_if_eq_t (pc' := 60) cx (by decide) dX5_ahead_44 (by decide) ?_
            refine gw_aload_n (pc' := 61) cx 1 rfl rfl dX5_ahead_60 rfl ?_
            refine gw_ldc (pc' := 63) (v := (-1000001)) cx ct_X5_37 dX5_ahead_61 rfl ?_
            obtain ⟨r36, s37, g35, h⟩ := ob2_some h
            refine gw_cV (pc' := 66) (av := [.int (-1000001)]) (rest := []) cx (k_X5_finds E g35) at49 (by decide) lk_X5_39 dX5_ahead_63 rfl (Nat.le_of_ble_eq_true rfl) rfl ?_
            show GW E fr _ 66 _ (.int r36 :: _) _
            exact gw_iret cx tg (rt1 h) (rt2 h) dX5_ahead_66
          · refine gw_if_eq_f (pc' := 35) cx c34 dX5_ahead_32 ⟨39, by decide⟩ rfl ?_
            refine gw_iconst (pc' := 36) (v := 1) cx ci_1 dX5_ahead_35 rfl ?_
            refine gw_goto (pc' := 40) cx dX5_ahead_36 (by decide) ?_
            refine gw_istore (pc' := 42) (lv' := [(4, .int 1), (0, .ref (eA E 49)), (1, .int x1), (2, .int x2), (3, .int x3)]) cx rfl (by decide) dX5_ahead_40 rfl ?_
            refine gw_iload (pc' := 44) cx 0 rfl dX5_ahead_42 rfl ?_
            refine gw_if_eq_f (pc' := 47) cx (by decide) dX5_ahead_44 ⟨60, by decide⟩ rfl ?_
            refine gw_aload_n (pc' := 48) cx 1 rfl rfl dX5_ahead_47 rfl ?_
            refine gw_iload_n (pc' := 49) cx 2 rfl rfl dX5_ahead_48 rfl ?_
            refine gw_iload_n (pc' := 50) cx 3 rfl rfl dX5_ahead_49 rfl ?_
            obtain ⟨r39, g38, h⟩ := ob0_some h
            refine gw_cS (pc' := 53) (av := [.int x1, .int x2]) (rest := [.ref (eA E 49)]) cx (k_X5_at E g38) (by decide) lk_X5_61 dX5_ahead_50 rfl (Nat.le_of_ble_eq_true rfl) rfl ?_
            show GW E fr _ 53 _ (.int r39 :: _) _
            refine gw_iload_n (pc' := 54) cx 4 rfl rfl dX5_ahead_53 rfl ?_
            obtain ⟨r41, s42, g40, h⟩ := ob2_some h
            refine gw_cV (pc' := 57) (av := [.int r39, .int x3]) (rest := []) cx (k_X5_thenAt E g40) at49 (by decide) lk_X5_145 dX5_ahead_54 rfl (Nat.le_of_ble_eq_true rfl) rfl ?_
            show GW E fr _ 57 _ (.int r41 :: _) _
            refine gw_goto (pc' := 66) cx dX5_ahead_57 (by decide) ?_
            exact gw_iret cx tg (rt1 h) (rt2 h) dX5_ahead_66
        · refine gw_ic_ne_t (pc' := 39) cx c31 dX5_ahead_20 (by decide) ?_
          refine gw_iconst (pc' := 40) (v := 0) cx ci_0 dX5_ahead_39 rfl ?_
          refine gw_istore (pc' := 42) (lv' := [(4, .int 0), (0, .ref (eA E 49)), (1, .int x1), (2, .int x2), (3, .int x3)]) cx rfl (by decide) dX5_ahead_40 rfl ?_
          refine gw_iload (pc' := 44) cx 0 rfl dX5_ahead_42 rfl ?_
          refine gw_if_eq_t (pc' := 60) cx (by decide) dX5_ahead_44 (by decide) ?_
          refine gw_aload_n (pc' := 61) cx 1 rfl rfl dX5_ahead_60 rfl ?_
          refine gw_ldc (pc' := 63) (v := (-1000001)) cx ct_X5_37 dX5_ahead_61 rfl ?_
          obtain ⟨r44, s45, g43, h⟩ := ob2_some h
          refine gw_cV (pc' := 66) (av := [.int (-1000001)]) (rest := []) cx (k_X5_finds E g43) at49 (by decide) lk_X5_39 dX5_ahead_63 rfl (Nat.le_of_ble_eq_true rfl) rfl ?_
          show GW E fr _ 66 _ (.int r44 :: _) _
          exact gw_iret cx tg (rt1 h) (rt2 h) dX5_ahead_66
def f_X5_hints (x1 : Int32) (σ : Sg) : Option (Int32 × Sg) :=
  ob0 (f_X5_isIn x1.toInt64 (0 : Int64) (100 : Int64) σ) fun r2 =>
  if r2 = 0 then
    ob2 (f_X5_finds (-1000001) σ) fun r5 s6 =>
    some (r5, s6)
  else
    ob2 (f_X5_thenAt 3 x1 σ) fun r8 s9 =>
    some (r8, s9)
theorem k_X5_hints (E : Ev) {x1 : Int32} {σ : Sg} {r : Int32} {σ' : Sg} (h : f_X5_hints x1 σ = some (r, σ')) : Con E mX5_hints 8 [.ref (eA E 49), .int x1] σ (some (.int r)) σ' := by
  refine con_of (by decide) (Nat.le_of_ble_eq_true rfl) (fun fr cx tg => ?_)
  show GW E fr 2 0 [(0, .ref (eA E 49)), (1, .int x1)] [] σ
  rw [f_X5_hints] at h
  refine gw_iload_n (pc' := 1) cx 1 rfl rfl dX5_hints_0 rfl ?_
  refine gw_i2l (pc' := 2) cx dX5_hints_1 rfl ?_
  refine gw_lconst (pc' := 3) (v := 0) cx cl_0 dX5_hints_2 rfl ?_
  refine gw_ldc2_w (pc' := 6) (v := 100) cx ct_X5_143 dX5_hints_3 rfl ?_
  obtain ⟨r2, g1, h⟩ := ob0_some h
  refine gw_cS (pc' := 9) (av := [.long x1.toInt64, .long (0 : Int64), .long (100 : Int64)]) (rest := []) cx (k_X5_isIn E g1) (by decide) lk_X5_45 dX5_hints_6 rfl (Nat.le_of_ble_eq_true rfl) rfl ?_
  show GW E fr _ 9 _ (.int r2 :: _) _
  rcases ite_some h with ⟨c3, h⟩ | ⟨c3, h⟩
  · refine gw_if_eq_t (pc' := 21) cx c3 dX5_hints_9 (by decide) ?_
    refine gw_aload_n (pc' := 22) cx 0 rfl rfl dX5_hints_21 rfl ?_
    refine gw_ldc (pc' := 24) (v := (-1000001)) cx ct_X5_37 dX5_hints_22 rfl ?_
    obtain ⟨r5, s6, g4, h⟩ := ob2_some h
    refine gw_cV (pc' := 27) (av := [.int (-1000001)]) (rest := []) cx (k_X5_finds E g4) at49 (by decide) lk_X5_39 dX5_hints_24 rfl (Nat.le_of_ble_eq_true rfl) rfl ?_
    show GW E fr _ 27 _ (.int r5 :: _) _
    exact gw_iret cx tg (rt1 h) (rt2 h) dX5_hints_27
  · refine gw_if_eq_f (pc' := 12) cx c3 dX5_hints_9 ⟨21, by decide⟩ rfl ?_
    refine gw_aload_n (pc' := 13) cx 0 rfl rfl dX5_hints_12 rfl ?_
    refine gw_iconst (pc' := 14) (v := 3) cx ci_3 dX5_hints_13 rfl ?_
    refine gw_iload_n (pc' := 15) cx 1 rfl rfl dX5_hints_14 rfl ?_
    obtain ⟨r8, s9, g7, h⟩ := ob2_some h
    refine gw_cV (pc' := 18) (av := [.int 3, .int x1]) (rest := []) cx (k_X5_thenAt E g7) at49 (by decide) lk_X5_145 dX5_hints_15 rfl (Nat.le_of_ble_eq_true rfl) rfl ?_
    show GW E fr _ 18 _ (.int r8 :: _) _
    refine gw_goto (pc' := 27) cx dX5_hints_18 (by decide) ?_
    exact gw_iret cx tg (rt1 h) (rt2 h) dX5_hints_27
def f_X5_even_L13 : Nat → Int32 → Sg → Option (Int32 × Sg)
  | 0, _, _ => none
  | n + 1, y1, σ =>
    if 200 < y1 then
      ob1 (f_X5_copyRow 53 50 σ) fun s5 =>
      ob2 (f_X5_finds (-1000004) s5) fun r7 s8 =>
      some (r7, s8)
    else
      ob0 (f_X5_owedOnes σ) fun r10 =>
      if r10 = 0 then
        ob1 (f_X5_copyRow 53 50 σ) fun s13 =>
        some (y1, s13)
      else
        ob1 (f_X5_dayBut 0 σ) fun s15 =>
        f_X5_even_L13 n (y1 + 1) s15
theorem w_X5_even_L13 {E : Ev} {fr : Fr} {r : Int32} {σ' : Sg} (cx : Cx E mX5_even 6 fr) (tg : Tg E fr (some .int) (some (.int r)) σ')  : ∀ (n : Nat) (y1 : Int32) (σ : Sg), f_X5_even_L13 n y1 σ = some (r, σ') → GW E fr 2 13 [(0, .ref (eA E 49)), (1, .int y1)] [] σ := by
  intro n
  induction n with
  | zero => intro y1 σ h; cases (show (none : Option (Int32 × Sg)) = _ from h)
  | succ n ih =>
    intro y1 σ h
    rw [f_X5_even_L13] at h
    refine gw_iload_n (pc' := 14) cx 1 rfl rfl dX5_even_13 rfl ?_
    refine gw_sipush (pc' := 17) (v := 200) cx cs_200 dX5_even_14 rfl ?_
    rcases ite_some h with ⟨c3, h⟩ | ⟨c3, h⟩
    · refine gw_ic_gt_t (pc' := 38) cx c3 dX5_even_17 (by decide) ?_
      refine gw_aload_n (pc' := 39) cx 0 rfl rfl dX5_even_38 rfl ?_
      refine gw_getR (pc' := 42) cx at49 rfl fl_X5_19 dX5_even_39 rfl ?_
      refine gw_aload_n (pc' := 43) cx 0 rfl rfl dX5_even_42 rfl ?_
      refine gw_getR (pc' := 46) cx at49 rfl fl_X5_7 dX5_even_43 rfl ?_
      obtain ⟨s5, g4, h⟩ := ob1_some h
      refine gw_cS (pc' := 49) (av := [.ref (eA E 53), .ref (eA E 50)]) (rest := []) cx (k_X5_copyRow E at53 at50 g4) (by decide) lk_X5_139 dX5_even_46 rfl (Nat.le_of_ble_eq_true rfl) rfl ?_
      show GW E fr _ 49 _ [] _
      refine gw_iload_n (pc' := 50) cx 1 rfl rfl dX5_even_49 rfl ?_
      refine gw_sipush (pc' := 53) (v := 200) cx cs_200 dX5_even_50 rfl ?_
      refine gw_ic_gt_t (pc' := 60) cx c3 dX5_even_53 (by decide) ?_
      refine gw_aload_n (pc' := 61) cx 0 rfl rfl dX5_even_60 rfl ?_
      refine gw_ldc (pc' := 63) (v := (-1000004)) cx ct_X5_38 dX5_even_61 rfl ?_
      obtain ⟨r7, s8, g6, h⟩ := ob2_some h
      refine gw_cV (pc' := 66) (av := [.int (-1000004)]) (rest := []) cx (k_X5_finds E g6) at49 (by decide) lk_X5_39 dX5_even_63 rfl (Nat.le_of_ble_eq_true rfl) rfl ?_
      show GW E fr _ 66 _ (.int r7 :: _) _
      exact gw_iret cx tg (rt1 h) (rt2 h) dX5_even_66
    · refine gw_ic_gt_f (pc' := 20) cx c3 dX5_even_17 ⟨38, by decide⟩ rfl ?_
      refine gw_aload_n (pc' := 21) cx 0 rfl rfl dX5_even_20 rfl ?_
      obtain ⟨r10, g9, h⟩ := ob0_some h
      refine gw_cV (pc' := 24) (av := []) (rest := []) cx (k_X5_owedOnes E g9) at49 (by decide) lk_X5_135 dX5_even_21 rfl (Nat.le_of_ble_eq_true rfl) rfl ?_
      show GW E fr _ 24 _ (.int r10 :: _) _
      rcases ite_some h with ⟨c11, h⟩ | ⟨c11, h⟩
      · refine gw_if_eq_t (pc' := 38) cx c11 dX5_even_24 (by decide) ?_
        refine gw_aload_n (pc' := 39) cx 0 rfl rfl dX5_even_38 rfl ?_
        refine gw_getR (pc' := 42) cx at49 rfl fl_X5_19 dX5_even_39 rfl ?_
        refine gw_aload_n (pc' := 43) cx 0 rfl rfl dX5_even_42 rfl ?_
        refine gw_getR (pc' := 46) cx at49 rfl fl_X5_7 dX5_even_43 rfl ?_
        obtain ⟨s13, g12, h⟩ := ob1_some h
        refine gw_cS (pc' := 49) (av := [.ref (eA E 53), .ref (eA E 50)]) (rest := []) cx (k_X5_copyRow E at53 at50 g12) (by decide) lk_X5_139 dX5_even_46 rfl (Nat.le_of_ble_eq_true rfl) rfl ?_
        show GW E fr _ 49 _ [] _
        refine gw_iload_n (pc' := 50) cx 1 rfl rfl dX5_even_49 rfl ?_
        refine gw_sipush (pc' := 53) (v := 200) cx cs_200 dX5_even_50 rfl ?_
        refine gw_ic_gt_f (pc' := 56) cx c3 dX5_even_53 ⟨60, by decide⟩ rfl ?_
        refine gw_iload_n (pc' := 57) cx 1 rfl rfl dX5_even_56 rfl ?_
        refine gw_goto (pc' := 66) cx dX5_even_57 (by decide) ?_
        exact gw_iret cx tg (rt1 h) (rt2 h) dX5_even_66
      · refine gw_if_eq_f (pc' := 27) cx c11 dX5_even_24 ⟨38, by decide⟩ rfl ?_
        refine gw_aload_n (pc' := 28) cx 0 rfl rfl dX5_even_27 rfl ?_
        refine gw_iconst (pc' := 29) (v := 0) cx ci_0 dX5_even_28 rfl ?_
        obtain ⟨s15, g14, h⟩ := ob1_some h
        refine gw_cV (pc' := 32) (av := [.int 0]) (rest := []) cx (k_X5_dayBut E g14) at49 (by decide) lk_X5_123 dX5_even_29 rfl (Nat.le_of_ble_eq_true rfl) rfl ?_
        show GW E fr _ 32 _ [] _
        refine gw_iinc (pc' := 35) (v := (y1 + 1)) (lv' := [(1, .int (y1 + 1)), (0, .ref (eA E 49))]) cx 1 rfl rfl rfl (by decide) dX5_even_32 rfl ?_
        refine gw_goto (pc' := 13) cx dX5_even_35 (by decide) ?_
        refine gw_sub [1, 0] (lv' := [(0, .ref (eA E 49)), (1, .int (y1 + 1))]) rfl ?_
        exact ih (y1 + 1) s15 h
def f_X5_even (σ : Sg) : Option (Int32 × Sg) :=
  ob1 (f_X5_copyRow 50 53 σ) fun s2 =>
  f_X5_even_L13 FU 0 s2
theorem k_X5_even (E : Ev)  {σ : Sg} {r : Int32} {σ' : Sg} (h : f_X5_even σ = some (r, σ')) : Con E mX5_even 6 [.ref (eA E 49)] σ (some (.int r)) σ' := by
  refine con_of (by decide) (Nat.le_of_ble_eq_true rfl) (fun fr cx tg => ?_)
  show GW E fr 2 0 [(0, .ref (eA E 49))] [] σ
  rw [f_X5_even] at h
  refine gw_aload_n (pc' := 1) cx 0 rfl rfl dX5_even_0 rfl ?_
  refine gw_getR (pc' := 4) cx at49 rfl fl_X5_7 dX5_even_1 rfl ?_
  refine gw_aload_n (pc' := 5) cx 0 rfl rfl dX5_even_4 rfl ?_
  refine gw_getR (pc' := 8) cx at49 rfl fl_X5_19 dX5_even_5 rfl ?_
  obtain ⟨s2, g1, h⟩ := ob1_some h
  refine gw_cS (pc' := 11) (av := [.ref (eA E 50), .ref (eA E 53)]) (rest := []) cx (k_X5_copyRow E at50 at53 g1) (by decide) lk_X5_139 dX5_even_8 rfl (Nat.le_of_ble_eq_true rfl) rfl ?_
  show GW E fr _ 11 _ [] _
  refine gw_iconst (pc' := 12) (v := 0) cx ci_0 dX5_even_11 rfl ?_
  refine gw_istore_n (pc' := 13) (lv' := [(1, .int 0), (0, .ref (eA E 49))]) cx rfl rfl (by decide) dX5_even_12 rfl ?_
  refine gw_sub [1, 0] (lv' := [(0, .ref (eA E 49)), (1, .int 0)]) rfl ?_
  exact w_X5_even_L13 cx tg FU 0 s2 h
def f_X5_when_L40 (y1 : Int32) (y2 : Int32) : Nat → Int32 → Sg → Option (Int32 × Sg)
  | 0, _, _ => none
  | n + 1, y3, σ =>
    if 200 < y3 then
      ob1 (f_X5_copyRow 53 50 σ) fun s17 =>
      ob2 (f_X5_finds (-1000004) s17) fun r19 s20 =>
      some (r19, s20)
    else
      ob0 (f_X5_its y1 3 σ) fun r22 =>
      if y2 ≤ r22 then
        ob1 (f_X5_copyRow 53 50 σ) fun s25 =>
        some (y3, s25)
      else
        ob1 (f_X5_dayBut 0 σ) fun s27 =>
        f_X5_when_L40 y1 y2 n (y3 + 1) s27
theorem w_X5_when_L40 {E : Ev} {fr : Fr} {r : Int32} {σ' : Sg} (cx : Cx E mX5_when 6 fr) (tg : Tg E fr (some .int) (some (.int r)) σ') (y1 : Int32) (y2 : Int32)  : ∀ (n : Nat) (y3 : Int32) (σ : Sg), f_X5_when_L40 y1 y2 n y3 σ = some (r, σ') → GW E fr 4 40 [(0, .ref (eA E 49)), (1, .int y1), (2, .int y2), (3, .int y3)] [] σ := by
  intro n
  induction n with
  | zero => intro y3 σ h; cases (show (none : Option (Int32 × Sg)) = _ from h)
  | succ n ih =>
    intro y3 σ h
    rw [f_X5_when_L40] at h
    refine gw_iload_n (pc' := 41) cx 3 rfl rfl dX5_when_40 rfl ?_
    refine gw_sipush (pc' := 44) (v := 200) cx cs_200 dX5_when_41 rfl ?_
    rcases ite_some h with ⟨c15, h⟩ | ⟨c15, h⟩
    · refine gw_ic_gt_t (pc' := 68) cx c15 dX5_when_44 (by decide) ?_
      refine gw_aload_n (pc' := 69) cx 0 rfl rfl dX5_when_68 rfl ?_
      refine gw_getR (pc' := 72) cx at49 rfl fl_X5_19 dX5_when_69 rfl ?_
      refine gw_aload_n (pc' := 73) cx 0 rfl rfl dX5_when_72 rfl ?_
      refine gw_getR (pc' := 76) cx at49 rfl fl_X5_7 dX5_when_73 rfl ?_
      obtain ⟨s17, g16, h⟩ := ob1_some h
      refine gw_cS (pc' := 79) (av := [.ref (eA E 53), .ref (eA E 50)]) (rest := []) cx (k_X5_copyRow E at53 at50 g16) (by decide) lk_X5_139 dX5_when_76 rfl (Nat.le_of_ble_eq_true rfl) rfl ?_
      show GW E fr _ 79 _ [] _
      refine gw_iload_n (pc' := 80) cx 3 rfl rfl dX5_when_79 rfl ?_
      refine gw_sipush (pc' := 83) (v := 200) cx cs_200 dX5_when_80 rfl ?_
      refine gw_ic_gt_t (pc' := 90) cx c15 dX5_when_83 (by decide) ?_
      refine gw_aload_n (pc' := 91) cx 0 rfl rfl dX5_when_90 rfl ?_
      refine gw_ldc (pc' := 93) (v := (-1000004)) cx ct_X5_38 dX5_when_91 rfl ?_
      obtain ⟨r19, s20, g18, h⟩ := ob2_some h
      refine gw_cV (pc' := 96) (av := [.int (-1000004)]) (rest := []) cx (k_X5_finds E g18) at49 (by decide) lk_X5_39 dX5_when_93 rfl (Nat.le_of_ble_eq_true rfl) rfl ?_
      show GW E fr _ 96 _ (.int r19 :: _) _
      exact gw_iret cx tg (rt1 h) (rt2 h) dX5_when_96
    · refine gw_ic_gt_f (pc' := 47) cx c15 dX5_when_44 ⟨68, by decide⟩ rfl ?_
      refine gw_aload_n (pc' := 48) cx 0 rfl rfl dX5_when_47 rfl ?_
      refine gw_iload_n (pc' := 49) cx 1 rfl rfl dX5_when_48 rfl ?_
      refine gw_iconst (pc' := 50) (v := 3) cx ci_3 dX5_when_49 rfl ?_
      obtain ⟨r22, g21, h⟩ := ob0_some h
      refine gw_cV (pc' := 53) (av := [.int y1, .int 3]) (rest := []) cx (k_X5_its E g21) at49 (by decide) lk_X5_73 dX5_when_50 rfl (Nat.le_of_ble_eq_true rfl) rfl ?_
      show GW E fr _ 53 _ (.int r22 :: _) _
      refine gw_iload_n (pc' := 54) cx 2 rfl rfl dX5_when_53 rfl ?_
      rcases ite_some h with ⟨c23, h⟩ | ⟨c23, h⟩
      · refine gw_ic_ge_t (pc' := 68) cx c23 dX5_when_54 (by decide) ?_
        refine gw_aload_n (pc' := 69) cx 0 rfl rfl dX5_when_68 rfl ?_
        refine gw_getR (pc' := 72) cx at49 rfl fl_X5_19 dX5_when_69 rfl ?_
        refine gw_aload_n (pc' := 73) cx 0 rfl rfl dX5_when_72 rfl ?_
        refine gw_getR (pc' := 76) cx at49 rfl fl_X5_7 dX5_when_73 rfl ?_
        obtain ⟨s25, g24, h⟩ := ob1_some h
        refine gw_cS (pc' := 79) (av := [.ref (eA E 53), .ref (eA E 50)]) (rest := []) cx (k_X5_copyRow E at53 at50 g24) (by decide) lk_X5_139 dX5_when_76 rfl (Nat.le_of_ble_eq_true rfl) rfl ?_
        show GW E fr _ 79 _ [] _
        refine gw_iload_n (pc' := 80) cx 3 rfl rfl dX5_when_79 rfl ?_
        refine gw_sipush (pc' := 83) (v := 200) cx cs_200 dX5_when_80 rfl ?_
        refine gw_ic_gt_f (pc' := 86) cx c15 dX5_when_83 ⟨90, by decide⟩ rfl ?_
        refine gw_iload_n (pc' := 87) cx 3 rfl rfl dX5_when_86 rfl ?_
        refine gw_goto (pc' := 96) cx dX5_when_87 (by decide) ?_
        exact gw_iret cx tg (rt1 h) (rt2 h) dX5_when_96
      · refine gw_ic_ge_f (pc' := 57) cx c23 dX5_when_54 ⟨68, by decide⟩ rfl ?_
        refine gw_aload_n (pc' := 58) cx 0 rfl rfl dX5_when_57 rfl ?_
        refine gw_iconst (pc' := 59) (v := 0) cx ci_0 dX5_when_58 rfl ?_
        obtain ⟨s27, g26, h⟩ := ob1_some h
        refine gw_cV (pc' := 62) (av := [.int 0]) (rest := []) cx (k_X5_dayBut E g26) at49 (by decide) lk_X5_123 dX5_when_59 rfl (Nat.le_of_ble_eq_true rfl) rfl ?_
        show GW E fr _ 62 _ [] _
        refine gw_iinc (pc' := 65) (v := (y3 + 1)) (lv' := [(3, .int (y3 + 1)), (0, .ref (eA E 49)), (1, .int y1), (2, .int y2)]) cx 3 rfl rfl rfl (by decide) dX5_when_62 rfl ?_
        refine gw_goto (pc' := 40) cx dX5_when_65 (by decide) ?_
        refine gw_sub [1, 2, 3, 0] (lv' := [(0, .ref (eA E 49)), (1, .int y1), (2, .int y2), (3, .int (y3 + 1))]) rfl ?_
        exact ih (y3 + 1) s27 h
def f_X5_when (x1 : Int32) (x2 : Int32) (σ : Sg) : Option (Int32 × Sg) :=
  ob0 (f_X5_isOne x1 σ) fun r2 =>
  if r2 = 0 then
    ob2 (f_X5_finds (-1000001) σ) fun r5 s6 =>
    some (r5, s6)
  else
    ob0 (f_X5_isIn x2.toInt64 (0 : Int64) (9999 : Int64) σ) fun r8 =>
    if r8 = 0 then
      ob2 (f_X5_finds (-1000001) σ) fun r11 s12 =>
      some (r11, s12)
    else
      ob1 (f_X5_copyRow 50 53 σ) fun s14 =>
      f_X5_when_L40 x1 x2 FU 0 s14
theorem k_X5_when (E : Ev) {x1 : Int32} {x2 : Int32} {σ : Sg} {r : Int32} {σ' : Sg} (h : f_X5_when x1 x2 σ = some (r, σ')) : Con E mX5_when 6 [.ref (eA E 49), .int x1, .int x2] σ (some (.int r)) σ' := by
  refine con_of (by decide) (Nat.le_of_ble_eq_true rfl) (fun fr cx tg => ?_)
  show GW E fr 4 0 [(0, .ref (eA E 49)), (1, .int x1), (2, .int x2)] [] σ
  rw [f_X5_when] at h
  refine gw_aload_n (pc' := 1) cx 0 rfl rfl dX5_when_0 rfl ?_
  refine gw_iload_n (pc' := 2) cx 1 rfl rfl dX5_when_1 rfl ?_
  obtain ⟨r2, g1, h⟩ := ob0_some h
  refine gw_cV (pc' := 5) (av := [.int x1]) (rest := []) cx (k_X5_isOne E g1) at49 (by decide) lk_X5_85 dX5_when_2 rfl (Nat.le_of_ble_eq_true rfl) rfl ?_
  show GW E fr _ 5 _ (.int r2 :: _) _
  rcases ite_some h with ⟨c3, h⟩ | ⟨c3, h⟩
  · refine gw_if_eq_t (pc' := 20) cx c3 dX5_when_5 (by decide) ?_
    refine gw_aload_n (pc' := 21) cx 0 rfl rfl dX5_when_20 rfl ?_
    refine gw_ldc (pc' := 23) (v := (-1000001)) cx ct_X5_37 dX5_when_21 rfl ?_
    obtain ⟨r5, s6, g4, h⟩ := ob2_some h
    refine gw_cV (pc' := 26) (av := [.int (-1000001)]) (rest := []) cx (k_X5_finds E g4) at49 (by decide) lk_X5_39 dX5_when_23 rfl (Nat.le_of_ble_eq_true rfl) rfl ?_
    show GW E fr _ 26 _ (.int r5 :: _) _
    exact gw_iret cx tg (rt1 h) (rt2 h) dX5_when_26
  · refine gw_if_eq_f (pc' := 8) cx c3 dX5_when_5 ⟨20, by decide⟩ rfl ?_
    refine gw_iload_n (pc' := 9) cx 2 rfl rfl dX5_when_8 rfl ?_
    refine gw_i2l (pc' := 10) cx dX5_when_9 rfl ?_
    refine gw_lconst (pc' := 11) (v := 0) cx cl_0 dX5_when_10 rfl ?_
    refine gw_ldc2_w (pc' := 14) (v := 9999) cx ct_X5_148 dX5_when_11 rfl ?_
    obtain ⟨r8, g7, h⟩ := ob0_some h
    refine gw_cS (pc' := 17) (av := [.long x2.toInt64, .long (0 : Int64), .long (9999 : Int64)]) (rest := []) cx (k_X5_isIn E g7) (by decide) lk_X5_45 dX5_when_14 rfl (Nat.le_of_ble_eq_true rfl) rfl ?_
    show GW E fr _ 17 _ (.int r8 :: _) _
    rcases ite_some h with ⟨c9, h⟩ | ⟨c9, h⟩
    · refine gw_if_ne_f (pc' := 20) cx c9 dX5_when_17 ⟨27, by decide⟩ rfl ?_
      refine gw_aload_n (pc' := 21) cx 0 rfl rfl dX5_when_20 rfl ?_
      refine gw_ldc (pc' := 23) (v := (-1000001)) cx ct_X5_37 dX5_when_21 rfl ?_
      obtain ⟨r11, s12, g10, h⟩ := ob2_some h
      refine gw_cV (pc' := 26) (av := [.int (-1000001)]) (rest := []) cx (k_X5_finds E g10) at49 (by decide) lk_X5_39 dX5_when_23 rfl (Nat.le_of_ble_eq_true rfl) rfl ?_
      show GW E fr _ 26 _ (.int r11 :: _) _
      exact gw_iret cx tg (rt1 h) (rt2 h) dX5_when_26
    · refine gw_if_ne_t (pc' := 27) cx c9 dX5_when_17 (by decide) ?_
      refine gw_aload_n (pc' := 28) cx 0 rfl rfl dX5_when_27 rfl ?_
      refine gw_getR (pc' := 31) cx at49 rfl fl_X5_7 dX5_when_28 rfl ?_
      refine gw_aload_n (pc' := 32) cx 0 rfl rfl dX5_when_31 rfl ?_
      refine gw_getR (pc' := 35) cx at49 rfl fl_X5_19 dX5_when_32 rfl ?_
      obtain ⟨s14, g13, h⟩ := ob1_some h
      refine gw_cS (pc' := 38) (av := [.ref (eA E 50), .ref (eA E 53)]) (rest := []) cx (k_X5_copyRow E at50 at53 g13) (by decide) lk_X5_139 dX5_when_35 rfl (Nat.le_of_ble_eq_true rfl) rfl ?_
      show GW E fr _ 38 _ [] _
      refine gw_iconst (pc' := 39) (v := 0) cx ci_0 dX5_when_38 rfl ?_
      refine gw_istore_n (pc' := 40) (lv' := [(3, .int 0), (0, .ref (eA E 49)), (1, .int x1), (2, .int x2)]) cx rfl rfl (by decide) dX5_when_39 rfl ?_
      refine gw_sub [1, 2, 3, 0] (lv' := [(0, .ref (eA E 49)), (1, .int x1), (2, .int x2), (3, .int 0)]) rfl ?_
      exact w_X5_when_L40 cx tg x1 x2 FU 0 s14 h
def f_X5_clean_L28 (y1 : Int32) : Nat → Int32 → Sg → Option (Int32 × Sg)
  | 0, _, _ => none
  | n + 1, y2, σ =>
    if 200 < y2 then
      ob1 (f_X5_copyRow 53 50 σ) fun s11 =>
      ob2 (f_X5_finds (-1000004) s11) fun r13 s14 =>
      some (r13, s14)
    else
      ob0 (f_X5_its y1 3 σ) fun r16 =>
      if r16 ≤ 0 then
        ob1 (f_X5_copyRow 53 50 σ) fun s19 =>
        some (y2, s19)
      else
        ob1 (f_X5_dayBut 0 σ) fun s21 =>
        f_X5_clean_L28 y1 n (y2 + 1) s21
theorem w_X5_clean_L28 {E : Ev} {fr : Fr} {r : Int32} {σ' : Sg} (cx : Cx E mX5_clean 6 fr) (tg : Tg E fr (some .int) (some (.int r)) σ') (y1 : Int32)  : ∀ (n : Nat) (y2 : Int32) (σ : Sg), f_X5_clean_L28 y1 n y2 σ = some (r, σ') → GW E fr 3 28 [(0, .ref (eA E 49)), (1, .int y1), (2, .int y2)] [] σ := by
  intro n
  induction n with
  | zero => intro y2 σ h; cases (show (none : Option (Int32 × Sg)) = _ from h)
  | succ n ih =>
    intro y2 σ h
    rw [f_X5_clean_L28] at h
    refine gw_iload_n (pc' := 29) cx 2 rfl rfl dX5_clean_28 rfl ?_
    refine gw_sipush (pc' := 32) (v := 200) cx cs_200 dX5_clean_29 rfl ?_
    rcases ite_some h with ⟨c9, h⟩ | ⟨c9, h⟩
    · refine gw_ic_gt_t (pc' := 55) cx c9 dX5_clean_32 (by decide) ?_
      refine gw_aload_n (pc' := 56) cx 0 rfl rfl dX5_clean_55 rfl ?_
      refine gw_getR (pc' := 59) cx at49 rfl fl_X5_19 dX5_clean_56 rfl ?_
      refine gw_aload_n (pc' := 60) cx 0 rfl rfl dX5_clean_59 rfl ?_
      refine gw_getR (pc' := 63) cx at49 rfl fl_X5_7 dX5_clean_60 rfl ?_
      obtain ⟨s11, g10, h⟩ := ob1_some h
      refine gw_cS (pc' := 66) (av := [.ref (eA E 53), .ref (eA E 50)]) (rest := []) cx (k_X5_copyRow E at53 at50 g10) (by decide) lk_X5_139 dX5_clean_63 rfl (Nat.le_of_ble_eq_true rfl) rfl ?_
      show GW E fr _ 66 _ [] _
      refine gw_iload_n (pc' := 67) cx 2 rfl rfl dX5_clean_66 rfl ?_
      refine gw_sipush (pc' := 70) (v := 200) cx cs_200 dX5_clean_67 rfl ?_
      refine gw_ic_gt_t (pc' := 77) cx c9 dX5_clean_70 (by decide) ?_
      refine gw_aload_n (pc' := 78) cx 0 rfl rfl dX5_clean_77 rfl ?_
      refine gw_ldc (pc' := 80) (v := (-1000004)) cx ct_X5_38 dX5_clean_78 rfl ?_
      obtain ⟨r13, s14, g12, h⟩ := ob2_some h
      refine gw_cV (pc' := 83) (av := [.int (-1000004)]) (rest := []) cx (k_X5_finds E g12) at49 (by decide) lk_X5_39 dX5_clean_80 rfl (Nat.le_of_ble_eq_true rfl) rfl ?_
      show GW E fr _ 83 _ (.int r13 :: _) _
      exact gw_iret cx tg (rt1 h) (rt2 h) dX5_clean_83
    · refine gw_ic_gt_f (pc' := 35) cx c9 dX5_clean_32 ⟨55, by decide⟩ rfl ?_
      refine gw_aload_n (pc' := 36) cx 0 rfl rfl dX5_clean_35 rfl ?_
      refine gw_iload_n (pc' := 37) cx 1 rfl rfl dX5_clean_36 rfl ?_
      refine gw_iconst (pc' := 38) (v := 3) cx ci_3 dX5_clean_37 rfl ?_
      obtain ⟨r16, g15, h⟩ := ob0_some h
      refine gw_cV (pc' := 41) (av := [.int y1, .int 3]) (rest := []) cx (k_X5_its E g15) at49 (by decide) lk_X5_73 dX5_clean_38 rfl (Nat.le_of_ble_eq_true rfl) rfl ?_
      show GW E fr _ 41 _ (.int r16 :: _) _
      rcases ite_some h with ⟨c17, h⟩ | ⟨c17, h⟩
      · refine gw_if_le_t (pc' := 55) cx c17 dX5_clean_41 (by decide) ?_
        refine gw_aload_n (pc' := 56) cx 0 rfl rfl dX5_clean_55 rfl ?_
        refine gw_getR (pc' := 59) cx at49 rfl fl_X5_19 dX5_clean_56 rfl ?_
        refine gw_aload_n (pc' := 60) cx 0 rfl rfl dX5_clean_59 rfl ?_
        refine gw_getR (pc' := 63) cx at49 rfl fl_X5_7 dX5_clean_60 rfl ?_
        obtain ⟨s19, g18, h⟩ := ob1_some h
        refine gw_cS (pc' := 66) (av := [.ref (eA E 53), .ref (eA E 50)]) (rest := []) cx (k_X5_copyRow E at53 at50 g18) (by decide) lk_X5_139 dX5_clean_63 rfl (Nat.le_of_ble_eq_true rfl) rfl ?_
        show GW E fr _ 66 _ [] _
        refine gw_iload_n (pc' := 67) cx 2 rfl rfl dX5_clean_66 rfl ?_
        refine gw_sipush (pc' := 70) (v := 200) cx cs_200 dX5_clean_67 rfl ?_
        refine gw_ic_gt_f (pc' := 73) cx c9 dX5_clean_70 ⟨77, by decide⟩ rfl ?_
        refine gw_iload_n (pc' := 74) cx 2 rfl rfl dX5_clean_73 rfl ?_
        refine gw_goto (pc' := 83) cx dX5_clean_74 (by decide) ?_
        exact gw_iret cx tg (rt1 h) (rt2 h) dX5_clean_83
      · refine gw_if_le_f (pc' := 44) cx c17 dX5_clean_41 ⟨55, by decide⟩ rfl ?_
        refine gw_aload_n (pc' := 45) cx 0 rfl rfl dX5_clean_44 rfl ?_
        refine gw_iconst (pc' := 46) (v := 0) cx ci_0 dX5_clean_45 rfl ?_
        obtain ⟨s21, g20, h⟩ := ob1_some h
        refine gw_cV (pc' := 49) (av := [.int 0]) (rest := []) cx (k_X5_dayBut E g20) at49 (by decide) lk_X5_123 dX5_clean_46 rfl (Nat.le_of_ble_eq_true rfl) rfl ?_
        show GW E fr _ 49 _ [] _
        refine gw_iinc (pc' := 52) (v := (y2 + 1)) (lv' := [(2, .int (y2 + 1)), (0, .ref (eA E 49)), (1, .int y1)]) cx 2 rfl rfl rfl (by decide) dX5_clean_49 rfl ?_
        refine gw_goto (pc' := 28) cx dX5_clean_52 (by decide) ?_
        refine gw_sub [1, 2, 0] (lv' := [(0, .ref (eA E 49)), (1, .int y1), (2, .int (y2 + 1))]) rfl ?_
        exact ih (y2 + 1) s21 h
def f_X5_clean (x1 : Int32) (σ : Sg) : Option (Int32 × Sg) :=
  ob0 (f_X5_isOne x1 σ) fun r2 =>
  if r2 = 0 then
    ob2 (f_X5_finds (-1000001) σ) fun r5 s6 =>
    some (r5, s6)
  else
    ob1 (f_X5_copyRow 50 53 σ) fun s8 =>
    f_X5_clean_L28 x1 FU 0 s8
theorem k_X5_clean (E : Ev) {x1 : Int32} {σ : Sg} {r : Int32} {σ' : Sg} (h : f_X5_clean x1 σ = some (r, σ')) : Con E mX5_clean 6 [.ref (eA E 49), .int x1] σ (some (.int r)) σ' := by
  refine con_of (by decide) (Nat.le_of_ble_eq_true rfl) (fun fr cx tg => ?_)
  show GW E fr 3 0 [(0, .ref (eA E 49)), (1, .int x1)] [] σ
  rw [f_X5_clean] at h
  refine gw_aload_n (pc' := 1) cx 0 rfl rfl dX5_clean_0 rfl ?_
  refine gw_iload_n (pc' := 2) cx 1 rfl rfl dX5_clean_1 rfl ?_
  obtain ⟨r2, g1, h⟩ := ob0_some h
  refine gw_cV (pc' := 5) (av := [.int x1]) (rest := []) cx (k_X5_isOne E g1) at49 (by decide) lk_X5_85 dX5_clean_2 rfl (Nat.le_of_ble_eq_true rfl) rfl ?_
  show GW E fr _ 5 _ (.int r2 :: _) _
  rcases ite_some h with ⟨c3, h⟩ | ⟨c3, h⟩
  · refine gw_if_ne_f (pc' := 8) cx c3 dX5_clean_5 ⟨15, by decide⟩ rfl ?_
    refine gw_aload_n (pc' := 9) cx 0 rfl rfl dX5_clean_8 rfl ?_
    refine gw_ldc (pc' := 11) (v := (-1000001)) cx ct_X5_37 dX5_clean_9 rfl ?_
    obtain ⟨r5, s6, g4, h⟩ := ob2_some h
    refine gw_cV (pc' := 14) (av := [.int (-1000001)]) (rest := []) cx (k_X5_finds E g4) at49 (by decide) lk_X5_39 dX5_clean_11 rfl (Nat.le_of_ble_eq_true rfl) rfl ?_
    show GW E fr _ 14 _ (.int r5 :: _) _
    exact gw_iret cx tg (rt1 h) (rt2 h) dX5_clean_14
  · refine gw_if_ne_t (pc' := 15) cx c3 dX5_clean_5 (by decide) ?_
    refine gw_aload_n (pc' := 16) cx 0 rfl rfl dX5_clean_15 rfl ?_
    refine gw_getR (pc' := 19) cx at49 rfl fl_X5_7 dX5_clean_16 rfl ?_
    refine gw_aload_n (pc' := 20) cx 0 rfl rfl dX5_clean_19 rfl ?_
    refine gw_getR (pc' := 23) cx at49 rfl fl_X5_19 dX5_clean_20 rfl ?_
    obtain ⟨s8, g7, h⟩ := ob1_some h
    refine gw_cS (pc' := 26) (av := [.ref (eA E 50), .ref (eA E 53)]) (rest := []) cx (k_X5_copyRow E at50 at53 g7) (by decide) lk_X5_139 dX5_clean_23 rfl (Nat.le_of_ble_eq_true rfl) rfl ?_
    show GW E fr _ 26 _ [] _
    refine gw_iconst (pc' := 27) (v := 0) cx ci_0 dX5_clean_26 rfl ?_
    refine gw_istore_n (pc' := 28) (lv' := [(2, .int 0), (0, .ref (eA E 49)), (1, .int x1)]) cx rfl rfl (by decide) dX5_clean_27 rfl ?_
    refine gw_sub [1, 2, 0] (lv' := [(0, .ref (eA E 49)), (1, .int x1), (2, .int 0)]) rfl ?_
    exact w_X5_clean_L28 cx tg x1 FU 0 s8 h
def f_X5_nextPlace (σ : Sg) : Option (Int32) :=
  some (4 + (jrem (σ 50 1) 6))
theorem k_X5_nextPlace (E : Ev)  {σ : Sg} {r : Int32} (h : f_X5_nextPlace σ = some r) : Con E mX5_nextPlace 0 [.ref (eA E 49)] σ (some (.int r)) σ := by
  refine con_of (by decide) (Nat.le_of_ble_eq_true rfl) (fun fr cx tg => ?_)
  show GW E fr 1 0 [(0, .ref (eA E 49))] [] σ
  rw [f_X5_nextPlace] at h
  refine gw_iconst (pc' := 1) (v := 4) cx ci_4 dX5_nextPlace_0 rfl ?_
  refine gw_aload_n (pc' := 2) cx 0 rfl rfl dX5_nextPlace_1 rfl ?_
  refine gw_getR (pc' := 5) cx at49 rfl fl_X5_7 dX5_nextPlace_2 rfl ?_
  refine gw_iconst (pc' := 6) (v := 1) cx ci_1 dX5_nextPlace_5 rfl ?_
  refine gw_iald (pc' := 7) cx at50 (vpc (by decide)) cn_1 dX5_nextPlace_6 rfl ?_
  refine gw_bipush (pc' := 9) (v := 6) cx cb_6 dX5_nextPlace_7 rfl ?_
  refine gw_irem (pc' := 10) cx (by decide) dX5_nextPlace_9 rfl ?_
  refine gw_iadd (pc' := 11) cx dX5_nextPlace_10 rfl ?_
  exact gw_iret cx tg (rt0 h) rfl dX5_nextPlace_11
def f_X5_whom_L43 (y1 : Int32) (y2 : Int32) : Nat → Int32 → Int32 → Int32 → Sg → Option (Int32 × Sg)
  | 0, _, _, _, _ => none
  | n + 1, y3, y4, y5, σ =>
    if (σ 50 0) ≤ y5 then
      ob2 (f_X5_orNone y3 σ) fun r13 s14 =>
      some (r13, s14)
    else
      chk y2 60 <|
      lt (up2 σ 50 y2.toNatClampNeg ((100 * y5) + (jrem (σ 50 y2.toNatClampNeg) 100))) fun s16 =>
      ob1 (f_X5_goes y1 s16) fun s19 =>
      ob0 (f_X5_sumOf 1 s19) fun r21 =>
      ob1 (f_X5_copyRow 53 50 s19) fun s23 =>
      if y3 < 0 then
        f_X5_whom_L43 y1 y2 n y5 r21 (y5 + 1) s23
      else
        if y4 ≤ r21 then
          f_X5_whom_L43 y1 y2 n y3 y4 (y5 + 1) s23
        else
          f_X5_whom_L43 y1 y2 n y5 r21 (y5 + 1) s23
theorem w_X5_whom_L43 {E : Ev} {fr : Fr} {r : Int32} {σ' : Sg} (cx : Cx E mX5_whom 7 fr) (tg : Tg E fr (some .int) (some (.int r)) σ') (y1 : Int32) (y2 : Int32)  : ∀ (n : Nat) (y3 : Int32) (y4 : Int32) (y5 : Int32) (σ : Sg), f_X5_whom_L43 y1 y2 n y3 y4 y5 σ = some (r, σ') → GW E fr 8 43 [(0, .ref (eA E 49)), (1, .int y1), (2, .int y2), (3, .int y3), (4, .int y4), (5, .int y5)] [] σ := by
  intro n
  induction n with
  | zero => intro y3 y4 y5 σ h; cases (show (none : Option (Int32 × Sg)) = _ from h)
  | succ n ih =>
    intro y3 y4 y5 σ h
    rw [f_X5_whom_L43] at h
    refine gw_iload (pc' := 45) cx 5 rfl dX5_whom_43 rfl ?_
    refine gw_aload_n (pc' := 46) cx 0 rfl rfl dX5_whom_45 rfl ?_
    refine gw_getR (pc' := 49) cx at49 rfl fl_X5_7 dX5_whom_46 rfl ?_
    refine gw_iconst (pc' := 50) (v := 0) cx ci_0 dX5_whom_49 rfl ?_
    refine gw_iald (pc' := 51) cx at50 (vpc (by decide)) cn_0 dX5_whom_50 rfl ?_
    rcases ite_some h with ⟨c11, h⟩ | ⟨c11, h⟩
    · refine gw_ic_ge_t (pc' := 148) cx c11 dX5_whom_51 (by decide) ?_
      refine gw_aload_n (pc' := 149) cx 0 rfl rfl dX5_whom_148 rfl ?_
      refine gw_iload_n (pc' := 150) cx 3 rfl rfl dX5_whom_149 rfl ?_
      obtain ⟨r13, s14, g12, h⟩ := ob2_some h
      refine gw_cV (pc' := 153) (av := [.int y3]) (rest := []) cx (k_X5_orNone E g12) at49 (by decide) lk_X5_111 dX5_whom_150 rfl (Nat.le_of_ble_eq_true rfl) rfl ?_
      show GW E fr _ 153 _ (.int r13 :: _) _
      exact gw_iret cx tg (rt1 h) (rt2 h) dX5_whom_153
    · refine gw_ic_ge_f (pc' := 54) cx c11 dX5_whom_51 ⟨148, by decide⟩ rfl ?_
      refine gw_aload_n (pc' := 55) cx 0 rfl rfl dX5_whom_54 rfl ?_
      refine gw_getR (pc' := 58) cx at49 rfl fl_X5_7 dX5_whom_55 rfl ?_
      refine gw_iload_n (pc' := 59) cx 2 rfl rfl dX5_whom_58 rfl ?_
      refine gw_bipush (pc' := 61) (v := 100) cx cb_100 dX5_whom_59 rfl ?_
      refine gw_iload (pc' := 63) cx 5 rfl dX5_whom_61 rfl ?_
      refine gw_imul (pc' := 64) cx dX5_whom_63 rfl ?_
      refine gw_aload_n (pc' := 65) cx 0 rfl rfl dX5_whom_64 rfl ?_
      refine gw_getR (pc' := 68) cx at49 rfl fl_X5_7 dX5_whom_65 rfl ?_
      refine gw_iload_n (pc' := 69) cx 2 rfl rfl dX5_whom_68 rfl ?_
      obtain ⟨i15, h⟩ := chk_some h
      refine gw_iald (pc' := 70) cx at50 i15 rfl dX5_whom_69 rfl ?_
      refine gw_bipush (pc' := 72) (v := 100) cx cb_100 dX5_whom_70 rfl ?_
      refine gw_irem (pc' := 73) cx (by decide) dX5_whom_72 rfl ?_
      refine gw_iadd (pc' := 74) cx dX5_whom_73 rfl ?_
      obtain ⟨s16, e17, h⟩ := lt_some h
      refine gw_iast (pc' := 75) cx at50 i15 rfl dX5_whom_74 rfl e17 ?_
      refine gw_aload_n (pc' := 76) cx 0 rfl rfl dX5_whom_75 rfl ?_
      refine gw_iload_n (pc' := 77) cx 1 rfl rfl dX5_whom_76 rfl ?_
      obtain ⟨s19, g18, h⟩ := ob1_some h
      refine gw_cV (pc' := 80) (av := [.int y1]) (rest := []) cx (k_X5_goes E g18) at49 (by decide) lk_X5_129 dX5_whom_77 rfl (Nat.le_of_ble_eq_true rfl) rfl ?_
      show GW E fr _ 80 _ [] _
      refine gw_aload_n (pc' := 81) cx 0 rfl rfl dX5_whom_80 rfl ?_
      refine gw_iconst (pc' := 82) (v := 1) cx ci_1 dX5_whom_81 rfl ?_
      obtain ⟨r21, g20, h⟩ := ob0_some h
      refine gw_cV (pc' := 85) (av := [.int 1]) (rest := []) cx (k_X5_sumOf E g20) at49 (by decide) lk_X5_132 dX5_whom_82 rfl (Nat.le_of_ble_eq_true rfl) rfl ?_
      show GW E fr _ 85 _ (.int r21 :: _) _
      refine gw_istore (pc' := 87) (lv' := [(6, .int r21), (0, .ref (eA E 49)), (1, .int y1), (2, .int y2), (3, .int y3), (4, .int y4), (5, .int y5)]) cx rfl (by decide) dX5_whom_85 rfl ?_
      refine gw_aload_n (pc' := 88) cx 1 rfl rfl dX5_whom_87 rfl ?_
      refine gw_getR (pc' := 91) cx at49 rfl fl_X5_19 dX5_whom_88 rfl ?_
      refine gw_aload_n (pc' := 92) cx 1 rfl rfl dX5_whom_91 rfl ?_
      refine gw_getR (pc' := 95) cx at49 rfl fl_X5_7 dX5_whom_92 rfl ?_
      obtain ⟨s23, g22, h⟩ := ob1_some h
      refine gw_cS (pc' := 98) (av := [.ref (eA E 53), .ref (eA E 50)]) (rest := []) cx (k_X5_copyRow E at53 at50 g22) (by decide) lk_X5_139 dX5_whom_95 rfl (Nat.le_of_ble_eq_true rfl) rfl ?_
      show GW E fr _ 98 _ [] _
      refine gw_iload_n (pc' := 99) cx 4 rfl rfl dX5_whom_98 rfl ?_
      rcases ite_some h with ⟨c24, h⟩ | ⟨c24, h⟩
      · refine gw_if_lt_t (pc' := 109) cx c24 dX5_whom_99 (by decide) ?_
        refine gw_iconst (pc' := 110) (v := 1) cx ci_1 dX5_whom_109 rfl ?_
        refine gw_goto (pc' := 114) cx dX5_whom_110 (by decide) ?_
        refine gw_istore (pc' := 116) (lv' := [(7, .int 1), (6, .int r21), (0, .ref (eA E 49)), (1, .int y1), (2, .int y2), (3, .int y3), (4, .int y4), (5, .int y5)]) cx rfl (by decide) dX5_whom_114 rfl ?_
        refine gw_iload (pc' := 118) cx 0 rfl dX5_whom_116 rfl ?_
        refine gw_if_eq_f (pc' := 121) cx (by decide) dX5_whom_118 ⟨126, by decide⟩ rfl ?_
        refine gw_iload (pc' := 123) cx 7 rfl dX5_whom_121 rfl ?_
        refine gw_goto (pc' := 127) cx dX5_whom_123 (by decide) ?_
        refine gw_istore_n (pc' := 128) (lv' := [(3, .int y5), (7, .int 1), (6, .int r21), (0, .ref (eA E 49)), (1, .int y1), (2, .int y2), (4, .int y4), (5, .int y5)]) cx rfl rfl (by decide) dX5_whom_127 rfl ?_
        refine gw_iload (pc' := 130) cx 1 rfl dX5_whom_128 rfl ?_
        refine gw_if_eq_f (pc' := 133) cx (by decide) dX5_whom_130 ⟨138, by decide⟩ rfl ?_
        refine gw_iload (pc' := 135) cx 2 rfl dX5_whom_133 rfl ?_
        refine gw_goto (pc' := 140) cx dX5_whom_135 (by decide) ?_
        refine gw_istore (pc' := 142) (lv' := [(4, .int r21), (3, .int y5), (7, .int 1), (6, .int r21), (0, .ref (eA E 49)), (1, .int y1), (2, .int y2), (5, .int y5)]) cx rfl (by decide) dX5_whom_140 rfl ?_
        refine gw_iinc (pc' := 145) (v := (y5 + 1)) (lv' := [(5, .int (y5 + 1)), (4, .int r21), (3, .int y5), (7, .int 1), (6, .int r21), (0, .ref (eA E 49)), (1, .int y1), (2, .int y2)]) cx 7 rfl rfl rfl (by decide) dX5_whom_142 rfl ?_
        refine gw_goto (pc' := 43) cx dX5_whom_145 (by decide) ?_
        refine gw_sub [5, 6, 7, 2, 1, 0] (lv' := [(0, .ref (eA E 49)), (1, .int y1), (2, .int y2), (3, .int y5), (4, .int r21), (5, .int (y5 + 1))]) rfl ?_
        exact ih y5 r21 (y5 + 1) s23 h
      · refine gw_if_lt_f (pc' := 102) cx c24 dX5_whom_99 ⟨109, by decide⟩ rfl ?_
        refine gw_iload (pc' := 104) cx 0 rfl dX5_whom_102 rfl ?_
        refine gw_iload (pc' := 106) cx 5 rfl dX5_whom_104 rfl ?_
        rcases ite_some h with ⟨c25, h⟩ | ⟨c25, h⟩
        · refine gw_ic_ge_t (pc' := 113) cx c25 dX5_whom_106 (by decide) ?_
          refine gw_iconst (pc' := 114) (v := 0) cx ci_0 dX5_whom_113 rfl ?_
          refine gw_istore (pc' := 116) (lv' := [(7, .int 0), (6, .int r21), (0, .ref (eA E 49)), (1, .int y1), (2, .int y2), (3, .int y3), (4, .int y4), (5, .int y5)]) cx rfl (by decide) dX5_whom_114 rfl ?_
          refine gw_iload (pc' := 118) cx 0 rfl dX5_whom_116 rfl ?_
          refine gw_if_eq_t (pc' := 126) cx (by decide) dX5_whom_118 (by decide) ?_
          refine gw_iload_n (pc' := 127) cx 5 rfl rfl dX5_whom_126 rfl ?_
          refine gw_istore_n (pc' := 128) (lv' := [(3, .int y3), (7, .int 0), (6, .int r21), (0, .ref (eA E 49)), (1, .int y1), (2, .int y2), (4, .int y4), (5, .int y5)]) cx rfl rfl (by decide) dX5_whom_127 rfl ?_
          refine gw_iload (pc' := 130) cx 1 rfl dX5_whom_128 rfl ?_
          refine gw_if_eq_t (pc' := 138) cx (by decide) dX5_whom_130 (by decide) ?_
          refine gw_iload (pc' := 140) cx 6 rfl dX5_whom_138 rfl ?_
          refine gw_istore (pc' := 142) (lv' := [(4, .int y4), (3, .int y3), (7, .int 0), (6, .int r21), (0, .ref (eA E 49)), (1, .int y1), (2, .int y2), (5, .int y5)]) cx rfl (by decide) dX5_whom_140 rfl ?_
          refine gw_iinc (pc' := 145) (v := (y5 + 1)) (lv' := [(5, .int (y5 + 1)), (4, .int y4), (3, .int y3), (7, .int 0), (6, .int r21), (0, .ref (eA E 49)), (1, .int y1), (2, .int y2)]) cx 7 rfl rfl rfl (by decide) dX5_whom_142 rfl ?_
          refine gw_goto (pc' := 43) cx dX5_whom_145 (by decide) ?_
          refine gw_sub [5, 6, 7, 2, 1, 0] (lv' := [(0, .ref (eA E 49)), (1, .int y1), (2, .int y2), (3, .int y3), (4, .int y4), (5, .int (y5 + 1))]) rfl ?_
          exact ih y3 y4 (y5 + 1) s23 h
        · refine gw_ic_ge_f (pc' := 109) cx c25 dX5_whom_106 ⟨113, by decide⟩ rfl ?_
          refine gw_iconst (pc' := 110) (v := 1) cx ci_1 dX5_whom_109 rfl ?_
          refine gw_goto (pc' := 114) cx dX5_whom_110 (by decide) ?_
          refine gw_istore (pc' := 116) (lv' := [(7, .int 1), (6, .int r21), (0, .ref (eA E 49)), (1, .int y1), (2, .int y2), (3, .int y3), (4, .int y4), (5, .int y5)]) cx rfl (by decide) dX5_whom_114 rfl ?_
          refine gw_iload (pc' := 118) cx 0 rfl dX5_whom_116 rfl ?_
          refine gw_if_eq_f (pc' := 121) cx (by decide) dX5_whom_118 ⟨126, by decide⟩ rfl ?_
          refine gw_iload (pc' := 123) cx 7 rfl dX5_whom_121 rfl ?_
          refine gw_goto (pc' := 127) cx dX5_whom_123 (by decide) ?_
          refine gw_istore_n (pc' := 128) (lv' := [(3, .int y5), (7, .int 1), (6, .int r21), (0, .ref (eA E 49)), (1, .int y1), (2, .int y2), (4, .int y4), (5, .int y5)]) cx rfl rfl (by decide) dX5_whom_127 rfl ?_
          refine gw_iload (pc' := 130) cx 1 rfl dX5_whom_128 rfl ?_
          refine gw_if_eq_f (pc' := 133) cx (by decide) dX5_whom_130 ⟨138, by decide⟩ rfl ?_
          refine gw_iload (pc' := 135) cx 2 rfl dX5_whom_133 rfl ?_
          refine gw_goto (pc' := 140) cx dX5_whom_135 (by decide) ?_
          refine gw_istore (pc' := 142) (lv' := [(4, .int r21), (3, .int y5), (7, .int 1), (6, .int r21), (0, .ref (eA E 49)), (1, .int y1), (2, .int y2), (5, .int y5)]) cx rfl (by decide) dX5_whom_140 rfl ?_
          refine gw_iinc (pc' := 145) (v := (y5 + 1)) (lv' := [(5, .int (y5 + 1)), (4, .int r21), (3, .int y5), (7, .int 1), (6, .int r21), (0, .ref (eA E 49)), (1, .int y1), (2, .int y2)]) cx 7 rfl rfl rfl (by decide) dX5_whom_142 rfl ?_
          refine gw_goto (pc' := 43) cx dX5_whom_145 (by decide) ?_
          refine gw_sub [5, 6, 7, 2, 1, 0] (lv' := [(0, .ref (eA E 49)), (1, .int y1), (2, .int y2), (3, .int y5), (4, .int r21), (5, .int (y5 + 1))]) rfl ?_
          exact ih y5 r21 (y5 + 1) s23 h
def f_X5_whom (x1 : Int32) (σ : Sg) : Option (Int32 × Sg) :=
  ob0 (f_X5_isIn x1.toInt64 (0 : Int64) (40 : Int64) σ) fun r2 =>
  if r2 = 0 then
    ob2 (f_X5_finds (-1000001) σ) fun r5 s6 =>
    some (r5, s6)
  else
    ob0 (f_X5_nextPlace σ) fun r8 =>
    ob1 (f_X5_copyRow 50 53 σ) fun s10 =>
    f_X5_whom_L43 x1 r8 FU (-1) 0 0 s10
theorem k_X5_whom (E : Ev) {x1 : Int32} {σ : Sg} {r : Int32} {σ' : Sg} (h : f_X5_whom x1 σ = some (r, σ')) : Con E mX5_whom 7 [.ref (eA E 49), .int x1] σ (some (.int r)) σ' := by
  refine con_of (by decide) (Nat.le_of_ble_eq_true rfl) (fun fr cx tg => ?_)
  show GW E fr 8 0 [(0, .ref (eA E 49)), (1, .int x1)] [] σ
  rw [f_X5_whom] at h
  refine gw_iload_n (pc' := 1) cx 1 rfl rfl dX5_whom_0 rfl ?_
  refine gw_i2l (pc' := 2) cx dX5_whom_1 rfl ?_
  refine gw_lconst (pc' := 3) (v := 0) cx cl_0 dX5_whom_2 rfl ?_
  refine gw_ldc2_w (pc' := 6) (v := 40) cx ct_X5_150 dX5_whom_3 rfl ?_
  obtain ⟨r2, g1, h⟩ := ob0_some h
  refine gw_cS (pc' := 9) (av := [.long x1.toInt64, .long (0 : Int64), .long (40 : Int64)]) (rest := []) cx (k_X5_isIn E g1) (by decide) lk_X5_45 dX5_whom_6 rfl (Nat.le_of_ble_eq_true rfl) rfl ?_
  show GW E fr _ 9 _ (.int r2 :: _) _
  rcases ite_some h with ⟨c3, h⟩ | ⟨c3, h⟩
  · refine gw_if_ne_f (pc' := 12) cx c3 dX5_whom_9 ⟨19, by decide⟩ rfl ?_
    refine gw_aload_n (pc' := 13) cx 0 rfl rfl dX5_whom_12 rfl ?_
    refine gw_ldc (pc' := 15) (v := (-1000001)) cx ct_X5_37 dX5_whom_13 rfl ?_
    obtain ⟨r5, s6, g4, h⟩ := ob2_some h
    refine gw_cV (pc' := 18) (av := [.int (-1000001)]) (rest := []) cx (k_X5_finds E g4) at49 (by decide) lk_X5_39 dX5_whom_15 rfl (Nat.le_of_ble_eq_true rfl) rfl ?_
    show GW E fr _ 18 _ (.int r5 :: _) _
    exact gw_iret cx tg (rt1 h) (rt2 h) dX5_whom_18
  · refine gw_if_ne_t (pc' := 19) cx c3 dX5_whom_9 (by decide) ?_
    refine gw_aload_n (pc' := 20) cx 0 rfl rfl dX5_whom_19 rfl ?_
    obtain ⟨r8, g7, h⟩ := ob0_some h
    refine gw_cV (pc' := 23) (av := []) (rest := []) cx (k_X5_nextPlace E g7) at49 (by decide) lk_X5_152 dX5_whom_20 rfl (Nat.le_of_ble_eq_true rfl) rfl ?_
    show GW E fr _ 23 _ (.int r8 :: _) _
    refine gw_istore_n (pc' := 24) (lv' := [(2, .int r8), (0, .ref (eA E 49)), (1, .int x1)]) cx rfl rfl (by decide) dX5_whom_23 rfl ?_
    refine gw_iconst (pc' := 25) (v := (-1)) cx ci_m1 dX5_whom_24 rfl ?_
    refine gw_istore_n (pc' := 26) (lv' := [(3, .int (-1)), (2, .int r8), (0, .ref (eA E 49)), (1, .int x1)]) cx rfl rfl (by decide) dX5_whom_25 rfl ?_
    refine gw_iconst (pc' := 27) (v := 0) cx ci_0 dX5_whom_26 rfl ?_
    refine gw_istore (pc' := 29) (lv' := [(4, .int 0), (3, .int (-1)), (2, .int r8), (0, .ref (eA E 49)), (1, .int x1)]) cx rfl (by decide) dX5_whom_27 rfl ?_
    refine gw_aload_n (pc' := 30) cx 3 rfl rfl dX5_whom_29 rfl ?_
    refine gw_getR (pc' := 33) cx at49 rfl fl_X5_7 dX5_whom_30 rfl ?_
    refine gw_aload_n (pc' := 34) cx 3 rfl rfl dX5_whom_33 rfl ?_
    refine gw_getR (pc' := 37) cx at49 rfl fl_X5_19 dX5_whom_34 rfl ?_
    obtain ⟨s10, g9, h⟩ := ob1_some h
    refine gw_cS (pc' := 40) (av := [.ref (eA E 50), .ref (eA E 53)]) (rest := []) cx (k_X5_copyRow E at50 at53 g9) (by decide) lk_X5_139 dX5_whom_37 rfl (Nat.le_of_ble_eq_true rfl) rfl ?_
    show GW E fr _ 40 _ [] _
    refine gw_iconst (pc' := 41) (v := 0) cx ci_0 dX5_whom_40 rfl ?_
    refine gw_istore (pc' := 43) (lv' := [(5, .int 0), (4, .int 0), (3, .int (-1)), (2, .int r8), (0, .ref (eA E 49)), (1, .int x1)]) cx rfl (by decide) dX5_whom_41 rfl ?_
    refine gw_sub [4, 5, 3, 2, 1, 0] (lv' := [(0, .ref (eA E 49)), (1, .int x1), (2, .int r8), (3, .int (-1)), (4, .int 0), (5, .int 0)]) rfl ?_
    exact w_X5_whom_L43 cx tg x1 r8 FU (-1) 0 0 s10 h
def f_X5_isEvenOnce_L4 (y1 : Int32) : Nat → Int32 → Int32 → Sg → Option (Int32 × Sg)
  | 0, _, _, _ => none
  | n + 1, y2, y3, σ =>
    if y1 ≤ y3 then
      chkb y2 <|
      some (y2, σ)
    else
      if y2 = 0 then
        ob1 (f_X5_dayBut 0 σ) fun s5 =>
        ob0 (f_X5_owedOnes s5) fun r7 =>
        if r7 = 0 then
          f_X5_isEvenOnce_L4 y1 n 1 (y3 + 1) s5
        else
          f_X5_isEvenOnce_L4 y1 n 0 (y3 + 1) s5
      else
        chkb y2 <|
        some (y2, σ)
theorem w_X5_isEvenOnce_L4 {E : Ev} {fr : Fr} {r : Int32} {σ' : Sg} (cx : Cx E mX5_isEvenOnce 6 fr) (tg : Tg E fr (some .boolean) (some (.int r)) σ') (y1 : Int32)  : ∀ (n : Nat) (y2 : Int32) (y3 : Int32) (σ : Sg), f_X5_isEvenOnce_L4 y1 n y2 y3 σ = some (r, σ') → GW E fr 4 4 [(0, .ref (eA E 49)), (1, .int y1), (2, .int y2), (3, .int y3)] [] σ := by
  intro n
  induction n with
  | zero => intro y2 y3 σ h; cases (show (none : Option (Int32 × Sg)) = _ from h)
  | succ n ih =>
    intro y2 y3 σ h
    rw [f_X5_isEvenOnce_L4] at h
    refine gw_iload_n (pc' := 5) cx 3 rfl rfl dX5_isEvenOnce_4 rfl ?_
    refine gw_iload_n (pc' := 6) cx 1 rfl rfl dX5_isEvenOnce_5 rfl ?_
    rcases ite_some h with ⟨c1, h⟩ | ⟨c1, h⟩
    · refine gw_ic_ge_t (pc' := 37) cx c1 dX5_isEvenOnce_6 (by decide) ?_
      refine gw_iload_n (pc' := 38) cx 2 rfl rfl dX5_isEvenOnce_37 rfl ?_
      obtain ⟨z2, h⟩ := chkb_some h
      exact gw_zret cx tg z2 (rt1 h) (rt2 h) dX5_isEvenOnce_38
    · refine gw_ic_ge_f (pc' := 9) cx c1 dX5_isEvenOnce_6 ⟨37, by decide⟩ rfl ?_
      refine gw_iload_n (pc' := 10) cx 2 rfl rfl dX5_isEvenOnce_9 rfl ?_
      rcases ite_some h with ⟨c3, h⟩ | ⟨c3, h⟩
      · refine gw_if_ne_f (pc' := 13) cx c3 dX5_isEvenOnce_10 ⟨37, by decide⟩ rfl ?_
        refine gw_aload_n (pc' := 14) cx 0 rfl rfl dX5_isEvenOnce_13 rfl ?_
        refine gw_iconst (pc' := 15) (v := 0) cx ci_0 dX5_isEvenOnce_14 rfl ?_
        obtain ⟨s5, g4, h⟩ := ob1_some h
        refine gw_cV (pc' := 18) (av := [.int 0]) (rest := []) cx (k_X5_dayBut E g4) at49 (by decide) lk_X5_123 dX5_isEvenOnce_15 rfl (Nat.le_of_ble_eq_true rfl) rfl ?_
        show GW E fr _ 18 _ [] _
        refine gw_aload_n (pc' := 19) cx 0 rfl rfl dX5_isEvenOnce_18 rfl ?_
        obtain ⟨r7, g6, h⟩ := ob0_some h
        refine gw_cV (pc' := 22) (av := []) (rest := []) cx (k_X5_owedOnes E g6) at49 (by decide) lk_X5_135 dX5_isEvenOnce_19 rfl (Nat.le_of_ble_eq_true rfl) rfl ?_
        show GW E fr _ 22 _ (.int r7 :: _) _
        rcases ite_some h with ⟨c8, h⟩ | ⟨c8, h⟩
        · refine gw_if_ne_f (pc' := 25) cx c8 dX5_isEvenOnce_22 ⟨29, by decide⟩ rfl ?_
          refine gw_iconst (pc' := 26) (v := 1) cx ci_1 dX5_isEvenOnce_25 rfl ?_
          refine gw_goto (pc' := 30) cx dX5_isEvenOnce_26 (by decide) ?_
          refine gw_istore_n (pc' := 31) (lv' := [(2, .int 1), (0, .ref (eA E 49)), (1, .int y1), (3, .int y3)]) cx rfl rfl (by decide) dX5_isEvenOnce_30 rfl ?_
          refine gw_iinc (pc' := 34) (v := (y3 + 1)) (lv' := [(3, .int (y3 + 1)), (2, .int 1), (0, .ref (eA E 49)), (1, .int y1)]) cx 3 rfl rfl rfl (by decide) dX5_isEvenOnce_31 rfl ?_
          refine gw_goto (pc' := 4) cx dX5_isEvenOnce_34 (by decide) ?_
          refine gw_sub [2, 3, 1, 0] (lv' := [(0, .ref (eA E 49)), (1, .int y1), (2, .int 1), (3, .int (y3 + 1))]) rfl ?_
          exact ih 1 (y3 + 1) s5 h
        · refine gw_if_ne_t (pc' := 29) cx c8 dX5_isEvenOnce_22 (by decide) ?_
          refine gw_iconst (pc' := 30) (v := 0) cx ci_0 dX5_isEvenOnce_29 rfl ?_
          refine gw_istore_n (pc' := 31) (lv' := [(2, .int 0), (0, .ref (eA E 49)), (1, .int y1), (3, .int y3)]) cx rfl rfl (by decide) dX5_isEvenOnce_30 rfl ?_
          refine gw_iinc (pc' := 34) (v := (y3 + 1)) (lv' := [(3, .int (y3 + 1)), (2, .int 0), (0, .ref (eA E 49)), (1, .int y1)]) cx 3 rfl rfl rfl (by decide) dX5_isEvenOnce_31 rfl ?_
          refine gw_goto (pc' := 4) cx dX5_isEvenOnce_34 (by decide) ?_
          refine gw_sub [2, 3, 1, 0] (lv' := [(0, .ref (eA E 49)), (1, .int y1), (2, .int 0), (3, .int (y3 + 1))]) rfl ?_
          exact ih 0 (y3 + 1) s5 h
      · refine gw_if_ne_t (pc' := 37) cx c3 dX5_isEvenOnce_10 (by decide) ?_
        refine gw_iload_n (pc' := 38) cx 2 rfl rfl dX5_isEvenOnce_37 rfl ?_
        obtain ⟨z9, h⟩ := chkb_some h
        exact gw_zret cx tg z9 (rt1 h) (rt2 h) dX5_isEvenOnce_38
def f_X5_isEvenOnce (x1 : Int32) (σ : Sg) : Option (Int32 × Sg) :=
  f_X5_isEvenOnce_L4 x1 FU 0 0 σ
theorem k_X5_isEvenOnce (E : Ev) {x1 : Int32} {σ : Sg} {r : Int32} {σ' : Sg} (h : f_X5_isEvenOnce x1 σ = some (r, σ')) : Con E mX5_isEvenOnce 6 [.ref (eA E 49), .int x1] σ (some (.int r)) σ' := by
  refine con_of (by decide) (Nat.le_of_ble_eq_true rfl) (fun fr cx tg => ?_)
  show GW E fr 4 0 [(0, .ref (eA E 49)), (1, .int x1)] [] σ
  rw [f_X5_isEvenOnce] at h
  refine gw_iconst (pc' := 1) (v := 0) cx ci_0 dX5_isEvenOnce_0 rfl ?_
  refine gw_istore_n (pc' := 2) (lv' := [(2, .int 0), (0, .ref (eA E 49)), (1, .int x1)]) cx rfl rfl (by decide) dX5_isEvenOnce_1 rfl ?_
  refine gw_iconst (pc' := 3) (v := 0) cx ci_0 dX5_isEvenOnce_2 rfl ?_
  refine gw_istore_n (pc' := 4) (lv' := [(3, .int 0), (2, .int 0), (0, .ref (eA E 49)), (1, .int x1)]) cx rfl rfl (by decide) dX5_isEvenOnce_3 rfl ?_
  refine gw_sub [2, 3, 1, 0] (lv' := [(0, .ref (eA E 49)), (1, .int x1), (2, .int 0), (3, .int 0)]) rfl ?_
  exact w_X5_isEvenOnce_L4 cx tg x1 FU 0 0 σ h
def f_X5_weightFor_L41 (y1 : Int32) (y2 : Int32) : Nat → Int32 → Int32 → Sg → Option (Int32 × Sg)
  | 0, _, _, _ => none
  | n + 1, y3, y4, σ =>
    if y4 < 0 then
      ob2 (f_X5_orNone y3 σ) fun r13 s14 =>
      some (r13, s14)
    else
      if 0 ≤ y3 then
        ob2 (f_X5_orNone y3 σ) fun r17 s18 =>
        some (r17, s18)
      else
        chk y2 60 <|
        lt (up2 σ 50 y2.toNatClampNeg ((((σ 50 y2.toNatClampNeg) / 100) * 100) + y4)) fun s20 =>
        ob2 (f_X5_isEvenOnce y1 s20) fun r23 s24 =>
        if r23 = 0 then
          ob1 (f_X5_copyRow 53 50 s24) fun s27 =>
          f_X5_weightFor_L41 y1 y2 n (-1) (y4 + (-1)) s27
        else
          ob1 (f_X5_copyRow 53 50 s24) fun s29 =>
          f_X5_weightFor_L41 y1 y2 n y4 (y4 + (-1)) s29
theorem w_X5_weightFor_L41 {E : Ev} {fr : Fr} {r : Int32} {σ' : Sg} (cx : Cx E mX5_weightFor 7 fr) (tg : Tg E fr (some .int) (some (.int r)) σ') (y1 : Int32) (y2 : Int32)  : ∀ (n : Nat) (y3 : Int32) (y4 : Int32) (σ : Sg), f_X5_weightFor_L41 y1 y2 n y3 y4 σ = some (r, σ') → GW E fr 5 41 [(0, .ref (eA E 49)), (1, .int y1), (2, .int y2), (3, .int y3), (4, .int y4)] [] σ := by
  intro n
  induction n with
  | zero => intro y3 y4 σ h; cases (show (none : Option (Int32 × Sg)) = _ from h)
  | succ n ih =>
    intro y3 y4 σ h
    rw [f_X5_weightFor_L41] at h
    refine gw_iload (pc' := 43) cx 4 rfl dX5_weightFor_41 rfl ?_
    rcases ite_some h with ⟨c11, h⟩ | ⟨c11, h⟩
    · refine gw_if_lt_t (pc' := 103) cx c11 dX5_weightFor_43 (by decide) ?_
      refine gw_aload_n (pc' := 104) cx 0 rfl rfl dX5_weightFor_103 rfl ?_
      refine gw_iload_n (pc' := 105) cx 3 rfl rfl dX5_weightFor_104 rfl ?_
      obtain ⟨r13, s14, g12, h⟩ := ob2_some h
      refine gw_cV (pc' := 108) (av := [.int y3]) (rest := []) cx (k_X5_orNone E g12) at49 (by decide) lk_X5_111 dX5_weightFor_105 rfl (Nat.le_of_ble_eq_true rfl) rfl ?_
      show GW E fr _ 108 _ (.int r13 :: _) _
      exact gw_iret cx tg (rt1 h) (rt2 h) dX5_weightFor_108
    · refine gw_if_lt_f (pc' := 46) cx c11 dX5_weightFor_43 ⟨103, by decide⟩ rfl ?_
      refine gw_iload_n (pc' := 47) cx 3 rfl rfl dX5_weightFor_46 rfl ?_
      rcases ite_some h with ⟨c15, h⟩ | ⟨c15, h⟩
      · refine gw_if_ge_t (pc' := 103) cx c15 dX5_weightFor_47 (by decide) ?_
        refine gw_aload_n (pc' := 104) cx 0 rfl rfl dX5_weightFor_103 rfl ?_
        refine gw_iload_n (pc' := 105) cx 3 rfl rfl dX5_weightFor_104 rfl ?_
        obtain ⟨r17, s18, g16, h⟩ := ob2_some h
        refine gw_cV (pc' := 108) (av := [.int y3]) (rest := []) cx (k_X5_orNone E g16) at49 (by decide) lk_X5_111 dX5_weightFor_105 rfl (Nat.le_of_ble_eq_true rfl) rfl ?_
        show GW E fr _ 108 _ (.int r17 :: _) _
        exact gw_iret cx tg (rt1 h) (rt2 h) dX5_weightFor_108
      · refine gw_if_ge_f (pc' := 50) cx c15 dX5_weightFor_47 ⟨103, by decide⟩ rfl ?_
        refine gw_aload_n (pc' := 51) cx 0 rfl rfl dX5_weightFor_50 rfl ?_
        refine gw_getR (pc' := 54) cx at49 rfl fl_X5_7 dX5_weightFor_51 rfl ?_
        refine gw_iload_n (pc' := 55) cx 2 rfl rfl dX5_weightFor_54 rfl ?_
        refine gw_aload_n (pc' := 56) cx 0 rfl rfl dX5_weightFor_55 rfl ?_
        refine gw_getR (pc' := 59) cx at49 rfl fl_X5_7 dX5_weightFor_56 rfl ?_
        refine gw_iload_n (pc' := 60) cx 2 rfl rfl dX5_weightFor_59 rfl ?_
        obtain ⟨i19, h⟩ := chk_some h
        refine gw_iald (pc' := 61) cx at50 i19 rfl dX5_weightFor_60 rfl ?_
        refine gw_bipush (pc' := 63) (v := 100) cx cb_100 dX5_weightFor_61 rfl ?_
        refine gw_idiv (pc' := 64) cx (by decide) dX5_weightFor_63 rfl ?_
        refine gw_bipush (pc' := 66) (v := 100) cx cb_100 dX5_weightFor_64 rfl ?_
        refine gw_imul (pc' := 67) cx dX5_weightFor_66 rfl ?_
        refine gw_iload (pc' := 69) cx 4 rfl dX5_weightFor_67 rfl ?_
        refine gw_iadd (pc' := 70) cx dX5_weightFor_69 rfl ?_
        obtain ⟨s20, e21, h⟩ := lt_some h
        refine gw_iast (pc' := 71) cx at50 i19 rfl dX5_weightFor_70 rfl e21 ?_
        refine gw_aload_n (pc' := 72) cx 0 rfl rfl dX5_weightFor_71 rfl ?_
        refine gw_iload_n (pc' := 73) cx 1 rfl rfl dX5_weightFor_72 rfl ?_
        obtain ⟨r23, s24, g22, h⟩ := ob2_some h
        refine gw_cV (pc' := 76) (av := [.int y1]) (rest := []) cx (k_X5_isEvenOnce E g22) at49 (by decide) lk_X5_155 dX5_weightFor_73 rfl (Nat.le_of_ble_eq_true rfl) rfl ?_
        show GW E fr _ 76 _ (.int r23 :: _) _
        rcases ite_some h with ⟨c25, h⟩ | ⟨c25, h⟩
        · refine gw_if_eq_t (pc' := 84) cx c25 dX5_weightFor_76 (by decide) ?_
          refine gw_iconst (pc' := 85) (v := (-1)) cx ci_m1 dX5_weightFor_84 rfl ?_
          refine gw_istore_n (pc' := 86) (lv' := [(3, .int (-1)), (0, .ref (eA E 49)), (1, .int y1), (2, .int y2), (4, .int y4)]) cx rfl rfl (by decide) dX5_weightFor_85 rfl ?_
          refine gw_aload_n (pc' := 87) cx 1 rfl rfl dX5_weightFor_86 rfl ?_
          refine gw_getR (pc' := 90) cx at49 rfl fl_X5_19 dX5_weightFor_87 rfl ?_
          refine gw_aload_n (pc' := 91) cx 1 rfl rfl dX5_weightFor_90 rfl ?_
          refine gw_getR (pc' := 94) cx at49 rfl fl_X5_7 dX5_weightFor_91 rfl ?_
          obtain ⟨s27, g26, h⟩ := ob1_some h
          refine gw_cS (pc' := 97) (av := [.ref (eA E 53), .ref (eA E 50)]) (rest := []) cx (k_X5_copyRow E at53 at50 g26) (by decide) lk_X5_139 dX5_weightFor_94 rfl (Nat.le_of_ble_eq_true rfl) rfl ?_
          show GW E fr _ 97 _ [] _
          refine gw_iinc (pc' := 100) (v := (y4 + (-1))) (lv' := [(4, .int (y4 + (-1))), (3, .int (-1)), (0, .ref (eA E 49)), (1, .int y1), (2, .int y2)]) cx 4 rfl (congrArg (fun z => y4 + z) ci_m1) rfl (by decide) dX5_weightFor_97 rfl ?_
          refine gw_goto (pc' := 41) cx dX5_weightFor_100 (by decide) ?_
          refine gw_sub [2, 3, 4, 1, 0] (lv' := [(0, .ref (eA E 49)), (1, .int y1), (2, .int y2), (3, .int (-1)), (4, .int (y4 + (-1)))]) rfl ?_
          exact ih (-1) (y4 + (-1)) s27 h
        · refine gw_if_eq_f (pc' := 79) cx c25 dX5_weightFor_76 ⟨84, by decide⟩ rfl ?_
          refine gw_iload (pc' := 81) cx 4 rfl dX5_weightFor_79 rfl ?_
          refine gw_goto (pc' := 85) cx dX5_weightFor_81 (by decide) ?_
          refine gw_istore_n (pc' := 86) (lv' := [(3, .int y4), (0, .ref (eA E 49)), (1, .int y1), (2, .int y2), (4, .int y4)]) cx rfl rfl (by decide) dX5_weightFor_85 rfl ?_
          refine gw_aload_n (pc' := 87) cx 1 rfl rfl dX5_weightFor_86 rfl ?_
          refine gw_getR (pc' := 90) cx at49 rfl fl_X5_19 dX5_weightFor_87 rfl ?_
          refine gw_aload_n (pc' := 91) cx 1 rfl rfl dX5_weightFor_90 rfl ?_
          refine gw_getR (pc' := 94) cx at49 rfl fl_X5_7 dX5_weightFor_91 rfl ?_
          obtain ⟨s29, g28, h⟩ := ob1_some h
          refine gw_cS (pc' := 97) (av := [.ref (eA E 53), .ref (eA E 50)]) (rest := []) cx (k_X5_copyRow E at53 at50 g28) (by decide) lk_X5_139 dX5_weightFor_94 rfl (Nat.le_of_ble_eq_true rfl) rfl ?_
          show GW E fr _ 97 _ [] _
          refine gw_iinc (pc' := 100) (v := (y4 + (-1))) (lv' := [(4, .int (y4 + (-1))), (3, .int y4), (0, .ref (eA E 49)), (1, .int y1), (2, .int y2)]) cx 4 rfl (congrArg (fun z => y4 + z) ci_m1) rfl (by decide) dX5_weightFor_97 rfl ?_
          refine gw_goto (pc' := 41) cx dX5_weightFor_100 (by decide) ?_
          refine gw_sub [2, 3, 4, 1, 0] (lv' := [(0, .ref (eA E 49)), (1, .int y1), (2, .int y2), (3, .int y4), (4, .int (y4 + (-1)))]) rfl ?_
          exact ih y4 (y4 + (-1)) s29 h
def f_X5_weightFor (x1 : Int32) (σ : Sg) : Option (Int32 × Sg) :=
  ob0 (f_X5_isIn x1.toInt64 (1 : Int64) (40 : Int64) σ) fun r2 =>
  if r2 = 0 then
    ob2 (f_X5_finds (-1000001) σ) fun r5 s6 =>
    some (r5, s6)
  else
    ob0 (f_X5_nextPlace σ) fun r8 =>
    ob1 (f_X5_copyRow 50 53 σ) fun s10 =>
    f_X5_weightFor_L41 x1 r8 FU (-1) 20 s10
theorem k_X5_weightFor (E : Ev) {x1 : Int32} {σ : Sg} {r : Int32} {σ' : Sg} (h : f_X5_weightFor x1 σ = some (r, σ')) : Con E mX5_weightFor 7 [.ref (eA E 49), .int x1] σ (some (.int r)) σ' := by
  refine con_of (by decide) (Nat.le_of_ble_eq_true rfl) (fun fr cx tg => ?_)
  show GW E fr 5 0 [(0, .ref (eA E 49)), (1, .int x1)] [] σ
  rw [f_X5_weightFor] at h
  refine gw_iload_n (pc' := 1) cx 1 rfl rfl dX5_weightFor_0 rfl ?_
  refine gw_i2l (pc' := 2) cx dX5_weightFor_1 rfl ?_
  refine gw_lconst (pc' := 3) (v := 1) cx cl_1 dX5_weightFor_2 rfl ?_
  refine gw_ldc2_w (pc' := 6) (v := 40) cx ct_X5_150 dX5_weightFor_3 rfl ?_
  obtain ⟨r2, g1, h⟩ := ob0_some h
  refine gw_cS (pc' := 9) (av := [.long x1.toInt64, .long (1 : Int64), .long (40 : Int64)]) (rest := []) cx (k_X5_isIn E g1) (by decide) lk_X5_45 dX5_weightFor_6 rfl (Nat.le_of_ble_eq_true rfl) rfl ?_
  show GW E fr _ 9 _ (.int r2 :: _) _
  rcases ite_some h with ⟨c3, h⟩ | ⟨c3, h⟩
  · refine gw_if_ne_f (pc' := 12) cx c3 dX5_weightFor_9 ⟨19, by decide⟩ rfl ?_
    refine gw_aload_n (pc' := 13) cx 0 rfl rfl dX5_weightFor_12 rfl ?_
    refine gw_ldc (pc' := 15) (v := (-1000001)) cx ct_X5_37 dX5_weightFor_13 rfl ?_
    obtain ⟨r5, s6, g4, h⟩ := ob2_some h
    refine gw_cV (pc' := 18) (av := [.int (-1000001)]) (rest := []) cx (k_X5_finds E g4) at49 (by decide) lk_X5_39 dX5_weightFor_15 rfl (Nat.le_of_ble_eq_true rfl) rfl ?_
    show GW E fr _ 18 _ (.int r5 :: _) _
    exact gw_iret cx tg (rt1 h) (rt2 h) dX5_weightFor_18
  · refine gw_if_ne_t (pc' := 19) cx c3 dX5_weightFor_9 (by decide) ?_
    refine gw_aload_n (pc' := 20) cx 0 rfl rfl dX5_weightFor_19 rfl ?_
    obtain ⟨r8, g7, h⟩ := ob0_some h
    refine gw_cV (pc' := 23) (av := []) (rest := []) cx (k_X5_nextPlace E g7) at49 (by decide) lk_X5_152 dX5_weightFor_20 rfl (Nat.le_of_ble_eq_true rfl) rfl ?_
    show GW E fr _ 23 _ (.int r8 :: _) _
    refine gw_istore_n (pc' := 24) (lv' := [(2, .int r8), (0, .ref (eA E 49)), (1, .int x1)]) cx rfl rfl (by decide) dX5_weightFor_23 rfl ?_
    refine gw_iconst (pc' := 25) (v := (-1)) cx ci_m1 dX5_weightFor_24 rfl ?_
    refine gw_istore_n (pc' := 26) (lv' := [(3, .int (-1)), (2, .int r8), (0, .ref (eA E 49)), (1, .int x1)]) cx rfl rfl (by decide) dX5_weightFor_25 rfl ?_
    refine gw_aload_n (pc' := 27) cx 2 rfl rfl dX5_weightFor_26 rfl ?_
    refine gw_getR (pc' := 30) cx at49 rfl fl_X5_7 dX5_weightFor_27 rfl ?_
    refine gw_aload_n (pc' := 31) cx 2 rfl rfl dX5_weightFor_30 rfl ?_
    refine gw_getR (pc' := 34) cx at49 rfl fl_X5_19 dX5_weightFor_31 rfl ?_
    obtain ⟨s10, g9, h⟩ := ob1_some h
    refine gw_cS (pc' := 37) (av := [.ref (eA E 50), .ref (eA E 53)]) (rest := []) cx (k_X5_copyRow E at50 at53 g9) (by decide) lk_X5_139 dX5_weightFor_34 rfl (Nat.le_of_ble_eq_true rfl) rfl ?_
    show GW E fr _ 37 _ [] _
    refine gw_bipush (pc' := 39) (v := 20) cx cb_20 dX5_weightFor_37 rfl ?_
    refine gw_istore (pc' := 41) (lv' := [(4, .int 20), (3, .int (-1)), (2, .int r8), (0, .ref (eA E 49)), (1, .int x1)]) cx rfl (by decide) dX5_weightFor_39 rfl ?_
    refine gw_sub [3, 4, 2, 1, 0] (lv' := [(0, .ref (eA E 49)), (1, .int x1), (2, .int r8), (3, .int (-1)), (4, .int 20)]) rfl ?_
    exact w_X5_weightFor_L41 cx tg x1 r8 FU (-1) 20 s10 h
def f_X5_isAsked (x1 : Int32) (x2 : Int32) (σ : Sg) : Option (Int32) :=
  ob0 (f_X5_isOne x1 σ) fun r2 =>
  if r2 = 0 then
    some 0
  else
    ob0 (f_X5_isIn x2.toInt64 (0 : Int64) (40 : Int64) σ) fun r5 =>
    if r5 = 0 then
      some 0
    else
      some 1
theorem k_X5_isAsked (E : Ev) {x1 : Int32} {x2 : Int32} {σ : Sg} {r : Int32} (h : f_X5_isAsked x1 x2 σ = some r) : Con E mX5_isAsked 1 [.ref (eA E 49), .int x1, .int x2] σ (some (.int r)) σ := by
  refine con_of (by decide) (Nat.le_of_ble_eq_true rfl) (fun fr cx tg => ?_)
  show GW E fr 3 0 [(0, .ref (eA E 49)), (1, .int x1), (2, .int x2)] [] σ
  rw [f_X5_isAsked] at h
  refine gw_aload_n (pc' := 1) cx 0 rfl rfl dX5_isAsked_0 rfl ?_
  refine gw_iload_n (pc' := 2) cx 1 rfl rfl dX5_isAsked_1 rfl ?_
  obtain ⟨r2, g1, h⟩ := ob0_some h
  refine gw_cV (pc' := 5) (av := [.int x1]) (rest := []) cx (k_X5_isOne E g1) at49 (by decide) lk_X5_85 dX5_isAsked_2 rfl (Nat.le_of_ble_eq_true rfl) rfl ?_
  show GW E fr _ 5 _ (.int r2 :: _) _
  rcases ite_some h with ⟨c3, h⟩ | ⟨c3, h⟩
  · refine gw_if_eq_t (pc' := 24) cx c3 dX5_isAsked_5 (by decide) ?_
    refine gw_iconst (pc' := 25) (v := 0) cx ci_0 dX5_isAsked_24 rfl ?_
    exact gw_zret cx tg (Or.inl rfl) (rt0 h) rfl dX5_isAsked_25
  · refine gw_if_eq_f (pc' := 8) cx c3 dX5_isAsked_5 ⟨24, by decide⟩ rfl ?_
    refine gw_iload_n (pc' := 9) cx 2 rfl rfl dX5_isAsked_8 rfl ?_
    refine gw_i2l (pc' := 10) cx dX5_isAsked_9 rfl ?_
    refine gw_lconst (pc' := 11) (v := 0) cx cl_0 dX5_isAsked_10 rfl ?_
    refine gw_ldc2_w (pc' := 14) (v := 40) cx ct_X5_150 dX5_isAsked_11 rfl ?_
    obtain ⟨r5, g4, h⟩ := ob0_some h
    refine gw_cS (pc' := 17) (av := [.long x2.toInt64, .long (0 : Int64), .long (40 : Int64)]) (rest := []) cx (k_X5_isIn E g4) (by decide) lk_X5_45 dX5_isAsked_14 rfl (Nat.le_of_ble_eq_true rfl) rfl ?_
    show GW E fr _ 17 _ (.int r5 :: _) _
    rcases ite_some h with ⟨c6, h⟩ | ⟨c6, h⟩
    · refine gw_if_eq_t (pc' := 24) cx c6 dX5_isAsked_17 (by decide) ?_
      refine gw_iconst (pc' := 25) (v := 0) cx ci_0 dX5_isAsked_24 rfl ?_
      exact gw_zret cx tg (Or.inl rfl) (rt0 h) rfl dX5_isAsked_25
    · refine gw_if_eq_f (pc' := 20) cx c6 dX5_isAsked_17 ⟨24, by decide⟩ rfl ?_
      refine gw_iconst (pc' := 21) (v := 1) cx ci_1 dX5_isAsked_20 rfl ?_
      refine gw_goto (pc' := 25) cx dX5_isAsked_21 (by decide) ?_
      exact gw_zret cx tg (Or.inr rfl) (rt0 h) rfl dX5_isAsked_25
def f_X5_buildFor_L29 (y1 : Int32) (y2 : Int32) (y3 : Int32) : Nat → Int32 → Int32 → Sg → Option (Int32 × Sg)
  | 0, _, _, _ => none
  | n + 1, y4, y5, σ =>
    if 99 < y5 then
      ob0 (f_X5_at y1 2 σ) fun r11 =>
      chk r11 60 <|
      lt (up2 σ 50 r11.toNatClampNeg y3) fun s13 =>
      ob2 (f_X5_orNone y4 s13) fun r16 s17 =>
      some (r16, s17)
    else
      if 0 ≤ y4 then
        ob0 (f_X5_at y1 2 σ) fun r20 =>
        chk r20 60 <|
        lt (up2 σ 50 r20.toNatClampNeg y3) fun s22 =>
        ob2 (f_X5_orNone y4 s22) fun r25 s26 =>
        some (r25, s26)
      else
        ob0 (f_X5_at y1 2 σ) fun r28 =>
        chk r28 60 <|
        lt (up2 σ 50 r28.toNatClampNeg y5) fun s30 =>
        ob2 (f_X5_thenAt 3 y2 s30) fun r33 s34 =>
        if r33 = (s34 50 3) then
          f_X5_buildFor_L29 y1 y2 y3 n y5 (y5 + 1) s34
        else
          f_X5_buildFor_L29 y1 y2 y3 n (-1) (y5 + 1) s34
theorem w_X5_buildFor_L29 {E : Ev} {fr : Fr} {r : Int32} {σ' : Sg} (cx : Cx E mX5_buildFor 8 fr) (tg : Tg E fr (some .int) (some (.int r)) σ') (y1 : Int32) (y2 : Int32) (y3 : Int32)  : ∀ (n : Nat) (y4 : Int32) (y5 : Int32) (σ : Sg), f_X5_buildFor_L29 y1 y2 y3 n y4 y5 σ = some (r, σ') → GW E fr 6 29 [(0, .ref (eA E 49)), (1, .int y1), (2, .int y2), (3, .int y3), (4, .int y4), (5, .int y5)] [] σ := by
  intro n
  induction n with
  | zero => intro y4 y5 σ h; cases (show (none : Option (Int32 × Sg)) = _ from h)
  | succ n ih =>
    intro y4 y5 σ h
    rw [f_X5_buildFor_L29] at h
    refine gw_iload (pc' := 31) cx 5 rfl dX5_buildFor_29 rfl ?_
    refine gw_bipush (pc' := 33) (v := 99) cx cb_99 dX5_buildFor_31 rfl ?_
    rcases ite_some h with ⟨c9, h⟩ | ⟨c9, h⟩
    · refine gw_ic_gt_t (pc' := 82) cx c9 dX5_buildFor_33 (by decide) ?_
      refine gw_aload_n (pc' := 83) cx 0 rfl rfl dX5_buildFor_82 rfl ?_
      refine gw_getR (pc' := 86) cx at49 rfl fl_X5_7 dX5_buildFor_83 rfl ?_
      refine gw_iload_n (pc' := 87) cx 1 rfl rfl dX5_buildFor_86 rfl ?_
      refine gw_iconst (pc' := 88) (v := 2) cx ci_2 dX5_buildFor_87 rfl ?_
      obtain ⟨r11, g10, h⟩ := ob0_some h
      refine gw_cS (pc' := 91) (av := [.int y1, .int 2]) (rest := [.ref (eA E 50)]) cx (k_X5_at E g10) (by decide) lk_X5_61 dX5_buildFor_88 rfl (Nat.le_of_ble_eq_true rfl) rfl ?_
      show GW E fr _ 91 _ (.int r11 :: _) _
      refine gw_iload_n (pc' := 92) cx 3 rfl rfl dX5_buildFor_91 rfl ?_
      obtain ⟨i12, h⟩ := chk_some h
      obtain ⟨s13, e14, h⟩ := lt_some h
      refine gw_iast (pc' := 93) cx at50 i12 rfl dX5_buildFor_92 rfl e14 ?_
      refine gw_aload_n (pc' := 94) cx 0 rfl rfl dX5_buildFor_93 rfl ?_
      refine gw_iload (pc' := 96) cx 4 rfl dX5_buildFor_94 rfl ?_
      obtain ⟨r16, s17, g15, h⟩ := ob2_some h
      refine gw_cV (pc' := 99) (av := [.int y4]) (rest := []) cx (k_X5_orNone E g15) at49 (by decide) lk_X5_111 dX5_buildFor_96 rfl (Nat.le_of_ble_eq_true rfl) rfl ?_
      show GW E fr _ 99 _ (.int r16 :: _) _
      exact gw_iret cx tg (rt1 h) (rt2 h) dX5_buildFor_99
    · refine gw_ic_gt_f (pc' := 36) cx c9 dX5_buildFor_33 ⟨82, by decide⟩ rfl ?_
      refine gw_iload (pc' := 38) cx 4 rfl dX5_buildFor_36 rfl ?_
      rcases ite_some h with ⟨c18, h⟩ | ⟨c18, h⟩
      · refine gw_if_ge_t (pc' := 82) cx c18 dX5_buildFor_38 (by decide) ?_
        refine gw_aload_n (pc' := 83) cx 0 rfl rfl dX5_buildFor_82 rfl ?_
        refine gw_getR (pc' := 86) cx at49 rfl fl_X5_7 dX5_buildFor_83 rfl ?_
        refine gw_iload_n (pc' := 87) cx 1 rfl rfl dX5_buildFor_86 rfl ?_
        refine gw_iconst (pc' := 88) (v := 2) cx ci_2 dX5_buildFor_87 rfl ?_
        obtain ⟨r20, g19, h⟩ := ob0_some h
        refine gw_cS (pc' := 91) (av := [.int y1, .int 2]) (rest := [.ref (eA E 50)]) cx (k_X5_at E g19) (by decide) lk_X5_61 dX5_buildFor_88 rfl (Nat.le_of_ble_eq_true rfl) rfl ?_
        show GW E fr _ 91 _ (.int r20 :: _) _
        refine gw_iload_n (pc' := 92) cx 3 rfl rfl dX5_buildFor_91 rfl ?_
        obtain ⟨i21, h⟩ := chk_some h
        obtain ⟨s22, e23, h⟩ := lt_some h
        refine gw_iast (pc' := 93) cx at50 i21 rfl dX5_buildFor_92 rfl e23 ?_
        refine gw_aload_n (pc' := 94) cx 0 rfl rfl dX5_buildFor_93 rfl ?_
        refine gw_iload (pc' := 96) cx 4 rfl dX5_buildFor_94 rfl ?_
        obtain ⟨r25, s26, g24, h⟩ := ob2_some h
        refine gw_cV (pc' := 99) (av := [.int y4]) (rest := []) cx (k_X5_orNone E g24) at49 (by decide) lk_X5_111 dX5_buildFor_96 rfl (Nat.le_of_ble_eq_true rfl) rfl ?_
        show GW E fr _ 99 _ (.int r25 :: _) _
        exact gw_iret cx tg (rt1 h) (rt2 h) dX5_buildFor_99
      · refine gw_if_ge_f (pc' := 41) cx c18 dX5_buildFor_38 ⟨82, by decide⟩ rfl ?_
        refine gw_aload_n (pc' := 42) cx 0 rfl rfl dX5_buildFor_41 rfl ?_
        refine gw_getR (pc' := 45) cx at49 rfl fl_X5_7 dX5_buildFor_42 rfl ?_
        refine gw_iload_n (pc' := 46) cx 1 rfl rfl dX5_buildFor_45 rfl ?_
        refine gw_iconst (pc' := 47) (v := 2) cx ci_2 dX5_buildFor_46 rfl ?_
        obtain ⟨r28, g27, h⟩ := ob0_some h
        refine gw_cS (pc' := 50) (av := [.int y1, .int 2]) (rest := [.ref (eA E 50)]) cx (k_X5_at E g27) (by decide) lk_X5_61 dX5_buildFor_47 rfl (Nat.le_of_ble_eq_true rfl) rfl ?_
        show GW E fr _ 50 _ (.int r28 :: _) _
        refine gw_iload (pc' := 52) cx 5 rfl dX5_buildFor_50 rfl ?_
        obtain ⟨i29, h⟩ := chk_some h
        obtain ⟨s30, e31, h⟩ := lt_some h
        refine gw_iast (pc' := 53) cx at50 i29 rfl dX5_buildFor_52 rfl e31 ?_
        refine gw_aload_n (pc' := 54) cx 0 rfl rfl dX5_buildFor_53 rfl ?_
        refine gw_iconst (pc' := 55) (v := 3) cx ci_3 dX5_buildFor_54 rfl ?_
        refine gw_iload_n (pc' := 56) cx 2 rfl rfl dX5_buildFor_55 rfl ?_
        obtain ⟨r33, s34, g32, h⟩ := ob2_some h
        refine gw_cV (pc' := 59) (av := [.int 3, .int y2]) (rest := []) cx (k_X5_thenAt E g32) at49 (by decide) lk_X5_145 dX5_buildFor_56 rfl (Nat.le_of_ble_eq_true rfl) rfl ?_
        show GW E fr _ 59 _ (.int r33 :: _) _
        refine gw_aload_n (pc' := 60) cx 0 rfl rfl dX5_buildFor_59 rfl ?_
        refine gw_getR (pc' := 63) cx at49 rfl fl_X5_7 dX5_buildFor_60 rfl ?_
        refine gw_iconst (pc' := 64) (v := 3) cx ci_3 dX5_buildFor_63 rfl ?_
        refine gw_iald (pc' := 65) cx at50 (vpc (by decide)) cn_3 dX5_buildFor_64 rfl ?_
        rcases ite_some h with ⟨c35, h⟩ | ⟨c35, h⟩
        · refine gw_ic_ne_f (pc' := 68) cx c35 dX5_buildFor_65 ⟨73, by decide⟩ rfl ?_
          refine gw_iload (pc' := 70) cx 5 rfl dX5_buildFor_68 rfl ?_
          refine gw_goto (pc' := 74) cx dX5_buildFor_70 (by decide) ?_
          refine gw_istore (pc' := 76) (lv' := [(4, .int y5), (0, .ref (eA E 49)), (1, .int y1), (2, .int y2), (3, .int y3), (5, .int y5)]) cx rfl (by decide) dX5_buildFor_74 rfl ?_
          refine gw_iinc (pc' := 79) (v := (y5 + 1)) (lv' := [(5, .int (y5 + 1)), (4, .int y5), (0, .ref (eA E 49)), (1, .int y1), (2, .int y2), (3, .int y3)]) cx 5 rfl rfl rfl (by decide) dX5_buildFor_76 rfl ?_
          refine gw_goto (pc' := 29) cx dX5_buildFor_79 (by decide) ?_
          refine gw_sub [2, 3, 4, 5, 1, 0] (lv' := [(0, .ref (eA E 49)), (1, .int y1), (2, .int y2), (3, .int y3), (4, .int y5), (5, .int (y5 + 1))]) rfl ?_
          exact ih y5 (y5 + 1) s34 h
        · refine gw_ic_ne_t (pc' := 73) cx c35 dX5_buildFor_65 (by decide) ?_
          refine gw_iconst (pc' := 74) (v := (-1)) cx ci_m1 dX5_buildFor_73 rfl ?_
          refine gw_istore (pc' := 76) (lv' := [(4, .int (-1)), (0, .ref (eA E 49)), (1, .int y1), (2, .int y2), (3, .int y3), (5, .int y5)]) cx rfl (by decide) dX5_buildFor_74 rfl ?_
          refine gw_iinc (pc' := 79) (v := (y5 + 1)) (lv' := [(5, .int (y5 + 1)), (4, .int (-1)), (0, .ref (eA E 49)), (1, .int y1), (2, .int y2), (3, .int y3)]) cx 5 rfl rfl rfl (by decide) dX5_buildFor_76 rfl ?_
          refine gw_goto (pc' := 29) cx dX5_buildFor_79 (by decide) ?_
          refine gw_sub [2, 3, 4, 5, 1, 0] (lv' := [(0, .ref (eA E 49)), (1, .int y1), (2, .int y2), (3, .int y3), (4, .int (-1)), (5, .int (y5 + 1))]) rfl ?_
          exact ih (-1) (y5 + 1) s34 h
def f_X5_buildFor (x1 : Int32) (x2 : Int32) (σ : Sg) : Option (Int32 × Sg) :=
  ob0 (f_X5_isAsked x1 x2 σ) fun r2 =>
  if r2 = 0 then
    ob2 (f_X5_finds (-1000001) σ) fun r5 s6 =>
    some (r5, s6)
  else
    ob0 (f_X5_its x1 2 σ) fun r8 =>
    f_X5_buildFor_L29 x1 x2 r8 FU (-1) 0 σ
theorem k_X5_buildFor (E : Ev) {x1 : Int32} {x2 : Int32} {σ : Sg} {r : Int32} {σ' : Sg} (h : f_X5_buildFor x1 x2 σ = some (r, σ')) : Con E mX5_buildFor 8 [.ref (eA E 49), .int x1, .int x2] σ (some (.int r)) σ' := by
  refine con_of (by decide) (Nat.le_of_ble_eq_true rfl) (fun fr cx tg => ?_)
  show GW E fr 6 0 [(0, .ref (eA E 49)), (1, .int x1), (2, .int x2)] [] σ
  rw [f_X5_buildFor] at h
  refine gw_aload_n (pc' := 1) cx 0 rfl rfl dX5_buildFor_0 rfl ?_
  refine gw_iload_n (pc' := 2) cx 1 rfl rfl dX5_buildFor_1 rfl ?_
  refine gw_iload_n (pc' := 3) cx 2 rfl rfl dX5_buildFor_2 rfl ?_
  obtain ⟨r2, g1, h⟩ := ob0_some h
  refine gw_cV (pc' := 6) (av := [.int x1, .int x2]) (rest := []) cx (k_X5_isAsked E g1) at49 (by decide) lk_X5_158 dX5_buildFor_3 rfl (Nat.le_of_ble_eq_true rfl) rfl ?_
  show GW E fr _ 6 _ (.int r2 :: _) _
  rcases ite_some h with ⟨c3, h⟩ | ⟨c3, h⟩
  · refine gw_if_ne_f (pc' := 9) cx c3 dX5_buildFor_6 ⟨16, by decide⟩ rfl ?_
    refine gw_aload_n (pc' := 10) cx 0 rfl rfl dX5_buildFor_9 rfl ?_
    refine gw_ldc (pc' := 12) (v := (-1000001)) cx ct_X5_37 dX5_buildFor_10 rfl ?_
    obtain ⟨r5, s6, g4, h⟩ := ob2_some h
    refine gw_cV (pc' := 15) (av := [.int (-1000001)]) (rest := []) cx (k_X5_finds E g4) at49 (by decide) lk_X5_39 dX5_buildFor_12 rfl (Nat.le_of_ble_eq_true rfl) rfl ?_
    show GW E fr _ 15 _ (.int r5 :: _) _
    exact gw_iret cx tg (rt1 h) (rt2 h) dX5_buildFor_15
  · refine gw_if_ne_t (pc' := 16) cx c3 dX5_buildFor_6 (by decide) ?_
    refine gw_aload_n (pc' := 17) cx 0 rfl rfl dX5_buildFor_16 rfl ?_
    refine gw_iload_n (pc' := 18) cx 1 rfl rfl dX5_buildFor_17 rfl ?_
    refine gw_iconst (pc' := 19) (v := 2) cx ci_2 dX5_buildFor_18 rfl ?_
    obtain ⟨r8, g7, h⟩ := ob0_some h
    refine gw_cV (pc' := 22) (av := [.int x1, .int 2]) (rest := []) cx (k_X5_its E g7) at49 (by decide) lk_X5_73 dX5_buildFor_19 rfl (Nat.le_of_ble_eq_true rfl) rfl ?_
    show GW E fr _ 22 _ (.int r8 :: _) _
    refine gw_istore_n (pc' := 23) (lv' := [(3, .int r8), (0, .ref (eA E 49)), (1, .int x1), (2, .int x2)]) cx rfl rfl (by decide) dX5_buildFor_22 rfl ?_
    refine gw_iconst (pc' := 24) (v := (-1)) cx ci_m1 dX5_buildFor_23 rfl ?_
    refine gw_istore (pc' := 26) (lv' := [(4, .int (-1)), (3, .int r8), (0, .ref (eA E 49)), (1, .int x1), (2, .int x2)]) cx rfl (by decide) dX5_buildFor_24 rfl ?_
    refine gw_iconst (pc' := 27) (v := 0) cx ci_0 dX5_buildFor_26 rfl ?_
    refine gw_istore (pc' := 29) (lv' := [(5, .int 0), (4, .int (-1)), (3, .int r8), (0, .ref (eA E 49)), (1, .int x1), (2, .int x2)]) cx rfl (by decide) dX5_buildFor_27 rfl ?_
    refine gw_sub [3, 4, 5, 2, 1, 0] (lv' := [(0, .ref (eA E 49)), (1, .int x1), (2, .int x2), (3, .int r8), (4, .int (-1)), (5, .int 0)]) rfl ?_
    exact w_X5_buildFor_L29 cx tg x1 x2 r8 FU (-1) 0 σ h
def f_X5_kindFor_L34 (y1 : Int32) (y2 : Int32) (y3 : Int32) : Nat → Int32 → Int32 → Int32 → Sg → Option (Int32 × Sg)
  | 0, _, _, _, _ => none
  | n + 1, y4, y5, y6, σ =>
    if 6 < y6 then
      ob0 (f_X5_at y1 0 σ) fun r11 =>
      chk r11 60 <|
      lt (up2 σ 50 r11.toNatClampNeg y3) fun s13 =>
      some (y4, s13)
    else
      ob0 (f_X5_at y1 0 σ) fun r16 =>
      chk r16 60 <|
      lt (up2 σ 50 r16.toNatClampNeg y6) fun s18 =>
      ob0 (f_X5_at y1 3 s18) fun r21 =>
      ob2 (f_X5_thenAt r21 y2 s18) fun r23 s24 =>
      if y5 ≤ r23 then
        ob0 (f_X5_least y5 r23 s24) fun r27 =>
        f_X5_kindFor_L34 y1 y2 y3 n y4 r27 (y6 + 1) s24
      else
        ob0 (f_X5_least y5 r23 s24) fun r29 =>
        f_X5_kindFor_L34 y1 y2 y3 n y6 r29 (y6 + 1) s24
theorem w_X5_kindFor_L34 {E : Ev} {fr : Fr} {r : Int32} {σ' : Sg} (cx : Cx E mX5_kindFor 8 fr) (tg : Tg E fr (some .int) (some (.int r)) σ') (y1 : Int32) (y2 : Int32) (y3 : Int32)  : ∀ (n : Nat) (y4 : Int32) (y5 : Int32) (y6 : Int32) (σ : Sg), f_X5_kindFor_L34 y1 y2 y3 n y4 y5 y6 σ = some (r, σ') → GW E fr 8 34 [(0, .ref (eA E 49)), (1, .int y1), (2, .int y2), (3, .int y3), (4, .int y4), (5, .int y5), (6, .int y6)] [] σ := by
  intro n
  induction n with
  | zero => intro y4 y5 y6 σ h; cases (show (none : Option (Int32 × Sg)) = _ from h)
  | succ n ih =>
    intro y4 y5 y6 σ h
    rw [f_X5_kindFor_L34] at h
    refine gw_iload (pc' := 36) cx 6 rfl dX5_kindFor_34 rfl ?_
    refine gw_bipush (pc' := 38) (v := 6) cx cb_6 dX5_kindFor_36 rfl ?_
    rcases ite_some h with ⟨c9, h⟩ | ⟨c9, h⟩
    · refine gw_ic_gt_t (pc' := 96) cx c9 dX5_kindFor_38 (by decide) ?_
      refine gw_aload_n (pc' := 97) cx 0 rfl rfl dX5_kindFor_96 rfl ?_
      refine gw_getR (pc' := 100) cx at49 rfl fl_X5_7 dX5_kindFor_97 rfl ?_
      refine gw_iload_n (pc' := 101) cx 1 rfl rfl dX5_kindFor_100 rfl ?_
      refine gw_iconst (pc' := 102) (v := 0) cx ci_0 dX5_kindFor_101 rfl ?_
      obtain ⟨r11, g10, h⟩ := ob0_some h
      refine gw_cS (pc' := 105) (av := [.int y1, .int 0]) (rest := [.ref (eA E 50)]) cx (k_X5_at E g10) (by decide) lk_X5_61 dX5_kindFor_102 rfl (Nat.le_of_ble_eq_true rfl) rfl ?_
      show GW E fr _ 105 _ (.int r11 :: _) _
      refine gw_iload_n (pc' := 106) cx 3 rfl rfl dX5_kindFor_105 rfl ?_
      obtain ⟨i12, h⟩ := chk_some h
      obtain ⟨s13, e14, h⟩ := lt_some h
      refine gw_iast (pc' := 107) cx at50 i12 rfl dX5_kindFor_106 rfl e14 ?_
      refine gw_iload (pc' := 109) cx 4 rfl dX5_kindFor_107 rfl ?_
      exact gw_iret cx tg (rt1 h) (rt2 h) dX5_kindFor_109
    · refine gw_ic_gt_f (pc' := 41) cx c9 dX5_kindFor_38 ⟨96, by decide⟩ rfl ?_
      refine gw_aload_n (pc' := 42) cx 0 rfl rfl dX5_kindFor_41 rfl ?_
      refine gw_getR (pc' := 45) cx at49 rfl fl_X5_7 dX5_kindFor_42 rfl ?_
      refine gw_iload_n (pc' := 46) cx 1 rfl rfl dX5_kindFor_45 rfl ?_
      refine gw_iconst (pc' := 47) (v := 0) cx ci_0 dX5_kindFor_46 rfl ?_
      obtain ⟨r16, g15, h⟩ := ob0_some h
      refine gw_cS (pc' := 50) (av := [.int y1, .int 0]) (rest := [.ref (eA E 50)]) cx (k_X5_at E g15) (by decide) lk_X5_61 dX5_kindFor_47 rfl (Nat.le_of_ble_eq_true rfl) rfl ?_
      show GW E fr _ 50 _ (.int r16 :: _) _
      refine gw_iload (pc' := 52) cx 6 rfl dX5_kindFor_50 rfl ?_
      obtain ⟨i17, h⟩ := chk_some h
      obtain ⟨s18, e19, h⟩ := lt_some h
      refine gw_iast (pc' := 53) cx at50 i17 rfl dX5_kindFor_52 rfl e19 ?_
      refine gw_aload_n (pc' := 54) cx 0 rfl rfl dX5_kindFor_53 rfl ?_
      refine gw_iload_n (pc' := 55) cx 1 rfl rfl dX5_kindFor_54 rfl ?_
      refine gw_iconst (pc' := 56) (v := 3) cx ci_3 dX5_kindFor_55 rfl ?_
      obtain ⟨r21, g20, h⟩ := ob0_some h
      refine gw_cS (pc' := 59) (av := [.int y1, .int 3]) (rest := [.ref (eA E 49)]) cx (k_X5_at E g20) (by decide) lk_X5_61 dX5_kindFor_56 rfl (Nat.le_of_ble_eq_true rfl) rfl ?_
      show GW E fr _ 59 _ (.int r21 :: _) _
      refine gw_iload_n (pc' := 60) cx 2 rfl rfl dX5_kindFor_59 rfl ?_
      obtain ⟨r23, s24, g22, h⟩ := ob2_some h
      refine gw_cV (pc' := 63) (av := [.int r21, .int y2]) (rest := []) cx (k_X5_thenAt E g22) at49 (by decide) lk_X5_145 dX5_kindFor_60 rfl (Nat.le_of_ble_eq_true rfl) rfl ?_
      show GW E fr _ 63 _ (.int r23 :: _) _
      refine gw_istore (pc' := 65) (lv' := [(7, .int r23), (0, .ref (eA E 49)), (1, .int y1), (2, .int y2), (3, .int y3), (4, .int y4), (5, .int y5), (6, .int y6)]) cx rfl (by decide) dX5_kindFor_63 rfl ?_
      refine gw_iload (pc' := 67) cx 0 rfl dX5_kindFor_65 rfl ?_
      refine gw_iload (pc' := 69) cx 6 rfl dX5_kindFor_67 rfl ?_
      rcases ite_some h with ⟨c25, h⟩ | ⟨c25, h⟩
      · refine gw_ic_ge_t (pc' := 77) cx c25 dX5_kindFor_69 (by decide) ?_
        refine gw_iload (pc' := 79) cx 5 rfl dX5_kindFor_77 rfl ?_
        refine gw_istore (pc' := 81) (lv' := [(4, .int y4), (7, .int r23), (0, .ref (eA E 49)), (1, .int y1), (2, .int y2), (3, .int y3), (5, .int y5), (6, .int y6)]) cx rfl (by decide) dX5_kindFor_79 rfl ?_
        refine gw_iload (pc' := 83) cx 6 rfl dX5_kindFor_81 rfl ?_
        refine gw_iload (pc' := 85) cx 1 rfl dX5_kindFor_83 rfl ?_
        obtain ⟨r27, g26, h⟩ := ob0_some h
        refine gw_cS (pc' := 88) (av := [.int y5, .int r23]) (rest := []) cx (k_X5_least E g26) (by decide) lk_X5_82 dX5_kindFor_85 rfl (Nat.le_of_ble_eq_true rfl) rfl ?_
        show GW E fr _ 88 _ (.int r27 :: _) _
        refine gw_istore (pc' := 90) (lv' := [(5, .int r27), (4, .int y4), (7, .int r23), (0, .ref (eA E 49)), (1, .int y1), (2, .int y2), (3, .int y3), (6, .int y6)]) cx rfl (by decide) dX5_kindFor_88 rfl ?_
        refine gw_iinc (pc' := 93) (v := (y6 + 1)) (lv' := [(6, .int (y6 + 1)), (5, .int r27), (4, .int y4), (7, .int r23), (0, .ref (eA E 49)), (1, .int y1), (2, .int y2), (3, .int y3)]) cx 7 rfl rfl rfl (by decide) dX5_kindFor_90 rfl ?_
        refine gw_goto (pc' := 34) cx dX5_kindFor_93 (by decide) ?_
        refine gw_sub [4, 5, 6, 7, 2, 1, 0] (lv' := [(0, .ref (eA E 49)), (1, .int y1), (2, .int y2), (3, .int y3), (4, .int y4), (5, .int r27), (6, .int (y6 + 1))]) rfl ?_
        exact ih y4 r27 (y6 + 1) s24 h
      · refine gw_ic_ge_f (pc' := 72) cx c25 dX5_kindFor_69 ⟨77, by decide⟩ rfl ?_
        refine gw_iload (pc' := 74) cx 7 rfl dX5_kindFor_72 rfl ?_
        refine gw_goto (pc' := 79) cx dX5_kindFor_74 (by decide) ?_
        refine gw_istore (pc' := 81) (lv' := [(4, .int y6), (7, .int r23), (0, .ref (eA E 49)), (1, .int y1), (2, .int y2), (3, .int y3), (5, .int y5), (6, .int y6)]) cx rfl (by decide) dX5_kindFor_79 rfl ?_
        refine gw_iload (pc' := 83) cx 6 rfl dX5_kindFor_81 rfl ?_
        refine gw_iload (pc' := 85) cx 1 rfl dX5_kindFor_83 rfl ?_
        obtain ⟨r29, g28, h⟩ := ob0_some h
        refine gw_cS (pc' := 88) (av := [.int y5, .int r23]) (rest := []) cx (k_X5_least E g28) (by decide) lk_X5_82 dX5_kindFor_85 rfl (Nat.le_of_ble_eq_true rfl) rfl ?_
        show GW E fr _ 88 _ (.int r29 :: _) _
        refine gw_istore (pc' := 90) (lv' := [(5, .int r29), (4, .int y6), (7, .int r23), (0, .ref (eA E 49)), (1, .int y1), (2, .int y2), (3, .int y3), (6, .int y6)]) cx rfl (by decide) dX5_kindFor_88 rfl ?_
        refine gw_iinc (pc' := 93) (v := (y6 + 1)) (lv' := [(6, .int (y6 + 1)), (5, .int r29), (4, .int y6), (7, .int r23), (0, .ref (eA E 49)), (1, .int y1), (2, .int y2), (3, .int y3)]) cx 7 rfl rfl rfl (by decide) dX5_kindFor_90 rfl ?_
        refine gw_goto (pc' := 34) cx dX5_kindFor_93 (by decide) ?_
        refine gw_sub [4, 5, 6, 7, 2, 1, 0] (lv' := [(0, .ref (eA E 49)), (1, .int y1), (2, .int y2), (3, .int y3), (4, .int y6), (5, .int r29), (6, .int (y6 + 1))]) rfl ?_
        exact ih y6 r29 (y6 + 1) s24 h
def f_X5_kindFor (x1 : Int32) (x2 : Int32) (σ : Sg) : Option (Int32 × Sg) :=
  ob0 (f_X5_isAsked x1 x2 σ) fun r2 =>
  if r2 = 0 then
    ob2 (f_X5_finds (-1000001) σ) fun r5 s6 =>
    some (r5, s6)
  else
    ob0 (f_X5_its x1 0 σ) fun r8 =>
    f_X5_kindFor_L34 x1 x2 r8 FU 0 10000 0 σ
theorem k_X5_kindFor (E : Ev) {x1 : Int32} {x2 : Int32} {σ : Sg} {r : Int32} {σ' : Sg} (h : f_X5_kindFor x1 x2 σ = some (r, σ')) : Con E mX5_kindFor 8 [.ref (eA E 49), .int x1, .int x2] σ (some (.int r)) σ' := by
  refine con_of (by decide) (Nat.le_of_ble_eq_true rfl) (fun fr cx tg => ?_)
  show GW E fr 8 0 [(0, .ref (eA E 49)), (1, .int x1), (2, .int x2)] [] σ
  rw [f_X5_kindFor] at h
  refine gw_aload_n (pc' := 1) cx 0 rfl rfl dX5_kindFor_0 rfl ?_
  refine gw_iload_n (pc' := 2) cx 1 rfl rfl dX5_kindFor_1 rfl ?_
  refine gw_iload_n (pc' := 3) cx 2 rfl rfl dX5_kindFor_2 rfl ?_
  obtain ⟨r2, g1, h⟩ := ob0_some h
  refine gw_cV (pc' := 6) (av := [.int x1, .int x2]) (rest := []) cx (k_X5_isAsked E g1) at49 (by decide) lk_X5_158 dX5_kindFor_3 rfl (Nat.le_of_ble_eq_true rfl) rfl ?_
  show GW E fr _ 6 _ (.int r2 :: _) _
  rcases ite_some h with ⟨c3, h⟩ | ⟨c3, h⟩
  · refine gw_if_ne_f (pc' := 9) cx c3 dX5_kindFor_6 ⟨16, by decide⟩ rfl ?_
    refine gw_aload_n (pc' := 10) cx 0 rfl rfl dX5_kindFor_9 rfl ?_
    refine gw_ldc (pc' := 12) (v := (-1000001)) cx ct_X5_37 dX5_kindFor_10 rfl ?_
    obtain ⟨r5, s6, g4, h⟩ := ob2_some h
    refine gw_cV (pc' := 15) (av := [.int (-1000001)]) (rest := []) cx (k_X5_finds E g4) at49 (by decide) lk_X5_39 dX5_kindFor_12 rfl (Nat.le_of_ble_eq_true rfl) rfl ?_
    show GW E fr _ 15 _ (.int r5 :: _) _
    exact gw_iret cx tg (rt1 h) (rt2 h) dX5_kindFor_15
  · refine gw_if_ne_t (pc' := 16) cx c3 dX5_kindFor_6 (by decide) ?_
    refine gw_aload_n (pc' := 17) cx 0 rfl rfl dX5_kindFor_16 rfl ?_
    refine gw_iload_n (pc' := 18) cx 1 rfl rfl dX5_kindFor_17 rfl ?_
    refine gw_iconst (pc' := 19) (v := 0) cx ci_0 dX5_kindFor_18 rfl ?_
    obtain ⟨r8, g7, h⟩ := ob0_some h
    refine gw_cV (pc' := 22) (av := [.int x1, .int 0]) (rest := []) cx (k_X5_its E g7) at49 (by decide) lk_X5_73 dX5_kindFor_19 rfl (Nat.le_of_ble_eq_true rfl) rfl ?_
    show GW E fr _ 22 _ (.int r8 :: _) _
    refine gw_istore_n (pc' := 23) (lv' := [(3, .int r8), (0, .ref (eA E 49)), (1, .int x1), (2, .int x2)]) cx rfl rfl (by decide) dX5_kindFor_22 rfl ?_
    refine gw_iconst (pc' := 24) (v := 0) cx ci_0 dX5_kindFor_23 rfl ?_
    refine gw_istore (pc' := 26) (lv' := [(4, .int 0), (3, .int r8), (0, .ref (eA E 49)), (1, .int x1), (2, .int x2)]) cx rfl (by decide) dX5_kindFor_24 rfl ?_
    refine gw_sipush (pc' := 29) (v := 10000) cx cs_10000 dX5_kindFor_26 rfl ?_
    refine gw_istore (pc' := 31) (lv' := [(5, .int 10000), (4, .int 0), (3, .int r8), (0, .ref (eA E 49)), (1, .int x1), (2, .int x2)]) cx rfl (by decide) dX5_kindFor_29 rfl ?_
    refine gw_iconst (pc' := 32) (v := 0) cx ci_0 dX5_kindFor_31 rfl ?_
    refine gw_istore (pc' := 34) (lv' := [(6, .int 0), (5, .int 10000), (4, .int 0), (3, .int r8), (0, .ref (eA E 49)), (1, .int x1), (2, .int x2)]) cx rfl (by decide) dX5_kindFor_32 rfl ?_
    refine gw_sub [4, 5, 6, 3, 2, 1, 0] (lv' := [(0, .ref (eA E 49)), (1, .int x1), (2, .int x2), (3, .int r8), (4, .int 0), (5, .int 10000), (6, .int 0)]) rfl ?_
    exact w_X5_kindFor_L34 cx tg x1 x2 r8 FU 0 10000 0 σ h
def f_X5_refuse_L99 (k56 : Int32 → Int32 → Sg → Option (Int32 × Sg)) (y1 : Int32) (y2 : Int32) (y3 : Int32) (y4 : Int32) (y5 : Int32) : Nat → Int32 → Sg → Option (Int32 × Sg)
  | 0, _, _ => none
  | n + 1, y6, σ =>
    if y3 ≤ y6 then
      ob0 (f_X5_its y1 3 σ) fun r34 =>
      if y2 < r34 then
        ob1 (f_X5_copyRow 53 50 σ) fun s37 =>
        k56 y4 (y5 + 1) s37
      else
        ob1 (f_X5_copyRow 53 50 σ) fun s39 =>
        k56 y5 (y5 + 1) s39
    else
      ob1 (f_X5_dayBut y5 σ) fun s41 =>
      f_X5_refuse_L99 k56 y1 y2 y3 y4 y5 n (y6 + 1) s41
theorem w_X5_refuse_L99 {E : Ev} {fr : Fr} {r : Int32} {σ' : Sg} (cx : Cx E mX5_refuse 6 fr) (tg : Tg E fr (some .int) (some (.int r)) σ') (y1 : Int32) (y2 : Int32) (y3 : Int32) (y4 : Int32) (y5 : Int32) (k56 : Int32 → Int32 → Sg → Option (Int32 × Sg)) (hk56 : ∀ (z0 : Int32) (z1 : Int32) (σ : Sg), k56 z0 z1 σ = some (r, σ') → GW E fr 7 56 [(0, .ref (eA E 49)), (1, .int y1), (2, .int y2), (3, .int y3), (4, .int z0), (5, .int z1)] [] σ) : ∀ (n : Nat) (y6 : Int32) (σ : Sg), f_X5_refuse_L99 k56 y1 y2 y3 y4 y5 n y6 σ = some (r, σ') → GW E fr 7 99 [(0, .ref (eA E 49)), (1, .int y1), (2, .int y2), (3, .int y3), (4, .int y4), (5, .int y5), (6, .int y6)] [] σ := by
  intro n
  induction n with
  | zero => intro y6 σ h; cases (show (none : Option (Int32 × Sg)) = _ from h)
  | succ n ih =>
    intro y6 σ h
    rw [f_X5_refuse_L99] at h
    refine gw_iload (pc' := 101) cx 6 rfl dX5_refuse_99 rfl ?_
    refine gw_iload_n (pc' := 102) cx 3 rfl rfl dX5_refuse_101 rfl ?_
    rcases ite_some h with ⟨c32, h⟩ | ⟨c32, h⟩
    · refine gw_ic_ge_t (pc' := 117) cx c32 dX5_refuse_102 (by decide) ?_
      refine gw_aload_n (pc' := 118) cx 0 rfl rfl dX5_refuse_117 rfl ?_
      refine gw_iload_n (pc' := 119) cx 1 rfl rfl dX5_refuse_118 rfl ?_
      refine gw_iconst (pc' := 120) (v := 3) cx ci_3 dX5_refuse_119 rfl ?_
      obtain ⟨r34, g33, h⟩ := ob0_some h
      refine gw_cV (pc' := 123) (av := [.int y1, .int 3]) (rest := []) cx (k_X5_its E g33) at49 (by decide) lk_X5_73 dX5_refuse_120 rfl (Nat.le_of_ble_eq_true rfl) rfl ?_
      show GW E fr _ 123 _ (.int r34 :: _) _
      refine gw_iload_n (pc' := 124) cx 2 rfl rfl dX5_refuse_123 rfl ?_
      rcases ite_some h with ⟨c35, h⟩ | ⟨c35, h⟩
      · refine gw_ic_gt_t (pc' := 132) cx c35 dX5_refuse_124 (by decide) ?_
        refine gw_iload (pc' := 134) cx 4 rfl dX5_refuse_132 rfl ?_
        refine gw_istore (pc' := 136) (lv' := [(4, .int y4), (0, .ref (eA E 49)), (1, .int y1), (2, .int y2), (3, .int y3), (5, .int y5), (6, .int y6)]) cx rfl (by decide) dX5_refuse_134 rfl ?_
        refine gw_aload_n (pc' := 137) cx 1 rfl rfl dX5_refuse_136 rfl ?_
        refine gw_getR (pc' := 140) cx at49 rfl fl_X5_19 dX5_refuse_137 rfl ?_
        refine gw_aload_n (pc' := 141) cx 1 rfl rfl dX5_refuse_140 rfl ?_
        refine gw_getR (pc' := 144) cx at49 rfl fl_X5_7 dX5_refuse_141 rfl ?_
        obtain ⟨s37, g36, h⟩ := ob1_some h
        refine gw_cS (pc' := 147) (av := [.ref (eA E 53), .ref (eA E 50)]) (rest := []) cx (k_X5_copyRow E at53 at50 g36) (by decide) lk_X5_139 dX5_refuse_144 rfl (Nat.le_of_ble_eq_true rfl) rfl ?_
        show GW E fr _ 147 _ [] _
        refine gw_iinc (pc' := 150) (v := (y5 + 1)) (lv' := [(5, .int (y5 + 1)), (4, .int y4), (0, .ref (eA E 49)), (1, .int y1), (2, .int y2), (3, .int y3), (6, .int y6)]) cx 5 rfl rfl rfl (by decide) dX5_refuse_147 rfl ?_
        refine gw_goto (pc' := 56) cx dX5_refuse_150 (by decide) ?_
        refine gw_sub [2, 3, 4, 5, 1, 0] (lv' := [(0, .ref (eA E 49)), (1, .int y1), (2, .int y2), (3, .int y3), (4, .int y4), (5, .int (y5 + 1))]) rfl ?_
        exact hk56 y4 (y5 + 1) s37 h
      · refine gw_ic_gt_f (pc' := 127) cx c35 dX5_refuse_124 ⟨132, by decide⟩ rfl ?_
        refine gw_iload (pc' := 129) cx 5 rfl dX5_refuse_127 rfl ?_
        refine gw_goto (pc' := 134) cx dX5_refuse_129 (by decide) ?_
        refine gw_istore (pc' := 136) (lv' := [(4, .int y5), (0, .ref (eA E 49)), (1, .int y1), (2, .int y2), (3, .int y3), (5, .int y5), (6, .int y6)]) cx rfl (by decide) dX5_refuse_134 rfl ?_
        refine gw_aload_n (pc' := 137) cx 1 rfl rfl dX5_refuse_136 rfl ?_
        refine gw_getR (pc' := 140) cx at49 rfl fl_X5_19 dX5_refuse_137 rfl ?_
        refine gw_aload_n (pc' := 141) cx 1 rfl rfl dX5_refuse_140 rfl ?_
        refine gw_getR (pc' := 144) cx at49 rfl fl_X5_7 dX5_refuse_141 rfl ?_
        obtain ⟨s39, g38, h⟩ := ob1_some h
        refine gw_cS (pc' := 147) (av := [.ref (eA E 53), .ref (eA E 50)]) (rest := []) cx (k_X5_copyRow E at53 at50 g38) (by decide) lk_X5_139 dX5_refuse_144 rfl (Nat.le_of_ble_eq_true rfl) rfl ?_
        show GW E fr _ 147 _ [] _
        refine gw_iinc (pc' := 150) (v := (y5 + 1)) (lv' := [(5, .int (y5 + 1)), (4, .int y5), (0, .ref (eA E 49)), (1, .int y1), (2, .int y2), (3, .int y3), (6, .int y6)]) cx 5 rfl rfl rfl (by decide) dX5_refuse_147 rfl ?_
        refine gw_goto (pc' := 56) cx dX5_refuse_150 (by decide) ?_
        refine gw_sub [2, 3, 4, 5, 1, 0] (lv' := [(0, .ref (eA E 49)), (1, .int y1), (2, .int y2), (3, .int y3), (4, .int y5), (5, .int (y5 + 1))]) rfl ?_
        exact hk56 y5 (y5 + 1) s39 h
    · refine gw_ic_ge_f (pc' := 105) cx c32 dX5_refuse_102 ⟨117, by decide⟩ rfl ?_
      refine gw_aload_n (pc' := 106) cx 0 rfl rfl dX5_refuse_105 rfl ?_
      refine gw_iload (pc' := 108) cx 5 rfl dX5_refuse_106 rfl ?_
      obtain ⟨s41, g40, h⟩ := ob1_some h
      refine gw_cV (pc' := 111) (av := [.int y5]) (rest := []) cx (k_X5_dayBut E g40) at49 (by decide) lk_X5_123 dX5_refuse_108 rfl (Nat.le_of_ble_eq_true rfl) rfl ?_
      show GW E fr _ 111 _ [] _
      refine gw_iinc (pc' := 114) (v := (y6 + 1)) (lv' := [(6, .int (y6 + 1)), (0, .ref (eA E 49)), (1, .int y1), (2, .int y2), (3, .int y3), (4, .int y4), (5, .int y5)]) cx 6 rfl rfl rfl (by decide) dX5_refuse_111 rfl ?_
      refine gw_goto (pc' := 99) cx dX5_refuse_114 (by decide) ?_
      refine gw_sub [1, 2, 3, 4, 5, 6, 0] (lv' := [(0, .ref (eA E 49)), (1, .int y1), (2, .int y2), (3, .int y3), (4, .int y4), (5, .int y5), (6, .int (y6 + 1))]) rfl ?_
      exact ih (y6 + 1) s41 h
def f_X5_refuse_L56 (y1 : Int32) (y2 : Int32) (y3 : Int32) : Nat → Int32 → Int32 → Sg → Option (Int32 × Sg)
  | 0, _, _, _ => none
  | n + 1, y4, y5, σ =>
    if (jshl 1 (σ 50 0)) ≤ y5 then
      ob2 (f_X5_orNone y4 σ) fun r23 s24 =>
      some (r23, s24)
    else
      if ((jshr y5 y1) &&& 1) = 0 then
        if y4 < 0 then
          f_X5_refuse_L99 (fun z0 z1 s => f_X5_refuse_L56 y1 y2 y3 n z0 z1 s) y1 y2 y3 y4 y5 FU 0 σ
        else
          ob0 (f_X5_many y5 σ) fun r28 =>
          ob0 (f_X5_many y4 σ) fun r30 =>
          if r30 ≤ r28 then
            f_X5_refuse_L56 y1 y2 y3 n y4 (y5 + 1) σ
          else
            f_X5_refuse_L99 (fun z0 z1 s => f_X5_refuse_L56 y1 y2 y3 n z0 z1 s) y1 y2 y3 y4 y5 FU 0 σ
      else
        f_X5_refuse_L56 y1 y2 y3 n y4 (y5 + 1) σ
theorem w_X5_refuse_L56 {E : Ev} {fr : Fr} {r : Int32} {σ' : Sg} (cx : Cx E mX5_refuse 6 fr) (tg : Tg E fr (some .int) (some (.int r)) σ') (y1 : Int32) (y2 : Int32) (y3 : Int32)  : ∀ (n : Nat) (y4 : Int32) (y5 : Int32) (σ : Sg), f_X5_refuse_L56 y1 y2 y3 n y4 y5 σ = some (r, σ') → GW E fr 7 56 [(0, .ref (eA E 49)), (1, .int y1), (2, .int y2), (3, .int y3), (4, .int y4), (5, .int y5)] [] σ := by
  intro n
  induction n with
  | zero => intro y4 y5 σ h; cases (show (none : Option (Int32 × Sg)) = _ from h)
  | succ n ih =>
    intro y4 y5 σ h
    rw [f_X5_refuse_L56] at h
    refine gw_iload (pc' := 58) cx 5 rfl dX5_refuse_56 rfl ?_
    refine gw_iconst (pc' := 59) (v := 1) cx ci_1 dX5_refuse_58 rfl ?_
    refine gw_aload_n (pc' := 60) cx 0 rfl rfl dX5_refuse_59 rfl ?_
    refine gw_getR (pc' := 63) cx at49 rfl fl_X5_7 dX5_refuse_60 rfl ?_
    refine gw_iconst (pc' := 64) (v := 0) cx ci_0 dX5_refuse_63 rfl ?_
    refine gw_iald (pc' := 65) cx at50 (vpc (by decide)) cn_0 dX5_refuse_64 rfl ?_
    refine gw_ishl (pc' := 66) cx dX5_refuse_65 rfl ?_
    rcases ite_some h with ⟨c21, h⟩ | ⟨c21, h⟩
    · refine gw_ic_ge_t (pc' := 153) cx c21 dX5_refuse_66 (by decide) ?_
      refine gw_aload_n (pc' := 154) cx 0 rfl rfl dX5_refuse_153 rfl ?_
      refine gw_iload (pc' := 156) cx 4 rfl dX5_refuse_154 rfl ?_
      obtain ⟨r23, s24, g22, h⟩ := ob2_some h
      refine gw_cV (pc' := 159) (av := [.int y4]) (rest := []) cx (k_X5_orNone E g22) at49 (by decide) lk_X5_111 dX5_refuse_156 rfl (Nat.le_of_ble_eq_true rfl) rfl ?_
      show GW E fr _ 159 _ (.int r23 :: _) _
      exact gw_iret cx tg (rt1 h) (rt2 h) dX5_refuse_159
    · refine gw_ic_ge_f (pc' := 69) cx c21 dX5_refuse_66 ⟨153, by decide⟩ rfl ?_
      refine gw_iload (pc' := 71) cx 5 rfl dX5_refuse_69 rfl ?_
      refine gw_iload_n (pc' := 72) cx 1 rfl rfl dX5_refuse_71 rfl ?_
      refine gw_ishr (pc' := 73) cx dX5_refuse_72 rfl ?_
      refine gw_iconst (pc' := 74) (v := 1) cx ci_1 dX5_refuse_73 rfl ?_
      refine gw_iand (pc' := 75) cx dX5_refuse_74 rfl ?_
      rcases ite_some h with ⟨c25, h⟩ | ⟨c25, h⟩
      · refine gw_if_ne_f (pc' := 78) cx c25 dX5_refuse_75 ⟨147, by decide⟩ rfl ?_
        refine gw_iload (pc' := 80) cx 4 rfl dX5_refuse_78 rfl ?_
        rcases ite_some h with ⟨c26, h⟩ | ⟨c26, h⟩
        · refine gw_if_lt_t (pc' := 96) cx c26 dX5_refuse_80 (by decide) ?_
          refine gw_iconst (pc' := 97) (v := 0) cx ci_0 dX5_refuse_96 rfl ?_
          refine gw_istore (pc' := 99) (lv' := [(6, .int 0), (0, .ref (eA E 49)), (1, .int y1), (2, .int y2), (3, .int y3), (4, .int y4), (5, .int y5)]) cx rfl (by decide) dX5_refuse_97 rfl ?_
          refine gw_sub [1, 2, 3, 4, 5, 6, 0] (lv' := [(0, .ref (eA E 49)), (1, .int y1), (2, .int y2), (3, .int y3), (4, .int y4), (5, .int y5), (6, .int 0)]) rfl ?_
          exact w_X5_refuse_L99 cx tg y1 y2 y3 y4 y5 (fun z0 z1 s => f_X5_refuse_L56 y1 y2 y3 n z0 z1 s) (fun z0 z1 s hh => ih z0 z1 s hh) FU 0 σ h
        · refine gw_if_lt_f (pc' := 83) cx c26 dX5_refuse_80 ⟨96, by decide⟩ rfl ?_
          refine gw_iload (pc' := 85) cx 5 rfl dX5_refuse_83 rfl ?_
          obtain ⟨r28, g27, h⟩ := ob0_some h
          refine gw_cS (pc' := 88) (av := [.int y5]) (rest := []) cx (k_X5_many E g27) (by decide) lk_X5_162 dX5_refuse_85 rfl (Nat.le_of_ble_eq_true rfl) rfl ?_
          show GW E fr _ 88 _ (.int r28 :: _) _
          refine gw_iload (pc' := 90) cx 4 rfl dX5_refuse_88 rfl ?_
          obtain ⟨r30, g29, h⟩ := ob0_some h
          refine gw_cS (pc' := 93) (av := [.int y4]) (rest := [.int r28]) cx (k_X5_many E g29) (by decide) lk_X5_162 dX5_refuse_90 rfl (Nat.le_of_ble_eq_true rfl) rfl ?_
          show GW E fr _ 93 _ (.int r30 :: _) _
          rcases ite_some h with ⟨c31, h⟩ | ⟨c31, h⟩
          · refine gw_ic_ge_t (pc' := 147) cx c31 dX5_refuse_93 (by decide) ?_
            refine gw_iinc (pc' := 150) (v := (y5 + 1)) (lv' := [(5, .int (y5 + 1)), (0, .ref (eA E 49)), (1, .int y1), (2, .int y2), (3, .int y3), (4, .int y4)]) cx 5 rfl rfl rfl (by decide) dX5_refuse_147 rfl ?_
            refine gw_goto (pc' := 56) cx dX5_refuse_150 (by decide) ?_
            refine gw_sub [1, 2, 3, 4, 5, 0] (lv' := [(0, .ref (eA E 49)), (1, .int y1), (2, .int y2), (3, .int y3), (4, .int y4), (5, .int (y5 + 1))]) rfl ?_
            exact ih y4 (y5 + 1) σ h
          · refine gw_ic_ge_f (pc' := 96) cx c31 dX5_refuse_93 ⟨147, by decide⟩ rfl ?_
            refine gw_iconst (pc' := 97) (v := 0) cx ci_0 dX5_refuse_96 rfl ?_
            refine gw_istore (pc' := 99) (lv' := [(6, .int 0), (0, .ref (eA E 49)), (1, .int y1), (2, .int y2), (3, .int y3), (4, .int y4), (5, .int y5)]) cx rfl (by decide) dX5_refuse_97 rfl ?_
            refine gw_sub [1, 2, 3, 4, 5, 6, 0] (lv' := [(0, .ref (eA E 49)), (1, .int y1), (2, .int y2), (3, .int y3), (4, .int y4), (5, .int y5), (6, .int 0)]) rfl ?_
            exact w_X5_refuse_L99 cx tg y1 y2 y3 y4 y5 (fun z0 z1 s => f_X5_refuse_L56 y1 y2 y3 n z0 z1 s) (fun z0 z1 s hh => ih z0 z1 s hh) FU 0 σ h
      · refine gw_if_ne_t (pc' := 147) cx c25 dX5_refuse_75 (by decide) ?_
        refine gw_iinc (pc' := 150) (v := (y5 + 1)) (lv' := [(5, .int (y5 + 1)), (0, .ref (eA E 49)), (1, .int y1), (2, .int y2), (3, .int y3), (4, .int y4)]) cx 5 rfl rfl rfl (by decide) dX5_refuse_147 rfl ?_
        refine gw_goto (pc' := 56) cx dX5_refuse_150 (by decide) ?_
        refine gw_sub [1, 2, 3, 4, 5, 0] (lv' := [(0, .ref (eA E 49)), (1, .int y1), (2, .int y2), (3, .int y3), (4, .int y4), (5, .int (y5 + 1))]) rfl ?_
        exact ih y4 (y5 + 1) σ h
def f_X5_refuse (x1 : Int32) (x2 : Int32) (x3 : Int32) (σ : Sg) : Option (Int32 × Sg) :=
  ob0 (f_X5_isOne x1 σ) fun r2 =>
  if r2 = 0 then
    ob2 (f_X5_finds (-1000001) σ) fun r5 s6 =>
    some (r5, s6)
  else
    ob0 (f_X5_isIn x2.toInt64 (0 : Int64) (9999 : Int64) σ) fun r8 =>
    if r8 = 0 then
      ob2 (f_X5_finds (-1000001) σ) fun r11 s12 =>
      some (r11, s12)
    else
      ob0 (f_X5_isIn x3.toInt64 (0 : Int64) (20 : Int64) σ) fun r14 =>
      if r14 = 0 then
        ob2 (f_X5_finds (-1000001) σ) fun r17 s18 =>
        some (r17, s18)
      else
        ob1 (f_X5_copyRow 50 53 σ) fun s20 =>
        f_X5_refuse_L56 x1 x2 x3 FU (-1) 0 s20
theorem k_X5_refuse (E : Ev) {x1 : Int32} {x2 : Int32} {x3 : Int32} {σ : Sg} {r : Int32} {σ' : Sg} (h : f_X5_refuse x1 x2 x3 σ = some (r, σ')) : Con E mX5_refuse 6 [.ref (eA E 49), .int x1, .int x2, .int x3] σ (some (.int r)) σ' := by
  refine con_of (by decide) (Nat.le_of_ble_eq_true rfl) (fun fr cx tg => ?_)
  show GW E fr 7 0 [(0, .ref (eA E 49)), (1, .int x1), (2, .int x2), (3, .int x3)] [] σ
  rw [f_X5_refuse] at h
  refine gw_aload_n (pc' := 1) cx 0 rfl rfl dX5_refuse_0 rfl ?_
  refine gw_iload_n (pc' := 2) cx 1 rfl rfl dX5_refuse_1 rfl ?_
  obtain ⟨r2, g1, h⟩ := ob0_some h
  refine gw_cV (pc' := 5) (av := [.int x1]) (rest := []) cx (k_X5_isOne E g1) at49 (by decide) lk_X5_85 dX5_refuse_2 rfl (Nat.le_of_ble_eq_true rfl) rfl ?_
  show GW E fr _ 5 _ (.int r2 :: _) _
  rcases ite_some h with ⟨c3, h⟩ | ⟨c3, h⟩
  · refine gw_if_eq_t (pc' := 32) cx c3 dX5_refuse_5 (by decide) ?_
    refine gw_aload_n (pc' := 33) cx 0 rfl rfl dX5_refuse_32 rfl ?_
    refine gw_ldc (pc' := 35) (v := (-1000001)) cx ct_X5_37 dX5_refuse_33 rfl ?_
    obtain ⟨r5, s6, g4, h⟩ := ob2_some h
    refine gw_cV (pc' := 38) (av := [.int (-1000001)]) (rest := []) cx (k_X5_finds E g4) at49 (by decide) lk_X5_39 dX5_refuse_35 rfl (Nat.le_of_ble_eq_true rfl) rfl ?_
    show GW E fr _ 38 _ (.int r5 :: _) _
    exact gw_iret cx tg (rt1 h) (rt2 h) dX5_refuse_38
  · refine gw_if_eq_f (pc' := 8) cx c3 dX5_refuse_5 ⟨32, by decide⟩ rfl ?_
    refine gw_iload_n (pc' := 9) cx 2 rfl rfl dX5_refuse_8 rfl ?_
    refine gw_i2l (pc' := 10) cx dX5_refuse_9 rfl ?_
    refine gw_lconst (pc' := 11) (v := 0) cx cl_0 dX5_refuse_10 rfl ?_
    refine gw_ldc2_w (pc' := 14) (v := 9999) cx ct_X5_148 dX5_refuse_11 rfl ?_
    obtain ⟨r8, g7, h⟩ := ob0_some h
    refine gw_cS (pc' := 17) (av := [.long x2.toInt64, .long (0 : Int64), .long (9999 : Int64)]) (rest := []) cx (k_X5_isIn E g7) (by decide) lk_X5_45 dX5_refuse_14 rfl (Nat.le_of_ble_eq_true rfl) rfl ?_
    show GW E fr _ 17 _ (.int r8 :: _) _
    rcases ite_some h with ⟨c9, h⟩ | ⟨c9, h⟩
    · refine gw_if_eq_t (pc' := 32) cx c9 dX5_refuse_17 (by decide) ?_
      refine gw_aload_n (pc' := 33) cx 0 rfl rfl dX5_refuse_32 rfl ?_
      refine gw_ldc (pc' := 35) (v := (-1000001)) cx ct_X5_37 dX5_refuse_33 rfl ?_
      obtain ⟨r11, s12, g10, h⟩ := ob2_some h
      refine gw_cV (pc' := 38) (av := [.int (-1000001)]) (rest := []) cx (k_X5_finds E g10) at49 (by decide) lk_X5_39 dX5_refuse_35 rfl (Nat.le_of_ble_eq_true rfl) rfl ?_
      show GW E fr _ 38 _ (.int r11 :: _) _
      exact gw_iret cx tg (rt1 h) (rt2 h) dX5_refuse_38
    · refine gw_if_eq_f (pc' := 20) cx c9 dX5_refuse_17 ⟨32, by decide⟩ rfl ?_
      refine gw_iload_n (pc' := 21) cx 3 rfl rfl dX5_refuse_20 rfl ?_
      refine gw_i2l (pc' := 22) cx dX5_refuse_21 rfl ?_
      refine gw_lconst (pc' := 23) (v := 0) cx cl_0 dX5_refuse_22 rfl ?_
      refine gw_ldc2_w (pc' := 26) (v := 20) cx ct_X5_55 dX5_refuse_23 rfl ?_
      obtain ⟨r14, g13, h⟩ := ob0_some h
      refine gw_cS (pc' := 29) (av := [.long x3.toInt64, .long (0 : Int64), .long (20 : Int64)]) (rest := []) cx (k_X5_isIn E g13) (by decide) lk_X5_45 dX5_refuse_26 rfl (Nat.le_of_ble_eq_true rfl) rfl ?_
      show GW E fr _ 29 _ (.int r14 :: _) _
      rcases ite_some h with ⟨c15, h⟩ | ⟨c15, h⟩
      · refine gw_if_ne_f (pc' := 32) cx c15 dX5_refuse_29 ⟨39, by decide⟩ rfl ?_
        refine gw_aload_n (pc' := 33) cx 0 rfl rfl dX5_refuse_32 rfl ?_
        refine gw_ldc (pc' := 35) (v := (-1000001)) cx ct_X5_37 dX5_refuse_33 rfl ?_
        obtain ⟨r17, s18, g16, h⟩ := ob2_some h
        refine gw_cV (pc' := 38) (av := [.int (-1000001)]) (rest := []) cx (k_X5_finds E g16) at49 (by decide) lk_X5_39 dX5_refuse_35 rfl (Nat.le_of_ble_eq_true rfl) rfl ?_
        show GW E fr _ 38 _ (.int r17 :: _) _
        exact gw_iret cx tg (rt1 h) (rt2 h) dX5_refuse_38
      · refine gw_if_ne_t (pc' := 39) cx c15 dX5_refuse_29 (by decide) ?_
        refine gw_iconst (pc' := 40) (v := (-1)) cx ci_m1 dX5_refuse_39 rfl ?_
        refine gw_istore (pc' := 42) (lv' := [(4, .int (-1)), (0, .ref (eA E 49)), (1, .int x1), (2, .int x2), (3, .int x3)]) cx rfl (by decide) dX5_refuse_40 rfl ?_
        refine gw_aload_n (pc' := 43) cx 1 rfl rfl dX5_refuse_42 rfl ?_
        refine gw_getR (pc' := 46) cx at49 rfl fl_X5_7 dX5_refuse_43 rfl ?_
        refine gw_aload_n (pc' := 47) cx 1 rfl rfl dX5_refuse_46 rfl ?_
        refine gw_getR (pc' := 50) cx at49 rfl fl_X5_19 dX5_refuse_47 rfl ?_
        obtain ⟨s20, g19, h⟩ := ob1_some h
        refine gw_cS (pc' := 53) (av := [.ref (eA E 50), .ref (eA E 53)]) (rest := []) cx (k_X5_copyRow E at50 at53 g19) (by decide) lk_X5_139 dX5_refuse_50 rfl (Nat.le_of_ble_eq_true rfl) rfl ?_
        show GW E fr _ 53 _ [] _
        refine gw_iconst (pc' := 54) (v := 0) cx ci_0 dX5_refuse_53 rfl ?_
        refine gw_istore (pc' := 56) (lv' := [(5, .int 0), (4, .int (-1)), (0, .ref (eA E 49)), (1, .int x1), (2, .int x2), (3, .int x3)]) cx rfl (by decide) dX5_refuse_54 rfl ?_
        refine gw_sub [2, 3, 4, 5, 1, 0] (lv' := [(0, .ref (eA E 49)), (1, .int x1), (2, .int x2), (3, .int x3), (4, .int (-1)), (5, .int 0)]) rfl ?_
        exact w_X5_refuse_L56 cx tg x1 x2 x3 FU (-1) 0 s20 h
def f_X5_swapFor_L43 (k26 : Int32 → Int32 → Int32 → Sg → Option (Int32 × Sg)) (y1 : Int32) (y4 : Int32) : Nat → Int32 → Int32 → Int32 → Sg → Option (Int32 × Sg)
  | 0, _, _, _, _ => none
  | n + 1, y2, y3, y5, σ =>
    if (σ 50 0) ≤ y5 then
      k26 y2 y3 (y4 + 1) σ
    else
      ob0 (f_X5_its y4 2 σ) fun r13 =>
      ob0 (f_X5_its y5 2 σ) fun r15 =>
      ob0 (f_X5_at y4 2 σ) fun r17 =>
      chk r17 60 <|
      lt (up2 σ 50 r17.toNatClampNeg r15) fun s19 =>
      ob0 (f_X5_at y5 2 s19) fun r22 =>
      chk r22 60 <|
      lt (up2 s19 50 r22.toNatClampNeg r13) fun s24 =>
      ob2 (f_X5_thenAt 3 y1 s24) fun r27 s28 =>
      ob0 (f_X5_at y4 2 s28) fun r30 =>
      chk r30 60 <|
      lt (up2 s28 50 r30.toNatClampNeg r13) fun s32 =>
      ob0 (f_X5_at y5 2 s32) fun r35 =>
      chk r35 60 <|
      lt (up2 s32 50 r35.toNatClampNeg r15) fun s37 =>
      if y2 < 0 then
        f_X5_swapFor_L43 k26 y1 y4 n ((8 * y4) + y5) r27 (y5 + 1) s37
      else
        if y3 ≤ r27 then
          f_X5_swapFor_L43 k26 y1 y4 n y2 y3 (y5 + 1) s37
        else
          f_X5_swapFor_L43 k26 y1 y4 n ((8 * y4) + y5) r27 (y5 + 1) s37
theorem w_X5_swapFor_L43 {E : Ev} {fr : Fr} {r : Int32} {σ' : Sg} (cx : Cx E mX5_swapFor 8 fr) (tg : Tg E fr (some .int) (some (.int r)) σ') (y1 : Int32) (y4 : Int32) (k26 : Int32 → Int32 → Int32 → Sg → Option (Int32 × Sg)) (hk26 : ∀ (z0 : Int32) (z1 : Int32) (z2 : Int32) (σ : Sg), k26 z0 z1 z2 σ = some (r, σ') → GW E fr 10 26 [(0, .ref (eA E 49)), (1, .int y1), (2, .int z0), (3, .int z1), (4, .int z2)] [] σ) : ∀ (n : Nat) (y2 : Int32) (y3 : Int32) (y5 : Int32) (σ : Sg), f_X5_swapFor_L43 k26 y1 y4 n y2 y3 y5 σ = some (r, σ') → GW E fr 10 43 [(0, .ref (eA E 49)), (1, .int y1), (2, .int y2), (3, .int y3), (4, .int y4), (5, .int y5)] [] σ := by
  intro n
  induction n with
  | zero => intro y2 y3 y5 σ h; cases (show (none : Option (Int32 × Sg)) = _ from h)
  | succ n ih =>
    intro y2 y3 y5 σ h
    rw [f_X5_swapFor_L43] at h
    refine gw_iload (pc' := 45) cx 5 rfl dX5_swapFor_43 rfl ?_
    refine gw_aload_n (pc' := 46) cx 0 rfl rfl dX5_swapFor_45 rfl ?_
    refine gw_getR (pc' := 49) cx at49 rfl fl_X5_7 dX5_swapFor_46 rfl ?_
    refine gw_iconst (pc' := 50) (v := 0) cx ci_0 dX5_swapFor_49 rfl ?_
    refine gw_iald (pc' := 51) cx at50 (vpc (by decide)) cn_0 dX5_swapFor_50 rfl ?_
    rcases ite_some h with ⟨c11, h⟩ | ⟨c11, h⟩
    · refine gw_ic_ge_t (pc' := 185) cx c11 dX5_swapFor_51 (by decide) ?_
      refine gw_iinc (pc' := 188) (v := (y4 + 1)) (lv' := [(4, .int (y4 + 1)), (0, .ref (eA E 49)), (1, .int y1), (2, .int y2), (3, .int y3), (5, .int y5)]) cx 4 rfl rfl rfl (by decide) dX5_swapFor_185 rfl ?_
      refine gw_goto (pc' := 26) cx dX5_swapFor_188 (by decide) ?_
      refine gw_sub [1, 2, 3, 4, 0] (lv' := [(0, .ref (eA E 49)), (1, .int y1), (2, .int y2), (3, .int y3), (4, .int (y4 + 1))]) rfl ?_
      exact hk26 y2 y3 (y4 + 1) σ h
    · refine gw_ic_ge_f (pc' := 54) cx c11 dX5_swapFor_51 ⟨185, by decide⟩ rfl ?_
      refine gw_aload_n (pc' := 55) cx 0 rfl rfl dX5_swapFor_54 rfl ?_
      refine gw_iload (pc' := 57) cx 4 rfl dX5_swapFor_55 rfl ?_
      refine gw_iconst (pc' := 58) (v := 2) cx ci_2 dX5_swapFor_57 rfl ?_
      obtain ⟨r13, g12, h⟩ := ob0_some h
      refine gw_cV (pc' := 61) (av := [.int y4, .int 2]) (rest := []) cx (k_X5_its E g12) at49 (by decide) lk_X5_73 dX5_swapFor_58 rfl (Nat.le_of_ble_eq_true rfl) rfl ?_
      show GW E fr _ 61 _ (.int r13 :: _) _
      refine gw_istore (pc' := 63) (lv' := [(6, .int r13), (0, .ref (eA E 49)), (1, .int y1), (2, .int y2), (3, .int y3), (4, .int y4), (5, .int y5)]) cx rfl (by decide) dX5_swapFor_61 rfl ?_
      refine gw_aload_n (pc' := 64) cx 1 rfl rfl dX5_swapFor_63 rfl ?_
      refine gw_iload (pc' := 66) cx 6 rfl dX5_swapFor_64 rfl ?_
      refine gw_iconst (pc' := 67) (v := 2) cx ci_2 dX5_swapFor_66 rfl ?_
      obtain ⟨r15, g14, h⟩ := ob0_some h
      refine gw_cV (pc' := 70) (av := [.int y5, .int 2]) (rest := []) cx (k_X5_its E g14) at49 (by decide) lk_X5_73 dX5_swapFor_67 rfl (Nat.le_of_ble_eq_true rfl) rfl ?_
      show GW E fr _ 70 _ (.int r15 :: _) _
      refine gw_istore (pc' := 72) (lv' := [(7, .int r15), (6, .int r13), (0, .ref (eA E 49)), (1, .int y1), (2, .int y2), (3, .int y3), (4, .int y4), (5, .int y5)]) cx rfl (by decide) dX5_swapFor_70 rfl ?_
      refine gw_aload_n (pc' := 73) cx 2 rfl rfl dX5_swapFor_72 rfl ?_
      refine gw_getR (pc' := 76) cx at49 rfl fl_X5_7 dX5_swapFor_73 rfl ?_
      refine gw_iload (pc' := 78) cx 6 rfl dX5_swapFor_76 rfl ?_
      refine gw_iconst (pc' := 79) (v := 2) cx ci_2 dX5_swapFor_78 rfl ?_
      obtain ⟨r17, g16, h⟩ := ob0_some h
      refine gw_cS (pc' := 82) (av := [.int y4, .int 2]) (rest := [.ref (eA E 50)]) cx (k_X5_at E g16) (by decide) lk_X5_61 dX5_swapFor_79 rfl (Nat.le_of_ble_eq_true rfl) rfl ?_
      show GW E fr _ 82 _ (.int r17 :: _) _
      refine gw_iload (pc' := 84) cx 0 rfl dX5_swapFor_82 rfl ?_
      obtain ⟨i18, h⟩ := chk_some h
      obtain ⟨s19, e20, h⟩ := lt_some h
      refine gw_iast (pc' := 85) cx at50 i18 rfl dX5_swapFor_84 rfl e20 ?_
      refine gw_aload_n (pc' := 86) cx 2 rfl rfl dX5_swapFor_85 rfl ?_
      refine gw_getR (pc' := 89) cx at49 rfl fl_X5_7 dX5_swapFor_86 rfl ?_
      refine gw_iload (pc' := 91) cx 7 rfl dX5_swapFor_89 rfl ?_
      refine gw_iconst (pc' := 92) (v := 2) cx ci_2 dX5_swapFor_91 rfl ?_
      obtain ⟨r22, g21, h⟩ := ob0_some h
      refine gw_cS (pc' := 95) (av := [.int y5, .int 2]) (rest := [.ref (eA E 50)]) cx (k_X5_at E g21) (by decide) lk_X5_61 dX5_swapFor_92 rfl (Nat.le_of_ble_eq_true rfl) rfl ?_
      show GW E fr _ 95 _ (.int r22 :: _) _
      refine gw_iload (pc' := 97) cx 1 rfl dX5_swapFor_95 rfl ?_
      obtain ⟨i23, h⟩ := chk_some h
      obtain ⟨s24, e25, h⟩ := lt_some h
      refine gw_iast (pc' := 98) cx at50 i23 rfl dX5_swapFor_97 rfl e25 ?_
      refine gw_aload_n (pc' := 99) cx 2 rfl rfl dX5_swapFor_98 rfl ?_
      refine gw_iconst (pc' := 100) (v := 3) cx ci_3 dX5_swapFor_99 rfl ?_
      refine gw_iload_n (pc' := 101) cx 3 rfl rfl dX5_swapFor_100 rfl ?_
      obtain ⟨r27, s28, g26, h⟩ := ob2_some h
      refine gw_cV (pc' := 104) (av := [.int 3, .int y1]) (rest := []) cx (k_X5_thenAt E g26) at49 (by decide) lk_X5_145 dX5_swapFor_101 rfl (Nat.le_of_ble_eq_true rfl) rfl ?_
      show GW E fr _ 104 _ (.int r27 :: _) _
      refine gw_istore (pc' := 106) (lv' := [(8, .int r27), (7, .int r15), (6, .int r13), (0, .ref (eA E 49)), (1, .int y1), (2, .int y2), (3, .int y3), (4, .int y4), (5, .int y5)]) cx rfl (by decide) dX5_swapFor_104 rfl ?_
      refine gw_aload_n (pc' := 107) cx 3 rfl rfl dX5_swapFor_106 rfl ?_
      refine gw_getR (pc' := 110) cx at49 rfl fl_X5_7 dX5_swapFor_107 rfl ?_
      refine gw_iload (pc' := 112) cx 7 rfl dX5_swapFor_110 rfl ?_
      refine gw_iconst (pc' := 113) (v := 2) cx ci_2 dX5_swapFor_112 rfl ?_
      obtain ⟨r30, g29, h⟩ := ob0_some h
      refine gw_cS (pc' := 116) (av := [.int y4, .int 2]) (rest := [.ref (eA E 50)]) cx (k_X5_at E g29) (by decide) lk_X5_61 dX5_swapFor_113 rfl (Nat.le_of_ble_eq_true rfl) rfl ?_
      show GW E fr _ 116 _ (.int r30 :: _) _
      refine gw_iload (pc' := 118) cx 2 rfl dX5_swapFor_116 rfl ?_
      obtain ⟨i31, h⟩ := chk_some h
      obtain ⟨s32, e33, h⟩ := lt_some h
      refine gw_iast (pc' := 119) cx at50 i31 rfl dX5_swapFor_118 rfl e33 ?_
      refine gw_aload_n (pc' := 120) cx 3 rfl rfl dX5_swapFor_119 rfl ?_
      refine gw_getR (pc' := 123) cx at49 rfl fl_X5_7 dX5_swapFor_120 rfl ?_
      refine gw_iload (pc' := 125) cx 8 rfl dX5_swapFor_123 rfl ?_
      refine gw_iconst (pc' := 126) (v := 2) cx ci_2 dX5_swapFor_125 rfl ?_
      obtain ⟨r35, g34, h⟩ := ob0_some h
      refine gw_cS (pc' := 129) (av := [.int y5, .int 2]) (rest := [.ref (eA E 50)]) cx (k_X5_at E g34) (by decide) lk_X5_61 dX5_swapFor_126 rfl (Nat.le_of_ble_eq_true rfl) rfl ?_
      show GW E fr _ 129 _ (.int r35 :: _) _
      refine gw_iload (pc' := 131) cx 1 rfl dX5_swapFor_129 rfl ?_
      obtain ⟨i36, h⟩ := chk_some h
      obtain ⟨s37, e38, h⟩ := lt_some h
      refine gw_iast (pc' := 132) cx at50 i36 rfl dX5_swapFor_131 rfl e38 ?_
      refine gw_iload_n (pc' := 133) cx 5 rfl rfl dX5_swapFor_132 rfl ?_
      rcases ite_some h with ⟨c39, h⟩ | ⟨c39, h⟩
      · refine gw_if_lt_t (pc' := 142) cx c39 dX5_swapFor_133 (by decide) ?_
        refine gw_iconst (pc' := 143) (v := 1) cx ci_1 dX5_swapFor_142 rfl ?_
        refine gw_goto (pc' := 147) cx dX5_swapFor_143 (by decide) ?_
        refine gw_istore (pc' := 149) (lv' := [(9, .int 1), (8, .int r27), (7, .int r15), (6, .int r13), (0, .ref (eA E 49)), (1, .int y1), (2, .int y2), (3, .int y3), (4, .int y4), (5, .int y5)]) cx rfl (by decide) dX5_swapFor_147 rfl ?_
        refine gw_iload (pc' := 151) cx 0 rfl dX5_swapFor_149 rfl ?_
        refine gw_if_eq_f (pc' := 154) cx (by decide) dX5_swapFor_151 ⟨165, by decide⟩ rfl ?_
        refine gw_bipush (pc' := 156) (v := 8) cx cb_8 dX5_swapFor_154 rfl ?_
        refine gw_iload (pc' := 158) cx 8 rfl dX5_swapFor_156 rfl ?_
        refine gw_imul (pc' := 159) cx dX5_swapFor_158 rfl ?_
        refine gw_iload (pc' := 161) cx 9 rfl dX5_swapFor_159 rfl ?_
        refine gw_iadd (pc' := 162) cx dX5_swapFor_161 rfl ?_
        refine gw_goto (pc' := 166) cx dX5_swapFor_162 (by decide) ?_
        refine gw_istore_n (pc' := 167) (lv' := [(2, .int ((8 * y4) + y5)), (9, .int 1), (8, .int r27), (7, .int r15), (6, .int r13), (0, .ref (eA E 49)), (1, .int y1), (3, .int y3), (4, .int y4), (5, .int y5)]) cx rfl rfl (by decide) dX5_swapFor_166 rfl ?_
        refine gw_iload (pc' := 169) cx 1 rfl dX5_swapFor_167 rfl ?_
        refine gw_if_eq_f (pc' := 172) cx (by decide) dX5_swapFor_169 ⟨177, by decide⟩ rfl ?_
        refine gw_iload (pc' := 174) cx 2 rfl dX5_swapFor_172 rfl ?_
        refine gw_goto (pc' := 178) cx dX5_swapFor_174 (by decide) ?_
        refine gw_istore_n (pc' := 179) (lv' := [(3, .int r27), (2, .int ((8 * y4) + y5)), (9, .int 1), (8, .int r27), (7, .int r15), (6, .int r13), (0, .ref (eA E 49)), (1, .int y1), (4, .int y4), (5, .int y5)]) cx rfl rfl (by decide) dX5_swapFor_178 rfl ?_
        refine gw_iinc (pc' := 182) (v := (y5 + 1)) (lv' := [(5, .int (y5 + 1)), (3, .int r27), (2, .int ((8 * y4) + y5)), (9, .int 1), (8, .int r27), (7, .int r15), (6, .int r13), (0, .ref (eA E 49)), (1, .int y1), (4, .int y4)]) cx 9 rfl rfl rfl (by decide) dX5_swapFor_179 rfl ?_
        refine gw_goto (pc' := 43) cx dX5_swapFor_182 (by decide) ?_
        refine gw_sub [7, 8, 2, 1, 9, 0] (lv' := [(0, .ref (eA E 49)), (1, .int y1), (2, .int ((8 * y4) + y5)), (3, .int r27), (4, .int y4), (5, .int (y5 + 1))]) rfl ?_
        exact ih ((8 * y4) + y5) r27 (y5 + 1) s37 h
      · refine gw_if_lt_f (pc' := 136) cx c39 dX5_swapFor_133 ⟨142, by decide⟩ rfl ?_
        refine gw_iload (pc' := 138) cx 0 rfl dX5_swapFor_136 rfl ?_
        refine gw_iload_n (pc' := 139) cx 6 rfl rfl dX5_swapFor_138 rfl ?_
        rcases ite_some h with ⟨c40, h⟩ | ⟨c40, h⟩
        · refine gw_ic_ge_t (pc' := 146) cx c40 dX5_swapFor_139 (by decide) ?_
          refine gw_iconst (pc' := 147) (v := 0) cx ci_0 dX5_swapFor_146 rfl ?_
          refine gw_istore (pc' := 149) (lv' := [(9, .int 0), (8, .int r27), (7, .int r15), (6, .int r13), (0, .ref (eA E 49)), (1, .int y1), (2, .int y2), (3, .int y3), (4, .int y4), (5, .int y5)]) cx rfl (by decide) dX5_swapFor_147 rfl ?_
          refine gw_iload (pc' := 151) cx 0 rfl dX5_swapFor_149 rfl ?_
          refine gw_if_eq_t (pc' := 165) cx (by decide) dX5_swapFor_151 (by decide) ?_
          refine gw_iload_n (pc' := 166) cx 6 rfl rfl dX5_swapFor_165 rfl ?_
          refine gw_istore_n (pc' := 167) (lv' := [(2, .int y2), (9, .int 0), (8, .int r27), (7, .int r15), (6, .int r13), (0, .ref (eA E 49)), (1, .int y1), (3, .int y3), (4, .int y4), (5, .int y5)]) cx rfl rfl (by decide) dX5_swapFor_166 rfl ?_
          refine gw_iload (pc' := 169) cx 1 rfl dX5_swapFor_167 rfl ?_
          refine gw_if_eq_t (pc' := 177) cx (by decide) dX5_swapFor_169 (by decide) ?_
          refine gw_iload_n (pc' := 178) cx 7 rfl rfl dX5_swapFor_177 rfl ?_
          refine gw_istore_n (pc' := 179) (lv' := [(3, .int y3), (2, .int y2), (9, .int 0), (8, .int r27), (7, .int r15), (6, .int r13), (0, .ref (eA E 49)), (1, .int y1), (4, .int y4), (5, .int y5)]) cx rfl rfl (by decide) dX5_swapFor_178 rfl ?_
          refine gw_iinc (pc' := 182) (v := (y5 + 1)) (lv' := [(5, .int (y5 + 1)), (3, .int y3), (2, .int y2), (9, .int 0), (8, .int r27), (7, .int r15), (6, .int r13), (0, .ref (eA E 49)), (1, .int y1), (4, .int y4)]) cx 9 rfl rfl rfl (by decide) dX5_swapFor_179 rfl ?_
          refine gw_goto (pc' := 43) cx dX5_swapFor_182 (by decide) ?_
          refine gw_sub [7, 8, 2, 1, 9, 0] (lv' := [(0, .ref (eA E 49)), (1, .int y1), (2, .int y2), (3, .int y3), (4, .int y4), (5, .int (y5 + 1))]) rfl ?_
          exact ih y2 y3 (y5 + 1) s37 h
        · refine gw_ic_ge_f (pc' := 142) cx c40 dX5_swapFor_139 ⟨146, by decide⟩ rfl ?_
          refine gw_iconst (pc' := 143) (v := 1) cx ci_1 dX5_swapFor_142 rfl ?_
          refine gw_goto (pc' := 147) cx dX5_swapFor_143 (by decide) ?_
          refine gw_istore (pc' := 149) (lv' := [(9, .int 1), (8, .int r27), (7, .int r15), (6, .int r13), (0, .ref (eA E 49)), (1, .int y1), (2, .int y2), (3, .int y3), (4, .int y4), (5, .int y5)]) cx rfl (by decide) dX5_swapFor_147 rfl ?_
          refine gw_iload (pc' := 151) cx 0 rfl dX5_swapFor_149 rfl ?_
          refine gw_if_eq_f (pc' := 154) cx (by decide) dX5_swapFor_151 ⟨165, by decide⟩ rfl ?_
          refine gw_bipush (pc' := 156) (v := 8) cx cb_8 dX5_swapFor_154 rfl ?_
          refine gw_iload (pc' := 158) cx 8 rfl dX5_swapFor_156 rfl ?_
          refine gw_imul (pc' := 159) cx dX5_swapFor_158 rfl ?_
          refine gw_iload (pc' := 161) cx 9 rfl dX5_swapFor_159 rfl ?_
          refine gw_iadd (pc' := 162) cx dX5_swapFor_161 rfl ?_
          refine gw_goto (pc' := 166) cx dX5_swapFor_162 (by decide) ?_
          refine gw_istore_n (pc' := 167) (lv' := [(2, .int ((8 * y4) + y5)), (9, .int 1), (8, .int r27), (7, .int r15), (6, .int r13), (0, .ref (eA E 49)), (1, .int y1), (3, .int y3), (4, .int y4), (5, .int y5)]) cx rfl rfl (by decide) dX5_swapFor_166 rfl ?_
          refine gw_iload (pc' := 169) cx 1 rfl dX5_swapFor_167 rfl ?_
          refine gw_if_eq_f (pc' := 172) cx (by decide) dX5_swapFor_169 ⟨177, by decide⟩ rfl ?_
          refine gw_iload (pc' := 174) cx 2 rfl dX5_swapFor_172 rfl ?_
          refine gw_goto (pc' := 178) cx dX5_swapFor_174 (by decide) ?_
          refine gw_istore_n (pc' := 179) (lv' := [(3, .int r27), (2, .int ((8 * y4) + y5)), (9, .int 1), (8, .int r27), (7, .int r15), (6, .int r13), (0, .ref (eA E 49)), (1, .int y1), (4, .int y4), (5, .int y5)]) cx rfl rfl (by decide) dX5_swapFor_178 rfl ?_
          refine gw_iinc (pc' := 182) (v := (y5 + 1)) (lv' := [(5, .int (y5 + 1)), (3, .int r27), (2, .int ((8 * y4) + y5)), (9, .int 1), (8, .int r27), (7, .int r15), (6, .int r13), (0, .ref (eA E 49)), (1, .int y1), (4, .int y4)]) cx 9 rfl rfl rfl (by decide) dX5_swapFor_179 rfl ?_
          refine gw_goto (pc' := 43) cx dX5_swapFor_182 (by decide) ?_
          refine gw_sub [7, 8, 2, 1, 9, 0] (lv' := [(0, .ref (eA E 49)), (1, .int y1), (2, .int ((8 * y4) + y5)), (3, .int r27), (4, .int y4), (5, .int (y5 + 1))]) rfl ?_
          exact ih ((8 * y4) + y5) r27 (y5 + 1) s37 h
def f_X5_swapFor_L26 (y1 : Int32) : Nat → Int32 → Int32 → Int32 → Sg → Option (Int32 × Sg)
  | 0, _, _, _, _ => none
  | n + 1, y2, y3, y4, σ =>
    if (σ 50 0) ≤ y4 then
      ob2 (f_X5_orNone y2 σ) fun r9 s10 =>
      some (r9, s10)
    else
      f_X5_swapFor_L43 (fun z0 z1 z2 s => f_X5_swapFor_L26 y1 n z0 z1 z2 s) y1 y4 FU y2 y3 (y4 + 1) σ
theorem w_X5_swapFor_L26 {E : Ev} {fr : Fr} {r : Int32} {σ' : Sg} (cx : Cx E mX5_swapFor 8 fr) (tg : Tg E fr (some .int) (some (.int r)) σ') (y1 : Int32)  : ∀ (n : Nat) (y2 : Int32) (y3 : Int32) (y4 : Int32) (σ : Sg), f_X5_swapFor_L26 y1 n y2 y3 y4 σ = some (r, σ') → GW E fr 10 26 [(0, .ref (eA E 49)), (1, .int y1), (2, .int y2), (3, .int y3), (4, .int y4)] [] σ := by
  intro n
  induction n with
  | zero => intro y2 y3 y4 σ h; cases (show (none : Option (Int32 × Sg)) = _ from h)
  | succ n ih =>
    intro y2 y3 y4 σ h
    rw [f_X5_swapFor_L26] at h
    refine gw_iload (pc' := 28) cx 4 rfl dX5_swapFor_26 rfl ?_
    refine gw_aload_n (pc' := 29) cx 0 rfl rfl dX5_swapFor_28 rfl ?_
    refine gw_getR (pc' := 32) cx at49 rfl fl_X5_7 dX5_swapFor_29 rfl ?_
    refine gw_iconst (pc' := 33) (v := 0) cx ci_0 dX5_swapFor_32 rfl ?_
    refine gw_iald (pc' := 34) cx at50 (vpc (by decide)) cn_0 dX5_swapFor_33 rfl ?_
    rcases ite_some h with ⟨c7, h⟩ | ⟨c7, h⟩
    · refine gw_ic_ge_t (pc' := 191) cx c7 dX5_swapFor_34 (by decide) ?_
      refine gw_aload_n (pc' := 192) cx 0 rfl rfl dX5_swapFor_191 rfl ?_
      refine gw_iload_n (pc' := 193) cx 2 rfl rfl dX5_swapFor_192 rfl ?_
      obtain ⟨r9, s10, g8, h⟩ := ob2_some h
      refine gw_cV (pc' := 196) (av := [.int y2]) (rest := []) cx (k_X5_orNone E g8) at49 (by decide) lk_X5_111 dX5_swapFor_193 rfl (Nat.le_of_ble_eq_true rfl) rfl ?_
      show GW E fr _ 196 _ (.int r9 :: _) _
      exact gw_iret cx tg (rt1 h) (rt2 h) dX5_swapFor_196
    · refine gw_ic_ge_f (pc' := 37) cx c7 dX5_swapFor_34 ⟨191, by decide⟩ rfl ?_
      refine gw_iload (pc' := 39) cx 4 rfl dX5_swapFor_37 rfl ?_
      refine gw_iconst (pc' := 40) (v := 1) cx ci_1 dX5_swapFor_39 rfl ?_
      refine gw_iadd (pc' := 41) cx dX5_swapFor_40 rfl ?_
      refine gw_istore (pc' := 43) (lv' := [(5, .int (y4 + 1)), (0, .ref (eA E 49)), (1, .int y1), (2, .int y2), (3, .int y3), (4, .int y4)]) cx rfl (by decide) dX5_swapFor_41 rfl ?_
      refine gw_sub [1, 2, 3, 4, 5, 0] (lv' := [(0, .ref (eA E 49)), (1, .int y1), (2, .int y2), (3, .int y3), (4, .int y4), (5, .int (y4 + 1))]) rfl ?_
      exact w_X5_swapFor_L43 cx tg y1 y4 (fun z0 z1 z2 s => f_X5_swapFor_L26 y1 n z0 z1 z2 s) (fun z0 z1 z2 s hh => ih z0 z1 z2 s hh) FU y2 y3 (y4 + 1) σ h
def f_X5_swapFor (x1 : Int32) (σ : Sg) : Option (Int32 × Sg) :=
  ob0 (f_X5_isIn x1.toInt64 (0 : Int64) (40 : Int64) σ) fun r2 =>
  if r2 = 0 then
    ob2 (f_X5_finds (-1000001) σ) fun r5 s6 =>
    some (r5, s6)
  else
    f_X5_swapFor_L26 x1 FU (-1) 0 0 σ
theorem k_X5_swapFor (E : Ev) {x1 : Int32} {σ : Sg} {r : Int32} {σ' : Sg} (h : f_X5_swapFor x1 σ = some (r, σ')) : Con E mX5_swapFor 8 [.ref (eA E 49), .int x1] σ (some (.int r)) σ' := by
  refine con_of (by decide) (Nat.le_of_ble_eq_true rfl) (fun fr cx tg => ?_)
  show GW E fr 10 0 [(0, .ref (eA E 49)), (1, .int x1)] [] σ
  rw [f_X5_swapFor] at h
  refine gw_iload_n (pc' := 1) cx 1 rfl rfl dX5_swapFor_0 rfl ?_
  refine gw_i2l (pc' := 2) cx dX5_swapFor_1 rfl ?_
  refine gw_lconst (pc' := 3) (v := 0) cx cl_0 dX5_swapFor_2 rfl ?_
  refine gw_ldc2_w (pc' := 6) (v := 40) cx ct_X5_150 dX5_swapFor_3 rfl ?_
  obtain ⟨r2, g1, h⟩ := ob0_some h
  refine gw_cS (pc' := 9) (av := [.long x1.toInt64, .long (0 : Int64), .long (40 : Int64)]) (rest := []) cx (k_X5_isIn E g1) (by decide) lk_X5_45 dX5_swapFor_6 rfl (Nat.le_of_ble_eq_true rfl) rfl ?_
  show GW E fr _ 9 _ (.int r2 :: _) _
  rcases ite_some h with ⟨c3, h⟩ | ⟨c3, h⟩
  · refine gw_if_ne_f (pc' := 12) cx c3 dX5_swapFor_9 ⟨19, by decide⟩ rfl ?_
    refine gw_aload_n (pc' := 13) cx 0 rfl rfl dX5_swapFor_12 rfl ?_
    refine gw_ldc (pc' := 15) (v := (-1000001)) cx ct_X5_37 dX5_swapFor_13 rfl ?_
    obtain ⟨r5, s6, g4, h⟩ := ob2_some h
    refine gw_cV (pc' := 18) (av := [.int (-1000001)]) (rest := []) cx (k_X5_finds E g4) at49 (by decide) lk_X5_39 dX5_swapFor_15 rfl (Nat.le_of_ble_eq_true rfl) rfl ?_
    show GW E fr _ 18 _ (.int r5 :: _) _
    exact gw_iret cx tg (rt1 h) (rt2 h) dX5_swapFor_18
  · refine gw_if_ne_t (pc' := 19) cx c3 dX5_swapFor_9 (by decide) ?_
    refine gw_iconst (pc' := 20) (v := (-1)) cx ci_m1 dX5_swapFor_19 rfl ?_
    refine gw_istore_n (pc' := 21) (lv' := [(2, .int (-1)), (0, .ref (eA E 49)), (1, .int x1)]) cx rfl rfl (by decide) dX5_swapFor_20 rfl ?_
    refine gw_iconst (pc' := 22) (v := 0) cx ci_0 dX5_swapFor_21 rfl ?_
    refine gw_istore_n (pc' := 23) (lv' := [(3, .int 0), (2, .int (-1)), (0, .ref (eA E 49)), (1, .int x1)]) cx rfl rfl (by decide) dX5_swapFor_22 rfl ?_
    refine gw_iconst (pc' := 24) (v := 0) cx ci_0 dX5_swapFor_23 rfl ?_
    refine gw_istore (pc' := 26) (lv' := [(4, .int 0), (3, .int 0), (2, .int (-1)), (0, .ref (eA E 49)), (1, .int x1)]) cx rfl (by decide) dX5_swapFor_24 rfl ?_
    refine gw_sub [3, 4, 2, 1, 0] (lv' := [(0, .ref (eA E 49)), (1, .int x1), (2, .int (-1)), (3, .int 0), (4, .int 0)]) rfl ?_
    exact w_X5_swapFor_L26 cx tg x1 FU (-1) 0 0 σ h
def f_X5_isTold_L16 (y1 : Int32) (y2 : Int32) : Nat → Int32 → Int32 → Sg → Option (Int32 × Sg)
  | 0, _, _, _ => none
  | n + 1, y3, y4, σ =>
    chk y1 4 <|
    if (σ 57 y1.toNatClampNeg) ≤ y4 then
      ob1 (f_X5_copyRow 53 50 σ) fun s6 =>
      chkb y3 <|
      some (y3, s6)
    else
      if y3 = 0 then
        ob1 (f_X5_copyRow 53 50 σ) fun s10 =>
        chkb y3 <|
        some (y3, s10)
      else
        chk ((40 * y1) + y4) 160 <|
        if (σ 58 ((40 * y1) + y4).toNatClampNeg) = (-1) then
          ob1 (f_X5_dayBut 0 σ) fun s15 =>
          f_X5_isTold_L16 y1 y2 n 1 (y4 + 1) s15
        else
          chk y2 60 <|
          if (σ 58 ((40 * y1) + y4).toNatClampNeg) = (σ 50 y2.toNatClampNeg) then
            ob1 (f_X5_dayBut 0 σ) fun s19 =>
            f_X5_isTold_L16 y1 y2 n 1 (y4 + 1) s19
          else
            ob1 (f_X5_dayBut 0 σ) fun s21 =>
            f_X5_isTold_L16 y1 y2 n 0 (y4 + 1) s21
theorem w_X5_isTold_L16 {E : Ev} {fr : Fr} {r : Int32} {σ' : Sg} (cx : Cx E mX5_isTold 6 fr) (tg : Tg E fr (some .boolean) (some (.int r)) σ') (y1 : Int32) (y2 : Int32)  : ∀ (n : Nat) (y3 : Int32) (y4 : Int32) (σ : Sg), f_X5_isTold_L16 y1 y2 n y3 y4 σ = some (r, σ') → GW E fr 6 16 [(0, .ref (eA E 49)), (1, .int y1), (2, .int y2), (3, .int y3), (4, .int y4)] [] σ := by
  intro n
  induction n with
  | zero => intro y3 y4 σ h; cases (show (none : Option (Int32 × Sg)) = _ from h)
  | succ n ih =>
    intro y3 y4 σ h
    rw [f_X5_isTold_L16] at h
    refine gw_iload (pc' := 18) cx 4 rfl dX5_isTold_16 rfl ?_
    refine gw_aload_n (pc' := 19) cx 0 rfl rfl dX5_isTold_18 rfl ?_
    refine gw_getR (pc' := 22) cx at49 rfl fl_X5_31 dX5_isTold_19 rfl ?_
    refine gw_iload_n (pc' := 23) cx 1 rfl rfl dX5_isTold_22 rfl ?_
    obtain ⟨i3, h⟩ := chk_some h
    refine gw_iald (pc' := 24) cx at57 i3 rfl dX5_isTold_23 rfl ?_
    rcases ite_some h with ⟨c4, h⟩ | ⟨c4, h⟩
    · refine gw_ic_ge_t (pc' := 79) cx c4 dX5_isTold_24 (by decide) ?_
      refine gw_aload_n (pc' := 80) cx 0 rfl rfl dX5_isTold_79 rfl ?_
      refine gw_getR (pc' := 83) cx at49 rfl fl_X5_19 dX5_isTold_80 rfl ?_
      refine gw_aload_n (pc' := 84) cx 0 rfl rfl dX5_isTold_83 rfl ?_
      refine gw_getR (pc' := 87) cx at49 rfl fl_X5_7 dX5_isTold_84 rfl ?_
      obtain ⟨s6, g5, h⟩ := ob1_some h
      refine gw_cS (pc' := 90) (av := [.ref (eA E 53), .ref (eA E 50)]) (rest := []) cx (k_X5_copyRow E at53 at50 g5) (by decide) lk_X5_139 dX5_isTold_87 rfl (Nat.le_of_ble_eq_true rfl) rfl ?_
      show GW E fr _ 90 _ [] _
      refine gw_iload_n (pc' := 91) cx 3 rfl rfl dX5_isTold_90 rfl ?_
      obtain ⟨z7, h⟩ := chkb_some h
      exact gw_zret cx tg z7 (rt1 h) (rt2 h) dX5_isTold_91
    · refine gw_ic_ge_f (pc' := 27) cx c4 dX5_isTold_24 ⟨79, by decide⟩ rfl ?_
      refine gw_iload_n (pc' := 28) cx 3 rfl rfl dX5_isTold_27 rfl ?_
      rcases ite_some h with ⟨c8, h⟩ | ⟨c8, h⟩
      · refine gw_if_eq_t (pc' := 79) cx c8 dX5_isTold_28 (by decide) ?_
        refine gw_aload_n (pc' := 80) cx 0 rfl rfl dX5_isTold_79 rfl ?_
        refine gw_getR (pc' := 83) cx at49 rfl fl_X5_19 dX5_isTold_80 rfl ?_
        refine gw_aload_n (pc' := 84) cx 0 rfl rfl dX5_isTold_83 rfl ?_
        refine gw_getR (pc' := 87) cx at49 rfl fl_X5_7 dX5_isTold_84 rfl ?_
        obtain ⟨s10, g9, h⟩ := ob1_some h
        refine gw_cS (pc' := 90) (av := [.ref (eA E 53), .ref (eA E 50)]) (rest := []) cx (k_X5_copyRow E at53 at50 g9) (by decide) lk_X5_139 dX5_isTold_87 rfl (Nat.le_of_ble_eq_true rfl) rfl ?_
        show GW E fr _ 90 _ [] _
        refine gw_iload_n (pc' := 91) cx 3 rfl rfl dX5_isTold_90 rfl ?_
        obtain ⟨z11, h⟩ := chkb_some h
        exact gw_zret cx tg z11 (rt1 h) (rt2 h) dX5_isTold_91
      · refine gw_if_eq_f (pc' := 31) cx c8 dX5_isTold_28 ⟨79, by decide⟩ rfl ?_
        refine gw_aload_n (pc' := 32) cx 0 rfl rfl dX5_isTold_31 rfl ?_
        refine gw_getR (pc' := 35) cx at49 rfl fl_X5_34 dX5_isTold_32 rfl ?_
        refine gw_bipush (pc' := 37) (v := 40) cx cb_40 dX5_isTold_35 rfl ?_
        refine gw_iload_n (pc' := 38) cx 1 rfl rfl dX5_isTold_37 rfl ?_
        refine gw_imul (pc' := 39) cx dX5_isTold_38 rfl ?_
        refine gw_iload (pc' := 41) cx 4 rfl dX5_isTold_39 rfl ?_
        refine gw_iadd (pc' := 42) cx dX5_isTold_41 rfl ?_
        obtain ⟨i12, h⟩ := chk_some h
        refine gw_iald (pc' := 43) cx at58 i12 rfl dX5_isTold_42 rfl ?_
        refine gw_istore (pc' := 45) (lv' := [(5, .int (σ 58 ((40 * y1) + y4).toNatClampNeg)), (0, .ref (eA E 49)), (1, .int y1), (2, .int y2), (3, .int y3), (4, .int y4)]) cx rfl (by decide) dX5_isTold_43 rfl ?_
        refine gw_iload (pc' := 47) cx 0 rfl dX5_isTold_45 rfl ?_
        refine gw_iconst (pc' := 48) (v := (-1)) cx ci_m1 dX5_isTold_47 rfl ?_
        rcases ite_some h with ⟨c13, h⟩ | ⟨c13, h⟩
        · refine gw_ic_eq_t (pc' := 62) cx c13 dX5_isTold_48 (by decide) ?_
          refine gw_iconst (pc' := 63) (v := 1) cx ci_1 dX5_isTold_62 rfl ?_
          refine gw_goto (pc' := 67) cx dX5_isTold_63 (by decide) ?_
          refine gw_istore_n (pc' := 68) (lv' := [(3, .int 1), (5, .int (σ 58 ((40 * y1) + y4).toNatClampNeg)), (0, .ref (eA E 49)), (1, .int y1), (2, .int y2), (4, .int y4)]) cx rfl rfl (by decide) dX5_isTold_67 rfl ?_
          refine gw_aload_n (pc' := 69) cx 2 rfl rfl dX5_isTold_68 rfl ?_
          refine gw_iconst (pc' := 70) (v := 0) cx ci_0 dX5_isTold_69 rfl ?_
          obtain ⟨s15, g14, h⟩ := ob1_some h
          refine gw_cV (pc' := 73) (av := [.int 0]) (rest := []) cx (k_X5_dayBut E g14) at49 (by decide) lk_X5_123 dX5_isTold_70 rfl (Nat.le_of_ble_eq_true rfl) rfl ?_
          show GW E fr _ 73 _ [] _
          refine gw_iinc (pc' := 76) (v := (y4 + 1)) (lv' := [(4, .int (y4 + 1)), (3, .int 1), (5, .int (σ 58 ((40 * y1) + y4).toNatClampNeg)), (0, .ref (eA E 49)), (1, .int y1), (2, .int y2)]) cx 5 rfl rfl rfl (by decide) dX5_isTold_73 rfl ?_
          refine gw_goto (pc' := 16) cx dX5_isTold_76 (by decide) ?_
          refine gw_sub [3, 4, 5, 1, 0] (lv' := [(0, .ref (eA E 49)), (1, .int y1), (2, .int y2), (3, .int 1), (4, .int (y4 + 1))]) rfl ?_
          exact ih 1 (y4 + 1) s15 h
        · refine gw_ic_eq_f (pc' := 51) cx c13 dX5_isTold_48 ⟨62, by decide⟩ rfl ?_
          refine gw_iload (pc' := 53) cx 0 rfl dX5_isTold_51 rfl ?_
          refine gw_aload_n (pc' := 54) cx 1 rfl rfl dX5_isTold_53 rfl ?_
          refine gw_getR (pc' := 57) cx at49 rfl fl_X5_7 dX5_isTold_54 rfl ?_
          refine gw_iload_n (pc' := 58) cx 3 rfl rfl dX5_isTold_57 rfl ?_
          obtain ⟨i16, h⟩ := chk_some h
          refine gw_iald (pc' := 59) cx at50 i16 rfl dX5_isTold_58 rfl ?_
          rcases ite_some h with ⟨c17, h⟩ | ⟨c17, h⟩
          · refine gw_ic_ne_f (pc' := 62) cx c17 dX5_isTold_59 ⟨66, by decide⟩ rfl ?_
            refine gw_iconst (pc' := 63) (v := 1) cx ci_1 dX5_isTold_62 rfl ?_
            refine gw_goto (pc' := 67) cx dX5_isTold_63 (by decide) ?_
            refine gw_istore_n (pc' := 68) (lv' := [(3, .int 1), (5, .int (σ 58 ((40 * y1) + y4).toNatClampNeg)), (0, .ref (eA E 49)), (1, .int y1), (2, .int y2), (4, .int y4)]) cx rfl rfl (by decide) dX5_isTold_67 rfl ?_
            refine gw_aload_n (pc' := 69) cx 2 rfl rfl dX5_isTold_68 rfl ?_
            refine gw_iconst (pc' := 70) (v := 0) cx ci_0 dX5_isTold_69 rfl ?_
            obtain ⟨s19, g18, h⟩ := ob1_some h
            refine gw_cV (pc' := 73) (av := [.int 0]) (rest := []) cx (k_X5_dayBut E g18) at49 (by decide) lk_X5_123 dX5_isTold_70 rfl (Nat.le_of_ble_eq_true rfl) rfl ?_
            show GW E fr _ 73 _ [] _
            refine gw_iinc (pc' := 76) (v := (y4 + 1)) (lv' := [(4, .int (y4 + 1)), (3, .int 1), (5, .int (σ 58 ((40 * y1) + y4).toNatClampNeg)), (0, .ref (eA E 49)), (1, .int y1), (2, .int y2)]) cx 5 rfl rfl rfl (by decide) dX5_isTold_73 rfl ?_
            refine gw_goto (pc' := 16) cx dX5_isTold_76 (by decide) ?_
            refine gw_sub [3, 4, 5, 1, 0] (lv' := [(0, .ref (eA E 49)), (1, .int y1), (2, .int y2), (3, .int 1), (4, .int (y4 + 1))]) rfl ?_
            exact ih 1 (y4 + 1) s19 h
          · refine gw_ic_ne_t (pc' := 66) cx c17 dX5_isTold_59 (by decide) ?_
            refine gw_iconst (pc' := 67) (v := 0) cx ci_0 dX5_isTold_66 rfl ?_
            refine gw_istore_n (pc' := 68) (lv' := [(3, .int 0), (5, .int (σ 58 ((40 * y1) + y4).toNatClampNeg)), (0, .ref (eA E 49)), (1, .int y1), (2, .int y2), (4, .int y4)]) cx rfl rfl (by decide) dX5_isTold_67 rfl ?_
            refine gw_aload_n (pc' := 69) cx 2 rfl rfl dX5_isTold_68 rfl ?_
            refine gw_iconst (pc' := 70) (v := 0) cx ci_0 dX5_isTold_69 rfl ?_
            obtain ⟨s21, g20, h⟩ := ob1_some h
            refine gw_cV (pc' := 73) (av := [.int 0]) (rest := []) cx (k_X5_dayBut E g20) at49 (by decide) lk_X5_123 dX5_isTold_70 rfl (Nat.le_of_ble_eq_true rfl) rfl ?_
            show GW E fr _ 73 _ [] _
            refine gw_iinc (pc' := 76) (v := (y4 + 1)) (lv' := [(4, .int (y4 + 1)), (3, .int 0), (5, .int (σ 58 ((40 * y1) + y4).toNatClampNeg)), (0, .ref (eA E 49)), (1, .int y1), (2, .int y2)]) cx 5 rfl rfl rfl (by decide) dX5_isTold_73 rfl ?_
            refine gw_goto (pc' := 16) cx dX5_isTold_76 (by decide) ?_
            refine gw_sub [3, 4, 5, 1, 0] (lv' := [(0, .ref (eA E 49)), (1, .int y1), (2, .int y2), (3, .int 0), (4, .int (y4 + 1))]) rfl ?_
            exact ih 0 (y4 + 1) s21 h
def f_X5_isTold (x1 : Int32) (x2 : Int32) (σ : Sg) : Option (Int32 × Sg) :=
  ob1 (f_X5_copyRow 50 53 σ) fun s2 =>
  f_X5_isTold_L16 x1 x2 FU 1 0 s2
theorem k_X5_isTold (E : Ev) {x1 : Int32} {x2 : Int32} {σ : Sg} {r : Int32} {σ' : Sg} (h : f_X5_isTold x1 x2 σ = some (r, σ')) : Con E mX5_isTold 6 [.ref (eA E 49), .int x1, .int x2] σ (some (.int r)) σ' := by
  refine con_of (by decide) (Nat.le_of_ble_eq_true rfl) (fun fr cx tg => ?_)
  show GW E fr 6 0 [(0, .ref (eA E 49)), (1, .int x1), (2, .int x2)] [] σ
  rw [f_X5_isTold] at h
  refine gw_aload_n (pc' := 1) cx 0 rfl rfl dX5_isTold_0 rfl ?_
  refine gw_getR (pc' := 4) cx at49 rfl fl_X5_7 dX5_isTold_1 rfl ?_
  refine gw_aload_n (pc' := 5) cx 0 rfl rfl dX5_isTold_4 rfl ?_
  refine gw_getR (pc' := 8) cx at49 rfl fl_X5_19 dX5_isTold_5 rfl ?_
  obtain ⟨s2, g1, h⟩ := ob1_some h
  refine gw_cS (pc' := 11) (av := [.ref (eA E 50), .ref (eA E 53)]) (rest := []) cx (k_X5_copyRow E at50 at53 g1) (by decide) lk_X5_139 dX5_isTold_8 rfl (Nat.le_of_ble_eq_true rfl) rfl ?_
  show GW E fr _ 11 _ [] _
  refine gw_iconst (pc' := 12) (v := 1) cx ci_1 dX5_isTold_11 rfl ?_
  refine gw_istore_n (pc' := 13) (lv' := [(3, .int 1), (0, .ref (eA E 49)), (1, .int x1), (2, .int x2)]) cx rfl rfl (by decide) dX5_isTold_12 rfl ?_
  refine gw_iconst (pc' := 14) (v := 0) cx ci_0 dX5_isTold_13 rfl ?_
  refine gw_istore (pc' := 16) (lv' := [(4, .int 0), (3, .int 1), (0, .ref (eA E 49)), (1, .int x1), (2, .int x2)]) cx rfl (by decide) dX5_isTold_14 rfl ?_
  refine gw_sub [2, 3, 4, 1, 0] (lv' := [(0, .ref (eA E 49)), (1, .int x1), (2, .int x2), (3, .int 1), (4, .int 0)]) rfl ?_
  exact w_X5_isTold_L16 cx tg x1 x2 FU 1 0 s2 h
def f_X5_findsFits_L22 (y1 : Int32) (y2 : Int32) (y3 : Int32) (y4 : Int32) : Nat → Int32 → Sg → Option (Sg)
  | 0, _, _ => none
  | n + 1, y5, σ =>
    if y5 < 0 then
      chk y3 60 <|
      lt (up2 σ 50 y3.toNatClampNeg y4) fun s8 =>
      some s8
    else
      chk y3 60 <|
      lt (up2 σ 50 y3.toNatClampNeg (((y4 / 100) * 100) + y5)) fun s11 =>
      ob0 (f_X5_at y2 3 s11) fun r14 =>
      ob2 (f_X5_isTold y1 r14 s11) fun r16 s17 =>
      if r16 = 0 then
        f_X5_findsFits_L22 y1 y2 y3 y4 n (y5 + (-1)) s17
      else
        lt (up2 s17 49 11 ((s17 49 11) + 1)) fun s19 =>
        lt (up2 s19 49 12 y5) fun s21 =>
        f_X5_findsFits_L22 y1 y2 y3 y4 n (y5 + (-1)) s21
theorem w_X5_findsFits_L22 {E : Ev} {fr : Fr} {σ' : Sg} (cx : Cx E mX5_findsFits 7 fr) (tg : Tg E fr none none σ') (y1 : Int32) (y2 : Int32) (y3 : Int32) (y4 : Int32)  : ∀ (n : Nat) (y5 : Int32) (σ : Sg), f_X5_findsFits_L22 y1 y2 y3 y4 n y5 σ = some σ' → GW E fr 6 22 [(0, .ref (eA E 49)), (1, .int y1), (2, .int y2), (3, .int y3), (4, .int y4), (5, .int y5)] [] σ := by
  intro n
  induction n with
  | zero => intro y5 σ h; cases (show (none : Option (Sg)) = _ from h)
  | succ n ih =>
    intro y5 σ h
    rw [f_X5_findsFits_L22] at h
    refine gw_iload (pc' := 24) cx 5 rfl dX5_findsFits_22 rfl ?_
    rcases ite_some h with ⟨c6, h⟩ | ⟨c6, h⟩
    · refine gw_if_lt_t (pc' := 79) cx c6 dX5_findsFits_24 (by decide) ?_
      refine gw_aload_n (pc' := 80) cx 0 rfl rfl dX5_findsFits_79 rfl ?_
      refine gw_getR (pc' := 83) cx at49 rfl fl_X5_7 dX5_findsFits_80 rfl ?_
      refine gw_iload_n (pc' := 84) cx 3 rfl rfl dX5_findsFits_83 rfl ?_
      refine gw_iload (pc' := 86) cx 4 rfl dX5_findsFits_84 rfl ?_
      obtain ⟨i7, h⟩ := chk_some h
      obtain ⟨s8, e9, h⟩ := lt_some h
      refine gw_iast (pc' := 87) cx at50 i7 rfl dX5_findsFits_86 rfl e9 ?_
      exact gw_vret cx tg rfl (rtV h) dX5_findsFits_87
    · refine gw_if_lt_f (pc' := 27) cx c6 dX5_findsFits_24 ⟨79, by decide⟩ rfl ?_
      refine gw_aload_n (pc' := 28) cx 0 rfl rfl dX5_findsFits_27 rfl ?_
      refine gw_getR (pc' := 31) cx at49 rfl fl_X5_7 dX5_findsFits_28 rfl ?_
      refine gw_iload_n (pc' := 32) cx 3 rfl rfl dX5_findsFits_31 rfl ?_
      refine gw_iload (pc' := 34) cx 4 rfl dX5_findsFits_32 rfl ?_
      refine gw_bipush (pc' := 36) (v := 100) cx cb_100 dX5_findsFits_34 rfl ?_
      refine gw_idiv (pc' := 37) cx (by decide) dX5_findsFits_36 rfl ?_
      refine gw_bipush (pc' := 39) (v := 100) cx cb_100 dX5_findsFits_37 rfl ?_
      refine gw_imul (pc' := 40) cx dX5_findsFits_39 rfl ?_
      refine gw_iload (pc' := 42) cx 5 rfl dX5_findsFits_40 rfl ?_
      refine gw_iadd (pc' := 43) cx dX5_findsFits_42 rfl ?_
      obtain ⟨i10, h⟩ := chk_some h
      obtain ⟨s11, e12, h⟩ := lt_some h
      refine gw_iast (pc' := 44) cx at50 i10 rfl dX5_findsFits_43 rfl e12 ?_
      refine gw_aload_n (pc' := 45) cx 0 rfl rfl dX5_findsFits_44 rfl ?_
      refine gw_iload_n (pc' := 46) cx 1 rfl rfl dX5_findsFits_45 rfl ?_
      refine gw_iload_n (pc' := 47) cx 2 rfl rfl dX5_findsFits_46 rfl ?_
      refine gw_iconst (pc' := 48) (v := 3) cx ci_3 dX5_findsFits_47 rfl ?_
      obtain ⟨r14, g13, h⟩ := ob0_some h
      refine gw_cS (pc' := 51) (av := [.int y2, .int 3]) (rest := [.int y1, .ref (eA E 49)]) cx (k_X5_at E g13) (by decide) lk_X5_61 dX5_findsFits_48 rfl (Nat.le_of_ble_eq_true rfl) rfl ?_
      show GW E fr _ 51 _ (.int r14 :: _) _
      obtain ⟨r16, s17, g15, h⟩ := ob2_some h
      refine gw_cV (pc' := 54) (av := [.int y1, .int r14]) (rest := []) cx (k_X5_isTold E g15) at49 (by decide) lk_X5_169 dX5_findsFits_51 rfl (Nat.le_of_ble_eq_true rfl) rfl ?_
      show GW E fr _ 54 _ (.int r16 :: _) _
      rcases ite_some h with ⟨c18, h⟩ | ⟨c18, h⟩
      · refine gw_if_eq_t (pc' := 73) cx c18 dX5_findsFits_54 (by decide) ?_
        refine gw_iinc (pc' := 76) (v := (y5 + (-1))) (lv' := [(5, .int (y5 + (-1))), (0, .ref (eA E 49)), (1, .int y1), (2, .int y2), (3, .int y3), (4, .int y4)]) cx 5 rfl (congrArg (fun z => y5 + z) ci_m1) rfl (by decide) dX5_findsFits_73 rfl ?_
        refine gw_goto (pc' := 22) cx dX5_findsFits_76 (by decide) ?_
        refine gw_sub [1, 2, 3, 4, 5, 0] (lv' := [(0, .ref (eA E 49)), (1, .int y1), (2, .int y2), (3, .int y3), (4, .int y4), (5, .int (y5 + (-1)))]) rfl ?_
        exact ih (y5 + (-1)) s17 h
      · refine gw_if_eq_f (pc' := 57) cx c18 dX5_findsFits_54 ⟨73, by decide⟩ rfl ?_
        refine gw_aload_n (pc' := 58) cx 0 rfl rfl dX5_findsFits_57 rfl ?_
        refine gw_dup (pc' := 59) cx rfl dX5_findsFits_58 rfl ?_
        refine gw_getI (pc' := 62) cx at49 rfl fl_X5_165 dX5_findsFits_59 rfl ?_
        refine gw_iconst (pc' := 63) (v := 1) cx ci_1 dX5_findsFits_62 rfl ?_
        refine gw_iadd (pc' := 64) cx dX5_findsFits_63 rfl ?_
        obtain ⟨s19, e20, h⟩ := lt_some h
        refine gw_put (pc' := 67) cx at49 rfl fp_X5_165 ⟨rfl, rfl⟩ dX5_findsFits_64 rfl e20 ?_
        refine gw_aload_n (pc' := 68) cx 0 rfl rfl dX5_findsFits_67 rfl ?_
        refine gw_iload (pc' := 70) cx 5 rfl dX5_findsFits_68 rfl ?_
        obtain ⟨s21, e22, h⟩ := lt_some h
        refine gw_put (pc' := 73) cx at49 rfl fp_X5_172 ⟨rfl, rfl⟩ dX5_findsFits_70 rfl e22 ?_
        refine gw_iinc (pc' := 76) (v := (y5 + (-1))) (lv' := [(5, .int (y5 + (-1))), (0, .ref (eA E 49)), (1, .int y1), (2, .int y2), (3, .int y3), (4, .int y4)]) cx 5 rfl (congrArg (fun z => y5 + z) ci_m1) rfl (by decide) dX5_findsFits_73 rfl ?_
        refine gw_goto (pc' := 22) cx dX5_findsFits_76 (by decide) ?_
        refine gw_sub [1, 2, 3, 4, 5, 0] (lv' := [(0, .ref (eA E 49)), (1, .int y1), (2, .int y2), (3, .int y3), (4, .int y4), (5, .int (y5 + (-1)))]) rfl ?_
        exact ih (y5 + (-1)) s21 h
def f_X5_findsFits (x1 : Int32) (x2 : Int32) (σ : Sg) : Option (Sg) :=
  ob0 (f_X5_nextPlace σ) fun r2 =>
  chk r2 60 <|
  lt (up2 σ 49 11 0) fun s4 =>
  f_X5_findsFits_L22 x1 x2 r2 (σ 50 r2.toNatClampNeg) FU 20 s4
theorem k_X5_findsFits (E : Ev) {x1 : Int32} {x2 : Int32} {σ : Sg} {σ' : Sg} (h : f_X5_findsFits x1 x2 σ = some σ') : Con E mX5_findsFits 7 [.ref (eA E 49), .int x1, .int x2] σ none σ' := by
  refine con_of (by decide) (Nat.le_of_ble_eq_true rfl) (fun fr cx tg => ?_)
  show GW E fr 6 0 [(0, .ref (eA E 49)), (1, .int x1), (2, .int x2)] [] σ
  rw [f_X5_findsFits] at h
  refine gw_aload_n (pc' := 1) cx 0 rfl rfl dX5_findsFits_0 rfl ?_
  obtain ⟨r2, g1, h⟩ := ob0_some h
  refine gw_cV (pc' := 4) (av := []) (rest := []) cx (k_X5_nextPlace E g1) at49 (by decide) lk_X5_152 dX5_findsFits_1 rfl (Nat.le_of_ble_eq_true rfl) rfl ?_
  show GW E fr _ 4 _ (.int r2 :: _) _
  refine gw_istore_n (pc' := 5) (lv' := [(3, .int r2), (0, .ref (eA E 49)), (1, .int x1), (2, .int x2)]) cx rfl rfl (by decide) dX5_findsFits_4 rfl ?_
  refine gw_aload_n (pc' := 6) cx 1 rfl rfl dX5_findsFits_5 rfl ?_
  refine gw_getR (pc' := 9) cx at49 rfl fl_X5_7 dX5_findsFits_6 rfl ?_
  refine gw_iload_n (pc' := 10) cx 0 rfl rfl dX5_findsFits_9 rfl ?_
  obtain ⟨i3, h⟩ := chk_some h
  refine gw_iald (pc' := 11) cx at50 i3 rfl dX5_findsFits_10 rfl ?_
  refine gw_istore (pc' := 13) (lv' := [(4, .int (σ 50 r2.toNatClampNeg)), (3, .int r2), (0, .ref (eA E 49)), (1, .int x1), (2, .int x2)]) cx rfl (by decide) dX5_findsFits_11 rfl ?_
  refine gw_aload_n (pc' := 14) cx 2 rfl rfl dX5_findsFits_13 rfl ?_
  refine gw_iconst (pc' := 15) (v := 0) cx ci_0 dX5_findsFits_14 rfl ?_
  obtain ⟨s4, e5, h⟩ := lt_some h
  refine gw_put (pc' := 18) cx at49 rfl fp_X5_165 ⟨rfl, rfl⟩ dX5_findsFits_15 rfl e5 ?_
  refine gw_bipush (pc' := 20) (v := 20) cx cb_20 dX5_findsFits_18 rfl ?_
  refine gw_istore (pc' := 22) (lv' := [(5, .int 20), (4, .int (σ 50 r2.toNatClampNeg)), (3, .int r2), (0, .ref (eA E 49)), (1, .int x1), (2, .int x2)]) cx rfl (by decide) dX5_findsFits_20 rfl ?_
  refine gw_sub [3, 4, 5, 2, 1, 0] (lv' := [(0, .ref (eA E 49)), (1, .int x1), (2, .int x2), (3, .int r2), (4, .int (σ 50 r2.toNatClampNeg)), (5, .int 20)]) rfl ?_
  exact w_X5_findsFits_L22 cx tg x1 x2 r2 (σ 50 r2.toNatClampNeg) FU 20 s4 h
def f_X5_isSheet (x0 : Int32) (σ : Sg) : Option (Int32) :=
  if x0 < 0 then
    some 0
  else
    if 4 ≤ x0 then
      some 0
    else
      some 1
theorem k_X5_isSheet (E : Ev) {x0 : Int32} {σ : Sg} {r : Int32} (h : f_X5_isSheet x0 σ = some r) : Con E mX5_isSheet 0 [.int x0] σ (some (.int r)) σ := by
  refine con_of (by decide) (Nat.le_of_ble_eq_true rfl) (fun fr cx tg => ?_)
  show GW E fr 1 0 [(0, .int x0)] [] σ
  rw [f_X5_isSheet] at h
  refine gw_iload_n (pc' := 1) cx 0 rfl rfl dX5_isSheet_0 rfl ?_
  rcases ite_some h with ⟨c1, h⟩ | ⟨c1, h⟩
  · refine gw_if_lt_t (pc' := 13) cx c1 dX5_isSheet_1 (by decide) ?_
    refine gw_iconst (pc' := 14) (v := 0) cx ci_0 dX5_isSheet_13 rfl ?_
    exact gw_zret cx tg (Or.inl rfl) (rt0 h) rfl dX5_isSheet_14
  · refine gw_if_lt_f (pc' := 4) cx c1 dX5_isSheet_1 ⟨13, by decide⟩ rfl ?_
    refine gw_iload_n (pc' := 5) cx 0 rfl rfl dX5_isSheet_4 rfl ?_
    refine gw_iconst (pc' := 6) (v := 4) cx ci_4 dX5_isSheet_5 rfl ?_
    rcases ite_some h with ⟨c2, h⟩ | ⟨c2, h⟩
    · refine gw_ic_ge_t (pc' := 13) cx c2 dX5_isSheet_6 (by decide) ?_
      refine gw_iconst (pc' := 14) (v := 0) cx ci_0 dX5_isSheet_13 rfl ?_
      exact gw_zret cx tg (Or.inl rfl) (rt0 h) rfl dX5_isSheet_14
    · refine gw_ic_ge_f (pc' := 9) cx c2 dX5_isSheet_6 ⟨13, by decide⟩ rfl ?_
      refine gw_iconst (pc' := 10) (v := 1) cx ci_1 dX5_isSheet_9 rfl ?_
      refine gw_goto (pc' := 14) cx dX5_isSheet_10 (by decide) ?_
      exact gw_zret cx tg (Or.inr rfl) (rt0 h) rfl dX5_isSheet_14
def f_X5_wants (x1 : Int32) (σ : Sg) : Option (Int32) :=
  ob0 (f_X5_isSheet x1 σ) fun r2 =>
  if r2 = 0 then
    some (-1000001)
  else
    chk x1 4 <|
    if 0 ≤ (σ 56 x1.toNatClampNeg) then
      some 0
    else
      some (-1000006)
theorem k_X5_wants (E : Ev) {x1 : Int32} {σ : Sg} {r : Int32} (h : f_X5_wants x1 σ = some r) : Con E mX5_wants 1 [.ref (eA E 49), .int x1] σ (some (.int r)) σ := by
  refine con_of (by decide) (Nat.le_of_ble_eq_true rfl) (fun fr cx tg => ?_)
  show GW E fr 2 0 [(0, .ref (eA E 49)), (1, .int x1)] [] σ
  rw [f_X5_wants] at h
  refine gw_iload_n (pc' := 1) cx 1 rfl rfl dX5_wants_0 rfl ?_
  obtain ⟨r2, g1, h⟩ := ob0_some h
  refine gw_cS (pc' := 4) (av := [.int x1]) (rest := []) cx (k_X5_isSheet E g1) (by decide) lk_X5_270 dX5_wants_1 rfl (Nat.le_of_ble_eq_true rfl) rfl ?_
  show GW E fr _ 4 _ (.int r2 :: _) _
  rcases ite_some h with ⟨c3, h⟩ | ⟨c3, h⟩
  · refine gw_if_ne_f (pc' := 7) cx c3 dX5_wants_4 ⟨12, by decide⟩ rfl ?_
    refine gw_ldc (pc' := 9) (v := (-1000001)) cx ct_X5_37 dX5_wants_7 rfl ?_
    refine gw_goto (pc' := 28) cx dX5_wants_9 (by decide) ?_
    exact gw_iret cx tg (rt0 h) rfl dX5_wants_28
  · refine gw_if_ne_t (pc' := 12) cx c3 dX5_wants_4 (by decide) ?_
    refine gw_aload_n (pc' := 13) cx 0 rfl rfl dX5_wants_12 rfl ?_
    refine gw_getR (pc' := 16) cx at49 rfl fl_X5_28 dX5_wants_13 rfl ?_
    refine gw_iload_n (pc' := 17) cx 1 rfl rfl dX5_wants_16 rfl ?_
    obtain ⟨i4, h⟩ := chk_some h
    refine gw_iald (pc' := 18) cx at56 i4 rfl dX5_wants_17 rfl ?_
    rcases ite_some h with ⟨c5, h⟩ | ⟨c5, h⟩
    · refine gw_if_ge_t (pc' := 27) cx c5 dX5_wants_18 (by decide) ?_
      refine gw_iconst (pc' := 28) (v := 0) cx ci_0 dX5_wants_27 rfl ?_
      exact gw_iret cx tg (rt0 h) rfl dX5_wants_28
    · refine gw_if_ge_f (pc' := 21) cx c5 dX5_wants_18 ⟨27, by decide⟩ rfl ?_
      refine gw_ldc_w (pc' := 24) (v := (-1000006)) cx ct_X5_265 dX5_wants_21 rfl ?_
      refine gw_goto (pc' := 28) cx dX5_wants_24 (by decide) ?_
      exact gw_iret cx tg (rt0 h) rfl dX5_wants_28
def f_X5_wantsFor (x1 : Int32) (x2 : Int32) (σ : Sg) : Option (Int32) :=
  ob0 (f_X5_wants x1 σ) fun r2 =>
  if r2 = 0 then
    ob0 (f_X5_isOne x2 σ) fun r5 =>
    if r5 = 0 then
      some (-1000001)
    else
      some 0
  else
    ob0 (f_X5_wants x1 σ) fun r8 =>
    some r8
theorem k_X5_wantsFor (E : Ev) {x1 : Int32} {x2 : Int32} {σ : Sg} {r : Int32} (h : f_X5_wantsFor x1 x2 σ = some r) : Con E mX5_wantsFor 2 [.ref (eA E 49), .int x1, .int x2] σ (some (.int r)) σ := by
  refine con_of (by decide) (Nat.le_of_ble_eq_true rfl) (fun fr cx tg => ?_)
  show GW E fr 3 0 [(0, .ref (eA E 49)), (1, .int x1), (2, .int x2)] [] σ
  rw [f_X5_wantsFor] at h
  refine gw_aload_n (pc' := 1) cx 0 rfl rfl dX5_wantsFor_0 rfl ?_
  refine gw_iload_n (pc' := 2) cx 1 rfl rfl dX5_wantsFor_1 rfl ?_
  obtain ⟨r2, g1, h⟩ := ob0_some h
  refine gw_cV (pc' := 5) (av := [.int x1]) (rest := []) cx (k_X5_wants E g1) at49 (by decide) lk_X5_175 dX5_wantsFor_2 rfl (Nat.le_of_ble_eq_true rfl) rfl ?_
  show GW E fr _ 5 _ (.int r2 :: _) _
  rcases ite_some h with ⟨c3, h⟩ | ⟨c3, h⟩
  · refine gw_if_eq_t (pc' := 16) cx c3 dX5_wantsFor_5 (by decide) ?_
    refine gw_aload_n (pc' := 17) cx 0 rfl rfl dX5_wantsFor_16 rfl ?_
    refine gw_iload_n (pc' := 18) cx 2 rfl rfl dX5_wantsFor_17 rfl ?_
    obtain ⟨r5, g4, h⟩ := ob0_some h
    refine gw_cV (pc' := 21) (av := [.int x2]) (rest := []) cx (k_X5_isOne E g4) at49 (by decide) lk_X5_85 dX5_wantsFor_18 rfl (Nat.le_of_ble_eq_true rfl) rfl ?_
    show GW E fr _ 21 _ (.int r5 :: _) _
    rcases ite_some h with ⟨c6, h⟩ | ⟨c6, h⟩
    · refine gw_if_eq_t (pc' := 28) cx c6 dX5_wantsFor_21 (by decide) ?_
      refine gw_ldc (pc' := 30) (v := (-1000001)) cx ct_X5_37 dX5_wantsFor_28 rfl ?_
      exact gw_iret cx tg (rt0 h) rfl dX5_wantsFor_30
    · refine gw_if_eq_f (pc' := 24) cx c6 dX5_wantsFor_21 ⟨28, by decide⟩ rfl ?_
      refine gw_iconst (pc' := 25) (v := 0) cx ci_0 dX5_wantsFor_24 rfl ?_
      refine gw_goto (pc' := 30) cx dX5_wantsFor_25 (by decide) ?_
      exact gw_iret cx tg (rt0 h) rfl dX5_wantsFor_30
  · refine gw_if_eq_f (pc' := 8) cx c3 dX5_wantsFor_5 ⟨16, by decide⟩ rfl ?_
    refine gw_aload_n (pc' := 9) cx 0 rfl rfl dX5_wantsFor_8 rfl ?_
    refine gw_iload_n (pc' := 10) cx 1 rfl rfl dX5_wantsFor_9 rfl ?_
    obtain ⟨r8, g7, h⟩ := ob0_some h
    refine gw_cV (pc' := 13) (av := [.int x1]) (rest := []) cx (k_X5_wants E g7) at49 (by decide) lk_X5_175 dX5_wantsFor_10 rfl (Nat.le_of_ble_eq_true rfl) rfl ?_
    show GW E fr _ 13 _ (.int r8 :: _) _
    refine gw_goto (pc' := 30) cx dX5_wantsFor_13 (by decide) ?_
    exact gw_iret cx tg (rt0 h) rfl dX5_wantsFor_30
def f_X5_fits (x1 : Int32) (x2 : Int32) (σ : Sg) : Option (Int32 × Sg) :=
  ob0 (f_X5_wantsFor x1 x2 σ) fun r2 =>
  if r2 = 0 then
    ob1 (f_X5_findsFits x1 x2 σ) fun s5 =>
    some ((s5 49 11), s5)
  else
    ob2 (f_X5_finds r2 σ) fun r7 s8 =>
    some (r7, s8)
theorem k_X5_fits (E : Ev) {x1 : Int32} {x2 : Int32} {σ : Sg} {r : Int32} {σ' : Sg} (h : f_X5_fits x1 x2 σ = some (r, σ')) : Con E mX5_fits 8 [.ref (eA E 49), .int x1, .int x2] σ (some (.int r)) σ' := by
  refine con_of (by decide) (Nat.le_of_ble_eq_true rfl) (fun fr cx tg => ?_)
  show GW E fr 4 0 [(0, .ref (eA E 49)), (1, .int x1), (2, .int x2)] [] σ
  rw [f_X5_fits] at h
  refine gw_aload_n (pc' := 1) cx 0 rfl rfl dX5_fits_0 rfl ?_
  refine gw_iload_n (pc' := 2) cx 1 rfl rfl dX5_fits_1 rfl ?_
  refine gw_iload_n (pc' := 3) cx 2 rfl rfl dX5_fits_2 rfl ?_
  obtain ⟨r2, g1, h⟩ := ob0_some h
  refine gw_cV (pc' := 6) (av := [.int x1, .int x2]) (rest := []) cx (k_X5_wantsFor E g1) at49 (by decide) lk_X5_178 dX5_fits_3 rfl (Nat.le_of_ble_eq_true rfl) rfl ?_
  show GW E fr _ 6 _ (.int r2 :: _) _
  refine gw_istore_n (pc' := 7) (lv' := [(3, .int r2), (0, .ref (eA E 49)), (1, .int x1), (2, .int x2)]) cx rfl rfl (by decide) dX5_fits_6 rfl ?_
  refine gw_iload_n (pc' := 8) cx 0 rfl rfl dX5_fits_7 rfl ?_
  rcases ite_some h with ⟨c3, h⟩ | ⟨c3, h⟩
  · refine gw_if_eq_t (pc' := 17) cx c3 dX5_fits_8 (by decide) ?_
    refine gw_aload_n (pc' := 18) cx 1 rfl rfl dX5_fits_17 rfl ?_
    refine gw_iload_n (pc' := 19) cx 2 rfl rfl dX5_fits_18 rfl ?_
    refine gw_iload_n (pc' := 20) cx 3 rfl rfl dX5_fits_19 rfl ?_
    obtain ⟨s5, g4, h⟩ := ob1_some h
    refine gw_cV (pc' := 23) (av := [.int x1, .int x2]) (rest := []) cx (k_X5_findsFits E g4) at49 (by decide) lk_X5_181 dX5_fits_20 rfl (Nat.le_of_ble_eq_true rfl) rfl ?_
    show GW E fr _ 23 _ [] _
    refine gw_aload_n (pc' := 24) cx 1 rfl rfl dX5_fits_23 rfl ?_
    refine gw_getI (pc' := 27) cx at49 rfl fl_X5_165 dX5_fits_24 rfl ?_
    exact gw_iret cx tg (rt1 h) (rt2 h) dX5_fits_27
  · refine gw_if_eq_f (pc' := 11) cx c3 dX5_fits_8 ⟨17, by decide⟩ rfl ?_
    refine gw_aload_n (pc' := 12) cx 1 rfl rfl dX5_fits_11 rfl ?_
    refine gw_iload_n (pc' := 13) cx 0 rfl rfl dX5_fits_12 rfl ?_
    obtain ⟨r7, s8, g6, h⟩ := ob2_some h
    refine gw_cV (pc' := 16) (av := [.int r2]) (rest := []) cx (k_X5_finds E g6) at49 (by decide) lk_X5_39 dX5_fits_13 rfl (Nat.le_of_ble_eq_true rfl) rfl ?_
    show GW E fr _ 16 _ (.int r7 :: _) _
    exact gw_iret cx tg (rt1 h) (rt2 h) dX5_fits_16
def f_X5_weighed (x1 : Int32) (x2 : Int32) (σ : Sg) : Option (Int32 × Sg) :=
  ob0 (f_X5_wantsFor x1 x2 σ) fun r2 =>
  if r2 = 0 then
    ob1 (f_X5_findsFits x1 x2 σ) fun s5 =>
    if (s5 49 11) ≤ 0 then
      ob2 (f_X5_finds (-1000004) s5) fun r8 s9 =>
      some (r8, s9)
    else
      some ((s5 49 12), s5)
  else
    ob2 (f_X5_finds r2 σ) fun r11 s12 =>
    some (r11, s12)
theorem k_X5_weighed (E : Ev) {x1 : Int32} {x2 : Int32} {σ : Sg} {r : Int32} {σ' : Sg} (h : f_X5_weighed x1 x2 σ = some (r, σ')) : Con E mX5_weighed 8 [.ref (eA E 49), .int x1, .int x2] σ (some (.int r)) σ' := by
  refine con_of (by decide) (Nat.le_of_ble_eq_true rfl) (fun fr cx tg => ?_)
  show GW E fr 4 0 [(0, .ref (eA E 49)), (1, .int x1), (2, .int x2)] [] σ
  rw [f_X5_weighed] at h
  refine gw_aload_n (pc' := 1) cx 0 rfl rfl dX5_weighed_0 rfl ?_
  refine gw_iload_n (pc' := 2) cx 1 rfl rfl dX5_weighed_1 rfl ?_
  refine gw_iload_n (pc' := 3) cx 2 rfl rfl dX5_weighed_2 rfl ?_
  obtain ⟨r2, g1, h⟩ := ob0_some h
  refine gw_cV (pc' := 6) (av := [.int x1, .int x2]) (rest := []) cx (k_X5_wantsFor E g1) at49 (by decide) lk_X5_178 dX5_weighed_3 rfl (Nat.le_of_ble_eq_true rfl) rfl ?_
  show GW E fr _ 6 _ (.int r2 :: _) _
  refine gw_istore_n (pc' := 7) (lv' := [(3, .int r2), (0, .ref (eA E 49)), (1, .int x1), (2, .int x2)]) cx rfl rfl (by decide) dX5_weighed_6 rfl ?_
  refine gw_iload_n (pc' := 8) cx 0 rfl rfl dX5_weighed_7 rfl ?_
  rcases ite_some h with ⟨c3, h⟩ | ⟨c3, h⟩
  · refine gw_if_eq_t (pc' := 17) cx c3 dX5_weighed_8 (by decide) ?_
    refine gw_aload_n (pc' := 18) cx 1 rfl rfl dX5_weighed_17 rfl ?_
    refine gw_iload_n (pc' := 19) cx 2 rfl rfl dX5_weighed_18 rfl ?_
    refine gw_iload_n (pc' := 20) cx 3 rfl rfl dX5_weighed_19 rfl ?_
    obtain ⟨s5, g4, h⟩ := ob1_some h
    refine gw_cV (pc' := 23) (av := [.int x1, .int x2]) (rest := []) cx (k_X5_findsFits E g4) at49 (by decide) lk_X5_181 dX5_weighed_20 rfl (Nat.le_of_ble_eq_true rfl) rfl ?_
    show GW E fr _ 23 _ [] _
    refine gw_aload_n (pc' := 24) cx 1 rfl rfl dX5_weighed_23 rfl ?_
    refine gw_getI (pc' := 27) cx at49 rfl fl_X5_165 dX5_weighed_24 rfl ?_
    rcases ite_some h with ⟨c6, h⟩ | ⟨c6, h⟩
    · refine gw_if_le_t (pc' := 37) cx c6 dX5_weighed_27 (by decide) ?_
      refine gw_aload_n (pc' := 38) cx 1 rfl rfl dX5_weighed_37 rfl ?_
      refine gw_ldc (pc' := 40) (v := (-1000004)) cx ct_X5_38 dX5_weighed_38 rfl ?_
      obtain ⟨r8, s9, g7, h⟩ := ob2_some h
      refine gw_cV (pc' := 43) (av := [.int (-1000004)]) (rest := []) cx (k_X5_finds E g7) at49 (by decide) lk_X5_39 dX5_weighed_40 rfl (Nat.le_of_ble_eq_true rfl) rfl ?_
      show GW E fr _ 43 _ (.int r8 :: _) _
      exact gw_iret cx tg (rt1 h) (rt2 h) dX5_weighed_43
    · refine gw_if_le_f (pc' := 30) cx c6 dX5_weighed_27 ⟨37, by decide⟩ rfl ?_
      refine gw_aload_n (pc' := 31) cx 1 rfl rfl dX5_weighed_30 rfl ?_
      refine gw_getI (pc' := 34) cx at49 rfl fl_X5_172 dX5_weighed_31 rfl ?_
      refine gw_goto (pc' := 43) cx dX5_weighed_34 (by decide) ?_
      exact gw_iret cx tg (rt1 h) (rt2 h) dX5_weighed_43
  · refine gw_if_eq_f (pc' := 11) cx c3 dX5_weighed_8 ⟨17, by decide⟩ rfl ?_
    refine gw_aload_n (pc' := 12) cx 1 rfl rfl dX5_weighed_11 rfl ?_
    refine gw_iload_n (pc' := 13) cx 0 rfl rfl dX5_weighed_12 rfl ?_
    obtain ⟨r11, s12, g10, h⟩ := ob2_some h
    refine gw_cV (pc' := 16) (av := [.int r2]) (rest := []) cx (k_X5_finds E g10) at49 (by decide) lk_X5_39 dX5_weighed_13 rfl (Nat.le_of_ble_eq_true rfl) rfl ?_
    show GW E fr _ 16 _ (.int r11 :: _) _
    exact gw_iret cx tg (rt1 h) (rt2 h) dX5_weighed_16
def f_X5_kinds_L31 (y1 : Int32) (y2 : Int32) (y4 : Int32) : Nat → Int32 → Int32 → Sg → Option (Int32 × Sg)
  | 0, _, _, _ => none
  | n + 1, y5, y6, σ =>
    if 6 < y6 then
      ob0 (f_X5_at y2 0 σ) fun r11 =>
      chk r11 60 <|
      lt (up2 σ 50 r11.toNatClampNeg y4) fun s13 =>
      some (y5, s13)
    else
      ob0 (f_X5_at y2 0 σ) fun r16 =>
      chk r16 60 <|
      lt (up2 σ 50 r16.toNatClampNeg y6) fun s18 =>
      ob0 (f_X5_at y2 1 s18) fun r21 =>
      ob2 (f_X5_isTold y1 r21 s18) fun r23 s24 =>
      if r23 = 0 then
        f_X5_kinds_L31 y1 y2 y4 n (y5 ||| 0) (y6 + 1) s24
      else
        f_X5_kinds_L31 y1 y2 y4 n (y5 ||| (jshl 1 y6)) (y6 + 1) s24
theorem w_X5_kinds_L31 {E : Ev} {fr : Fr} {r : Int32} {σ' : Sg} (cx : Cx E mX5_kinds 7 fr) (tg : Tg E fr (some .int) (some (.int r)) σ') (y1 : Int32) (y2 : Int32) (y4 : Int32)  : ∀ (n : Nat) (y5 : Int32) (y6 : Int32) (σ : Sg), f_X5_kinds_L31 y1 y2 y4 n y5 y6 σ = some (r, σ') → GW E fr 7 31 [(0, .ref (eA E 49)), (1, .int y1), (2, .int y2), (4, .int y4), (5, .int y5), (6, .int y6)] [] σ := by
  intro n
  induction n with
  | zero => intro y5 y6 σ h; cases (show (none : Option (Int32 × Sg)) = _ from h)
  | succ n ih =>
    intro y5 y6 σ h
    rw [f_X5_kinds_L31] at h
    refine gw_iload (pc' := 33) cx 5 rfl dX5_kinds_31 rfl ?_
    refine gw_bipush (pc' := 35) (v := 6) cx cb_6 dX5_kinds_33 rfl ?_
    rcases ite_some h with ⟨c9, h⟩ | ⟨c9, h⟩
    · refine gw_ic_gt_t (pc' := 82) cx c9 dX5_kinds_35 (by decide) ?_
      refine gw_aload_n (pc' := 83) cx 0 rfl rfl dX5_kinds_82 rfl ?_
      refine gw_getR (pc' := 86) cx at49 rfl fl_X5_7 dX5_kinds_83 rfl ?_
      refine gw_iload_n (pc' := 87) cx 2 rfl rfl dX5_kinds_86 rfl ?_
      refine gw_iconst (pc' := 88) (v := 0) cx ci_0 dX5_kinds_87 rfl ?_
      obtain ⟨r11, g10, h⟩ := ob0_some h
      refine gw_cS (pc' := 91) (av := [.int y2, .int 0]) (rest := [.ref (eA E 50)]) cx (k_X5_at E g10) (by decide) lk_X5_61 dX5_kinds_88 rfl (Nat.le_of_ble_eq_true rfl) rfl ?_
      show GW E fr _ 91 _ (.int r11 :: _) _
      refine gw_iload (pc' := 93) cx 3 rfl dX5_kinds_91 rfl ?_
      obtain ⟨i12, h⟩ := chk_some h
      obtain ⟨s13, e14, h⟩ := lt_some h
      refine gw_iast (pc' := 94) cx at50 i12 rfl dX5_kinds_93 rfl e14 ?_
      refine gw_iload (pc' := 96) cx 4 rfl dX5_kinds_94 rfl ?_
      exact gw_iret cx tg (rt1 h) (rt2 h) dX5_kinds_96
    · refine gw_ic_gt_f (pc' := 38) cx c9 dX5_kinds_35 ⟨82, by decide⟩ rfl ?_
      refine gw_aload_n (pc' := 39) cx 0 rfl rfl dX5_kinds_38 rfl ?_
      refine gw_getR (pc' := 42) cx at49 rfl fl_X5_7 dX5_kinds_39 rfl ?_
      refine gw_iload_n (pc' := 43) cx 2 rfl rfl dX5_kinds_42 rfl ?_
      refine gw_iconst (pc' := 44) (v := 0) cx ci_0 dX5_kinds_43 rfl ?_
      obtain ⟨r16, g15, h⟩ := ob0_some h
      refine gw_cS (pc' := 47) (av := [.int y2, .int 0]) (rest := [.ref (eA E 50)]) cx (k_X5_at E g15) (by decide) lk_X5_61 dX5_kinds_44 rfl (Nat.le_of_ble_eq_true rfl) rfl ?_
      show GW E fr _ 47 _ (.int r16 :: _) _
      refine gw_iload (pc' := 49) cx 5 rfl dX5_kinds_47 rfl ?_
      obtain ⟨i17, h⟩ := chk_some h
      obtain ⟨s18, e19, h⟩ := lt_some h
      refine gw_iast (pc' := 50) cx at50 i17 rfl dX5_kinds_49 rfl e19 ?_
      refine gw_iload (pc' := 52) cx 4 rfl dX5_kinds_50 rfl ?_
      refine gw_aload_n (pc' := 53) cx 0 rfl rfl dX5_kinds_52 rfl ?_
      refine gw_iload_n (pc' := 54) cx 1 rfl rfl dX5_kinds_53 rfl ?_
      refine gw_iload_n (pc' := 55) cx 2 rfl rfl dX5_kinds_54 rfl ?_
      refine gw_iconst (pc' := 56) (v := 1) cx ci_1 dX5_kinds_55 rfl ?_
      obtain ⟨r21, g20, h⟩ := ob0_some h
      refine gw_cS (pc' := 59) (av := [.int y2, .int 1]) (rest := [.int y1, .ref (eA E 49), .int y5]) cx (k_X5_at E g20) (by decide) lk_X5_61 dX5_kinds_56 rfl (Nat.le_of_ble_eq_true rfl) rfl ?_
      show GW E fr _ 59 _ (.int r21 :: _) _
      obtain ⟨r23, s24, g22, h⟩ := ob2_some h
      refine gw_cV (pc' := 62) (av := [.int y1, .int r21]) (rest := [.int y5]) cx (k_X5_isTold E g22) at49 (by decide) lk_X5_169 dX5_kinds_59 rfl (Nat.le_of_ble_eq_true rfl) rfl ?_
      show GW E fr _ 62 _ (.int r23 :: _) _
      rcases ite_some h with ⟨c25, h⟩ | ⟨c25, h⟩
      · refine gw_if_eq_t (pc' := 72) cx c25 dX5_kinds_62 (by decide) ?_
        refine gw_iconst (pc' := 73) (v := 0) cx ci_0 dX5_kinds_72 rfl ?_
        refine gw_ior (pc' := 74) cx dX5_kinds_73 rfl ?_
        refine gw_istore (pc' := 76) (lv' := [(5, .int (y5 ||| 0)), (0, .ref (eA E 49)), (1, .int y1), (2, .int y2), (4, .int y4), (6, .int y6)]) cx rfl (by decide) dX5_kinds_74 rfl ?_
        refine gw_iinc (pc' := 79) (v := (y6 + 1)) (lv' := [(6, .int (y6 + 1)), (5, .int (y5 ||| 0)), (0, .ref (eA E 49)), (1, .int y1), (2, .int y2), (4, .int y4)]) cx 5 rfl rfl rfl (by decide) dX5_kinds_76 rfl ?_
        refine gw_goto (pc' := 31) cx dX5_kinds_79 (by decide) ?_
        refine gw_sub [2, 3, 4, 5, 1, 0] (lv' := [(0, .ref (eA E 49)), (1, .int y1), (2, .int y2), (4, .int y4), (5, .int (y5 ||| 0)), (6, .int (y6 + 1))]) rfl ?_
        exact ih (y5 ||| 0) (y6 + 1) s24 h
      · refine gw_if_eq_f (pc' := 65) cx c25 dX5_kinds_62 ⟨72, by decide⟩ rfl ?_
        refine gw_iconst (pc' := 66) (v := 1) cx ci_1 dX5_kinds_65 rfl ?_
        refine gw_iload (pc' := 68) cx 5 rfl dX5_kinds_66 rfl ?_
        refine gw_ishl (pc' := 69) cx dX5_kinds_68 rfl ?_
        refine gw_goto (pc' := 73) cx dX5_kinds_69 (by decide) ?_
        refine gw_ior (pc' := 74) cx dX5_kinds_73 rfl ?_
        refine gw_istore (pc' := 76) (lv' := [(5, .int (y5 ||| (jshl 1 y6))), (0, .ref (eA E 49)), (1, .int y1), (2, .int y2), (4, .int y4), (6, .int y6)]) cx rfl (by decide) dX5_kinds_74 rfl ?_
        refine gw_iinc (pc' := 79) (v := (y6 + 1)) (lv' := [(6, .int (y6 + 1)), (5, .int (y5 ||| (jshl 1 y6))), (0, .ref (eA E 49)), (1, .int y1), (2, .int y2), (4, .int y4)]) cx 5 rfl rfl rfl (by decide) dX5_kinds_76 rfl ?_
        refine gw_goto (pc' := 31) cx dX5_kinds_79 (by decide) ?_
        refine gw_sub [2, 3, 4, 5, 1, 0] (lv' := [(0, .ref (eA E 49)), (1, .int y1), (2, .int y2), (4, .int y4), (5, .int (y5 ||| (jshl 1 y6))), (6, .int (y6 + 1))]) rfl ?_
        exact ih (y5 ||| (jshl 1 y6)) (y6 + 1) s24 h
def f_X5_kinds (x1 : Int32) (x2 : Int32) (σ : Sg) : Option (Int32 × Sg) :=
  ob0 (f_X5_wantsFor x1 x2 σ) fun r2 =>
  if r2 = 0 then
    ob0 (f_X5_its x2 0 σ) fun r5 =>
    f_X5_kinds_L31 x1 x2 r5 FU 0 0 σ
  else
    ob2 (f_X5_finds r2 σ) fun r7 s8 =>
    some (r7, s8)
theorem k_X5_kinds (E : Ev) {x1 : Int32} {x2 : Int32} {σ : Sg} {r : Int32} {σ' : Sg} (h : f_X5_kinds x1 x2 σ = some (r, σ')) : Con E mX5_kinds 7 [.ref (eA E 49), .int x1, .int x2] σ (some (.int r)) σ' := by
  refine con_of (by decide) (Nat.le_of_ble_eq_true rfl) (fun fr cx tg => ?_)
  show GW E fr 7 0 [(0, .ref (eA E 49)), (1, .int x1), (2, .int x2)] [] σ
  rw [f_X5_kinds] at h
  refine gw_aload_n (pc' := 1) cx 0 rfl rfl dX5_kinds_0 rfl ?_
  refine gw_iload_n (pc' := 2) cx 1 rfl rfl dX5_kinds_1 rfl ?_
  refine gw_iload_n (pc' := 3) cx 2 rfl rfl dX5_kinds_2 rfl ?_
  obtain ⟨r2, g1, h⟩ := ob0_some h
  refine gw_cV (pc' := 6) (av := [.int x1, .int x2]) (rest := []) cx (k_X5_wantsFor E g1) at49 (by decide) lk_X5_178 dX5_kinds_3 rfl (Nat.le_of_ble_eq_true rfl) rfl ?_
  show GW E fr _ 6 _ (.int r2 :: _) _
  refine gw_istore_n (pc' := 7) (lv' := [(3, .int r2), (0, .ref (eA E 49)), (1, .int x1), (2, .int x2)]) cx rfl rfl (by decide) dX5_kinds_6 rfl ?_
  refine gw_iload_n (pc' := 8) cx 0 rfl rfl dX5_kinds_7 rfl ?_
  rcases ite_some h with ⟨c3, h⟩ | ⟨c3, h⟩
  · refine gw_if_eq_t (pc' := 17) cx c3 dX5_kinds_8 (by decide) ?_
    refine gw_aload_n (pc' := 18) cx 1 rfl rfl dX5_kinds_17 rfl ?_
    refine gw_iload_n (pc' := 19) cx 3 rfl rfl dX5_kinds_18 rfl ?_
    refine gw_iconst (pc' := 20) (v := 0) cx ci_0 dX5_kinds_19 rfl ?_
    obtain ⟨r5, g4, h⟩ := ob0_some h
    refine gw_cV (pc' := 23) (av := [.int x2, .int 0]) (rest := []) cx (k_X5_its E g4) at49 (by decide) lk_X5_73 dX5_kinds_20 rfl (Nat.le_of_ble_eq_true rfl) rfl ?_
    show GW E fr _ 23 _ (.int r5 :: _) _
    refine gw_istore (pc' := 25) (lv' := [(4, .int r5), (3, .int r2), (0, .ref (eA E 49)), (1, .int x1), (2, .int x2)]) cx rfl (by decide) dX5_kinds_23 rfl ?_
    refine gw_iconst (pc' := 26) (v := 0) cx ci_0 dX5_kinds_25 rfl ?_
    refine gw_istore (pc' := 28) (lv' := [(5, .int 0), (4, .int r5), (3, .int r2), (0, .ref (eA E 49)), (1, .int x1), (2, .int x2)]) cx rfl (by decide) dX5_kinds_26 rfl ?_
    refine gw_iconst (pc' := 29) (v := 0) cx ci_0 dX5_kinds_28 rfl ?_
    refine gw_istore (pc' := 31) (lv' := [(6, .int 0), (5, .int 0), (4, .int r5), (3, .int r2), (0, .ref (eA E 49)), (1, .int x1), (2, .int x2)]) cx rfl (by decide) dX5_kinds_29 rfl ?_
    refine gw_sub [4, 5, 6, 2, 1, 0] (lv' := [(0, .ref (eA E 49)), (1, .int x1), (2, .int x2), (4, .int r5), (5, .int 0), (6, .int 0)]) rfl ?_
    exact w_X5_kinds_L31 cx tg x1 x2 r5 FU 0 0 σ h
  · refine gw_if_eq_f (pc' := 11) cx c3 dX5_kinds_8 ⟨17, by decide⟩ rfl ?_
    refine gw_aload_n (pc' := 12) cx 1 rfl rfl dX5_kinds_11 rfl ?_
    refine gw_iload_n (pc' := 13) cx 0 rfl rfl dX5_kinds_12 rfl ?_
    obtain ⟨r7, s8, g6, h⟩ := ob2_some h
    refine gw_cV (pc' := 16) (av := [.int r2]) (rest := []) cx (k_X5_finds E g6) at49 (by decide) lk_X5_39 dX5_kinds_13 rfl (Nat.le_of_ble_eq_true rfl) rfl ?_
    show GW E fr _ 16 _ (.int r7 :: _) _
    exact gw_iret cx tg (rt1 h) (rt2 h) dX5_kinds_16
def f_X5_draw (σ : Sg) : Option (Int32 × Sg) :=
  lt (up2 σ 50 2 (((σ 50 2) * 1103515245) + 12345)) fun s1 =>
  some ((jushr (s1 50 2) 8), s1)
theorem k_X5_draw (E : Ev)  {σ : Sg} {r : Int32} {σ' : Sg} (h : f_X5_draw σ = some (r, σ')) : Con E mX5_draw 0 [.ref (eA E 49)] σ (some (.int r)) σ' := by
  refine con_of (by decide) (Nat.le_of_ble_eq_true rfl) (fun fr cx tg => ?_)
  show GW E fr 1 0 [(0, .ref (eA E 49))] [] σ
  rw [f_X5_draw] at h
  refine gw_aload_n (pc' := 1) cx 0 rfl rfl dX5_draw_0 rfl ?_
  refine gw_getR (pc' := 4) cx at49 rfl fl_X5_7 dX5_draw_1 rfl ?_
  refine gw_iconst (pc' := 5) (v := 2) cx ci_2 dX5_draw_4 rfl ?_
  refine gw_aload_n (pc' := 6) cx 0 rfl rfl dX5_draw_5 rfl ?_
  refine gw_getR (pc' := 9) cx at49 rfl fl_X5_7 dX5_draw_6 rfl ?_
  refine gw_iconst (pc' := 10) (v := 2) cx ci_2 dX5_draw_9 rfl ?_
  refine gw_iald (pc' := 11) cx at50 (vpc (by decide)) cn_2 dX5_draw_10 rfl ?_
  refine gw_ldc (pc' := 13) (v := 1103515245) cx ct_X5_184 dX5_draw_11 rfl ?_
  refine gw_imul (pc' := 14) cx dX5_draw_13 rfl ?_
  refine gw_sipush (pc' := 17) (v := 12345) cx cs_12345 dX5_draw_14 rfl ?_
  refine gw_iadd (pc' := 18) cx dX5_draw_17 rfl ?_
  obtain ⟨s1, e2, h⟩ := lt_some h
  refine gw_iast (pc' := 19) cx at50 (vpc (by decide)) cn_2 dX5_draw_18 rfl e2 ?_
  refine gw_aload_n (pc' := 20) cx 0 rfl rfl dX5_draw_19 rfl ?_
  refine gw_getR (pc' := 23) cx at49 rfl fl_X5_7 dX5_draw_20 rfl ?_
  refine gw_iconst (pc' := 24) (v := 2) cx ci_2 dX5_draw_23 rfl ?_
  refine gw_iald (pc' := 25) cx at50 (vpc (by decide)) cn_2 dX5_draw_24 rfl ?_
  refine gw_bipush (pc' := 27) (v := 8) cx cb_8 dX5_draw_25 rfl ?_
  refine gw_iushr (pc' := 28) cx dX5_draw_27 rfl ?_
  exact gw_iret cx tg (rt1 h) (rt2 h) dX5_draw_28
def f_X5_gossip_L41 (y1 : Int32) : Nat → Int32 → Sg → Option (Int32 × Sg)
  | 0, _, _ => none
  | n + 1, y2, σ =>
    if y1 ≤ y2 then
      ob0 (f_X5_sumOf 1 σ) fun r13 =>
      some (r13, σ)
    else
      ob2 (f_X5_draw σ) fun r15 s16 =>
      ob0 (f_X5_nextPlace s16) fun r18 =>
      ob2 (f_X5_draw s16) fun r20 s21 =>
      chk r18 60 <|
      lt (up2 s21 50 r18.toNatClampNeg ((100 * (jrem r15 8)) + (jrem r20 21))) fun s23 =>
      ob1 (f_X5_dayBut 0 s23) fun s26 =>
      f_X5_gossip_L41 y1 n (y2 + 1) s26
theorem w_X5_gossip_L41 {E : Ev} {fr : Fr} {r : Int32} {σ' : Sg} (cx : Cx E mX5_gossip 6 fr) (tg : Tg E fr (some .int) (some (.int r)) σ') (y1 : Int32)  : ∀ (n : Nat) (y2 : Int32) (σ : Sg), f_X5_gossip_L41 y1 n y2 σ = some (r, σ') → GW E fr 4 41 [(0, .ref (eA E 49)), (1, .int y1), (2, .int y2)] [] σ := by
  intro n
  induction n with
  | zero => intro y2 σ h; cases (show (none : Option (Int32 × Sg)) = _ from h)
  | succ n ih =>
    intro y2 σ h
    rw [f_X5_gossip_L41] at h
    refine gw_iload_n (pc' := 42) cx 2 rfl rfl dX5_gossip_41 rfl ?_
    refine gw_iload_n (pc' := 43) cx 1 rfl rfl dX5_gossip_42 rfl ?_
    rcases ite_some h with ⟨c11, h⟩ | ⟨c11, h⟩
    · refine gw_ic_ge_t (pc' := 86) cx c11 dX5_gossip_43 (by decide) ?_
      refine gw_aload_n (pc' := 87) cx 0 rfl rfl dX5_gossip_86 rfl ?_
      refine gw_iconst (pc' := 88) (v := 1) cx ci_1 dX5_gossip_87 rfl ?_
      obtain ⟨r13, g12, h⟩ := ob0_some h
      refine gw_cV (pc' := 91) (av := [.int 1]) (rest := []) cx (k_X5_sumOf E g12) at49 (by decide) lk_X5_132 dX5_gossip_88 rfl (Nat.le_of_ble_eq_true rfl) rfl ?_
      show GW E fr _ 91 _ (.int r13 :: _) _
      exact gw_iret cx tg (rt1 h) (rt2 h) dX5_gossip_91
    · refine gw_ic_ge_f (pc' := 46) cx c11 dX5_gossip_43 ⟨86, by decide⟩ rfl ?_
      refine gw_aload_n (pc' := 47) cx 0 rfl rfl dX5_gossip_46 rfl ?_
      obtain ⟨r15, s16, g14, h⟩ := ob2_some h
      refine gw_cV (pc' := 50) (av := []) (rest := []) cx (k_X5_draw E g14) at49 (by decide) lk_X5_185 dX5_gossip_47 rfl (Nat.le_of_ble_eq_true rfl) rfl ?_
      show GW E fr _ 50 _ (.int r15 :: _) _
      refine gw_bipush (pc' := 52) (v := 8) cx cb_8 dX5_gossip_50 rfl ?_
      refine gw_irem (pc' := 53) cx (by decide) dX5_gossip_52 rfl ?_
      refine gw_istore_n (pc' := 54) (lv' := [(3, .int (jrem r15 8)), (0, .ref (eA E 49)), (1, .int y1), (2, .int y2)]) cx rfl rfl (by decide) dX5_gossip_53 rfl ?_
      refine gw_aload_n (pc' := 55) cx 1 rfl rfl dX5_gossip_54 rfl ?_
      refine gw_getR (pc' := 58) cx at49 rfl fl_X5_7 dX5_gossip_55 rfl ?_
      refine gw_aload_n (pc' := 59) cx 1 rfl rfl dX5_gossip_58 rfl ?_
      obtain ⟨r18, g17, h⟩ := ob0_some h
      refine gw_cV (pc' := 62) (av := []) (rest := [.ref (eA E 50)]) cx (k_X5_nextPlace E g17) at49 (by decide) lk_X5_152 dX5_gossip_59 rfl (Nat.le_of_ble_eq_true rfl) rfl ?_
      show GW E fr _ 62 _ (.int r18 :: _) _
      refine gw_bipush (pc' := 64) (v := 100) cx cb_100 dX5_gossip_62 rfl ?_
      refine gw_iload_n (pc' := 65) cx 0 rfl rfl dX5_gossip_64 rfl ?_
      refine gw_imul (pc' := 66) cx dX5_gossip_65 rfl ?_
      refine gw_aload_n (pc' := 67) cx 1 rfl rfl dX5_gossip_66 rfl ?_
      obtain ⟨r20, s21, g19, h⟩ := ob2_some h
      refine gw_cV (pc' := 70) (av := []) (rest := [.int (100 * (jrem r15 8)), .int r18, .ref (eA E 50)]) cx (k_X5_draw E g19) at49 (by decide) lk_X5_185 dX5_gossip_67 rfl (Nat.le_of_ble_eq_true rfl) rfl ?_
      show GW E fr _ 70 _ (.int r20 :: _) _
      refine gw_bipush (pc' := 72) (v := 21) cx cb_21 dX5_gossip_70 rfl ?_
      refine gw_irem (pc' := 73) cx (by decide) dX5_gossip_72 rfl ?_
      refine gw_iadd (pc' := 74) cx dX5_gossip_73 rfl ?_
      obtain ⟨i22, h⟩ := chk_some h
      obtain ⟨s23, e24, h⟩ := lt_some h
      refine gw_iast (pc' := 75) cx at50 i22 rfl dX5_gossip_74 rfl e24 ?_
      refine gw_aload_n (pc' := 76) cx 1 rfl rfl dX5_gossip_75 rfl ?_
      refine gw_iconst (pc' := 77) (v := 0) cx ci_0 dX5_gossip_76 rfl ?_
      obtain ⟨s26, g25, h⟩ := ob1_some h
      refine gw_cV (pc' := 80) (av := [.int 0]) (rest := []) cx (k_X5_dayBut E g25) at49 (by decide) lk_X5_123 dX5_gossip_77 rfl (Nat.le_of_ble_eq_true rfl) rfl ?_
      show GW E fr _ 80 _ [] _
      refine gw_iinc (pc' := 83) (v := (y2 + 1)) (lv' := [(2, .int (y2 + 1)), (3, .int (jrem r15 8)), (0, .ref (eA E 49)), (1, .int y1)]) cx 3 rfl rfl rfl (by decide) dX5_gossip_80 rfl ?_
      refine gw_goto (pc' := 41) cx dX5_gossip_83 (by decide) ?_
      refine gw_sub [2, 3, 0] (lv' := [(0, .ref (eA E 49)), (1, .int y1), (2, .int (y2 + 1))]) rfl ?_
      exact ih (y2 + 1) s26 h
def f_X5_gossip (x1 : Int32) (σ : Sg) : Option (Int32 × Sg) :=
  ob0 (f_X5_isIn x1.toInt64 (1 : Int64) (20 : Int64) σ) fun r2 =>
  if r2 = 0 then
    ob2 (f_X5_finds (-1000001) σ) fun r5 s6 =>
    some (r5, s6)
  else
    if ((σ 50 1) + x1) ≤ 99999 then
      f_X5_gossip_L41 x1 FU 0 σ
    else
      ob2 (f_X5_finds (-1000005) σ) fun r9 s10 =>
      some (r9, s10)
theorem k_X5_gossip (E : Ev) {x1 : Int32} {σ : Sg} {r : Int32} {σ' : Sg} (h : f_X5_gossip x1 σ = some (r, σ')) : Con E mX5_gossip 6 [.ref (eA E 49), .int x1] σ (some (.int r)) σ' := by
  refine con_of (by decide) (Nat.le_of_ble_eq_true rfl) (fun fr cx tg => ?_)
  show GW E fr 4 0 [(0, .ref (eA E 49)), (1, .int x1)] [] σ
  rw [f_X5_gossip] at h
  refine gw_iload_n (pc' := 1) cx 1 rfl rfl dX5_gossip_0 rfl ?_
  refine gw_i2l (pc' := 2) cx dX5_gossip_1 rfl ?_
  refine gw_lconst (pc' := 3) (v := 1) cx cl_1 dX5_gossip_2 rfl ?_
  refine gw_ldc2_w (pc' := 6) (v := 20) cx ct_X5_55 dX5_gossip_3 rfl ?_
  obtain ⟨r2, g1, h⟩ := ob0_some h
  refine gw_cS (pc' := 9) (av := [.long x1.toInt64, .long (1 : Int64), .long (20 : Int64)]) (rest := []) cx (k_X5_isIn E g1) (by decide) lk_X5_45 dX5_gossip_6 rfl (Nat.le_of_ble_eq_true rfl) rfl ?_
  show GW E fr _ 9 _ (.int r2 :: _) _
  rcases ite_some h with ⟨c3, h⟩ | ⟨c3, h⟩
  · refine gw_if_ne_f (pc' := 12) cx c3 dX5_gossip_9 ⟨19, by decide⟩ rfl ?_
    refine gw_aload_n (pc' := 13) cx 0 rfl rfl dX5_gossip_12 rfl ?_
    refine gw_ldc (pc' := 15) (v := (-1000001)) cx ct_X5_37 dX5_gossip_13 rfl ?_
    obtain ⟨r5, s6, g4, h⟩ := ob2_some h
    refine gw_cV (pc' := 18) (av := [.int (-1000001)]) (rest := []) cx (k_X5_finds E g4) at49 (by decide) lk_X5_39 dX5_gossip_15 rfl (Nat.le_of_ble_eq_true rfl) rfl ?_
    show GW E fr _ 18 _ (.int r5 :: _) _
    exact gw_iret cx tg (rt1 h) (rt2 h) dX5_gossip_18
  · refine gw_if_ne_t (pc' := 19) cx c3 dX5_gossip_9 (by decide) ?_
    refine gw_aload_n (pc' := 20) cx 0 rfl rfl dX5_gossip_19 rfl ?_
    refine gw_getR (pc' := 23) cx at49 rfl fl_X5_7 dX5_gossip_20 rfl ?_
    refine gw_iconst (pc' := 24) (v := 1) cx ci_1 dX5_gossip_23 rfl ?_
    refine gw_iald (pc' := 25) cx at50 (vpc (by decide)) cn_1 dX5_gossip_24 rfl ?_
    refine gw_iload_n (pc' := 26) cx 1 rfl rfl dX5_gossip_25 rfl ?_
    refine gw_iadd (pc' := 27) cx dX5_gossip_26 rfl ?_
    refine gw_ldc (pc' := 29) (v := 99999) cx ct_X5_118 dX5_gossip_27 rfl ?_
    rcases ite_some h with ⟨c7, h⟩ | ⟨c7, h⟩
    · refine gw_ic_le_t (pc' := 39) cx c7 dX5_gossip_29 (by decide) ?_
      refine gw_iconst (pc' := 40) (v := 0) cx ci_0 dX5_gossip_39 rfl ?_
      refine gw_istore_n (pc' := 41) (lv' := [(2, .int 0), (0, .ref (eA E 49)), (1, .int x1)]) cx rfl rfl (by decide) dX5_gossip_40 rfl ?_
      refine gw_sub [1, 2, 0] (lv' := [(0, .ref (eA E 49)), (1, .int x1), (2, .int 0)]) rfl ?_
      exact w_X5_gossip_L41 cx tg x1 FU 0 σ h
    · refine gw_ic_le_f (pc' := 32) cx c7 dX5_gossip_29 ⟨39, by decide⟩ rfl ?_
      refine gw_aload_n (pc' := 33) cx 0 rfl rfl dX5_gossip_32 rfl ?_
      refine gw_ldc (pc' := 35) (v := (-1000005)) cx ct_X5_128 dX5_gossip_33 rfl ?_
      obtain ⟨r9, s10, g8, h⟩ := ob2_some h
      refine gw_cV (pc' := 38) (av := [.int (-1000005)]) (rest := []) cx (k_X5_finds E g8) at49 (by decide) lk_X5_39 dX5_gossip_35 rfl (Nat.le_of_ble_eq_true rfl) rfl ?_
      show GW E fr _ 38 _ (.int r9 :: _) _
      exact gw_iret cx tg (rt1 h) (rt2 h) dX5_gossip_38
def f_X5_odds_L120 (y2 : Int32) : Nat → Int64 → Int64 → Sg → Option (Int64 × Sg)
  | 0, _, _, _ => none
  | n + 1, y3, y5, σ =>
    if (lg_cmp (jlrem y3 (2 : Int64)) (0 : Int64)) = 0 then
      if (lg_cmp (jlrem y5 (2 : Int64)) (0 : Int64)) = 0 then
        f_X5_odds_L120 y2 n (y3 / (2 : Int64)) (y5 / (2 : Int64)) σ
      else
        if y2 = 0 then
          some (y3, σ)
        else
          some (y5, σ)
    else
      if y2 = 0 then
        some (y3, σ)
      else
        some (y5, σ)
theorem w_X5_odds_L120 {E : Ev} {fr : Fr} {r : Int64} {σ' : Sg} (cx : Cx E mX5_odds 2 fr) (tg : Tg E fr (some .long) (some (.long r)) σ') (y2 : Int32)  : ∀ (n : Nat) (y3 : Int64) (y5 : Int64) (σ : Sg), f_X5_odds_L120 y2 n y3 y5 σ = some (r, σ') → GW E fr 9 120 [(2, .int y2), (3, .long y3), (5, .long y5)] [] σ := by
  intro n
  induction n with
  | zero => intro y3 y5 σ h; cases (show (none : Option (Int64 × Sg)) = _ from h)
  | succ n ih =>
    intro y3 y5 σ h
    rw [f_X5_odds_L120] at h
    refine gw_lload_n (pc' := 121) cx 1 rfl rfl dX5_odds_120 rfl ?_
    refine gw_ldc2_w (pc' := 124) (v := 2) cx ct_X5_190 dX5_odds_121 rfl ?_
    refine gw_lrem (pc' := 125) cx (by decide) dX5_odds_124 rfl ?_
    refine gw_lconst (pc' := 126) (v := 0) cx cl_0 dX5_odds_125 rfl ?_
    refine gw_lcmp (pc' := 127) cx dX5_odds_126 rfl ?_
    rcases ite_some h with ⟨c19, h⟩ | ⟨c19, h⟩
    · refine gw_if_ne_f (pc' := 130) cx c19 dX5_odds_127 ⟨158, by decide⟩ rfl ?_
      refine gw_lload (pc' := 132) cx 2 rfl dX5_odds_130 rfl ?_
      refine gw_ldc2_w (pc' := 135) (v := 2) cx ct_X5_190 dX5_odds_132 rfl ?_
      refine gw_lrem (pc' := 136) cx (by decide) dX5_odds_135 rfl ?_
      refine gw_lconst (pc' := 137) (v := 0) cx cl_0 dX5_odds_136 rfl ?_
      refine gw_lcmp (pc' := 138) cx dX5_odds_137 rfl ?_
      rcases ite_some h with ⟨c20, h⟩ | ⟨c20, h⟩
      · refine gw_if_ne_f (pc' := 141) cx c20 dX5_odds_138 ⟨158, by decide⟩ rfl ?_
        refine gw_lload_n (pc' := 142) cx 1 rfl rfl dX5_odds_141 rfl ?_
        refine gw_ldc2_w (pc' := 145) (v := 2) cx ct_X5_190 dX5_odds_142 rfl ?_
        refine gw_ldiv (pc' := 146) cx (by decide) dX5_odds_145 rfl ?_
        refine gw_lstore_n (pc' := 147) (lv' := [(3, .long (y3 / (2 : Int64))), (2, .int y2), (5, .long y5)]) cx rfl rfl (by decide) dX5_odds_146 rfl ?_
        refine gw_lload (pc' := 149) cx 2 rfl dX5_odds_147 rfl ?_
        refine gw_ldc2_w (pc' := 152) (v := 2) cx ct_X5_190 dX5_odds_149 rfl ?_
        refine gw_ldiv (pc' := 153) cx (by decide) dX5_odds_152 rfl ?_
        refine gw_lstore (pc' := 155) (lv' := [(5, .long (y5 / (2 : Int64))), (3, .long (y3 / (2 : Int64))), (2, .int y2)]) cx rfl (by decide) dX5_odds_153 rfl ?_
        refine gw_goto (pc' := 120) cx dX5_odds_155 (by decide) ?_
        refine gw_sub [2, 1, 0] (lv' := [(2, .int y2), (3, .long (y3 / (2 : Int64))), (5, .long (y5 / (2 : Int64)))]) rfl ?_
        exact ih (y3 / (2 : Int64)) (y5 / (2 : Int64)) σ h
      · refine gw_if_ne_t (pc' := 158) cx c20 dX5_odds_138 (by decide) ?_
        refine gw_iload_n (pc' := 159) cx 0 rfl rfl dX5_odds_158 rfl ?_
        rcases ite_some h with ⟨c21, h⟩ | ⟨c21, h⟩
        · refine gw_if_ne_f (pc' := 162) cx c21 dX5_odds_159 ⟨166, by decide⟩ rfl ?_
          refine gw_lload_n (pc' := 163) cx 1 rfl rfl dX5_odds_162 rfl ?_
          refine gw_goto (pc' := 168) cx dX5_odds_163 (by decide) ?_
          exact gw_lret cx tg (rl1 h) (rl2 h) dX5_odds_168
        · refine gw_if_ne_t (pc' := 166) cx c21 dX5_odds_159 (by decide) ?_
          refine gw_lload (pc' := 168) cx 2 rfl dX5_odds_166 rfl ?_
          exact gw_lret cx tg (rl1 h) (rl2 h) dX5_odds_168
    · refine gw_if_ne_t (pc' := 158) cx c19 dX5_odds_127 (by decide) ?_
      refine gw_iload_n (pc' := 159) cx 0 rfl rfl dX5_odds_158 rfl ?_
      rcases ite_some h with ⟨c22, h⟩ | ⟨c22, h⟩
      · refine gw_if_ne_f (pc' := 162) cx c22 dX5_odds_159 ⟨166, by decide⟩ rfl ?_
        refine gw_lload_n (pc' := 163) cx 1 rfl rfl dX5_odds_162 rfl ?_
        refine gw_goto (pc' := 168) cx dX5_odds_163 (by decide) ?_
        exact gw_lret cx tg (rl1 h) (rl2 h) dX5_odds_168
      · refine gw_if_ne_t (pc' := 166) cx c22 dX5_odds_159 (by decide) ?_
        refine gw_lload (pc' := 168) cx 2 rfl dX5_odds_166 rfl ?_
        exact gw_lret cx tg (rl1 h) (rl2 h) dX5_odds_168
def f_X5_odds_L80 (y1 : Int32) (y2 : Int32) (y7 : Int32) : Nat → Int64 → Int64 → Int32 → Sg → Option (Int64 × Sg)
  | 0, _, _, _, _ => none
  | n + 1, y3, y5, y8, σ =>
    if y1 ≤ y8 then
      if (lg_cmp y3 (0 : Int64)) = 0 then
        f_X5_odds_L120 y2 FU y3 (1 : Int64) σ
      else
        f_X5_odds_L120 y2 FU y3 y5 σ
    else
      f_X5_odds_L80 y1 y2 y7 n (y3 * y7.toInt64) (y5 * (8 : Int64)) (y8 + 1) σ
theorem w_X5_odds_L80 {E : Ev} {fr : Fr} {r : Int64} {σ' : Sg} (cx : Cx E mX5_odds 2 fr) (tg : Tg E fr (some .long) (some (.long r)) σ') (y1 : Int32) (y2 : Int32) (y7 : Int32)  : ∀ (n : Nat) (y3 : Int64) (y5 : Int64) (y8 : Int32) (σ : Sg), f_X5_odds_L80 y1 y2 y7 n y3 y5 y8 σ = some (r, σ') → GW E fr 9 80 [(1, .int y1), (2, .int y2), (3, .long y3), (5, .long y5), (7, .int y7), (8, .int y8)] [] σ := by
  intro n
  induction n with
  | zero => intro y3 y5 y8 σ h; cases (show (none : Option (Int64 × Sg)) = _ from h)
  | succ n ih =>
    intro y3 y5 y8 σ h
    rw [f_X5_odds_L80] at h
    refine gw_iload (pc' := 82) cx 5 rfl dX5_odds_80 rfl ?_
    refine gw_iload_n (pc' := 83) cx 0 rfl rfl dX5_odds_82 rfl ?_
    rcases ite_some h with ⟨c17, h⟩ | ⟨c17, h⟩
    · refine gw_ic_ge_t (pc' := 106) cx c17 dX5_odds_83 (by decide) ?_
      refine gw_lload_n (pc' := 107) cx 2 rfl rfl dX5_odds_106 rfl ?_
      refine gw_lconst (pc' := 108) (v := 0) cx cl_0 dX5_odds_107 rfl ?_
      refine gw_lcmp (pc' := 109) cx dX5_odds_108 rfl ?_
      rcases ite_some h with ⟨c18, h⟩ | ⟨c18, h⟩
      · refine gw_if_ne_f (pc' := 112) cx c18 dX5_odds_109 ⟨116, by decide⟩ rfl ?_
        refine gw_lconst (pc' := 113) (v := 1) cx cl_1 dX5_odds_112 rfl ?_
        refine gw_goto (pc' := 118) cx dX5_odds_113 (by decide) ?_
        refine gw_lstore (pc' := 120) (lv' := [(5, .long (1 : Int64)), (1, .int y1), (2, .int y2), (3, .long y3), (7, .int y7), (8, .int y8)]) cx rfl (by decide) dX5_odds_118 rfl ?_
        refine gw_sub [2, 3, 0] (lv' := [(2, .int y2), (3, .long y3), (5, .long (1 : Int64))]) rfl ?_
        exact w_X5_odds_L120 cx tg y2 FU y3 (1 : Int64) σ h
      · refine gw_if_ne_t (pc' := 116) cx c18 dX5_odds_109 (by decide) ?_
        refine gw_lload (pc' := 118) cx 3 rfl dX5_odds_116 rfl ?_
        refine gw_lstore (pc' := 120) (lv' := [(5, .long y5), (1, .int y1), (2, .int y2), (3, .long y3), (7, .int y7), (8, .int y8)]) cx rfl (by decide) dX5_odds_118 rfl ?_
        refine gw_sub [2, 3, 0] (lv' := [(2, .int y2), (3, .long y3), (5, .long y5)]) rfl ?_
        exact w_X5_odds_L120 cx tg y2 FU y3 y5 σ h
    · refine gw_ic_ge_f (pc' := 86) cx c17 dX5_odds_83 ⟨106, by decide⟩ rfl ?_
      refine gw_lload_n (pc' := 87) cx 2 rfl rfl dX5_odds_86 rfl ?_
      refine gw_iload (pc' := 89) cx 4 rfl dX5_odds_87 rfl ?_
      refine gw_i2l (pc' := 90) cx dX5_odds_89 rfl ?_
      refine gw_lmul (pc' := 91) cx dX5_odds_90 rfl ?_
      refine gw_lstore_n (pc' := 92) (lv' := [(3, .long (y3 * y7.toInt64)), (1, .int y1), (2, .int y2), (5, .long y5), (7, .int y7), (8, .int y8)]) cx rfl rfl (by decide) dX5_odds_91 rfl ?_
      refine gw_lload (pc' := 94) cx 3 rfl dX5_odds_92 rfl ?_
      refine gw_ldc2_w (pc' := 97) (v := 8) cx ct_X5_188 dX5_odds_94 rfl ?_
      refine gw_lmul (pc' := 98) cx dX5_odds_97 rfl ?_
      refine gw_lstore (pc' := 100) (lv' := [(5, .long (y5 * (8 : Int64))), (3, .long (y3 * y7.toInt64)), (1, .int y1), (2, .int y2), (7, .int y7), (8, .int y8)]) cx rfl (by decide) dX5_odds_98 rfl ?_
      refine gw_iinc (pc' := 103) (v := (y8 + 1)) (lv' := [(8, .int (y8 + 1)), (5, .long (y5 * (8 : Int64))), (3, .long (y3 * y7.toInt64)), (1, .int y1), (2, .int y2), (7, .int y7)]) cx 5 rfl rfl rfl (by decide) dX5_odds_100 rfl ?_
      refine gw_goto (pc' := 80) cx dX5_odds_103 (by decide) ?_
      refine gw_sub [3, 4, 2, 1, 5, 0] (lv' := [(1, .int y1), (2, .int y2), (3, .long (y3 * y7.toInt64)), (5, .long (y5 * (8 : Int64))), (7, .int y7), (8, .int (y8 + 1))]) rfl ?_
      exact ih (y3 * y7.toInt64) (y5 * (8 : Int64)) (y8 + 1) σ h
def f_X5_odds_L41 (y1 : Int32) (y2 : Int32) (y3 : Int64) (y5 : Int64) : Nat → Int32 → Int32 → Sg → Option (Int64 × Sg)
  | 0, _, _, _ => none
  | n + 1, y7, y8, σ =>
    if (σ 50 0) ≤ y8 then
      f_X5_odds_L80 y1 y2 y7 FU y3 y5 0 σ
    else
      ob0 (f_X5_room y8 σ) fun r15 =>
      if r15 ≤ 0 then
        f_X5_odds_L41 y1 y2 y3 y5 n (y7 + 0) (y8 + 1) σ
      else
        f_X5_odds_L41 y1 y2 y3 y5 n (y7 + 1) (y8 + 1) σ
theorem w_X5_odds_L41 {E : Ev} {fr : Fr} {r : Int64} {σ' : Sg} (cx : Cx E mX5_odds 2 fr) (tg : Tg E fr (some .long) (some (.long r)) σ') (y1 : Int32) (y2 : Int32) (y3 : Int64) (y5 : Int64)  : ∀ (n : Nat) (y7 : Int32) (y8 : Int32) (σ : Sg), f_X5_odds_L41 y1 y2 y3 y5 n y7 y8 σ = some (r, σ') → GW E fr 9 41 [(0, .ref (eA E 49)), (1, .int y1), (2, .int y2), (3, .long y3), (5, .long y5), (7, .int y7), (8, .int y8)] [] σ := by
  intro n
  induction n with
  | zero => intro y7 y8 σ h; cases (show (none : Option (Int64 × Sg)) = _ from h)
  | succ n ih =>
    intro y7 y8 σ h
    rw [f_X5_odds_L41] at h
    refine gw_iload (pc' := 43) cx 6 rfl dX5_odds_41 rfl ?_
    refine gw_aload_n (pc' := 44) cx 0 rfl rfl dX5_odds_43 rfl ?_
    refine gw_getR (pc' := 47) cx at49 rfl fl_X5_7 dX5_odds_44 rfl ?_
    refine gw_iconst (pc' := 48) (v := 0) cx ci_0 dX5_odds_47 rfl ?_
    refine gw_iald (pc' := 49) cx at50 (vpc (by decide)) cn_0 dX5_odds_48 rfl ?_
    rcases ite_some h with ⟨c13, h⟩ | ⟨c13, h⟩
    · refine gw_ic_ge_t (pc' := 77) cx c13 dX5_odds_49 (by decide) ?_
      refine gw_iconst (pc' := 78) (v := 0) cx ci_0 dX5_odds_77 rfl ?_
      refine gw_istore (pc' := 80) (lv' := [(8, .int 0), (0, .ref (eA E 49)), (1, .int y1), (2, .int y2), (3, .long y3), (5, .long y5), (7, .int y7)]) cx rfl (by decide) dX5_odds_78 rfl ?_
      refine gw_sub [2, 3, 4, 5, 6, 0] (lv' := [(1, .int y1), (2, .int y2), (3, .long y3), (5, .long y5), (7, .int y7), (8, .int 0)]) rfl ?_
      exact w_X5_odds_L80 cx tg y1 y2 y7 FU y3 y5 0 σ h
    · refine gw_ic_ge_f (pc' := 52) cx c13 dX5_odds_49 ⟨77, by decide⟩ rfl ?_
      refine gw_iload (pc' := 54) cx 5 rfl dX5_odds_52 rfl ?_
      refine gw_aload_n (pc' := 55) cx 0 rfl rfl dX5_odds_54 rfl ?_
      refine gw_iload (pc' := 57) cx 6 rfl dX5_odds_55 rfl ?_
      obtain ⟨r15, g14, h⟩ := ob0_some h
      refine gw_cV (pc' := 60) (av := [.int y8]) (rest := [.int y7]) cx (k_X5_room E g14) at49 (by decide) lk_X5_91 dX5_odds_57 rfl (Nat.le_of_ble_eq_true rfl) rfl ?_
      show GW E fr _ 60 _ (.int r15 :: _) _
      rcases ite_some h with ⟨c16, h⟩ | ⟨c16, h⟩
      · refine gw_if_le_t (pc' := 67) cx c16 dX5_odds_60 (by decide) ?_
        refine gw_iconst (pc' := 68) (v := 0) cx ci_0 dX5_odds_67 rfl ?_
        refine gw_iadd (pc' := 69) cx dX5_odds_68 rfl ?_
        refine gw_istore (pc' := 71) (lv' := [(7, .int (y7 + 0)), (0, .ref (eA E 49)), (1, .int y1), (2, .int y2), (3, .long y3), (5, .long y5), (8, .int y8)]) cx rfl (by decide) dX5_odds_69 rfl ?_
        refine gw_iinc (pc' := 74) (v := (y8 + 1)) (lv' := [(8, .int (y8 + 1)), (7, .int (y7 + 0)), (0, .ref (eA E 49)), (1, .int y1), (2, .int y2), (3, .long y3), (5, .long y5)]) cx 6 rfl rfl rfl (by decide) dX5_odds_71 rfl ?_
        refine gw_goto (pc' := 41) cx dX5_odds_74 (by decide) ?_
        refine gw_sub [2, 3, 4, 5, 6, 1, 0] (lv' := [(0, .ref (eA E 49)), (1, .int y1), (2, .int y2), (3, .long y3), (5, .long y5), (7, .int (y7 + 0)), (8, .int (y8 + 1))]) rfl ?_
        exact ih (y7 + 0) (y8 + 1) σ h
      · refine gw_if_le_f (pc' := 63) cx c16 dX5_odds_60 ⟨67, by decide⟩ rfl ?_
        refine gw_iconst (pc' := 64) (v := 1) cx ci_1 dX5_odds_63 rfl ?_
        refine gw_goto (pc' := 68) cx dX5_odds_64 (by decide) ?_
        refine gw_iadd (pc' := 69) cx dX5_odds_68 rfl ?_
        refine gw_istore (pc' := 71) (lv' := [(7, .int (y7 + 1)), (0, .ref (eA E 49)), (1, .int y1), (2, .int y2), (3, .long y3), (5, .long y5), (8, .int y8)]) cx rfl (by decide) dX5_odds_69 rfl ?_
        refine gw_iinc (pc' := 74) (v := (y8 + 1)) (lv' := [(8, .int (y8 + 1)), (7, .int (y7 + 1)), (0, .ref (eA E 49)), (1, .int y1), (2, .int y2), (3, .long y3), (5, .long y5)]) cx 6 rfl rfl rfl (by decide) dX5_odds_71 rfl ?_
        refine gw_goto (pc' := 41) cx dX5_odds_74 (by decide) ?_
        refine gw_sub [2, 3, 4, 5, 6, 1, 0] (lv' := [(0, .ref (eA E 49)), (1, .int y1), (2, .int y2), (3, .long y3), (5, .long y5), (7, .int (y7 + 1)), (8, .int (y8 + 1))]) rfl ?_
        exact ih (y7 + 1) (y8 + 1) σ h
def f_X5_odds (x1 : Int32) (x2 : Int32) (σ : Sg) : Option (Int64 × Sg) :=
  ob0 (f_X5_isIn x1.toInt64 (0 : Int64) (20 : Int64) σ) fun r2 =>
  if r2 = 0 then
    ob2 (f_X5_finds (-1000001) σ) fun r5 s6 =>
    some (r5.toInt64, s6)
  else
    ob0 (f_X5_isIn x2.toInt64 (0 : Int64) (1 : Int64) σ) fun r8 =>
    if r8 = 0 then
      ob2 (f_X5_finds (-1000001) σ) fun r11 s12 =>
      some (r11.toInt64, s12)
    else
      f_X5_odds_L41 x1 x2 (1 : Int64) (1 : Int64) FU 0 0 σ
theorem k_X5_odds (E : Ev) {x1 : Int32} {x2 : Int32} {σ : Sg} {r : Int64} {σ' : Sg} (h : f_X5_odds x1 x2 σ = some (r, σ')) : Con E mX5_odds 2 [.ref (eA E 49), .int x1, .int x2] σ (some (.long r)) σ' := by
  refine con_of (by decide) (Nat.le_of_ble_eq_true rfl) (fun fr cx tg => ?_)
  show GW E fr 9 0 [(0, .ref (eA E 49)), (1, .int x1), (2, .int x2)] [] σ
  rw [f_X5_odds] at h
  refine gw_iload_n (pc' := 1) cx 1 rfl rfl dX5_odds_0 rfl ?_
  refine gw_i2l (pc' := 2) cx dX5_odds_1 rfl ?_
  refine gw_lconst (pc' := 3) (v := 0) cx cl_0 dX5_odds_2 rfl ?_
  refine gw_ldc2_w (pc' := 6) (v := 20) cx ct_X5_55 dX5_odds_3 rfl ?_
  obtain ⟨r2, g1, h⟩ := ob0_some h
  refine gw_cS (pc' := 9) (av := [.long x1.toInt64, .long (0 : Int64), .long (20 : Int64)]) (rest := []) cx (k_X5_isIn E g1) (by decide) lk_X5_45 dX5_odds_6 rfl (Nat.le_of_ble_eq_true rfl) rfl ?_
  show GW E fr _ 9 _ (.int r2 :: _) _
  rcases ite_some h with ⟨c3, h⟩ | ⟨c3, h⟩
  · refine gw_if_eq_t (pc' := 22) cx c3 dX5_odds_9 (by decide) ?_
    refine gw_aload_n (pc' := 23) cx 0 rfl rfl dX5_odds_22 rfl ?_
    refine gw_ldc (pc' := 25) (v := (-1000001)) cx ct_X5_37 dX5_odds_23 rfl ?_
    obtain ⟨r5, s6, g4, h⟩ := ob2_some h
    refine gw_cV (pc' := 28) (av := [.int (-1000001)]) (rest := []) cx (k_X5_finds E g4) at49 (by decide) lk_X5_39 dX5_odds_25 rfl (Nat.le_of_ble_eq_true rfl) rfl ?_
    show GW E fr _ 28 _ (.int r5 :: _) _
    refine gw_i2l (pc' := 29) cx dX5_odds_28 rfl ?_
    exact gw_lret cx tg (rl1 h) (rl2 h) dX5_odds_29
  · refine gw_if_eq_f (pc' := 12) cx c3 dX5_odds_9 ⟨22, by decide⟩ rfl ?_
    refine gw_iload_n (pc' := 13) cx 2 rfl rfl dX5_odds_12 rfl ?_
    refine gw_i2l (pc' := 14) cx dX5_odds_13 rfl ?_
    refine gw_lconst (pc' := 15) (v := 0) cx cl_0 dX5_odds_14 rfl ?_
    refine gw_lconst (pc' := 16) (v := 1) cx cl_1 dX5_odds_15 rfl ?_
    obtain ⟨r8, g7, h⟩ := ob0_some h
    refine gw_cS (pc' := 19) (av := [.long x2.toInt64, .long (0 : Int64), .long (1 : Int64)]) (rest := []) cx (k_X5_isIn E g7) (by decide) lk_X5_45 dX5_odds_16 rfl (Nat.le_of_ble_eq_true rfl) rfl ?_
    show GW E fr _ 19 _ (.int r8 :: _) _
    rcases ite_some h with ⟨c9, h⟩ | ⟨c9, h⟩
    · refine gw_if_ne_f (pc' := 22) cx c9 dX5_odds_19 ⟨30, by decide⟩ rfl ?_
      refine gw_aload_n (pc' := 23) cx 0 rfl rfl dX5_odds_22 rfl ?_
      refine gw_ldc (pc' := 25) (v := (-1000001)) cx ct_X5_37 dX5_odds_23 rfl ?_
      obtain ⟨r11, s12, g10, h⟩ := ob2_some h
      refine gw_cV (pc' := 28) (av := [.int (-1000001)]) (rest := []) cx (k_X5_finds E g10) at49 (by decide) lk_X5_39 dX5_odds_25 rfl (Nat.le_of_ble_eq_true rfl) rfl ?_
      show GW E fr _ 28 _ (.int r11 :: _) _
      refine gw_i2l (pc' := 29) cx dX5_odds_28 rfl ?_
      exact gw_lret cx tg (rl1 h) (rl2 h) dX5_odds_29
    · refine gw_if_ne_t (pc' := 30) cx c9 dX5_odds_19 (by decide) ?_
      refine gw_lconst (pc' := 31) (v := 1) cx cl_1 dX5_odds_30 rfl ?_
      refine gw_lstore_n (pc' := 32) (lv' := [(3, .long (1 : Int64)), (0, .ref (eA E 49)), (1, .int x1), (2, .int x2)]) cx rfl rfl (by decide) dX5_odds_31 rfl ?_
      refine gw_lconst (pc' := 33) (v := 1) cx cl_1 dX5_odds_32 rfl ?_
      refine gw_lstore (pc' := 35) (lv' := [(5, .long (1 : Int64)), (3, .long (1 : Int64)), (0, .ref (eA E 49)), (1, .int x1), (2, .int x2)]) cx rfl (by decide) dX5_odds_33 rfl ?_
      refine gw_iconst (pc' := 36) (v := 0) cx ci_0 dX5_odds_35 rfl ?_
      refine gw_istore (pc' := 38) (lv' := [(7, .int 0), (5, .long (1 : Int64)), (3, .long (1 : Int64)), (0, .ref (eA E 49)), (1, .int x1), (2, .int x2)]) cx rfl (by decide) dX5_odds_36 rfl ?_
      refine gw_iconst (pc' := 39) (v := 0) cx ci_0 dX5_odds_38 rfl ?_
      refine gw_istore (pc' := 41) (lv' := [(8, .int 0), (7, .int 0), (5, .long (1 : Int64)), (3, .long (1 : Int64)), (0, .ref (eA E 49)), (1, .int x1), (2, .int x2)]) cx rfl (by decide) dX5_odds_39 rfl ?_
      refine gw_sub [4, 5, 6, 3, 2, 1, 0] (lv' := [(0, .ref (eA E 49)), (1, .int x1), (2, .int x2), (3, .long (1 : Int64)), (5, .long (1 : Int64)), (7, .int 0), (8, .int 0)]) rfl ?_
      exact w_X5_odds_L41 cx tg x1 x2 (1 : Int64) (1 : Int64) FU 0 0 σ h
def f_X5_seed (x1 : Int32) (σ : Sg) : Option (Int32 × Sg) :=
  ob2 (f_X5_becomes 2 x1 σ) fun r2 s3 =>
  some (r2, s3)
theorem k_X5_seed (E : Ev) {x1 : Int32} {σ : Sg} {r : Int32} {σ' : Sg} (h : f_X5_seed x1 σ = some (r, σ')) : Con E mX5_seed 1 [.ref (eA E 49), .int x1] σ (some (.int r)) σ' := by
  refine con_of (by decide) (Nat.le_of_ble_eq_true rfl) (fun fr cx tg => ?_)
  show GW E fr 2 0 [(0, .ref (eA E 49)), (1, .int x1)] [] σ
  rw [f_X5_seed] at h
  refine gw_aload_n (pc' := 1) cx 0 rfl rfl dX5_seed_0 rfl ?_
  refine gw_iconst (pc' := 2) (v := 2) cx ci_2 dX5_seed_1 rfl ?_
  refine gw_iload_n (pc' := 3) cx 1 rfl rfl dX5_seed_2 rfl ?_
  obtain ⟨r2, s3, g1, h⟩ := ob2_some h
  refine gw_cV (pc' := 6) (av := [.int 2, .int x1]) (rest := []) cx (k_X5_becomes E g1) at49 (by decide) lk_X5_57 dX5_seed_3 rfl (Nat.le_of_ble_eq_true rfl) rfl ?_
  show GW E fr _ 6 _ (.int r2 :: _) _
  exact gw_iret cx tg (rt1 h) (rt2 h) dX5_seed_6
def f_X5_feed_L41 (y1 : Int32) : Nat → Int32 → Sg → Option (Int32 × Sg)
  | 0, _, _ => none
  | n + 1, y3, σ =>
    if y3 < 0 then
      some ((σ 49 7), σ)
    else
      chk (σ 49 7) 120 <|
      lt (up2 σ 55 (σ 49 7).toNatClampNeg ((jshr y1 (8 * y3)) &&& 255)) fun s13 =>
      lt (up2 s13 49 7 ((s13 49 7) + 1)) fun s15 =>
      f_X5_feed_L41 y1 n (y3 + (-1)) s15
theorem w_X5_feed_L41 {E : Ev} {fr : Fr} {r : Int32} {σ' : Sg} (cx : Cx E mX5_feed 1 fr) (tg : Tg E fr (some .int) (some (.int r)) σ') (y1 : Int32)  : ∀ (n : Nat) (y3 : Int32) (σ : Sg), f_X5_feed_L41 y1 n y3 σ = some (r, σ') → GW E fr 4 41 [(0, .ref (eA E 49)), (1, .int y1), (3, .int y3)] [] σ := by
  intro n
  induction n with
  | zero => intro y3 σ h; cases (show (none : Option (Int32 × Sg)) = _ from h)
  | succ n ih =>
    intro y3 σ h
    rw [f_X5_feed_L41] at h
    refine gw_iload_n (pc' := 42) cx 2 rfl rfl dX5_feed_41 rfl ?_
    rcases ite_some h with ⟨c11, h⟩ | ⟨c11, h⟩
    · refine gw_if_lt_t (pc' := 80) cx c11 dX5_feed_42 (by decide) ?_
      refine gw_aload_n (pc' := 81) cx 0 rfl rfl dX5_feed_80 rfl ?_
      refine gw_getI (pc' := 84) cx at49 rfl fl_X5_192 dX5_feed_81 rfl ?_
      exact gw_iret cx tg (rt1 h) (rt2 h) dX5_feed_84
    · refine gw_if_lt_f (pc' := 45) cx c11 dX5_feed_42 ⟨80, by decide⟩ rfl ?_
      refine gw_aload_n (pc' := 46) cx 0 rfl rfl dX5_feed_45 rfl ?_
      refine gw_getR (pc' := 49) cx at49 rfl fl_X5_25 dX5_feed_46 rfl ?_
      refine gw_aload_n (pc' := 50) cx 0 rfl rfl dX5_feed_49 rfl ?_
      refine gw_getI (pc' := 53) cx at49 rfl fl_X5_192 dX5_feed_50 rfl ?_
      refine gw_iload_n (pc' := 54) cx 1 rfl rfl dX5_feed_53 rfl ?_
      refine gw_bipush (pc' := 56) (v := 8) cx cb_8 dX5_feed_54 rfl ?_
      refine gw_iload_n (pc' := 57) cx 2 rfl rfl dX5_feed_56 rfl ?_
      refine gw_imul (pc' := 58) cx dX5_feed_57 rfl ?_
      refine gw_ishr (pc' := 59) cx dX5_feed_58 rfl ?_
      refine gw_sipush (pc' := 62) (v := 255) cx cs_255 dX5_feed_59 rfl ?_
      refine gw_iand (pc' := 63) cx dX5_feed_62 rfl ?_
      obtain ⟨i12, h⟩ := chk_some h
      obtain ⟨s13, e14, h⟩ := lt_some h
      refine gw_iast (pc' := 64) cx at55 i12 rfl dX5_feed_63 rfl e14 ?_
      refine gw_aload_n (pc' := 65) cx 0 rfl rfl dX5_feed_64 rfl ?_
      refine gw_dup (pc' := 66) cx rfl dX5_feed_65 rfl ?_
      refine gw_getI (pc' := 69) cx at49 rfl fl_X5_192 dX5_feed_66 rfl ?_
      refine gw_iconst (pc' := 70) (v := 1) cx ci_1 dX5_feed_69 rfl ?_
      refine gw_iadd (pc' := 71) cx dX5_feed_70 rfl ?_
      obtain ⟨s15, e16, h⟩ := lt_some h
      refine gw_put (pc' := 74) cx at49 rfl fp_X5_192 ⟨rfl, rfl⟩ dX5_feed_71 rfl e16 ?_
      refine gw_iinc (pc' := 77) (v := (y3 + (-1))) (lv' := [(3, .int (y3 + (-1))), (0, .ref (eA E 49)), (1, .int y1)]) cx 2 rfl (congrArg (fun z => y3 + z) ci_m1) rfl (by decide) dX5_feed_74 rfl ?_
      refine gw_goto (pc' := 41) cx dX5_feed_77 (by decide) ?_
      refine gw_sub [1, 2, 0] (lv' := [(0, .ref (eA E 49)), (1, .int y1), (3, .int (y3 + (-1)))]) rfl ?_
      exact ih (y3 + (-1)) s15 h
def f_X5_feed (x1 : Int32) (x2 : Int32) (σ : Sg) : Option (Int32 × Sg) :=
  ob0 (f_X5_isIn x2.toInt64 (1 : Int64) (4 : Int64) σ) fun r2 =>
  if r2 = 0 then
    ob2 (f_X5_finds (-1000001) σ) fun r5 s6 =>
    some (r5, s6)
  else
    if ((σ 49 7) + x2) ≤ 120 then
      f_X5_feed_L41 x1 FU (x2 - 1) σ
    else
      ob2 (f_X5_finds (-1000002) σ) fun r9 s10 =>
      some (r9, s10)
theorem k_X5_feed (E : Ev) {x1 : Int32} {x2 : Int32} {σ : Sg} {r : Int32} {σ' : Sg} (h : f_X5_feed x1 x2 σ = some (r, σ')) : Con E mX5_feed 1 [.ref (eA E 49), .int x1, .int x2] σ (some (.int r)) σ' := by
  refine con_of (by decide) (Nat.le_of_ble_eq_true rfl) (fun fr cx tg => ?_)
  show GW E fr 4 0 [(0, .ref (eA E 49)), (1, .int x1), (2, .int x2)] [] σ
  rw [f_X5_feed] at h
  refine gw_iload_n (pc' := 1) cx 2 rfl rfl dX5_feed_0 rfl ?_
  refine gw_i2l (pc' := 2) cx dX5_feed_1 rfl ?_
  refine gw_lconst (pc' := 3) (v := 1) cx cl_1 dX5_feed_2 rfl ?_
  refine gw_ldc2_w (pc' := 6) (v := 4) cx ct_X5_97 dX5_feed_3 rfl ?_
  obtain ⟨r2, g1, h⟩ := ob0_some h
  refine gw_cS (pc' := 9) (av := [.long x2.toInt64, .long (1 : Int64), .long (4 : Int64)]) (rest := []) cx (k_X5_isIn E g1) (by decide) lk_X5_45 dX5_feed_6 rfl (Nat.le_of_ble_eq_true rfl) rfl ?_
  show GW E fr _ 9 _ (.int r2 :: _) _
  rcases ite_some h with ⟨c3, h⟩ | ⟨c3, h⟩
  · refine gw_if_ne_f (pc' := 12) cx c3 dX5_feed_9 ⟨19, by decide⟩ rfl ?_
    refine gw_aload_n (pc' := 13) cx 0 rfl rfl dX5_feed_12 rfl ?_
    refine gw_ldc (pc' := 15) (v := (-1000001)) cx ct_X5_37 dX5_feed_13 rfl ?_
    obtain ⟨r5, s6, g4, h⟩ := ob2_some h
    refine gw_cV (pc' := 18) (av := [.int (-1000001)]) (rest := []) cx (k_X5_finds E g4) at49 (by decide) lk_X5_39 dX5_feed_15 rfl (Nat.le_of_ble_eq_true rfl) rfl ?_
    show GW E fr _ 18 _ (.int r5 :: _) _
    exact gw_iret cx tg (rt1 h) (rt2 h) dX5_feed_18
  · refine gw_if_ne_t (pc' := 19) cx c3 dX5_feed_9 (by decide) ?_
    refine gw_aload_n (pc' := 20) cx 0 rfl rfl dX5_feed_19 rfl ?_
    refine gw_getI (pc' := 23) cx at49 rfl fl_X5_192 dX5_feed_20 rfl ?_
    refine gw_iload_n (pc' := 24) cx 2 rfl rfl dX5_feed_23 rfl ?_
    refine gw_iadd (pc' := 25) cx dX5_feed_24 rfl ?_
    refine gw_bipush (pc' := 27) (v := 120) cx cb_120 dX5_feed_25 rfl ?_
    rcases ite_some h with ⟨c7, h⟩ | ⟨c7, h⟩
    · refine gw_ic_le_t (pc' := 37) cx c7 dX5_feed_27 (by decide) ?_
      refine gw_iload_n (pc' := 38) cx 2 rfl rfl dX5_feed_37 rfl ?_
      refine gw_iconst (pc' := 39) (v := 1) cx ci_1 dX5_feed_38 rfl ?_
      refine gw_isub (pc' := 40) cx dX5_feed_39 rfl ?_
      refine gw_istore_n (pc' := 41) (lv' := [(3, .int (x2 - 1)), (0, .ref (eA E 49)), (1, .int x1), (2, .int x2)]) cx rfl rfl (by decide) dX5_feed_40 rfl ?_
      refine gw_sub [1, 2, 0] (lv' := [(0, .ref (eA E 49)), (1, .int x1), (3, .int (x2 - 1))]) rfl ?_
      exact w_X5_feed_L41 cx tg x1 FU (x2 - 1) σ h
    · refine gw_ic_le_f (pc' := 30) cx c7 dX5_feed_27 ⟨37, by decide⟩ rfl ?_
      refine gw_aload_n (pc' := 31) cx 0 rfl rfl dX5_feed_30 rfl ?_
      refine gw_ldc (pc' := 33) (v := (-1000002)) cx ct_X5_68 dX5_feed_31 rfl ?_
      obtain ⟨r9, s10, g8, h⟩ := ob2_some h
      refine gw_cV (pc' := 36) (av := [.int (-1000002)]) (rest := []) cx (k_X5_finds E g8) at49 (by decide) lk_X5_39 dX5_feed_33 rfl (Nat.le_of_ble_eq_true rfl) rfl ?_
      show GW E fr _ 36 _ (.int r9 :: _) _
      exact gw_iret cx tg (rt1 h) (rt2 h) dX5_feed_36
def f_X5_wipe (σ : Sg) : Option (Int32 × Sg) :=
  lt (up2 σ 49 7 0) fun s1 =>
  some ((σ 49 7), s1)
theorem k_X5_wipe (E : Ev)  {σ : Sg} {r : Int32} {σ' : Sg} (h : f_X5_wipe σ = some (r, σ')) : Con E mX5_wipe 0 [.ref (eA E 49)] σ (some (.int r)) σ' := by
  refine con_of (by decide) (Nat.le_of_ble_eq_true rfl) (fun fr cx tg => ?_)
  show GW E fr 2 0 [(0, .ref (eA E 49))] [] σ
  rw [f_X5_wipe] at h
  refine gw_aload_n (pc' := 1) cx 0 rfl rfl dX5_wipe_0 rfl ?_
  refine gw_getI (pc' := 4) cx at49 rfl fl_X5_192 dX5_wipe_1 rfl ?_
  refine gw_istore_n (pc' := 5) (lv' := [(1, .int (σ 49 7)), (0, .ref (eA E 49))]) cx rfl rfl (by decide) dX5_wipe_4 rfl ?_
  refine gw_aload_n (pc' := 6) cx 1 rfl rfl dX5_wipe_5 rfl ?_
  refine gw_iconst (pc' := 7) (v := 0) cx ci_0 dX5_wipe_6 rfl ?_
  obtain ⟨s1, e2, h⟩ := lt_some h
  refine gw_put (pc' := 10) cx at49 rfl fp_X5_192 ⟨rfl, rfl⟩ dX5_wipe_7 rfl e2 ?_
  refine gw_iload_n (pc' := 11) cx 0 rfl rfl dX5_wipe_10 rfl ?_
  exact gw_iret cx tg (rt1 h) (rt2 h) dX5_wipe_11
def f_X5_isLetter (x0 : Int32) (σ : Sg) : Option (Int32) :=
  if x0 < 97 then
    some 0
  else
    if 122 < x0 then
      some 0
    else
      some 1
theorem k_X5_isLetter (E : Ev) {x0 : Int32} {σ : Sg} {r : Int32} (h : f_X5_isLetter x0 σ = some r) : Con E mX5_isLetter 0 [.int x0] σ (some (.int r)) σ := by
  refine con_of (by decide) (Nat.le_of_ble_eq_true rfl) (fun fr cx tg => ?_)
  show GW E fr 1 0 [(0, .int x0)] [] σ
  rw [f_X5_isLetter] at h
  refine gw_iload_n (pc' := 1) cx 0 rfl rfl dX5_isLetter_0 rfl ?_
  refine gw_bipush (pc' := 3) (v := 97) cx cb_97 dX5_isLetter_1 rfl ?_
  rcases ite_some h with ⟨c1, h⟩ | ⟨c1, h⟩
  · refine gw_ic_lt_t (pc' := 16) cx c1 dX5_isLetter_3 (by decide) ?_
    refine gw_iconst (pc' := 17) (v := 0) cx ci_0 dX5_isLetter_16 rfl ?_
    exact gw_zret cx tg (Or.inl rfl) (rt0 h) rfl dX5_isLetter_17
  · refine gw_ic_lt_f (pc' := 6) cx c1 dX5_isLetter_3 ⟨16, by decide⟩ rfl ?_
    refine gw_iload_n (pc' := 7) cx 0 rfl rfl dX5_isLetter_6 rfl ?_
    refine gw_bipush (pc' := 9) (v := 122) cx cb_122 dX5_isLetter_7 rfl ?_
    rcases ite_some h with ⟨c2, h⟩ | ⟨c2, h⟩
    · refine gw_ic_gt_t (pc' := 16) cx c2 dX5_isLetter_9 (by decide) ?_
      refine gw_iconst (pc' := 17) (v := 0) cx ci_0 dX5_isLetter_16 rfl ?_
      exact gw_zret cx tg (Or.inl rfl) (rt0 h) rfl dX5_isLetter_17
    · refine gw_ic_gt_f (pc' := 12) cx c2 dX5_isLetter_9 ⟨16, by decide⟩ rfl ?_
      refine gw_iconst (pc' := 13) (v := 1) cx ci_1 dX5_isLetter_12 rfl ?_
      refine gw_goto (pc' := 17) cx dX5_isLetter_13 (by decide) ?_
      exact gw_zret cx tg (Or.inr rfl) (rt0 h) rfl dX5_isLetter_17
def f_X5_isDigit (x0 : Int32) (σ : Sg) : Option (Int32) :=
  if x0 < 48 then
    some 0
  else
    if 57 < x0 then
      some 0
    else
      some 1
theorem k_X5_isDigit (E : Ev) {x0 : Int32} {σ : Sg} {r : Int32} (h : f_X5_isDigit x0 σ = some r) : Con E mX5_isDigit 0 [.int x0] σ (some (.int r)) σ := by
  refine con_of (by decide) (Nat.le_of_ble_eq_true rfl) (fun fr cx tg => ?_)
  show GW E fr 1 0 [(0, .int x0)] [] σ
  rw [f_X5_isDigit] at h
  refine gw_iload_n (pc' := 1) cx 0 rfl rfl dX5_isDigit_0 rfl ?_
  refine gw_bipush (pc' := 3) (v := 48) cx cb_48 dX5_isDigit_1 rfl ?_
  rcases ite_some h with ⟨c1, h⟩ | ⟨c1, h⟩
  · refine gw_ic_lt_t (pc' := 16) cx c1 dX5_isDigit_3 (by decide) ?_
    refine gw_iconst (pc' := 17) (v := 0) cx ci_0 dX5_isDigit_16 rfl ?_
    exact gw_zret cx tg (Or.inl rfl) (rt0 h) rfl dX5_isDigit_17
  · refine gw_ic_lt_f (pc' := 6) cx c1 dX5_isDigit_3 ⟨16, by decide⟩ rfl ?_
    refine gw_iload_n (pc' := 7) cx 0 rfl rfl dX5_isDigit_6 rfl ?_
    refine gw_bipush (pc' := 9) (v := 57) cx cb_57 dX5_isDigit_7 rfl ?_
    rcases ite_some h with ⟨c2, h⟩ | ⟨c2, h⟩
    · refine gw_ic_gt_t (pc' := 16) cx c2 dX5_isDigit_9 (by decide) ?_
      refine gw_iconst (pc' := 17) (v := 0) cx ci_0 dX5_isDigit_16 rfl ?_
      exact gw_zret cx tg (Or.inl rfl) (rt0 h) rfl dX5_isDigit_17
    · refine gw_ic_gt_f (pc' := 12) cx c2 dX5_isDigit_9 ⟨16, by decide⟩ rfl ?_
      refine gw_iconst (pc' := 13) (v := 1) cx ci_1 dX5_isDigit_12 rfl ?_
      refine gw_goto (pc' := 17) cx dX5_isDigit_13 (by decide) ?_
      exact gw_zret cx tg (Or.inr rfl) (rt0 h) rfl dX5_isDigit_17
def f_X5_byteAt (x1 : Int32) (σ : Sg) : Option (Int32) :=
  if (σ 49 7) ≤ x1 then
    some (-1)
  else
    chk x1 120 <|
    some (σ 55 x1.toNatClampNeg)
theorem k_X5_byteAt (E : Ev) {x1 : Int32} {σ : Sg} {r : Int32} (h : f_X5_byteAt x1 σ = some r) : Con E mX5_byteAt 0 [.ref (eA E 49), .int x1] σ (some (.int r)) σ := by
  refine con_of (by decide) (Nat.le_of_ble_eq_true rfl) (fun fr cx tg => ?_)
  show GW E fr 2 0 [(0, .ref (eA E 49)), (1, .int x1)] [] σ
  rw [f_X5_byteAt] at h
  refine gw_iload_n (pc' := 1) cx 1 rfl rfl dX5_byteAt_0 rfl ?_
  refine gw_aload_n (pc' := 2) cx 0 rfl rfl dX5_byteAt_1 rfl ?_
  refine gw_getI (pc' := 5) cx at49 rfl fl_X5_192 dX5_byteAt_2 rfl ?_
  rcases ite_some h with ⟨c1, h⟩ | ⟨c1, h⟩
  · refine gw_ic_ge_t (pc' := 17) cx c1 dX5_byteAt_5 (by decide) ?_
    refine gw_iconst (pc' := 18) (v := (-1)) cx ci_m1 dX5_byteAt_17 rfl ?_
    exact gw_iret cx tg (rt0 h) rfl dX5_byteAt_18
  · refine gw_ic_ge_f (pc' := 8) cx c1 dX5_byteAt_5 ⟨17, by decide⟩ rfl ?_
    refine gw_aload_n (pc' := 9) cx 0 rfl rfl dX5_byteAt_8 rfl ?_
    refine gw_getR (pc' := 12) cx at49 rfl fl_X5_25 dX5_byteAt_9 rfl ?_
    refine gw_iload_n (pc' := 13) cx 1 rfl rfl dX5_byteAt_12 rfl ?_
    obtain ⟨i2, h⟩ := chk_some h
    refine gw_iald (pc' := 14) cx at55 i2 rfl dX5_byteAt_13 rfl ?_
    refine gw_goto (pc' := 18) cx dX5_byteAt_14 (by decide) ?_
    exact gw_iret cx tg (rt0 h) rfl dX5_byteAt_18
def f_X5_nextToken_L136 : Nat → Sg → Option (Sg)
  | 0, _ => none
  | n + 1, σ =>
    if (σ 49 13) = 2 then
      ob0 (f_X5_byteAt (σ 49 15) σ) fun r50 =>
      ob0 (f_X5_isDigit r50 σ) fun r52 =>
      if r52 = 0 then
        if (σ 49 13) ≤ 2 then
          lt (up2 σ 49 15 ((σ 49 15) + 0)) fun s55 =>
          some s55
        else
          lt (up2 σ 49 15 ((σ 49 15) + 1)) fun s57 =>
          some s57
      else
        if (σ 49 16) ≤ 9999 then
          ob0 (f_X5_byteAt (σ 49 15) σ) fun r61 =>
          lt (up2 σ 49 16 (((10 * (σ 49 16)) + r61) - 48)) fun s62 =>
          lt (up2 s62 49 15 ((s62 49 15) + 1)) fun s64 =>
          f_X5_nextToken_L136 n s64
        else
          lt (up2 σ 49 16 (σ 49 16)) fun s66 =>
          lt (up2 s66 49 15 ((s66 49 15) + 1)) fun s68 =>
          f_X5_nextToken_L136 n s68
    else
      if (σ 49 13) ≤ 2 then
        lt (up2 σ 49 15 ((σ 49 15) + 0)) fun s71 =>
        some s71
      else
        lt (up2 σ 49 15 ((σ 49 15) + 1)) fun s73 =>
        some s73
theorem w_X5_nextToken_L136 {E : Ev} {fr : Fr} {σ' : Sg} (cx : Cx E mX5_nextToken 1 fr) (tg : Tg E fr none none σ')  : ∀ (n : Nat) (σ : Sg), f_X5_nextToken_L136 n σ = some σ' → GW E fr 2 136 [(0, .ref (eA E 49))] [] σ := by
  intro n
  induction n with
  | zero => intro σ h; cases (show (none : Option (Sg)) = _ from h)
  | succ n ih =>
    intro σ h
    rw [f_X5_nextToken_L136] at h
    refine gw_aload_n (pc' := 137) cx 0 rfl rfl dX5_nextToken_136 rfl ?_
    refine gw_getI (pc' := 140) cx at49 rfl fl_X5_210 dX5_nextToken_137 rfl ?_
    refine gw_iconst (pc' := 141) (v := 2) cx ci_2 dX5_nextToken_140 rfl ?_
    rcases ite_some h with ⟨c48, h⟩ | ⟨c48, h⟩
    · refine gw_ic_ne_f (pc' := 144) cx c48 dX5_nextToken_141 ⟨211, by decide⟩ rfl ?_
      refine gw_aload_n (pc' := 145) cx 0 rfl rfl dX5_nextToken_144 rfl ?_
      refine gw_aload_n (pc' := 146) cx 0 rfl rfl dX5_nextToken_145 rfl ?_
      refine gw_getI (pc' := 149) cx at49 rfl fl_X5_195 dX5_nextToken_146 rfl ?_
      obtain ⟨r50, g49, h⟩ := ob0_some h
      refine gw_cV (pc' := 152) (av := [.int (σ 49 15)]) (rest := []) cx (k_X5_byteAt E g49) at49 (by decide) lk_X5_201 dX5_nextToken_149 rfl (Nat.le_of_ble_eq_true rfl) rfl ?_
      show GW E fr _ 152 _ (.int r50 :: _) _
      obtain ⟨r52, g51, h⟩ := ob0_some h
      refine gw_cS (pc' := 155) (av := [.int r50]) (rest := []) cx (k_X5_isDigit E g51) (by decide) lk_X5_207 dX5_nextToken_152 rfl (Nat.le_of_ble_eq_true rfl) rfl ?_
      show GW E fr _ 155 _ (.int r52 :: _) _
      rcases ite_some h with ⟨c53, h⟩ | ⟨c53, h⟩
      · refine gw_if_eq_t (pc' := 211) cx c53 dX5_nextToken_155 (by decide) ?_
        refine gw_aload_n (pc' := 212) cx 0 rfl rfl dX5_nextToken_211 rfl ?_
        refine gw_dup (pc' := 213) cx rfl dX5_nextToken_212 rfl ?_
        refine gw_getI (pc' := 216) cx at49 rfl fl_X5_195 dX5_nextToken_213 rfl ?_
        refine gw_aload_n (pc' := 217) cx 0 rfl rfl dX5_nextToken_216 rfl ?_
        refine gw_getI (pc' := 220) cx at49 rfl fl_X5_210 dX5_nextToken_217 rfl ?_
        refine gw_iconst (pc' := 221) (v := 2) cx ci_2 dX5_nextToken_220 rfl ?_
        rcases ite_some h with ⟨c54, h⟩ | ⟨c54, h⟩
        · refine gw_ic_le_t (pc' := 228) cx c54 dX5_nextToken_221 (by decide) ?_
          refine gw_iconst (pc' := 229) (v := 0) cx ci_0 dX5_nextToken_228 rfl ?_
          refine gw_iadd (pc' := 230) cx dX5_nextToken_229 rfl ?_
          obtain ⟨s55, e56, h⟩ := lt_some h
          refine gw_put (pc' := 233) cx at49 rfl fp_X5_195 ⟨rfl, rfl⟩ dX5_nextToken_230 rfl e56 ?_
          exact gw_vret cx tg rfl (rtV h) dX5_nextToken_233
        · refine gw_ic_le_f (pc' := 224) cx c54 dX5_nextToken_221 ⟨228, by decide⟩ rfl ?_
          refine gw_iconst (pc' := 225) (v := 1) cx ci_1 dX5_nextToken_224 rfl ?_
          refine gw_goto (pc' := 229) cx dX5_nextToken_225 (by decide) ?_
          refine gw_iadd (pc' := 230) cx dX5_nextToken_229 rfl ?_
          obtain ⟨s57, e58, h⟩ := lt_some h
          refine gw_put (pc' := 233) cx at49 rfl fp_X5_195 ⟨rfl, rfl⟩ dX5_nextToken_230 rfl e58 ?_
          exact gw_vret cx tg rfl (rtV h) dX5_nextToken_233
      · refine gw_if_eq_f (pc' := 158) cx c53 dX5_nextToken_155 ⟨211, by decide⟩ rfl ?_
        refine gw_aload_n (pc' := 159) cx 0 rfl rfl dX5_nextToken_158 rfl ?_
        refine gw_aload_n (pc' := 160) cx 0 rfl rfl dX5_nextToken_159 rfl ?_
        refine gw_getI (pc' := 163) cx at49 rfl fl_X5_213 dX5_nextToken_160 rfl ?_
        refine gw_sipush (pc' := 166) (v := 9999) cx cs_9999 dX5_nextToken_163 rfl ?_
        rcases ite_some h with ⟨c59, h⟩ | ⟨c59, h⟩
        · refine gw_ic_le_t (pc' := 176) cx c59 dX5_nextToken_166 (by decide) ?_
          refine gw_bipush (pc' := 178) (v := 10) cx cb_10 dX5_nextToken_176 rfl ?_
          refine gw_aload_n (pc' := 179) cx 0 rfl rfl dX5_nextToken_178 rfl ?_
          refine gw_getI (pc' := 182) cx at49 rfl fl_X5_213 dX5_nextToken_179 rfl ?_
          refine gw_imul (pc' := 183) cx dX5_nextToken_182 rfl ?_
          refine gw_aload_n (pc' := 184) cx 0 rfl rfl dX5_nextToken_183 rfl ?_
          refine gw_aload_n (pc' := 185) cx 0 rfl rfl dX5_nextToken_184 rfl ?_
          refine gw_getI (pc' := 188) cx at49 rfl fl_X5_195 dX5_nextToken_185 rfl ?_
          obtain ⟨r61, g60, h⟩ := ob0_some h
          refine gw_cV (pc' := 191) (av := [.int (σ 49 15)]) (rest := [.int (10 * (σ 49 16)), .ref (eA E 49)]) cx (k_X5_byteAt E g60) at49 (by decide) lk_X5_201 dX5_nextToken_188 rfl (Nat.le_of_ble_eq_true rfl) rfl ?_
          show GW E fr _ 191 _ (.int r61 :: _) _
          refine gw_iadd (pc' := 192) cx dX5_nextToken_191 rfl ?_
          refine gw_bipush (pc' := 194) (v := 48) cx cb_48 dX5_nextToken_192 rfl ?_
          refine gw_isub (pc' := 195) cx dX5_nextToken_194 rfl ?_
          obtain ⟨s62, e63, h⟩ := lt_some h
          refine gw_put (pc' := 198) cx at49 rfl fp_X5_213 ⟨rfl, rfl⟩ dX5_nextToken_195 rfl e63 ?_
          refine gw_aload_n (pc' := 199) cx 0 rfl rfl dX5_nextToken_198 rfl ?_
          refine gw_dup (pc' := 200) cx rfl dX5_nextToken_199 rfl ?_
          refine gw_getI (pc' := 203) cx at49 rfl fl_X5_195 dX5_nextToken_200 rfl ?_
          refine gw_iconst (pc' := 204) (v := 1) cx ci_1 dX5_nextToken_203 rfl ?_
          refine gw_iadd (pc' := 205) cx dX5_nextToken_204 rfl ?_
          obtain ⟨s64, e65, h⟩ := lt_some h
          refine gw_put (pc' := 208) cx at49 rfl fp_X5_195 ⟨rfl, rfl⟩ dX5_nextToken_205 rfl e65 ?_
          refine gw_goto (pc' := 136) cx dX5_nextToken_208 (by decide) ?_
          exact ih  s64 h
        · refine gw_ic_le_f (pc' := 169) cx c59 dX5_nextToken_166 ⟨176, by decide⟩ rfl ?_
          refine gw_aload_n (pc' := 170) cx 0 rfl rfl dX5_nextToken_169 rfl ?_
          refine gw_getI (pc' := 173) cx at49 rfl fl_X5_213 dX5_nextToken_170 rfl ?_
          refine gw_goto (pc' := 195) cx dX5_nextToken_173 (by decide) ?_
          obtain ⟨s66, e67, h⟩ := lt_some h
          refine gw_put (pc' := 198) cx at49 rfl fp_X5_213 ⟨rfl, rfl⟩ dX5_nextToken_195 rfl e67 ?_
          refine gw_aload_n (pc' := 199) cx 0 rfl rfl dX5_nextToken_198 rfl ?_
          refine gw_dup (pc' := 200) cx rfl dX5_nextToken_199 rfl ?_
          refine gw_getI (pc' := 203) cx at49 rfl fl_X5_195 dX5_nextToken_200 rfl ?_
          refine gw_iconst (pc' := 204) (v := 1) cx ci_1 dX5_nextToken_203 rfl ?_
          refine gw_iadd (pc' := 205) cx dX5_nextToken_204 rfl ?_
          obtain ⟨s68, e69, h⟩ := lt_some h
          refine gw_put (pc' := 208) cx at49 rfl fp_X5_195 ⟨rfl, rfl⟩ dX5_nextToken_205 rfl e69 ?_
          refine gw_goto (pc' := 136) cx dX5_nextToken_208 (by decide) ?_
          exact ih  s68 h
    · refine gw_ic_ne_t (pc' := 211) cx c48 dX5_nextToken_141 (by decide) ?_
      refine gw_aload_n (pc' := 212) cx 0 rfl rfl dX5_nextToken_211 rfl ?_
      refine gw_dup (pc' := 213) cx rfl dX5_nextToken_212 rfl ?_
      refine gw_getI (pc' := 216) cx at49 rfl fl_X5_195 dX5_nextToken_213 rfl ?_
      refine gw_aload_n (pc' := 217) cx 0 rfl rfl dX5_nextToken_216 rfl ?_
      refine gw_getI (pc' := 220) cx at49 rfl fl_X5_210 dX5_nextToken_217 rfl ?_
      refine gw_iconst (pc' := 221) (v := 2) cx ci_2 dX5_nextToken_220 rfl ?_
      rcases ite_some h with ⟨c70, h⟩ | ⟨c70, h⟩
      · refine gw_ic_le_t (pc' := 228) cx c70 dX5_nextToken_221 (by decide) ?_
        refine gw_iconst (pc' := 229) (v := 0) cx ci_0 dX5_nextToken_228 rfl ?_
        refine gw_iadd (pc' := 230) cx dX5_nextToken_229 rfl ?_
        obtain ⟨s71, e72, h⟩ := lt_some h
        refine gw_put (pc' := 233) cx at49 rfl fp_X5_195 ⟨rfl, rfl⟩ dX5_nextToken_230 rfl e72 ?_
        exact gw_vret cx tg rfl (rtV h) dX5_nextToken_233
      · refine gw_ic_le_f (pc' := 224) cx c70 dX5_nextToken_221 ⟨228, by decide⟩ rfl ?_
        refine gw_iconst (pc' := 225) (v := 1) cx ci_1 dX5_nextToken_224 rfl ?_
        refine gw_goto (pc' := 229) cx dX5_nextToken_225 (by decide) ?_
        refine gw_iadd (pc' := 230) cx dX5_nextToken_229 rfl ?_
        obtain ⟨s73, e74, h⟩ := lt_some h
        refine gw_put (pc' := 233) cx at49 rfl fp_X5_195 ⟨rfl, rfl⟩ dX5_nextToken_230 rfl e74 ?_
        exact gw_vret cx tg rfl (rtV h) dX5_nextToken_233
def f_X5_nextToken_L101 : Nat → Sg → Option (Sg)
  | 0, _ => none
  | n + 1, σ =>
    if (σ 49 13) = 1 then
      ob0 (f_X5_byteAt (σ 49 15) σ) fun r42 =>
      ob0 (f_X5_isLetter r42 σ) fun r44 =>
      if r44 = 0 then
        f_X5_nextToken_L136 FU σ
      else
        lt (up2 σ 49 15 ((σ 49 15) + 1)) fun s46 =>
        f_X5_nextToken_L101 n s46
    else
      f_X5_nextToken_L136 FU σ
theorem w_X5_nextToken_L101 {E : Ev} {fr : Fr} {σ' : Sg} (cx : Cx E mX5_nextToken 1 fr) (tg : Tg E fr none none σ')  : ∀ (n : Nat) (σ : Sg), f_X5_nextToken_L101 n σ = some σ' → GW E fr 2 101 [(0, .ref (eA E 49))] [] σ := by
  intro n
  induction n with
  | zero => intro σ h; cases (show (none : Option (Sg)) = _ from h)
  | succ n ih =>
    intro σ h
    rw [f_X5_nextToken_L101] at h
    refine gw_aload_n (pc' := 102) cx 0 rfl rfl dX5_nextToken_101 rfl ?_
    refine gw_getI (pc' := 105) cx at49 rfl fl_X5_210 dX5_nextToken_102 rfl ?_
    refine gw_iconst (pc' := 106) (v := 1) cx ci_1 dX5_nextToken_105 rfl ?_
    rcases ite_some h with ⟨c40, h⟩ | ⟨c40, h⟩
    · refine gw_ic_ne_f (pc' := 109) cx c40 dX5_nextToken_106 ⟨136, by decide⟩ rfl ?_
      refine gw_aload_n (pc' := 110) cx 0 rfl rfl dX5_nextToken_109 rfl ?_
      refine gw_aload_n (pc' := 111) cx 0 rfl rfl dX5_nextToken_110 rfl ?_
      refine gw_getI (pc' := 114) cx at49 rfl fl_X5_195 dX5_nextToken_111 rfl ?_
      obtain ⟨r42, g41, h⟩ := ob0_some h
      refine gw_cV (pc' := 117) (av := [.int (σ 49 15)]) (rest := []) cx (k_X5_byteAt E g41) at49 (by decide) lk_X5_201 dX5_nextToken_114 rfl (Nat.le_of_ble_eq_true rfl) rfl ?_
      show GW E fr _ 117 _ (.int r42 :: _) _
      obtain ⟨r44, g43, h⟩ := ob0_some h
      refine gw_cS (pc' := 120) (av := [.int r42]) (rest := []) cx (k_X5_isLetter E g43) (by decide) lk_X5_204 dX5_nextToken_117 rfl (Nat.le_of_ble_eq_true rfl) rfl ?_
      show GW E fr _ 120 _ (.int r44 :: _) _
      rcases ite_some h with ⟨c45, h⟩ | ⟨c45, h⟩
      · refine gw_if_eq_t (pc' := 136) cx c45 dX5_nextToken_120 (by decide) ?_
        exact w_X5_nextToken_L136 cx tg FU σ h
      · refine gw_if_eq_f (pc' := 123) cx c45 dX5_nextToken_120 ⟨136, by decide⟩ rfl ?_
        refine gw_aload_n (pc' := 124) cx 0 rfl rfl dX5_nextToken_123 rfl ?_
        refine gw_dup (pc' := 125) cx rfl dX5_nextToken_124 rfl ?_
        refine gw_getI (pc' := 128) cx at49 rfl fl_X5_195 dX5_nextToken_125 rfl ?_
        refine gw_iconst (pc' := 129) (v := 1) cx ci_1 dX5_nextToken_128 rfl ?_
        refine gw_iadd (pc' := 130) cx dX5_nextToken_129 rfl ?_
        obtain ⟨s46, e47, h⟩ := lt_some h
        refine gw_put (pc' := 133) cx at49 rfl fp_X5_195 ⟨rfl, rfl⟩ dX5_nextToken_130 rfl e47 ?_
        refine gw_goto (pc' := 101) cx dX5_nextToken_133 (by decide) ?_
        exact ih  s46 h
    · refine gw_ic_ne_t (pc' := 136) cx c40 dX5_nextToken_106 (by decide) ?_
      exact w_X5_nextToken_L136 cx tg FU σ h
def f_X5_nextToken_L8 : Nat → Sg → Option (Sg)
  | 0, _ => none
  | n + 1, σ =>
    ob0 (f_X5_byteAt (σ 49 14) σ) fun r4 =>
    if r4 = 32 then
      lt (up2 σ 49 14 ((σ 49 14) + 1)) fun s6 =>
      f_X5_nextToken_L8 n s6
    else
      lt (up2 σ 49 15 (σ 49 14)) fun s8 =>
      ob0 (f_X5_byteAt (s8 49 14) s8) fun r11 =>
      if 0 ≤ r11 then
        ob0 (f_X5_isLetter r11 s8) fun r14 =>
        if r14 = 0 then
          ob0 (f_X5_isDigit r11 s8) fun r17 =>
          if r17 = 0 then
            if r11 = 59 then
              lt (up2 s8 49 13 3) fun s20 =>
              lt (up2 s20 49 16 0) fun s22 =>
              f_X5_nextToken_L101 FU s22
            else
              lt (up2 s8 49 13 4) fun s24 =>
              lt (up2 s24 49 16 0) fun s26 =>
              f_X5_nextToken_L101 FU s26
          else
            lt (up2 s8 49 13 2) fun s28 =>
            lt (up2 s28 49 16 0) fun s30 =>
            f_X5_nextToken_L101 FU s30
        else
          lt (up2 s8 49 13 1) fun s32 =>
          lt (up2 s32 49 16 0) fun s34 =>
          f_X5_nextToken_L101 FU s34
      else
        lt (up2 s8 49 13 0) fun s36 =>
        lt (up2 s36 49 16 0) fun s38 =>
        f_X5_nextToken_L101 FU s38
theorem w_X5_nextToken_L8 {E : Ev} {fr : Fr} {σ' : Sg} (cx : Cx E mX5_nextToken 1 fr) (tg : Tg E fr none none σ')  : ∀ (n : Nat) (σ : Sg), f_X5_nextToken_L8 n σ = some σ' → GW E fr 2 8 [(0, .ref (eA E 49))] [] σ := by
  intro n
  induction n with
  | zero => intro σ h; cases (show (none : Option (Sg)) = _ from h)
  | succ n ih =>
    intro σ h
    rw [f_X5_nextToken_L8] at h
    refine gw_aload_n (pc' := 9) cx 0 rfl rfl dX5_nextToken_8 rfl ?_
    refine gw_aload_n (pc' := 10) cx 0 rfl rfl dX5_nextToken_9 rfl ?_
    refine gw_getI (pc' := 13) cx at49 rfl fl_X5_198 dX5_nextToken_10 rfl ?_
    obtain ⟨r4, g3, h⟩ := ob0_some h
    refine gw_cV (pc' := 16) (av := [.int (σ 49 14)]) (rest := []) cx (k_X5_byteAt E g3) at49 (by decide) lk_X5_201 dX5_nextToken_13 rfl (Nat.le_of_ble_eq_true rfl) rfl ?_
    show GW E fr _ 16 _ (.int r4 :: _) _
    refine gw_bipush (pc' := 18) (v := 32) cx cb_32 dX5_nextToken_16 rfl ?_
    rcases ite_some h with ⟨c5, h⟩ | ⟨c5, h⟩
    · refine gw_ic_ne_f (pc' := 21) cx c5 dX5_nextToken_18 ⟨34, by decide⟩ rfl ?_
      refine gw_aload_n (pc' := 22) cx 0 rfl rfl dX5_nextToken_21 rfl ?_
      refine gw_dup (pc' := 23) cx rfl dX5_nextToken_22 rfl ?_
      refine gw_getI (pc' := 26) cx at49 rfl fl_X5_198 dX5_nextToken_23 rfl ?_
      refine gw_iconst (pc' := 27) (v := 1) cx ci_1 dX5_nextToken_26 rfl ?_
      refine gw_iadd (pc' := 28) cx dX5_nextToken_27 rfl ?_
      obtain ⟨s6, e7, h⟩ := lt_some h
      refine gw_put (pc' := 31) cx at49 rfl fp_X5_198 ⟨rfl, rfl⟩ dX5_nextToken_28 rfl e7 ?_
      refine gw_goto (pc' := 8) cx dX5_nextToken_31 (by decide) ?_
      exact ih  s6 h
    · refine gw_ic_ne_t (pc' := 34) cx c5 dX5_nextToken_18 (by decide) ?_
      refine gw_aload_n (pc' := 35) cx 0 rfl rfl dX5_nextToken_34 rfl ?_
      refine gw_aload_n (pc' := 36) cx 0 rfl rfl dX5_nextToken_35 rfl ?_
      refine gw_getI (pc' := 39) cx at49 rfl fl_X5_198 dX5_nextToken_36 rfl ?_
      obtain ⟨s8, e9, h⟩ := lt_some h
      refine gw_put (pc' := 42) cx at49 rfl fp_X5_195 ⟨rfl, rfl⟩ dX5_nextToken_39 rfl e9 ?_
      refine gw_aload_n (pc' := 43) cx 0 rfl rfl dX5_nextToken_42 rfl ?_
      refine gw_aload_n (pc' := 44) cx 0 rfl rfl dX5_nextToken_43 rfl ?_
      refine gw_getI (pc' := 47) cx at49 rfl fl_X5_198 dX5_nextToken_44 rfl ?_
      obtain ⟨r11, g10, h⟩ := ob0_some h
      refine gw_cV (pc' := 50) (av := [.int (s8 49 14)]) (rest := []) cx (k_X5_byteAt E g10) at49 (by decide) lk_X5_201 dX5_nextToken_47 rfl (Nat.le_of_ble_eq_true rfl) rfl ?_
      show GW E fr _ 50 _ (.int r11 :: _) _
      refine gw_istore_n (pc' := 51) (lv' := [(1, .int r11), (0, .ref (eA E 49))]) cx rfl rfl (by decide) dX5_nextToken_50 rfl ?_
      refine gw_aload_n (pc' := 52) cx 1 rfl rfl dX5_nextToken_51 rfl ?_
      refine gw_iload_n (pc' := 53) cx 0 rfl rfl dX5_nextToken_52 rfl ?_
      rcases ite_some h with ⟨c12, h⟩ | ⟨c12, h⟩
      · refine gw_if_ge_t (pc' := 60) cx c12 dX5_nextToken_53 (by decide) ?_
        refine gw_iload_n (pc' := 61) cx 0 rfl rfl dX5_nextToken_60 rfl ?_
        obtain ⟨r14, g13, h⟩ := ob0_some h
        refine gw_cS (pc' := 64) (av := [.int r11]) (rest := [.ref (eA E 49)]) cx (k_X5_isLetter E g13) (by decide) lk_X5_204 dX5_nextToken_61 rfl (Nat.le_of_ble_eq_true rfl) rfl ?_
        show GW E fr _ 64 _ (.int r14 :: _) _
        rcases ite_some h with ⟨c15, h⟩ | ⟨c15, h⟩
        · refine gw_if_eq_t (pc' := 71) cx c15 dX5_nextToken_64 (by decide) ?_
          refine gw_iload_n (pc' := 72) cx 0 rfl rfl dX5_nextToken_71 rfl ?_
          obtain ⟨r17, g16, h⟩ := ob0_some h
          refine gw_cS (pc' := 75) (av := [.int r11]) (rest := [.ref (eA E 49)]) cx (k_X5_isDigit E g16) (by decide) lk_X5_207 dX5_nextToken_72 rfl (Nat.le_of_ble_eq_true rfl) rfl ?_
          show GW E fr _ 75 _ (.int r17 :: _) _
          rcases ite_some h with ⟨c18, h⟩ | ⟨c18, h⟩
          · refine gw_if_eq_t (pc' := 82) cx c18 dX5_nextToken_75 (by decide) ?_
            refine gw_iload_n (pc' := 83) cx 0 rfl rfl dX5_nextToken_82 rfl ?_
            refine gw_bipush (pc' := 85) (v := 59) cx cb_59 dX5_nextToken_83 rfl ?_
            rcases ite_some h with ⟨c19, h⟩ | ⟨c19, h⟩
            · refine gw_ic_ne_f (pc' := 88) cx c19 dX5_nextToken_85 ⟨92, by decide⟩ rfl ?_
              refine gw_iconst (pc' := 89) (v := 3) cx ci_3 dX5_nextToken_88 rfl ?_
              refine gw_goto (pc' := 93) cx dX5_nextToken_89 (by decide) ?_
              obtain ⟨s20, e21, h⟩ := lt_some h
              refine gw_put (pc' := 96) cx at49 rfl fp_X5_210 ⟨rfl, rfl⟩ dX5_nextToken_93 rfl e21 ?_
              refine gw_aload_n (pc' := 97) cx 1 rfl rfl dX5_nextToken_96 rfl ?_
              refine gw_iconst (pc' := 98) (v := 0) cx ci_0 dX5_nextToken_97 rfl ?_
              obtain ⟨s22, e23, h⟩ := lt_some h
              refine gw_put (pc' := 101) cx at49 rfl fp_X5_213 ⟨rfl, rfl⟩ dX5_nextToken_98 rfl e23 ?_
              refine gw_sub [1] (lv' := [(0, .ref (eA E 49))]) rfl ?_
              exact w_X5_nextToken_L101 cx tg FU s22 h
            · refine gw_ic_ne_t (pc' := 92) cx c19 dX5_nextToken_85 (by decide) ?_
              refine gw_iconst (pc' := 93) (v := 4) cx ci_4 dX5_nextToken_92 rfl ?_
              obtain ⟨s24, e25, h⟩ := lt_some h
              refine gw_put (pc' := 96) cx at49 rfl fp_X5_210 ⟨rfl, rfl⟩ dX5_nextToken_93 rfl e25 ?_
              refine gw_aload_n (pc' := 97) cx 1 rfl rfl dX5_nextToken_96 rfl ?_
              refine gw_iconst (pc' := 98) (v := 0) cx ci_0 dX5_nextToken_97 rfl ?_
              obtain ⟨s26, e27, h⟩ := lt_some h
              refine gw_put (pc' := 101) cx at49 rfl fp_X5_213 ⟨rfl, rfl⟩ dX5_nextToken_98 rfl e27 ?_
              refine gw_sub [1] (lv' := [(0, .ref (eA E 49))]) rfl ?_
              exact w_X5_nextToken_L101 cx tg FU s26 h
          · refine gw_if_eq_f (pc' := 78) cx c18 dX5_nextToken_75 ⟨82, by decide⟩ rfl ?_
            refine gw_iconst (pc' := 79) (v := 2) cx ci_2 dX5_nextToken_78 rfl ?_
            refine gw_goto (pc' := 93) cx dX5_nextToken_79 (by decide) ?_
            obtain ⟨s28, e29, h⟩ := lt_some h
            refine gw_put (pc' := 96) cx at49 rfl fp_X5_210 ⟨rfl, rfl⟩ dX5_nextToken_93 rfl e29 ?_
            refine gw_aload_n (pc' := 97) cx 1 rfl rfl dX5_nextToken_96 rfl ?_
            refine gw_iconst (pc' := 98) (v := 0) cx ci_0 dX5_nextToken_97 rfl ?_
            obtain ⟨s30, e31, h⟩ := lt_some h
            refine gw_put (pc' := 101) cx at49 rfl fp_X5_213 ⟨rfl, rfl⟩ dX5_nextToken_98 rfl e31 ?_
            refine gw_sub [1] (lv' := [(0, .ref (eA E 49))]) rfl ?_
            exact w_X5_nextToken_L101 cx tg FU s30 h
        · refine gw_if_eq_f (pc' := 67) cx c15 dX5_nextToken_64 ⟨71, by decide⟩ rfl ?_
          refine gw_iconst (pc' := 68) (v := 1) cx ci_1 dX5_nextToken_67 rfl ?_
          refine gw_goto (pc' := 93) cx dX5_nextToken_68 (by decide) ?_
          obtain ⟨s32, e33, h⟩ := lt_some h
          refine gw_put (pc' := 96) cx at49 rfl fp_X5_210 ⟨rfl, rfl⟩ dX5_nextToken_93 rfl e33 ?_
          refine gw_aload_n (pc' := 97) cx 1 rfl rfl dX5_nextToken_96 rfl ?_
          refine gw_iconst (pc' := 98) (v := 0) cx ci_0 dX5_nextToken_97 rfl ?_
          obtain ⟨s34, e35, h⟩ := lt_some h
          refine gw_put (pc' := 101) cx at49 rfl fp_X5_213 ⟨rfl, rfl⟩ dX5_nextToken_98 rfl e35 ?_
          refine gw_sub [1] (lv' := [(0, .ref (eA E 49))]) rfl ?_
          exact w_X5_nextToken_L101 cx tg FU s34 h
      · refine gw_if_ge_f (pc' := 56) cx c12 dX5_nextToken_53 ⟨60, by decide⟩ rfl ?_
        refine gw_iconst (pc' := 57) (v := 0) cx ci_0 dX5_nextToken_56 rfl ?_
        refine gw_goto (pc' := 93) cx dX5_nextToken_57 (by decide) ?_
        obtain ⟨s36, e37, h⟩ := lt_some h
        refine gw_put (pc' := 96) cx at49 rfl fp_X5_210 ⟨rfl, rfl⟩ dX5_nextToken_93 rfl e37 ?_
        refine gw_aload_n (pc' := 97) cx 1 rfl rfl dX5_nextToken_96 rfl ?_
        refine gw_iconst (pc' := 98) (v := 0) cx ci_0 dX5_nextToken_97 rfl ?_
        obtain ⟨s38, e39, h⟩ := lt_some h
        refine gw_put (pc' := 101) cx at49 rfl fp_X5_213 ⟨rfl, rfl⟩ dX5_nextToken_98 rfl e39 ?_
        refine gw_sub [1] (lv' := [(0, .ref (eA E 49))]) rfl ?_
        exact w_X5_nextToken_L101 cx tg FU s38 h
def f_X5_nextToken (σ : Sg) : Option (Sg) :=
  lt (up2 σ 49 14 (σ 49 15)) fun s1 =>
  f_X5_nextToken_L8 FU s1
theorem k_X5_nextToken (E : Ev)  {σ : Sg} {σ' : Sg} (h : f_X5_nextToken σ = some σ') : Con E mX5_nextToken 1 [.ref (eA E 49)] σ none σ' := by
  refine con_of (by decide) (Nat.le_of_ble_eq_true rfl) (fun fr cx tg => ?_)
  show GW E fr 2 0 [(0, .ref (eA E 49))] [] σ
  rw [f_X5_nextToken] at h
  refine gw_aload_n (pc' := 1) cx 0 rfl rfl dX5_nextToken_0 rfl ?_
  refine gw_aload_n (pc' := 2) cx 0 rfl rfl dX5_nextToken_1 rfl ?_
  refine gw_getI (pc' := 5) cx at49 rfl fl_X5_195 dX5_nextToken_2 rfl ?_
  obtain ⟨s1, e2, h⟩ := lt_some h
  refine gw_put (pc' := 8) cx at49 rfl fp_X5_198 ⟨rfl, rfl⟩ dX5_nextToken_5 rfl e2 ?_
  exact w_X5_nextToken_L8 cx tg FU s1 h
def f_X5_has3 (x1 : Int32) (x2 : Int32) (x3 : Int32) (x4 : Int32) (σ : Sg) : Option (Int32) :=
  ob0 (f_X5_byteAt ((σ 49 14) + x1) σ) fun r2 =>
  if r2 = x2 then
    ob0 (f_X5_byteAt (((σ 49 14) + x1) + 1) σ) fun r5 =>
    if r5 = x3 then
      ob0 (f_X5_byteAt (((σ 49 14) + x1) + 2) σ) fun r8 =>
      if r8 = x4 then
        some 1
      else
        some 0
    else
      some 0
  else
    some 0
theorem k_X5_has3 (E : Ev) {x1 : Int32} {x2 : Int32} {x3 : Int32} {x4 : Int32} {σ : Sg} {r : Int32} (h : f_X5_has3 x1 x2 x3 x4 σ = some r) : Con E mX5_has3 1 [.ref (eA E 49), .int x1, .int x2, .int x3, .int x4] σ (some (.int r)) σ := by
  refine con_of (by decide) (Nat.le_of_ble_eq_true rfl) (fun fr cx tg => ?_)
  show GW E fr 5 0 [(0, .ref (eA E 49)), (1, .int x1), (2, .int x2), (3, .int x3), (4, .int x4)] [] σ
  rw [f_X5_has3] at h
  refine gw_aload_n (pc' := 1) cx 0 rfl rfl dX5_has3_0 rfl ?_
  refine gw_aload_n (pc' := 2) cx 0 rfl rfl dX5_has3_1 rfl ?_
  refine gw_getI (pc' := 5) cx at49 rfl fl_X5_198 dX5_has3_2 rfl ?_
  refine gw_iload_n (pc' := 6) cx 1 rfl rfl dX5_has3_5 rfl ?_
  refine gw_iadd (pc' := 7) cx dX5_has3_6 rfl ?_
  obtain ⟨r2, g1, h⟩ := ob0_some h
  refine gw_cV (pc' := 10) (av := [.int ((σ 49 14) + x1)]) (rest := []) cx (k_X5_byteAt E g1) at49 (by decide) lk_X5_201 dX5_has3_7 rfl (Nat.le_of_ble_eq_true rfl) rfl ?_
  show GW E fr _ 10 _ (.int r2 :: _) _
  refine gw_iload_n (pc' := 11) cx 2 rfl rfl dX5_has3_10 rfl ?_
  rcases ite_some h with ⟨c3, h⟩ | ⟨c3, h⟩
  · refine gw_ic_ne_f (pc' := 14) cx c3 dX5_has3_11 ⟨51, by decide⟩ rfl ?_
    refine gw_aload_n (pc' := 15) cx 0 rfl rfl dX5_has3_14 rfl ?_
    refine gw_aload_n (pc' := 16) cx 0 rfl rfl dX5_has3_15 rfl ?_
    refine gw_getI (pc' := 19) cx at49 rfl fl_X5_198 dX5_has3_16 rfl ?_
    refine gw_iload_n (pc' := 20) cx 1 rfl rfl dX5_has3_19 rfl ?_
    refine gw_iadd (pc' := 21) cx dX5_has3_20 rfl ?_
    refine gw_iconst (pc' := 22) (v := 1) cx ci_1 dX5_has3_21 rfl ?_
    refine gw_iadd (pc' := 23) cx dX5_has3_22 rfl ?_
    obtain ⟨r5, g4, h⟩ := ob0_some h
    refine gw_cV (pc' := 26) (av := [.int (((σ 49 14) + x1) + 1)]) (rest := []) cx (k_X5_byteAt E g4) at49 (by decide) lk_X5_201 dX5_has3_23 rfl (Nat.le_of_ble_eq_true rfl) rfl ?_
    show GW E fr _ 26 _ (.int r5 :: _) _
    refine gw_iload_n (pc' := 27) cx 3 rfl rfl dX5_has3_26 rfl ?_
    rcases ite_some h with ⟨c6, h⟩ | ⟨c6, h⟩
    · refine gw_ic_ne_f (pc' := 30) cx c6 dX5_has3_27 ⟨51, by decide⟩ rfl ?_
      refine gw_aload_n (pc' := 31) cx 0 rfl rfl dX5_has3_30 rfl ?_
      refine gw_aload_n (pc' := 32) cx 0 rfl rfl dX5_has3_31 rfl ?_
      refine gw_getI (pc' := 35) cx at49 rfl fl_X5_198 dX5_has3_32 rfl ?_
      refine gw_iload_n (pc' := 36) cx 1 rfl rfl dX5_has3_35 rfl ?_
      refine gw_iadd (pc' := 37) cx dX5_has3_36 rfl ?_
      refine gw_iconst (pc' := 38) (v := 2) cx ci_2 dX5_has3_37 rfl ?_
      refine gw_iadd (pc' := 39) cx dX5_has3_38 rfl ?_
      obtain ⟨r8, g7, h⟩ := ob0_some h
      refine gw_cV (pc' := 42) (av := [.int (((σ 49 14) + x1) + 2)]) (rest := []) cx (k_X5_byteAt E g7) at49 (by decide) lk_X5_201 dX5_has3_39 rfl (Nat.le_of_ble_eq_true rfl) rfl ?_
      show GW E fr _ 42 _ (.int r8 :: _) _
      refine gw_iload (pc' := 44) cx 4 rfl dX5_has3_42 rfl ?_
      rcases ite_some h with ⟨c9, h⟩ | ⟨c9, h⟩
      · refine gw_ic_ne_f (pc' := 47) cx c9 dX5_has3_44 ⟨51, by decide⟩ rfl ?_
        refine gw_iconst (pc' := 48) (v := 1) cx ci_1 dX5_has3_47 rfl ?_
        refine gw_goto (pc' := 52) cx dX5_has3_48 (by decide) ?_
        exact gw_zret cx tg (Or.inr rfl) (rt0 h) rfl dX5_has3_52
      · refine gw_ic_ne_t (pc' := 51) cx c9 dX5_has3_44 (by decide) ?_
        refine gw_iconst (pc' := 52) (v := 0) cx ci_0 dX5_has3_51 rfl ?_
        exact gw_zret cx tg (Or.inl rfl) (rt0 h) rfl dX5_has3_52
    · refine gw_ic_ne_t (pc' := 51) cx c6 dX5_has3_27 (by decide) ?_
      refine gw_iconst (pc' := 52) (v := 0) cx ci_0 dX5_has3_51 rfl ?_
      exact gw_zret cx tg (Or.inl rfl) (rt0 h) rfl dX5_has3_52
  · refine gw_ic_ne_t (pc' := 51) cx c3 dX5_has3_11 (by decide) ?_
    refine gw_iconst (pc' := 52) (v := 0) cx ci_0 dX5_has3_51 rfl ?_
    exact gw_zret cx tg (Or.inl rfl) (rt0 h) rfl dX5_has3_52
def f_X5_isWord (x1 : Int32) (σ : Sg) : Option (Int32) :=
  if (σ 49 13) = 1 then
    if ((σ 49 15) - (σ 49 14)) = x1 then
      some 1
    else
      some 0
  else
    some 0
theorem k_X5_isWord (E : Ev) {x1 : Int32} {σ : Sg} {r : Int32} (h : f_X5_isWord x1 σ = some r) : Con E mX5_isWord 0 [.ref (eA E 49), .int x1] σ (some (.int r)) σ := by
  refine con_of (by decide) (Nat.le_of_ble_eq_true rfl) (fun fr cx tg => ?_)
  show GW E fr 2 0 [(0, .ref (eA E 49)), (1, .int x1)] [] σ
  rw [f_X5_isWord] at h
  refine gw_aload_n (pc' := 1) cx 0 rfl rfl dX5_isWord_0 rfl ?_
  refine gw_getI (pc' := 4) cx at49 rfl fl_X5_210 dX5_isWord_1 rfl ?_
  refine gw_iconst (pc' := 5) (v := 1) cx ci_1 dX5_isWord_4 rfl ?_
  rcases ite_some h with ⟨c1, h⟩ | ⟨c1, h⟩
  · refine gw_ic_ne_f (pc' := 8) cx c1 dX5_isWord_5 ⟨25, by decide⟩ rfl ?_
    refine gw_aload_n (pc' := 9) cx 0 rfl rfl dX5_isWord_8 rfl ?_
    refine gw_getI (pc' := 12) cx at49 rfl fl_X5_195 dX5_isWord_9 rfl ?_
    refine gw_aload_n (pc' := 13) cx 0 rfl rfl dX5_isWord_12 rfl ?_
    refine gw_getI (pc' := 16) cx at49 rfl fl_X5_198 dX5_isWord_13 rfl ?_
    refine gw_isub (pc' := 17) cx dX5_isWord_16 rfl ?_
    refine gw_iload_n (pc' := 18) cx 1 rfl rfl dX5_isWord_17 rfl ?_
    rcases ite_some h with ⟨c2, h⟩ | ⟨c2, h⟩
    · refine gw_ic_ne_f (pc' := 21) cx c2 dX5_isWord_18 ⟨25, by decide⟩ rfl ?_
      refine gw_iconst (pc' := 22) (v := 1) cx ci_1 dX5_isWord_21 rfl ?_
      refine gw_goto (pc' := 26) cx dX5_isWord_22 (by decide) ?_
      exact gw_zret cx tg (Or.inr rfl) (rt0 h) rfl dX5_isWord_26
    · refine gw_ic_ne_t (pc' := 25) cx c2 dX5_isWord_18 (by decide) ?_
      refine gw_iconst (pc' := 26) (v := 0) cx ci_0 dX5_isWord_25 rfl ?_
      exact gw_zret cx tg (Or.inl rfl) (rt0 h) rfl dX5_isWord_26
  · refine gw_ic_ne_t (pc' := 25) cx c1 dX5_isWord_5 (by decide) ?_
    refine gw_iconst (pc' := 26) (v := 0) cx ci_0 dX5_isWord_25 rfl ?_
    exact gw_zret cx tg (Or.inl rfl) (rt0 h) rfl dX5_isWord_26
def f_X5_fails (σ : Sg) : Option (Int32 × Sg) :=
  lt (up2 σ 49 17 (σ 49 14)) fun s1 =>
  some (0, s1)
theorem k_X5_fails (E : Ev)  {σ : Sg} {r : Int32} {σ' : Sg} (h : f_X5_fails σ = some (r, σ')) : Con E mX5_fails 0 [.ref (eA E 49)] σ (some (.int r)) σ' := by
  refine con_of (by decide) (Nat.le_of_ble_eq_true rfl) (fun fr cx tg => ?_)
  show GW E fr 1 0 [(0, .ref (eA E 49))] [] σ
  rw [f_X5_fails] at h
  refine gw_aload_n (pc' := 1) cx 0 rfl rfl dX5_fails_0 rfl ?_
  refine gw_aload_n (pc' := 2) cx 0 rfl rfl dX5_fails_1 rfl ?_
  refine gw_getI (pc' := 5) cx at49 rfl fl_X5_198 dX5_fails_2 rfl ?_
  obtain ⟨s1, e2, h⟩ := lt_some h
  refine gw_put (pc' := 8) cx at49 rfl fp_X5_216 ⟨rfl, rfl⟩ dX5_fails_5 rfl e2 ?_
  refine gw_iconst (pc' := 9) (v := 0) cx ci_0 dX5_fails_8 rfl ?_
  exact gw_zret cx tg (Or.inl rfl) (rt1 h) (rt2 h) dX5_fails_9
def f_X5_isFour (x1 : Int32) (x2 : Int32) (x3 : Int32) (x4 : Int32) (σ : Sg) : Option (Int32) :=
  ob0 (f_X5_isWord 4 σ) fun r2 =>
  if r2 = 0 then
    some 0
  else
    ob0 (f_X5_has3 0 x1 x2 x3 σ) fun r5 =>
    if r5 = 0 then
      some 0
    else
      ob0 (f_X5_has3 1 x2 x3 x4 σ) fun r8 =>
      if r8 = 0 then
        some 0
      else
        some 1
theorem k_X5_isFour (E : Ev) {x1 : Int32} {x2 : Int32} {x3 : Int32} {x4 : Int32} {σ : Sg} {r : Int32} (h : f_X5_isFour x1 x2 x3 x4 σ = some r) : Con E mX5_isFour 2 [.ref (eA E 49), .int x1, .int x2, .int x3, .int x4] σ (some (.int r)) σ := by
  refine con_of (by decide) (Nat.le_of_ble_eq_true rfl) (fun fr cx tg => ?_)
  show GW E fr 5 0 [(0, .ref (eA E 49)), (1, .int x1), (2, .int x2), (3, .int x3), (4, .int x4)] [] σ
  rw [f_X5_isFour] at h
  refine gw_aload_n (pc' := 1) cx 0 rfl rfl dX5_isFour_0 rfl ?_
  refine gw_iconst (pc' := 2) (v := 4) cx ci_4 dX5_isFour_1 rfl ?_
  obtain ⟨r2, g1, h⟩ := ob0_some h
  refine gw_cV (pc' := 5) (av := [.int 4]) (rest := []) cx (k_X5_isWord E g1) at49 (by decide) lk_X5_219 dX5_isFour_2 rfl (Nat.le_of_ble_eq_true rfl) rfl ?_
  show GW E fr _ 5 _ (.int r2 :: _) _
  rcases ite_some h with ⟨c3, h⟩ | ⟨c3, h⟩
  · refine gw_if_eq_t (pc' := 35) cx c3 dX5_isFour_5 (by decide) ?_
    refine gw_iconst (pc' := 36) (v := 0) cx ci_0 dX5_isFour_35 rfl ?_
    exact gw_zret cx tg (Or.inl rfl) (rt0 h) rfl dX5_isFour_36
  · refine gw_if_eq_f (pc' := 8) cx c3 dX5_isFour_5 ⟨35, by decide⟩ rfl ?_
    refine gw_aload_n (pc' := 9) cx 0 rfl rfl dX5_isFour_8 rfl ?_
    refine gw_iconst (pc' := 10) (v := 0) cx ci_0 dX5_isFour_9 rfl ?_
    refine gw_iload_n (pc' := 11) cx 1 rfl rfl dX5_isFour_10 rfl ?_
    refine gw_iload_n (pc' := 12) cx 2 rfl rfl dX5_isFour_11 rfl ?_
    refine gw_iload_n (pc' := 13) cx 3 rfl rfl dX5_isFour_12 rfl ?_
    obtain ⟨r5, g4, h⟩ := ob0_some h
    refine gw_cV (pc' := 16) (av := [.int 0, .int x1, .int x2, .int x3]) (rest := []) cx (k_X5_has3 E g4) at49 (by decide) lk_X5_222 dX5_isFour_13 rfl (Nat.le_of_ble_eq_true rfl) rfl ?_
    show GW E fr _ 16 _ (.int r5 :: _) _
    rcases ite_some h with ⟨c6, h⟩ | ⟨c6, h⟩
    · refine gw_if_eq_t (pc' := 35) cx c6 dX5_isFour_16 (by decide) ?_
      refine gw_iconst (pc' := 36) (v := 0) cx ci_0 dX5_isFour_35 rfl ?_
      exact gw_zret cx tg (Or.inl rfl) (rt0 h) rfl dX5_isFour_36
    · refine gw_if_eq_f (pc' := 19) cx c6 dX5_isFour_16 ⟨35, by decide⟩ rfl ?_
      refine gw_aload_n (pc' := 20) cx 0 rfl rfl dX5_isFour_19 rfl ?_
      refine gw_iconst (pc' := 21) (v := 1) cx ci_1 dX5_isFour_20 rfl ?_
      refine gw_iload_n (pc' := 22) cx 2 rfl rfl dX5_isFour_21 rfl ?_
      refine gw_iload_n (pc' := 23) cx 3 rfl rfl dX5_isFour_22 rfl ?_
      refine gw_iload (pc' := 25) cx 4 rfl dX5_isFour_23 rfl ?_
      obtain ⟨r8, g7, h⟩ := ob0_some h
      refine gw_cV (pc' := 28) (av := [.int 1, .int x2, .int x3, .int x4]) (rest := []) cx (k_X5_has3 E g7) at49 (by decide) lk_X5_222 dX5_isFour_25 rfl (Nat.le_of_ble_eq_true rfl) rfl ?_
      show GW E fr _ 28 _ (.int r8 :: _) _
      rcases ite_some h with ⟨c9, h⟩ | ⟨c9, h⟩
      · refine gw_if_eq_t (pc' := 35) cx c9 dX5_isFour_28 (by decide) ?_
        refine gw_iconst (pc' := 36) (v := 0) cx ci_0 dX5_isFour_35 rfl ?_
        exact gw_zret cx tg (Or.inl rfl) (rt0 h) rfl dX5_isFour_36
      · refine gw_if_eq_f (pc' := 31) cx c9 dX5_isFour_28 ⟨35, by decide⟩ rfl ?_
        refine gw_iconst (pc' := 32) (v := 1) cx ci_1 dX5_isFour_31 rfl ?_
        refine gw_goto (pc' := 36) cx dX5_isFour_32 (by decide) ?_
        exact gw_zret cx tg (Or.inr rfl) (rt0 h) rfl dX5_isFour_36
def f_X5_isFive (x1 : Int32) (x2 : Int32) (x3 : Int32) (x4 : Int32) (x5 : Int32) (σ : Sg) : Option (Int32) :=
  ob0 (f_X5_isWord 5 σ) fun r2 =>
  if r2 = 0 then
    some 0
  else
    ob0 (f_X5_has3 0 x1 x2 x3 σ) fun r5 =>
    if r5 = 0 then
      some 0
    else
      ob0 (f_X5_has3 2 x3 x4 x5 σ) fun r8 =>
      if r8 = 0 then
        some 0
      else
        some 1
theorem k_X5_isFive (E : Ev) {x1 : Int32} {x2 : Int32} {x3 : Int32} {x4 : Int32} {x5 : Int32} {σ : Sg} {r : Int32} (h : f_X5_isFive x1 x2 x3 x4 x5 σ = some r) : Con E mX5_isFive 2 [.ref (eA E 49), .int x1, .int x2, .int x3, .int x4, .int x5] σ (some (.int r)) σ := by
  refine con_of (by decide) (Nat.le_of_ble_eq_true rfl) (fun fr cx tg => ?_)
  show GW E fr 6 0 [(0, .ref (eA E 49)), (1, .int x1), (2, .int x2), (3, .int x3), (4, .int x4), (5, .int x5)] [] σ
  rw [f_X5_isFive] at h
  refine gw_aload_n (pc' := 1) cx 0 rfl rfl dX5_isFive_0 rfl ?_
  refine gw_iconst (pc' := 2) (v := 5) cx ci_5 dX5_isFive_1 rfl ?_
  obtain ⟨r2, g1, h⟩ := ob0_some h
  refine gw_cV (pc' := 5) (av := [.int 5]) (rest := []) cx (k_X5_isWord E g1) at49 (by decide) lk_X5_219 dX5_isFive_2 rfl (Nat.le_of_ble_eq_true rfl) rfl ?_
  show GW E fr _ 5 _ (.int r2 :: _) _
  rcases ite_some h with ⟨c3, h⟩ | ⟨c3, h⟩
  · refine gw_if_eq_t (pc' := 36) cx c3 dX5_isFive_5 (by decide) ?_
    refine gw_iconst (pc' := 37) (v := 0) cx ci_0 dX5_isFive_36 rfl ?_
    exact gw_zret cx tg (Or.inl rfl) (rt0 h) rfl dX5_isFive_37
  · refine gw_if_eq_f (pc' := 8) cx c3 dX5_isFive_5 ⟨36, by decide⟩ rfl ?_
    refine gw_aload_n (pc' := 9) cx 0 rfl rfl dX5_isFive_8 rfl ?_
    refine gw_iconst (pc' := 10) (v := 0) cx ci_0 dX5_isFive_9 rfl ?_
    refine gw_iload_n (pc' := 11) cx 1 rfl rfl dX5_isFive_10 rfl ?_
    refine gw_iload_n (pc' := 12) cx 2 rfl rfl dX5_isFive_11 rfl ?_
    refine gw_iload_n (pc' := 13) cx 3 rfl rfl dX5_isFive_12 rfl ?_
    obtain ⟨r5, g4, h⟩ := ob0_some h
    refine gw_cV (pc' := 16) (av := [.int 0, .int x1, .int x2, .int x3]) (rest := []) cx (k_X5_has3 E g4) at49 (by decide) lk_X5_222 dX5_isFive_13 rfl (Nat.le_of_ble_eq_true rfl) rfl ?_
    show GW E fr _ 16 _ (.int r5 :: _) _
    rcases ite_some h with ⟨c6, h⟩ | ⟨c6, h⟩
    · refine gw_if_eq_t (pc' := 36) cx c6 dX5_isFive_16 (by decide) ?_
      refine gw_iconst (pc' := 37) (v := 0) cx ci_0 dX5_isFive_36 rfl ?_
      exact gw_zret cx tg (Or.inl rfl) (rt0 h) rfl dX5_isFive_37
    · refine gw_if_eq_f (pc' := 19) cx c6 dX5_isFive_16 ⟨36, by decide⟩ rfl ?_
      refine gw_aload_n (pc' := 20) cx 0 rfl rfl dX5_isFive_19 rfl ?_
      refine gw_iconst (pc' := 21) (v := 2) cx ci_2 dX5_isFive_20 rfl ?_
      refine gw_iload_n (pc' := 22) cx 3 rfl rfl dX5_isFive_21 rfl ?_
      refine gw_iload (pc' := 24) cx 4 rfl dX5_isFive_22 rfl ?_
      refine gw_iload (pc' := 26) cx 5 rfl dX5_isFive_24 rfl ?_
      obtain ⟨r8, g7, h⟩ := ob0_some h
      refine gw_cV (pc' := 29) (av := [.int 2, .int x3, .int x4, .int x5]) (rest := []) cx (k_X5_has3 E g7) at49 (by decide) lk_X5_222 dX5_isFive_26 rfl (Nat.le_of_ble_eq_true rfl) rfl ?_
      show GW E fr _ 29 _ (.int r8 :: _) _
      rcases ite_some h with ⟨c9, h⟩ | ⟨c9, h⟩
      · refine gw_if_eq_t (pc' := 36) cx c9 dX5_isFive_29 (by decide) ?_
        refine gw_iconst (pc' := 37) (v := 0) cx ci_0 dX5_isFive_36 rfl ?_
        exact gw_zret cx tg (Or.inl rfl) (rt0 h) rfl dX5_isFive_37
      · refine gw_if_eq_f (pc' := 32) cx c9 dX5_isFive_29 ⟨36, by decide⟩ rfl ?_
        refine gw_iconst (pc' := 33) (v := 1) cx ci_1 dX5_isFive_32 rfl ?_
        refine gw_goto (pc' := 37) cx dX5_isFive_33 (by decide) ?_
        exact gw_zret cx tg (Or.inr rfl) (rt0 h) rfl dX5_isFive_37
def f_X5_isSix (x1 : Int32) (x2 : Int32) (x3 : Int32) (x4 : Int32) (x5 : Int32) (x6 : Int32) (σ : Sg) : Option (Int32) :=
  ob0 (f_X5_isWord 6 σ) fun r2 =>
  if r2 = 0 then
    some 0
  else
    ob0 (f_X5_has3 0 x1 x2 x3 σ) fun r5 =>
    if r5 = 0 then
      some 0
    else
      ob0 (f_X5_has3 3 x4 x5 x6 σ) fun r8 =>
      if r8 = 0 then
        some 0
      else
        some 1
theorem k_X5_isSix (E : Ev) {x1 : Int32} {x2 : Int32} {x3 : Int32} {x4 : Int32} {x5 : Int32} {x6 : Int32} {σ : Sg} {r : Int32} (h : f_X5_isSix x1 x2 x3 x4 x5 x6 σ = some r) : Con E mX5_isSix 2 [.ref (eA E 49), .int x1, .int x2, .int x3, .int x4, .int x5, .int x6] σ (some (.int r)) σ := by
  refine con_of (by decide) (Nat.le_of_ble_eq_true rfl) (fun fr cx tg => ?_)
  show GW E fr 7 0 [(0, .ref (eA E 49)), (1, .int x1), (2, .int x2), (3, .int x3), (4, .int x4), (5, .int x5), (6, .int x6)] [] σ
  rw [f_X5_isSix] at h
  refine gw_aload_n (pc' := 1) cx 0 rfl rfl dX5_isSix_0 rfl ?_
  refine gw_bipush (pc' := 3) (v := 6) cx cb_6 dX5_isSix_1 rfl ?_
  obtain ⟨r2, g1, h⟩ := ob0_some h
  refine gw_cV (pc' := 6) (av := [.int 6]) (rest := []) cx (k_X5_isWord E g1) at49 (by decide) lk_X5_219 dX5_isSix_3 rfl (Nat.le_of_ble_eq_true rfl) rfl ?_
  show GW E fr _ 6 _ (.int r2 :: _) _
  rcases ite_some h with ⟨c3, h⟩ | ⟨c3, h⟩
  · refine gw_if_eq_t (pc' := 38) cx c3 dX5_isSix_6 (by decide) ?_
    refine gw_iconst (pc' := 39) (v := 0) cx ci_0 dX5_isSix_38 rfl ?_
    exact gw_zret cx tg (Or.inl rfl) (rt0 h) rfl dX5_isSix_39
  · refine gw_if_eq_f (pc' := 9) cx c3 dX5_isSix_6 ⟨38, by decide⟩ rfl ?_
    refine gw_aload_n (pc' := 10) cx 0 rfl rfl dX5_isSix_9 rfl ?_
    refine gw_iconst (pc' := 11) (v := 0) cx ci_0 dX5_isSix_10 rfl ?_
    refine gw_iload_n (pc' := 12) cx 1 rfl rfl dX5_isSix_11 rfl ?_
    refine gw_iload_n (pc' := 13) cx 2 rfl rfl dX5_isSix_12 rfl ?_
    refine gw_iload_n (pc' := 14) cx 3 rfl rfl dX5_isSix_13 rfl ?_
    obtain ⟨r5, g4, h⟩ := ob0_some h
    refine gw_cV (pc' := 17) (av := [.int 0, .int x1, .int x2, .int x3]) (rest := []) cx (k_X5_has3 E g4) at49 (by decide) lk_X5_222 dX5_isSix_14 rfl (Nat.le_of_ble_eq_true rfl) rfl ?_
    show GW E fr _ 17 _ (.int r5 :: _) _
    rcases ite_some h with ⟨c6, h⟩ | ⟨c6, h⟩
    · refine gw_if_eq_t (pc' := 38) cx c6 dX5_isSix_17 (by decide) ?_
      refine gw_iconst (pc' := 39) (v := 0) cx ci_0 dX5_isSix_38 rfl ?_
      exact gw_zret cx tg (Or.inl rfl) (rt0 h) rfl dX5_isSix_39
    · refine gw_if_eq_f (pc' := 20) cx c6 dX5_isSix_17 ⟨38, by decide⟩ rfl ?_
      refine gw_aload_n (pc' := 21) cx 0 rfl rfl dX5_isSix_20 rfl ?_
      refine gw_iconst (pc' := 22) (v := 3) cx ci_3 dX5_isSix_21 rfl ?_
      refine gw_iload (pc' := 24) cx 4 rfl dX5_isSix_22 rfl ?_
      refine gw_iload (pc' := 26) cx 5 rfl dX5_isSix_24 rfl ?_
      refine gw_iload (pc' := 28) cx 6 rfl dX5_isSix_26 rfl ?_
      obtain ⟨r8, g7, h⟩ := ob0_some h
      refine gw_cV (pc' := 31) (av := [.int 3, .int x4, .int x5, .int x6]) (rest := []) cx (k_X5_has3 E g7) at49 (by decide) lk_X5_222 dX5_isSix_28 rfl (Nat.le_of_ble_eq_true rfl) rfl ?_
      show GW E fr _ 31 _ (.int r8 :: _) _
      rcases ite_some h with ⟨c9, h⟩ | ⟨c9, h⟩
      · refine gw_if_eq_t (pc' := 38) cx c9 dX5_isSix_31 (by decide) ?_
        refine gw_iconst (pc' := 39) (v := 0) cx ci_0 dX5_isSix_38 rfl ?_
        exact gw_zret cx tg (Or.inl rfl) (rt0 h) rfl dX5_isSix_39
      · refine gw_if_eq_f (pc' := 34) cx c9 dX5_isSix_31 ⟨38, by decide⟩ rfl ?_
        refine gw_iconst (pc' := 35) (v := 1) cx ci_1 dX5_isSix_34 rfl ?_
        refine gw_goto (pc' := 39) cx dX5_isSix_35 (by decide) ?_
        exact gw_zret cx tg (Or.inr rfl) (rt0 h) rfl dX5_isSix_39
def f_X5_isNumber (x1 : Int32) (x2 : Int32) (σ : Sg) : Option (Int32 × Sg) :=
  if (σ 49 13) = 2 then
    ob0 (f_X5_isIn ((σ 49 16).toInt64) x1.toInt64 x2.toInt64 σ) fun r3 =>
    if r3 = 0 then
      ob2 (f_X5_fails σ) fun r6 s7 =>
      if r6 = 0 then
        some (0, s7)
      else
        some (1, s7)
    else
      some (1, σ)
  else
    ob2 (f_X5_fails σ) fun r10 s11 =>
    if r10 = 0 then
      some (0, s11)
    else
      some (1, s11)
theorem k_X5_isNumber (E : Ev) {x1 : Int32} {x2 : Int32} {σ : Sg} {r : Int32} {σ' : Sg} (h : f_X5_isNumber x1 x2 σ = some (r, σ')) : Con E mX5_isNumber 1 [.ref (eA E 49), .int x1, .int x2] σ (some (.int r)) σ' := by
  refine con_of (by decide) (Nat.le_of_ble_eq_true rfl) (fun fr cx tg => ?_)
  show GW E fr 3 0 [(0, .ref (eA E 49)), (1, .int x1), (2, .int x2)] [] σ
  rw [f_X5_isNumber] at h
  refine gw_aload_n (pc' := 1) cx 0 rfl rfl dX5_isNumber_0 rfl ?_
  refine gw_getI (pc' := 4) cx at49 rfl fl_X5_210 dX5_isNumber_1 rfl ?_
  refine gw_iconst (pc' := 5) (v := 2) cx ci_2 dX5_isNumber_4 rfl ?_
  rcases ite_some h with ⟨c1, h⟩ | ⟨c1, h⟩
  · refine gw_ic_ne_f (pc' := 8) cx c1 dX5_isNumber_5 ⟨23, by decide⟩ rfl ?_
    refine gw_aload_n (pc' := 9) cx 0 rfl rfl dX5_isNumber_8 rfl ?_
    refine gw_getI (pc' := 12) cx at49 rfl fl_X5_213 dX5_isNumber_9 rfl ?_
    refine gw_i2l (pc' := 13) cx dX5_isNumber_12 rfl ?_
    refine gw_iload_n (pc' := 14) cx 1 rfl rfl dX5_isNumber_13 rfl ?_
    refine gw_i2l (pc' := 15) cx dX5_isNumber_14 rfl ?_
    refine gw_iload_n (pc' := 16) cx 2 rfl rfl dX5_isNumber_15 rfl ?_
    refine gw_i2l (pc' := 17) cx dX5_isNumber_16 rfl ?_
    obtain ⟨r3, g2, h⟩ := ob0_some h
    refine gw_cS (pc' := 20) (av := [.long ((σ 49 16).toInt64), .long x1.toInt64, .long x2.toInt64]) (rest := []) cx (k_X5_isIn E g2) (by decide) lk_X5_45 dX5_isNumber_17 rfl (Nat.le_of_ble_eq_true rfl) rfl ?_
    show GW E fr _ 20 _ (.int r3 :: _) _
    rcases ite_some h with ⟨c4, h⟩ | ⟨c4, h⟩
    · refine gw_if_ne_f (pc' := 23) cx c4 dX5_isNumber_20 ⟨30, by decide⟩ rfl ?_
      refine gw_aload_n (pc' := 24) cx 0 rfl rfl dX5_isNumber_23 rfl ?_
      obtain ⟨r6, s7, g5, h⟩ := ob2_some h
      refine gw_cV (pc' := 27) (av := []) (rest := []) cx (k_X5_fails E g5) at49 (by decide) lk_X5_226 dX5_isNumber_24 rfl (Nat.le_of_ble_eq_true rfl) rfl ?_
      show GW E fr _ 27 _ (.int r6 :: _) _
      rcases ite_some h with ⟨c8, h⟩ | ⟨c8, h⟩
      · refine gw_if_eq_t (pc' := 34) cx c8 dX5_isNumber_27 (by decide) ?_
        refine gw_iconst (pc' := 35) (v := 0) cx ci_0 dX5_isNumber_34 rfl ?_
        exact gw_zret cx tg (Or.inl rfl) (rt1 h) (rt2 h) dX5_isNumber_35
      · refine gw_if_eq_f (pc' := 30) cx c8 dX5_isNumber_27 ⟨34, by decide⟩ rfl ?_
        refine gw_iconst (pc' := 31) (v := 1) cx ci_1 dX5_isNumber_30 rfl ?_
        refine gw_goto (pc' := 35) cx dX5_isNumber_31 (by decide) ?_
        exact gw_zret cx tg (Or.inr rfl) (rt1 h) (rt2 h) dX5_isNumber_35
    · refine gw_if_ne_t (pc' := 30) cx c4 dX5_isNumber_20 (by decide) ?_
      refine gw_iconst (pc' := 31) (v := 1) cx ci_1 dX5_isNumber_30 rfl ?_
      refine gw_goto (pc' := 35) cx dX5_isNumber_31 (by decide) ?_
      exact gw_zret cx tg (Or.inr rfl) (rt1 h) (rt2 h) dX5_isNumber_35
  · refine gw_ic_ne_t (pc' := 23) cx c1 dX5_isNumber_5 (by decide) ?_
    refine gw_aload_n (pc' := 24) cx 0 rfl rfl dX5_isNumber_23 rfl ?_
    obtain ⟨r10, s11, g9, h⟩ := ob2_some h
    refine gw_cV (pc' := 27) (av := []) (rest := []) cx (k_X5_fails E g9) at49 (by decide) lk_X5_226 dX5_isNumber_24 rfl (Nat.le_of_ble_eq_true rfl) rfl ?_
    show GW E fr _ 27 _ (.int r10 :: _) _
    rcases ite_some h with ⟨c12, h⟩ | ⟨c12, h⟩
    · refine gw_if_eq_t (pc' := 34) cx c12 dX5_isNumber_27 (by decide) ?_
      refine gw_iconst (pc' := 35) (v := 0) cx ci_0 dX5_isNumber_34 rfl ?_
      exact gw_zret cx tg (Or.inl rfl) (rt1 h) (rt2 h) dX5_isNumber_35
    · refine gw_if_eq_f (pc' := 30) cx c12 dX5_isNumber_27 ⟨34, by decide⟩ rfl ?_
      refine gw_iconst (pc' := 31) (v := 1) cx ci_1 dX5_isNumber_30 rfl ?_
      refine gw_goto (pc' := 35) cx dX5_isNumber_31 (by decide) ?_
      exact gw_zret cx tg (Or.inr rfl) (rt1 h) (rt2 h) dX5_isNumber_35
def f_X5_kindHere (σ : Sg) : Option (Int32) :=
  ob0 (f_X5_isSix 112 101 114 115 111 110 σ) fun r2 =>
  if r2 = 0 then
    ob0 (f_X5_isFour 108 97 100 121 σ) fun r5 =>
    if r5 = 0 then
      ob0 (f_X5_isFour 100 117 107 101 σ) fun r8 =>
      if r8 = 0 then
        ob0 (f_X5_isSix 99 108 101 114 103 121 σ) fun r11 =>
        if r11 = 0 then
          ob0 (f_X5_isSix 98 105 115 104 111 112 σ) fun r14 =>
          if r14 = 0 then
            ob0 (f_X5_isSix 99 111 119 109 97 110 σ) fun r17 =>
            if r17 = 0 then
              ob0 (f_X5_isFive 121 111 117 110 103 σ) fun r20 =>
              if r20 = 0 then
                some (-1)
              else
                some 6
            else
              some 5
          else
            some 4
        else
          some 3
      else
        some 2
    else
      some 1
  else
    some 0
theorem k_X5_kindHere (E : Ev)  {σ : Sg} {r : Int32} (h : f_X5_kindHere σ = some r) : Con E mX5_kindHere 3 [.ref (eA E 49)] σ (some (.int r)) σ := by
  refine con_of (by decide) (Nat.le_of_ble_eq_true rfl) (fun fr cx tg => ?_)
  show GW E fr 1 0 [(0, .ref (eA E 49))] [] σ
  rw [f_X5_kindHere] at h
  refine gw_aload_n (pc' := 1) cx 0 rfl rfl dX5_kindHere_0 rfl ?_
  refine gw_bipush (pc' := 3) (v := 112) cx cb_112 dX5_kindHere_1 rfl ?_
  refine gw_bipush (pc' := 5) (v := 101) cx cb_101 dX5_kindHere_3 rfl ?_
  refine gw_bipush (pc' := 7) (v := 114) cx cb_114 dX5_kindHere_5 rfl ?_
  refine gw_bipush (pc' := 9) (v := 115) cx cb_115 dX5_kindHere_7 rfl ?_
  refine gw_bipush (pc' := 11) (v := 111) cx cb_111 dX5_kindHere_9 rfl ?_
  refine gw_bipush (pc' := 13) (v := 110) cx cb_110 dX5_kindHere_11 rfl ?_
  obtain ⟨r2, g1, h⟩ := ob0_some h
  refine gw_cV (pc' := 16) (av := [.int 112, .int 101, .int 114, .int 115, .int 111, .int 110]) (rest := []) cx (k_X5_isSix E g1) at49 (by decide) lk_X5_230 dX5_kindHere_13 rfl (Nat.le_of_ble_eq_true rfl) rfl ?_
  show GW E fr _ 16 _ (.int r2 :: _) _
  rcases ite_some h with ⟨c3, h⟩ | ⟨c3, h⟩
  · refine gw_if_eq_t (pc' := 21) cx c3 dX5_kindHere_16 (by decide) ?_
    refine gw_aload_n (pc' := 22) cx 0 rfl rfl dX5_kindHere_21 rfl ?_
    refine gw_bipush (pc' := 24) (v := 108) cx cb_108 dX5_kindHere_22 rfl ?_
    refine gw_bipush (pc' := 26) (v := 97) cx cb_97 dX5_kindHere_24 rfl ?_
    refine gw_bipush (pc' := 28) (v := 100) cx cb_100 dX5_kindHere_26 rfl ?_
    refine gw_bipush (pc' := 30) (v := 121) cx cb_121 dX5_kindHere_28 rfl ?_
    obtain ⟨r5, g4, h⟩ := ob0_some h
    refine gw_cV (pc' := 33) (av := [.int 108, .int 97, .int 100, .int 121]) (rest := []) cx (k_X5_isFour E g4) at49 (by decide) lk_X5_234 dX5_kindHere_30 rfl (Nat.le_of_ble_eq_true rfl) rfl ?_
    show GW E fr _ 33 _ (.int r5 :: _) _
    rcases ite_some h with ⟨c6, h⟩ | ⟨c6, h⟩
    · refine gw_if_eq_t (pc' := 38) cx c6 dX5_kindHere_33 (by decide) ?_
      refine gw_aload_n (pc' := 39) cx 0 rfl rfl dX5_kindHere_38 rfl ?_
      refine gw_bipush (pc' := 41) (v := 100) cx cb_100 dX5_kindHere_39 rfl ?_
      refine gw_bipush (pc' := 43) (v := 117) cx cb_117 dX5_kindHere_41 rfl ?_
      refine gw_bipush (pc' := 45) (v := 107) cx cb_107 dX5_kindHere_43 rfl ?_
      refine gw_bipush (pc' := 47) (v := 101) cx cb_101 dX5_kindHere_45 rfl ?_
      obtain ⟨r8, g7, h⟩ := ob0_some h
      refine gw_cV (pc' := 50) (av := [.int 100, .int 117, .int 107, .int 101]) (rest := []) cx (k_X5_isFour E g7) at49 (by decide) lk_X5_234 dX5_kindHere_47 rfl (Nat.le_of_ble_eq_true rfl) rfl ?_
      show GW E fr _ 50 _ (.int r8 :: _) _
      rcases ite_some h with ⟨c9, h⟩ | ⟨c9, h⟩
      · refine gw_if_eq_t (pc' := 55) cx c9 dX5_kindHere_50 (by decide) ?_
        refine gw_aload_n (pc' := 56) cx 0 rfl rfl dX5_kindHere_55 rfl ?_
        refine gw_bipush (pc' := 58) (v := 99) cx cb_99 dX5_kindHere_56 rfl ?_
        refine gw_bipush (pc' := 60) (v := 108) cx cb_108 dX5_kindHere_58 rfl ?_
        refine gw_bipush (pc' := 62) (v := 101) cx cb_101 dX5_kindHere_60 rfl ?_
        refine gw_bipush (pc' := 64) (v := 114) cx cb_114 dX5_kindHere_62 rfl ?_
        refine gw_bipush (pc' := 66) (v := 103) cx cb_103 dX5_kindHere_64 rfl ?_
        refine gw_bipush (pc' := 68) (v := 121) cx cb_121 dX5_kindHere_66 rfl ?_
        obtain ⟨r11, g10, h⟩ := ob0_some h
        refine gw_cV (pc' := 71) (av := [.int 99, .int 108, .int 101, .int 114, .int 103, .int 121]) (rest := []) cx (k_X5_isSix E g10) at49 (by decide) lk_X5_230 dX5_kindHere_68 rfl (Nat.le_of_ble_eq_true rfl) rfl ?_
        show GW E fr _ 71 _ (.int r11 :: _) _
        rcases ite_some h with ⟨c12, h⟩ | ⟨c12, h⟩
        · refine gw_if_eq_t (pc' := 76) cx c12 dX5_kindHere_71 (by decide) ?_
          refine gw_aload_n (pc' := 77) cx 0 rfl rfl dX5_kindHere_76 rfl ?_
          refine gw_bipush (pc' := 79) (v := 98) cx cb_98 dX5_kindHere_77 rfl ?_
          refine gw_bipush (pc' := 81) (v := 105) cx cb_105 dX5_kindHere_79 rfl ?_
          refine gw_bipush (pc' := 83) (v := 115) cx cb_115 dX5_kindHere_81 rfl ?_
          refine gw_bipush (pc' := 85) (v := 104) cx cb_104 dX5_kindHere_83 rfl ?_
          refine gw_bipush (pc' := 87) (v := 111) cx cb_111 dX5_kindHere_85 rfl ?_
          refine gw_bipush (pc' := 89) (v := 112) cx cb_112 dX5_kindHere_87 rfl ?_
          obtain ⟨r14, g13, h⟩ := ob0_some h
          refine gw_cV (pc' := 92) (av := [.int 98, .int 105, .int 115, .int 104, .int 111, .int 112]) (rest := []) cx (k_X5_isSix E g13) at49 (by decide) lk_X5_230 dX5_kindHere_89 rfl (Nat.le_of_ble_eq_true rfl) rfl ?_
          show GW E fr _ 92 _ (.int r14 :: _) _
          rcases ite_some h with ⟨c15, h⟩ | ⟨c15, h⟩
          · refine gw_if_eq_t (pc' := 97) cx c15 dX5_kindHere_92 (by decide) ?_
            refine gw_aload_n (pc' := 98) cx 0 rfl rfl dX5_kindHere_97 rfl ?_
            refine gw_bipush (pc' := 100) (v := 99) cx cb_99 dX5_kindHere_98 rfl ?_
            refine gw_bipush (pc' := 102) (v := 111) cx cb_111 dX5_kindHere_100 rfl ?_
            refine gw_bipush (pc' := 104) (v := 119) cx cb_119 dX5_kindHere_102 rfl ?_
            refine gw_bipush (pc' := 106) (v := 109) cx cb_109 dX5_kindHere_104 rfl ?_
            refine gw_bipush (pc' := 108) (v := 97) cx cb_97 dX5_kindHere_106 rfl ?_
            refine gw_bipush (pc' := 110) (v := 110) cx cb_110 dX5_kindHere_108 rfl ?_
            obtain ⟨r17, g16, h⟩ := ob0_some h
            refine gw_cV (pc' := 113) (av := [.int 99, .int 111, .int 119, .int 109, .int 97, .int 110]) (rest := []) cx (k_X5_isSix E g16) at49 (by decide) lk_X5_230 dX5_kindHere_110 rfl (Nat.le_of_ble_eq_true rfl) rfl ?_
            show GW E fr _ 113 _ (.int r17 :: _) _
            rcases ite_some h with ⟨c18, h⟩ | ⟨c18, h⟩
            · refine gw_if_eq_t (pc' := 118) cx c18 dX5_kindHere_113 (by decide) ?_
              refine gw_aload_n (pc' := 119) cx 0 rfl rfl dX5_kindHere_118 rfl ?_
              refine gw_bipush (pc' := 121) (v := 121) cx cb_121 dX5_kindHere_119 rfl ?_
              refine gw_bipush (pc' := 123) (v := 111) cx cb_111 dX5_kindHere_121 rfl ?_
              refine gw_bipush (pc' := 125) (v := 117) cx cb_117 dX5_kindHere_123 rfl ?_
              refine gw_bipush (pc' := 127) (v := 110) cx cb_110 dX5_kindHere_125 rfl ?_
              refine gw_bipush (pc' := 129) (v := 103) cx cb_103 dX5_kindHere_127 rfl ?_
              obtain ⟨r20, g19, h⟩ := ob0_some h
              refine gw_cV (pc' := 132) (av := [.int 121, .int 111, .int 117, .int 110, .int 103]) (rest := []) cx (k_X5_isFive E g19) at49 (by decide) lk_X5_237 dX5_kindHere_129 rfl (Nat.le_of_ble_eq_true rfl) rfl ?_
              show GW E fr _ 132 _ (.int r20 :: _) _
              rcases ite_some h with ⟨c21, h⟩ | ⟨c21, h⟩
              · refine gw_if_eq_t (pc' := 140) cx c21 dX5_kindHere_132 (by decide) ?_
                refine gw_iconst (pc' := 141) (v := (-1)) cx ci_m1 dX5_kindHere_140 rfl ?_
                exact gw_iret cx tg (rt0 h) rfl dX5_kindHere_141
              · refine gw_if_eq_f (pc' := 135) cx c21 dX5_kindHere_132 ⟨140, by decide⟩ rfl ?_
                refine gw_bipush (pc' := 137) (v := 6) cx cb_6 dX5_kindHere_135 rfl ?_
                refine gw_goto (pc' := 141) cx dX5_kindHere_137 (by decide) ?_
                exact gw_iret cx tg (rt0 h) rfl dX5_kindHere_141
            · refine gw_if_eq_f (pc' := 116) cx c18 dX5_kindHere_113 ⟨118, by decide⟩ rfl ?_
              refine gw_iconst (pc' := 117) (v := 5) cx ci_5 dX5_kindHere_116 rfl ?_
              exact gw_iret cx tg (rt0 h) rfl dX5_kindHere_117
          · refine gw_if_eq_f (pc' := 95) cx c15 dX5_kindHere_92 ⟨97, by decide⟩ rfl ?_
            refine gw_iconst (pc' := 96) (v := 4) cx ci_4 dX5_kindHere_95 rfl ?_
            exact gw_iret cx tg (rt0 h) rfl dX5_kindHere_96
        · refine gw_if_eq_f (pc' := 74) cx c12 dX5_kindHere_71 ⟨76, by decide⟩ rfl ?_
          refine gw_iconst (pc' := 75) (v := 3) cx ci_3 dX5_kindHere_74 rfl ?_
          exact gw_iret cx tg (rt0 h) rfl dX5_kindHere_75
      · refine gw_if_eq_f (pc' := 53) cx c9 dX5_kindHere_50 ⟨55, by decide⟩ rfl ?_
        refine gw_iconst (pc' := 54) (v := 2) cx ci_2 dX5_kindHere_53 rfl ?_
        exact gw_iret cx tg (rt0 h) rfl dX5_kindHere_54
    · refine gw_if_eq_f (pc' := 36) cx c6 dX5_kindHere_33 ⟨38, by decide⟩ rfl ?_
      refine gw_iconst (pc' := 37) (v := 1) cx ci_1 dX5_kindHere_36 rfl ?_
      exact gw_iret cx tg (rt0 h) rfl dX5_kindHere_37
  · refine gw_if_eq_f (pc' := 19) cx c3 dX5_kindHere_16 ⟨21, by decide⟩ rfl ?_
    refine gw_iconst (pc' := 20) (v := 0) cx ci_0 dX5_kindHere_19 rfl ?_
    exact gw_iret cx tg (rt0 h) rfl dX5_kindHere_20
def f_X5_perhaps (x1 : Int32) (x2 : Int32) (x3 : Int32) (σ : Sg) : Option (Int32 × Sg) :=
  if x1 = 0 then
    some (1, σ)
  else
    ob1 (f_X5_nextToken σ) fun s3 =>
    ob2 (f_X5_isNumber 0 x3 s3) fun r5 s6 =>
    if r5 = 0 then
      some (0, s6)
    else
      chk x2 60 <|
      lt (up2 s6 50 x2.toNatClampNeg (s6 49 16)) fun s9 =>
      ob1 (f_X5_nextToken s9) fun s12 =>
      some (1, s12)
theorem k_X5_perhaps (E : Ev) {x1 : Int32} {x2 : Int32} {x3 : Int32} {σ : Sg} {r : Int32} {σ' : Sg} (h : f_X5_perhaps x1 x2 x3 σ = some (r, σ')) : Con E mX5_perhaps 2 [.ref (eA E 49), .int x1, .int x2, .int x3] σ (some (.int r)) σ' := by
  refine con_of (by decide) (Nat.le_of_ble_eq_true rfl) (fun fr cx tg => ?_)
  show GW E fr 4 0 [(0, .ref (eA E 49)), (1, .int x1), (2, .int x2), (3, .int x3)] [] σ
  rw [f_X5_perhaps] at h
  refine gw_iload_n (pc' := 1) cx 1 rfl rfl dX5_perhaps_0 rfl ?_
  rcases ite_some h with ⟨c1, h⟩ | ⟨c1, h⟩
  · refine gw_if_ne_f (pc' := 4) cx c1 dX5_perhaps_1 ⟨6, by decide⟩ rfl ?_
    refine gw_iconst (pc' := 5) (v := 1) cx ci_1 dX5_perhaps_4 rfl ?_
    exact gw_zret cx tg (Or.inr rfl) (rt1 h) (rt2 h) dX5_perhaps_5
  · refine gw_if_ne_t (pc' := 6) cx c1 dX5_perhaps_1 (by decide) ?_
    refine gw_aload_n (pc' := 7) cx 0 rfl rfl dX5_perhaps_6 rfl ?_
    obtain ⟨s3, g2, h⟩ := ob1_some h
    refine gw_cV (pc' := 10) (av := []) (rest := []) cx (k_X5_nextToken E g2) at49 (by decide) lk_X5_241 dX5_perhaps_7 rfl (Nat.le_of_ble_eq_true rfl) rfl ?_
    show GW E fr _ 10 _ [] _
    refine gw_aload_n (pc' := 11) cx 0 rfl rfl dX5_perhaps_10 rfl ?_
    refine gw_iconst (pc' := 12) (v := 0) cx ci_0 dX5_perhaps_11 rfl ?_
    refine gw_iload_n (pc' := 13) cx 3 rfl rfl dX5_perhaps_12 rfl ?_
    obtain ⟨r5, s6, g4, h⟩ := ob2_some h
    refine gw_cV (pc' := 16) (av := [.int 0, .int x3]) (rest := []) cx (k_X5_isNumber E g4) at49 (by decide) lk_X5_244 dX5_perhaps_13 rfl (Nat.le_of_ble_eq_true rfl) rfl ?_
    show GW E fr _ 16 _ (.int r5 :: _) _
    rcases ite_some h with ⟨c7, h⟩ | ⟨c7, h⟩
    · refine gw_if_ne_f (pc' := 19) cx c7 dX5_perhaps_16 ⟨21, by decide⟩ rfl ?_
      refine gw_iconst (pc' := 20) (v := 0) cx ci_0 dX5_perhaps_19 rfl ?_
      exact gw_zret cx tg (Or.inl rfl) (rt1 h) (rt2 h) dX5_perhaps_20
    · refine gw_if_ne_t (pc' := 21) cx c7 dX5_perhaps_16 (by decide) ?_
      refine gw_aload_n (pc' := 22) cx 0 rfl rfl dX5_perhaps_21 rfl ?_
      refine gw_getR (pc' := 25) cx at49 rfl fl_X5_7 dX5_perhaps_22 rfl ?_
      refine gw_iload_n (pc' := 26) cx 2 rfl rfl dX5_perhaps_25 rfl ?_
      refine gw_aload_n (pc' := 27) cx 0 rfl rfl dX5_perhaps_26 rfl ?_
      refine gw_getI (pc' := 30) cx at49 rfl fl_X5_213 dX5_perhaps_27 rfl ?_
      obtain ⟨i8, h⟩ := chk_some h
      obtain ⟨s9, e10, h⟩ := lt_some h
      refine gw_iast (pc' := 31) cx at50 i8 rfl dX5_perhaps_30 rfl e10 ?_
      refine gw_aload_n (pc' := 32) cx 0 rfl rfl dX5_perhaps_31 rfl ?_
      obtain ⟨s12, g11, h⟩ := ob1_some h
      refine gw_cV (pc' := 35) (av := []) (rest := []) cx (k_X5_nextToken E g11) at49 (by decide) lk_X5_241 dX5_perhaps_32 rfl (Nat.le_of_ble_eq_true rfl) rfl ?_
      show GW E fr _ 35 _ [] _
      refine gw_iconst (pc' := 36) (v := 1) cx ci_1 dX5_perhaps_35 rfl ?_
      exact gw_zret cx tg (Or.inr rfl) (rt1 h) (rt2 h) dX5_perhaps_36
def f_X5_personHere (x1 : Int32) (σ : Sg) : Option (Int32 × Sg) :=
  if (σ 50 0) = 8 then
    ob2 (f_X5_fails σ) fun r3 s4 =>
    chkb r3 <|
    some (r3, s4)
  else
    ob1 (f_X5_comes x1 20 σ) fun s7 =>
    ob1 (f_X5_nextToken s7) fun s9 =>
    ob0 (f_X5_isFive 98 117 105 108 100 s9) fun r11 =>
    ob0 (f_X5_at ((s7 50 0) - 1) 2 s9) fun r13 =>
    ob2 (f_X5_perhaps r11 r13 99 s9) fun r15 s16 =>
    if r15 = 0 then
      some (0, s16)
    else
      ob0 (f_X5_isFour 111 119 101 100 s16) fun r19 =>
      ob0 (f_X5_at ((s7 50 0) - 1) 1 s16) fun r21 =>
      ob2 (f_X5_perhaps r19 r21 9999 s16) fun r23 s24 =>
      if r23 = 0 then
        some (0, s24)
      else
        ob0 (f_X5_isFour 98 111 114 101 s24) fun r27 =>
        ob0 (f_X5_at ((s7 50 0) - 1) 3 s24) fun r29 =>
        ob2 (f_X5_perhaps r27 r29 9999 s24) fun r31 s32 =>
        if r31 = 0 then
          some (0, s32)
        else
          some (1, s32)
theorem k_X5_personHere (E : Ev) {x1 : Int32} {σ : Sg} {r : Int32} {σ' : Sg} (h : f_X5_personHere x1 σ = some (r, σ')) : Con E mX5_personHere 3 [.ref (eA E 49), .int x1] σ (some (.int r)) σ' := by
  refine con_of (by decide) (Nat.le_of_ble_eq_true rfl) (fun fr cx tg => ?_)
  show GW E fr 3 0 [(0, .ref (eA E 49)), (1, .int x1)] [] σ
  rw [f_X5_personHere] at h
  refine gw_aload_n (pc' := 1) cx 0 rfl rfl dX5_personHere_0 rfl ?_
  refine gw_getR (pc' := 4) cx at49 rfl fl_X5_7 dX5_personHere_1 rfl ?_
  refine gw_iconst (pc' := 5) (v := 0) cx ci_0 dX5_personHere_4 rfl ?_
  refine gw_iald (pc' := 6) cx at50 (vpc (by decide)) cn_0 dX5_personHere_5 rfl ?_
  refine gw_bipush (pc' := 8) (v := 8) cx cb_8 dX5_personHere_6 rfl ?_
  rcases ite_some h with ⟨c1, h⟩ | ⟨c1, h⟩
  · refine gw_ic_ne_f (pc' := 11) cx c1 dX5_personHere_8 ⟨16, by decide⟩ rfl ?_
    refine gw_aload_n (pc' := 12) cx 0 rfl rfl dX5_personHere_11 rfl ?_
    obtain ⟨r3, s4, g2, h⟩ := ob2_some h
    refine gw_cV (pc' := 15) (av := []) (rest := []) cx (k_X5_fails E g2) at49 (by decide) lk_X5_226 dX5_personHere_12 rfl (Nat.le_of_ble_eq_true rfl) rfl ?_
    show GW E fr _ 15 _ (.int r3 :: _) _
    obtain ⟨z5, h⟩ := chkb_some h
    exact gw_zret cx tg z5 (rt1 h) (rt2 h) dX5_personHere_15
  · refine gw_ic_ne_t (pc' := 16) cx c1 dX5_personHere_8 (by decide) ?_
    refine gw_aload_n (pc' := 17) cx 0 rfl rfl dX5_personHere_16 rfl ?_
    refine gw_iload_n (pc' := 18) cx 1 rfl rfl dX5_personHere_17 rfl ?_
    refine gw_bipush (pc' := 20) (v := 20) cx cb_20 dX5_personHere_18 rfl ?_
    obtain ⟨s7, g6, h⟩ := ob1_some h
    refine gw_cV (pc' := 23) (av := [.int x1, .int 20]) (rest := []) cx (k_X5_comes E g6) at49 (by decide) lk_X5_69 dX5_personHere_20 rfl (Nat.le_of_ble_eq_true rfl) rfl ?_
    show GW E fr _ 23 _ [] _
    refine gw_aload_n (pc' := 24) cx 0 rfl rfl dX5_personHere_23 rfl ?_
    refine gw_getR (pc' := 27) cx at49 rfl fl_X5_7 dX5_personHere_24 rfl ?_
    refine gw_iconst (pc' := 28) (v := 0) cx ci_0 dX5_personHere_27 rfl ?_
    refine gw_iald (pc' := 29) cx at50 (vpc (by decide)) cn_0 dX5_personHere_28 rfl ?_
    refine gw_iconst (pc' := 30) (v := 1) cx ci_1 dX5_personHere_29 rfl ?_
    refine gw_isub (pc' := 31) cx dX5_personHere_30 rfl ?_
    refine gw_istore_n (pc' := 32) (lv' := [(2, .int ((s7 50 0) - 1)), (0, .ref (eA E 49)), (1, .int x1)]) cx rfl rfl (by decide) dX5_personHere_31 rfl ?_
    refine gw_aload_n (pc' := 33) cx 1 rfl rfl dX5_personHere_32 rfl ?_
    obtain ⟨s9, g8, h⟩ := ob1_some h
    refine gw_cV (pc' := 36) (av := []) (rest := []) cx (k_X5_nextToken E g8) at49 (by decide) lk_X5_241 dX5_personHere_33 rfl (Nat.le_of_ble_eq_true rfl) rfl ?_
    show GW E fr _ 36 _ [] _
    refine gw_aload_n (pc' := 37) cx 1 rfl rfl dX5_personHere_36 rfl ?_
    refine gw_aload_n (pc' := 38) cx 1 rfl rfl dX5_personHere_37 rfl ?_
    refine gw_bipush (pc' := 40) (v := 98) cx cb_98 dX5_personHere_38 rfl ?_
    refine gw_bipush (pc' := 42) (v := 117) cx cb_117 dX5_personHere_40 rfl ?_
    refine gw_bipush (pc' := 44) (v := 105) cx cb_105 dX5_personHere_42 rfl ?_
    refine gw_bipush (pc' := 46) (v := 108) cx cb_108 dX5_personHere_44 rfl ?_
    refine gw_bipush (pc' := 48) (v := 100) cx cb_100 dX5_personHere_46 rfl ?_
    obtain ⟨r11, g10, h⟩ := ob0_some h
    refine gw_cV (pc' := 51) (av := [.int 98, .int 117, .int 105, .int 108, .int 100]) (rest := [.ref (eA E 49)]) cx (k_X5_isFive E g10) at49 (by decide) lk_X5_237 dX5_personHere_48 rfl (Nat.le_of_ble_eq_true rfl) rfl ?_
    show GW E fr _ 51 _ (.int r11 :: _) _
    refine gw_iload_n (pc' := 52) cx 0 rfl rfl dX5_personHere_51 rfl ?_
    refine gw_iconst (pc' := 53) (v := 2) cx ci_2 dX5_personHere_52 rfl ?_
    obtain ⟨r13, g12, h⟩ := ob0_some h
    refine gw_cS (pc' := 56) (av := [.int ((s7 50 0) - 1), .int 2]) (rest := [.int r11, .ref (eA E 49)]) cx (k_X5_at E g12) (by decide) lk_X5_61 dX5_personHere_53 rfl (Nat.le_of_ble_eq_true rfl) rfl ?_
    show GW E fr _ 56 _ (.int r13 :: _) _
    refine gw_bipush (pc' := 58) (v := 99) cx cb_99 dX5_personHere_56 rfl ?_
    obtain ⟨r15, s16, g14, h⟩ := ob2_some h
    refine gw_cV (pc' := 61) (av := [.int r11, .int r13, .int 99]) (rest := []) cx (k_X5_perhaps E g14) at49 (by decide) lk_X5_247 dX5_personHere_58 rfl (Nat.le_of_ble_eq_true rfl) rfl ?_
    show GW E fr _ 61 _ (.int r15 :: _) _
    rcases ite_some h with ⟨c17, h⟩ | ⟨c17, h⟩
    · refine gw_if_eq_t (pc' := 122) cx c17 dX5_personHere_61 (by decide) ?_
      refine gw_iconst (pc' := 123) (v := 0) cx ci_0 dX5_personHere_122 rfl ?_
      exact gw_zret cx tg (Or.inl rfl) (rt1 h) (rt2 h) dX5_personHere_123
    · refine gw_if_eq_f (pc' := 64) cx c17 dX5_personHere_61 ⟨122, by decide⟩ rfl ?_
      refine gw_aload_n (pc' := 65) cx 1 rfl rfl dX5_personHere_64 rfl ?_
      refine gw_aload_n (pc' := 66) cx 1 rfl rfl dX5_personHere_65 rfl ?_
      refine gw_bipush (pc' := 68) (v := 111) cx cb_111 dX5_personHere_66 rfl ?_
      refine gw_bipush (pc' := 70) (v := 119) cx cb_119 dX5_personHere_68 rfl ?_
      refine gw_bipush (pc' := 72) (v := 101) cx cb_101 dX5_personHere_70 rfl ?_
      refine gw_bipush (pc' := 74) (v := 100) cx cb_100 dX5_personHere_72 rfl ?_
      obtain ⟨r19, g18, h⟩ := ob0_some h
      refine gw_cV (pc' := 77) (av := [.int 111, .int 119, .int 101, .int 100]) (rest := [.ref (eA E 49)]) cx (k_X5_isFour E g18) at49 (by decide) lk_X5_234 dX5_personHere_74 rfl (Nat.le_of_ble_eq_true rfl) rfl ?_
      show GW E fr _ 77 _ (.int r19 :: _) _
      refine gw_iload_n (pc' := 78) cx 0 rfl rfl dX5_personHere_77 rfl ?_
      refine gw_iconst (pc' := 79) (v := 1) cx ci_1 dX5_personHere_78 rfl ?_
      obtain ⟨r21, g20, h⟩ := ob0_some h
      refine gw_cS (pc' := 82) (av := [.int ((s7 50 0) - 1), .int 1]) (rest := [.int r19, .ref (eA E 49)]) cx (k_X5_at E g20) (by decide) lk_X5_61 dX5_personHere_79 rfl (Nat.le_of_ble_eq_true rfl) rfl ?_
      show GW E fr _ 82 _ (.int r21 :: _) _
      refine gw_sipush (pc' := 85) (v := 9999) cx cs_9999 dX5_personHere_82 rfl ?_
      obtain ⟨r23, s24, g22, h⟩ := ob2_some h
      refine gw_cV (pc' := 88) (av := [.int r19, .int r21, .int 9999]) (rest := []) cx (k_X5_perhaps E g22) at49 (by decide) lk_X5_247 dX5_personHere_85 rfl (Nat.le_of_ble_eq_true rfl) rfl ?_
      show GW E fr _ 88 _ (.int r23 :: _) _
      rcases ite_some h with ⟨c25, h⟩ | ⟨c25, h⟩
      · refine gw_if_eq_t (pc' := 122) cx c25 dX5_personHere_88 (by decide) ?_
        refine gw_iconst (pc' := 123) (v := 0) cx ci_0 dX5_personHere_122 rfl ?_
        exact gw_zret cx tg (Or.inl rfl) (rt1 h) (rt2 h) dX5_personHere_123
      · refine gw_if_eq_f (pc' := 91) cx c25 dX5_personHere_88 ⟨122, by decide⟩ rfl ?_
        refine gw_aload_n (pc' := 92) cx 1 rfl rfl dX5_personHere_91 rfl ?_
        refine gw_aload_n (pc' := 93) cx 1 rfl rfl dX5_personHere_92 rfl ?_
        refine gw_bipush (pc' := 95) (v := 98) cx cb_98 dX5_personHere_93 rfl ?_
        refine gw_bipush (pc' := 97) (v := 111) cx cb_111 dX5_personHere_95 rfl ?_
        refine gw_bipush (pc' := 99) (v := 114) cx cb_114 dX5_personHere_97 rfl ?_
        refine gw_bipush (pc' := 101) (v := 101) cx cb_101 dX5_personHere_99 rfl ?_
        obtain ⟨r27, g26, h⟩ := ob0_some h
        refine gw_cV (pc' := 104) (av := [.int 98, .int 111, .int 114, .int 101]) (rest := [.ref (eA E 49)]) cx (k_X5_isFour E g26) at49 (by decide) lk_X5_234 dX5_personHere_101 rfl (Nat.le_of_ble_eq_true rfl) rfl ?_
        show GW E fr _ 104 _ (.int r27 :: _) _
        refine gw_iload_n (pc' := 105) cx 0 rfl rfl dX5_personHere_104 rfl ?_
        refine gw_iconst (pc' := 106) (v := 3) cx ci_3 dX5_personHere_105 rfl ?_
        obtain ⟨r29, g28, h⟩ := ob0_some h
        refine gw_cS (pc' := 109) (av := [.int ((s7 50 0) - 1), .int 3]) (rest := [.int r27, .ref (eA E 49)]) cx (k_X5_at E g28) (by decide) lk_X5_61 dX5_personHere_106 rfl (Nat.le_of_ble_eq_true rfl) rfl ?_
        show GW E fr _ 109 _ (.int r29 :: _) _
        refine gw_sipush (pc' := 112) (v := 9999) cx cs_9999 dX5_personHere_109 rfl ?_
        obtain ⟨r31, s32, g30, h⟩ := ob2_some h
        refine gw_cV (pc' := 115) (av := [.int r27, .int r29, .int 9999]) (rest := []) cx (k_X5_perhaps E g30) at49 (by decide) lk_X5_247 dX5_personHere_112 rfl (Nat.le_of_ble_eq_true rfl) rfl ?_
        show GW E fr _ 115 _ (.int r31 :: _) _
        rcases ite_some h with ⟨c33, h⟩ | ⟨c33, h⟩
        · refine gw_if_eq_t (pc' := 122) cx c33 dX5_personHere_115 (by decide) ?_
          refine gw_iconst (pc' := 123) (v := 0) cx ci_0 dX5_personHere_122 rfl ?_
          exact gw_zret cx tg (Or.inl rfl) (rt1 h) (rt2 h) dX5_personHere_123
        · refine gw_if_eq_f (pc' := 118) cx c33 dX5_personHere_115 ⟨122, by decide⟩ rfl ?_
          refine gw_iconst (pc' := 119) (v := 1) cx ci_1 dX5_personHere_118 rfl ?_
          refine gw_goto (pc' := 123) cx dX5_personHere_119 (by decide) ?_
          exact gw_zret cx tg (Or.inr rfl) (rt1 h) (rt2 h) dX5_personHere_123
def f_X5_saidHere (σ : Sg) : Option (Int32 × Sg) :=
  ob1 (f_X5_nextToken σ) fun s2 =>
  ob2 (f_X5_isNumber 0 5 s2) fun r4 s5 =>
  if r4 = 0 then
    some (0, s5)
  else
    ob1 (f_X5_nextToken s5) fun s8 =>
    ob2 (f_X5_isNumber 0 7 s8) fun r10 s11 =>
    if r10 = 0 then
      some (0, s11)
    else
      ob1 (f_X5_nextToken s11) fun s14 =>
      ob2 (f_X5_isNumber 0 20 s14) fun r16 s17 =>
      if r16 = 0 then
        some (0, s17)
      else
        chk (4 + (s5 49 16)) 60 <|
        lt (up2 s17 50 (4 + (s5 49 16)).toNatClampNeg ((100 * (s11 49 16)) + (s17 49 16))) fun s20 =>
        ob1 (f_X5_nextToken s20) fun s23 =>
        some (1, s23)
theorem k_X5_saidHere (E : Ev)  {σ : Sg} {r : Int32} {σ' : Sg} (h : f_X5_saidHere σ = some (r, σ')) : Con E mX5_saidHere 2 [.ref (eA E 49)] σ (some (.int r)) σ' := by
  refine con_of (by decide) (Nat.le_of_ble_eq_true rfl) (fun fr cx tg => ?_)
  show GW E fr 3 0 [(0, .ref (eA E 49))] [] σ
  rw [f_X5_saidHere] at h
  refine gw_aload_n (pc' := 1) cx 0 rfl rfl dX5_saidHere_0 rfl ?_
  obtain ⟨s2, g1, h⟩ := ob1_some h
  refine gw_cV (pc' := 4) (av := []) (rest := []) cx (k_X5_nextToken E g1) at49 (by decide) lk_X5_241 dX5_saidHere_1 rfl (Nat.le_of_ble_eq_true rfl) rfl ?_
  show GW E fr _ 4 _ [] _
  refine gw_aload_n (pc' := 5) cx 0 rfl rfl dX5_saidHere_4 rfl ?_
  refine gw_iconst (pc' := 6) (v := 0) cx ci_0 dX5_saidHere_5 rfl ?_
  refine gw_iconst (pc' := 7) (v := 5) cx ci_5 dX5_saidHere_6 rfl ?_
  obtain ⟨r4, s5, g3, h⟩ := ob2_some h
  refine gw_cV (pc' := 10) (av := [.int 0, .int 5]) (rest := []) cx (k_X5_isNumber E g3) at49 (by decide) lk_X5_244 dX5_saidHere_7 rfl (Nat.le_of_ble_eq_true rfl) rfl ?_
  show GW E fr _ 10 _ (.int r4 :: _) _
  rcases ite_some h with ⟨c6, h⟩ | ⟨c6, h⟩
  · refine gw_if_ne_f (pc' := 13) cx c6 dX5_saidHere_10 ⟨15, by decide⟩ rfl ?_
    refine gw_iconst (pc' := 14) (v := 0) cx ci_0 dX5_saidHere_13 rfl ?_
    exact gw_zret cx tg (Or.inl rfl) (rt1 h) (rt2 h) dX5_saidHere_14
  · refine gw_if_ne_t (pc' := 15) cx c6 dX5_saidHere_10 (by decide) ?_
    refine gw_aload_n (pc' := 16) cx 0 rfl rfl dX5_saidHere_15 rfl ?_
    refine gw_getI (pc' := 19) cx at49 rfl fl_X5_213 dX5_saidHere_16 rfl ?_
    refine gw_istore_n (pc' := 20) (lv' := [(1, .int (s5 49 16)), (0, .ref (eA E 49))]) cx rfl rfl (by decide) dX5_saidHere_19 rfl ?_
    refine gw_aload_n (pc' := 21) cx 1 rfl rfl dX5_saidHere_20 rfl ?_
    obtain ⟨s8, g7, h⟩ := ob1_some h
    refine gw_cV (pc' := 24) (av := []) (rest := []) cx (k_X5_nextToken E g7) at49 (by decide) lk_X5_241 dX5_saidHere_21 rfl (Nat.le_of_ble_eq_true rfl) rfl ?_
    show GW E fr _ 24 _ [] _
    refine gw_aload_n (pc' := 25) cx 1 rfl rfl dX5_saidHere_24 rfl ?_
    refine gw_iconst (pc' := 26) (v := 0) cx ci_0 dX5_saidHere_25 rfl ?_
    refine gw_bipush (pc' := 28) (v := 7) cx cb_7 dX5_saidHere_26 rfl ?_
    obtain ⟨r10, s11, g9, h⟩ := ob2_some h
    refine gw_cV (pc' := 31) (av := [.int 0, .int 7]) (rest := []) cx (k_X5_isNumber E g9) at49 (by decide) lk_X5_244 dX5_saidHere_28 rfl (Nat.le_of_ble_eq_true rfl) rfl ?_
    show GW E fr _ 31 _ (.int r10 :: _) _
    rcases ite_some h with ⟨c12, h⟩ | ⟨c12, h⟩
    · refine gw_if_ne_f (pc' := 34) cx c12 dX5_saidHere_31 ⟨36, by decide⟩ rfl ?_
      refine gw_iconst (pc' := 35) (v := 0) cx ci_0 dX5_saidHere_34 rfl ?_
      exact gw_zret cx tg (Or.inl rfl) (rt1 h) (rt2 h) dX5_saidHere_35
    · refine gw_if_ne_t (pc' := 36) cx c12 dX5_saidHere_31 (by decide) ?_
      refine gw_aload_n (pc' := 37) cx 1 rfl rfl dX5_saidHere_36 rfl ?_
      refine gw_getI (pc' := 40) cx at49 rfl fl_X5_213 dX5_saidHere_37 rfl ?_
      refine gw_istore_n (pc' := 41) (lv' := [(2, .int (s11 49 16)), (1, .int (s5 49 16)), (0, .ref (eA E 49))]) cx rfl rfl (by decide) dX5_saidHere_40 rfl ?_
      refine gw_aload_n (pc' := 42) cx 2 rfl rfl dX5_saidHere_41 rfl ?_
      obtain ⟨s14, g13, h⟩ := ob1_some h
      refine gw_cV (pc' := 45) (av := []) (rest := []) cx (k_X5_nextToken E g13) at49 (by decide) lk_X5_241 dX5_saidHere_42 rfl (Nat.le_of_ble_eq_true rfl) rfl ?_
      show GW E fr _ 45 _ [] _
      refine gw_aload_n (pc' := 46) cx 2 rfl rfl dX5_saidHere_45 rfl ?_
      refine gw_iconst (pc' := 47) (v := 0) cx ci_0 dX5_saidHere_46 rfl ?_
      refine gw_bipush (pc' := 49) (v := 20) cx cb_20 dX5_saidHere_47 rfl ?_
      obtain ⟨r16, s17, g15, h⟩ := ob2_some h
      refine gw_cV (pc' := 52) (av := [.int 0, .int 20]) (rest := []) cx (k_X5_isNumber E g15) at49 (by decide) lk_X5_244 dX5_saidHere_49 rfl (Nat.le_of_ble_eq_true rfl) rfl ?_
      show GW E fr _ 52 _ (.int r16 :: _) _
      rcases ite_some h with ⟨c18, h⟩ | ⟨c18, h⟩
      · refine gw_if_ne_f (pc' := 55) cx c18 dX5_saidHere_52 ⟨57, by decide⟩ rfl ?_
        refine gw_iconst (pc' := 56) (v := 0) cx ci_0 dX5_saidHere_55 rfl ?_
        exact gw_zret cx tg (Or.inl rfl) (rt1 h) (rt2 h) dX5_saidHere_56
      · refine gw_if_ne_t (pc' := 57) cx c18 dX5_saidHere_52 (by decide) ?_
        refine gw_aload_n (pc' := 58) cx 2 rfl rfl dX5_saidHere_57 rfl ?_
        refine gw_getR (pc' := 61) cx at49 rfl fl_X5_7 dX5_saidHere_58 rfl ?_
        refine gw_iconst (pc' := 62) (v := 4) cx ci_4 dX5_saidHere_61 rfl ?_
        refine gw_iload_n (pc' := 63) cx 1 rfl rfl dX5_saidHere_62 rfl ?_
        refine gw_iadd (pc' := 64) cx dX5_saidHere_63 rfl ?_
        refine gw_bipush (pc' := 66) (v := 100) cx cb_100 dX5_saidHere_64 rfl ?_
        refine gw_iload_n (pc' := 67) cx 0 rfl rfl dX5_saidHere_66 rfl ?_
        refine gw_imul (pc' := 68) cx dX5_saidHere_67 rfl ?_
        refine gw_aload_n (pc' := 69) cx 2 rfl rfl dX5_saidHere_68 rfl ?_
        refine gw_getI (pc' := 72) cx at49 rfl fl_X5_213 dX5_saidHere_69 rfl ?_
        refine gw_iadd (pc' := 73) cx dX5_saidHere_72 rfl ?_
        obtain ⟨i19, h⟩ := chk_some h
        obtain ⟨s20, e21, h⟩ := lt_some h
        refine gw_iast (pc' := 74) cx at50 i19 rfl dX5_saidHere_73 rfl e21 ?_
        refine gw_aload_n (pc' := 75) cx 2 rfl rfl dX5_saidHere_74 rfl ?_
        obtain ⟨s23, g22, h⟩ := ob1_some h
        refine gw_cV (pc' := 78) (av := []) (rest := []) cx (k_X5_nextToken E g22) at49 (by decide) lk_X5_241 dX5_saidHere_75 rfl (Nat.le_of_ble_eq_true rfl) rfl ?_
        show GW E fr _ 78 _ [] _
        refine gw_iconst (pc' := 79) (v := 1) cx ci_1 dX5_saidHere_78 rfl ?_
        exact gw_zret cx tg (Or.inr rfl) (rt1 h) (rt2 h) dX5_saidHere_79
def f_X5_itemHere (σ : Sg) : Option (Int32 × Sg) :=
  ob0 (f_X5_kindHere σ) fun r2 =>
  if r2 < 0 then
    ob0 (f_X5_isFour 115 97 105 100 σ) fun r5 =>
    if r5 = 0 then
      ob0 (f_X5_isFive 104 105 110 116 115 σ) fun r8 =>
      if r8 = 0 then
        ob2 (f_X5_fails σ) fun r11 s12 =>
        chkb r11 <|
        some (r11, s12)
      else
        ob2 (f_X5_perhaps 1 3 9999 σ) fun r15 s16 =>
        chkb r15 <|
        some (r15, s16)
    else
      ob2 (f_X5_saidHere σ) fun r19 s20 =>
      chkb r19 <|
      some (r19, s20)
  else
    ob2 (f_X5_personHere r2 σ) fun r23 s24 =>
    chkb r23 <|
    some (r23, s24)
theorem k_X5_itemHere (E : Ev)  {σ : Sg} {r : Int32} {σ' : Sg} (h : f_X5_itemHere σ = some (r, σ')) : Con E mX5_itemHere 4 [.ref (eA E 49)] σ (some (.int r)) σ' := by
  refine con_of (by decide) (Nat.le_of_ble_eq_true rfl) (fun fr cx tg => ?_)
  show GW E fr 2 0 [(0, .ref (eA E 49))] [] σ
  rw [f_X5_itemHere] at h
  refine gw_aload_n (pc' := 1) cx 0 rfl rfl dX5_itemHere_0 rfl ?_
  obtain ⟨r2, g1, h⟩ := ob0_some h
  refine gw_cV (pc' := 4) (av := []) (rest := []) cx (k_X5_kindHere E g1) at49 (by decide) lk_X5_251 dX5_itemHere_1 rfl (Nat.le_of_ble_eq_true rfl) rfl ?_
  show GW E fr _ 4 _ (.int r2 :: _) _
  refine gw_istore_n (pc' := 5) (lv' := [(1, .int r2), (0, .ref (eA E 49))]) cx rfl rfl (by decide) dX5_itemHere_4 rfl ?_
  refine gw_iload_n (pc' := 6) cx 0 rfl rfl dX5_itemHere_5 rfl ?_
  rcases ite_some h with ⟨c3, h⟩ | ⟨c3, h⟩
  · refine gw_if_lt_t (pc' := 15) cx c3 dX5_itemHere_6 (by decide) ?_
    refine gw_aload_n (pc' := 16) cx 1 rfl rfl dX5_itemHere_15 rfl ?_
    refine gw_bipush (pc' := 18) (v := 115) cx cb_115 dX5_itemHere_16 rfl ?_
    refine gw_bipush (pc' := 20) (v := 97) cx cb_97 dX5_itemHere_18 rfl ?_
    refine gw_bipush (pc' := 22) (v := 105) cx cb_105 dX5_itemHere_20 rfl ?_
    refine gw_bipush (pc' := 24) (v := 100) cx cb_100 dX5_itemHere_22 rfl ?_
    obtain ⟨r5, g4, h⟩ := ob0_some h
    refine gw_cV (pc' := 27) (av := [.int 115, .int 97, .int 105, .int 100]) (rest := []) cx (k_X5_isFour E g4) at49 (by decide) lk_X5_234 dX5_itemHere_24 rfl (Nat.le_of_ble_eq_true rfl) rfl ?_
    show GW E fr _ 27 _ (.int r5 :: _) _
    rcases ite_some h with ⟨c6, h⟩ | ⟨c6, h⟩
    · refine gw_if_eq_t (pc' := 35) cx c6 dX5_itemHere_27 (by decide) ?_
      refine gw_aload_n (pc' := 36) cx 1 rfl rfl dX5_itemHere_35 rfl ?_
      refine gw_bipush (pc' := 38) (v := 104) cx cb_104 dX5_itemHere_36 rfl ?_
      refine gw_bipush (pc' := 40) (v := 105) cx cb_105 dX5_itemHere_38 rfl ?_
      refine gw_bipush (pc' := 42) (v := 110) cx cb_110 dX5_itemHere_40 rfl ?_
      refine gw_bipush (pc' := 44) (v := 116) cx cb_116 dX5_itemHere_42 rfl ?_
      refine gw_bipush (pc' := 46) (v := 115) cx cb_115 dX5_itemHere_44 rfl ?_
      obtain ⟨r8, g7, h⟩ := ob0_some h
      refine gw_cV (pc' := 49) (av := [.int 104, .int 105, .int 110, .int 116, .int 115]) (rest := []) cx (k_X5_isFive E g7) at49 (by decide) lk_X5_237 dX5_itemHere_46 rfl (Nat.le_of_ble_eq_true rfl) rfl ?_
      show GW E fr _ 49 _ (.int r8 :: _) _
      rcases ite_some h with ⟨c9, h⟩ | ⟨c9, h⟩
      · refine gw_if_eq_t (pc' := 64) cx c9 dX5_itemHere_49 (by decide) ?_
        refine gw_aload_n (pc' := 65) cx 1 rfl rfl dX5_itemHere_64 rfl ?_
        obtain ⟨r11, s12, g10, h⟩ := ob2_some h
        refine gw_cV (pc' := 68) (av := []) (rest := []) cx (k_X5_fails E g10) at49 (by decide) lk_X5_226 dX5_itemHere_65 rfl (Nat.le_of_ble_eq_true rfl) rfl ?_
        show GW E fr _ 68 _ (.int r11 :: _) _
        obtain ⟨z13, h⟩ := chkb_some h
        exact gw_zret cx tg z13 (rt1 h) (rt2 h) dX5_itemHere_68
      · refine gw_if_eq_f (pc' := 52) cx c9 dX5_itemHere_49 ⟨64, by decide⟩ rfl ?_
        refine gw_aload_n (pc' := 53) cx 1 rfl rfl dX5_itemHere_52 rfl ?_
        refine gw_iconst (pc' := 54) (v := 1) cx ci_1 dX5_itemHere_53 rfl ?_
        refine gw_iconst (pc' := 55) (v := 3) cx ci_3 dX5_itemHere_54 rfl ?_
        refine gw_sipush (pc' := 58) (v := 9999) cx cs_9999 dX5_itemHere_55 rfl ?_
        obtain ⟨r15, s16, g14, h⟩ := ob2_some h
        refine gw_cV (pc' := 61) (av := [.int 1, .int 3, .int 9999]) (rest := []) cx (k_X5_perhaps E g14) at49 (by decide) lk_X5_247 dX5_itemHere_58 rfl (Nat.le_of_ble_eq_true rfl) rfl ?_
        show GW E fr _ 61 _ (.int r15 :: _) _
        refine gw_goto (pc' := 68) cx dX5_itemHere_61 (by decide) ?_
        obtain ⟨z17, h⟩ := chkb_some h
        exact gw_zret cx tg z17 (rt1 h) (rt2 h) dX5_itemHere_68
    · refine gw_if_eq_f (pc' := 30) cx c6 dX5_itemHere_27 ⟨35, by decide⟩ rfl ?_
      refine gw_aload_n (pc' := 31) cx 1 rfl rfl dX5_itemHere_30 rfl ?_
      obtain ⟨r19, s20, g18, h⟩ := ob2_some h
      refine gw_cV (pc' := 34) (av := []) (rest := []) cx (k_X5_saidHere E g18) at49 (by decide) lk_X5_257 dX5_itemHere_31 rfl (Nat.le_of_ble_eq_true rfl) rfl ?_
      show GW E fr _ 34 _ (.int r19 :: _) _
      obtain ⟨z21, h⟩ := chkb_some h
      exact gw_zret cx tg z21 (rt1 h) (rt2 h) dX5_itemHere_34
  · refine gw_if_lt_f (pc' := 9) cx c3 dX5_itemHere_6 ⟨15, by decide⟩ rfl ?_
    refine gw_aload_n (pc' := 10) cx 1 rfl rfl dX5_itemHere_9 rfl ?_
    refine gw_iload_n (pc' := 11) cx 0 rfl rfl dX5_itemHere_10 rfl ?_
    obtain ⟨r23, s24, g22, h⟩ := ob2_some h
    refine gw_cV (pc' := 14) (av := [.int r2]) (rest := []) cx (k_X5_personHere E g22) at49 (by decide) lk_X5_254 dX5_itemHere_11 rfl (Nat.le_of_ble_eq_true rfl) rfl ?_
    show GW E fr _ 14 _ (.int r23 :: _) _
    obtain ⟨z25, h⟩ := chkb_some h
    exact gw_zret cx tg z25 (rt1 h) (rt2 h) dX5_itemHere_14
def f_X5_text_L27 : Nat → Int32 → Int32 → Sg → Option (Int32 × Sg)
  | 0, _, _, _ => none
  | n + 1, y1, y2, σ =>
    if y2 = 0 then
      lt (up2 σ 49 7 0) fun s11 =>
      ob1 (f_X5_copyRow 52 50 s11) fun s14 =>
      some (((-1) - (s14 49 17)), s14)
    else
      if (σ 49 13) = 3 then
        ob1 (f_X5_nextToken σ) fun s17 =>
        ob2 (f_X5_itemHere s17) fun r19 s20 =>
        f_X5_text_L27 n (y1 + 1) r19 s20
      else
        if (σ 49 13) = 0 then
          lt (up2 σ 49 7 0) fun s22 =>
          some (y1, s22)
        else
          ob2 (f_X5_fails σ) fun r25 s26 =>
          if r25 = 0 then
            lt (up2 s26 49 7 0) fun s28 =>
            ob1 (f_X5_copyRow 52 50 s28) fun s31 =>
            some (((-1) - (s31 49 17)), s31)
          else
            lt (up2 s26 49 7 0) fun s32 =>
            some (y1, s32)
theorem w_X5_text_L27 {E : Ev} {fr : Fr} {r : Int32} {σ' : Sg} (cx : Cx E mX5_text 5 fr) (tg : Tg E fr (some .int) (some (.int r)) σ')  : ∀ (n : Nat) (y1 : Int32) (y2 : Int32) (σ : Sg), f_X5_text_L27 n y1 y2 σ = some (r, σ') → GW E fr 3 27 [(0, .ref (eA E 49)), (1, .int y1), (2, .int y2)] [] σ := by
  intro n
  induction n with
  | zero => intro y1 y2 σ h; cases (show (none : Option (Int32 × Sg)) = _ from h)
  | succ n ih =>
    intro y1 y2 σ h
    rw [f_X5_text_L27] at h
    refine gw_iload_n (pc' := 28) cx 2 rfl rfl dX5_text_27 rfl ?_
    rcases ite_some h with ⟨c10, h⟩ | ⟨c10, h⟩
    · refine gw_if_eq_t (pc' := 54) cx c10 dX5_text_28 (by decide) ?_
      refine gw_iload_n (pc' := 55) cx 2 rfl rfl dX5_text_54 rfl ?_
      refine gw_if_eq_t (pc' := 76) cx c10 dX5_text_55 (by decide) ?_
      refine gw_iconst (pc' := 77) (v := 0) cx ci_0 dX5_text_76 rfl ?_
      refine gw_istore_n (pc' := 78) (lv' := [(2, .int 0), (0, .ref (eA E 49)), (1, .int y1)]) cx rfl rfl (by decide) dX5_text_77 rfl ?_
      refine gw_aload_n (pc' := 79) cx 1 rfl rfl dX5_text_78 rfl ?_
      refine gw_iconst (pc' := 80) (v := 0) cx ci_0 dX5_text_79 rfl ?_
      obtain ⟨s11, e12, h⟩ := lt_some h
      refine gw_put (pc' := 83) cx at49 rfl fp_X5_192 ⟨rfl, rfl⟩ dX5_text_80 rfl e12 ?_
      refine gw_iload_n (pc' := 84) cx 0 rfl rfl dX5_text_83 rfl ?_
      refine gw_if_ne_f (pc' := 87) cx (by decide) dX5_text_84 ⟨98, by decide⟩ rfl ?_
      refine gw_aload_n (pc' := 88) cx 1 rfl rfl dX5_text_87 rfl ?_
      refine gw_getR (pc' := 91) cx at49 rfl fl_X5_16 dX5_text_88 rfl ?_
      refine gw_aload_n (pc' := 92) cx 1 rfl rfl dX5_text_91 rfl ?_
      refine gw_getR (pc' := 95) cx at49 rfl fl_X5_7 dX5_text_92 rfl ?_
      obtain ⟨s14, g13, h⟩ := ob1_some h
      refine gw_cS (pc' := 98) (av := [.ref (eA E 52), .ref (eA E 50)]) (rest := []) cx (k_X5_copyRow E at52 at50 g13) (by decide) lk_X5_139 dX5_text_95 rfl (Nat.le_of_ble_eq_true rfl) rfl ?_
      show GW E fr _ 98 _ [] _
      refine gw_iload_n (pc' := 99) cx 0 rfl rfl dX5_text_98 rfl ?_
      refine gw_if_eq_t (pc' := 106) cx (by decide) dX5_text_99 (by decide) ?_
      refine gw_iconst (pc' := 107) (v := (-1)) cx ci_m1 dX5_text_106 rfl ?_
      refine gw_aload_n (pc' := 108) cx 1 rfl rfl dX5_text_107 rfl ?_
      refine gw_getI (pc' := 111) cx at49 rfl fl_X5_216 dX5_text_108 rfl ?_
      refine gw_isub (pc' := 112) cx dX5_text_111 rfl ?_
      exact gw_iret cx tg (rt1 h) (rt2 h) dX5_text_112
    · refine gw_if_eq_f (pc' := 31) cx c10 dX5_text_28 ⟨54, by decide⟩ rfl ?_
      refine gw_aload_n (pc' := 32) cx 0 rfl rfl dX5_text_31 rfl ?_
      refine gw_getI (pc' := 35) cx at49 rfl fl_X5_210 dX5_text_32 rfl ?_
      refine gw_iconst (pc' := 36) (v := 3) cx ci_3 dX5_text_35 rfl ?_
      rcases ite_some h with ⟨c15, h⟩ | ⟨c15, h⟩
      · refine gw_ic_ne_f (pc' := 39) cx c15 dX5_text_36 ⟨54, by decide⟩ rfl ?_
        refine gw_aload_n (pc' := 40) cx 0 rfl rfl dX5_text_39 rfl ?_
        obtain ⟨s17, g16, h⟩ := ob1_some h
        refine gw_cV (pc' := 43) (av := []) (rest := []) cx (k_X5_nextToken E g16) at49 (by decide) lk_X5_241 dX5_text_40 rfl (Nat.le_of_ble_eq_true rfl) rfl ?_
        show GW E fr _ 43 _ [] _
        refine gw_aload_n (pc' := 44) cx 0 rfl rfl dX5_text_43 rfl ?_
        obtain ⟨r19, s20, g18, h⟩ := ob2_some h
        refine gw_cV (pc' := 47) (av := []) (rest := []) cx (k_X5_itemHere E g18) at49 (by decide) lk_X5_260 dX5_text_44 rfl (Nat.le_of_ble_eq_true rfl) rfl ?_
        show GW E fr _ 47 _ (.int r19 :: _) _
        refine gw_istore_n (pc' := 48) (lv' := [(2, .int r19), (0, .ref (eA E 49)), (1, .int y1)]) cx rfl rfl (by decide) dX5_text_47 rfl ?_
        refine gw_iinc (pc' := 51) (v := (y1 + 1)) (lv' := [(1, .int (y1 + 1)), (2, .int r19), (0, .ref (eA E 49))]) cx 2 rfl rfl rfl (by decide) dX5_text_48 rfl ?_
        refine gw_goto (pc' := 27) cx dX5_text_51 (by decide) ?_
        refine gw_sub [2, 0, 1] (lv' := [(0, .ref (eA E 49)), (1, .int (y1 + 1)), (2, .int r19)]) rfl ?_
        exact ih (y1 + 1) r19 s20 h
      · refine gw_ic_ne_t (pc' := 54) cx c15 dX5_text_36 (by decide) ?_
        refine gw_iload_n (pc' := 55) cx 2 rfl rfl dX5_text_54 rfl ?_
        refine gw_if_eq_f (pc' := 58) cx c10 dX5_text_55 ⟨76, by decide⟩ rfl ?_
        refine gw_aload_n (pc' := 59) cx 0 rfl rfl dX5_text_58 rfl ?_
        refine gw_getI (pc' := 62) cx at49 rfl fl_X5_210 dX5_text_59 rfl ?_
        rcases ite_some h with ⟨c21, h⟩ | ⟨c21, h⟩
        · refine gw_if_eq_t (pc' := 72) cx c21 dX5_text_62 (by decide) ?_
          refine gw_iconst (pc' := 73) (v := 1) cx ci_1 dX5_text_72 rfl ?_
          refine gw_goto (pc' := 77) cx dX5_text_73 (by decide) ?_
          refine gw_istore_n (pc' := 78) (lv' := [(2, .int 1), (0, .ref (eA E 49)), (1, .int y1)]) cx rfl rfl (by decide) dX5_text_77 rfl ?_
          refine gw_aload_n (pc' := 79) cx 1 rfl rfl dX5_text_78 rfl ?_
          refine gw_iconst (pc' := 80) (v := 0) cx ci_0 dX5_text_79 rfl ?_
          obtain ⟨s22, e23, h⟩ := lt_some h
          refine gw_put (pc' := 83) cx at49 rfl fp_X5_192 ⟨rfl, rfl⟩ dX5_text_80 rfl e23 ?_
          refine gw_iload_n (pc' := 84) cx 0 rfl rfl dX5_text_83 rfl ?_
          refine gw_if_ne_t (pc' := 98) cx (by decide) dX5_text_84 (by decide) ?_
          refine gw_iload_n (pc' := 99) cx 0 rfl rfl dX5_text_98 rfl ?_
          refine gw_if_eq_f (pc' := 102) cx (by decide) dX5_text_99 ⟨106, by decide⟩ rfl ?_
          refine gw_iload_n (pc' := 103) cx 2 rfl rfl dX5_text_102 rfl ?_
          refine gw_goto (pc' := 112) cx dX5_text_103 (by decide) ?_
          exact gw_iret cx tg (rt1 h) (rt2 h) dX5_text_112
        · refine gw_if_eq_f (pc' := 65) cx c21 dX5_text_62 ⟨72, by decide⟩ rfl ?_
          refine gw_aload_n (pc' := 66) cx 0 rfl rfl dX5_text_65 rfl ?_
          obtain ⟨r25, s26, g24, h⟩ := ob2_some h
          refine gw_cV (pc' := 69) (av := []) (rest := []) cx (k_X5_fails E g24) at49 (by decide) lk_X5_226 dX5_text_66 rfl (Nat.le_of_ble_eq_true rfl) rfl ?_
          show GW E fr _ 69 _ (.int r25 :: _) _
          rcases ite_some h with ⟨c27, h⟩ | ⟨c27, h⟩
          · refine gw_if_eq_t (pc' := 76) cx c27 dX5_text_69 (by decide) ?_
            refine gw_iconst (pc' := 77) (v := 0) cx ci_0 dX5_text_76 rfl ?_
            refine gw_istore_n (pc' := 78) (lv' := [(2, .int 0), (0, .ref (eA E 49)), (1, .int y1)]) cx rfl rfl (by decide) dX5_text_77 rfl ?_
            refine gw_aload_n (pc' := 79) cx 1 rfl rfl dX5_text_78 rfl ?_
            refine gw_iconst (pc' := 80) (v := 0) cx ci_0 dX5_text_79 rfl ?_
            obtain ⟨s28, e29, h⟩ := lt_some h
            refine gw_put (pc' := 83) cx at49 rfl fp_X5_192 ⟨rfl, rfl⟩ dX5_text_80 rfl e29 ?_
            refine gw_iload_n (pc' := 84) cx 0 rfl rfl dX5_text_83 rfl ?_
            refine gw_if_ne_f (pc' := 87) cx (by decide) dX5_text_84 ⟨98, by decide⟩ rfl ?_
            refine gw_aload_n (pc' := 88) cx 1 rfl rfl dX5_text_87 rfl ?_
            refine gw_getR (pc' := 91) cx at49 rfl fl_X5_16 dX5_text_88 rfl ?_
            refine gw_aload_n (pc' := 92) cx 1 rfl rfl dX5_text_91 rfl ?_
            refine gw_getR (pc' := 95) cx at49 rfl fl_X5_7 dX5_text_92 rfl ?_
            obtain ⟨s31, g30, h⟩ := ob1_some h
            refine gw_cS (pc' := 98) (av := [.ref (eA E 52), .ref (eA E 50)]) (rest := []) cx (k_X5_copyRow E at52 at50 g30) (by decide) lk_X5_139 dX5_text_95 rfl (Nat.le_of_ble_eq_true rfl) rfl ?_
            show GW E fr _ 98 _ [] _
            refine gw_iload_n (pc' := 99) cx 0 rfl rfl dX5_text_98 rfl ?_
            refine gw_if_eq_t (pc' := 106) cx (by decide) dX5_text_99 (by decide) ?_
            refine gw_iconst (pc' := 107) (v := (-1)) cx ci_m1 dX5_text_106 rfl ?_
            refine gw_aload_n (pc' := 108) cx 1 rfl rfl dX5_text_107 rfl ?_
            refine gw_getI (pc' := 111) cx at49 rfl fl_X5_216 dX5_text_108 rfl ?_
            refine gw_isub (pc' := 112) cx dX5_text_111 rfl ?_
            exact gw_iret cx tg (rt1 h) (rt2 h) dX5_text_112
          · refine gw_if_eq_f (pc' := 72) cx c27 dX5_text_69 ⟨76, by decide⟩ rfl ?_
            refine gw_iconst (pc' := 73) (v := 1) cx ci_1 dX5_text_72 rfl ?_
            refine gw_goto (pc' := 77) cx dX5_text_73 (by decide) ?_
            refine gw_istore_n (pc' := 78) (lv' := [(2, .int 1), (0, .ref (eA E 49)), (1, .int y1)]) cx rfl rfl (by decide) dX5_text_77 rfl ?_
            refine gw_aload_n (pc' := 79) cx 1 rfl rfl dX5_text_78 rfl ?_
            refine gw_iconst (pc' := 80) (v := 0) cx ci_0 dX5_text_79 rfl ?_
            obtain ⟨s32, e33, h⟩ := lt_some h
            refine gw_put (pc' := 83) cx at49 rfl fp_X5_192 ⟨rfl, rfl⟩ dX5_text_80 rfl e33 ?_
            refine gw_iload_n (pc' := 84) cx 0 rfl rfl dX5_text_83 rfl ?_
            refine gw_if_ne_t (pc' := 98) cx (by decide) dX5_text_84 (by decide) ?_
            refine gw_iload_n (pc' := 99) cx 0 rfl rfl dX5_text_98 rfl ?_
            refine gw_if_eq_f (pc' := 102) cx (by decide) dX5_text_99 ⟨106, by decide⟩ rfl ?_
            refine gw_iload_n (pc' := 103) cx 2 rfl rfl dX5_text_102 rfl ?_
            refine gw_goto (pc' := 112) cx dX5_text_103 (by decide) ?_
            exact gw_iret cx tg (rt1 h) (rt2 h) dX5_text_112
def f_X5_text (σ : Sg) : Option (Int32 × Sg) :=
  ob1 (f_X5_copyRow 50 52 σ) fun s2 =>
  lt (up2 s2 49 15 0) fun s3 =>
  ob1 (f_X5_nextToken s3) fun s6 =>
  ob2 (f_X5_itemHere s6) fun r8 s9 =>
  f_X5_text_L27 FU 1 r8 s9
theorem k_X5_text (E : Ev)  {σ : Sg} {r : Int32} {σ' : Sg} (h : f_X5_text σ = some (r, σ')) : Con E mX5_text 5 [.ref (eA E 49)] σ (some (.int r)) σ' := by
  refine con_of (by decide) (Nat.le_of_ble_eq_true rfl) (fun fr cx tg => ?_)
  show GW E fr 3 0 [(0, .ref (eA E 49))] [] σ
  rw [f_X5_text] at h
  refine gw_aload_n (pc' := 1) cx 0 rfl rfl dX5_text_0 rfl ?_
  refine gw_getR (pc' := 4) cx at49 rfl fl_X5_7 dX5_text_1 rfl ?_
  refine gw_aload_n (pc' := 5) cx 0 rfl rfl dX5_text_4 rfl ?_
  refine gw_getR (pc' := 8) cx at49 rfl fl_X5_16 dX5_text_5 rfl ?_
  obtain ⟨s2, g1, h⟩ := ob1_some h
  refine gw_cS (pc' := 11) (av := [.ref (eA E 50), .ref (eA E 52)]) (rest := []) cx (k_X5_copyRow E at50 at52 g1) (by decide) lk_X5_139 dX5_text_8 rfl (Nat.le_of_ble_eq_true rfl) rfl ?_
  show GW E fr _ 11 _ [] _
  refine gw_aload_n (pc' := 12) cx 0 rfl rfl dX5_text_11 rfl ?_
  refine gw_iconst (pc' := 13) (v := 0) cx ci_0 dX5_text_12 rfl ?_
  obtain ⟨s3, e4, h⟩ := lt_some h
  refine gw_put (pc' := 16) cx at49 rfl fp_X5_195 ⟨rfl, rfl⟩ dX5_text_13 rfl e4 ?_
  refine gw_aload_n (pc' := 17) cx 0 rfl rfl dX5_text_16 rfl ?_
  obtain ⟨s6, g5, h⟩ := ob1_some h
  refine gw_cV (pc' := 20) (av := []) (rest := []) cx (k_X5_nextToken E g5) at49 (by decide) lk_X5_241 dX5_text_17 rfl (Nat.le_of_ble_eq_true rfl) rfl ?_
  show GW E fr _ 20 _ [] _
  refine gw_iconst (pc' := 21) (v := 1) cx ci_1 dX5_text_20 rfl ?_
  refine gw_istore_n (pc' := 22) (lv' := [(1, .int 1), (0, .ref (eA E 49))]) cx rfl rfl (by decide) dX5_text_21 rfl ?_
  refine gw_aload_n (pc' := 23) cx 1 rfl rfl dX5_text_22 rfl ?_
  obtain ⟨r8, s9, g7, h⟩ := ob2_some h
  refine gw_cV (pc' := 26) (av := []) (rest := []) cx (k_X5_itemHere E g7) at49 (by decide) lk_X5_260 dX5_text_23 rfl (Nat.le_of_ble_eq_true rfl) rfl ?_
  show GW E fr _ 26 _ (.int r8 :: _) _
  refine gw_istore_n (pc' := 27) (lv' := [(2, .int r8), (1, .int 1), (0, .ref (eA E 49))]) cx rfl rfl (by decide) dX5_text_26 rfl ?_
  refine gw_sub [2, 1, 0] (lv' := [(0, .ref (eA E 49)), (1, .int 1), (2, .int r8)]) rfl ?_
  exact w_X5_text_L27 cx tg FU 1 r8 s9 h
def f_X5_hold (x1 : Int32) (x2 : Int32) (σ : Sg) : Option (Int32 × Sg) :=
  ob0 (f_X5_isIn x1.toInt64 (0 : Int64) (9 : Int64) σ) fun r2 =>
  if r2 = 0 then
    ob2 (f_X5_finds (-1000001) σ) fun r5 s6 =>
    some (r5, s6)
  else
    if x2 = (-1) then
      chk (50 + x1) 60 <|
      lt (up2 σ 50 (50 + x1).toNatClampNeg x2) fun s9 =>
      some (1, s9)
    else
      ob0 (f_X5_isOne x2 σ) fun r12 =>
      if r12 = 0 then
        ob2 (f_X5_finds (-1000001) σ) fun r15 s16 =>
        some (r15, s16)
      else
        chk (50 + x1) 60 <|
        lt (up2 σ 50 (50 + x1).toNatClampNeg x2) fun s18 =>
        some (1, s18)
theorem k_X5_hold (E : Ev) {x1 : Int32} {x2 : Int32} {σ : Sg} {r : Int32} {σ' : Sg} (h : f_X5_hold x1 x2 σ = some (r, σ')) : Con E mX5_hold 1 [.ref (eA E 49), .int x1, .int x2] σ (some (.int r)) σ' := by
  refine con_of (by decide) (Nat.le_of_ble_eq_true rfl) (fun fr cx tg => ?_)
  show GW E fr 3 0 [(0, .ref (eA E 49)), (1, .int x1), (2, .int x2)] [] σ
  rw [f_X5_hold] at h
  refine gw_iload_n (pc' := 1) cx 1 rfl rfl dX5_hold_0 rfl ?_
  refine gw_i2l (pc' := 2) cx dX5_hold_1 rfl ?_
  refine gw_lconst (pc' := 3) (v := 0) cx cl_0 dX5_hold_2 rfl ?_
  refine gw_ldc2_w (pc' := 6) (v := 9) cx ct_X5_263 dX5_hold_3 rfl ?_
  obtain ⟨r2, g1, h⟩ := ob0_some h
  refine gw_cS (pc' := 9) (av := [.long x1.toInt64, .long (0 : Int64), .long (9 : Int64)]) (rest := []) cx (k_X5_isIn E g1) (by decide) lk_X5_45 dX5_hold_6 rfl (Nat.le_of_ble_eq_true rfl) rfl ?_
  show GW E fr _ 9 _ (.int r2 :: _) _
  rcases ite_some h with ⟨c3, h⟩ | ⟨c3, h⟩
  · refine gw_if_eq_t (pc' := 25) cx c3 dX5_hold_9 (by decide) ?_
    refine gw_aload_n (pc' := 26) cx 0 rfl rfl dX5_hold_25 rfl ?_
    refine gw_ldc (pc' := 28) (v := (-1000001)) cx ct_X5_37 dX5_hold_26 rfl ?_
    obtain ⟨r5, s6, g4, h⟩ := ob2_some h
    refine gw_cV (pc' := 31) (av := [.int (-1000001)]) (rest := []) cx (k_X5_finds E g4) at49 (by decide) lk_X5_39 dX5_hold_28 rfl (Nat.le_of_ble_eq_true rfl) rfl ?_
    show GW E fr _ 31 _ (.int r5 :: _) _
    exact gw_iret cx tg (rt1 h) (rt2 h) dX5_hold_31
  · refine gw_if_eq_f (pc' := 12) cx c3 dX5_hold_9 ⟨25, by decide⟩ rfl ?_
    refine gw_iload_n (pc' := 13) cx 2 rfl rfl dX5_hold_12 rfl ?_
    refine gw_iconst (pc' := 14) (v := (-1)) cx ci_m1 dX5_hold_13 rfl ?_
    rcases ite_some h with ⟨c7, h⟩ | ⟨c7, h⟩
    · refine gw_ic_eq_t (pc' := 32) cx c7 dX5_hold_14 (by decide) ?_
      refine gw_aload_n (pc' := 33) cx 0 rfl rfl dX5_hold_32 rfl ?_
      refine gw_getR (pc' := 36) cx at49 rfl fl_X5_7 dX5_hold_33 rfl ?_
      refine gw_bipush (pc' := 38) (v := 50) cx cb_50 dX5_hold_36 rfl ?_
      refine gw_iload_n (pc' := 39) cx 1 rfl rfl dX5_hold_38 rfl ?_
      refine gw_iadd (pc' := 40) cx dX5_hold_39 rfl ?_
      refine gw_iload_n (pc' := 41) cx 2 rfl rfl dX5_hold_40 rfl ?_
      obtain ⟨i8, h⟩ := chk_some h
      obtain ⟨s9, e10, h⟩ := lt_some h
      refine gw_iast (pc' := 42) cx at50 i8 rfl dX5_hold_41 rfl e10 ?_
      refine gw_iconst (pc' := 43) (v := 1) cx ci_1 dX5_hold_42 rfl ?_
      exact gw_iret cx tg (rt1 h) (rt2 h) dX5_hold_43
    · refine gw_ic_eq_f (pc' := 17) cx c7 dX5_hold_14 ⟨32, by decide⟩ rfl ?_
      refine gw_aload_n (pc' := 18) cx 0 rfl rfl dX5_hold_17 rfl ?_
      refine gw_iload_n (pc' := 19) cx 2 rfl rfl dX5_hold_18 rfl ?_
      obtain ⟨r12, g11, h⟩ := ob0_some h
      refine gw_cV (pc' := 22) (av := [.int x2]) (rest := []) cx (k_X5_isOne E g11) at49 (by decide) lk_X5_85 dX5_hold_19 rfl (Nat.le_of_ble_eq_true rfl) rfl ?_
      show GW E fr _ 22 _ (.int r12 :: _) _
      rcases ite_some h with ⟨c13, h⟩ | ⟨c13, h⟩
      · refine gw_if_ne_f (pc' := 25) cx c13 dX5_hold_22 ⟨32, by decide⟩ rfl ?_
        refine gw_aload_n (pc' := 26) cx 0 rfl rfl dX5_hold_25 rfl ?_
        refine gw_ldc (pc' := 28) (v := (-1000001)) cx ct_X5_37 dX5_hold_26 rfl ?_
        obtain ⟨r15, s16, g14, h⟩ := ob2_some h
        refine gw_cV (pc' := 31) (av := [.int (-1000001)]) (rest := []) cx (k_X5_finds E g14) at49 (by decide) lk_X5_39 dX5_hold_28 rfl (Nat.le_of_ble_eq_true rfl) rfl ?_
        show GW E fr _ 31 _ (.int r15 :: _) _
        exact gw_iret cx tg (rt1 h) (rt2 h) dX5_hold_31
      · refine gw_if_ne_t (pc' := 32) cx c13 dX5_hold_22 (by decide) ?_
        refine gw_aload_n (pc' := 33) cx 0 rfl rfl dX5_hold_32 rfl ?_
        refine gw_getR (pc' := 36) cx at49 rfl fl_X5_7 dX5_hold_33 rfl ?_
        refine gw_bipush (pc' := 38) (v := 50) cx cb_50 dX5_hold_36 rfl ?_
        refine gw_iload_n (pc' := 39) cx 1 rfl rfl dX5_hold_38 rfl ?_
        refine gw_iadd (pc' := 40) cx dX5_hold_39 rfl ?_
        refine gw_iload_n (pc' := 41) cx 2 rfl rfl dX5_hold_40 rfl ?_
        obtain ⟨i17, h⟩ := chk_some h
        obtain ⟨s18, e19, h⟩ := lt_some h
        refine gw_iast (pc' := 42) cx at50 i17 rfl dX5_hold_41 rfl e19 ?_
        refine gw_iconst (pc' := 43) (v := 1) cx ci_1 dX5_hold_42 rfl ?_
        exact gw_iret cx tg (rt1 h) (rt2 h) dX5_hold_43
def f_X5_isUnder (x0 : Int32) (x1 : Int32) (σ : Sg) : Option (Int32) :=
  if x1 = 0 then
    some 1
  else
    if x0 = x1 then
      some 1
    else
      if x1 = 2 then
        if x0 = 3 then
          some 1
        else
          if x0 = 4 then
            some 1
          else
            if x1 = 3 then
              if x1 = 1 then
                if x0 = 6 then
                  some 1
                else
                  some 0
              else
                some 0
            else
              if x1 = 1 then
                if x0 = 6 then
                  some 1
                else
                  some 0
              else
                some 0
      else
        if x1 = 3 then
          if x0 = 4 then
            some 1
          else
            if x1 = 1 then
              if x0 = 6 then
                some 1
              else
                some 0
            else
              some 0
        else
          if x1 = 1 then
            if x0 = 6 then
              some 1
            else
              some 0
          else
            some 0
theorem k_X5_isUnder (E : Ev) {x0 : Int32} {x1 : Int32} {σ : Sg} {r : Int32} (h : f_X5_isUnder x0 x1 σ = some r) : Con E mX5_isUnder 0 [.int x0, .int x1] σ (some (.int r)) σ := by
  refine con_of (by decide) (Nat.le_of_ble_eq_true rfl) (fun fr cx tg => ?_)
  show GW E fr 2 0 [(0, .int x0), (1, .int x1)] [] σ
  rw [f_X5_isUnder] at h
  refine gw_iload_n (pc' := 1) cx 1 rfl rfl dX5_isUnder_0 rfl ?_
  rcases ite_some h with ⟨c1, h⟩ | ⟨c1, h⟩
  · refine gw_if_eq_t (pc' := 45) cx c1 dX5_isUnder_1 (by decide) ?_
    refine gw_iconst (pc' := 46) (v := 1) cx ci_1 dX5_isUnder_45 rfl ?_
    refine gw_goto (pc' := 50) cx dX5_isUnder_46 (by decide) ?_
    exact gw_zret cx tg (Or.inr rfl) (rt0 h) rfl dX5_isUnder_50
  · refine gw_if_eq_f (pc' := 4) cx c1 dX5_isUnder_1 ⟨45, by decide⟩ rfl ?_
    refine gw_iload_n (pc' := 5) cx 0 rfl rfl dX5_isUnder_4 rfl ?_
    refine gw_iload_n (pc' := 6) cx 1 rfl rfl dX5_isUnder_5 rfl ?_
    rcases ite_some h with ⟨c2, h⟩ | ⟨c2, h⟩
    · refine gw_ic_eq_t (pc' := 45) cx c2 dX5_isUnder_6 (by decide) ?_
      refine gw_iconst (pc' := 46) (v := 1) cx ci_1 dX5_isUnder_45 rfl ?_
      refine gw_goto (pc' := 50) cx dX5_isUnder_46 (by decide) ?_
      exact gw_zret cx tg (Or.inr rfl) (rt0 h) rfl dX5_isUnder_50
    · refine gw_ic_eq_f (pc' := 9) cx c2 dX5_isUnder_6 ⟨45, by decide⟩ rfl ?_
      refine gw_iload_n (pc' := 10) cx 1 rfl rfl dX5_isUnder_9 rfl ?_
      refine gw_iconst (pc' := 11) (v := 2) cx ci_2 dX5_isUnder_10 rfl ?_
      rcases ite_some h with ⟨c3, h⟩ | ⟨c3, h⟩
      · refine gw_ic_ne_f (pc' := 14) cx c3 dX5_isUnder_11 ⟨24, by decide⟩ rfl ?_
        refine gw_iload_n (pc' := 15) cx 0 rfl rfl dX5_isUnder_14 rfl ?_
        refine gw_iconst (pc' := 16) (v := 3) cx ci_3 dX5_isUnder_15 rfl ?_
        rcases ite_some h with ⟨c4, h⟩ | ⟨c4, h⟩
        · refine gw_ic_eq_t (pc' := 45) cx c4 dX5_isUnder_16 (by decide) ?_
          refine gw_iconst (pc' := 46) (v := 1) cx ci_1 dX5_isUnder_45 rfl ?_
          refine gw_goto (pc' := 50) cx dX5_isUnder_46 (by decide) ?_
          exact gw_zret cx tg (Or.inr rfl) (rt0 h) rfl dX5_isUnder_50
        · refine gw_ic_eq_f (pc' := 19) cx c4 dX5_isUnder_16 ⟨45, by decide⟩ rfl ?_
          refine gw_iload_n (pc' := 20) cx 0 rfl rfl dX5_isUnder_19 rfl ?_
          refine gw_iconst (pc' := 21) (v := 4) cx ci_4 dX5_isUnder_20 rfl ?_
          rcases ite_some h with ⟨c5, h⟩ | ⟨c5, h⟩
          · refine gw_ic_eq_t (pc' := 45) cx c5 dX5_isUnder_21 (by decide) ?_
            refine gw_iconst (pc' := 46) (v := 1) cx ci_1 dX5_isUnder_45 rfl ?_
            refine gw_goto (pc' := 50) cx dX5_isUnder_46 (by decide) ?_
            exact gw_zret cx tg (Or.inr rfl) (rt0 h) rfl dX5_isUnder_50
          · refine gw_ic_eq_f (pc' := 24) cx c5 dX5_isUnder_21 ⟨45, by decide⟩ rfl ?_
            refine gw_iload_n (pc' := 25) cx 1 rfl rfl dX5_isUnder_24 rfl ?_
            refine gw_iconst (pc' := 26) (v := 3) cx ci_3 dX5_isUnder_25 rfl ?_
            rcases ite_some h with ⟨c6, h⟩ | ⟨c6, h⟩
            · refine gw_ic_ne_f (pc' := 29) cx c6 dX5_isUnder_26 ⟨34, by decide⟩ rfl ?_
              refine gw_iload_n (pc' := 30) cx 0 rfl rfl dX5_isUnder_29 rfl ?_
              refine gw_iconst (pc' := 31) (v := 4) cx ci_4 dX5_isUnder_30 rfl ?_
              refine gw_ic_eq_f (pc' := 34) cx c5 dX5_isUnder_31 ⟨45, by decide⟩ rfl ?_
              refine gw_iload_n (pc' := 35) cx 1 rfl rfl dX5_isUnder_34 rfl ?_
              refine gw_iconst (pc' := 36) (v := 1) cx ci_1 dX5_isUnder_35 rfl ?_
              rcases ite_some h with ⟨c7, h⟩ | ⟨c7, h⟩
              · refine gw_ic_ne_f (pc' := 39) cx c7 dX5_isUnder_36 ⟨49, by decide⟩ rfl ?_
                refine gw_iload_n (pc' := 40) cx 0 rfl rfl dX5_isUnder_39 rfl ?_
                refine gw_bipush (pc' := 42) (v := 6) cx cb_6 dX5_isUnder_40 rfl ?_
                rcases ite_some h with ⟨c8, h⟩ | ⟨c8, h⟩
                · refine gw_ic_ne_f (pc' := 45) cx c8 dX5_isUnder_42 ⟨49, by decide⟩ rfl ?_
                  refine gw_iconst (pc' := 46) (v := 1) cx ci_1 dX5_isUnder_45 rfl ?_
                  refine gw_goto (pc' := 50) cx dX5_isUnder_46 (by decide) ?_
                  exact gw_zret cx tg (Or.inr rfl) (rt0 h) rfl dX5_isUnder_50
                · refine gw_ic_ne_t (pc' := 49) cx c8 dX5_isUnder_42 (by decide) ?_
                  refine gw_iconst (pc' := 50) (v := 0) cx ci_0 dX5_isUnder_49 rfl ?_
                  exact gw_zret cx tg (Or.inl rfl) (rt0 h) rfl dX5_isUnder_50
              · refine gw_ic_ne_t (pc' := 49) cx c7 dX5_isUnder_36 (by decide) ?_
                refine gw_iconst (pc' := 50) (v := 0) cx ci_0 dX5_isUnder_49 rfl ?_
                exact gw_zret cx tg (Or.inl rfl) (rt0 h) rfl dX5_isUnder_50
            · refine gw_ic_ne_t (pc' := 34) cx c6 dX5_isUnder_26 (by decide) ?_
              refine gw_iload_n (pc' := 35) cx 1 rfl rfl dX5_isUnder_34 rfl ?_
              refine gw_iconst (pc' := 36) (v := 1) cx ci_1 dX5_isUnder_35 rfl ?_
              rcases ite_some h with ⟨c9, h⟩ | ⟨c9, h⟩
              · refine gw_ic_ne_f (pc' := 39) cx c9 dX5_isUnder_36 ⟨49, by decide⟩ rfl ?_
                refine gw_iload_n (pc' := 40) cx 0 rfl rfl dX5_isUnder_39 rfl ?_
                refine gw_bipush (pc' := 42) (v := 6) cx cb_6 dX5_isUnder_40 rfl ?_
                rcases ite_some h with ⟨c10, h⟩ | ⟨c10, h⟩
                · refine gw_ic_ne_f (pc' := 45) cx c10 dX5_isUnder_42 ⟨49, by decide⟩ rfl ?_
                  refine gw_iconst (pc' := 46) (v := 1) cx ci_1 dX5_isUnder_45 rfl ?_
                  refine gw_goto (pc' := 50) cx dX5_isUnder_46 (by decide) ?_
                  exact gw_zret cx tg (Or.inr rfl) (rt0 h) rfl dX5_isUnder_50
                · refine gw_ic_ne_t (pc' := 49) cx c10 dX5_isUnder_42 (by decide) ?_
                  refine gw_iconst (pc' := 50) (v := 0) cx ci_0 dX5_isUnder_49 rfl ?_
                  exact gw_zret cx tg (Or.inl rfl) (rt0 h) rfl dX5_isUnder_50
              · refine gw_ic_ne_t (pc' := 49) cx c9 dX5_isUnder_36 (by decide) ?_
                refine gw_iconst (pc' := 50) (v := 0) cx ci_0 dX5_isUnder_49 rfl ?_
                exact gw_zret cx tg (Or.inl rfl) (rt0 h) rfl dX5_isUnder_50
      · refine gw_ic_ne_t (pc' := 24) cx c3 dX5_isUnder_11 (by decide) ?_
        refine gw_iload_n (pc' := 25) cx 1 rfl rfl dX5_isUnder_24 rfl ?_
        refine gw_iconst (pc' := 26) (v := 3) cx ci_3 dX5_isUnder_25 rfl ?_
        rcases ite_some h with ⟨c11, h⟩ | ⟨c11, h⟩
        · refine gw_ic_ne_f (pc' := 29) cx c11 dX5_isUnder_26 ⟨34, by decide⟩ rfl ?_
          refine gw_iload_n (pc' := 30) cx 0 rfl rfl dX5_isUnder_29 rfl ?_
          refine gw_iconst (pc' := 31) (v := 4) cx ci_4 dX5_isUnder_30 rfl ?_
          rcases ite_some h with ⟨c12, h⟩ | ⟨c12, h⟩
          · refine gw_ic_eq_t (pc' := 45) cx c12 dX5_isUnder_31 (by decide) ?_
            refine gw_iconst (pc' := 46) (v := 1) cx ci_1 dX5_isUnder_45 rfl ?_
            refine gw_goto (pc' := 50) cx dX5_isUnder_46 (by decide) ?_
            exact gw_zret cx tg (Or.inr rfl) (rt0 h) rfl dX5_isUnder_50
          · refine gw_ic_eq_f (pc' := 34) cx c12 dX5_isUnder_31 ⟨45, by decide⟩ rfl ?_
            refine gw_iload_n (pc' := 35) cx 1 rfl rfl dX5_isUnder_34 rfl ?_
            refine gw_iconst (pc' := 36) (v := 1) cx ci_1 dX5_isUnder_35 rfl ?_
            rcases ite_some h with ⟨c13, h⟩ | ⟨c13, h⟩
            · refine gw_ic_ne_f (pc' := 39) cx c13 dX5_isUnder_36 ⟨49, by decide⟩ rfl ?_
              refine gw_iload_n (pc' := 40) cx 0 rfl rfl dX5_isUnder_39 rfl ?_
              refine gw_bipush (pc' := 42) (v := 6) cx cb_6 dX5_isUnder_40 rfl ?_
              rcases ite_some h with ⟨c14, h⟩ | ⟨c14, h⟩
              · refine gw_ic_ne_f (pc' := 45) cx c14 dX5_isUnder_42 ⟨49, by decide⟩ rfl ?_
                refine gw_iconst (pc' := 46) (v := 1) cx ci_1 dX5_isUnder_45 rfl ?_
                refine gw_goto (pc' := 50) cx dX5_isUnder_46 (by decide) ?_
                exact gw_zret cx tg (Or.inr rfl) (rt0 h) rfl dX5_isUnder_50
              · refine gw_ic_ne_t (pc' := 49) cx c14 dX5_isUnder_42 (by decide) ?_
                refine gw_iconst (pc' := 50) (v := 0) cx ci_0 dX5_isUnder_49 rfl ?_
                exact gw_zret cx tg (Or.inl rfl) (rt0 h) rfl dX5_isUnder_50
            · refine gw_ic_ne_t (pc' := 49) cx c13 dX5_isUnder_36 (by decide) ?_
              refine gw_iconst (pc' := 50) (v := 0) cx ci_0 dX5_isUnder_49 rfl ?_
              exact gw_zret cx tg (Or.inl rfl) (rt0 h) rfl dX5_isUnder_50
        · refine gw_ic_ne_t (pc' := 34) cx c11 dX5_isUnder_26 (by decide) ?_
          refine gw_iload_n (pc' := 35) cx 1 rfl rfl dX5_isUnder_34 rfl ?_
          refine gw_iconst (pc' := 36) (v := 1) cx ci_1 dX5_isUnder_35 rfl ?_
          rcases ite_some h with ⟨c15, h⟩ | ⟨c15, h⟩
          · refine gw_ic_ne_f (pc' := 39) cx c15 dX5_isUnder_36 ⟨49, by decide⟩ rfl ?_
            refine gw_iload_n (pc' := 40) cx 0 rfl rfl dX5_isUnder_39 rfl ?_
            refine gw_bipush (pc' := 42) (v := 6) cx cb_6 dX5_isUnder_40 rfl ?_
            rcases ite_some h with ⟨c16, h⟩ | ⟨c16, h⟩
            · refine gw_ic_ne_f (pc' := 45) cx c16 dX5_isUnder_42 ⟨49, by decide⟩ rfl ?_
              refine gw_iconst (pc' := 46) (v := 1) cx ci_1 dX5_isUnder_45 rfl ?_
              refine gw_goto (pc' := 50) cx dX5_isUnder_46 (by decide) ?_
              exact gw_zret cx tg (Or.inr rfl) (rt0 h) rfl dX5_isUnder_50
            · refine gw_ic_ne_t (pc' := 49) cx c16 dX5_isUnder_42 (by decide) ?_
              refine gw_iconst (pc' := 50) (v := 0) cx ci_0 dX5_isUnder_49 rfl ?_
              exact gw_zret cx tg (Or.inl rfl) (rt0 h) rfl dX5_isUnder_50
          · refine gw_ic_ne_t (pc' := 49) cx c15 dX5_isUnder_36 (by decide) ?_
            refine gw_iconst (pc' := 50) (v := 0) cx ci_0 dX5_isUnder_49 rfl ?_
            exact gw_zret cx tg (Or.inl rfl) (rt0 h) rfl dX5_isUnder_50
def f_X5_as (x1 : Int32) (x2 : Int32) (σ : Sg) : Option (Int32 × Sg) :=
  ob0 (f_X5_isIn x1.toInt64 (0 : Int64) (9 : Int64) σ) fun r2 =>
  if r2 = 0 then
    ob2 (f_X5_finds (-1000001) σ) fun r5 s6 =>
    some (r5, s6)
  else
    ob0 (f_X5_isIn x2.toInt64 (0 : Int64) (6 : Int64) σ) fun r8 =>
    if r8 = 0 then
      ob2 (f_X5_finds (-1000001) σ) fun r11 s12 =>
      some (r11, s12)
    else
      chk (50 + x1) 60 <|
      if 0 ≤ (σ 50 (50 + x1).toNatClampNeg) then
        ob0 (f_X5_its (σ 50 (50 + x1).toNatClampNeg) 0 σ) fun r16 =>
        ob0 (f_X5_isUnder r16 x2 σ) fun r18 =>
        if r18 = 0 then
          ob2 (f_X5_finds (-1000003) σ) fun r21 s22 =>
          some (r21, s22)
        else
          some ((σ 50 (50 + x1).toNatClampNeg), σ)
      else
        ob2 (f_X5_finds (-1000006) σ) fun r24 s25 =>
        some (r24, s25)
theorem k_X5_as (E : Ev) {x1 : Int32} {x2 : Int32} {σ : Sg} {r : Int32} {σ' : Sg} (h : f_X5_as x1 x2 σ = some (r, σ')) : Con E mX5_as 1 [.ref (eA E 49), .int x1, .int x2] σ (some (.int r)) σ' := by
  refine con_of (by decide) (Nat.le_of_ble_eq_true rfl) (fun fr cx tg => ?_)
  show GW E fr 4 0 [(0, .ref (eA E 49)), (1, .int x1), (2, .int x2)] [] σ
  rw [f_X5_as] at h
  refine gw_iload_n (pc' := 1) cx 1 rfl rfl dX5_as_0 rfl ?_
  refine gw_i2l (pc' := 2) cx dX5_as_1 rfl ?_
  refine gw_lconst (pc' := 3) (v := 0) cx cl_0 dX5_as_2 rfl ?_
  refine gw_ldc2_w (pc' := 6) (v := 9) cx ct_X5_263 dX5_as_3 rfl ?_
  obtain ⟨r2, g1, h⟩ := ob0_some h
  refine gw_cS (pc' := 9) (av := [.long x1.toInt64, .long (0 : Int64), .long (9 : Int64)]) (rest := []) cx (k_X5_isIn E g1) (by decide) lk_X5_45 dX5_as_6 rfl (Nat.le_of_ble_eq_true rfl) rfl ?_
  show GW E fr _ 9 _ (.int r2 :: _) _
  rcases ite_some h with ⟨c3, h⟩ | ⟨c3, h⟩
  · refine gw_if_eq_t (pc' := 24) cx c3 dX5_as_9 (by decide) ?_
    refine gw_aload_n (pc' := 25) cx 0 rfl rfl dX5_as_24 rfl ?_
    refine gw_ldc (pc' := 27) (v := (-1000001)) cx ct_X5_37 dX5_as_25 rfl ?_
    obtain ⟨r5, s6, g4, h⟩ := ob2_some h
    refine gw_cV (pc' := 30) (av := [.int (-1000001)]) (rest := []) cx (k_X5_finds E g4) at49 (by decide) lk_X5_39 dX5_as_27 rfl (Nat.le_of_ble_eq_true rfl) rfl ?_
    show GW E fr _ 30 _ (.int r5 :: _) _
    exact gw_iret cx tg (rt1 h) (rt2 h) dX5_as_30
  · refine gw_if_eq_f (pc' := 12) cx c3 dX5_as_9 ⟨24, by decide⟩ rfl ?_
    refine gw_iload_n (pc' := 13) cx 2 rfl rfl dX5_as_12 rfl ?_
    refine gw_i2l (pc' := 14) cx dX5_as_13 rfl ?_
    refine gw_lconst (pc' := 15) (v := 0) cx cl_0 dX5_as_14 rfl ?_
    refine gw_ldc2_w (pc' := 18) (v := 6) cx ct_X5_64 dX5_as_15 rfl ?_
    obtain ⟨r8, g7, h⟩ := ob0_some h
    refine gw_cS (pc' := 21) (av := [.long x2.toInt64, .long (0 : Int64), .long (6 : Int64)]) (rest := []) cx (k_X5_isIn E g7) (by decide) lk_X5_45 dX5_as_18 rfl (Nat.le_of_ble_eq_true rfl) rfl ?_
    show GW E fr _ 21 _ (.int r8 :: _) _
    rcases ite_some h with ⟨c9, h⟩ | ⟨c9, h⟩
    · refine gw_if_ne_f (pc' := 24) cx c9 dX5_as_21 ⟨31, by decide⟩ rfl ?_
      refine gw_aload_n (pc' := 25) cx 0 rfl rfl dX5_as_24 rfl ?_
      refine gw_ldc (pc' := 27) (v := (-1000001)) cx ct_X5_37 dX5_as_25 rfl ?_
      obtain ⟨r11, s12, g10, h⟩ := ob2_some h
      refine gw_cV (pc' := 30) (av := [.int (-1000001)]) (rest := []) cx (k_X5_finds E g10) at49 (by decide) lk_X5_39 dX5_as_27 rfl (Nat.le_of_ble_eq_true rfl) rfl ?_
      show GW E fr _ 30 _ (.int r11 :: _) _
      exact gw_iret cx tg (rt1 h) (rt2 h) dX5_as_30
    · refine gw_if_ne_t (pc' := 31) cx c9 dX5_as_21 (by decide) ?_
      refine gw_aload_n (pc' := 32) cx 0 rfl rfl dX5_as_31 rfl ?_
      refine gw_getR (pc' := 35) cx at49 rfl fl_X5_7 dX5_as_32 rfl ?_
      refine gw_bipush (pc' := 37) (v := 50) cx cb_50 dX5_as_35 rfl ?_
      refine gw_iload_n (pc' := 38) cx 1 rfl rfl dX5_as_37 rfl ?_
      refine gw_iadd (pc' := 39) cx dX5_as_38 rfl ?_
      obtain ⟨i13, h⟩ := chk_some h
      refine gw_iald (pc' := 40) cx at50 i13 rfl dX5_as_39 rfl ?_
      refine gw_istore_n (pc' := 41) (lv' := [(3, .int (σ 50 (50 + x1).toNatClampNeg)), (0, .ref (eA E 49)), (1, .int x1), (2, .int x2)]) cx rfl rfl (by decide) dX5_as_40 rfl ?_
      refine gw_iload_n (pc' := 42) cx 0 rfl rfl dX5_as_41 rfl ?_
      rcases ite_some h with ⟨c14, h⟩ | ⟨c14, h⟩
      · refine gw_if_ge_t (pc' := 53) cx c14 dX5_as_42 (by decide) ?_
        refine gw_aload_n (pc' := 54) cx 1 rfl rfl dX5_as_53 rfl ?_
        refine gw_iload_n (pc' := 55) cx 0 rfl rfl dX5_as_54 rfl ?_
        refine gw_iconst (pc' := 56) (v := 0) cx ci_0 dX5_as_55 rfl ?_
        obtain ⟨r16, g15, h⟩ := ob0_some h
        refine gw_cV (pc' := 59) (av := [.int (σ 50 (50 + x1).toNatClampNeg), .int 0]) (rest := []) cx (k_X5_its E g15) at49 (by decide) lk_X5_73 dX5_as_56 rfl (Nat.le_of_ble_eq_true rfl) rfl ?_
        show GW E fr _ 59 _ (.int r16 :: _) _
        refine gw_iload_n (pc' := 60) cx 3 rfl rfl dX5_as_59 rfl ?_
        obtain ⟨r18, g17, h⟩ := ob0_some h
        refine gw_cS (pc' := 63) (av := [.int r16, .int x2]) (rest := []) cx (k_X5_isUnder E g17) (by decide) lk_X5_266 dX5_as_60 rfl (Nat.le_of_ble_eq_true rfl) rfl ?_
        show GW E fr _ 63 _ (.int r18 :: _) _
        rcases ite_some h with ⟨c19, h⟩ | ⟨c19, h⟩
        · refine gw_if_eq_t (pc' := 70) cx c19 dX5_as_63 (by decide) ?_
          refine gw_aload_n (pc' := 71) cx 1 rfl rfl dX5_as_70 rfl ?_
          refine gw_ldc_w (pc' := 74) (v := (-1000003)) cx ct_X5_269 dX5_as_71 rfl ?_
          obtain ⟨r21, s22, g20, h⟩ := ob2_some h
          refine gw_cV (pc' := 77) (av := [.int (-1000003)]) (rest := []) cx (k_X5_finds E g20) at49 (by decide) lk_X5_39 dX5_as_74 rfl (Nat.le_of_ble_eq_true rfl) rfl ?_
          show GW E fr _ 77 _ (.int r21 :: _) _
          exact gw_iret cx tg (rt1 h) (rt2 h) dX5_as_77
        · refine gw_if_eq_f (pc' := 66) cx c19 dX5_as_63 ⟨70, by decide⟩ rfl ?_
          refine gw_iload_n (pc' := 67) cx 0 rfl rfl dX5_as_66 rfl ?_
          refine gw_goto (pc' := 77) cx dX5_as_67 (by decide) ?_
          exact gw_iret cx tg (rt1 h) (rt2 h) dX5_as_77
      · refine gw_if_ge_f (pc' := 45) cx c14 dX5_as_42 ⟨53, by decide⟩ rfl ?_
        refine gw_aload_n (pc' := 46) cx 1 rfl rfl dX5_as_45 rfl ?_
        refine gw_ldc_w (pc' := 49) (v := (-1000006)) cx ct_X5_265 dX5_as_46 rfl ?_
        obtain ⟨r24, s25, g23, h⟩ := ob2_some h
        refine gw_cV (pc' := 52) (av := [.int (-1000006)]) (rest := []) cx (k_X5_finds E g23) at49 (by decide) lk_X5_39 dX5_as_49 rfl (Nat.le_of_ble_eq_true rfl) rfl ?_
        show GW E fr _ 52 _ (.int r24 :: _) _
        exact gw_iret cx tg (rt1 h) (rt2 h) dX5_as_52
def f_X5_sheet_L94 (y1 : Int32) : Nat → Int32 → Sg → Option (Int32 × Sg)
  | 0, _, _ => none
  | n + 1, y4, σ =>
    if 40 ≤ y4 then
      chk y1 4 <|
      some ((σ 57 y1.toNatClampNeg), σ)
    else
      chk ((40 * y1) + y4) 160 <|
      lt (up2 σ 58 ((40 * y1) + y4).toNatClampNeg 0) fun s69 =>
      f_X5_sheet_L94 y1 n (y4 + 1) s69
theorem w_X5_sheet_L94 {E : Ev} {fr : Fr} {r : Int32} {σ' : Sg} (cx : Cx E mX5_sheet 1 fr) (tg : Tg E fr (some .int) (some (.int r)) σ') (y1 : Int32)  : ∀ (n : Nat) (y4 : Int32) (σ : Sg), f_X5_sheet_L94 y1 n y4 σ = some (r, σ') → GW E fr 5 94 [(0, .ref (eA E 49)), (1, .int y1), (4, .int y4)] [] σ := by
  intro n
  induction n with
  | zero => intro y4 σ h; cases (show (none : Option (Int32 × Sg)) = _ from h)
  | succ n ih =>
    intro y4 σ h
    rw [f_X5_sheet_L94] at h
    refine gw_iload (pc' := 96) cx 2 rfl dX5_sheet_94 rfl ?_
    refine gw_bipush (pc' := 98) (v := 40) cx cb_40 dX5_sheet_96 rfl ?_
    rcases ite_some h with ⟨c66, h⟩ | ⟨c66, h⟩
    · refine gw_ic_ge_t (pc' := 120) cx c66 dX5_sheet_98 (by decide) ?_
      refine gw_aload_n (pc' := 121) cx 0 rfl rfl dX5_sheet_120 rfl ?_
      refine gw_getR (pc' := 124) cx at49 rfl fl_X5_31 dX5_sheet_121 rfl ?_
      refine gw_iload_n (pc' := 125) cx 1 rfl rfl dX5_sheet_124 rfl ?_
      obtain ⟨i67, h⟩ := chk_some h
      refine gw_iald (pc' := 126) cx at57 i67 rfl dX5_sheet_125 rfl ?_
      exact gw_iret cx tg (rt1 h) (rt2 h) dX5_sheet_126
    · refine gw_ic_ge_f (pc' := 101) cx c66 dX5_sheet_98 ⟨120, by decide⟩ rfl ?_
      refine gw_aload_n (pc' := 102) cx 0 rfl rfl dX5_sheet_101 rfl ?_
      refine gw_getR (pc' := 105) cx at49 rfl fl_X5_34 dX5_sheet_102 rfl ?_
      refine gw_bipush (pc' := 107) (v := 40) cx cb_40 dX5_sheet_105 rfl ?_
      refine gw_iload_n (pc' := 108) cx 1 rfl rfl dX5_sheet_107 rfl ?_
      refine gw_imul (pc' := 109) cx dX5_sheet_108 rfl ?_
      refine gw_iload (pc' := 111) cx 2 rfl dX5_sheet_109 rfl ?_
      refine gw_iadd (pc' := 112) cx dX5_sheet_111 rfl ?_
      refine gw_iconst (pc' := 113) (v := 0) cx ci_0 dX5_sheet_112 rfl ?_
      obtain ⟨i68, h⟩ := chk_some h
      obtain ⟨s69, e70, h⟩ := lt_some h
      refine gw_iast (pc' := 114) cx at58 i68 rfl dX5_sheet_113 rfl e70 ?_
      refine gw_iinc (pc' := 117) (v := (y4 + 1)) (lv' := [(4, .int (y4 + 1)), (0, .ref (eA E 49)), (1, .int y1)]) cx 2 rfl rfl rfl (by decide) dX5_sheet_114 rfl ?_
      refine gw_goto (pc' := 94) cx dX5_sheet_117 (by decide) ?_
      refine gw_sub [1, 2, 0] (lv' := [(0, .ref (eA E 49)), (1, .int y1), (4, .int (y4 + 1))]) rfl ?_
      exact ih (y4 + 1) s69 h
def f_X5_sheet (x1 : Int32) (x2 : Int32) (x3 : Int32) (σ : Sg) : Option (Int32 × Sg) :=
  ob0 (f_X5_isSheet x1 σ) fun r2 =>
  if r2 = 0 then
    ob2 (f_X5_finds (-1000001) σ) fun r5 s6 =>
    some (r5, s6)
  else
    if x2 = 0 then
      if 0 ≤ x3 then
        if x3 ≤ 40 then
          chk x1 4 <|
          lt (up2 σ 56 x1.toNatClampNeg (-1)) fun s11 =>
          lt (up2 s11 57 x1.toNatClampNeg 0) fun s13 =>
          f_X5_sheet_L94 x1 FU 0 s13
        else
          ob2 (f_X5_finds (-1000001) σ) fun r16 s17 =>
          some (r16, s17)
      else
        ob2 (f_X5_finds (-1000007) σ) fun r19 s20 =>
        some (r19, s20)
    else
      if x2 = 8 then
        if 0 ≤ x3 then
          if x3 ≤ 40 then
            chk x1 4 <|
            lt (up2 σ 56 x1.toNatClampNeg x2) fun s25 =>
            lt (up2 s25 57 x1.toNatClampNeg x3) fun s27 =>
            f_X5_sheet_L94 x1 FU 0 s27
          else
            ob2 (f_X5_finds (-1000001) σ) fun r30 s31 =>
            some (r30, s31)
        else
          ob2 (f_X5_finds (-1000007) σ) fun r33 s34 =>
          some (r33, s34)
      else
        if x2 = 16 then
          if 0 ≤ x3 then
            if x3 ≤ 40 then
              chk x1 4 <|
              lt (up2 σ 56 x1.toNatClampNeg x2) fun s39 =>
              lt (up2 s39 57 x1.toNatClampNeg x3) fun s41 =>
              f_X5_sheet_L94 x1 FU 0 s41
            else
              ob2 (f_X5_finds (-1000001) σ) fun r44 s45 =>
              some (r44, s45)
          else
            ob2 (f_X5_finds (-1000007) σ) fun r47 s48 =>
            some (r47, s48)
        else
          if x2 = 32 then
            if 0 ≤ x3 then
              if x3 ≤ 40 then
                chk x1 4 <|
                lt (up2 σ 56 x1.toNatClampNeg x2) fun s53 =>
                lt (up2 s53 57 x1.toNatClampNeg x3) fun s55 =>
                f_X5_sheet_L94 x1 FU 0 s55
              else
                ob2 (f_X5_finds (-1000001) σ) fun r58 s59 =>
                some (r58, s59)
            else
              ob2 (f_X5_finds (-1000007) σ) fun r61 s62 =>
              some (r61, s62)
          else
            ob2 (f_X5_finds (-1000001) σ) fun r64 s65 =>
            some (r64, s65)
theorem k_X5_sheet (E : Ev) {x1 : Int32} {x2 : Int32} {x3 : Int32} {σ : Sg} {r : Int32} {σ' : Sg} (h : f_X5_sheet x1 x2 x3 σ = some (r, σ')) : Con E mX5_sheet 1 [.ref (eA E 49), .int x1, .int x2, .int x3] σ (some (.int r)) σ' := by
  refine con_of (by decide) (Nat.le_of_ble_eq_true rfl) (fun fr cx tg => ?_)
  show GW E fr 5 0 [(0, .ref (eA E 49)), (1, .int x1), (2, .int x2), (3, .int x3)] [] σ
  rw [f_X5_sheet] at h
  refine gw_iload_n (pc' := 1) cx 1 rfl rfl dX5_sheet_0 rfl ?_
  obtain ⟨r2, g1, h⟩ := ob0_some h
  refine gw_cS (pc' := 4) (av := [.int x1]) (rest := []) cx (k_X5_isSheet E g1) (by decide) lk_X5_270 dX5_sheet_1 rfl (Nat.le_of_ble_eq_true rfl) rfl ?_
  show GW E fr _ 4 _ (.int r2 :: _) _
  rcases ite_some h with ⟨c3, h⟩ | ⟨c3, h⟩
  · refine gw_if_eq_t (pc' := 29) cx c3 dX5_sheet_4 (by decide) ?_
    refine gw_aload_n (pc' := 30) cx 0 rfl rfl dX5_sheet_29 rfl ?_
    refine gw_ldc (pc' := 32) (v := (-1000001)) cx ct_X5_37 dX5_sheet_30 rfl ?_
    obtain ⟨r5, s6, g4, h⟩ := ob2_some h
    refine gw_cV (pc' := 35) (av := [.int (-1000001)]) (rest := []) cx (k_X5_finds E g4) at49 (by decide) lk_X5_39 dX5_sheet_32 rfl (Nat.le_of_ble_eq_true rfl) rfl ?_
    show GW E fr _ 35 _ (.int r5 :: _) _
    exact gw_iret cx tg (rt1 h) (rt2 h) dX5_sheet_35
  · refine gw_if_eq_f (pc' := 7) cx c3 dX5_sheet_4 ⟨29, by decide⟩ rfl ?_
    refine gw_iload_n (pc' := 8) cx 2 rfl rfl dX5_sheet_7 rfl ?_
    rcases ite_some h with ⟨c7, h⟩ | ⟨c7, h⟩
    · refine gw_if_eq_t (pc' := 36) cx c7 dX5_sheet_8 (by decide) ?_
      refine gw_iload_n (pc' := 37) cx 3 rfl rfl dX5_sheet_36 rfl ?_
      rcases ite_some h with ⟨c8, h⟩ | ⟨c8, h⟩
      · refine gw_if_ge_t (pc' := 48) cx c8 dX5_sheet_37 (by decide) ?_
        refine gw_iload_n (pc' := 49) cx 3 rfl rfl dX5_sheet_48 rfl ?_
        refine gw_bipush (pc' := 51) (v := 40) cx cb_40 dX5_sheet_49 rfl ?_
        rcases ite_some h with ⟨c9, h⟩ | ⟨c9, h⟩
        · refine gw_ic_le_t (pc' := 61) cx c9 dX5_sheet_51 (by decide) ?_
          refine gw_aload_n (pc' := 62) cx 0 rfl rfl dX5_sheet_61 rfl ?_
          refine gw_getR (pc' := 65) cx at49 rfl fl_X5_28 dX5_sheet_62 rfl ?_
          refine gw_iload_n (pc' := 66) cx 1 rfl rfl dX5_sheet_65 rfl ?_
          refine gw_iload_n (pc' := 67) cx 2 rfl rfl dX5_sheet_66 rfl ?_
          refine gw_if_ne_f (pc' := 70) cx c7 dX5_sheet_67 ⟨74, by decide⟩ rfl ?_
          refine gw_iconst (pc' := 71) (v := (-1)) cx ci_m1 dX5_sheet_70 rfl ?_
          refine gw_goto (pc' := 75) cx dX5_sheet_71 (by decide) ?_
          obtain ⟨i10, h⟩ := chk_some h
          obtain ⟨s11, e12, h⟩ := lt_some h
          refine gw_iast (pc' := 76) cx at56 i10 rfl dX5_sheet_75 rfl e12 ?_
          refine gw_aload_n (pc' := 77) cx 0 rfl rfl dX5_sheet_76 rfl ?_
          refine gw_getR (pc' := 80) cx at49 rfl fl_X5_31 dX5_sheet_77 rfl ?_
          refine gw_iload_n (pc' := 81) cx 1 rfl rfl dX5_sheet_80 rfl ?_
          refine gw_iload_n (pc' := 82) cx 2 rfl rfl dX5_sheet_81 rfl ?_
          refine gw_if_ne_f (pc' := 85) cx c7 dX5_sheet_82 ⟨89, by decide⟩ rfl ?_
          refine gw_iconst (pc' := 86) (v := 0) cx ci_0 dX5_sheet_85 rfl ?_
          refine gw_goto (pc' := 90) cx dX5_sheet_86 (by decide) ?_
          obtain ⟨s13, e14, h⟩ := lt_some h
          refine gw_iast (pc' := 91) cx at57 i10 rfl dX5_sheet_90 rfl e14 ?_
          refine gw_iconst (pc' := 92) (v := 0) cx ci_0 dX5_sheet_91 rfl ?_
          refine gw_istore (pc' := 94) (lv' := [(4, .int 0), (0, .ref (eA E 49)), (1, .int x1), (2, .int x2), (3, .int x3)]) cx rfl (by decide) dX5_sheet_92 rfl ?_
          refine gw_sub [1, 2, 0] (lv' := [(0, .ref (eA E 49)), (1, .int x1), (4, .int 0)]) rfl ?_
          exact w_X5_sheet_L94 cx tg x1 FU 0 s13 h
        · refine gw_ic_le_f (pc' := 54) cx c9 dX5_sheet_51 ⟨61, by decide⟩ rfl ?_
          refine gw_aload_n (pc' := 55) cx 0 rfl rfl dX5_sheet_54 rfl ?_
          refine gw_ldc (pc' := 57) (v := (-1000001)) cx ct_X5_37 dX5_sheet_55 rfl ?_
          obtain ⟨r16, s17, g15, h⟩ := ob2_some h
          refine gw_cV (pc' := 60) (av := [.int (-1000001)]) (rest := []) cx (k_X5_finds E g15) at49 (by decide) lk_X5_39 dX5_sheet_57 rfl (Nat.le_of_ble_eq_true rfl) rfl ?_
          show GW E fr _ 60 _ (.int r16 :: _) _
          exact gw_iret cx tg (rt1 h) (rt2 h) dX5_sheet_60
      · refine gw_if_ge_f (pc' := 40) cx c8 dX5_sheet_37 ⟨48, by decide⟩ rfl ?_
        refine gw_aload_n (pc' := 41) cx 0 rfl rfl dX5_sheet_40 rfl ?_
        refine gw_ldc_w (pc' := 44) (v := (-1000007)) cx ct_X5_273 dX5_sheet_41 rfl ?_
        obtain ⟨r19, s20, g18, h⟩ := ob2_some h
        refine gw_cV (pc' := 47) (av := [.int (-1000007)]) (rest := []) cx (k_X5_finds E g18) at49 (by decide) lk_X5_39 dX5_sheet_44 rfl (Nat.le_of_ble_eq_true rfl) rfl ?_
        show GW E fr _ 47 _ (.int r19 :: _) _
        exact gw_iret cx tg (rt1 h) (rt2 h) dX5_sheet_47
    · refine gw_if_eq_f (pc' := 11) cx c7 dX5_sheet_8 ⟨36, by decide⟩ rfl ?_
      refine gw_iload_n (pc' := 12) cx 2 rfl rfl dX5_sheet_11 rfl ?_
      refine gw_bipush (pc' := 14) (v := 8) cx cb_8 dX5_sheet_12 rfl ?_
      rcases ite_some h with ⟨c21, h⟩ | ⟨c21, h⟩
      · refine gw_ic_eq_t (pc' := 36) cx c21 dX5_sheet_14 (by decide) ?_
        refine gw_iload_n (pc' := 37) cx 3 rfl rfl dX5_sheet_36 rfl ?_
        rcases ite_some h with ⟨c22, h⟩ | ⟨c22, h⟩
        · refine gw_if_ge_t (pc' := 48) cx c22 dX5_sheet_37 (by decide) ?_
          refine gw_iload_n (pc' := 49) cx 3 rfl rfl dX5_sheet_48 rfl ?_
          refine gw_bipush (pc' := 51) (v := 40) cx cb_40 dX5_sheet_49 rfl ?_
          rcases ite_some h with ⟨c23, h⟩ | ⟨c23, h⟩
          · refine gw_ic_le_t (pc' := 61) cx c23 dX5_sheet_51 (by decide) ?_
            refine gw_aload_n (pc' := 62) cx 0 rfl rfl dX5_sheet_61 rfl ?_
            refine gw_getR (pc' := 65) cx at49 rfl fl_X5_28 dX5_sheet_62 rfl ?_
            refine gw_iload_n (pc' := 66) cx 1 rfl rfl dX5_sheet_65 rfl ?_
            refine gw_iload_n (pc' := 67) cx 2 rfl rfl dX5_sheet_66 rfl ?_
            refine gw_if_ne_t (pc' := 74) cx c7 dX5_sheet_67 (by decide) ?_
            refine gw_iload_n (pc' := 75) cx 2 rfl rfl dX5_sheet_74 rfl ?_
            obtain ⟨i24, h⟩ := chk_some h
            obtain ⟨s25, e26, h⟩ := lt_some h
            refine gw_iast (pc' := 76) cx at56 i24 rfl dX5_sheet_75 rfl e26 ?_
            refine gw_aload_n (pc' := 77) cx 0 rfl rfl dX5_sheet_76 rfl ?_
            refine gw_getR (pc' := 80) cx at49 rfl fl_X5_31 dX5_sheet_77 rfl ?_
            refine gw_iload_n (pc' := 81) cx 1 rfl rfl dX5_sheet_80 rfl ?_
            refine gw_iload_n (pc' := 82) cx 2 rfl rfl dX5_sheet_81 rfl ?_
            refine gw_if_ne_t (pc' := 89) cx c7 dX5_sheet_82 (by decide) ?_
            refine gw_iload_n (pc' := 90) cx 3 rfl rfl dX5_sheet_89 rfl ?_
            obtain ⟨s27, e28, h⟩ := lt_some h
            refine gw_iast (pc' := 91) cx at57 i24 rfl dX5_sheet_90 rfl e28 ?_
            refine gw_iconst (pc' := 92) (v := 0) cx ci_0 dX5_sheet_91 rfl ?_
            refine gw_istore (pc' := 94) (lv' := [(4, .int 0), (0, .ref (eA E 49)), (1, .int x1), (2, .int x2), (3, .int x3)]) cx rfl (by decide) dX5_sheet_92 rfl ?_
            refine gw_sub [1, 2, 0] (lv' := [(0, .ref (eA E 49)), (1, .int x1), (4, .int 0)]) rfl ?_
            exact w_X5_sheet_L94 cx tg x1 FU 0 s27 h
          · refine gw_ic_le_f (pc' := 54) cx c23 dX5_sheet_51 ⟨61, by decide⟩ rfl ?_
            refine gw_aload_n (pc' := 55) cx 0 rfl rfl dX5_sheet_54 rfl ?_
            refine gw_ldc (pc' := 57) (v := (-1000001)) cx ct_X5_37 dX5_sheet_55 rfl ?_
            obtain ⟨r30, s31, g29, h⟩ := ob2_some h
            refine gw_cV (pc' := 60) (av := [.int (-1000001)]) (rest := []) cx (k_X5_finds E g29) at49 (by decide) lk_X5_39 dX5_sheet_57 rfl (Nat.le_of_ble_eq_true rfl) rfl ?_
            show GW E fr _ 60 _ (.int r30 :: _) _
            exact gw_iret cx tg (rt1 h) (rt2 h) dX5_sheet_60
        · refine gw_if_ge_f (pc' := 40) cx c22 dX5_sheet_37 ⟨48, by decide⟩ rfl ?_
          refine gw_aload_n (pc' := 41) cx 0 rfl rfl dX5_sheet_40 rfl ?_
          refine gw_ldc_w (pc' := 44) (v := (-1000007)) cx ct_X5_273 dX5_sheet_41 rfl ?_
          obtain ⟨r33, s34, g32, h⟩ := ob2_some h
          refine gw_cV (pc' := 47) (av := [.int (-1000007)]) (rest := []) cx (k_X5_finds E g32) at49 (by decide) lk_X5_39 dX5_sheet_44 rfl (Nat.le_of_ble_eq_true rfl) rfl ?_
          show GW E fr _ 47 _ (.int r33 :: _) _
          exact gw_iret cx tg (rt1 h) (rt2 h) dX5_sheet_47
      · refine gw_ic_eq_f (pc' := 17) cx c21 dX5_sheet_14 ⟨36, by decide⟩ rfl ?_
        refine gw_iload_n (pc' := 18) cx 2 rfl rfl dX5_sheet_17 rfl ?_
        refine gw_bipush (pc' := 20) (v := 16) cx cb_16 dX5_sheet_18 rfl ?_
        rcases ite_some h with ⟨c35, h⟩ | ⟨c35, h⟩
        · refine gw_ic_eq_t (pc' := 36) cx c35 dX5_sheet_20 (by decide) ?_
          refine gw_iload_n (pc' := 37) cx 3 rfl rfl dX5_sheet_36 rfl ?_
          rcases ite_some h with ⟨c36, h⟩ | ⟨c36, h⟩
          · refine gw_if_ge_t (pc' := 48) cx c36 dX5_sheet_37 (by decide) ?_
            refine gw_iload_n (pc' := 49) cx 3 rfl rfl dX5_sheet_48 rfl ?_
            refine gw_bipush (pc' := 51) (v := 40) cx cb_40 dX5_sheet_49 rfl ?_
            rcases ite_some h with ⟨c37, h⟩ | ⟨c37, h⟩
            · refine gw_ic_le_t (pc' := 61) cx c37 dX5_sheet_51 (by decide) ?_
              refine gw_aload_n (pc' := 62) cx 0 rfl rfl dX5_sheet_61 rfl ?_
              refine gw_getR (pc' := 65) cx at49 rfl fl_X5_28 dX5_sheet_62 rfl ?_
              refine gw_iload_n (pc' := 66) cx 1 rfl rfl dX5_sheet_65 rfl ?_
              refine gw_iload_n (pc' := 67) cx 2 rfl rfl dX5_sheet_66 rfl ?_
              refine gw_if_ne_t (pc' := 74) cx c7 dX5_sheet_67 (by decide) ?_
              refine gw_iload_n (pc' := 75) cx 2 rfl rfl dX5_sheet_74 rfl ?_
              obtain ⟨i38, h⟩ := chk_some h
              obtain ⟨s39, e40, h⟩ := lt_some h
              refine gw_iast (pc' := 76) cx at56 i38 rfl dX5_sheet_75 rfl e40 ?_
              refine gw_aload_n (pc' := 77) cx 0 rfl rfl dX5_sheet_76 rfl ?_
              refine gw_getR (pc' := 80) cx at49 rfl fl_X5_31 dX5_sheet_77 rfl ?_
              refine gw_iload_n (pc' := 81) cx 1 rfl rfl dX5_sheet_80 rfl ?_
              refine gw_iload_n (pc' := 82) cx 2 rfl rfl dX5_sheet_81 rfl ?_
              refine gw_if_ne_t (pc' := 89) cx c7 dX5_sheet_82 (by decide) ?_
              refine gw_iload_n (pc' := 90) cx 3 rfl rfl dX5_sheet_89 rfl ?_
              obtain ⟨s41, e42, h⟩ := lt_some h
              refine gw_iast (pc' := 91) cx at57 i38 rfl dX5_sheet_90 rfl e42 ?_
              refine gw_iconst (pc' := 92) (v := 0) cx ci_0 dX5_sheet_91 rfl ?_
              refine gw_istore (pc' := 94) (lv' := [(4, .int 0), (0, .ref (eA E 49)), (1, .int x1), (2, .int x2), (3, .int x3)]) cx rfl (by decide) dX5_sheet_92 rfl ?_
              refine gw_sub [1, 2, 0] (lv' := [(0, .ref (eA E 49)), (1, .int x1), (4, .int 0)]) rfl ?_
              exact w_X5_sheet_L94 cx tg x1 FU 0 s41 h
            · refine gw_ic_le_f (pc' := 54) cx c37 dX5_sheet_51 ⟨61, by decide⟩ rfl ?_
              refine gw_aload_n (pc' := 55) cx 0 rfl rfl dX5_sheet_54 rfl ?_
              refine gw_ldc (pc' := 57) (v := (-1000001)) cx ct_X5_37 dX5_sheet_55 rfl ?_
              obtain ⟨r44, s45, g43, h⟩ := ob2_some h
              refine gw_cV (pc' := 60) (av := [.int (-1000001)]) (rest := []) cx (k_X5_finds E g43) at49 (by decide) lk_X5_39 dX5_sheet_57 rfl (Nat.le_of_ble_eq_true rfl) rfl ?_
              show GW E fr _ 60 _ (.int r44 :: _) _
              exact gw_iret cx tg (rt1 h) (rt2 h) dX5_sheet_60
          · refine gw_if_ge_f (pc' := 40) cx c36 dX5_sheet_37 ⟨48, by decide⟩ rfl ?_
            refine gw_aload_n (pc' := 41) cx 0 rfl rfl dX5_sheet_40 rfl ?_
            refine gw_ldc_w (pc' := 44) (v := (-1000007)) cx ct_X5_273 dX5_sheet_41 rfl ?_
            obtain ⟨r47, s48, g46, h⟩ := ob2_some h
            refine gw_cV (pc' := 47) (av := [.int (-1000007)]) (rest := []) cx (k_X5_finds E g46) at49 (by decide) lk_X5_39 dX5_sheet_44 rfl (Nat.le_of_ble_eq_true rfl) rfl ?_
            show GW E fr _ 47 _ (.int r47 :: _) _
            exact gw_iret cx tg (rt1 h) (rt2 h) dX5_sheet_47
        · refine gw_ic_eq_f (pc' := 23) cx c35 dX5_sheet_20 ⟨36, by decide⟩ rfl ?_
          refine gw_iload_n (pc' := 24) cx 2 rfl rfl dX5_sheet_23 rfl ?_
          refine gw_bipush (pc' := 26) (v := 32) cx cb_32 dX5_sheet_24 rfl ?_
          rcases ite_some h with ⟨c49, h⟩ | ⟨c49, h⟩
          · refine gw_ic_eq_t (pc' := 36) cx c49 dX5_sheet_26 (by decide) ?_
            refine gw_iload_n (pc' := 37) cx 3 rfl rfl dX5_sheet_36 rfl ?_
            rcases ite_some h with ⟨c50, h⟩ | ⟨c50, h⟩
            · refine gw_if_ge_t (pc' := 48) cx c50 dX5_sheet_37 (by decide) ?_
              refine gw_iload_n (pc' := 49) cx 3 rfl rfl dX5_sheet_48 rfl ?_
              refine gw_bipush (pc' := 51) (v := 40) cx cb_40 dX5_sheet_49 rfl ?_
              rcases ite_some h with ⟨c51, h⟩ | ⟨c51, h⟩
              · refine gw_ic_le_t (pc' := 61) cx c51 dX5_sheet_51 (by decide) ?_
                refine gw_aload_n (pc' := 62) cx 0 rfl rfl dX5_sheet_61 rfl ?_
                refine gw_getR (pc' := 65) cx at49 rfl fl_X5_28 dX5_sheet_62 rfl ?_
                refine gw_iload_n (pc' := 66) cx 1 rfl rfl dX5_sheet_65 rfl ?_
                refine gw_iload_n (pc' := 67) cx 2 rfl rfl dX5_sheet_66 rfl ?_
                refine gw_if_ne_t (pc' := 74) cx c7 dX5_sheet_67 (by decide) ?_
                refine gw_iload_n (pc' := 75) cx 2 rfl rfl dX5_sheet_74 rfl ?_
                obtain ⟨i52, h⟩ := chk_some h
                obtain ⟨s53, e54, h⟩ := lt_some h
                refine gw_iast (pc' := 76) cx at56 i52 rfl dX5_sheet_75 rfl e54 ?_
                refine gw_aload_n (pc' := 77) cx 0 rfl rfl dX5_sheet_76 rfl ?_
                refine gw_getR (pc' := 80) cx at49 rfl fl_X5_31 dX5_sheet_77 rfl ?_
                refine gw_iload_n (pc' := 81) cx 1 rfl rfl dX5_sheet_80 rfl ?_
                refine gw_iload_n (pc' := 82) cx 2 rfl rfl dX5_sheet_81 rfl ?_
                refine gw_if_ne_t (pc' := 89) cx c7 dX5_sheet_82 (by decide) ?_
                refine gw_iload_n (pc' := 90) cx 3 rfl rfl dX5_sheet_89 rfl ?_
                obtain ⟨s55, e56, h⟩ := lt_some h
                refine gw_iast (pc' := 91) cx at57 i52 rfl dX5_sheet_90 rfl e56 ?_
                refine gw_iconst (pc' := 92) (v := 0) cx ci_0 dX5_sheet_91 rfl ?_
                refine gw_istore (pc' := 94) (lv' := [(4, .int 0), (0, .ref (eA E 49)), (1, .int x1), (2, .int x2), (3, .int x3)]) cx rfl (by decide) dX5_sheet_92 rfl ?_
                refine gw_sub [1, 2, 0] (lv' := [(0, .ref (eA E 49)), (1, .int x1), (4, .int 0)]) rfl ?_
                exact w_X5_sheet_L94 cx tg x1 FU 0 s55 h
              · refine gw_ic_le_f (pc' := 54) cx c51 dX5_sheet_51 ⟨61, by decide⟩ rfl ?_
                refine gw_aload_n (pc' := 55) cx 0 rfl rfl dX5_sheet_54 rfl ?_
                refine gw_ldc (pc' := 57) (v := (-1000001)) cx ct_X5_37 dX5_sheet_55 rfl ?_
                obtain ⟨r58, s59, g57, h⟩ := ob2_some h
                refine gw_cV (pc' := 60) (av := [.int (-1000001)]) (rest := []) cx (k_X5_finds E g57) at49 (by decide) lk_X5_39 dX5_sheet_57 rfl (Nat.le_of_ble_eq_true rfl) rfl ?_
                show GW E fr _ 60 _ (.int r58 :: _) _
                exact gw_iret cx tg (rt1 h) (rt2 h) dX5_sheet_60
            · refine gw_if_ge_f (pc' := 40) cx c50 dX5_sheet_37 ⟨48, by decide⟩ rfl ?_
              refine gw_aload_n (pc' := 41) cx 0 rfl rfl dX5_sheet_40 rfl ?_
              refine gw_ldc_w (pc' := 44) (v := (-1000007)) cx ct_X5_273 dX5_sheet_41 rfl ?_
              obtain ⟨r61, s62, g60, h⟩ := ob2_some h
              refine gw_cV (pc' := 47) (av := [.int (-1000007)]) (rest := []) cx (k_X5_finds E g60) at49 (by decide) lk_X5_39 dX5_sheet_44 rfl (Nat.le_of_ble_eq_true rfl) rfl ?_
              show GW E fr _ 47 _ (.int r61 :: _) _
              exact gw_iret cx tg (rt1 h) (rt2 h) dX5_sheet_47
          · refine gw_ic_eq_f (pc' := 29) cx c49 dX5_sheet_26 ⟨36, by decide⟩ rfl ?_
            refine gw_aload_n (pc' := 30) cx 0 rfl rfl dX5_sheet_29 rfl ?_
            refine gw_ldc (pc' := 32) (v := (-1000001)) cx ct_X5_37 dX5_sheet_30 rfl ?_
            obtain ⟨r64, s65, g63, h⟩ := ob2_some h
            refine gw_cV (pc' := 35) (av := [.int (-1000001)]) (rest := []) cx (k_X5_finds E g63) at49 (by decide) lk_X5_39 dX5_sheet_32 rfl (Nat.le_of_ble_eq_true rfl) rfl ?_
            show GW E fr _ 35 _ (.int r64 :: _) _
            exact gw_iret cx tg (rt1 h) (rt2 h) dX5_sheet_35
def f_X5_write (x1 : Int32) (x2 : Int32) (x3 : Int32) (σ : Sg) : Option (Int32 × Sg) :=
  ob0 (f_X5_isSheet x1 σ) fun r2 =>
  if r2 = 0 then
    ob2 (f_X5_finds (-1000001) σ) fun r5 s6 =>
    some (r5, s6)
  else
    chk x1 4 <|
    if 0 ≤ (σ 56 x1.toNatClampNeg) then
      ob0 (f_X5_isIn x2.toInt64 (0 : Int64) (((σ 57 x1.toNatClampNeg) - 1).toInt64) σ) fun r10 =>
      if r10 = 0 then
        ob2 (f_X5_finds (-1000001) σ) fun r13 s14 =>
        some (r13, s14)
      else
        if (σ 56 x1.toNatClampNeg) = 8 then
          chk ((40 * x1) + x2) 160 <|
          lt (up2 σ 58 ((40 * x1) + x2).toNatClampNeg x3.toInt8.toInt32) fun s17 =>
          some (1, s17)
        else
          if (σ 56 x1.toNatClampNeg) = 16 then
            chk ((40 * x1) + x2) 160 <|
            lt (up2 σ 58 ((40 * x1) + x2).toNatClampNeg x3.toInt16.toInt32) fun s21 =>
            some (1, s21)
          else
            chk ((40 * x1) + x2) 160 <|
            lt (up2 σ 58 ((40 * x1) + x2).toNatClampNeg x3) fun s24 =>
            some (1, s24)
    else
      ob2 (f_X5_finds (-1000006) σ) fun r27 s28 =>
      some (r27, s28)
theorem k_X5_write (E : Ev) {x1 : Int32} {x2 : Int32} {x3 : Int32} {σ : Sg} {r : Int32} {σ' : Sg} (h : f_X5_write x1 x2 x3 σ = some (r, σ')) : Con E mX5_write 1 [.ref (eA E 49), .int x1, .int x2, .int x3] σ (some (.int r)) σ' := by
  refine con_of (by decide) (Nat.le_of_ble_eq_true rfl) (fun fr cx tg => ?_)
  show GW E fr 4 0 [(0, .ref (eA E 49)), (1, .int x1), (2, .int x2), (3, .int x3)] [] σ
  rw [f_X5_write] at h
  refine gw_iload_n (pc' := 1) cx 1 rfl rfl dX5_write_0 rfl ?_
  obtain ⟨r2, g1, h⟩ := ob0_some h
  refine gw_cS (pc' := 4) (av := [.int x1]) (rest := []) cx (k_X5_isSheet E g1) (by decide) lk_X5_270 dX5_write_1 rfl (Nat.le_of_ble_eq_true rfl) rfl ?_
  show GW E fr _ 4 _ (.int r2 :: _) _
  rcases ite_some h with ⟨c3, h⟩ | ⟨c3, h⟩
  · refine gw_if_ne_f (pc' := 7) cx c3 dX5_write_4 ⟨14, by decide⟩ rfl ?_
    refine gw_aload_n (pc' := 8) cx 0 rfl rfl dX5_write_7 rfl ?_
    refine gw_ldc (pc' := 10) (v := (-1000001)) cx ct_X5_37 dX5_write_8 rfl ?_
    obtain ⟨r5, s6, g4, h⟩ := ob2_some h
    refine gw_cV (pc' := 13) (av := [.int (-1000001)]) (rest := []) cx (k_X5_finds E g4) at49 (by decide) lk_X5_39 dX5_write_10 rfl (Nat.le_of_ble_eq_true rfl) rfl ?_
    show GW E fr _ 13 _ (.int r5 :: _) _
    exact gw_iret cx tg (rt1 h) (rt2 h) dX5_write_13
  · refine gw_if_ne_t (pc' := 14) cx c3 dX5_write_4 (by decide) ?_
    refine gw_aload_n (pc' := 15) cx 0 rfl rfl dX5_write_14 rfl ?_
    refine gw_getR (pc' := 18) cx at49 rfl fl_X5_28 dX5_write_15 rfl ?_
    refine gw_iload_n (pc' := 19) cx 1 rfl rfl dX5_write_18 rfl ?_
    obtain ⟨i7, h⟩ := chk_some h
    refine gw_iald (pc' := 20) cx at56 i7 rfl dX5_write_19 rfl ?_
    rcases ite_some h with ⟨c8, h⟩ | ⟨c8, h⟩
    · refine gw_if_ge_t (pc' := 31) cx c8 dX5_write_20 (by decide) ?_
      refine gw_iload_n (pc' := 32) cx 2 rfl rfl dX5_write_31 rfl ?_
      refine gw_i2l (pc' := 33) cx dX5_write_32 rfl ?_
      refine gw_lconst (pc' := 34) (v := 0) cx cl_0 dX5_write_33 rfl ?_
      refine gw_aload_n (pc' := 35) cx 0 rfl rfl dX5_write_34 rfl ?_
      refine gw_getR (pc' := 38) cx at49 rfl fl_X5_31 dX5_write_35 rfl ?_
      refine gw_iload_n (pc' := 39) cx 1 rfl rfl dX5_write_38 rfl ?_
      refine gw_iald (pc' := 40) cx at57 i7 rfl dX5_write_39 rfl ?_
      refine gw_iconst (pc' := 41) (v := 1) cx ci_1 dX5_write_40 rfl ?_
      refine gw_isub (pc' := 42) cx dX5_write_41 rfl ?_
      refine gw_i2l (pc' := 43) cx dX5_write_42 rfl ?_
      obtain ⟨r10, g9, h⟩ := ob0_some h
      refine gw_cS (pc' := 46) (av := [.long x2.toInt64, .long (0 : Int64), .long (((σ 57 x1.toNatClampNeg) - 1).toInt64)]) (rest := []) cx (k_X5_isIn E g9) (by decide) lk_X5_45 dX5_write_43 rfl (Nat.le_of_ble_eq_true rfl) rfl ?_
      show GW E fr _ 46 _ (.int r10 :: _) _
      rcases ite_some h with ⟨c11, h⟩ | ⟨c11, h⟩
      · refine gw_if_ne_f (pc' := 49) cx c11 dX5_write_46 ⟨56, by decide⟩ rfl ?_
        refine gw_aload_n (pc' := 50) cx 0 rfl rfl dX5_write_49 rfl ?_
        refine gw_ldc (pc' := 52) (v := (-1000001)) cx ct_X5_37 dX5_write_50 rfl ?_
        obtain ⟨r13, s14, g12, h⟩ := ob2_some h
        refine gw_cV (pc' := 55) (av := [.int (-1000001)]) (rest := []) cx (k_X5_finds E g12) at49 (by decide) lk_X5_39 dX5_write_52 rfl (Nat.le_of_ble_eq_true rfl) rfl ?_
        show GW E fr _ 55 _ (.int r13 :: _) _
        exact gw_iret cx tg (rt1 h) (rt2 h) dX5_write_55
      · refine gw_if_ne_t (pc' := 56) cx c11 dX5_write_46 (by decide) ?_
        refine gw_aload_n (pc' := 57) cx 0 rfl rfl dX5_write_56 rfl ?_
        refine gw_getR (pc' := 60) cx at49 rfl fl_X5_34 dX5_write_57 rfl ?_
        refine gw_bipush (pc' := 62) (v := 40) cx cb_40 dX5_write_60 rfl ?_
        refine gw_iload_n (pc' := 63) cx 1 rfl rfl dX5_write_62 rfl ?_
        refine gw_imul (pc' := 64) cx dX5_write_63 rfl ?_
        refine gw_iload_n (pc' := 65) cx 2 rfl rfl dX5_write_64 rfl ?_
        refine gw_iadd (pc' := 66) cx dX5_write_65 rfl ?_
        refine gw_aload_n (pc' := 67) cx 0 rfl rfl dX5_write_66 rfl ?_
        refine gw_getR (pc' := 70) cx at49 rfl fl_X5_28 dX5_write_67 rfl ?_
        refine gw_iload_n (pc' := 71) cx 1 rfl rfl dX5_write_70 rfl ?_
        refine gw_iald (pc' := 72) cx at56 i7 rfl dX5_write_71 rfl ?_
        refine gw_bipush (pc' := 74) (v := 8) cx cb_8 dX5_write_72 rfl ?_
        rcases ite_some h with ⟨c15, h⟩ | ⟨c15, h⟩
        · refine gw_ic_ne_f (pc' := 77) cx c15 dX5_write_74 ⟨82, by decide⟩ rfl ?_
          refine gw_iload_n (pc' := 78) cx 3 rfl rfl dX5_write_77 rfl ?_
          refine gw_i2b (pc' := 79) cx dX5_write_78 rfl ?_
          refine gw_goto (pc' := 99) cx dX5_write_79 (by decide) ?_
          obtain ⟨i16, h⟩ := chk_some h
          obtain ⟨s17, e18, h⟩ := lt_some h
          refine gw_iast (pc' := 100) cx at58 i16 rfl dX5_write_99 rfl e18 ?_
          refine gw_iconst (pc' := 101) (v := 1) cx ci_1 dX5_write_100 rfl ?_
          exact gw_iret cx tg (rt1 h) (rt2 h) dX5_write_101
        · refine gw_ic_ne_t (pc' := 82) cx c15 dX5_write_74 (by decide) ?_
          refine gw_aload_n (pc' := 83) cx 0 rfl rfl dX5_write_82 rfl ?_
          refine gw_getR (pc' := 86) cx at49 rfl fl_X5_28 dX5_write_83 rfl ?_
          refine gw_iload_n (pc' := 87) cx 1 rfl rfl dX5_write_86 rfl ?_
          refine gw_iald (pc' := 88) cx at56 i7 rfl dX5_write_87 rfl ?_
          refine gw_bipush (pc' := 90) (v := 16) cx cb_16 dX5_write_88 rfl ?_
          rcases ite_some h with ⟨c19, h⟩ | ⟨c19, h⟩
          · refine gw_ic_ne_f (pc' := 93) cx c19 dX5_write_90 ⟨98, by decide⟩ rfl ?_
            refine gw_iload_n (pc' := 94) cx 3 rfl rfl dX5_write_93 rfl ?_
            refine gw_i2s (pc' := 95) cx dX5_write_94 rfl ?_
            refine gw_goto (pc' := 99) cx dX5_write_95 (by decide) ?_
            obtain ⟨i20, h⟩ := chk_some h
            obtain ⟨s21, e22, h⟩ := lt_some h
            refine gw_iast (pc' := 100) cx at58 i20 rfl dX5_write_99 rfl e22 ?_
            refine gw_iconst (pc' := 101) (v := 1) cx ci_1 dX5_write_100 rfl ?_
            exact gw_iret cx tg (rt1 h) (rt2 h) dX5_write_101
          · refine gw_ic_ne_t (pc' := 98) cx c19 dX5_write_90 (by decide) ?_
            refine gw_iload_n (pc' := 99) cx 3 rfl rfl dX5_write_98 rfl ?_
            obtain ⟨i23, h⟩ := chk_some h
            obtain ⟨s24, e25, h⟩ := lt_some h
            refine gw_iast (pc' := 100) cx at58 i23 rfl dX5_write_99 rfl e25 ?_
            refine gw_iconst (pc' := 101) (v := 1) cx ci_1 dX5_write_100 rfl ?_
            exact gw_iret cx tg (rt1 h) (rt2 h) dX5_write_101
    · refine gw_if_ge_f (pc' := 23) cx c8 dX5_write_20 ⟨31, by decide⟩ rfl ?_
      refine gw_aload_n (pc' := 24) cx 0 rfl rfl dX5_write_23 rfl ?_
      refine gw_ldc_w (pc' := 27) (v := (-1000006)) cx ct_X5_265 dX5_write_24 rfl ?_
      obtain ⟨r27, s28, g26, h⟩ := ob2_some h
      refine gw_cV (pc' := 30) (av := [.int (-1000006)]) (rest := []) cx (k_X5_finds E g26) at49 (by decide) lk_X5_39 dX5_write_27 rfl (Nat.le_of_ble_eq_true rfl) rfl ?_
      show GW E fr _ 30 _ (.int r27 :: _) _
      exact gw_iret cx tg (rt1 h) (rt2 h) dX5_write_30
def f_X5_copy_L138 (y5 : Int32) (y6 : Int32) (y7 : Int32) : Nat → Int32 → Sg → Option (Int32 × Sg)
  | 0, _, _ => none
  | n + 1, y8, σ =>
    if y5 ≤ y8 then
      some (y5, σ)
    else
      if y7 ≤ y6 then
        chk (y6 + y8) 160 <|
        chk (y7 + y8) 160 <|
        lt (up2 σ 58 (y7 + y8).toNatClampNeg (σ 58 (y6 + y8).toNatClampNeg)) fun s51 =>
        f_X5_copy_L138 y5 y6 y7 n (y8 + 1) s51
      else
        chk (y6 + ((y5 - 1) - y8)) 160 <|
        chk (y7 + ((y5 - 1) - y8)) 160 <|
        lt (up2 σ 58 (y7 + ((y5 - 1) - y8)).toNatClampNeg (σ 58 (y6 + ((y5 - 1) - y8)).toNatClampNeg)) fun s55 =>
        f_X5_copy_L138 y5 y6 y7 n (y8 + 1) s55
theorem w_X5_copy_L138 {E : Ev} {fr : Fr} {r : Int32} {σ' : Sg} (cx : Cx E mX5_copy 1 fr) (tg : Tg E fr (some .int) (some (.int r)) σ') (y5 : Int32) (y6 : Int32) (y7 : Int32)  : ∀ (n : Nat) (y8 : Int32) (σ : Sg), f_X5_copy_L138 y5 y6 y7 n y8 σ = some (r, σ') → GW E fr 10 138 [(0, .ref (eA E 49)), (5, .int y5), (6, .int y6), (7, .int y7), (8, .int y8)] [] σ := by
  intro n
  induction n with
  | zero => intro y8 σ h; cases (show (none : Option (Int32 × Sg)) = _ from h)
  | succ n ih =>
    intro y8 σ h
    rw [f_X5_copy_L138] at h
    refine gw_iload (pc' := 140) cx 4 rfl dX5_copy_138 rfl ?_
    refine gw_iload (pc' := 142) cx 1 rfl dX5_copy_140 rfl ?_
    rcases ite_some h with ⟨c47, h⟩ | ⟨c47, h⟩
    · refine gw_ic_ge_t (pc' := 192) cx c47 dX5_copy_142 (by decide) ?_
      refine gw_iload (pc' := 194) cx 1 rfl dX5_copy_192 rfl ?_
      exact gw_iret cx tg (rt1 h) (rt2 h) dX5_copy_194
    · refine gw_ic_ge_f (pc' := 145) cx c47 dX5_copy_142 ⟨192, by decide⟩ rfl ?_
      refine gw_iload (pc' := 147) cx 2 rfl dX5_copy_145 rfl ?_
      refine gw_iload (pc' := 149) cx 3 rfl dX5_copy_147 rfl ?_
      rcases ite_some h with ⟨c48, h⟩ | ⟨c48, h⟩
      · refine gw_ic_ge_t (pc' := 162) cx c48 dX5_copy_149 (by decide) ?_
        refine gw_iload (pc' := 164) cx 4 rfl dX5_copy_162 rfl ?_
        refine gw_istore (pc' := 166) (lv' := [(9, .int y8), (0, .ref (eA E 49)), (5, .int y5), (6, .int y6), (7, .int y7), (8, .int y8)]) cx rfl (by decide) dX5_copy_164 rfl ?_
        refine gw_aload_n (pc' := 167) cx 1 rfl rfl dX5_copy_166 rfl ?_
        refine gw_getR (pc' := 170) cx at49 rfl fl_X5_34 dX5_copy_167 rfl ?_
        refine gw_iload (pc' := 172) cx 4 rfl dX5_copy_170 rfl ?_
        refine gw_iload (pc' := 174) cx 0 rfl dX5_copy_172 rfl ?_
        refine gw_iadd (pc' := 175) cx dX5_copy_174 rfl ?_
        refine gw_aload_n (pc' := 176) cx 1 rfl rfl dX5_copy_175 rfl ?_
        refine gw_getR (pc' := 179) cx at49 rfl fl_X5_34 dX5_copy_176 rfl ?_
        refine gw_iload (pc' := 181) cx 3 rfl dX5_copy_179 rfl ?_
        refine gw_iload (pc' := 183) cx 0 rfl dX5_copy_181 rfl ?_
        refine gw_iadd (pc' := 184) cx dX5_copy_183 rfl ?_
        obtain ⟨i49, h⟩ := chk_some h
        refine gw_iald (pc' := 185) cx at58 i49 rfl dX5_copy_184 rfl ?_
        obtain ⟨i50, h⟩ := chk_some h
        obtain ⟨s51, e52, h⟩ := lt_some h
        refine gw_iast (pc' := 186) cx at58 i50 rfl dX5_copy_185 rfl e52 ?_
        refine gw_iinc (pc' := 189) (v := (y8 + 1)) (lv' := [(8, .int (y8 + 1)), (9, .int y8), (0, .ref (eA E 49)), (5, .int y5), (6, .int y6), (7, .int y7)]) cx 5 rfl rfl rfl (by decide) dX5_copy_186 rfl ?_
        refine gw_goto (pc' := 138) cx dX5_copy_189 (by decide) ?_
        refine gw_sub [2, 3, 4, 5, 0] (lv' := [(0, .ref (eA E 49)), (5, .int y5), (6, .int y6), (7, .int y7), (8, .int (y8 + 1))]) rfl ?_
        exact ih (y8 + 1) s51 h
      · refine gw_ic_ge_f (pc' := 152) cx c48 dX5_copy_149 ⟨162, by decide⟩ rfl ?_
        refine gw_iload (pc' := 154) cx 1 rfl dX5_copy_152 rfl ?_
        refine gw_iconst (pc' := 155) (v := 1) cx ci_1 dX5_copy_154 rfl ?_
        refine gw_isub (pc' := 156) cx dX5_copy_155 rfl ?_
        refine gw_iload (pc' := 158) cx 4 rfl dX5_copy_156 rfl ?_
        refine gw_isub (pc' := 159) cx dX5_copy_158 rfl ?_
        refine gw_goto (pc' := 164) cx dX5_copy_159 (by decide) ?_
        refine gw_istore (pc' := 166) (lv' := [(9, .int ((y5 - 1) - y8)), (0, .ref (eA E 49)), (5, .int y5), (6, .int y6), (7, .int y7), (8, .int y8)]) cx rfl (by decide) dX5_copy_164 rfl ?_
        refine gw_aload_n (pc' := 167) cx 1 rfl rfl dX5_copy_166 rfl ?_
        refine gw_getR (pc' := 170) cx at49 rfl fl_X5_34 dX5_copy_167 rfl ?_
        refine gw_iload (pc' := 172) cx 4 rfl dX5_copy_170 rfl ?_
        refine gw_iload (pc' := 174) cx 0 rfl dX5_copy_172 rfl ?_
        refine gw_iadd (pc' := 175) cx dX5_copy_174 rfl ?_
        refine gw_aload_n (pc' := 176) cx 1 rfl rfl dX5_copy_175 rfl ?_
        refine gw_getR (pc' := 179) cx at49 rfl fl_X5_34 dX5_copy_176 rfl ?_
        refine gw_iload (pc' := 181) cx 3 rfl dX5_copy_179 rfl ?_
        refine gw_iload (pc' := 183) cx 0 rfl dX5_copy_181 rfl ?_
        refine gw_iadd (pc' := 184) cx dX5_copy_183 rfl ?_
        obtain ⟨i53, h⟩ := chk_some h
        refine gw_iald (pc' := 185) cx at58 i53 rfl dX5_copy_184 rfl ?_
        obtain ⟨i54, h⟩ := chk_some h
        obtain ⟨s55, e56, h⟩ := lt_some h
        refine gw_iast (pc' := 186) cx at58 i54 rfl dX5_copy_185 rfl e56 ?_
        refine gw_iinc (pc' := 189) (v := (y8 + 1)) (lv' := [(8, .int (y8 + 1)), (9, .int ((y5 - 1) - y8)), (0, .ref (eA E 49)), (5, .int y5), (6, .int y6), (7, .int y7)]) cx 5 rfl rfl rfl (by decide) dX5_copy_186 rfl ?_
        refine gw_goto (pc' := 138) cx dX5_copy_189 (by decide) ?_
        refine gw_sub [2, 3, 4, 5, 0] (lv' := [(0, .ref (eA E 49)), (5, .int y5), (6, .int y6), (7, .int y7), (8, .int (y8 + 1))]) rfl ?_
        exact ih (y8 + 1) s55 h
def f_X5_copy (x1 : Int32) (x2 : Int32) (x3 : Int32) (x4 : Int32) (x5 : Int32) (σ : Sg) : Option (Int32 × Sg) :=
  ob0 (f_X5_isSheet x1 σ) fun r2 =>
  if r2 = 0 then
    ob2 (f_X5_finds (-1000001) σ) fun r5 s6 =>
    some (r5, s6)
  else
    ob0 (f_X5_isSheet x3 σ) fun r8 =>
    if r8 = 0 then
      ob2 (f_X5_finds (-1000001) σ) fun r11 s12 =>
      some (r11, s12)
    else
      chk x1 4 <|
      if (σ 56 x1.toNatClampNeg) < 0 then
        ob2 (f_X5_finds (-1000006) σ) fun r16 s17 =>
        some (r16, s17)
      else
        chk x3 4 <|
        if 0 ≤ (σ 56 x3.toNatClampNeg) then
          if (σ 56 x1.toNatClampNeg) = (σ 56 x3.toNatClampNeg) then
            if x2 < 0 then
              ob2 (f_X5_finds (-1000001) σ) fun r23 s24 =>
              some (r23, s24)
            else
              if x4 < 0 then
                ob2 (f_X5_finds (-1000001) σ) fun r27 s28 =>
                some (r27, s28)
              else
                if x5 < 0 then
                  ob2 (f_X5_finds (-1000001) σ) fun r31 s32 =>
                  some (r31, s32)
                else
                  if ((σ 57 x1.toNatClampNeg) - x2) < x5 then
                    ob2 (f_X5_finds (-1000001) σ) fun r35 s36 =>
                    some (r35, s36)
                  else
                    if x5 ≤ ((σ 57 x3.toNatClampNeg) - x4) then
                      f_X5_copy_L138 x5 ((40 * x1) + x2) ((40 * x3) + x4) FU 0 σ
                    else
                      ob2 (f_X5_finds (-1000001) σ) fun r39 s40 =>
                      some (r39, s40)
          else
            ob2 (f_X5_finds (-1000003) σ) fun r42 s43 =>
            some (r42, s43)
        else
          ob2 (f_X5_finds (-1000006) σ) fun r45 s46 =>
          some (r45, s46)
theorem k_X5_copy (E : Ev) {x1 : Int32} {x2 : Int32} {x3 : Int32} {x4 : Int32} {x5 : Int32} {σ : Sg} {r : Int32} {σ' : Sg} (h : f_X5_copy x1 x2 x3 x4 x5 σ = some (r, σ')) : Con E mX5_copy 1 [.ref (eA E 49), .int x1, .int x2, .int x3, .int x4, .int x5] σ (some (.int r)) σ' := by
  refine con_of (by decide) (Nat.le_of_ble_eq_true rfl) (fun fr cx tg => ?_)
  show GW E fr 10 0 [(0, .ref (eA E 49)), (1, .int x1), (2, .int x2), (3, .int x3), (4, .int x4), (5, .int x5)] [] σ
  rw [f_X5_copy] at h
  refine gw_iload_n (pc' := 1) cx 1 rfl rfl dX5_copy_0 rfl ?_
  obtain ⟨r2, g1, h⟩ := ob0_some h
  refine gw_cS (pc' := 4) (av := [.int x1]) (rest := []) cx (k_X5_isSheet E g1) (by decide) lk_X5_270 dX5_copy_1 rfl (Nat.le_of_ble_eq_true rfl) rfl ?_
  show GW E fr _ 4 _ (.int r2 :: _) _
  rcases ite_some h with ⟨c3, h⟩ | ⟨c3, h⟩
  · refine gw_if_eq_t (pc' := 14) cx c3 dX5_copy_4 (by decide) ?_
    refine gw_aload_n (pc' := 15) cx 0 rfl rfl dX5_copy_14 rfl ?_
    refine gw_ldc (pc' := 17) (v := (-1000001)) cx ct_X5_37 dX5_copy_15 rfl ?_
    obtain ⟨r5, s6, g4, h⟩ := ob2_some h
    refine gw_cV (pc' := 20) (av := [.int (-1000001)]) (rest := []) cx (k_X5_finds E g4) at49 (by decide) lk_X5_39 dX5_copy_17 rfl (Nat.le_of_ble_eq_true rfl) rfl ?_
    show GW E fr _ 20 _ (.int r5 :: _) _
    exact gw_iret cx tg (rt1 h) (rt2 h) dX5_copy_20
  · refine gw_if_eq_f (pc' := 7) cx c3 dX5_copy_4 ⟨14, by decide⟩ rfl ?_
    refine gw_iload_n (pc' := 8) cx 3 rfl rfl dX5_copy_7 rfl ?_
    obtain ⟨r8, g7, h⟩ := ob0_some h
    refine gw_cS (pc' := 11) (av := [.int x3]) (rest := []) cx (k_X5_isSheet E g7) (by decide) lk_X5_270 dX5_copy_8 rfl (Nat.le_of_ble_eq_true rfl) rfl ?_
    show GW E fr _ 11 _ (.int r8 :: _) _
    rcases ite_some h with ⟨c9, h⟩ | ⟨c9, h⟩
    · refine gw_if_ne_f (pc' := 14) cx c9 dX5_copy_11 ⟨21, by decide⟩ rfl ?_
      refine gw_aload_n (pc' := 15) cx 0 rfl rfl dX5_copy_14 rfl ?_
      refine gw_ldc (pc' := 17) (v := (-1000001)) cx ct_X5_37 dX5_copy_15 rfl ?_
      obtain ⟨r11, s12, g10, h⟩ := ob2_some h
      refine gw_cV (pc' := 20) (av := [.int (-1000001)]) (rest := []) cx (k_X5_finds E g10) at49 (by decide) lk_X5_39 dX5_copy_17 rfl (Nat.le_of_ble_eq_true rfl) rfl ?_
      show GW E fr _ 20 _ (.int r11 :: _) _
      exact gw_iret cx tg (rt1 h) (rt2 h) dX5_copy_20
    · refine gw_if_ne_t (pc' := 21) cx c9 dX5_copy_11 (by decide) ?_
      refine gw_aload_n (pc' := 22) cx 0 rfl rfl dX5_copy_21 rfl ?_
      refine gw_getR (pc' := 25) cx at49 rfl fl_X5_28 dX5_copy_22 rfl ?_
      refine gw_iload_n (pc' := 26) cx 1 rfl rfl dX5_copy_25 rfl ?_
      obtain ⟨i13, h⟩ := chk_some h
      refine gw_iald (pc' := 27) cx at56 i13 rfl dX5_copy_26 rfl ?_
      rcases ite_some h with ⟨c14, h⟩ | ⟨c14, h⟩
      · refine gw_if_lt_t (pc' := 39) cx c14 dX5_copy_27 (by decide) ?_
        refine gw_aload_n (pc' := 40) cx 0 rfl rfl dX5_copy_39 rfl ?_
        refine gw_ldc_w (pc' := 43) (v := (-1000006)) cx ct_X5_265 dX5_copy_40 rfl ?_
        obtain ⟨r16, s17, g15, h⟩ := ob2_some h
        refine gw_cV (pc' := 46) (av := [.int (-1000006)]) (rest := []) cx (k_X5_finds E g15) at49 (by decide) lk_X5_39 dX5_copy_43 rfl (Nat.le_of_ble_eq_true rfl) rfl ?_
        show GW E fr _ 46 _ (.int r16 :: _) _
        exact gw_iret cx tg (rt1 h) (rt2 h) dX5_copy_46
      · refine gw_if_lt_f (pc' := 30) cx c14 dX5_copy_27 ⟨39, by decide⟩ rfl ?_
        refine gw_aload_n (pc' := 31) cx 0 rfl rfl dX5_copy_30 rfl ?_
        refine gw_getR (pc' := 34) cx at49 rfl fl_X5_28 dX5_copy_31 rfl ?_
        refine gw_iload_n (pc' := 35) cx 3 rfl rfl dX5_copy_34 rfl ?_
        obtain ⟨i18, h⟩ := chk_some h
        refine gw_iald (pc' := 36) cx at56 i18 rfl dX5_copy_35 rfl ?_
        rcases ite_some h with ⟨c19, h⟩ | ⟨c19, h⟩
        · refine gw_if_ge_t (pc' := 47) cx c19 dX5_copy_36 (by decide) ?_
          refine gw_aload_n (pc' := 48) cx 0 rfl rfl dX5_copy_47 rfl ?_
          refine gw_getR (pc' := 51) cx at49 rfl fl_X5_28 dX5_copy_48 rfl ?_
          refine gw_iload_n (pc' := 52) cx 1 rfl rfl dX5_copy_51 rfl ?_
          refine gw_iald (pc' := 53) cx at56 i13 rfl dX5_copy_52 rfl ?_
          refine gw_aload_n (pc' := 54) cx 0 rfl rfl dX5_copy_53 rfl ?_
          refine gw_getR (pc' := 57) cx at49 rfl fl_X5_28 dX5_copy_54 rfl ?_
          refine gw_iload_n (pc' := 58) cx 3 rfl rfl dX5_copy_57 rfl ?_
          refine gw_iald (pc' := 59) cx at56 i18 rfl dX5_copy_58 rfl ?_
          rcases ite_some h with ⟨c20, h⟩ | ⟨c20, h⟩
          · refine gw_ic_eq_t (pc' := 70) cx c20 dX5_copy_59 (by decide) ?_
            refine gw_iload_n (pc' := 71) cx 2 rfl rfl dX5_copy_70 rfl ?_
            rcases ite_some h with ⟨c21, h⟩ | ⟨c21, h⟩
            · refine gw_if_lt_t (pc' := 111) cx c21 dX5_copy_71 (by decide) ?_
              refine gw_aload_n (pc' := 112) cx 0 rfl rfl dX5_copy_111 rfl ?_
              refine gw_ldc (pc' := 114) (v := (-1000001)) cx ct_X5_37 dX5_copy_112 rfl ?_
              obtain ⟨r23, s24, g22, h⟩ := ob2_some h
              refine gw_cV (pc' := 117) (av := [.int (-1000001)]) (rest := []) cx (k_X5_finds E g22) at49 (by decide) lk_X5_39 dX5_copy_114 rfl (Nat.le_of_ble_eq_true rfl) rfl ?_
              show GW E fr _ 117 _ (.int r23 :: _) _
              exact gw_iret cx tg (rt1 h) (rt2 h) dX5_copy_117
            · refine gw_if_lt_f (pc' := 74) cx c21 dX5_copy_71 ⟨111, by decide⟩ rfl ?_
              refine gw_iload (pc' := 76) cx 4 rfl dX5_copy_74 rfl ?_
              rcases ite_some h with ⟨c25, h⟩ | ⟨c25, h⟩
              · refine gw_if_lt_t (pc' := 111) cx c25 dX5_copy_76 (by decide) ?_
                refine gw_aload_n (pc' := 112) cx 0 rfl rfl dX5_copy_111 rfl ?_
                refine gw_ldc (pc' := 114) (v := (-1000001)) cx ct_X5_37 dX5_copy_112 rfl ?_
                obtain ⟨r27, s28, g26, h⟩ := ob2_some h
                refine gw_cV (pc' := 117) (av := [.int (-1000001)]) (rest := []) cx (k_X5_finds E g26) at49 (by decide) lk_X5_39 dX5_copy_114 rfl (Nat.le_of_ble_eq_true rfl) rfl ?_
                show GW E fr _ 117 _ (.int r27 :: _) _
                exact gw_iret cx tg (rt1 h) (rt2 h) dX5_copy_117
              · refine gw_if_lt_f (pc' := 79) cx c25 dX5_copy_76 ⟨111, by decide⟩ rfl ?_
                refine gw_iload (pc' := 81) cx 5 rfl dX5_copy_79 rfl ?_
                rcases ite_some h with ⟨c29, h⟩ | ⟨c29, h⟩
                · refine gw_if_lt_t (pc' := 111) cx c29 dX5_copy_81 (by decide) ?_
                  refine gw_aload_n (pc' := 112) cx 0 rfl rfl dX5_copy_111 rfl ?_
                  refine gw_ldc (pc' := 114) (v := (-1000001)) cx ct_X5_37 dX5_copy_112 rfl ?_
                  obtain ⟨r31, s32, g30, h⟩ := ob2_some h
                  refine gw_cV (pc' := 117) (av := [.int (-1000001)]) (rest := []) cx (k_X5_finds E g30) at49 (by decide) lk_X5_39 dX5_copy_114 rfl (Nat.le_of_ble_eq_true rfl) rfl ?_
                  show GW E fr _ 117 _ (.int r31 :: _) _
                  exact gw_iret cx tg (rt1 h) (rt2 h) dX5_copy_117
                · refine gw_if_lt_f (pc' := 84) cx c29 dX5_copy_81 ⟨111, by decide⟩ rfl ?_
                  refine gw_iload (pc' := 86) cx 5 rfl dX5_copy_84 rfl ?_
                  refine gw_aload_n (pc' := 87) cx 0 rfl rfl dX5_copy_86 rfl ?_
                  refine gw_getR (pc' := 90) cx at49 rfl fl_X5_31 dX5_copy_87 rfl ?_
                  refine gw_iload_n (pc' := 91) cx 1 rfl rfl dX5_copy_90 rfl ?_
                  refine gw_iald (pc' := 92) cx at57 i13 rfl dX5_copy_91 rfl ?_
                  refine gw_iload_n (pc' := 93) cx 2 rfl rfl dX5_copy_92 rfl ?_
                  refine gw_isub (pc' := 94) cx dX5_copy_93 rfl ?_
                  rcases ite_some h with ⟨c33, h⟩ | ⟨c33, h⟩
                  · refine gw_ic_gt_t (pc' := 111) cx c33 dX5_copy_94 (by decide) ?_
                    refine gw_aload_n (pc' := 112) cx 0 rfl rfl dX5_copy_111 rfl ?_
                    refine gw_ldc (pc' := 114) (v := (-1000001)) cx ct_X5_37 dX5_copy_112 rfl ?_
                    obtain ⟨r35, s36, g34, h⟩ := ob2_some h
                    refine gw_cV (pc' := 117) (av := [.int (-1000001)]) (rest := []) cx (k_X5_finds E g34) at49 (by decide) lk_X5_39 dX5_copy_114 rfl (Nat.le_of_ble_eq_true rfl) rfl ?_
                    show GW E fr _ 117 _ (.int r35 :: _) _
                    exact gw_iret cx tg (rt1 h) (rt2 h) dX5_copy_117
                  · refine gw_ic_gt_f (pc' := 97) cx c33 dX5_copy_94 ⟨111, by decide⟩ rfl ?_
                    refine gw_iload (pc' := 99) cx 5 rfl dX5_copy_97 rfl ?_
                    refine gw_aload_n (pc' := 100) cx 0 rfl rfl dX5_copy_99 rfl ?_
                    refine gw_getR (pc' := 103) cx at49 rfl fl_X5_31 dX5_copy_100 rfl ?_
                    refine gw_iload_n (pc' := 104) cx 3 rfl rfl dX5_copy_103 rfl ?_
                    refine gw_iald (pc' := 105) cx at57 i18 rfl dX5_copy_104 rfl ?_
                    refine gw_iload (pc' := 107) cx 4 rfl dX5_copy_105 rfl ?_
                    refine gw_isub (pc' := 108) cx dX5_copy_107 rfl ?_
                    rcases ite_some h with ⟨c37, h⟩ | ⟨c37, h⟩
                    · refine gw_ic_le_t (pc' := 118) cx c37 dX5_copy_108 (by decide) ?_
                      refine gw_bipush (pc' := 120) (v := 40) cx cb_40 dX5_copy_118 rfl ?_
                      refine gw_iload_n (pc' := 121) cx 1 rfl rfl dX5_copy_120 rfl ?_
                      refine gw_imul (pc' := 122) cx dX5_copy_121 rfl ?_
                      refine gw_iload_n (pc' := 123) cx 2 rfl rfl dX5_copy_122 rfl ?_
                      refine gw_iadd (pc' := 124) cx dX5_copy_123 rfl ?_
                      refine gw_istore (pc' := 126) (lv' := [(6, .int ((40 * x1) + x2)), (0, .ref (eA E 49)), (1, .int x1), (2, .int x2), (3, .int x3), (4, .int x4), (5, .int x5)]) cx rfl (by decide) dX5_copy_124 rfl ?_
                      refine gw_bipush (pc' := 128) (v := 40) cx cb_40 dX5_copy_126 rfl ?_
                      refine gw_iload_n (pc' := 129) cx 4 rfl rfl dX5_copy_128 rfl ?_
                      refine gw_imul (pc' := 130) cx dX5_copy_129 rfl ?_
                      refine gw_iload (pc' := 132) cx 5 rfl dX5_copy_130 rfl ?_
                      refine gw_iadd (pc' := 133) cx dX5_copy_132 rfl ?_
                      refine gw_istore (pc' := 135) (lv' := [(7, .int ((40 * x3) + x4)), (6, .int ((40 * x1) + x2)), (0, .ref (eA E 49)), (1, .int x1), (2, .int x2), (3, .int x3), (4, .int x4), (5, .int x5)]) cx rfl (by decide) dX5_copy_133 rfl ?_
                      refine gw_iconst (pc' := 136) (v := 0) cx ci_0 dX5_copy_135 rfl ?_
                      refine gw_istore (pc' := 138) (lv' := [(8, .int 0), (7, .int ((40 * x3) + x4)), (6, .int ((40 * x1) + x2)), (0, .ref (eA E 49)), (1, .int x1), (2, .int x2), (3, .int x3), (4, .int x4), (5, .int x5)]) cx rfl (by decide) dX5_copy_136 rfl ?_
                      refine gw_sub [3, 8, 2, 1, 0] (lv' := [(0, .ref (eA E 49)), (5, .int x5), (6, .int ((40 * x1) + x2)), (7, .int ((40 * x3) + x4)), (8, .int 0)]) rfl ?_
                      exact w_X5_copy_L138 cx tg x5 ((40 * x1) + x2) ((40 * x3) + x4) FU 0 σ h
                    · refine gw_ic_le_f (pc' := 111) cx c37 dX5_copy_108 ⟨118, by decide⟩ rfl ?_
                      refine gw_aload_n (pc' := 112) cx 0 rfl rfl dX5_copy_111 rfl ?_
                      refine gw_ldc (pc' := 114) (v := (-1000001)) cx ct_X5_37 dX5_copy_112 rfl ?_
                      obtain ⟨r39, s40, g38, h⟩ := ob2_some h
                      refine gw_cV (pc' := 117) (av := [.int (-1000001)]) (rest := []) cx (k_X5_finds E g38) at49 (by decide) lk_X5_39 dX5_copy_114 rfl (Nat.le_of_ble_eq_true rfl) rfl ?_
                      show GW E fr _ 117 _ (.int r39 :: _) _
                      exact gw_iret cx tg (rt1 h) (rt2 h) dX5_copy_117
          · refine gw_ic_eq_f (pc' := 62) cx c20 dX5_copy_59 ⟨70, by decide⟩ rfl ?_
            refine gw_aload_n (pc' := 63) cx 0 rfl rfl dX5_copy_62 rfl ?_
            refine gw_ldc_w (pc' := 66) (v := (-1000003)) cx ct_X5_269 dX5_copy_63 rfl ?_
            obtain ⟨r42, s43, g41, h⟩ := ob2_some h
            refine gw_cV (pc' := 69) (av := [.int (-1000003)]) (rest := []) cx (k_X5_finds E g41) at49 (by decide) lk_X5_39 dX5_copy_66 rfl (Nat.le_of_ble_eq_true rfl) rfl ?_
            show GW E fr _ 69 _ (.int r42 :: _) _
            exact gw_iret cx tg (rt1 h) (rt2 h) dX5_copy_69
        · refine gw_if_ge_f (pc' := 39) cx c19 dX5_copy_36 ⟨47, by decide⟩ rfl ?_
          refine gw_aload_n (pc' := 40) cx 0 rfl rfl dX5_copy_39 rfl ?_
          refine gw_ldc_w (pc' := 43) (v := (-1000006)) cx ct_X5_265 dX5_copy_40 rfl ?_
          obtain ⟨r45, s46, g44, h⟩ := ob2_some h
          refine gw_cV (pc' := 46) (av := [.int (-1000006)]) (rest := []) cx (k_X5_finds E g44) at49 (by decide) lk_X5_39 dX5_copy_43 rfl (Nat.le_of_ble_eq_true rfl) rfl ?_
          show GW E fr _ 46 _ (.int r45 :: _) _
          exact gw_iret cx tg (rt1 h) (rt2 h) dX5_copy_46
def f_X5_load_L20 (y1 : Int32) : Nat → Int32 → Sg → Option (Int32 × Sg)
  | 0, _, _ => none
  | n + 1, y2, σ =>
    chk y1 4 <|
    if (σ 57 y1.toNatClampNeg) ≤ y2 then
      some (y2, σ)
    else
      if 6 ≤ y2 then
        some (y2, σ)
      else
        chk ((40 * y1) + y2) 160 <|
        ob0 (f_X5_isSaying (σ 58 ((40 * y1) + y2).toNatClampNeg) σ) fun r14 =>
        if r14 = 0 then
          some (y2, σ)
        else
          chk (4 + y2) 60 <|
          lt (up2 σ 50 (4 + y2).toNatClampNeg (σ 58 ((40 * y1) + y2).toNatClampNeg)) fun s17 =>
          f_X5_load_L20 y1 n (y2 + 1) s17
theorem w_X5_load_L20 {E : Ev} {fr : Fr} {r : Int32} {σ' : Sg} (cx : Cx E mX5_load 2 fr) (tg : Tg E fr (some .int) (some (.int r)) σ') (y1 : Int32)  : ∀ (n : Nat) (y2 : Int32) (σ : Sg), f_X5_load_L20 y1 n y2 σ = some (r, σ') → GW E fr 3 20 [(0, .ref (eA E 49)), (1, .int y1), (2, .int y2)] [] σ := by
  intro n
  induction n with
  | zero => intro y2 σ h; cases (show (none : Option (Int32 × Sg)) = _ from h)
  | succ n ih =>
    intro y2 σ h
    rw [f_X5_load_L20] at h
    refine gw_iload_n (pc' := 21) cx 2 rfl rfl dX5_load_20 rfl ?_
    refine gw_aload_n (pc' := 22) cx 0 rfl rfl dX5_load_21 rfl ?_
    refine gw_getR (pc' := 25) cx at49 rfl fl_X5_31 dX5_load_22 rfl ?_
    refine gw_iload_n (pc' := 26) cx 1 rfl rfl dX5_load_25 rfl ?_
    obtain ⟨i9, h⟩ := chk_some h
    refine gw_iald (pc' := 27) cx at57 i9 rfl dX5_load_26 rfl ?_
    rcases ite_some h with ⟨c10, h⟩ | ⟨c10, h⟩
    · refine gw_ic_ge_t (pc' := 78) cx c10 dX5_load_27 (by decide) ?_
      refine gw_iload_n (pc' := 79) cx 2 rfl rfl dX5_load_78 rfl ?_
      exact gw_iret cx tg (rt1 h) (rt2 h) dX5_load_79
    · refine gw_ic_ge_f (pc' := 30) cx c10 dX5_load_27 ⟨78, by decide⟩ rfl ?_
      refine gw_iload_n (pc' := 31) cx 2 rfl rfl dX5_load_30 rfl ?_
      refine gw_bipush (pc' := 33) (v := 6) cx cb_6 dX5_load_31 rfl ?_
      rcases ite_some h with ⟨c11, h⟩ | ⟨c11, h⟩
      · refine gw_ic_ge_t (pc' := 78) cx c11 dX5_load_33 (by decide) ?_
        refine gw_iload_n (pc' := 79) cx 2 rfl rfl dX5_load_78 rfl ?_
        exact gw_iret cx tg (rt1 h) (rt2 h) dX5_load_79
      · refine gw_ic_ge_f (pc' := 36) cx c11 dX5_load_33 ⟨78, by decide⟩ rfl ?_
        refine gw_aload_n (pc' := 37) cx 0 rfl rfl dX5_load_36 rfl ?_
        refine gw_getR (pc' := 40) cx at49 rfl fl_X5_34 dX5_load_37 rfl ?_
        refine gw_bipush (pc' := 42) (v := 40) cx cb_40 dX5_load_40 rfl ?_
        refine gw_iload_n (pc' := 43) cx 1 rfl rfl dX5_load_42 rfl ?_
        refine gw_imul (pc' := 44) cx dX5_load_43 rfl ?_
        refine gw_iload_n (pc' := 45) cx 2 rfl rfl dX5_load_44 rfl ?_
        refine gw_iadd (pc' := 46) cx dX5_load_45 rfl ?_
        obtain ⟨i12, h⟩ := chk_some h
        refine gw_iald (pc' := 47) cx at58 i12 rfl dX5_load_46 rfl ?_
        obtain ⟨r14, g13, h⟩ := ob0_some h
        refine gw_cS (pc' := 50) (av := [.int (σ 58 ((40 * y1) + y2).toNatClampNeg)]) (rest := []) cx (k_X5_isSaying E g13) (by decide) lk_X5_274 dX5_load_47 rfl (Nat.le_of_ble_eq_true rfl) rfl ?_
        show GW E fr _ 50 _ (.int r14 :: _) _
        rcases ite_some h with ⟨c15, h⟩ | ⟨c15, h⟩
        · refine gw_if_eq_t (pc' := 78) cx c15 dX5_load_50 (by decide) ?_
          refine gw_iload_n (pc' := 79) cx 2 rfl rfl dX5_load_78 rfl ?_
          exact gw_iret cx tg (rt1 h) (rt2 h) dX5_load_79
        · refine gw_if_eq_f (pc' := 53) cx c15 dX5_load_50 ⟨78, by decide⟩ rfl ?_
          refine gw_aload_n (pc' := 54) cx 0 rfl rfl dX5_load_53 rfl ?_
          refine gw_getR (pc' := 57) cx at49 rfl fl_X5_7 dX5_load_54 rfl ?_
          refine gw_iconst (pc' := 58) (v := 4) cx ci_4 dX5_load_57 rfl ?_
          refine gw_iload_n (pc' := 59) cx 2 rfl rfl dX5_load_58 rfl ?_
          refine gw_iadd (pc' := 60) cx dX5_load_59 rfl ?_
          refine gw_aload_n (pc' := 61) cx 0 rfl rfl dX5_load_60 rfl ?_
          refine gw_getR (pc' := 64) cx at49 rfl fl_X5_34 dX5_load_61 rfl ?_
          refine gw_bipush (pc' := 66) (v := 40) cx cb_40 dX5_load_64 rfl ?_
          refine gw_iload_n (pc' := 67) cx 1 rfl rfl dX5_load_66 rfl ?_
          refine gw_imul (pc' := 68) cx dX5_load_67 rfl ?_
          refine gw_iload_n (pc' := 69) cx 2 rfl rfl dX5_load_68 rfl ?_
          refine gw_iadd (pc' := 70) cx dX5_load_69 rfl ?_
          refine gw_iald (pc' := 71) cx at58 i12 rfl dX5_load_70 rfl ?_
          obtain ⟨i16, h⟩ := chk_some h
          obtain ⟨s17, e18, h⟩ := lt_some h
          refine gw_iast (pc' := 72) cx at50 i16 rfl dX5_load_71 rfl e18 ?_
          refine gw_iinc (pc' := 75) (v := (y2 + 1)) (lv' := [(2, .int (y2 + 1)), (0, .ref (eA E 49)), (1, .int y1)]) cx 2 rfl rfl rfl (by decide) dX5_load_72 rfl ?_
          refine gw_goto (pc' := 20) cx dX5_load_75 (by decide) ?_
          refine gw_sub [1, 2, 0] (lv' := [(0, .ref (eA E 49)), (1, .int y1), (2, .int (y2 + 1))]) rfl ?_
          exact ih (y2 + 1) s17 h
def f_X5_load (x1 : Int32) (σ : Sg) : Option (Int32 × Sg) :=
  ob0 (f_X5_wants x1 σ) fun r2 =>
  if r2 = 0 then
    f_X5_load_L20 x1 FU 0 σ
  else
    ob0 (f_X5_wants x1 σ) fun r5 =>
    ob2 (f_X5_finds r5 σ) fun r7 s8 =>
    some (r7, s8)
theorem k_X5_load (E : Ev) {x1 : Int32} {σ : Sg} {r : Int32} {σ' : Sg} (h : f_X5_load x1 σ = some (r, σ')) : Con E mX5_load 2 [.ref (eA E 49), .int x1] σ (some (.int r)) σ' := by
  refine con_of (by decide) (Nat.le_of_ble_eq_true rfl) (fun fr cx tg => ?_)
  show GW E fr 3 0 [(0, .ref (eA E 49)), (1, .int x1)] [] σ
  rw [f_X5_load] at h
  refine gw_aload_n (pc' := 1) cx 0 rfl rfl dX5_load_0 rfl ?_
  refine gw_iload_n (pc' := 2) cx 1 rfl rfl dX5_load_1 rfl ?_
  obtain ⟨r2, g1, h⟩ := ob0_some h
  refine gw_cV (pc' := 5) (av := [.int x1]) (rest := []) cx (k_X5_wants E g1) at49 (by decide) lk_X5_175 dX5_load_2 rfl (Nat.le_of_ble_eq_true rfl) rfl ?_
  show GW E fr _ 5 _ (.int r2 :: _) _
  rcases ite_some h with ⟨c3, h⟩ | ⟨c3, h⟩
  · refine gw_if_eq_t (pc' := 18) cx c3 dX5_load_5 (by decide) ?_
    refine gw_iconst (pc' := 19) (v := 0) cx ci_0 dX5_load_18 rfl ?_
    refine gw_istore_n (pc' := 20) (lv' := [(2, .int 0), (0, .ref (eA E 49)), (1, .int x1)]) cx rfl rfl (by decide) dX5_load_19 rfl ?_
    refine gw_sub [1, 2, 0] (lv' := [(0, .ref (eA E 49)), (1, .int x1), (2, .int 0)]) rfl ?_
    exact w_X5_load_L20 cx tg x1 FU 0 σ h
  · refine gw_if_eq_f (pc' := 8) cx c3 dX5_load_5 ⟨18, by decide⟩ rfl ?_
    refine gw_aload_n (pc' := 9) cx 0 rfl rfl dX5_load_8 rfl ?_
    refine gw_aload_n (pc' := 10) cx 0 rfl rfl dX5_load_9 rfl ?_
    refine gw_iload_n (pc' := 11) cx 1 rfl rfl dX5_load_10 rfl ?_
    obtain ⟨r5, g4, h⟩ := ob0_some h
    refine gw_cV (pc' := 14) (av := [.int x1]) (rest := [.ref (eA E 49)]) cx (k_X5_wants E g4) at49 (by decide) lk_X5_175 dX5_load_11 rfl (Nat.le_of_ble_eq_true rfl) rfl ?_
    show GW E fr _ 14 _ (.int r5 :: _) _
    obtain ⟨r7, s8, g6, h⟩ := ob2_some h
    refine gw_cV (pc' := 17) (av := [.int r5]) (rest := []) cx (k_X5_finds E g6) at49 (by decide) lk_X5_39 dX5_load_14 rfl (Nat.le_of_ble_eq_true rfl) rfl ?_
    show GW E fr _ 17 _ (.int r7 :: _) _
    exact gw_iret cx tg (rt1 h) (rt2 h) dX5_load_17
def f_X5_judge_L20 (y1 : Int32) : Nat → Int32 → Sg → Option (Int32 × Sg)
  | 0, _, _ => none
  | n + 1, y2, σ =>
    chk y1 4 <|
    if (σ 57 y1.toNatClampNeg) ≤ y2 then
      some (0, σ)
    else
      ob0 (f_X5_isOne y2 σ) fun r12 =>
      if r12 = 0 then
        some ((1 + y2), σ)
      else
        chk ((40 * y1) + y2) 160 <|
        ob0 (f_X5_its y2 1 σ) fun r16 =>
        if (σ 58 ((40 * y1) + y2).toNatClampNeg) = r16 then
          f_X5_judge_L20 y1 n (y2 + 1) σ
        else
          some ((1 + y2), σ)
theorem w_X5_judge_L20 {E : Ev} {fr : Fr} {r : Int32} {σ' : Sg} (cx : Cx E mX5_judge 2 fr) (tg : Tg E fr (some .int) (some (.int r)) σ') (y1 : Int32)  : ∀ (n : Nat) (y2 : Int32) (σ : Sg), f_X5_judge_L20 y1 n y2 σ = some (r, σ') → GW E fr 3 20 [(0, .ref (eA E 49)), (1, .int y1), (2, .int y2)] [] σ := by
  intro n
  induction n with
  | zero => intro y2 σ h; cases (show (none : Option (Int32 × Sg)) = _ from h)
  | succ n ih =>
    intro y2 σ h
    rw [f_X5_judge_L20] at h
    refine gw_iload_n (pc' := 21) cx 2 rfl rfl dX5_judge_20 rfl ?_
    refine gw_aload_n (pc' := 22) cx 0 rfl rfl dX5_judge_21 rfl ?_
    refine gw_getR (pc' := 25) cx at49 rfl fl_X5_31 dX5_judge_22 rfl ?_
    refine gw_iload_n (pc' := 26) cx 1 rfl rfl dX5_judge_25 rfl ?_
    obtain ⟨i9, h⟩ := chk_some h
    refine gw_iald (pc' := 27) cx at57 i9 rfl dX5_judge_26 rfl ?_
    rcases ite_some h with ⟨c10, h⟩ | ⟨c10, h⟩
    · refine gw_ic_ge_t (pc' := 64) cx c10 dX5_judge_27 (by decide) ?_
      refine gw_iload_n (pc' := 65) cx 2 rfl rfl dX5_judge_64 rfl ?_
      refine gw_aload_n (pc' := 66) cx 0 rfl rfl dX5_judge_65 rfl ?_
      refine gw_getR (pc' := 69) cx at49 rfl fl_X5_31 dX5_judge_66 rfl ?_
      refine gw_iload_n (pc' := 70) cx 1 rfl rfl dX5_judge_69 rfl ?_
      refine gw_iald (pc' := 71) cx at57 i9 rfl dX5_judge_70 rfl ?_
      refine gw_ic_ge_t (pc' := 80) cx c10 dX5_judge_71 (by decide) ?_
      refine gw_iconst (pc' := 81) (v := 0) cx ci_0 dX5_judge_80 rfl ?_
      exact gw_iret cx tg (rt1 h) (rt2 h) dX5_judge_81
    · refine gw_ic_ge_f (pc' := 30) cx c10 dX5_judge_27 ⟨64, by decide⟩ rfl ?_
      refine gw_aload_n (pc' := 31) cx 0 rfl rfl dX5_judge_30 rfl ?_
      refine gw_iload_n (pc' := 32) cx 2 rfl rfl dX5_judge_31 rfl ?_
      obtain ⟨r12, g11, h⟩ := ob0_some h
      refine gw_cV (pc' := 35) (av := [.int y2]) (rest := []) cx (k_X5_isOne E g11) at49 (by decide) lk_X5_85 dX5_judge_32 rfl (Nat.le_of_ble_eq_true rfl) rfl ?_
      show GW E fr _ 35 _ (.int r12 :: _) _
      rcases ite_some h with ⟨c13, h⟩ | ⟨c13, h⟩
      · refine gw_if_eq_t (pc' := 64) cx c13 dX5_judge_35 (by decide) ?_
        refine gw_iload_n (pc' := 65) cx 2 rfl rfl dX5_judge_64 rfl ?_
        refine gw_aload_n (pc' := 66) cx 0 rfl rfl dX5_judge_65 rfl ?_
        refine gw_getR (pc' := 69) cx at49 rfl fl_X5_31 dX5_judge_66 rfl ?_
        refine gw_iload_n (pc' := 70) cx 1 rfl rfl dX5_judge_69 rfl ?_
        refine gw_iald (pc' := 71) cx at57 i9 rfl dX5_judge_70 rfl ?_
        refine gw_ic_ge_f (pc' := 74) cx c10 dX5_judge_71 ⟨80, by decide⟩ rfl ?_
        refine gw_iconst (pc' := 75) (v := 1) cx ci_1 dX5_judge_74 rfl ?_
        refine gw_iload_n (pc' := 76) cx 2 rfl rfl dX5_judge_75 rfl ?_
        refine gw_iadd (pc' := 77) cx dX5_judge_76 rfl ?_
        refine gw_goto (pc' := 81) cx dX5_judge_77 (by decide) ?_
        exact gw_iret cx tg (rt1 h) (rt2 h) dX5_judge_81
      · refine gw_if_eq_f (pc' := 38) cx c13 dX5_judge_35 ⟨64, by decide⟩ rfl ?_
        refine gw_aload_n (pc' := 39) cx 0 rfl rfl dX5_judge_38 rfl ?_
        refine gw_getR (pc' := 42) cx at49 rfl fl_X5_34 dX5_judge_39 rfl ?_
        refine gw_bipush (pc' := 44) (v := 40) cx cb_40 dX5_judge_42 rfl ?_
        refine gw_iload_n (pc' := 45) cx 1 rfl rfl dX5_judge_44 rfl ?_
        refine gw_imul (pc' := 46) cx dX5_judge_45 rfl ?_
        refine gw_iload_n (pc' := 47) cx 2 rfl rfl dX5_judge_46 rfl ?_
        refine gw_iadd (pc' := 48) cx dX5_judge_47 rfl ?_
        obtain ⟨i14, h⟩ := chk_some h
        refine gw_iald (pc' := 49) cx at58 i14 rfl dX5_judge_48 rfl ?_
        refine gw_aload_n (pc' := 50) cx 0 rfl rfl dX5_judge_49 rfl ?_
        refine gw_iload_n (pc' := 51) cx 2 rfl rfl dX5_judge_50 rfl ?_
        refine gw_iconst (pc' := 52) (v := 1) cx ci_1 dX5_judge_51 rfl ?_
        obtain ⟨r16, g15, h⟩ := ob0_some h
        refine gw_cV (pc' := 55) (av := [.int y2, .int 1]) (rest := [.int (σ 58 ((40 * y1) + y2).toNatClampNeg)]) cx (k_X5_its E g15) at49 (by decide) lk_X5_73 dX5_judge_52 rfl (Nat.le_of_ble_eq_true rfl) rfl ?_
        show GW E fr _ 55 _ (.int r16 :: _) _
        rcases ite_some h with ⟨c17, h⟩ | ⟨c17, h⟩
        · refine gw_ic_ne_f (pc' := 58) cx c17 dX5_judge_55 ⟨64, by decide⟩ rfl ?_
          refine gw_iinc (pc' := 61) (v := (y2 + 1)) (lv' := [(2, .int (y2 + 1)), (0, .ref (eA E 49)), (1, .int y1)]) cx 2 rfl rfl rfl (by decide) dX5_judge_58 rfl ?_
          refine gw_goto (pc' := 20) cx dX5_judge_61 (by decide) ?_
          refine gw_sub [1, 2, 0] (lv' := [(0, .ref (eA E 49)), (1, .int y1), (2, .int (y2 + 1))]) rfl ?_
          exact ih (y2 + 1) σ h
        · refine gw_ic_ne_t (pc' := 64) cx c17 dX5_judge_55 (by decide) ?_
          refine gw_iload_n (pc' := 65) cx 2 rfl rfl dX5_judge_64 rfl ?_
          refine gw_aload_n (pc' := 66) cx 0 rfl rfl dX5_judge_65 rfl ?_
          refine gw_getR (pc' := 69) cx at49 rfl fl_X5_31 dX5_judge_66 rfl ?_
          refine gw_iload_n (pc' := 70) cx 1 rfl rfl dX5_judge_69 rfl ?_
          refine gw_iald (pc' := 71) cx at57 i9 rfl dX5_judge_70 rfl ?_
          refine gw_ic_ge_f (pc' := 74) cx c10 dX5_judge_71 ⟨80, by decide⟩ rfl ?_
          refine gw_iconst (pc' := 75) (v := 1) cx ci_1 dX5_judge_74 rfl ?_
          refine gw_iload_n (pc' := 76) cx 2 rfl rfl dX5_judge_75 rfl ?_
          refine gw_iadd (pc' := 77) cx dX5_judge_76 rfl ?_
          refine gw_goto (pc' := 81) cx dX5_judge_77 (by decide) ?_
          exact gw_iret cx tg (rt1 h) (rt2 h) dX5_judge_81
def f_X5_judge (x1 : Int32) (σ : Sg) : Option (Int32 × Sg) :=
  ob0 (f_X5_wants x1 σ) fun r2 =>
  if r2 = 0 then
    f_X5_judge_L20 x1 FU 0 σ
  else
    ob0 (f_X5_wants x1 σ) fun r5 =>
    ob2 (f_X5_finds r5 σ) fun r7 s8 =>
    some (r7, s8)
theorem k_X5_judge (E : Ev) {x1 : Int32} {σ : Sg} {r : Int32} {σ' : Sg} (h : f_X5_judge x1 σ = some (r, σ')) : Con E mX5_judge 2 [.ref (eA E 49), .int x1] σ (some (.int r)) σ' := by
  refine con_of (by decide) (Nat.le_of_ble_eq_true rfl) (fun fr cx tg => ?_)
  show GW E fr 3 0 [(0, .ref (eA E 49)), (1, .int x1)] [] σ
  rw [f_X5_judge] at h
  refine gw_aload_n (pc' := 1) cx 0 rfl rfl dX5_judge_0 rfl ?_
  refine gw_iload_n (pc' := 2) cx 1 rfl rfl dX5_judge_1 rfl ?_
  obtain ⟨r2, g1, h⟩ := ob0_some h
  refine gw_cV (pc' := 5) (av := [.int x1]) (rest := []) cx (k_X5_wants E g1) at49 (by decide) lk_X5_175 dX5_judge_2 rfl (Nat.le_of_ble_eq_true rfl) rfl ?_
  show GW E fr _ 5 _ (.int r2 :: _) _
  rcases ite_some h with ⟨c3, h⟩ | ⟨c3, h⟩
  · refine gw_if_eq_t (pc' := 18) cx c3 dX5_judge_5 (by decide) ?_
    refine gw_iconst (pc' := 19) (v := 0) cx ci_0 dX5_judge_18 rfl ?_
    refine gw_istore_n (pc' := 20) (lv' := [(2, .int 0), (0, .ref (eA E 49)), (1, .int x1)]) cx rfl rfl (by decide) dX5_judge_19 rfl ?_
    refine gw_sub [1, 2, 0] (lv' := [(0, .ref (eA E 49)), (1, .int x1), (2, .int 0)]) rfl ?_
    exact w_X5_judge_L20 cx tg x1 FU 0 σ h
  · refine gw_if_eq_f (pc' := 8) cx c3 dX5_judge_5 ⟨18, by decide⟩ rfl ?_
    refine gw_aload_n (pc' := 9) cx 0 rfl rfl dX5_judge_8 rfl ?_
    refine gw_aload_n (pc' := 10) cx 0 rfl rfl dX5_judge_9 rfl ?_
    refine gw_iload_n (pc' := 11) cx 1 rfl rfl dX5_judge_10 rfl ?_
    obtain ⟨r5, g4, h⟩ := ob0_some h
    refine gw_cV (pc' := 14) (av := [.int x1]) (rest := [.ref (eA E 49)]) cx (k_X5_wants E g4) at49 (by decide) lk_X5_175 dX5_judge_11 rfl (Nat.le_of_ble_eq_true rfl) rfl ?_
    show GW E fr _ 14 _ (.int r5 :: _) _
    obtain ⟨r7, s8, g6, h⟩ := ob2_some h
    refine gw_cV (pc' := 17) (av := [.int r5]) (rest := []) cx (k_X5_finds E g6) at49 (by decide) lk_X5_39 dX5_judge_14 rfl (Nat.le_of_ble_eq_true rfl) rfl ?_
    show GW E fr _ 17 _ (.int r7 :: _) _
    exact gw_iret cx tg (rt1 h) (rt2 h) dX5_judge_17
def f_X5_image (σ : Sg) : Option (Int32 × Sg) :=
  ob1 (f_X5_copyRow 50 51 σ) fun s2 =>
  lt (up2 s2 49 4 1) fun s3 =>
  some (1, s3)
theorem k_X5_image (E : Ev)  {σ : Sg} {r : Int32} {σ' : Sg} (h : f_X5_image σ = some (r, σ')) : Con E mX5_image 1 [.ref (eA E 49)] σ (some (.int r)) σ' := by
  refine con_of (by decide) (Nat.le_of_ble_eq_true rfl) (fun fr cx tg => ?_)
  show GW E fr 1 0 [(0, .ref (eA E 49))] [] σ
  rw [f_X5_image] at h
  refine gw_aload_n (pc' := 1) cx 0 rfl rfl dX5_image_0 rfl ?_
  refine gw_getR (pc' := 4) cx at49 rfl fl_X5_7 dX5_image_1 rfl ?_
  refine gw_aload_n (pc' := 5) cx 0 rfl rfl dX5_image_4 rfl ?_
  refine gw_getR (pc' := 8) cx at49 rfl fl_X5_13 dX5_image_5 rfl ?_
  obtain ⟨s2, g1, h⟩ := ob1_some h
  refine gw_cS (pc' := 11) (av := [.ref (eA E 50), .ref (eA E 51)]) (rest := []) cx (k_X5_copyRow E at50 at51 g1) (by decide) lk_X5_139 dX5_image_8 rfl (Nat.le_of_ble_eq_true rfl) rfl ?_
  show GW E fr _ 11 _ [] _
  refine gw_aload_n (pc' := 12) cx 0 rfl rfl dX5_image_11 rfl ?_
  refine gw_iconst (pc' := 13) (v := 1) cx ci_1 dX5_image_12 rfl ?_
  obtain ⟨s3, e4, h⟩ := lt_some h
  refine gw_put (pc' := 16) cx at49 rfl fp_X5_277 ⟨rfl, rfl⟩ dX5_image_13 rfl e4 ?_
  refine gw_iconst (pc' := 17) (v := 1) cx ci_1 dX5_image_16 rfl ?_
  exact gw_iret cx tg (rt1 h) (rt2 h) dX5_image_17
def f_X5_undo (σ : Sg) : Option (Int32 × Sg) :=
  if (σ 49 4) = 0 then
    ob2 (f_X5_finds (-1000004) σ) fun r3 s4 =>
    some (r3, s4)
  else
    ob1 (f_X5_copyRow 51 50 σ) fun s6 =>
    some ((s6 50 1), s6)
theorem k_X5_undo (E : Ev)  {σ : Sg} {r : Int32} {σ' : Sg} (h : f_X5_undo σ = some (r, σ')) : Con E mX5_undo 1 [.ref (eA E 49)] σ (some (.int r)) σ' := by
  refine con_of (by decide) (Nat.le_of_ble_eq_true rfl) (fun fr cx tg => ?_)
  show GW E fr 1 0 [(0, .ref (eA E 49))] [] σ
  rw [f_X5_undo] at h
  refine gw_aload_n (pc' := 1) cx 0 rfl rfl dX5_undo_0 rfl ?_
  refine gw_getI (pc' := 4) cx at49 rfl fl_X5_277 dX5_undo_1 rfl ?_
  rcases ite_some h with ⟨c1, h⟩ | ⟨c1, h⟩
  · refine gw_if_ne_f (pc' := 7) cx c1 dX5_undo_4 ⟨14, by decide⟩ rfl ?_
    refine gw_aload_n (pc' := 8) cx 0 rfl rfl dX5_undo_7 rfl ?_
    refine gw_ldc (pc' := 10) (v := (-1000004)) cx ct_X5_38 dX5_undo_8 rfl ?_
    obtain ⟨r3, s4, g2, h⟩ := ob2_some h
    refine gw_cV (pc' := 13) (av := [.int (-1000004)]) (rest := []) cx (k_X5_finds E g2) at49 (by decide) lk_X5_39 dX5_undo_10 rfl (Nat.le_of_ble_eq_true rfl) rfl ?_
    show GW E fr _ 13 _ (.int r3 :: _) _
    exact gw_iret cx tg (rt1 h) (rt2 h) dX5_undo_13
  · refine gw_if_ne_t (pc' := 14) cx c1 dX5_undo_4 (by decide) ?_
    refine gw_aload_n (pc' := 15) cx 0 rfl rfl dX5_undo_14 rfl ?_
    refine gw_getR (pc' := 18) cx at49 rfl fl_X5_13 dX5_undo_15 rfl ?_
    refine gw_aload_n (pc' := 19) cx 0 rfl rfl dX5_undo_18 rfl ?_
    refine gw_getR (pc' := 22) cx at49 rfl fl_X5_7 dX5_undo_19 rfl ?_
    obtain ⟨s6, g5, h⟩ := ob1_some h
    refine gw_cS (pc' := 25) (av := [.ref (eA E 51), .ref (eA E 50)]) (rest := []) cx (k_X5_copyRow E at51 at50 g5) (by decide) lk_X5_139 dX5_undo_22 rfl (Nat.le_of_ble_eq_true rfl) rfl ?_
    show GW E fr _ 25 _ [] _
    refine gw_aload_n (pc' := 26) cx 0 rfl rfl dX5_undo_25 rfl ?_
    refine gw_getR (pc' := 29) cx at49 rfl fl_X5_7 dX5_undo_26 rfl ?_
    refine gw_iconst (pc' := 30) (v := 1) cx ci_1 dX5_undo_29 rfl ?_
    refine gw_iald (pc' := 31) cx at50 (vpc (by decide)) cn_1 dX5_undo_30 rfl ?_
    exact gw_iret cx tg (rt1 h) (rt2 h) dX5_undo_31
def f_X5_tear (σ : Sg) : Option (Int32 × Sg) :=
  lt (up2 σ 49 4 0) fun s1 =>
  if (σ 49 4) = 0 then
    some (0, s1)
  else
    some (1, s1)
theorem k_X5_tear (E : Ev)  {σ : Sg} {r : Int32} {σ' : Sg} (h : f_X5_tear σ = some (r, σ')) : Con E mX5_tear 0 [.ref (eA E 49)] σ (some (.int r)) σ' := by
  refine con_of (by decide) (Nat.le_of_ble_eq_true rfl) (fun fr cx tg => ?_)
  show GW E fr 2 0 [(0, .ref (eA E 49))] [] σ
  rw [f_X5_tear] at h
  refine gw_aload_n (pc' := 1) cx 0 rfl rfl dX5_tear_0 rfl ?_
  refine gw_getI (pc' := 4) cx at49 rfl fl_X5_277 dX5_tear_1 rfl ?_
  refine gw_istore_n (pc' := 5) (lv' := [(1, .int (σ 49 4)), (0, .ref (eA E 49))]) cx rfl rfl (by decide) dX5_tear_4 rfl ?_
  refine gw_aload_n (pc' := 6) cx 1 rfl rfl dX5_tear_5 rfl ?_
  refine gw_iconst (pc' := 7) (v := 0) cx ci_0 dX5_tear_6 rfl ?_
  obtain ⟨s1, e2, h⟩ := lt_some h
  refine gw_put (pc' := 10) cx at49 rfl fp_X5_277 ⟨rfl, rfl⟩ dX5_tear_7 rfl e2 ?_
  refine gw_iload_n (pc' := 11) cx 0 rfl rfl dX5_tear_10 rfl ?_
  rcases ite_some h with ⟨c3, h⟩ | ⟨c3, h⟩
  · refine gw_if_eq_t (pc' := 18) cx c3 dX5_tear_11 (by decide) ?_
    refine gw_iconst (pc' := 19) (v := 0) cx ci_0 dX5_tear_18 rfl ?_
    exact gw_iret cx tg (rt1 h) (rt2 h) dX5_tear_19
  · refine gw_if_eq_f (pc' := 14) cx c3 dX5_tear_11 ⟨18, by decide⟩ rfl ?_
    refine gw_iconst (pc' := 15) (v := 1) cx ci_1 dX5_tear_14 rfl ?_
    refine gw_goto (pc' := 19) cx dX5_tear_15 (by decide) ?_
    exact gw_iret cx tg (rt1 h) (rt2 h) dX5_tear_19
def f_X5_count_L95 : Nat → Int32 → Int32 → Sg → Option (Int32 × Sg)
  | 0, _, _, _ => none
  | n + 1, y2, y3, σ =>
    if 10 ≤ y3 then
      some (y2, σ)
    else
      chk (50 + y3) 60 <|
      if 0 ≤ (σ 50 (50 + y3).toNatClampNeg) then
        f_X5_count_L95 n (y2 + 1) (y3 + 1) σ
      else
        f_X5_count_L95 n (y2 + 0) (y3 + 1) σ
theorem w_X5_count_L95 {E : Ev} {fr : Fr} {r : Int32} {σ' : Sg} (cx : Cx E mX5_count 2 fr) (tg : Tg E fr (some .int) (some (.int r)) σ')  : ∀ (n : Nat) (y2 : Int32) (y3 : Int32) (σ : Sg), f_X5_count_L95 n y2 y3 σ = some (r, σ') → GW E fr 4 95 [(0, .ref (eA E 49)), (2, .int y2), (3, .int y3)] [] σ := by
  intro n
  induction n with
  | zero => intro y2 y3 σ h; cases (show (none : Option (Int32 × Sg)) = _ from h)
  | succ n ih =>
    intro y2 y3 σ h
    rw [f_X5_count_L95] at h
    refine gw_iload_n (pc' := 96) cx 2 rfl rfl dX5_count_95 rfl ?_
    refine gw_bipush (pc' := 98) (v := 10) cx cb_10 dX5_count_96 rfl ?_
    rcases ite_some h with ⟨c16, h⟩ | ⟨c16, h⟩
    · refine gw_ic_ge_t (pc' := 127) cx c16 dX5_count_98 (by decide) ?_
      refine gw_iload_n (pc' := 128) cx 1 rfl rfl dX5_count_127 rfl ?_
      exact gw_iret cx tg (rt1 h) (rt2 h) dX5_count_128
    · refine gw_ic_ge_f (pc' := 101) cx c16 dX5_count_98 ⟨127, by decide⟩ rfl ?_
      refine gw_iload_n (pc' := 102) cx 1 rfl rfl dX5_count_101 rfl ?_
      refine gw_aload_n (pc' := 103) cx 0 rfl rfl dX5_count_102 rfl ?_
      refine gw_getR (pc' := 106) cx at49 rfl fl_X5_7 dX5_count_103 rfl ?_
      refine gw_bipush (pc' := 108) (v := 50) cx cb_50 dX5_count_106 rfl ?_
      refine gw_iload_n (pc' := 109) cx 2 rfl rfl dX5_count_108 rfl ?_
      refine gw_iadd (pc' := 110) cx dX5_count_109 rfl ?_
      obtain ⟨i17, h⟩ := chk_some h
      refine gw_iald (pc' := 111) cx at50 i17 rfl dX5_count_110 rfl ?_
      rcases ite_some h with ⟨c18, h⟩ | ⟨c18, h⟩
      · refine gw_if_ge_t (pc' := 118) cx c18 dX5_count_111 (by decide) ?_
        refine gw_iconst (pc' := 119) (v := 1) cx ci_1 dX5_count_118 rfl ?_
        refine gw_iadd (pc' := 120) cx dX5_count_119 rfl ?_
        refine gw_istore_n (pc' := 121) (lv' := [(2, .int (y2 + 1)), (0, .ref (eA E 49)), (3, .int y3)]) cx rfl rfl (by decide) dX5_count_120 rfl ?_
        refine gw_iinc (pc' := 124) (v := (y3 + 1)) (lv' := [(3, .int (y3 + 1)), (2, .int (y2 + 1)), (0, .ref (eA E 49))]) cx 2 rfl rfl rfl (by decide) dX5_count_121 rfl ?_
        refine gw_goto (pc' := 95) cx dX5_count_124 (by decide) ?_
        refine gw_sub [2, 1, 0] (lv' := [(0, .ref (eA E 49)), (2, .int (y2 + 1)), (3, .int (y3 + 1))]) rfl ?_
        exact ih (y2 + 1) (y3 + 1) σ h
      · refine gw_if_ge_f (pc' := 114) cx c18 dX5_count_111 ⟨118, by decide⟩ rfl ?_
        refine gw_iconst (pc' := 115) (v := 0) cx ci_0 dX5_count_114 rfl ?_
        refine gw_goto (pc' := 119) cx dX5_count_115 (by decide) ?_
        refine gw_iadd (pc' := 120) cx dX5_count_119 rfl ?_
        refine gw_istore_n (pc' := 121) (lv' := [(2, .int (y2 + 0)), (0, .ref (eA E 49)), (3, .int y3)]) cx rfl rfl (by decide) dX5_count_120 rfl ?_
        refine gw_iinc (pc' := 124) (v := (y3 + 1)) (lv' := [(3, .int (y3 + 1)), (2, .int (y2 + 0)), (0, .ref (eA E 49))]) cx 2 rfl rfl rfl (by decide) dX5_count_121 rfl ?_
        refine gw_goto (pc' := 95) cx dX5_count_124 (by decide) ?_
        refine gw_sub [2, 1, 0] (lv' := [(0, .ref (eA E 49)), (2, .int (y2 + 0)), (3, .int (y3 + 1))]) rfl ?_
        exact ih (y2 + 0) (y3 + 1) σ h
def f_X5_count (x1 : Int32) (σ : Sg) : Option (Int32 × Sg) :=
  if x1 = 0 then
    some ((σ 50 1), σ)
  else
    if x1 = 1 then
      some ((σ 50 0), σ)
    else
      if x1 = 2 then
        ob0 (f_X5_sumOf 1 σ) fun r5 =>
        some (r5, σ)
      else
        if x1 = 3 then
          ob0 (f_X5_sumOf 3 σ) fun r8 =>
          some (r8, σ)
        else
          if x1 = 4 then
            some ((σ 50 3), σ)
          else
            if x1 = 5 then
              some ((σ 49 7), σ)
            else
              if x1 = 6 then
                some ((σ 50 2), σ)
              else
                if x1 = 7 then
                  f_X5_count_L95 FU 0 0 σ
                else
                  ob2 (f_X5_finds (-1000001) σ) fun r14 s15 =>
                  some (r14, s15)
theorem k_X5_count (E : Ev) {x1 : Int32} {σ : Sg} {r : Int32} {σ' : Sg} (h : f_X5_count x1 σ = some (r, σ')) : Con E mX5_count 2 [.ref (eA E 49), .int x1] σ (some (.int r)) σ' := by
  refine con_of (by decide) (Nat.le_of_ble_eq_true rfl) (fun fr cx tg => ?_)
  show GW E fr 4 0 [(0, .ref (eA E 49)), (1, .int x1)] [] σ
  rw [f_X5_count] at h
  refine gw_iconst (pc' := 1) (v := 0) cx ci_0 dX5_count_0 rfl ?_
  refine gw_istore_n (pc' := 2) (lv' := [(2, .int 0), (0, .ref (eA E 49)), (1, .int x1)]) cx rfl rfl (by decide) dX5_count_1 rfl ?_
  refine gw_iload_n (pc' := 3) cx 2 rfl rfl dX5_count_2 rfl ?_
  rcases ite_some h with ⟨c1, h⟩ | ⟨c1, h⟩
  · refine gw_tin (pc' := 48) (off := 45) 0 cx c1 dX5_count_3 (by decide) (by decide) ?_
    refine gw_aload_n (pc' := 49) cx 1 rfl rfl dX5_count_48 rfl ?_
    refine gw_getR (pc' := 52) cx at49 rfl fl_X5_7 dX5_count_49 rfl ?_
    refine gw_iconst (pc' := 53) (v := 1) cx ci_1 dX5_count_52 rfl ?_
    refine gw_iald (pc' := 54) cx at50 (vpc (by decide)) cn_1 dX5_count_53 rfl ?_
    exact gw_iret cx tg (rt1 h) (rt2 h) dX5_count_54
  · skip
    rcases ite_some h with ⟨c2, h⟩ | ⟨c2, h⟩
    · refine gw_tin (pc' := 55) (off := 52) 1 cx c2 dX5_count_3 (by decide) (by decide) ?_
      refine gw_aload_n (pc' := 56) cx 1 rfl rfl dX5_count_55 rfl ?_
      refine gw_getR (pc' := 59) cx at49 rfl fl_X5_7 dX5_count_56 rfl ?_
      refine gw_iconst (pc' := 60) (v := 0) cx ci_0 dX5_count_59 rfl ?_
      refine gw_iald (pc' := 61) cx at50 (vpc (by decide)) cn_0 dX5_count_60 rfl ?_
      exact gw_iret cx tg (rt1 h) (rt2 h) dX5_count_61
    · skip
      rcases ite_some h with ⟨c3, h⟩ | ⟨c3, h⟩
      · refine gw_tin (pc' := 62) (off := 59) 2 cx c3 dX5_count_3 (by decide) (by decide) ?_
        refine gw_aload_n (pc' := 63) cx 1 rfl rfl dX5_count_62 rfl ?_
        refine gw_iconst (pc' := 64) (v := 1) cx ci_1 dX5_count_63 rfl ?_
        obtain ⟨r5, g4, h⟩ := ob0_some h
        refine gw_cV (pc' := 67) (av := [.int 1]) (rest := []) cx (k_X5_sumOf E g4) at49 (by decide) lk_X5_132 dX5_count_64 rfl (Nat.le_of_ble_eq_true rfl) rfl ?_
        show GW E fr _ 67 _ (.int r5 :: _) _
        exact gw_iret cx tg (rt1 h) (rt2 h) dX5_count_67
      · skip
        rcases ite_some h with ⟨c6, h⟩ | ⟨c6, h⟩
        · refine gw_tin (pc' := 68) (off := 65) 3 cx c6 dX5_count_3 (by decide) (by decide) ?_
          refine gw_aload_n (pc' := 69) cx 1 rfl rfl dX5_count_68 rfl ?_
          refine gw_iconst (pc' := 70) (v := 3) cx ci_3 dX5_count_69 rfl ?_
          obtain ⟨r8, g7, h⟩ := ob0_some h
          refine gw_cV (pc' := 73) (av := [.int 3]) (rest := []) cx (k_X5_sumOf E g7) at49 (by decide) lk_X5_132 dX5_count_70 rfl (Nat.le_of_ble_eq_true rfl) rfl ?_
          show GW E fr _ 73 _ (.int r8 :: _) _
          exact gw_iret cx tg (rt1 h) (rt2 h) dX5_count_73
        · skip
          rcases ite_some h with ⟨c9, h⟩ | ⟨c9, h⟩
          · refine gw_tin (pc' := 74) (off := 71) 4 cx c9 dX5_count_3 (by decide) (by decide) ?_
            refine gw_aload_n (pc' := 75) cx 1 rfl rfl dX5_count_74 rfl ?_
            refine gw_getR (pc' := 78) cx at49 rfl fl_X5_7 dX5_count_75 rfl ?_
            refine gw_iconst (pc' := 79) (v := 3) cx ci_3 dX5_count_78 rfl ?_
            refine gw_iald (pc' := 80) cx at50 (vpc (by decide)) cn_3 dX5_count_79 rfl ?_
            exact gw_iret cx tg (rt1 h) (rt2 h) dX5_count_80
          · skip
            rcases ite_some h with ⟨c10, h⟩ | ⟨c10, h⟩
            · refine gw_tin (pc' := 81) (off := 78) 5 cx c10 dX5_count_3 (by decide) (by decide) ?_
              refine gw_aload_n (pc' := 82) cx 1 rfl rfl dX5_count_81 rfl ?_
              refine gw_getI (pc' := 85) cx at49 rfl fl_X5_192 dX5_count_82 rfl ?_
              exact gw_iret cx tg (rt1 h) (rt2 h) dX5_count_85
            · skip
              rcases ite_some h with ⟨c11, h⟩ | ⟨c11, h⟩
              · refine gw_tin (pc' := 86) (off := 83) 6 cx c11 dX5_count_3 (by decide) (by decide) ?_
                refine gw_aload_n (pc' := 87) cx 1 rfl rfl dX5_count_86 rfl ?_
                refine gw_getR (pc' := 90) cx at49 rfl fl_X5_7 dX5_count_87 rfl ?_
                refine gw_iconst (pc' := 91) (v := 2) cx ci_2 dX5_count_90 rfl ?_
                refine gw_iald (pc' := 92) cx at50 (vpc (by decide)) cn_2 dX5_count_91 rfl ?_
                exact gw_iret cx tg (rt1 h) (rt2 h) dX5_count_92
              · skip
                rcases ite_some h with ⟨c12, h⟩ | ⟨c12, h⟩
                · refine gw_tin (pc' := 93) (off := 90) 7 cx c12 dX5_count_3 (by decide) (by decide) ?_
                  refine gw_iconst (pc' := 94) (v := 0) cx ci_0 dX5_count_93 rfl ?_
                  refine gw_istore_n (pc' := 95) (lv' := [(3, .int 0), (2, .int 0), (0, .ref (eA E 49)), (1, .int x1)]) cx rfl rfl (by decide) dX5_count_94 rfl ?_
                  refine gw_sub [2, 1, 0] (lv' := [(0, .ref (eA E 49)), (2, .int 0), (3, .int 0)]) rfl ?_
                  exact w_X5_count_L95 cx tg FU 0 0 σ h
                · skip
                  refine gw_tout (pc' := 129) cx dX5_count_3 (by have a0 := lv_neT (a := 0) c1 rfl; have a1 := lv_neT (a := 1) c2 rfl; have a2 := lv_neT (a := 2) c3 rfl; have a3 := lv_neT (a := 3) c6 rfl; have a4 := lv_neT (a := 4) c9 rfl; have a5 := lv_neT (a := 5) c10 rfl; have a6 := lv_neT (a := 6) c11 rfl; have a7 := lv_neT (a := 7) c12 rfl; omega) (by decide) ?_
                  refine gw_aload_n (pc' := 130) cx 1 rfl rfl dX5_count_129 rfl ?_
                  refine gw_ldc (pc' := 132) (v := (-1000001)) cx ct_X5_37 dX5_count_130 rfl ?_
                  obtain ⟨r14, s15, g13, h⟩ := ob2_some h
                  refine gw_cV (pc' := 135) (av := [.int (-1000001)]) (rest := []) cx (k_X5_finds E g13) at49 (by decide) lk_X5_39 dX5_count_132 rfl (Nat.le_of_ble_eq_true rfl) rfl ?_
                  show GW E fr _ 135 _ (.int r14 :: _) _
                  exact gw_iret cx tg (rt1 h) (rt2 h) dX5_count_135
def f_X5_status (x1 : Int32) (σ : Sg) : Option (Int32 × Sg) :=
  ob0 (f_X5_isIn x1.toInt64 (-1 : Int64) (6 : Int64) σ) fun r2 =>
  if r2 = 0 then
    ob2 (f_X5_finds (-1000001) σ) fun r5 s6 =>
    some (r5, s6)
  else
    chk (x1 + 1) 8 <|
    some ((σ 54 (x1 + 1).toNatClampNeg), σ)
theorem k_X5_status (E : Ev) {x1 : Int32} {σ : Sg} {r : Int32} {σ' : Sg} (h : f_X5_status x1 σ = some (r, σ')) : Con E mX5_status 1 [.ref (eA E 49), .int x1] σ (some (.int r)) σ' := by
  refine con_of (by decide) (Nat.le_of_ble_eq_true rfl) (fun fr cx tg => ?_)
  show GW E fr 2 0 [(0, .ref (eA E 49)), (1, .int x1)] [] σ
  rw [f_X5_status] at h
  refine gw_iload_n (pc' := 1) cx 1 rfl rfl dX5_status_0 rfl ?_
  refine gw_i2l (pc' := 2) cx dX5_status_1 rfl ?_
  refine gw_ldc2_w (pc' := 5) (v := -1) cx ct_X5_281 dX5_status_2 rfl ?_
  refine gw_ldc2_w (pc' := 8) (v := 6) cx ct_X5_64 dX5_status_5 rfl ?_
  obtain ⟨r2, g1, h⟩ := ob0_some h
  refine gw_cS (pc' := 11) (av := [.long x1.toInt64, .long (-1 : Int64), .long (6 : Int64)]) (rest := []) cx (k_X5_isIn E g1) (by decide) lk_X5_45 dX5_status_8 rfl (Nat.le_of_ble_eq_true rfl) rfl ?_
  show GW E fr _ 11 _ (.int r2 :: _) _
  rcases ite_some h with ⟨c3, h⟩ | ⟨c3, h⟩
  · refine gw_if_eq_t (pc' := 25) cx c3 dX5_status_11 (by decide) ?_
    refine gw_aload_n (pc' := 26) cx 0 rfl rfl dX5_status_25 rfl ?_
    refine gw_ldc (pc' := 28) (v := (-1000001)) cx ct_X5_37 dX5_status_26 rfl ?_
    obtain ⟨r5, s6, g4, h⟩ := ob2_some h
    refine gw_cV (pc' := 31) (av := [.int (-1000001)]) (rest := []) cx (k_X5_finds E g4) at49 (by decide) lk_X5_39 dX5_status_28 rfl (Nat.le_of_ble_eq_true rfl) rfl ?_
    show GW E fr _ 31 _ (.int r5 :: _) _
    exact gw_iret cx tg (rt1 h) (rt2 h) dX5_status_31
  · refine gw_if_eq_f (pc' := 14) cx c3 dX5_status_11 ⟨25, by decide⟩ rfl ?_
    refine gw_aload_n (pc' := 15) cx 0 rfl rfl dX5_status_14 rfl ?_
    refine gw_getR (pc' := 18) cx at49 rfl fl_X5_22 dX5_status_15 rfl ?_
    refine gw_iload_n (pc' := 19) cx 1 rfl rfl dX5_status_18 rfl ?_
    refine gw_iconst (pc' := 20) (v := 1) cx ci_1 dX5_status_19 rfl ?_
    refine gw_iadd (pc' := 21) cx dX5_status_20 rfl ?_
    obtain ⟨i7, h⟩ := chk_some h
    refine gw_iald (pc' := 22) cx at54 i7 rfl dX5_status_21 rfl ?_
    refine gw_goto (pc' := 31) cx dX5_status_22 (by decide) ?_
    exact gw_iret cx tg (rt1 h) (rt2 h) dX5_status_31
