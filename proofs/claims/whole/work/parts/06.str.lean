/-! String constants: the JDK's own length and charAt over the twelve words -/
section STRU
variable {E : Ev} {mt : Mt} {d : Nat} {fr : Fr} {nL pc pc' : Nat} {lv : List (Nat × Value)} {rest : List Value} {σ : Sg}
theorem gw_gets {C n ds : String} {v : Value} {ix : Nat} (cx : Cx E mt d fr) (hz : va_Z C n ds v (eX E) (fS fr) (fS fr).heap) (hk : Cond.fieldLink mt.1.cls ix C n ds ∈ tG) (hd : decode mt.2.1 pc = .ok (.getstatic ix, 3)) (hp : pc + 3 = pc') (kk : GW E fr nL pc' lv (v :: rest) σ) : GW E fr nL pc lv rest σ := by
  subst hp
  exact fun H locs ls hP hS hl => va_gets cx.1 cx.2.1 hz hS cx.2.2.2.1 (cx.2.2.2.2.1 _ hk) (fun _ h => h) hd (kk H locs ls hP hS hl)
theorem gw_ldcS {ix : Nat} (w : Nat) (cx : Cx E mt d fr) (hw : w < 12) (hk : mt.1.cls = RX2 ∧ ix = (txS w).2.1) (hd : decode mt.2.1 pc = .ok (.ldc ix, 2)) (hp : pc + 2 = pc') (kk : GW E fr nL pc' lv (.ref (eK E w) :: rest) σ) : GW E fr nL pc lv rest σ := by
  subst hp
  obtain ⟨hx, hb, hml, hown, hts, hK, hrest⟩ := cx
  obtain ⟨k1, rfl⟩ := hk
  rw [k1] at hown
  exact fun H locs ls hP hS hl => va_ldcS hx hb hown (hK.2.2.2.2 w hw) hd (kk H locs ls hP hS hl)
theorem gw_getV {w ix : Nat} (cx : Cx E mt d fr) (hw : w < 12) (hk : Cond.fieldLink mt.1.cls ix "java/lang/String" "value" "[B" ∈ tG) (hd : decode mt.2.1 pc = .ok (.getfield ix, 3)) (hp : pc + 3 = pc') (kk : GW E fr nL pc' lv (.ref (eV E w) :: rest) σ) : GW E fr nL pc lv (.ref (eK E w) :: rest) σ := by
  subst hp
  exact fun H locs ls hP hS hl => vk_getf cx.1 cx.2.1 (cx.2.2.2.2.2.1.2.2.2.1.2.2.2.2.1 w hw).2.2.1 hS cx.2.2.2.1 (cx.2.2.2.2.1 _ hk) (fun _ h => h) hd (kk H locs ls hP hS hl)
theorem gw_getCo {w ix : Nat} (cx : Cx E mt d fr) (hw : w < 12) (hk : Cond.fieldLink mt.1.cls ix "java/lang/String" "coder" "B" ∈ tG) (hd : decode mt.2.1 pc = .ok (.getfield ix, 3)) (hp : pc + 3 = pc') (kk : GW E fr nL pc' lv (.int 0 :: rest) σ) : GW E fr nL pc lv (.ref (eK E w) :: rest) σ := by
  subst hp
  exact fun H locs ls hP hS hl => vk_getf cx.1 cx.2.1 (cx.2.2.2.2.2.1.2.2.2.1.2.2.2.2.1 w hw).2.1 hS cx.2.2.2.1 (cx.2.2.2.2.1 _ hk) (fun _ h => h) hd (kk H locs ls hP hS hl)
theorem gw_alenV {w : Nat} (cx : Cx E mt d fr) (hw : w < 12) (hd : decode mt.2.1 pc = .ok (.arraylength, 1)) (hp : pc + 1 = pc') (kk : GW E fr nL pc' lv (.int (nI (lenS.getD w 0)) :: rest) σ) : GW E fr nL pc lv (.ref (eV E w) :: rest) σ := by
  subst hp
  exact fun H locs ls hP hS hl => va_tlen cx.1 cx.2.1 (cx.2.2.2.2.2.1.2.2.2.1.2.2.2.2.1 w hw).2.2.2 hS rfl hd (kk H locs ls hP hS hl)
theorem gw_baldV {w : Nat} {i : Int32} (cx : Cx E mt d fr) (hw : w < 12) (hin : vp_in i (lenS.getD w 0)) (hd : decode mt.2.1 pc = .ok (.baload, 1)) (hp : pc + 1 = pc') (kk : GW E fr nL pc' lv (.int ((bytS.getD w []).getD i.toNatClampNeg 0) :: rest) σ) : GW E fr nL pc lv (.int i :: .ref (eV E w) :: rest) σ := by
  subst hp
  exact fun H locs ls hP hS hl => va_tb cx.1 cx.2.1 (cx.2.2.2.2.2.1.2.2.2.1.2.2.2.2.1 w hw).2.2.2 hS hin rfl hd (kk H locs ls hP hS hl)
theorem gw_nret {v : Int32} {ty : FieldType} {σ' : Sg} {r : Option Value} (cx : Cx E mt d fr) (tg : Tg E fr (some ty) r σ') (hn : narrow ty (.int v) = .int v) (hr : r = some (.int v)) (hσ : σ' = σ) (hd : decode mt.2.1 pc = .ok (.ireturn, 1)) : GW E fr nL pc lv [.int v] σ := by
  subst hr
  subst hσ
  obtain ⟨t1, t2, t3⟩ := tg
  intro H locs ls hP hS hl
  rw [t3]
  exact W.zret cx.1 cx.2.1 t1 hn (fun t ht _ => ⟨⟨rfl, by rw [ht]; exact hP⟩, hS.F ht⟩) hS.2.2 hd t2
def LkK (own : String) (ix : Nat) (m2 : Mt) (n : Nat) : Prop := m2.1.cls = "java/lang/String" ∧ Cond.methodLink own ix m2.1 ∈ tG ∧ Cond.instanceMethod m2.1 ∈ tG ∧ Cond.selects m2.1.cls m2.1 m2.1 ∈ tG ∧ Cond.initialized m2.1.cls ∈ tG ∧ Cond.code m2.1 m2.2.1 m2.2.2.1 m2.2.2.2 ∈ tG ∧ (m2.1.cls ≠ "java/lang/invoke/MethodHandle" ∧ m2.1.cls ≠ "java/lang/invoke/VarHandle" ∧ (parseMethodDescriptor m2.1.desc).map (fun d => d.parameters.length) = some n) ∧ m2.2.2.1 ≤ 17
theorem gw_cK {m2 : Mt} {d2 : Nat} {av : List Value} {r : Option Value} {σ1 : Sg} {st : List Value} {ix w : Nat} (cx : Cx E mt d fr) (hc : Con E m2 d2 (.ref (eK E w) :: av) σ r σ1) (hw : w < 12) (hd2 : d2 + 1 ≤ d) (hk : LkK mt.1.cls ix m2 av.length) (hd : decode mt.2.1 pc = .ok (.invokevirtual ix, 3)) (hst : st = av.reverse ++ .ref (eK E w) :: rest) (hrm : (rest.map fun v => v.category).sum ≤ 8) (hp : pc + 3 = pc') (k : GW E fr mt.2.2.1 pc' lv (r.toList ++ rest) σ1) : GW E fr mt.2.2.1 pc lv st σ := by
  subst hp
  subst hst
  obtain ⟨k0, k1, k2, k3, k4, k5, k6, k7⟩ := hk
  obtain ⟨hx, hb, hml, hown, hts, hK, hfr, hlo, hcl, hsl⟩ := cx
  intro H locs ls hP hS hl
  refine gw_run (av := av) (va_runV (As := av) (b := eK E w) ⟨hx, hb, hml, hown, hts⟩ hc (cwV av.length hts (tG_all ?_) rfl rfl rfl ⟨rfl, k6⟩ ⟨Nat.le_trans hd2 hfr, ?_⟩) ⟨pc_blind, by rw [k0]; exact vk_recv hK.2.2.2.1.2.2.2.2 hw hS, fun U hU hW => ⟨rfl, by rw [hU]; exact hP, Kx_warm hW (by rw [hU]; exact hS.2.1) hK⟩⟩ rfl rfl hl.1 rfl (lv_room hrm) hd ⟨hcl, hsl⟩) hS hl k
  · intro w hw
    simp only [wsV, List.mem_append, List.mem_cons, List.not_mem_nil, or_false] at hw
    rcases hw with (rfl | rfl | rfl | rfl) | rfl | hw
    · exact k1
    · exact k2
    · exact k3
    · exact k4
    · exact k5
    · exact hw
  · show 8 + (m2.2.2.1 + 11) + 36 * d2 ≤ _
    omega
end STRU
theorem fk_9 : Cond.fieldLink RJ0 9 "java/lang/String" "value" "[B" ∈ tG := tG_of 1139 (by decide +kernel) (by decide +kernel)
theorem fk_15 : Cond.fieldLink RJ0 15 "java/lang/String" "coder" "B" ∈ tG := tG_of 1140 (by decide +kernel) (by decide +kernel)
theorem fk_38 : Cond.fieldLink RJ0 38 RJ0 "COMPACT_STRINGS" "Z" ∈ tG := tG_of 526 (by decide +kernel) (by decide +kernel)
theorem fk_1053 : Cond.fieldLink RJ0 1053 RJ3 "SIOOBE_FORMATTER" "Ljava/util/function/BiFunction;" ∈ tG := tG_of 542 (by decide +kernel) (by decide +kernel)
theorem lkk_335 : LkK RJ0 335 mJ0_coder_7d493 0 := ⟨rfl, tG_of 522 (by decide +kernel) (by decide +kernel), kN_J0_coder_7d493, kL_J0_coder_7d493, kI_J0, kC_J0_coder_7d493, ⟨by decide +kernel, by decide +kernel, by decide +kernel⟩, by decide⟩
theorem lkk_492 : LkK RJ0 492 mJ0_isLatin1_aae02 0 := ⟨rfl, tG_of 532 (by decide +kernel) (by decide +kernel), kN_J0_isLatin1_aae02, kL_J0_isLatin1_aae02, kI_J0, kC_J0_isLatin1_aae02, ⟨by decide +kernel, by decide +kernel, by decide +kernel⟩, by decide⟩
theorem lkk_X2_118 : LkK RX2 118 mJ0_length_8abf5 0 := ⟨rfl, tG_of 518 (by decide +kernel) (by decide +kernel), kN_J0_length_8abf5, kL_J0_length_8abf5, kI_J0, kC_J0_length_8abf5, ⟨by decide +kernel, by decide +kernel, by decide +kernel⟩, by decide⟩
theorem lkk_X2_123 : LkK RX2 123 mJ0_charAt_5068e 1 := ⟨rfl, tG_of 528 (by decide +kernel) (by decide +kernel), kN_J0_charAt_5068e, kL_J0_charAt_5068e, kI_J0, kC_J0_charAt_5068e, ⟨by decide +kernel, by decide +kernel, by decide +kernel⟩, by decide⟩
theorem k_coder (E : Ev) {w : Nat} (hw : w < 12) {σ : Sg} : Con E mJ0_coder_7d493 0 [.ref (eK E w)] σ (some (.int 0)) σ := by
  refine con_of (by decide) (Nat.le_of_ble_eq_true rfl) (fun fr cx tg => ?_)
  show GW E fr 1 0 [(0, .ref (eK E w))] [] σ
  refine gw_gets (pc' := 3) cx cx.2.2.2.2.2.1.2.2.2.1.1 fk_38 dJ0_coder_7d493_0 rfl ?_
  refine gw_if_eq_f (pc' := 6) cx (by decide) dJ0_coder_7d493_3 ⟨13, by decide⟩ rfl ?_
  refine gw_aload_n (pc' := 7) cx 0 rfl rfl dJ0_coder_7d493_6 rfl ?_
  refine gw_getCo (pc' := 10) cx hw fk_15 dJ0_coder_7d493_7 rfl ?_
  refine gw_goto (pc' := 14) cx dJ0_coder_7d493_10 (by decide) ?_
  exact gw_nret cx tg rfl rfl rfl dJ0_coder_7d493_14
theorem k_isLatin1 (E : Ev) {w : Nat} (hw : w < 12) {σ : Sg} : Con E mJ0_isLatin1_aae02 0 [.ref (eK E w)] σ (some (.int 1)) σ := by
  refine con_of (by decide) (Nat.le_of_ble_eq_true rfl) (fun fr cx tg => ?_)
  show GW E fr 1 0 [(0, .ref (eK E w))] [] σ
  refine gw_gets (pc' := 3) cx cx.2.2.2.2.2.1.2.2.2.1.1 fk_38 dJ0_isLatin1_aae02_0 rfl ?_
  refine gw_if_eq_f (pc' := 6) cx (by decide) dJ0_isLatin1_aae02_3 ⟨17, by decide⟩ rfl ?_
  refine gw_aload_n (pc' := 7) cx 0 rfl rfl dJ0_isLatin1_aae02_6 rfl ?_
  refine gw_getCo (pc' := 10) cx hw fk_15 dJ0_isLatin1_aae02_7 rfl ?_
  refine gw_if_ne_f (pc' := 13) cx rfl dJ0_isLatin1_aae02_10 ⟨17, by decide⟩ rfl ?_
  refine gw_iconst (pc' := 14) (v := 1) cx (by decide) dJ0_isLatin1_aae02_13 rfl ?_
  refine gw_goto (pc' := 18) cx dJ0_isLatin1_aae02_14 (by decide) ?_
  exact gw_nret cx tg rfl rfl rfl dJ0_isLatin1_aae02_18
theorem k_len (E : Ev) {w : Nat} (hw : w < 12) {σ : Sg} : Con E mJ0_length_8abf5 1 [.ref (eK E w)] σ (some (.int (nI (lenS.getD w 0)))) σ := by
  refine con_of (by decide) (Nat.le_of_ble_eq_true rfl) (fun fr cx tg => ?_)
  show GW E fr 1 0 [(0, .ref (eK E w))] [] σ
  refine gw_aload_n (pc' := 1) cx 0 rfl rfl dJ0_length_8abf5_0 rfl ?_
  refine gw_getV (pc' := 4) cx hw fk_9 dJ0_length_8abf5_1 rfl ?_
  refine gw_alenV (pc' := 5) cx hw dJ0_length_8abf5_4 rfl ?_
  refine gw_aload_n (pc' := 6) cx 0 rfl rfl dJ0_length_8abf5_5 rfl ?_
  refine gw_cK (pc' := 9) (av := []) (rest := [.int (nI (lenS.getD w 0))]) cx (k_coder E hw) hw (by decide) lkk_335 dJ0_length_8abf5_6 rfl (Nat.le_of_ble_eq_true rfl) rfl ?_
  show GW E fr _ 9 _ (.int 0 :: .int (nI (lenS.getD w 0)) :: []) _
  refine gw_ishr (pc' := 10) cx dJ0_length_8abf5_9 rfl ?_
  rw [show jshr (nI (lenS.getD w 0)) 0 = nI (lenS.getD w 0) from sb_shr0 _]
  exact gw_iret cx tg rfl rfl dJ0_length_8abf5_10
theorem k_chk3 (E : Ev) {i n : Int32} {v : Value} (hv : v.category = 1) (h0 : ¬ i < 0) (hn : i < n) {σ : Sg} : Con E mJ3_checkIndex_8e157 0 [.int i, .int n, v] σ (some (.int i)) σ := by
  have hl : (lg_sl [.int i, .int n, v]).length ≤ 3 ∧ lv_args 0 [.int i, .int n, v] = [(0, .int i), (1, .int n), (2, v)] := by
    cases v <;> first | exact ⟨Nat.le_of_ble_eq_true rfl, rfl⟩ | (exact absurd (show (2 : Nat) = 1 from hv) (by decide))
  refine con_of (by decide) hl.1 (fun fr cx tg => ?_)
  rw [hl.2]
  show GW E fr 3 0 [(0, .int i), (1, .int n), (2, v)] [] σ
  refine gw_iload_n (pc' := 1) cx 0 rfl rfl dJ3_checkIndex_8e157_0 rfl ?_
  refine gw_if_lt_f (pc' := 4) cx h0 dJ3_checkIndex_8e157_1 ⟨9, by decide⟩ rfl ?_
  refine gw_iload_n (pc' := 5) cx 0 rfl rfl dJ3_checkIndex_8e157_4 rfl ?_
  refine gw_iload_n (pc' := 6) cx 1 rfl rfl dJ3_checkIndex_8e157_5 rfl ?_
  refine gw_ic_lt_t (pc' := 16) cx hn dJ3_checkIndex_8e157_6 (by decide) ?_
  refine gw_iload_n (pc' := 17) cx 0 rfl rfl dJ3_checkIndex_8e157_16 rfl ?_
  exact gw_iret cx tg rfl rfl dJ3_checkIndex_8e157_17
theorem k_chk0 (E : Ev) {i n : Int32} (h0 : ¬ i < 0) (hn : i < n) {σ : Sg} : Con E mJ0_checkIndex_df160 1 [.int i, .int n] σ none σ := by
  refine con_of (by decide) (Nat.le_of_ble_eq_true rfl) (fun fr cx tg => ?_)
  show GW E fr 2 0 [(0, .int i), (1, .int n)] [] σ
  refine gw_iload_n (pc' := 1) cx 0 rfl rfl dJ0_checkIndex_df160_0 rfl ?_
  refine gw_iload_n (pc' := 2) cx 1 rfl rfl dJ0_checkIndex_df160_1 rfl ?_
  have key : ∀ v : Value, v.category = 1 → (v = .null ∨ ∃ t, v = .ref t) → GW E fr 2 5 [(0, .int i), (1, .int n)] [v, .int n, .int i] σ := by
    intro v hv _
    refine gw_cS (pc' := 8) (av := [.int i, .int n, v]) (rest := []) cx (k_chk3 E hv h0 hn) (by decide) lk_J0_1059 dJ0_checkIndex_df160_5 rfl (Nat.le_of_ble_eq_true rfl) rfl ?_
    show GW E fr _ 8 _ (.int i :: []) _
    refine gw_pop (pc' := 9) cx rfl dJ0_checkIndex_df160_8 rfl ?_
    exact gw_vret cx tg rfl rfl dJ0_checkIndex_df160_9
  rcases cx.2.2.2.2.2.1.2.2.2.1.2.1 with hz | ⟨t, hz⟩
  · exact gw_gets (pc' := 5) cx hz fk_1053 dJ0_checkIndex_df160_2 rfl (key _ rfl (Or.inl rfl))
  · exact gw_gets (pc' := 5) cx hz fk_1053 dJ0_checkIndex_df160_2 rfl (key _ rfl (Or.inr ⟨t, rfl⟩))
def sAt (w : Nat) (i : Int32) : Int32 := (bytS.getD w []).getD i.toNatClampNeg 0
theorem str_ok : ∀ w, w < 12 → ∀ j, j < lenS.getD w 0 → (((bytS.getD w []).getD j 0 &&& 255).toUInt32 % 65536).toInt32 = (bytS.getD w []).getD j 0 ∧ narrow .char (.int ((bytS.getD w []).getD j 0)) = .int ((bytS.getD w []).getD j 0) := by decide +kernel
theorem len_lt : ∀ w, w < 12 → lenS.getD w 0 < 7 := by decide +kernel
theorem vp_nn {i : Int32} {n : Nat} (h : vp_in i n) : ¬ i < 0 := fun z => h (Or.inl z)
theorem vp_lt {i : Int32} {n : Nat} (h : vp_in i n) : i.toNatClampNeg < n := Nat.not_le.mp fun q => h (Or.inr q)
theorem vp_ltI {i : Int32} {n : Nat} (hn : n < 2 ^ 31) (h : vp_in i n) : i < nI n := by
  rw [Int32.lt_iff_toInt_lt, nI_toInt hn]
  exact (vp_in_iff.mp h).2
theorem k_chL (E : Ev) {w : Nat} {i : Int32} (hw : w < 12) (hi : vp_in i (lenS.getD w 0)) {σ : Sg} : Con E mJ1_charAt_3b067 2 [.ref (eV E w), .int i] σ (some (.int ((bytS.getD w []).getD i.toNatClampNeg 0))) σ := by
  refine con_of (by decide) (Nat.le_of_ble_eq_true rfl) (fun fr cx tg => ?_)
  show GW E fr 2 0 [(0, .ref (eV E w)), (1, .int i)] [] σ
  have hs := str_ok w hw _ (vp_lt hi)
  refine gw_iload_n (pc' := 1) cx 1 rfl rfl dJ1_charAt_3b067_0 rfl ?_
  refine gw_aload_n (pc' := 2) cx 0 rfl rfl dJ1_charAt_3b067_1 rfl ?_
  refine gw_alenV (pc' := 3) cx hw dJ1_charAt_3b067_2 rfl ?_
  refine gw_cS (pc' := 6) (av := [.int i, .int (nI (lenS.getD w 0))]) (rest := []) cx (k_chk0 E (vp_nn hi) (vp_ltI (Nat.lt_trans (len_lt w hw) (by decide)) hi)) (by decide) lk_J1_9 dJ1_charAt_3b067_3 rfl (Nat.le_of_ble_eq_true rfl) rfl ?_
  show GW E fr _ 6 _ [] _
  refine gw_aload_n (pc' := 7) cx 0 rfl rfl dJ1_charAt_3b067_6 rfl ?_
  refine gw_iload_n (pc' := 8) cx 1 rfl rfl dJ1_charAt_3b067_7 rfl ?_
  refine gw_baldV (pc' := 9) cx hw hi dJ1_charAt_3b067_8 rfl ?_
  refine gw_sipush (pc' := 12) (v := 255) cx (by decide) dJ1_charAt_3b067_9 rfl ?_
  refine gw_iand (pc' := 13) cx dJ1_charAt_3b067_12 rfl ?_
  refine gw_i2c (pc' := 14) cx dJ1_charAt_3b067_13 rfl ?_
  rw [hs.1]
  exact gw_nret cx tg hs.2 rfl rfl dJ1_charAt_3b067_14
theorem k_charAt (E : Ev) {w : Nat} {i : Int32} (hw : w < 12) (hi : vp_in i (lenS.getD w 0)) {σ : Sg} : Con E mJ0_charAt_5068e 3 [.ref (eK E w), .int i] σ (some (.int ((bytS.getD w []).getD i.toNatClampNeg 0))) σ := by
  refine con_of (by decide) (Nat.le_of_ble_eq_true rfl) (fun fr cx tg => ?_)
  show GW E fr 2 0 [(0, .ref (eK E w)), (1, .int i)] [] σ
  refine gw_aload_n (pc' := 1) cx 0 rfl rfl dJ0_charAt_5068e_0 rfl ?_
  refine gw_cK (pc' := 4) (av := []) (rest := []) cx (k_isLatin1 E hw) hw (by decide) lkk_492 dJ0_charAt_5068e_1 rfl (Nat.le_of_ble_eq_true rfl) rfl ?_
  show GW E fr _ 4 _ (.int 1 :: []) _
  refine gw_if_eq_f (pc' := 7) cx (by decide) dJ0_charAt_5068e_4 ⟨16, by decide⟩ rfl ?_
  refine gw_aload_n (pc' := 8) cx 0 rfl rfl dJ0_charAt_5068e_7 rfl ?_
  refine gw_getV (pc' := 11) cx hw fk_9 dJ0_charAt_5068e_8 rfl ?_
  refine gw_iload_n (pc' := 12) cx 1 rfl rfl dJ0_charAt_5068e_11 rfl ?_
  refine gw_cS (pc' := 15) (av := [.ref (eV E w), .int i]) (rest := []) cx (k_chL E hw hi) (by decide) lk_J0_495 dJ0_charAt_5068e_12 rfl (Nat.le_of_ble_eq_true rfl) rfl ?_
  show GW E fr _ 15 _ (.int ((bytS.getD w []).getD i.toNatClampNeg 0) :: []) _
  exact gw_nret cx tg (str_ok w hw _ (vp_lt hi)).2 rfl rfl dJ0_charAt_5068e_15
theorem gw_strlen {E : Ev} {mt : Mt} {d : Nat} {fr : Fr} {pc pc' ix w : Nat} {lv : List (Nat × Value)} {rest : List Value} {σ : Sg} (cx : Cx E mt d fr) (hw : w < 12) (hd2 : 2 ≤ d) (hk : LkK mt.1.cls ix mJ0_length_8abf5 0) (hd : decode mt.2.1 pc = .ok (.invokevirtual ix, 3)) (hrm : (rest.map fun v => v.category).sum ≤ 8) (hp : pc + 3 = pc') (kk : GW E fr mt.2.2.1 pc' lv (.int (nI (lenS.getD w 0)) :: rest) σ) : GW E fr mt.2.2.1 pc lv (.ref (eK E w) :: rest) σ :=
  gw_cK (av := []) (rest := rest) cx (k_len E hw) hw hd2 hk hd rfl hrm hp kk
theorem gw_charAt {E : Ev} {mt : Mt} {d : Nat} {fr : Fr} {pc pc' ix w : Nat} {i : Int32} {lv : List (Nat × Value)} {rest : List Value} {σ : Sg} (cx : Cx E mt d fr) (hw : w < 12) (hi : vp_in i (lenS.getD w 0)) (hd2 : 4 ≤ d) (hk : LkK mt.1.cls ix mJ0_charAt_5068e 1) (hd : decode mt.2.1 pc = .ok (.invokevirtual ix, 3)) (hrm : (rest.map fun v => v.category).sum ≤ 8) (hp : pc + 3 = pc') (kk : GW E fr mt.2.2.1 pc' lv (.int ((bytS.getD w []).getD i.toNatClampNeg 0) :: rest) σ) : GW E fr mt.2.2.1 pc lv (.int i :: .ref (eK E w) :: rest) σ :=
  gw_cK (av := [.int i]) (rest := rest) cx (k_charAt E hw hi) hw hd2 hk hd rfl hrm hp kk
