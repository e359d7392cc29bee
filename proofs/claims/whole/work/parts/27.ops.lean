/-! copy, odds -/
theorem copyA {A B K : Nat} {σ : Sg} (hA : A + K ≤ 160) (hB : B + K ≤ 160) (hAB : A ≤ B) : f_X5_copy_L138 (nI K) (nI B) (nI A) FU 0 σ = some (nI K, upr σ 58 (va_cpy (σ 58) (σ 58) B A K)) := by
  have key := loop_up (P := fun f i => i ≤ K → f_X5_copy_L138 (nI K) (nI B) (nI A) f (nI i) (upr σ 58 (va_cpy (σ 58) (σ 58) B A i)) = some (nI K, upr σ 58 (va_cpy (σ 58) (σ 58) B A K))) K
    (fun f _ => by rw [f_X5_copy_L138, if_pos (nI_le (Nat.le_refl K) (by omega))])
    (fun f i hi ih _ => by
      rw [f_X5_copy_L138, if_neg (nle hi (by omega)), if_pos (nI_le hAB (by omega)), nI_add, nI_add, chk_nI (show B + i < 160 by omega) (by omega), chk_nI (show A + i < 160 by omega) (by omega), cl_nI (show B + i < 2 ^ 31 by omega), cl_nI (show A + i < 2 ^ 31 by omega), lt_s1, up2_upr, upr_at, upr_upr, nI_1]
      have e : upd (va_cpy (σ 58) (σ 58) B A i) (A + i) (va_cpy (σ 58) (σ 58) B A i (B + i)) = va_cpy (σ 58) (σ 58) B A (i + 1) := by
        funext q
        rw [pk_cpy_out (show B + i < A ∨ A + i ≤ B + i by omega)]
        by_cases e1 : q = A + i
        · subst e1
          rw [upd_at, pk_cpy_in (by omega) (by omega), show B + (A + i - A) = B + i by omega]
        · rw [upd_ne _ _ e1]
          by_cases e2 : A ≤ q ∧ q < A + i
          · rw [pk_cpy_in e2.1 e2.2, pk_cpy_in e2.1 (by omega)]
          · rw [pk_cpy_out (by omega), pk_cpy_out (by omega)]
      rw [e]
      exact ih (by omega))
  have := key FU 0 (Nat.zero_le K) (by rw [FU_eq]; omega) (Nat.zero_le K)
  rw [show va_cpy (σ 58) (σ 58) B A 0 = σ 58 from funext (fun q => pk_cpy_out (by omega)), upr_self] at this
  exact this
theorem copyD {A B K : Nat} {σ : Sg} (hA : A + K ≤ 160) (hB : B + K ≤ 160) (hAB : B < A) : f_X5_copy_L138 (nI K) (nI B) (nI A) FU 0 σ = some (nI K, upr σ 58 (va_cpy (σ 58) (σ 58) B A K)) := by
  have key := loop_up (P := fun f i => i ≤ K → f_X5_copy_L138 (nI K) (nI B) (nI A) f (nI i) (upr σ 58 (va_cpy (σ 58) (σ 58) (B + (K - i)) (A + (K - i)) i)) = some (nI K, upr σ 58 (va_cpy (σ 58) (σ 58) B A K))) K
    (fun f _ => by
      rw [f_X5_copy_L138, if_pos (nI_le (Nat.le_refl K) (by omega)), Nat.sub_self]
      rfl)
    (fun f i hi ih _ => by
      have hK : nI K - 1 - nI i = nI (K - 1 - i) := by
        rw [show (1 : Int32) = nI 1 from rfl, pk_sub (by omega), pk_sub (by omega)]
      rw [f_X5_copy_L138, if_neg (nle hi (by omega)), if_neg (nle hAB (by omega)), hK, nI_add, nI_add, chk_nI (show B + (K - 1 - i) < 160 by omega) (by omega), chk_nI (show A + (K - 1 - i) < 160 by omega) (by omega), cl_nI (show B + (K - 1 - i) < 2 ^ 31 by omega), cl_nI (show A + (K - 1 - i) < 2 ^ 31 by omega), lt_s1, up2_upr, upr_at, upr_upr, nI_1]
      have e : upd (va_cpy (σ 58) (σ 58) (B + (K - i)) (A + (K - i)) i) (A + (K - 1 - i)) (va_cpy (σ 58) (σ 58) (B + (K - i)) (A + (K - i)) i (B + (K - 1 - i))) = va_cpy (σ 58) (σ 58) (B + (K - (i + 1))) (A + (K - (i + 1))) (i + 1) := by
        funext q
        rw [pk_cpy_out (show B + (K - 1 - i) < A + (K - i) ∨ A + (K - i) + i ≤ B + (K - 1 - i) by omega)]
        by_cases e1 : q = A + (K - 1 - i)
        · subst e1
          rw [upd_at, pk_cpy_in (by omega) (by omega)]
          congr 1
          omega
        · rw [upd_ne _ _ e1]
          by_cases e2 : A + (K - i) ≤ q ∧ q < A + (K - i) + i
          · rw [pk_cpy_in e2.1 e2.2, pk_cpy_in (by omega) (by omega)]
            congr 1
            omega
          · rw [pk_cpy_out (by omega), pk_cpy_out (by omega)]
      rw [e]
      exact ih (by omega))
  have := key FU 0 (Nat.zero_le K) (by rw [FU_eq]; omega) (Nat.zero_le K)
  rw [show va_cpy (σ 58) (σ 58) (B + (K - 0)) (A + (K - 0)) 0 = σ 58 from funext (fun q => pk_cpy_out (by omega)), upr_self] at this
  exact this
theorem mcpy {A B K : Nat} {σ : Sg} (hA : A + K ≤ 160) (hB : B + K ≤ 160) : f_X5_copy_L138 (nI K) (nI B) (nI A) FU 0 σ = some (nI K, upr σ 58 (va_cpy (σ 58) (σ 58) B A K)) := by
  by_cases h : A ≤ B
  · exact copyA hA hB h
  · exact copyD hA hB (by omega)
theorem i_lt0 {x : Int32} (h : ¬ x < 0) : 0 ≤ x.toInt := by
  rw [Int32.lt_iff_toInt_lt] at h
  have : (0 : Int32).toInt = 0 := by decide
  omega
theorem hasR {k m : Nat} {x y : Int32} {σ : Sg} (hm : m ≤ 40) (e : σ (40 + k) 2 = nI m) : f_X3_hasRange (40 + k) x y σ = some (if 0 ≤ x.toInt ∧ 0 ≤ y.toInt ∧ x.toInt + y.toInt ≤ (m : Int) then 1 else 0) := by
  have z : (0 : Int32).toInt = 0 := by decide
  have em : (nI m).toInt = (m : Int) := nI_toInt (by omega)
  rw [f_X3_hasRange, e]
  simp only [Int32.lt_iff_toInt_lt, z, em]
  by_cases h1 : x.toInt < 0
  · rw [if_pos h1, if_neg (by omega)]
  · rw [if_neg h1]
    by_cases h2 : y.toInt < 0
    · rw [if_pos h2, if_neg (by omega)]
    · rw [if_neg h2]
      by_cases h3 : (m : Int) < y.toInt
      · rw [if_pos h3, if_neg (by omega)]
      · rw [if_neg h3]
        obtain ⟨b, hb, rfl⟩ := nn_of (x := y) (b := m) ⟨by omega, by omega⟩
        have eb : (nI b).toInt = (b : Int) := nI_toInt (by omega)
        have es : (nI m - nI b).toInt = (m : Int) - b := pk_sub_toInt (by omega) (by omega)
        rw [es, eb]
        by_cases h4 : (m : Int) - b < x.toInt
        · rw [if_pos h4, if_neg (by omega)]
        · rw [if_neg h4, if_pos (by omega)]
theorem sub_ti {m : Nat} {x : Int32} (hm : m ≤ 40) (hx : 0 ≤ x.toInt) : (nI m - x).toInt = (m : Int) - x.toInt := by
  have hx2 := Int32.toInt_lt x
  rw [Int32.toInt_sub, nI_toInt (by omega)]
  exact Int.bmod_eq_of_le (by omega) (by omega)
theorem cp_st {n k1 k3 a c K m1 m3 : Nat} {σ : Sg} (h : Inv n σ) (hk1 : k1 < 4) (hk3 : k3 < 4) (ha : a + K ≤ 40) (hc : c + K ≤ 40) : Inv (n + 1) (upr (upr σ (44 + k3) (va_cpy (σ (44 + k1)) (σ (44 + k3)) a c K)) 58 (va_cpy (σ 58) (σ 58) (40 * k1 + a) (40 * k3 + c) K)) := by
  refine h.sheets (fun q g1 g2 g3 g4 => by rw [upr_ne _ _ g4, upr_ne _ _ (by omega)]) (fun q hq => ?_)
  obtain ⟨⟨m', g1, g2, g3⟩, g4, g5⟩ := h.2.2.2.2 q hq
  refine ⟨⟨m', g1, ?_, ?_⟩, ?_, fun j hj => ?_⟩
  · rw [upr_ne _ _ (by omega), upr_ne _ _ (by omega)]; exact g2
  · rw [upr_ne _ _ (by omega), upr_ne _ _ (by omega)]; exact g3
  · rw [upr_ne _ _ (by omega), upr_ne _ _ (by omega), upr_ne _ _ (by omega), upr_ne _ _ (by omega)]; exact g4
  · rw [upr_ne _ _ (show 44 + q ≠ 58 by omega), upr_at]
    by_cases e : q = k3
    · subst e
      rw [upr_at]
      by_cases e2 : c ≤ j ∧ j < c + K
      · rw [pk_cpy_in e2.1 e2.2, pk_cpy_in (by omega) (by omega), (h.2.2.2.2 k1 hk1).2.2 _ (by omega)]
        congr 1
        omega
      · rw [pk_cpy_out (by omega), pk_cpy_out (by omega)]; exact g5 j hj
    · rw [upr_ne _ _ (by omega), pk_cpy_out (by omega)]; exact g5 j hj
theorem op_copy {n : Nat} {σ : Sg} (h : Inv n σ) (x1 x2 x3 x4 x5 : Int32) : Step n σ (f_X4_copy x1 x2 x3 x4 x5) (f_X5_copy x1 x2 x3 x4 x5) := by
  have c1 : ∀ x τ, f_X4_within x 0 3 τ = some (if 0 ≤ x.toInt ∧ x.toInt ≤ 3 then 1 else 0) := fun x τ => wC (by decide) (by decide) τ
  by_cases h1 : 0 ≤ x1.toInt ∧ x1.toInt ≤ 3
  · by_cases h3 : 0 ≤ x3.toInt ∧ x3.toInt ≤ 3
    · obtain ⟨k1, hk1, rfl⟩ := nn_of (x := x1) (b := 3) h1
      obtain ⟨k3, hk3, rfl⟩ := nn_of (x := x3) (b := 3) h3
      obtain ⟨⟨m1, hm1, e1, f1⟩, hb1, hu1⟩ := h.2.2.2.2 k1 (by omega)
      obtain ⟨⟨m3, hm3, e3, f3⟩, hb3, hu3⟩ := h.2.2.2.2 k3 (by omega)
      have uC : f_X4_copy (nI k1) x2 (nI k3) x4 x5 σ = (ob0 (f_X3_isMissing (40 + k1) σ) fun r16 => if r16 = 0 then ob0 (f_X3_isMissing (40 + k3) σ) fun r19 => if r19 = 0 then (if (σ (40 + k1) 1) = (σ (40 + k3) 1) then ob0 (f_X3_hasRange (40 + k1) x2 x5 σ) fun r23 => if r23 = 0 then ob2 (f_X4_found (-1000001) σ) fun r26 s27 => some (r26, s27) else ob0 (f_X3_hasRange (40 + k3) x4 x5 σ) fun r29 => if r29 = 0 then ob2 (f_X4_found (-1000001) σ) fun r32 s33 => some (r32, s33) else cp x2 x4 x5 40 40 (cpyR σ (40 + k1 + 4) (40 + k3 + 4) x2 x4 x5) fun s35 => some (x5, s35) else ob2 (f_X4_found (-1000003) σ) fun r38 s39 => some (r38, s39)) else ob2 (f_X4_found (-1000006) σ) fun r41 s42 => some (r41, s42) else ob2 (f_X4_found (-1000006) σ) fun r44 s45 => some (r44, s45)) := by
        rw [f_X4_copy, c1, if_pos h1, ob0_s, if_neg one_ne0, c1, if_pos h3, ob0_s, if_neg one_ne0, chk_nI (show k1 < 4 by omega) (by omega), chk_nI (show k3 < 4 by omega) (by omega), cl_nI (show k1 < 2 ^ 31 by omega), cl_nI (show k3 < 2 ^ 31 by omega)]
      have uM : ∀ ρ : Sg, f_X5_copy (nI k1) x2 (nI k3) x4 x5 ρ = (if ρ 56 k1 < 0 then ob2 (f_X5_finds (-1000006) ρ) fun r16 s17 => some (r16, s17) else if 0 ≤ ρ 56 k3 then (if ρ 56 k1 = ρ 56 k3 then (if x2 < 0 then ob2 (f_X5_finds (-1000001) ρ) fun r23 s24 => some (r23, s24) else if x4 < 0 then ob2 (f_X5_finds (-1000001) ρ) fun r27 s28 => some (r27, s28) else if x5 < 0 then ob2 (f_X5_finds (-1000001) ρ) fun r31 s32 => some (r31, s32) else if ((ρ 57 k1) - x2) < x5 then ob2 (f_X5_finds (-1000001) ρ) fun r35 s36 => some (r35, s36) else if x5 ≤ ((ρ 57 k3) - x4) then f_X5_copy_L138 x5 ((40 * nI k1) + x2) ((40 * nI k3) + x4) FU 0 ρ else ob2 (f_X5_finds (-1000001) ρ) fun r39 s40 => some (r39, s40)) else ob2 (f_X5_finds (-1000003) ρ) fun r42 s43 => some (r42, s43)) else ob2 (f_X5_finds (-1000006) ρ) fun r45 s46 => some (r45, s46)) := fun ρ => by
        rw [f_X5_copy, shM, if_pos h1, ob0_s, if_neg one_ne0, shM, if_pos h3, ob0_s, if_neg one_ne0, chk_nI (show k1 < 4 by omega) (by omega), chk_nI (show k3 < 4 by omega) (by omega), cl_nI (show k1 < 2 ^ 31 by omega), cl_nI (show k3 < 2 ^ 31 by omega)]
      have mis1 : ∀ k, (σ (40 + k) 1 = 0) → f_X3_isMissing (40 + k) σ = some 1 := fun k e => by rw [f_X3_isMissing, if_pos e]
      have mis0 : ∀ k, (σ (40 + k) 1 = σ 56 k ∧ (σ 56 k = 8 ∨ σ 56 k = 16 ∨ σ 56 k = 32)) → f_X3_isMissing (40 + k) σ = some 0 ∧ (0 : Int32) ≤ σ 56 k := fun k e => by
        rw [f_X3_isMissing, e.1]
        rcases e.2 with e2 | e2 | e2 <;> rw [e2] <;> exact ⟨by decide, by decide⟩
      have oo : ∀ j, fdC σ j 56 = σ 56 := fun j => fdC_o (by omega)
      have o7 : ∀ j, fdC σ j 57 = σ 57 := fun j => fdC_o (by omega)
      rcases hb1 with ⟨b1, d1⟩ | hb1
      · refine Step.find0 (j := 5) (r := -1000006) h (by omega) ?_ ?_
        · rw [uC, mis1 k1 b1, ob0_s, if_neg one_ne0, cfd5, ob2_s]
        · rw [uM, oo, d1, if_pos neg1_lt0, mfd5, ob2_s]
      · obtain ⟨q1, p1⟩ := mis0 k1 hb1
        have p1' : ¬ σ 56 k1 < 0 := by rw [i_not_lt]; exact p1
        rcases hb3 with ⟨b3, d3⟩ | hb3
        · refine Step.find0 (j := 5) (r := -1000006) h (by omega) ?_ ?_
          · rw [uC, q1, ob0_s, if_pos rfl, mis1 k3 b3, ob0_s, if_neg one_ne0, cfd5, ob2_s]
          · rw [uM, oo, if_neg p1', d3, if_neg (by decide), mfd5, ob2_s]
        · obtain ⟨q3, p3⟩ := mis0 k3 hb3
          by_cases hq : σ 56 k1 = σ 56 k3
          · have uC2 : f_X4_copy (nI k1) x2 (nI k3) x4 x5 σ = (if (0 ≤ x2.toInt ∧ 0 ≤ x5.toInt ∧ x2.toInt + x5.toInt ≤ (m1 : Int)) ∧ (0 ≤ x4.toInt ∧ 0 ≤ x5.toInt ∧ x4.toInt + x5.toInt ≤ (m3 : Int)) then cp x2 x4 x5 40 40 (cpyR σ (40 + k1 + 4) (40 + k3 + 4) x2 x4 x5) fun s35 => some (x5, s35) else some (-1000001, fdC σ 0)) := by
              rw [uC, q1, ob0_s, if_pos rfl, q3, ob0_s, if_pos rfl, hb1.1, hb3.1, if_pos hq, hasR hm1 e1, ob0_s, hasR hm3 e3, ob0_s, cfd0, ob2_s]
              by_cases r1 : 0 ≤ x2.toInt ∧ 0 ≤ x5.toInt ∧ x2.toInt + x5.toInt ≤ (m1 : Int)
              · rw [if_pos r1, if_neg one_ne0]
                by_cases r2 : 0 ≤ x4.toInt ∧ 0 ≤ x5.toInt ∧ x4.toInt + x5.toInt ≤ (m3 : Int)
                · rw [if_pos r2, if_neg one_ne0, if_pos ⟨r1, r2⟩]
                · rw [if_neg r2, if_pos rfl, if_neg (fun e => r2 e.2)]
              · rw [if_neg r1, if_pos rfl, if_neg (fun e => r1 e.1)]
            have uM2 : ∀ ρ : Sg, ρ 56 = σ 56 → ρ 57 = σ 57 → f_X5_copy (nI k1) x2 (nI k3) x4 x5 ρ = (if (0 ≤ x2.toInt ∧ 0 ≤ x5.toInt ∧ x2.toInt + x5.toInt ≤ (m1 : Int)) ∧ (0 ≤ x4.toInt ∧ 0 ≤ x5.toInt ∧ x4.toInt + x5.toInt ≤ (m3 : Int)) then f_X5_copy_L138 x5 ((40 * nI k1) + x2) ((40 * nI k3) + x4) FU 0 ρ else some (-1000001, fdM ρ 0)) := fun ρ r6 r7 => by
              rw [uM, r6, r7, if_neg p1', if_pos p3, if_pos hq, f1, f3, mfd0, ob2_s]
              by_cases s1 : x2 < 0
              · rw [if_pos s1, if_neg]
                rw [Int32.lt_iff_toInt_lt, show (0 : Int32).toInt = 0 by decide] at s1
                omega
              · rw [if_neg s1]
                have s1' := i_lt0 s1
                by_cases s2 : x4 < 0
                · rw [if_pos s2, if_neg]
                  rw [Int32.lt_iff_toInt_lt, show (0 : Int32).toInt = 0 by decide] at s2
                  omega
                · rw [if_neg s2]
                  have s2' := i_lt0 s2
                  by_cases s3 : x5 < 0
                  · rw [if_pos s3, if_neg]
                    rw [Int32.lt_iff_toInt_lt, show (0 : Int32).toInt = 0 by decide] at s3
                    omega
                  · rw [if_neg s3]
                    have s3' := i_lt0 s3
                    simp only [Int32.lt_iff_toInt_lt, Int32.le_iff_toInt_le, sub_ti hm1 s1', sub_ti hm3 s2']
                    by_cases s4 : (m1 : Int) - x2.toInt < x5.toInt
                    · rw [if_pos s4, if_neg (by omega)]
                    · rw [if_neg s4]
                      by_cases s5 : x5.toInt ≤ (m3 : Int) - x4.toInt
                      · rw [if_pos s5, if_pos (by omega)]
                      · rw [if_neg s5, if_neg (by omega)]
            by_cases hc : (0 ≤ x2.toInt ∧ 0 ≤ x5.toInt ∧ x2.toInt + x5.toInt ≤ (m1 : Int)) ∧ (0 ≤ x4.toInt ∧ 0 ≤ x5.toInt ∧ x4.toInt + x5.toInt ≤ (m3 : Int))
            · obtain ⟨a, ha, rfl⟩ := nn_of (x := x2) (b := 40) ⟨by omega, by omega⟩
              obtain ⟨c, hcc, rfl⟩ := nn_of (x := x4) (b := 40) ⟨by omega, by omega⟩
              obtain ⟨K, hK, rfl⟩ := nn_of (x := x5) (b := 40) ⟨by omega, by omega⟩
              have ea : (nI a).toInt = (a : Int) := nI_toInt (by omega)
              have ec : (nI c).toInt = (c : Int) := nI_toInt (by omega)
              have eK : (nI K).toInt = (K : Int) := nI_toInt (by omega)
              have hc' := hc
              rw [ea, ec, eK] at hc'
              refine ⟨nI K, upr σ (44 + k3) (va_cpy (σ (44 + k1)) (σ (44 + k3)) a c K), _, ?_, ?_, cp_st (k1 := k1) (k3 := k3) (a := a) (c := c) (K := K) (m1 := m1) (m3 := m3) h (by omega) (by omega) (by omega) (by omega)⟩
              · rw [uC2, if_pos hc, cp_ok (by rw [ea, ec, eK]; omega), cpyR, cl_nI (by omega), cl_nI (by omega), cl_nI (by omega), show 40 + k1 + 4 = 44 + k1 by omega, show 40 + k3 + 4 = 44 + k3 by omega]
              · rw [uM2 _ (upr_ne _ _ (by omega)) (upr_ne _ _ (by omega)), if_pos hc, ix40, ix40, mcpy (by omega) (by omega), upr_ne _ _ (show 58 ≠ 44 + k3 by omega)]
            · refine Step.bey h ?_ ?_
              · rw [uC2, if_neg hc]
              · rw [uM2 _ (oo 0) (o7 0), if_neg hc]
          · refine Step.find0 (j := 2) (r := -1000003) h (by omega) ?_ ?_
            · rw [uC, q1, ob0_s, if_pos rfl, q3, ob0_s, if_pos rfl, hb1.1, hb3.1, if_neg hq, cfd2, ob2_s]
            · rw [uM, oo, if_neg p1', if_pos p3, if_neg hq, mfd2, ob2_s]
    · refine Step.bey h ?_ ?_
      · rw [f_X4_copy, c1, if_pos h1, ob0_s, if_neg one_ne0, c1, if_neg h3, ob0_s, if_pos rfl, cfd0, ob2_s]
      · rw [f_X5_copy, shM, if_pos h1, ob0_s, if_neg one_ne0, shM, if_neg h3, ob0_s, if_pos rfl, mfd0, ob2_s]
  · refine Step.bey h ?_ ?_
    · rw [f_X4_copy, c1, if_neg h1, ob0_s, if_pos rfl, cfd0, ob2_s]
    · rw [f_X5_copy, shM, if_neg h1, ob0_s, if_pos rfl, mfd0, ob2_s]
def wrN (s : Rw) : Nat → Nat
  | 0 => 0
  | i + 1 => if roomS s i ≤ 0 then wrN s i else wrN s i + 1
theorem wrN_le (s : Rw) : ∀ i, wrN s i ≤ i := by
  intro i
  induction i with
  | zero => exact Nat.le_refl _
  | succ i ih => rw [wrN]; split <;> omega
theorem cwr {N d : Nat} {σ : Sg} {s : Rw} (ok : Ok N d s) (cr : CR N 1 σ s) : f_X0_withRoom 1 σ = some (nI (wrN s N)) := by
  have hN := ok.1
  have key := loop_up (P := fun f i => f_X0_withRoom_L4 1 f (nI (wrN s i)) (nI i) σ = some (nI (wrN s N))) N
    (fun f => by rw [f_X0_withRoom_L4, cr.1, ok.2.1, if_pos (nI_le (Nat.le_refl N) (by omega))])
    (fun f i hi ih => by
      rw [wrN] at ih
      rw [f_X0_withRoom_L4, cr.1, ok.2.1, if_neg (nle hi (by omega)), chk_nI (by omega) (by omega), cl_nI (by omega), croomS cr hi, ob0_s, nI_1, nI_1]
      by_cases q : roomS s i ≤ 0
      · rw [if_pos q] at ih ⊢; exact ih
      · rw [if_neg q] at ih ⊢; exact ih)
  exact key FU 0 (Nat.zero_le N) (by rw [FU_eq]; omega)
theorem mwr {N d : Nat} {y1 y2 : Int32} {a b : Int64} {σ : Sg} (ok : Ok N d (σ 50)) : f_X5_odds_L41 y1 y2 a b FU 0 0 σ = f_X5_odds_L80 y1 y2 (nI (wrN (σ 50) N)) FU a b 0 σ := by
  have hN := ok.1
  have key := loop_up (P := fun f i => f_X5_odds_L41 y1 y2 a b f (nI (wrN (σ 50) i)) (nI i) σ = f_X5_odds_L80 y1 y2 (nI (wrN (σ 50) N)) FU a b 0 σ) N
    (fun f => by rw [f_X5_odds_L41, ok.2.1, if_pos (nI_le (Nat.le_refl N) (by omega))])
    (fun f i hi ih => by
      rw [wrN] at ih
      rw [f_X5_odds_L41, ok.2.1, if_neg (nle hi (by omega)), mroom (by omega), ob0_s, nI_1, nI_1, add_z]
      by_cases q : roomS (σ 50) i ≤ 0
      · rw [if_pos q] at ih ⊢; exact ih
      · rw [if_neg q] at ih ⊢; exact ih)
  exact key FU 0 (Nat.zero_le N) (by rw [FU_eq]; omega)
def s0 : Sg := fun _ _ => 0
def oM (σ : Sg) (q : Int64 × Sg) : Int64 × Sg := (q.1, σ)
theorem pow_o (y0 y1 : Int32) : ∀ (f : Nat) (a : Int64) (y : Int32) (σ τ : Sg), f_X4_power_L5 y0 y1 f a y σ = f_X4_power_L5 y0 y1 f a y τ := by
  intro f
  induction f with
  | zero => intro a y σ τ; rfl
  | succ f ih =>
    intro a y σ τ
    rw [f_X4_power_L5, f_X4_power_L5, ih _ _ σ τ]
theorem odds_o (y1 y2 : Int32) (σ : Sg) : ∀ (f : Nat) (a b c : Int32), f_X4_odds_L42 y1 y2 f a b c σ = (f_X4_odds_L42 y1 y2 f a b c s0).map (oM σ) := by
  have hp : ∀ (a : Int32), (ob0 (f_X4_power a y1 σ) fun r => some (r, σ)) = ((ob0 (f_X4_power a y1 s0) fun r => some (r, s0)).map (oM σ)) := fun a => by
    rw [f_X4_power, f_X4_power, pow_o a y1 _ _ _ σ s0]
    cases f_X4_power_L5 a y1 FU 1 0 s0 <;> rfl
  intro f
  induction f with
  | zero => intro a b c; rfl
  | succ f ih =>
    intro a b c
    rw [f_X4_odds_L42, f_X4_odds_L42, hp, hp, ih]
    split
    · split <;> rfl
    · split
      · rfl
      · split <;> rfl
theorem odm_o (y2 : Int32) (σ : Sg) : ∀ (f : Nat) (a b : Int64), f_X5_odds_L120 y2 f a b σ = (f_X5_odds_L120 y2 f a b s0).map (oM σ) := by
  intro f
  induction f with
  | zero => intro a b; rfl
  | succ f ih =>
    intro a b
    rw [f_X5_odds_L120, f_X5_odds_L120, ih]
    split
    · split
      · rfl
      · split <;> rfl
    · split <;> rfl
theorem odp_o (y1 y2 y7 : Int32) (σ : Sg) : ∀ (f : Nat) (a b : Int64) (c : Int32), f_X5_odds_L80 y1 y2 y7 f a b c σ = (f_X5_odds_L80 y1 y2 y7 f a b c s0).map (oM σ) := by
  intro f
  induction f with
  | zero => intro a b c; rfl
  | succ f ih =>
    intro a b c
    rw [f_X5_odds_L80, f_X5_odds_L80, ih, odm_o, odm_o y2 σ FU a b]
    split
    · split <;> rfl
    · rfl
def odV (c n x : Nat) : Option Int64 := (f_X4_odds_L42 (nI n) (nI x) FU (nI c) 8 0 s0).map Prod.fst
theorem od_k : ∀ c : Fin 9, ∀ n : Fin 21, ∀ x : Fin 2, ((f_X4_odds_L42 (nI n.val) (nI x.val) FU (nI c.val) 8 0 s0).map Prod.fst).isSome = true ∧ (f_X5_odds_L80 (nI n.val) (nI x.val) (nI c.val) FU 1 1 0 s0).map Prod.fst = (f_X4_odds_L42 (nI n.val) (nI x.val) FU (nI c.val) 8 0 s0).map Prod.fst := by decide +kernel
theorem od_e {c n x : Nat} (hc : c ≤ 8) (hn : n ≤ 20) (hx : x ≤ 1) : ∃ v : Int64, (∀ σ, f_X4_odds_L42 (nI n) (nI x) FU (nI c) 8 0 σ = some (v, σ)) ∧ ∀ σ, f_X5_odds_L80 (nI n) (nI x) (nI c) FU 1 1 0 σ = some (v, σ) := by
  obtain ⟨h1, h2⟩ := od_k ⟨c, by omega⟩ ⟨n, by omega⟩ ⟨x, by omega⟩
  dsimp only at h1 h2
  cases hA : f_X4_odds_L42 (nI n) (nI x) FU (nI c) 8 0 s0 with
  | none => rw [hA] at h1; cases h1
  | some q =>
    obtain ⟨v, s⟩ := q
    rw [hA] at h2
    cases hB : f_X5_odds_L80 (nI n) (nI x) (nI c) FU 1 1 0 s0 with
    | none => rw [hB] at h2; cases h2
    | some q2 =>
      obtain ⟨v2, s2⟩ := q2
      rw [hB] at h2
      have e : v2 = v := Option.some.inj h2
      subst e
      exact ⟨v2, fun σ => by rw [odds_o, hA]; rfl, fun σ => by rw [odp_o, hB]; rfl⟩
theorem op_odds {n : Nat} {σ : Sg} (h : Inv n σ) (x y : Int32) : Step n σ (f_X4_odds x y) (f_X5_odds x y) := by
  obtain ⟨⟨N, d, ok, hd, cr⟩, hz⟩ := id h.1
  have hN := ok.1
  have c1 : ∀ τ, f_X4_within x 0 20 τ = some (if 0 ≤ x.toInt ∧ x.toInt ≤ 20 then 1 else 0) := fun τ => wC (by decide) (by decide) τ
  have m1 : ∀ τ, f_X5_isIn x.toInt64 0 20 τ = some (if 0 ≤ x.toInt ∧ x.toInt ≤ 20 then 1 else 0) := fun τ => wM (by decide) (by decide) τ
  have c2 : ∀ τ, f_X4_within y 0 1 τ = some (if 0 ≤ y.toInt ∧ y.toInt ≤ 1 then 1 else 0) := fun τ => wC (by decide) (by decide) τ
  have m2 : ∀ τ, f_X5_isIn y.toInt64 0 1 τ = some (if 0 ≤ y.toInt ∧ y.toInt ≤ 1 then 1 else 0) := fun τ => wM (by decide) (by decide) τ
  by_cases h1 : 0 ≤ x.toInt ∧ x.toInt ≤ 20
  · by_cases h2 : 0 ≤ y.toInt ∧ y.toInt ≤ 1
    · obtain ⟨k, hk, rfl⟩ := nn_of (x := x) (b := 20) h1
      obtain ⟨j, hj, rfl⟩ := nn_of (x := y) (b := 1) h2
      have hw := wrN_le (σ 50) N
      obtain ⟨v, g1, g2⟩ := od_e (c := wrN (σ 50) N) (n := k) (x := j) (by omega) hk hj
      refine Step.val h (r := v) ?_ (Trl.rf σ) ?_ (ScM.rf σ)
      · rw [f_X4_odds, c1, if_pos h1, ob0_s, if_neg one_ne0, c2, if_pos h2, ob0_s, if_neg one_ne0, cwr ok cr, ob0_s, g1]
      · rw [f_X5_odds, m1, if_pos h1, ob0_s, if_neg one_ne0, m2, if_pos h2, ob0_s, if_neg one_ne0, mwr ok, g2]
    · refine Step.find0 (j := 0) h (by omega) (r := (-1000001 : Int32).toInt64) ?_ ?_
      · rw [f_X4_odds, c1, if_pos h1, ob0_s, if_neg one_ne0, c2, if_neg h2, ob0_s, if_pos rfl, cfd0, ob2_s]
      · rw [f_X5_odds, m1, if_pos h1, ob0_s, if_neg one_ne0, m2, if_neg h2, ob0_s, if_pos rfl, mfd0, ob2_s]
  · refine Step.find0 (j := 0) h (by omega) (r := (-1000001 : Int32).toInt64) ?_ ?_
    · rw [f_X4_odds, c1, if_neg h1, ob0_s, if_pos rfl, cfd0, ob2_s]
    · rw [f_X5_odds, m1, if_neg h1, ob0_s, if_pos rfl, mfd0, ob2_s]
