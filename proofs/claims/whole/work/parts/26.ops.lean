/-! feed, sheet, write, load, judge -/
theorem tI_cond (x : Int32) : x.toInt = if 2 * x.toBitVec.toNat < 2 ^ 32 then (x.toBitVec.toNat : Int) else (x.toBitVec.toNat : Int) - 2 ^ 32 := by
  show x.toBitVec.toInt = _
  rw [BitVec.toInt_eq_toNat_cond]
  norm_cast
theorem fb_eq (y : Int32) {j : Nat} (hj : j < 4) : jushr y (8 * nI j) &&& 255 = jshr y (8 * nI j) &&& 255 := by
  have hu : ∃ k, k = 8 * j ∧ (jushr y (8 * nI j)).toBitVec.toNat = y.toBitVec.toNat / 2 ^ k ∧ (jshr y (8 * nI j)).toInt = y.toInt >>> k := by
    have c : j = 0 ∨ j = 1 ∨ j = 2 ∨ j = 3 := by omega
    rcases c with rfl | rfl | rfl | rfl
    · exact ⟨_, rfl, pk_ushr y _ 0 (by decide), pk_shr y _ 0 (by decide)⟩
    · exact ⟨_, rfl, pk_ushr y _ 8 (by decide), pk_shr y _ 8 (by decide)⟩
    · exact ⟨_, rfl, pk_ushr y _ 16 (by decide), pk_shr y _ 16 (by decide)⟩
    · exact ⟨_, rfl, pk_ushr y _ 24 (by decide), pk_shr y _ 24 (by decide)⟩
  obtain ⟨k, hk, h1, h2⟩ := hu
  have hy : y.toBitVec.toNat < 2 ^ 32 := y.toBitVec.isLt
  have hs : (jshr y (8 * nI j)).toBitVec.toNat < 2 ^ 32 := (jshr y (8 * nI j)).toBitVec.isLt
  rw [pk_and _ (m := 255) 8 (by decide), pk_and _ (m := 255) 8 (by decide), h1]
  rw [tI_cond, tI_cond y, Int.shiftRight_eq_div_pow] at h2
  congr 1
  have c : k = 0 ∨ k = 8 ∨ k = 16 ∨ k = 24 := by omega
  generalize (jshr y (8 * nI j)).toBitVec.toNat = b at *
  generalize y.toBitVec.toNat = a at *
  rcases c with rfl | rfl | rfl | rfl <;> (split at h2 <;> split at h2 <;> omega)
theorem fb_in (x : Int32) : In (x &&& 255) 255 := by
  obtain ⟨a, ha, e⟩ := pk_andE x (m := 255) 8 (by decide)
  exact ⟨a, by omega, e⟩
def yD (k i : Nat) : Int32 := if i < k then nI (k - 1 - i) else -1
theorem yD_step {k i : Nat} (h : i < k) : yD k i + (-1) = yD k (i + 1) := by
  unfold yD
  rw [if_pos h]
  by_cases e : i + 1 < k
  · rw [if_pos e, show k - 1 - i = (k - 1 - (i + 1)) + 1 by omega, pk_m1]
  · rw [if_neg e, show k - 1 - i = 0 by omega]
    decide
theorem yD_end (k : Nat) : yD k k = -1 := by unfold yD; rw [if_neg (by omega)]
theorem yD_at {k i : Nat} (h : i < k) : yD k i = nI (k - 1 - i) := by unfold yD; rw [if_pos h]
theorem Inv.tape {n : Nat} {σ σ2 : Sg} (h : Inv n σ) (hs : ∀ k, k ≠ 37 → k ≠ 38 → k ≠ 49 → k ≠ 55 → σ2 k = σ k) (h49 : σ2 49 4 = σ 49 4) (hT : Ta σ2) : Inv (n + 1) σ2 := by
  have g : Inv n σ2 := ⟨h.1.same (fun k a b => hs k (by omega) (by omega) (by omega) (by omega)) (hs 50 (by omega) (by omega) (by omega) (by omega)), h.2.1.same (by rw [hs 0 (by omega) (by omega) (by omega) (by omega)]) (fun k a b => hs k (by omega) (by omega) (by omega) (by omega)) (hs 51 (by omega) (by omega) (by omega) (by omega)) h49, h.2.2.1.same (hs 48 (by omega) (by omega) (by omega) (by omega)) (hs 54 (by omega) (by omega) (by omega) (by omega)), hT, fun k hk => (h.2.2.2.2 k hk).same (hs _ (by omega) (by omega) (by omega) (by omega)) (hs _ (by omega) (by omega) (by omega) (by omega)) (hs 56 (by omega) (by omega) (by omega) (by omega)) (hs 57 (by omega) (by omega) (by omega) (by omega)) (hs 58 (by omega) (by omega) (by omega) (by omega))⟩
  exact g.mono (by omega)
theorem cfeed {t k : Nat} {y : Int32} {σ : Sg} (hk : k ≤ 4) (htk : t + k ≤ 120) (h37 : σ 37 1 = nI t) : ∃ σ', f_X4_feed_L41 y FU (yD k 0) σ = some (nI (t + k), σ') ∧ (∀ c, c ≠ 37 → c ≠ 38 → σ' c = σ c) ∧ σ' 37 1 = nI (t + k) ∧ (∀ j, j < t → σ' 38 j = σ 38 j) ∧ ∀ j, j < k → σ' 38 (t + j) = jshr y (8 * nI (k - 1 - j)) &&& 255 := by
  have key := loop_up (P := fun f i => ∀ ρ : Sg, (∀ c, c ≠ 37 → c ≠ 38 → ρ c = σ c) → ρ 37 1 = nI (t + i) → (∀ j, j < t → ρ 38 j = σ 38 j) → (∀ j, j < i → ρ 38 (t + j) = jshr y (8 * nI (k - 1 - j)) &&& 255) → i ≤ k → ∃ σ', f_X4_feed_L41 y f (yD k i) ρ = some (nI (t + k), σ') ∧ (∀ c, c ≠ 37 → c ≠ 38 → σ' c = σ c) ∧ σ' 37 1 = nI (t + k) ∧ (∀ j, j < t → σ' 38 j = σ 38 j) ∧ ∀ j, j < k → σ' 38 (t + j) = jshr y (8 * nI (k - 1 - j)) &&& 255) k
    (fun f ρ a b c e _ => by
      refine ⟨ρ, ?_, a, b, c, e⟩
      rw [f_X4_feed_L41, yD_end, if_pos neg1_lt0, b])
    (fun f i hi ih ρ a b c e _ => by
      rw [f_X4_feed_L41, yD_step hi, yD_at hi, if_neg (nI_nn (by omega)), fb_eq y (by omega), f_X2_append, b, if_neg (show ¬ (120 : Int32) ≤ nI (t + i) from nle (n := 120) (by omega) (by omega)), chk_nI (by omega) (by omega), cl_nI (by omega), lt_s1, up2_ne _ _ (show 37 ≠ 38 by omega), b, nI_1, lt_s1, ob1_s]
      refine ih _ (fun q h1 h2 => ?_) ?_ (fun j hj => ?_) (fun j hj => ?_) (by omega)
      · rw [up2_ne _ _ h1, up2_ne _ _ h2]; exact a q h1 h2
      · rw [up2_at]; rfl
      · rw [up2_ne _ _ (by omega), up2_an _ _ (by omega)]; exact c j hj
      · rw [up2_ne _ _ (by omega)]
        by_cases q : j = i
        · subst q; rw [up2_at]
        · rw [up2_an _ _ (by omega)]; exact e j (by omega))
  exact key FU 0 (Nat.zero_le k) (by rw [FU_eq]; omega) σ (fun _ _ _ => rfl) h37 (fun _ _ => rfl) (fun j hj => by omega) (Nat.zero_le k)
theorem mfeed {t k : Nat} {y : Int32} {σ : Sg} (hk : k ≤ 4) (htk : t + k ≤ 120) (h49 : σ 49 7 = nI t) : ∃ σ', f_X5_feed_L41 y FU (yD k 0) σ = some (nI (t + k), σ') ∧ (∀ c, c ≠ 49 → c ≠ 55 → σ' c = σ c) ∧ σ' 49 4 = σ 49 4 ∧ σ' 49 7 = nI (t + k) ∧ (∀ j, j < t → σ' 55 j = σ 55 j) ∧ ∀ j, j < k → σ' 55 (t + j) = jshr y (8 * nI (k - 1 - j)) &&& 255 := by
  have key := loop_up (P := fun f i => ∀ ρ : Sg, (∀ c, c ≠ 49 → c ≠ 55 → ρ c = σ c) → ρ 49 4 = σ 49 4 → ρ 49 7 = nI (t + i) → (∀ j, j < t → ρ 55 j = σ 55 j) → (∀ j, j < i → ρ 55 (t + j) = jshr y (8 * nI (k - 1 - j)) &&& 255) → i ≤ k → ∃ σ', f_X5_feed_L41 y f (yD k i) ρ = some (nI (t + k), σ') ∧ (∀ c, c ≠ 49 → c ≠ 55 → σ' c = σ c) ∧ σ' 49 4 = σ 49 4 ∧ σ' 49 7 = nI (t + k) ∧ (∀ j, j < t → σ' 55 j = σ 55 j) ∧ ∀ j, j < k → σ' 55 (t + j) = jshr y (8 * nI (k - 1 - j)) &&& 255) k
    (fun f ρ a a4 b c e _ => by
      refine ⟨ρ, ?_, a, a4, b, c, e⟩
      rw [f_X5_feed_L41, yD_end, if_pos neg1_lt0, b])
    (fun f i hi ih ρ a a4 b c e _ => by
      rw [f_X5_feed_L41, yD_step hi, yD_at hi, if_neg (nI_nn (by omega)), b, chk_nI (by omega) (by omega), cl_nI (by omega), lt_s1, up2_ne _ _ (show 49 ≠ 55 by omega), b, nI_1, lt_s1]
      refine ih _ (fun q h1 h2 => ?_) ?_ ?_ (fun j hj => ?_) (fun j hj => ?_) (by omega)
      · rw [up2_ne _ _ h1, up2_ne _ _ h2]; exact a q h1 h2
      · rw [up2_an _ _ (by omega), up2_ne _ _ (by omega)]; exact a4
      · rw [up2_at]; rfl
      · rw [up2_ne _ _ (by omega), up2_an _ _ (by omega)]; exact c j hj
      · rw [up2_ne _ _ (by omega)]
        by_cases q : j = i
        · subst q; rw [up2_at]
        · rw [up2_an _ _ (by omega)]; exact e j (by omega))
  exact key FU 0 (Nat.zero_le k) (by rw [FU_eq]; omega) σ (fun _ _ _ => rfl) rfl h49 (fun _ _ => rfl) (fun j hj => by omega) (Nat.zero_le k)
theorem op_feed {n : Nat} {σ : Sg} (h : Inv n σ) (y x : Int32) : Step n σ (f_X4_feed y x) (f_X5_feed y x) := by
  have c1 : ∀ τ, f_X4_within x 1 4 τ = some (if 1 ≤ x.toInt ∧ x.toInt ≤ 4 then 1 else 0) := fun τ => wC (by decide) (by decide) τ
  have m1 : ∀ τ, f_X5_isIn x.toInt64 1 4 τ = some (if 1 ≤ x.toInt ∧ x.toInt ≤ 4 then 1 else 0) := fun τ => wM (by decide) (by decide) τ
  obtain ⟨e49, t, ht, e37, hT⟩ := id h.2.2.2.1
  by_cases h1 : 1 ≤ x.toInt ∧ x.toInt ≤ 4
  · obtain ⟨k, hk, rfl⟩ := nn_of (x := x) (b := 4) ⟨by omega, h1.2⟩
    have hk1 : 1 ≤ k := by
      have := h1.1
      rw [nI_toInt (by omega)] at this
      omega
    have ek : nI k - 1 = yD k 0 := by
      rw [show (1 : Int32) = nI 1 from rfl, pk_sub hk1, yD_at (by omega)]; rfl
    by_cases h2 : t + k ≤ 120
    · obtain ⟨σ1, e1, a, b, c, e⟩ := cfeed (y := y) hk h2 e37
      obtain ⟨σ2, e2, a', a4', b', c', e'⟩ := mfeed (σ := σ1) (y := y) (t := t) (k := k) hk h2 (by rw [a 49 (by omega) (by omega), ← e49]; exact e37)
      refine ⟨nI (t + k), σ1, σ2, ?_, ?_, ?_⟩
      · rw [f_X4_feed, c1, if_pos h1, ob0_s, if_neg one_ne0, e37, nI_add, if_pos (show nI (t + k) ≤ 120 from nI_le (b := 120) h2 (by omega)), ek, e1]
      · rw [f_X5_feed, m1, if_pos h1, ob0_s, if_neg one_ne0, a 49 (by omega) (by omega), ← e49, e37, nI_add, if_pos (show nI (t + k) ≤ 120 from nI_le (b := 120) h2 (by omega)), ek, e2]
      · refine h.tape (fun q g1 g2 g3 g4 => by rw [a' q g3 g4, a q g1 g2]) (by rw [a4', a 49 (by omega) (by omega)]) ⟨?_, t + k, h2, ?_, fun i hi => ?_⟩
        · rw [a' 37 (by omega) (by omega), b, b']
        · rw [a' 37 (by omega) (by omega), b]
        · rw [a' 38 (by omega) (by omega)]
          by_cases q : i < t
          · rw [c i q, c' i q, a 55 (by omega) (by omega)]; exact hT i q
          · obtain ⟨j, rfl⟩ : ∃ j, i = t + j := ⟨i - t, by omega⟩
            rw [e j (by omega), e' j (by omega)]
            exact ⟨rfl, fb_in _⟩
    · refine Step.find0 (j := 1) (r := -1000002) h (by omega) ?_ ?_
      · rw [f_X4_feed, c1, if_pos h1, ob0_s, if_neg one_ne0, e37, nI_add, if_neg (show ¬ nI (t + k) ≤ 120 from nle (i := 120) (by omega) (by omega)), cfd1, ob2_s]
      · rw [f_X5_feed, m1, if_pos h1, ob0_s, if_neg one_ne0, fdC_o (show 49 ≠ 48 by omega), ← e49, e37, nI_add, if_neg (show ¬ nI (t + k) ≤ 120 from nle (i := 120) (by omega) (by omega)), mfd1, ob2_s]
  · refine Step.bey h ?_ ?_
    · rw [f_X4_feed, c1, if_neg h1, ob0_s, if_pos rfl, cfd0, ob2_s]
    · rw [f_X5_feed, m1, if_neg h1, ob0_s, if_pos rfl, mfd0, ob2_s]
/-! the sheets -/
theorem Inv.sheets {n : Nat} {σ σ2 : Sg} (h : Inv n σ) (hs : ∀ k, k < 40 ∨ 48 ≤ k → k ≠ 56 → k ≠ 57 → k ≠ 58 → σ2 k = σ k) (hS : ∀ k, k < 4 → Sk σ2 k) : Inv (n + 1) σ2 := by
  have g : Inv n σ2 := ⟨h.1.same (fun k a b => hs k (by omega) (by omega) (by omega) (by omega)) (hs 50 (by omega) (by omega) (by omega) (by omega)), h.2.1.same (by rw [hs 0 (by omega) (by omega) (by omega) (by omega)]) (fun k a b => hs k (by omega) (by omega) (by omega) (by omega)) (hs 51 (by omega) (by omega) (by omega) (by omega)) (by rw [hs 49 (by omega) (by omega) (by omega) (by omega)]), h.2.2.1.same (hs 48 (by omega) (by omega) (by omega) (by omega)) (hs 54 (by omega) (by omega) (by omega) (by omega)), h.2.2.2.1.same (by rw [hs 37 (by omega) (by omega) (by omega) (by omega)]) (hs 38 (by omega) (by omega) (by omega) (by omega)) (by rw [hs 49 (by omega) (by omega) (by omega) (by omega)]) (hs 55 (by omega) (by omega) (by omega) (by omega)), hS⟩
  exact g.mono (by omega)
theorem clay {k : Nat} {b m : Int32} {σ : Sg} (hk : k < 4) : ∃ σ', f_X3_lay (40 + k) b m σ = some σ' ∧ (∀ c, c ≠ 40 + k → c ≠ 44 + k → σ' c = σ c) ∧ σ' (40 + k) 1 = b ∧ σ' (40 + k) 2 = m ∧ ∀ j, j < 40 → σ' (44 + k) j = 0 := by
  have e44 : 40 + k + 4 = 44 + k := by omega
  have key := loop_up (P := fun f i => ∀ ρ : Sg, (∀ c, c ≠ 40 + k → c ≠ 44 + k → ρ c = σ c) → ρ (40 + k) 1 = b → ρ (40 + k) 2 = m → (∀ j, j < i → ρ (44 + k) j = 0) → ∃ σ', f_X3_lay_L12 (40 + k) f (nI i) ρ = some σ' ∧ (∀ c, c ≠ 40 + k → c ≠ 44 + k → σ' c = σ c) ∧ σ' (40 + k) 1 = b ∧ σ' (40 + k) 2 = m ∧ ∀ j, j < 40 → σ' (44 + k) j = 0) 40
    (fun f ρ a b' c e => ⟨ρ, by rw [f_X3_lay_L12, if_pos (by decide)], a, b', c, e⟩)
    (fun f i hi ih ρ a b' c e => by
      rw [f_X3_lay_L12, if_neg (show ¬ (40 : Int32) ≤ nI i from nle (n := 40) hi (by omega)), chk_nI (by omega) (by omega), cl_nI (by omega), lt_s1, nI_1, e44]
      refine ih _ (fun q h1 h2 => ?_) ?_ ?_ (fun j hj => ?_)
      · rw [up2_ne _ _ h2]; exact a q h1 h2
      · rw [up2_ne _ _ (by omega)]; exact b'
      · rw [up2_ne _ _ (by omega)]; exact c
      · by_cases q : j = i
        · subst q; rw [up2_at]
        · rw [up2_an _ _ (by omega)]; exact e j (by omega))
  have := key FU 0 (by omega) (by rw [FU_eq]; omega) (up2 (up2 σ (40 + k) 1 b) (40 + k) 2 m) (fun c h1 h2 => by rw [up2_ne _ _ h1, up2_ne _ _ h1]) (by rw [up2_an _ _ (by omega), up2_at]) (by rw [up2_at]) (fun j hj => by omega)
  rw [f_X3_lay, lt_s1, lt_s1]
  exact this
theorem mlay {k : Nat} {σ : Sg} (hk : k < 4) : ∃ σ', f_X5_sheet_L94 (nI k) FU 0 σ = some (σ 57 k, σ') ∧ (∀ c, c ≠ 58 → σ' c = σ c) ∧ (∀ j, j < 40 → σ' 58 (40 * k + j) = 0) ∧ ∀ j, (j < 40 * k ∨ 40 * k + 40 ≤ j) → σ' 58 j = σ 58 j := by
  have key := loop_up (P := fun f i => ∀ ρ : Sg, (∀ c, c ≠ 58 → ρ c = σ c) → (∀ j, j < i → ρ 58 (40 * k + j) = 0) → (∀ j, (j < 40 * k ∨ 40 * k + 40 ≤ j) → ρ 58 j = σ 58 j) → ∃ σ', f_X5_sheet_L94 (nI k) f (nI i) ρ = some (σ 57 k, σ') ∧ (∀ c, c ≠ 58 → σ' c = σ c) ∧ (∀ j, j < 40 → σ' 58 (40 * k + j) = 0) ∧ ∀ j, (j < 40 * k ∨ 40 * k + 40 ≤ j) → σ' 58 j = σ 58 j) 40
    (fun f ρ a b c => ⟨ρ, by rw [f_X5_sheet_L94, if_pos (by decide), chk_nI (by omega) (by omega), cl_nI (by omega), a 57 (by omega)], a, b, c⟩)
    (fun f i hi ih ρ a b c => by
      rw [f_X5_sheet_L94, if_neg (show ¬ (40 : Int32) ≤ nI i from nle (n := 40) hi (by omega)), ix40, chk_nI (by omega) (by omega), cl_nI (by omega), lt_s1, nI_1]
      refine ih _ (fun q h1 => ?_) (fun j hj => ?_) (fun j hj => ?_)
      · rw [up2_ne _ _ h1]; exact a q h1
      · by_cases q : j = i
        · subst q; rw [up2_at]
        · rw [up2_an _ _ (by omega)]; exact b j (by omega)
      · rw [up2_an _ _ (by omega)]; exact c j hj)
  exact key FU 0 (by omega) (by rw [FU_eq]; omega) σ (fun _ _ => rfl) (fun j hj => by omega) (fun _ _ => rfl)
theorem lay_st {n k m : Nat} {b b' : Int32} {σ : Sg} (h : Inv n σ) (hk : k < 4) (hm : m ≤ 40) (hb : (b = 0 ∧ b' = -1) ∨ (b = b' ∧ (b' = 8 ∨ b' = 16 ∨ b' = 32))) : ∃ σ1 σ2, f_X3_lay (40 + k) b (nI m) σ = some σ1 ∧ σ1 (40 + k) 2 = nI m ∧ f_X5_sheet_L94 (nI k) FU 0 (up2 (up2 σ1 56 k b') 57 k (nI m)) = some (nI m, σ2) ∧ Inv (n + 1) σ2 := by
  obtain ⟨σ1, e1, a, a1, a2, a3⟩ := clay (b := b) (m := nI m) (σ := σ) hk
  obtain ⟨σ2, e2, d1, d2, d3⟩ := mlay (σ := up2 (up2 σ1 56 k b') 57 k (nI m)) hk
  rw [up2_at] at e2
  refine ⟨σ1, σ2, e1, a2, e2, h.sheets (fun q g1 g2 g3 g4 => by rw [d1 q g4, up2_ne _ _ g3, up2_ne _ _ g2, a q (by omega) (by omega)]) (fun q hq => ?_)⟩
  by_cases e : q = k
  · subst e
    refine ⟨⟨m, hm, ?_, ?_⟩, ?_, fun i hi => ?_⟩
    · rw [d1 _ (by omega), up2_ne _ _ (by omega), up2_ne _ _ (by omega), a2]
    · rw [d1 _ (by omega), up2_at]
    · rw [d1 _ (by omega), d1 56 (by omega), up2_ne _ _ (by omega), up2_ne _ _ (by omega), up2_ne _ _ (show 56 ≠ 57 by omega), up2_at, a1]
      exact hb
    · rw [d1 _ (by omega), up2_ne _ _ (by omega), up2_ne _ _ (by omega), a3 i hi, d2 i hi]
  · obtain ⟨⟨m', g1, g2, g3⟩, g4, g5⟩ := h.2.2.2.2 q hq
    refine ⟨⟨m', g1, ?_, ?_⟩, ?_, fun i hi => ?_⟩
    · rw [d1 _ (by omega), up2_ne _ _ (by omega), up2_ne _ _ (by omega), a _ (by omega) (by omega)]; exact g2
    · rw [d1 _ (by omega), up2_an _ _ (by omega), up2_ne _ _ (by omega), a _ (by omega) (by omega)]; exact g3
    · rw [d1 _ (by omega), d1 56 (by omega), up2_ne _ _ (by omega), up2_ne _ _ (by omega), up2_ne _ _ (show 56 ≠ 57 by omega), up2_an _ _ (by omega), a _ (by omega) (by omega), a 56 (by omega) (by omega)]
      exact g4
    · rw [d1 _ (by omega), up2_ne _ _ (by omega), up2_ne _ _ (by omega), a _ (by omega) (by omega), d3 _ (by omega), up2_ne _ _ (by omega), up2_ne _ _ (by omega), a 58 (by omega) (by omega)]
      exact g5 i hi
theorem op_sheet {n : Nat} {σ : Sg} (h : Inv n σ) (x y z : Int32) : Step n σ (f_X4_sheet x y z) (f_X5_sheet x y z) := by
  have c1 : ∀ τ, f_X4_within x 0 3 τ = some (if 0 ≤ x.toInt ∧ x.toInt ≤ 3 then 1 else 0) := fun τ => wC (by decide) (by decide) τ
  by_cases h1 : 0 ≤ x.toInt ∧ x.toInt ≤ 3
  · obtain ⟨k, hk, rfl⟩ := nn_of (b := 3) h1
    by_cases hy : y = 0 ∨ y = 8 ∨ y = 16 ∨ y = 32
    · by_cases h2 : 0 ≤ z
      · by_cases h3 : z ≤ 40
        · obtain ⟨m, hm, rfl⟩ := nn_of (x := z) (b := 40) (by
            rw [Int32.le_iff_toInt_le] at h2 h3
            exact ⟨by simpa using h2, by simpa using h3⟩)
          rcases hy with rfl | hy
          · obtain ⟨σ1, σ2, e1, e2, e3, hI⟩ := lay_st (b := 0) (b' := -1) (m := 0) h (show k < 4 by omega) (by omega) (Or.inl ⟨rfl, rfl⟩)
            refine ⟨nI 0, σ1, σ2, ?_, ?_, hI⟩
            · rw [f_X4_sheet, c1, if_pos h1, ob0_s, if_neg one_ne0, if_pos rfl, if_pos h2, if_pos h3, chk_nI (by omega) (by omega), cl_nI (by omega), show f_X3_lay (40 + k) 0 0 σ = some σ1 from e1, ob1_s, e2]
            · rw [f_X5_sheet, shM, if_pos h1, ob0_s, if_neg one_ne0, if_pos rfl, if_pos h2, if_pos h3, chk_nI (by omega) (by omega), cl_nI (by omega), lt_s1, lt_s1]
              exact e3
          · obtain ⟨σ1, σ2, e1, e2, e3, hI⟩ := lay_st (b := y) (b' := y) (m := m) h (show k < 4 by omega) (by omega) (Or.inr ⟨rfl, hy⟩)
            have y0 : ¬ y = 0 := by rcases hy with rfl | rfl | rfl <;> decide
            refine ⟨nI m, σ1, σ2, ?_, ?_, hI⟩
            · rw [f_X4_sheet, c1, if_pos h1, ob0_s, if_neg one_ne0, if_neg y0, if_pos h2, if_pos h3, chk_nI (by omega) (by omega), cl_nI (by omega), e1, ob1_s, e2]
              rcases hy with rfl | rfl | rfl <;> rfl
            · rw [f_X5_sheet, shM, if_pos h1, ob0_s, if_neg one_ne0, if_neg y0, if_pos h2, if_pos h3, chk_nI (by omega) (by omega), cl_nI (by omega), lt_s1, lt_s1, e3]
              rcases hy with rfl | rfl | rfl
              · rw [if_pos rfl]
              · rw [if_neg (by decide), if_pos rfl]
              · rw [if_neg (by decide), if_neg (by decide), if_pos rfl]
        · refine Step.bey h ?_ ?_
          · simp only [f_X4_sheet, c1, if_pos h1, ob0_s, if_neg one_ne0, if_pos h2, if_neg h3, cfd0, ob2_s]
            rcases hy with rfl | rfl | rfl | rfl <;> rfl
          · simp only [f_X5_sheet, shM, if_pos h1, ob0_s, if_neg one_ne0, if_pos h2, if_neg h3, mfd0, ob2_s]
            rcases hy with rfl | rfl | rfl | rfl <;> rfl
      · refine Step.find0 (j := 6) (r := -1000007) h (by omega) ?_ ?_
        · simp only [f_X4_sheet, c1, if_pos h1, ob0_s, if_neg one_ne0, if_neg h2, cfd6, ob2_s]
          rcases hy with rfl | rfl | rfl | rfl <;> rfl
        · simp only [f_X5_sheet, shM, if_pos h1, ob0_s, if_neg one_ne0, if_neg h2, mfd6, ob2_s]
          rcases hy with rfl | rfl | rfl | rfl <;> rfl
    · have y0 : ¬ y = 0 := fun e => hy (Or.inl e)
      have y1 : ¬ y = 8 := fun e => hy (Or.inr (Or.inl e))
      have y2 : ¬ y = 16 := fun e => hy (Or.inr (Or.inr (Or.inl e)))
      have y3 : ¬ y = 32 := fun e => hy (Or.inr (Or.inr (Or.inr e)))
      refine Step.bey h ?_ ?_
      · rw [f_X4_sheet, c1, if_pos h1, ob0_s, if_neg one_ne0, if_neg y0, if_neg y1, if_neg y2, if_neg y3, cfd0, ob2_s]
      · rw [f_X5_sheet, shM, if_pos h1, ob0_s, if_neg one_ne0, if_neg y0, if_neg y1, if_neg y2, if_neg y3, mfd0, ob2_s]
  · refine Step.bey h ?_ ?_
    · rw [f_X4_sheet, c1, if_neg h1, ob0_s, if_pos rfl, cfd0, ob2_s]
    · rw [f_X5_sheet, shM, if_neg h1, ob0_s, if_pos rfl, mfd0, ob2_s]
/-! write, load, judge -/
theorem sx8 (x : Int32) : jshr (jshl x 24) 24 = x.toInt8.toInt32 := by
  apply Int32.toInt_inj.mp
  have h1 : (jshl x 24).toBitVec.toNat = x.toBitVec.toNat * 2 ^ 24 % 2 ^ 32 := pk_shl x _ 24 (by decide)
  have h2 : (jshr (jshl x 24) 24).toInt = (jshl x 24).toInt >>> 24 := pk_shr _ _ 24 (by decide)
  have hx : x.toBitVec.toNat < 2 ^ 32 := x.toBitVec.isLt
  rw [h2, Int8.toInt_toInt32, Int32.toInt_toInt8, tI_cond, tI_cond x, h1, Int.shiftRight_eq_div_pow, Int.bmod_def]
  generalize x.toBitVec.toNat = a at *
  split <;> split <;> split <;> omega
theorem sx16 (x : Int32) : jshr (jshl x 16) 16 = x.toInt16.toInt32 := by
  apply Int32.toInt_inj.mp
  have h1 : (jshl x 16).toBitVec.toNat = x.toBitVec.toNat * 2 ^ 16 % 2 ^ 32 := pk_shl x _ 16 (by decide)
  have h2 : (jshr (jshl x 16) 16).toInt = (jshl x 16).toInt >>> 16 := pk_shr _ _ 16 (by decide)
  have hx : x.toBitVec.toNat < 2 ^ 32 := x.toBitVec.isLt
  rw [h2, Int16.toInt_toInt32, Int32.toInt_toInt16, tI_cond, tI_cond x, h1, Int.shiftRight_eq_div_pow, Int.bmod_def]
  generalize x.toBitVec.toNat = a at *
  split <;> split <;> split <;> omega
theorem sx32 (x : Int32) : jshr (jshl x 0) 0 = x := by
  apply Int32.toInt_inj.mp
  have h1 : (jshl x 0).toBitVec.toNat = x.toBitVec.toNat * 2 ^ 0 % 2 ^ 32 := pk_shl x _ 0 (by decide)
  have h2 : (jshr (jshl x 0) 0).toInt = (jshl x 0).toInt >>> 0 := pk_shr _ _ 0 (by decide)
  have hx : x.toBitVec.toNat < 2 ^ 32 := x.toBitVec.isLt
  rw [h2, tI_cond, tI_cond x, h1, Int.shiftRight_eq_div_pow]
  generalize x.toBitVec.toNat = a at *
  split <;> split <;> omega
theorem wr_st {n k i : Nat} {v : Int32} {σ : Sg} (h : Inv n σ) (hk : k < 4) (hi : i < 40) : Inv (n + 1) (up2 (up2 σ (44 + k) i v) 58 (40 * k + i) v) := by
  refine h.sheets (fun q g1 g2 g3 g4 => by rw [up2_ne _ _ g4, up2_ne _ _ (by omega)]) (fun q hq => ?_)
  obtain ⟨⟨m', g1, g2, g3⟩, g4, g5⟩ := h.2.2.2.2 q hq
  refine ⟨⟨m', g1, ?_, ?_⟩, ?_, fun j hj => ?_⟩
  · rw [up2_ne _ _ (by omega), up2_ne _ _ (by omega)]; exact g2
  · rw [up2_ne _ _ (by omega), up2_ne _ _ (by omega)]; exact g3
  · rw [up2_ne _ _ (by omega), up2_ne _ _ (by omega), up2_ne _ _ (by omega), up2_ne _ _ (by omega)]; exact g4
  · rw [up2_ne _ _ (by omega)]
    by_cases e : q = k
    · subst e
      by_cases e2 : j = i
      · subst e2
        rw [up2_at, up2_at]
      · rw [up2_an _ _ e2, up2_an _ _ (by omega), up2_ne _ _ (by omega)]; exact g5 j hj
    · rw [up2_ne _ _ (by omega), up2_an _ _ (by omega), up2_ne _ _ (by omega)]; exact g5 j hj
theorem op_write {n : Nat} {σ : Sg} (h : Inv n σ) (x y z : Int32) : Step n σ (f_X4_write x y z) (f_X5_write x y z) := by
  have eo : ∀ c, c ≠ 48 → fdC σ 0 c = σ c := fun c hc => fdC_o hc
  have c1 : ∀ τ, f_X4_within x 0 3 τ = some (if 0 ≤ x.toInt ∧ x.toInt ≤ 3 then 1 else 0) := fun τ => wC (by decide) (by decide) τ
  by_cases h1 : 0 ≤ x.toInt ∧ x.toInt ≤ 3
  · obtain ⟨k, hk, rfl⟩ := nn_of (b := 3) h1
    obtain ⟨⟨m, hm, e1, e2⟩, hb, hu⟩ := h.2.2.2.2 k (by omega)
    rcases hb with ⟨b1, b2⟩ | ⟨b1, b2⟩
    · have a : f_X4_sheetFinding (nI k) σ = some (-1000006) := by
        rw [f_X4_sheetFinding, c1, if_pos h1, ob0_s, if_neg one_ne0, chk_nI (by omega) (by omega), cl_nI (by omega), f_X3_isMissing, if_pos b1, ob0_s, if_neg one_ne0]
      refine Step.find0 (j := 5) (r := -1000006) h (by omega) ?_ ?_
      · rw [f_X4_write, a, ob0_s, if_neg (by decide), cfd5, ob2_s]
      · rw [f_X5_write, shM, if_pos h1, ob0_s, if_neg one_ne0, chk_nI (by omega) (by omega), cl_nI (by omega), fdC_o (show 56 ≠ 48 by omega), b2, if_neg (by decide), mfd5, ob2_s]
    · have a : f_X4_sheetFinding (nI k) σ = some 0 := by
        rw [f_X4_sheetFinding, c1, if_pos h1, ob0_s, if_neg one_ne0, chk_nI (by omega) (by omega), cl_nI (by omega), f_X3_isMissing, b1]
        rcases b2 with b2 | b2 | b2 <;> rw [b2] <;> decide
      have p56 : (0 : Int32) ≤ σ 56 k := by rcases b2 with b2 | b2 | b2 <;> rw [b2] <;> decide
      have em : (nI m - 1).toInt = (m : Int) - 1 := pk_sub_toInt (b := 1) (by omega) (by omega)
      have c2 : ∀ τ, f_X4_within y 0 (nI m - 1) τ = some (if 0 ≤ y.toInt ∧ y.toInt ≤ (m : Int) - 1 then 1 else 0) := fun τ => wC (by decide) em τ
      have m2 : ∀ τ, f_X5_isIn y.toInt64 0 (nI m - 1).toInt64 τ = some (if 0 ≤ y.toInt ∧ y.toInt ≤ (m : Int) - 1 then 1 else 0) := fun τ => wM (by decide) (by rw [Int32.toInt_toInt64]; exact em) τ
      by_cases h2 : 0 ≤ y.toInt ∧ y.toInt ≤ (m : Int) - 1
      · obtain ⟨i, hi, rfl⟩ := nn_lt (x := y) (b := m) ⟨h2.1, by omega⟩
        have e44 : 40 + k + 4 = 44 + k := by omega
        have eC : ∀ v, jshr (jshl z (32 - σ (40 + k) 1)) (32 - σ (40 + k) 1) = v → f_X4_write (nI k) (nI i) z σ = some (1, up2 σ (44 + k) i v) := fun v hv => by
          rw [f_X4_write, a, ob0_s, if_pos (by decide), chk_nI (by omega) (by omega), cl_nI (show k < 2 ^ 31 by omega), e1, c2, if_pos h2, ob0_s, if_neg one_ne0, f_X3_put, chk_nI (by omega) (by omega), cl_nI (show i < 2 ^ 31 by omega), hv, lt_s1, ob1_s, e44]
        have eM : ∀ v, f_X5_write (nI k) (nI i) z (up2 σ (44 + k) i v) = (if σ 56 k = 8 then some (1, up2 (up2 σ (44 + k) i v) 58 (40 * k + i) z.toInt8.toInt32) else if σ 56 k = 16 then some (1, up2 (up2 σ (44 + k) i v) 58 (40 * k + i) z.toInt16.toInt32) else some (1, up2 (up2 σ (44 + k) i v) 58 (40 * k + i) z)) := fun v => by
          rw [f_X5_write, shM, if_pos h1, ob0_s, if_neg one_ne0, chk_nI (by omega) (by omega), cl_nI (show k < 2 ^ 31 by omega), up2_ne _ _ (show 56 ≠ 44 + k by omega), up2_ne _ _ (show 57 ≠ 44 + k by omega), if_pos p56, e2, m2, if_pos h2, ob0_s, if_neg one_ne0, ix40, chk_nI (by omega) (by omega), cl_nI (show 40 * k + i < 2 ^ 31 by omega), lt_s1, lt_s1, lt_s1, chk_nI (by omega) (by omega), chk_nI (by omega) (by omega)]
        rcases b2 with b2 | b2 | b2
        · refine ⟨1, _, _, eC z.toInt8.toInt32 (by rw [b1, b2]; exact sx8 z), ?_, wr_st (v := z.toInt8.toInt32) h (show k < 4 by omega) (show i < 40 by omega)⟩
          rw [eM, if_pos b2]
        · refine ⟨1, _, _, eC z.toInt16.toInt32 (by rw [b1, b2]; exact sx16 z), ?_, wr_st (v := z.toInt16.toInt32) h (show k < 4 by omega) (show i < 40 by omega)⟩
          rw [eM, if_neg (by rw [b2]; decide), if_pos b2]
        · refine ⟨1, _, _, eC z (by rw [b1, b2]; exact sx32 z), ?_, wr_st (v := z) h (show k < 4 by omega) (show i < 40 by omega)⟩
          rw [eM, if_neg (by rw [b2]; decide), if_neg (by rw [b2]; decide)]
      · refine Step.bey h ?_ ?_
        · rw [f_X4_write, a, ob0_s, if_pos (by decide), chk_nI (by omega) (by omega), cl_nI (by omega), e1, c2, if_neg h2, ob0_s, if_pos rfl, cfd0, ob2_s]
        · rw [f_X5_write, shM, if_pos h1, ob0_s, if_neg one_ne0, chk_nI (by omega) (by omega), cl_nI (by omega), eo 56 (by omega), eo 57 (by omega), if_pos p56, e2, m2, if_neg h2, ob0_s, if_pos rfl, mfd0, ob2_s]
  · refine Step.bey h ?_ ?_
    · rw [f_X4_write, f_X4_sheetFinding, c1, if_neg h1, ob0_s, if_pos rfl, ob0_s, if_neg (by decide), cfd0, ob2_s]
    · rw [f_X5_write, shM, if_neg h1, ob0_s, if_pos rfl, mfd0, ob2_s]
theorem op_judge {n : Nat} {σ : Sg} (h : Inv n σ) (x : Int32) : Step n σ (f_X4_judge x) (f_X5_judge x) := by
  obtain ⟨⟨N, d, ok, hd, cr⟩, hz⟩ := id h.1
  have hN := ok.1
  rcases sfind h.2.2.2.2 x with ⟨a, b⟩ | ⟨a, b⟩ | ⟨k, m, hk, rfl, hm, e1, e2, -, -, a, b⟩
  · refine Step.bey h ?_ ?_
    · rw [f_X4_judge, a, ob0_s, if_neg (by decide), cfd0, ob2_s]
    · rw [f_X5_judge, b _ (fdC_o (by omega)), ob0_s, if_neg (by decide), ob0_s, mfd0, ob2_s]
  · refine Step.find0 (j := 5) (r := -1000006) h (by omega) ?_ ?_
    · rw [f_X4_judge, a, ob0_s, if_neg (by decide), cfd5, ob2_s]
    · rw [f_X5_judge, b _ (fdC_o (by omega)), ob0_s, if_neg (by decide), ob0_s, mfd5, ob2_s]
  · have hu := (h.2.2.2.2 k hk).2.2
    have e44 : 40 + k + 4 = 44 + k := by omega
    have key := loop_up (P := fun f i => i ≤ m → ∃ r, f_X4_judge_L26 (40 + k) f (nI i) σ = some (r, σ) ∧ f_X5_judge_L20 (nI k) f (nI i) σ = some (r, σ)) m
      (fun f _ => ⟨0, by rw [f_X4_judge_L26, e1, if_pos (nI_le (Nat.le_refl m) (by omega))], by rw [f_X5_judge_L20, chk_nI (by omega) (by omega), cl_nI (by omega), e2, if_pos (nI_le (Nat.le_refl m) (by omega))]⟩)
      (fun f i hi ih _ => by
        rw [f_X4_judge_L26, e1, if_neg (nle hi (by omega)), hasC hN (cr.1.trans ok.2.1), ob0_s, f_X5_judge_L20, chk_nI (show k < 4 by omega) (by omega), cl_nI (show k < 2 ^ 31 by omega), e2, if_neg (nle hi (by omega)), oneM hN ok.2.1, ob0_s]
        by_cases h1 : 0 ≤ (nI i).toInt ∧ (nI i).toInt < (N : Int)
        · have hiN : i < N := by
            have := h1.2
            rw [nI_toInt (by omega)] at this
            omega
          rw [if_pos h1, if_neg one_ne0, if_neg one_ne0, chk_nI (show i < 8 by omega) (by omega), chk_nI (show i < 40 by omega) (by omega), ix40, chk_nI (show 40 * k + i < 160 by omega) (by omega), cl_nI (show i < 2 ^ 31 by omega), cl_nI (show 40 * k + i < 2 ^ 31 by omega), its1 (show i < 8 by omega), ob0_s, cr.at1 hiN (by omega), e44, hu i (by omega), nI_1]
          by_cases q : σ 50 (10 + 5 * i + 1) = σ 58 (40 * k + i)
          · rw [if_pos q, if_pos q.symm]
            exact ih (by omega)
          · rw [if_neg q, if_neg (fun e => q e.symm)]
            exact ⟨_, rfl, rfl⟩
        · rw [if_neg h1, if_pos rfl, if_pos rfl]
          exact ⟨_, rfl, rfl⟩)
    obtain ⟨r, g1, g2⟩ := key FU 0 (Nat.zero_le m) (by rw [FU_eq]; omega) (Nat.zero_le m)
    refine Step.val h (r := r) ?_ (Trl.rf σ) ?_ (ScM.rf σ)
    · rw [f_X4_judge, a, ob0_s, if_pos (by decide), chk_nI (by omega) (by omega), cl_nI (by omega)]
      exact g1
    · rw [f_X5_judge, b _ rfl, ob0_s, if_pos rfl]
      exact g2
def isS (e : Int32) : Bool := decide (0 ≤ e.toInt ∧ e.toInt ≤ 720) && decide (¬ 20 < jrem e 100)
theorem cisS (e : Int32) (σ : Sg) : f_X4_isSaying e σ = some (b01 (isS e)) := by
  have c1 : ∀ τ, f_X4_within e 0 720 τ = some (if 0 ≤ e.toInt ∧ e.toInt ≤ 720 then 1 else 0) := fun τ => wC (by decide) (by decide) τ
  rw [f_X4_isSaying, f_X4_saying, ob0_s, show (100 * 7 + 20 : Int32) = 720 by decide, c1, ob0_s, isS]
  by_cases h1 : 0 ≤ e.toInt ∧ e.toInt ≤ 720
  · by_cases h2 : 20 < jrem e 100
    · rw [if_pos h1, if_neg one_ne0, if_pos h2]; simp [h1, h2, b01]
    · rw [if_pos h1, if_neg one_ne0, if_neg h2]; simp [h1, h2, b01]
  · rw [if_neg h1, if_pos rfl]; simp [h1, b01]
theorem misS (e : Int32) (σ : Sg) : f_X5_isSaying e σ = some (b01 (isS e)) := by
  have c1 : ∀ τ, f_X5_isIn e.toInt64 0 720 τ = some (if 0 ≤ e.toInt ∧ e.toInt ≤ 720 then 1 else 0) := fun τ => wM (by decide) (by decide) τ
  rw [f_X5_isSaying, c1, ob0_s, isS]
  by_cases h1 : 0 ≤ e.toInt ∧ e.toInt ≤ 720
  · by_cases h2 : 20 < jrem e 100
    · rw [if_pos h1, if_neg one_ne0, if_pos h2]; simp [h1, h2, b01]
    · rw [if_pos h1, if_neg one_ne0, if_neg h2]; simp [h1, h2, b01]
  · rw [if_neg h1, if_pos rfl]; simp [h1, b01]
theorem isS_Sy {e : Int32} (h : isS e = true) : Sy e := by
  simp only [isS, Bool.and_eq_true, decide_eq_true_eq] at h
  obtain ⟨h1, h2⟩ := h
  obtain ⟨a, ha, rfl⟩ := nn_of (b := 720) h1
  rw [jrem100 (by omega), show (20 : Int32) = nI 20 from rfl, nI_ltI (by omega) (by omega)] at h2
  exact ⟨a / 100, a % 100, by omega, by omega, by congr 1; omega⟩
def ldR (s : Rw) (u : Nat → Int32) : Nat → Rw
  | 0 => s
  | i + 1 => upd (ldR s u i) (4 + i) (u i)
theorem op_load {n : Nat} {σ : Sg} (h : Inv n σ) (x : Int32) : Step n σ (f_X4_load x) (f_X5_load x) := by
  obtain ⟨⟨N, d, ok, hd, cr⟩, hz⟩ := id h.1
  have hN := ok.1
  rcases sfind h.2.2.2.2 x with ⟨a, b⟩ | ⟨a, b⟩ | ⟨k, m, hk, rfl, hm, e1, e2, -, -, a, b⟩
  · refine Step.bey h ?_ ?_
    · rw [f_X4_load, a, ob0_s, if_neg (by decide), cfd0, ob2_s]
    · rw [f_X5_load, b _ (fdC_o (by omega)), ob0_s, if_neg (by decide), ob0_s, mfd0, ob2_s]
  · refine Step.find0 (j := 5) (r := -1000006) h (by omega) ?_ ?_
    · rw [f_X4_load, a, ob0_s, if_neg (by decide), cfd5, ob2_s]
    · rw [f_X5_load, b _ (fdC_o (by omega)), ob0_s, if_neg (by decide), ob0_s, mfd5, ob2_s]
  · have hu := (h.2.2.2.2 k hk).2.2
    have e44 : 40 + k + 4 = 44 + k := by omega
    have key := loop_up (P := fun f i => i ≤ 6 → i ≤ m → ∀ ρ : Sg, FrC 1 σ ρ → CR N 1 ρ (ldR (σ 50) (σ (44 + k)) i) → Ok N d (ldR (σ 50) (σ (44 + k)) i) → ∃ K ρ', f_X4_load_L26 (40 + k) f (nI i) ρ = some (nI K, ρ') ∧ (∀ τ : Sg, τ 57 = σ 57 → τ 58 = σ 58 → f_X5_load_L20 (nI k) f (nI i) (upr τ 50 (ldR (σ 50) (σ (44 + k)) i)) = some (nI K, upr τ 50 (ldR (σ 50) (σ (44 + k)) K))) ∧ FrC 1 σ ρ' ∧ CR N 1 ρ' (ldR (σ 50) (σ (44 + k)) K) ∧ Ok N d (ldR (σ 50) (σ (44 + k)) K)) m
      (fun f _ _ ρ fr c okk => by
        refine ⟨m, ρ, ?_, fun τ t1 t2 => ?_, fr, c, okk⟩
        · rw [f_X4_load_L26, fr.1 (40 + k) (by omega), e1, if_pos (nI_le (Nat.le_refl m) (by omega))]
        · rw [f_X5_load_L20, chk_nI (by omega) (by omega), cl_nI (by omega), upr_ne _ _ (by omega), t1, e2, if_pos (nI_le (Nat.le_refl m) (by omega))])
      (fun f i hi ih hi6 _ ρ fr c okk => by
        rw [f_X4_load_L26, fr.1 (40 + k) (by omega), e1, if_neg (nle hi (by omega))]
        have unf : ∀ τ : Sg, τ 57 = σ 57 → τ 58 = σ 58 → f_X5_load_L20 (nI k) (f + 1) (nI i) (upr τ 50 (ldR (σ 50) (σ (44 + k)) i)) = (if (6 : Int32) ≤ nI i then some (nI i, upr τ 50 (ldR (σ 50) (σ (44 + k)) i)) else if b01 (isS (σ (44 + k) i)) = 0 then some (nI i, upr τ 50 (ldR (σ 50) (σ (44 + k)) i)) else chk (nI (4 + i)) 60 (f_X5_load_L20 (nI k) f (nI (i + 1)) (upr τ 50 (upd (ldR (σ 50) (σ (44 + k)) i) (nI (4 + i)).toNatClampNeg (σ (44 + k) i))))) := fun τ t1 t2 => by
          rw [f_X5_load_L20, chk_nI (show k < 4 by omega) (by omega), cl_nI (show k < 2 ^ 31 by omega), upr_ne _ _ (show 57 ≠ 50 by omega), t1, e2, if_neg (nle hi (by omega)), ix40, chk_nI (show 40 * k + i < 160 by omega) (by omega), cl_nI (show 40 * k + i < 2 ^ 31 by omega), upr_ne _ _ (show 58 ≠ 50 by omega), t2, misS, ob0_s, add4, ← hu i (by omega), lt_s1, up2_upr, upr_at, upr_upr, nI_1]
        by_cases h6 : i = 6
        · subst h6
          have h66 : (6 : Int32) ≤ nI 6 := by decide
          rw [if_pos h66]
          refine ⟨6, ρ, rfl, fun τ t1 t2 => ?_, fr, c, okk⟩
          rw [unf τ t1 t2, if_pos h66]
        · have h66 : ¬ (6 : Int32) ≤ nI i := nle (n := 6) (by omega) (by omega)
          rw [if_neg h66, chk_nI (show i < 40 by omega) (by omega), cl_nI (show i < 2 ^ 31 by omega), e44, fr.1 (44 + k) (by omega), cisS, ob0_s]
          cases q : isS (σ (44 + k) i) with
          | false =>
            rw [if_pos (b01_f rfl)]
            refine ⟨i, ρ, rfl, fun τ t1 t2 => ?_, fr, c, okk⟩
            rw [unf τ t1 t2, if_neg h66, if_pos (b01_f q)]
          | true =>
            rw [if_neg (b01_t rfl), chk_nI (show i < 6 by omega) (by omega), lt_s1, nI_1]
            have c2 := CR_l (b := 1) (v := σ (44 + k) i) c (show i < 6 by omega)
            have ok2 := Ok_list (v := σ (44 + k) i) okk (show i < 6 by omega) (isS_Sy q)
            obtain ⟨K, ρ', g1, g2, g3⟩ := ih (by omega) (by omega) (up2 ρ (1 + 1) i (σ (44 + k) i)) (fr.tr (FrC.up (by omega) (by omega) (by omega))) c2 ok2
            refine ⟨K, ρ', g1, fun τ t1 t2 => ?_, g3⟩
            rw [unf τ t1 t2, if_neg h66, if_neg (b01_t q), chk_nI (show 4 + i < 60 by omega) (by omega), cl_nI (show 4 + i < 2 ^ 31 by omega)]
            exact g2 τ t1 t2)
    obtain ⟨K, ρ, g1, g2, fr, c, okk⟩ := key FU 0 (Nat.zero_le m) (by rw [FU_eq]; omega) (by omega) (by omega) σ (FrC.rf 1 σ) cr ok
    have e50 : ρ 50 = σ 50 := fr.1 50 (by omega)
    refine ⟨nI K, ρ, upr ρ 50 (ldR (σ 50) (σ (44 + k)) K), ?_, ?_, ?_⟩
    · rw [f_X4_load, a, ob0_s, if_pos (by decide), chk_nI (by omega) (by omega), cl_nI (by omega)]
      exact g1
    · have := g2 ρ (fr.1 57 (by omega)) (fr.1 58 (by omega))
      rw [show ldR (σ 50) (σ (44 + k)) 0 = ρ 50 from e50.symm, upr_self] at this
      rw [f_X5_load, b _ (fr.1 56 (by omega)), ob0_s, if_pos rfl]
      exact this
    · refine h.main (fun k g1 g2 g3 g4 g5 g6 => by rw [upr_ne _ _ g2]; exact fr.1 k (by omega)) ⟨by rw [upr_ne _ _ (by omega), fr.1 49 (by omega)], by rw [upr_ne _ _ (by omega), fr.1 49 (by omega)]⟩ ⟨⟨N, d, ?_, by omega, ?_⟩, ?_⟩
      · rw [upr_at]; exact okk
      · rw [upr_at]; exact c.same (fun k g1 g2 => upr_ne _ _ (by omega)) hN
      · rw [upr_ne _ _ (by omega), fr.2]; exact hz
