/-! THE INVARIANT between the class's cells and the reference's, behind n calls -/
def Mn (n : Nat) (σ : Sg) : Prop := (∃ N d, Ok N d (σ 50) ∧ d ≤ 60 * n ∧ CR N 1 σ (σ 50)) ∧ σ 1 7 = 0
def Kp (n : Nat) (σ : Sg) : Prop := σ 0 6 = σ 49 4 ∧ (σ 0 6 = 0 ∨ (σ 0 6 = 1 ∧ (∃ N d, Ok N d (σ 51) ∧ d ≤ 60 * n ∧ CR N 13 σ (σ 51)) ∧ σ 13 7 = 0))
def Fi (σ : Sg) : Prop := (∀ j, j < 7 → σ 48 j = σ 54 (j + 1)) ∧ σ 54 0 = σ 48 0 + σ 48 1 + σ 48 2 + σ 48 3 + σ 48 4 + σ 48 5 + σ 48 6
def Ta (σ : Sg) : Prop := σ 37 1 = σ 49 7 ∧ ∃ t, t ≤ 120 ∧ σ 37 1 = nI t ∧ ∀ i, i < t → σ 38 i = σ 55 i ∧ In (σ 38 i) 255
def Sk (σ : Sg) (k : Nat) : Prop := (∃ m, m ≤ 40 ∧ σ (40 + k) 2 = nI m ∧ σ 57 k = nI m) ∧ ((σ (40 + k) 1 = 0 ∧ σ 56 k = -1) ∨ (σ (40 + k) 1 = σ 56 k ∧ (σ 56 k = 8 ∨ σ 56 k = 16 ∨ σ 56 k = 32))) ∧ ∀ i, i < 40 → σ (44 + k) i = σ 58 (40 * k + i)
def Inv (n : Nat) (σ : Sg) : Prop := Mn n σ ∧ Kp n σ ∧ Fi σ ∧ Ta σ ∧ ∀ k, k < 4 → Sk σ k
theorem Mn.same {n : Nat} {σ σ' : Sg} (h : Mn n σ) (h1 : ∀ k, 1 ≤ k → k < 13 → σ' k = σ k) (h2 : σ' 50 = σ 50) : Mn n σ' := by
  obtain ⟨⟨N, d, ok, hd, cr⟩, hz⟩ := h
  refine ⟨⟨N, d, by rw [h2]; exact ok, hd, ?_⟩, by rw [h1 1 (by omega) (by omega)]; exact hz⟩
  rw [h2]
  exact cr.same (fun k a b => h1 k a b) ok.1
theorem Kp.same {n : Nat} {σ σ' : Sg} (h : Kp n σ) (h0 : σ' 0 6 = σ 0 6) (h1 : ∀ k, 13 ≤ k → k < 25 → σ' k = σ k) (h2 : σ' 51 = σ 51) (h3 : σ' 49 4 = σ 49 4) : Kp n σ' := by
  obtain ⟨e, h⟩ := h
  refine ⟨by rw [h0, h3]; exact e, ?_⟩
  rw [h0]
  rcases h with h | ⟨h, ⟨N, d, ok, hd, cr⟩, hz⟩
  · exact Or.inl h
  · refine Or.inr ⟨h, ⟨N, d, by rw [h2]; exact ok, hd, ?_⟩, by rw [h1 13 (by omega) (by omega)]; exact hz⟩
    rw [h2]
    exact cr.same (fun k a b => h1 k a b) ok.1
theorem Fi.same {σ σ' : Sg} (h : Fi σ) (h1 : σ' 48 = σ 48) (h2 : σ' 54 = σ 54) : Fi σ' := by
  unfold Fi
  rw [h1, h2]
  exact h
theorem Ta.same {σ σ' : Sg} (h : Ta σ) (h1 : σ' 37 1 = σ 37 1) (h2 : σ' 38 = σ 38) (h3 : σ' 49 7 = σ 49 7) (h4 : σ' 55 = σ 55) : Ta σ' := by
  unfold Ta
  rw [h1, h2, h3, h4]
  exact h
theorem Sk.same {σ σ' : Sg} {k : Nat} (h : Sk σ k) (h1 : σ' (40 + k) = σ (40 + k)) (h2 : σ' (44 + k) = σ (44 + k)) (h3 : σ' 56 = σ 56) (h4 : σ' 57 = σ 57) (h5 : σ' 58 = σ 58) : Sk σ' k := by
  unfold Sk
  rw [h1, h2, h3, h4, h5]
  exact h
theorem Mn.mono {n m : Nat} {σ : Sg} (h : Mn n σ) (hm : n ≤ m) : Mn m σ := by
  obtain ⟨⟨N, d, ok, hd, cr⟩, hz⟩ := h
  exact ⟨⟨N, d, ok, by omega, cr⟩, hz⟩
theorem Kp.mono {n m : Nat} {σ : Sg} (h : Kp n σ) (hm : n ≤ m) : Kp m σ := by
  obtain ⟨e, h⟩ := h
  refine ⟨e, ?_⟩
  rcases h with h | ⟨h, ⟨N, d, ok, hd, cr⟩, hz⟩
  · exact Or.inl h
  · exact Or.inr ⟨h, ⟨N, d, ok, by omega, cr⟩, hz⟩
theorem Inv.mono {n m : Nat} {σ : Sg} (h : Inv n σ) (hm : n ≤ m) : Inv m σ := ⟨h.1.mono hm, h.2.1.mono hm, h.2.2⟩
/-- the class changed its trial alone; the reference its scratch alone -/
def Trl (σ τ : Sg) : Prop := ∀ k, (k < 25 ∨ 37 ≤ k) → τ k = σ k
def ScM (σ τ : Sg) : Prop := (∀ k, k ≠ 49 → k ≠ 52 → k ≠ 53 → τ k = σ k) ∧ τ 49 4 = σ 49 4 ∧ τ 49 7 = σ 49 7
theorem Trl.rf (σ : Sg) : Trl σ σ := fun _ _ => rfl
theorem Trl.tr {a b c : Sg} (h : Trl a b) (h2 : Trl b c) : Trl a c := fun k hk => (h2 k hk).trans (h k hk)
theorem Trl.of {σ τ : Sg} (h : FrC 25 σ τ) : Trl σ τ := fun k hk => h.1 k (by omega)
theorem ScM.rf (σ : Sg) : ScM σ σ := ⟨fun _ _ _ _ => rfl, rfl, rfl⟩
theorem ScM.tr {a b c : Sg} (h : ScM a b) (h2 : ScM b c) : ScM a c := ⟨fun k x y z => (h2.1 k x y z).trans (h.1 k x y z), h2.2.1.trans h.2.1, h2.2.2.trans h.2.2⟩
theorem ScM_asd (σ : Sg) : ScM σ (asd σ) := ⟨fun k _ _ h => upr_ne _ _ h, by rw [asd, upr_ne _ _ (by omega)], by rw [asd, upr_ne _ _ (by omega)]⟩
theorem Inv.val {n : Nat} {σ σ1 σ2 : Sg} (h : Inv n σ) (h1 : Trl σ σ1) (h2 : ScM σ1 σ2) : Inv n σ2 := by
  have e : ∀ k, (k < 25 ∨ 37 ≤ k) → k ≠ 49 → k ≠ 52 → k ≠ 53 → σ2 k = σ k := fun k a b c d => (h2.1 k b c d).trans (h1 k a)
  have e49 : σ1 49 = σ 49 := h1 49 (by omega)
  refine ⟨h.1.same (fun k a b => e k (by omega) (by omega) (by omega) (by omega)) (e 50 (by omega) (by omega) (by omega) (by omega)), h.2.1.same (by rw [e 0 (by omega) (by omega) (by omega) (by omega)]) (fun k a b => e k (by omega) (by omega) (by omega) (by omega)) (e 51 (by omega) (by omega) (by omega) (by omega)) (by rw [h2.2.1, e49]), h.2.2.1.same (e 48 (by omega) (by omega) (by omega) (by omega)) (e 54 (by omega) (by omega) (by omega) (by omega)), h.2.2.2.1.same (by rw [e 37 (by omega) (by omega) (by omega) (by omega)]) (e 38 (by omega) (by omega) (by omega) (by omega)) (by rw [h2.2.2, e49]) (e 55 (by omega) (by omega) (by omega) (by omega)), fun k hk => (h.2.2.2.2 k hk).same (e _ (by omega) (by omega) (by omega) (by omega)) (e _ (by omega) (by omega) (by omega) (by omega)) (e 56 (by omega) (by omega) (by omega) (by omega)) (e 57 (by omega) (by omega) (by omega) (by omega)) (e 58 (by omega) (by omega) (by omega) (by omega))⟩
/-! findings -/
def fdC (σ : Sg) (j : Nat) : Sg := up2 σ 48 j (σ 48 j + 1)
def fdM (σ : Sg) (j : Nat) : Sg := up2 (up2 σ 54 0 (σ 54 0 + 1)) 54 (j + 1) (σ 54 (j + 1) + 1)
theorem wC {x lo hi : Int32} {a b : Int} (ha : lo.toInt = a) (hb : hi.toInt = b) (σ : Sg) : f_X4_within x lo hi σ = some (if a ≤ x.toInt ∧ x.toInt ≤ b then 1 else 0) := by
  rw [f_X4_within]
  simp only [Int32.lt_iff_toInt_lt, ha, hb]
  by_cases h1 : x.toInt < a
  · rw [if_pos h1, if_neg (by omega)]
  · rw [if_neg h1]
    by_cases h2 : b < x.toInt
    · rw [if_pos h2, if_neg (by omega)]
    · rw [if_neg h2, if_pos (by omega)]
theorem wM {x : Int32} {lo hi : Int64} {a b : Int} (ha : lo.toInt = a) (hb : hi.toInt = b) (σ : Sg) : f_X5_isIn x.toInt64 lo hi σ = some (if a ≤ x.toInt ∧ x.toInt ≤ b then 1 else 0) := by
  rw [f_X5_isIn]
  have cmp : ∀ p q : Int64, (lg_cmp p q < 0 ↔ p.toInt < q.toInt) ∧ (0 < lg_cmp p q ↔ q.toInt < p.toInt) := by
    intro p q
    unfold lg_cmp
    rw [← Int64.lt_iff_toInt_lt, ← Int64.lt_iff_toInt_lt]
    by_cases h1 : q < p
    · have h2 : ¬ p < q := by rw [Int64.lt_iff_toInt_lt] at h1 ⊢; omega
      simp [h1, h2]
    · by_cases h2 : p = q
      · subst h2; simp [h1]
      · have h3 : p < q := by
          rw [Int64.lt_iff_toInt_lt] at h1 ⊢
          have : p.toInt ≠ q.toInt := fun e => h2 (Int64.toInt_inj.mp e)
          omega
        simp [h1, h2, h3]
  simp only [(cmp _ _).1, (cmp _ _).2, Int32.toInt_toInt64, ha, hb]
  by_cases h1 : x.toInt < a
  · rw [if_pos h1, if_neg (by omega)]
  · rw [if_neg h1]
    by_cases h2 : b < x.toInt
    · rw [if_pos h2, if_neg (by omega)]
    · rw [if_neg h2, if_pos (by omega)]
theorem cfd (F : Int32) (j : Nat) (hj : j < 7) (e : (-1000001) - F = nI j) (σ : Sg) : f_X4_found F σ = some (F, fdC σ j) := by
  rw [f_X4_found, e, wC (a := 0) (b := 6) (by decide) (by decide), nI_toInt (by omega), if_pos (by omega), ob0_s, if_neg (by decide), chk_nI (by omega) (by omega), cl_nI (by omega)]
  rfl
theorem mfd (F : Int32) (j : Nat) (hj : j < 7) (e : (-1000001) - F = nI j) (σ : Sg) : f_X5_finds F σ = some (F, fdM σ j) := by
  rw [f_X5_finds, e, nI_1, lt_s1, chk_nI (by omega) (by omega), cl_nI (by omega)]
  simp only [lt_s1]
  rw [up2_an _ _ (by omega)]
  rfl
theorem fdC_o {σ : Sg} {j k : Nat} (h : k ≠ 48) : fdC σ j k = σ k := up2_ne _ _ h
theorem fdM_o {σ : Sg} {j k : Nat} (h : k ≠ 54) : fdM σ j k = σ k := by rw [fdM, up2_ne _ _ h, up2_ne _ _ h]
theorem Fi.fd {σ σ' : Sg} {j : Nat} (h : Fi σ) (hj : j < 7) (h1 : σ' 48 = upd (σ 48) j (σ 48 j + 1)) (h2 : σ' 54 = upd (upd (σ 54) 0 (σ 54 0 + 1)) (j + 1) (σ 54 (j + 1) + 1)) : Fi σ' := by
  obtain ⟨a, b⟩ := h
  unfold Fi
  rw [h1, h2]
  refine ⟨fun i hi => ?_, ?_⟩
  · by_cases e : i = j
    · subst e
      rw [upd_at, upd_at, a i hi]
    · rw [upd_ne _ _ e, upd_ne _ _ (by omega), upd_ne _ _ (by omega), a i hi]
  · rw [upd_ne _ _ (by omega), upd_at, b]
    have c : j = 0 ∨ j = 1 ∨ j = 2 ∨ j = 3 ∨ j = 4 ∨ j = 5 ∨ j = 6 := by omega
    rcases c with rfl | rfl | rfl | rfl | rfl | rfl | rfl <;> simp [upd] <;> ac_rfl
theorem Inv.find {n j : Nat} {σ τ τ2 : Sg} (h : Inv n σ) (hj : j < 7) (h1 : Trl σ τ) (h2 : ScM (fdC τ j) τ2) : Inv n (fdM τ2 j) := by
  have e : ∀ k, (k < 25 ∨ 37 ≤ k) → k ≠ 49 → k ≠ 52 → k ≠ 53 → k ≠ 48 → k ≠ 54 → fdM τ2 j k = σ k := fun k a b c d x y => (fdM_o y).trans ((h2.1 k b c d).trans ((fdC_o x).trans (h1 k a)))
  have e49 : fdM τ2 j 49 = τ2 49 := fdM_o (by omega)
  have e49' : fdC τ j 49 = σ 49 := (fdC_o (by omega)).trans (h1 49 (by omega))
  have e48 : fdM τ2 j 48 = upd (σ 48) j (σ 48 j + 1) := by
    rw [fdM_o (by omega), h2.1 48 (by omega) (by omega) (by omega), fdC, up2_k, h1 48 (by omega)]
  have e54 : fdM τ2 j 54 = upd (upd (σ 54) 0 (σ 54 0 + 1)) (j + 1) (σ 54 (j + 1) + 1) := by
    rw [fdM, up2_k, up2_k, h2.1 54 (by omega) (by omega) (by omega), fdC_o (by omega), h1 54 (by omega)]
  refine ⟨h.1.same (fun k a b => e k (by omega) (by omega) (by omega) (by omega) (by omega) (by omega)) (e 50 (by omega) (by omega) (by omega) (by omega) (by omega) (by omega)), h.2.1.same (by rw [e 0 (by omega) (by omega) (by omega) (by omega) (by omega) (by omega)]) (fun k a b => e k (by omega) (by omega) (by omega) (by omega) (by omega) (by omega)) (e 51 (by omega) (by omega) (by omega) (by omega) (by omega) (by omega)) (by rw [e49, h2.2.1, e49']), h.2.2.1.fd hj e48 e54, h.2.2.2.1.same (by rw [e 37 (by omega) (by omega) (by omega) (by omega) (by omega) (by omega)]) (e 38 (by omega) (by omega) (by omega) (by omega) (by omega) (by omega)) (by rw [e49, h2.2.2, e49']) (e 55 (by omega) (by omega) (by omega) (by omega) (by omega) (by omega)), fun k hk => (h.2.2.2.2 k hk).same (e _ (by omega) (by omega) (by omega) (by omega) (by omega) (by omega)) (e _ (by omega) (by omega) (by omega) (by omega) (by omega) (by omega)) (e 56 (by omega) (by omega) (by omega) (by omega) (by omega) (by omega)) (e 57 (by omega) (by omega) (by omega) (by omega) (by omega) (by omega)) (e 58 (by omega) (by omega) (by omega) (by omega) (by omega) (by omega))⟩
/-- one call of the law: both answer alike, the invariant holds behind it -/
def Step {α : Type} (n : Nat) (σ : Sg) (c m : Sg → Option (α × Sg)) : Prop := ∃ r σ1 σ2, c σ = some (r, σ1) ∧ m σ1 = some (r, σ2) ∧ Inv (n + 1) σ2
theorem Step.val {α : Type} {n : Nat} {σ σ1 σ2 : Sg} {c m : Sg → Option (α × Sg)} {r : α} (h : Inv n σ) (h1 : c σ = some (r, σ1)) (h2 : Trl σ σ1) (h3 : m σ1 = some (r, σ2)) (h4 : ScM σ1 σ2) : Step n σ c m := ⟨r, σ1, σ2, h1, h3, (h.val h2 h4).mono (by omega)⟩
theorem Step.find {α : Type} {n j : Nat} {σ τ τ2 : Sg} {c m : Sg → Option (α × Sg)} {r : α} (h : Inv n σ) (hj : j < 7) (h1 : c σ = some (r, fdC τ j)) (h2 : Trl σ τ) (h3 : m (fdC τ j) = some (r, fdM τ2 j)) (h4 : ScM (fdC τ j) τ2) : Step n σ c m := ⟨r, _, _, h1, h3, (h.find hj h2 h4).mono (by omega)⟩
theorem Step.find0 {α : Type} {n j : Nat} {σ : Sg} {c m : Sg → Option (α × Sg)} {r : α} (h : Inv n σ) (hj : j < 7) (h1 : c σ = some (r, fdC σ j)) (h3 : m (fdC σ j) = some (r, fdM (fdC σ j) j)) : Step n σ c m := Step.find h hj h1 (Trl.rf σ) h3 (ScM.rf _)
theorem cfd0 (σ : Sg) : f_X4_found (-1000001) σ = some (-1000001, fdC σ 0) := cfd _ 0 (by omega) (by decide) σ
theorem cfd1 (σ : Sg) : f_X4_found (-1000002) σ = some (-1000002, fdC σ 1) := cfd _ 1 (by omega) (by decide) σ
theorem cfd2 (σ : Sg) : f_X4_found (-1000003) σ = some (-1000003, fdC σ 2) := cfd _ 2 (by omega) (by decide) σ
theorem cfd3 (σ : Sg) : f_X4_found (-1000004) σ = some (-1000004, fdC σ 3) := cfd _ 3 (by omega) (by decide) σ
theorem cfd4 (σ : Sg) : f_X4_found (-1000005) σ = some (-1000005, fdC σ 4) := cfd _ 4 (by omega) (by decide) σ
theorem cfd5 (σ : Sg) : f_X4_found (-1000006) σ = some (-1000006, fdC σ 5) := cfd _ 5 (by omega) (by decide) σ
theorem cfd6 (σ : Sg) : f_X4_found (-1000007) σ = some (-1000007, fdC σ 6) := cfd _ 6 (by omega) (by decide) σ
theorem mfd0 (σ : Sg) : f_X5_finds (-1000001) σ = some (-1000001, fdM σ 0) := mfd _ 0 (by omega) (by decide) σ
theorem mfd1 (σ : Sg) : f_X5_finds (-1000002) σ = some (-1000002, fdM σ 1) := mfd _ 1 (by omega) (by decide) σ
theorem mfd2 (σ : Sg) : f_X5_finds (-1000003) σ = some (-1000003, fdM σ 2) := mfd _ 2 (by omega) (by decide) σ
theorem mfd3 (σ : Sg) : f_X5_finds (-1000004) σ = some (-1000004, fdM σ 3) := mfd _ 3 (by omega) (by decide) σ
theorem mfd4 (σ : Sg) : f_X5_finds (-1000005) σ = some (-1000005, fdM σ 4) := mfd _ 4 (by omega) (by decide) σ
theorem mfd5 (σ : Sg) : f_X5_finds (-1000006) σ = some (-1000006, fdM σ 5) := mfd _ 5 (by omega) (by decide) σ
theorem mfd6 (σ : Sg) : f_X5_finds (-1000007) σ = some (-1000007, fdM σ 6) := mfd _ 6 (by omega) (by decide) σ
theorem nn_of {x : Int32} {b : Nat} (h : 0 ≤ x.toInt ∧ x.toInt ≤ (b : Int)) : ∃ j : Nat, j ≤ b ∧ x = nI j := by
  refine ⟨x.toInt.toNat, by omega, Int32.toInt_inj.mp ?_⟩
  rw [nI_toInt (by have := Int32.toInt_lt x; omega)]
  omega
theorem hasC {N : Nat} (hN : N ≤ 8) {σ : Sg} {b : Nat} (h : σ b 3 = nI N) (x : Int32) : f_X0_has b x σ = some (if 0 ≤ x.toInt ∧ x.toInt < (N : Int) then 1 else 0) := by
  rw [f_X0_has, h]
  simp only [Int32.lt_iff_toInt_lt, Int32.le_iff_toInt_le, nI_toInt (show N < 2 ^ 31 by omega)]
  have z : (0 : Int32).toInt = 0 := by decide
  rw [z]
  by_cases h1 : x.toInt < 0
  · rw [if_pos h1, if_neg (by omega)]
  · rw [if_neg h1]
    by_cases h2 : (N : Int) ≤ x.toInt
    · rw [if_pos h2, if_neg (by omega)]
    · rw [if_neg h2, if_pos (by omega)]
theorem oneM {N : Nat} (hN : N ≤ 8) {σ : Sg} (h : σ 50 0 = nI N) (x : Int32) : f_X5_isOne x σ = some (if 0 ≤ x.toInt ∧ x.toInt < (N : Int) then 1 else 0) := by
  rw [f_X5_isOne, h]
  simp only [Int32.lt_iff_toInt_lt, Int32.le_iff_toInt_le, nI_toInt (show N < 2 ^ 31 by omega)]
  have z : (0 : Int32).toInt = 0 := by decide
  rw [z]
  by_cases h1 : x.toInt < 0
  · rw [if_pos h1, if_neg (by omega)]
  · rw [if_neg h1]
    by_cases h2 : (N : Int) ≤ x.toInt
    · rw [if_pos h2, if_neg (by omega)]
    · rw [if_neg h2, if_pos (by omega)]
theorem nn_lt {x : Int32} {b : Nat} (h : 0 ≤ x.toInt ∧ x.toInt < (b : Int)) : ∃ j : Nat, j < b ∧ x = nI j := by
  obtain ⟨j, hj, e⟩ := nn_of (x := x) (b := b - 1) ⟨h.1, by omega⟩
  exact ⟨j, by omega, e⟩
theorem orN (o : Option Nat) (ho : ∀ j, o = some j → j < 2 ^ 31) (σ : Sg) : f_X5_orNone (enc o) σ = some (match o with | none => (-1000004, fdM σ 3) | some j => (nI j, σ)) := by
  cases o with
  | none => rw [f_X5_orNone, show enc (none : Option Nat) = -1 from rfl, if_neg (by decide), mfd3, ob2_s]
  | some j => rw [f_X5_orNone, show enc (some j) = nI j from rfl, if_pos (nI_ge0 (ho j rfl))]
theorem Step.bey {n : Nat} {σ : Sg} {c m : Sg → Option (Int32 × Sg)} (h : Inv n σ) (h1 : c σ = some (-1000001, fdC σ 0)) (h3 : m (fdC σ 0) = some (-1000001, fdM (fdC σ 0) 0)) : Step n σ c m := Step.find0 h (by omega) h1 h3
