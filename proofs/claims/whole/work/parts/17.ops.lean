/-! the plain calls -/
theorem Inv.main {n : Nat} {σ σ2 : Sg} (h : Inv n σ) (hs : ∀ k, (k = 0 ∨ 13 ≤ k) → k ≠ 50 → (k < 25 ∨ 37 ≤ k) → k ≠ 52 → k ≠ 53 → k ≠ 49 → σ2 k = σ k) (h49 : σ2 49 4 = σ 49 4 ∧ σ2 49 7 = σ 49 7) (hM : Mn (n + 1) σ2) : Inv (n + 1) σ2 := by
  have h' := h.mono (show n ≤ n + 1 by omega)
  refine ⟨hM, h'.2.1.same (by rw [hs 0 (by omega) (by omega) (by omega) (by omega) (by omega) (by omega)]) (fun k a b => hs k (by omega) (by omega) (by omega) (by omega) (by omega) (by omega)) (hs 51 (by omega) (by omega) (by omega) (by omega) (by omega) (by omega)) h49.1, h'.2.2.1.same (hs 48 (by omega) (by omega) (by omega) (by omega) (by omega) (by omega)) (hs 54 (by omega) (by omega) (by omega) (by omega) (by omega) (by omega)), h'.2.2.2.1.same (by rw [hs 37 (by omega) (by omega) (by omega) (by omega) (by omega) (by omega)]) (hs 38 (by omega) (by omega) (by omega) (by omega) (by omega) (by omega)) h49.2 (hs 55 (by omega) (by omega) (by omega) (by omega) (by omega) (by omega)), fun k hk => (h'.2.2.2.2 k hk).same (hs _ (by omega) (by omega) (by omega) (by omega) (by omega) (by omega)) (hs _ (by omega) (by omega) (by omega) (by omega) (by omega) (by omega)) (hs 56 (by omega) (by omega) (by omega) (by omega) (by omega) (by omega)) (hs 57 (by omega) (by omega) (by omega) (by omega) (by omega) (by omega)) (hs 58 (by omega) (by omega) (by omega) (by omega) (by omega) (by omega))⟩
theorem plM (x : Int32) (σ : Sg) : f_X5_isPlace x σ = some (if 0 ≤ x.toInt ∧ x.toInt ≤ 5 then 1 else 0) := by
  rw [f_X5_isPlace]
  simp only [Int32.lt_iff_toInt_lt, Int32.le_iff_toInt_le]
  have z : (0 : Int32).toInt = 0 := by decide
  have z6 : (6 : Int32).toInt = 6 := by decide
  rw [z, z6]
  by_cases h1 : x.toInt < 0
  · rw [if_pos h1, if_neg (by omega)]
  · rw [if_neg h1]
    by_cases h2 : (6 : Int) ≤ x.toInt
    · rw [if_pos h2, if_neg (by omega)]
    · rw [if_neg h2, if_pos (by omega)]
theorem shM (x : Int32) (σ : Sg) : f_X5_isSheet x σ = some (if 0 ≤ x.toInt ∧ x.toInt ≤ 3 then 1 else 0) := by
  rw [f_X5_isSheet]
  simp only [Int32.lt_iff_toInt_lt, Int32.le_iff_toInt_le]
  have z : (0 : Int32).toInt = 0 := by decide
  have z6 : (4 : Int32).toInt = 4 := by decide
  rw [z, z6]
  by_cases h1 : x.toInt < 0
  · rw [if_pos h1, if_neg (by omega)]
  · rw [if_neg h1]
    by_cases h2 : (4 : Int) ≤ x.toInt
    · rw [if_pos h2, if_neg (by omega)]
    · rw [if_neg h2, if_pos (by omega)]
theorem one_ne0 : ¬ ((1 : Int32) = 0) := by decide
theorem Sy_mk {w x : Nat} (hw : w ≤ 7) (hx : x ≤ 20) : 100 * nI w + nI x = nI (100 * w + x) := by
  show nI 100 * nI w + nI x = _
  rw [pk_mul, nI_add]
theorem op_say {n : Nat} {σ : Sg} (h : Inv n σ) (i w x : Int32) : Step n σ (f_X4_say i w x) (f_X5_say i w x) := by
  have c1 : ∀ τ, f_X4_within i 0 5 τ = some (if 0 ≤ i.toInt ∧ i.toInt ≤ 5 then 1 else 0) := fun τ => wC (by decide) (by decide) τ
  have c2 : ∀ τ, f_X4_within w 0 7 τ = some (if 0 ≤ w.toInt ∧ w.toInt ≤ 7 then 1 else 0) := fun τ => wC (by decide) (by decide) τ
  have c3 : ∀ τ, f_X4_within x 0 20 τ = some (if 0 ≤ x.toInt ∧ x.toInt ≤ 20 then 1 else 0) := fun τ => wC (by decide) (by decide) τ
  have m2 : ∀ τ, f_X5_isIn w.toInt64 0 7 τ = some (if 0 ≤ w.toInt ∧ w.toInt ≤ 7 then 1 else 0) := fun τ => wM (by decide) (by decide) τ
  have m3 : ∀ τ, f_X5_isIn x.toInt64 0 20 τ = some (if 0 ≤ x.toInt ∧ x.toInt ≤ 20 then 1 else 0) := fun τ => wM (by decide) (by decide) τ
  by_cases h1 : 0 ≤ i.toInt ∧ i.toInt ≤ 5
  · by_cases h2 : 0 ≤ w.toInt ∧ w.toInt ≤ 7
    · by_cases h3 : 0 ≤ x.toInt ∧ x.toInt ≤ 20
      · obtain ⟨a, ha, rfl⟩ := nn_of (b := 5) h1
        obtain ⟨b, hb, rfl⟩ := nn_of (b := 7) h2
        obtain ⟨c, hc, rfl⟩ := nn_of (b := 20) h3
        obtain ⟨⟨N, d, ok, hd, cr⟩, hz⟩ := h.1
        refine ⟨σ 2 a, up2 σ 2 a (nI (100 * b + c)), up2 (up2 σ 2 a (nI (100 * b + c))) 50 (4 + a) (nI (100 * b + c)), ?_, ?_, ?_⟩
        · simp only [f_X4_say, c1, c2, c3, if_pos h1, if_pos h2, if_pos h3, ob0_s, if_neg one_ne0, f_X4_saying, chk_nI (show a < 6 by omega) (by omega), cl_nI (show a < 2 ^ 31 by omega), lt_s1, Sy_mk hb hc]
        · simp only [f_X5_say, plM, m2, m3, if_pos h1, if_pos h2, if_pos h3, ob0_s, if_neg one_ne0, f_X5_becomes, add4, chk_nI (show 4 + a < 60 by omega) (by omega), cl_nI (show 4 + a < 2 ^ 31 by omega), lt_s1, Sy_mk hb hc, ob2_s]
          rw [up2_ne _ _ (by omega), ← cr.2.2.2.2.1 a (by omega)]
        · refine h.main (fun k g1 g2 g3 g4 g5 g6 => by rw [up2_ne _ _ g2, up2_ne _ _ (by omega)]) ⟨by rw [up2_ne _ _ (by omega), up2_ne _ _ (by omega)], by rw [up2_ne _ _ (by omega), up2_ne _ _ (by omega)]⟩ ⟨⟨N, d, ?_, by omega, ?_⟩, ?_⟩
          · rw [up2_k, up2_ne _ _ (by omega)]
            exact Ok_list ok (by omega) ⟨b, c, by omega, hc, rfl⟩
          · rw [up2_k, up2_ne _ _ (by omega)]
            exact (CR_l (b := 1) cr (show a < 6 by omega)).same (fun k g1 g2 => up2_ne _ _ (by omega)) ok.1
          · rw [up2_ne _ _ (by omega), up2_ne _ _ (by omega)]; exact hz
      · refine Step.bey h ?_ ?_
        · simp only [f_X4_say, c1, c2, c3, if_pos h1, if_pos h2, if_neg h3, ob0_s, if_neg one_ne0, if_pos, cfd0, ob2_s]
        · simp only [f_X5_say, plM, m2, m3, if_pos h1, if_pos h2, if_neg h3, ob0_s, if_neg one_ne0, if_pos, mfd0, ob2_s]
    · refine Step.bey h ?_ ?_
      · simp only [f_X4_say, c1, c2, if_pos h1, if_neg h2, ob0_s, if_neg one_ne0, if_pos, cfd0, ob2_s]
      · simp only [f_X5_say, plM, m2, if_pos h1, if_neg h2, ob0_s, if_neg one_ne0, if_pos, mfd0, ob2_s]
  · refine Step.bey h ?_ ?_
    · simp only [f_X4_say, c1, if_neg h1, ob0_s, if_pos, cfd0, ob2_s]
    · simp only [f_X5_say, plM, if_neg h1, ob0_s, if_pos, mfd0, ob2_s]
theorem op_said {n : Nat} {σ : Sg} (h : Inv n σ) (i : Int32) : Step n σ (f_X4_said i) (f_X5_said i) := by
  have c1 : ∀ τ, f_X4_within i 0 5 τ = some (if 0 ≤ i.toInt ∧ i.toInt ≤ 5 then 1 else 0) := fun τ => wC (by decide) (by decide) τ
  by_cases h1 : 0 ≤ i.toInt ∧ i.toInt ≤ 5
  · obtain ⟨a, ha, rfl⟩ := nn_of (b := 5) h1
    obtain ⟨⟨N, d, ok, hd, cr⟩, hz⟩ := h.1
    refine Step.val (r := σ 2 a) (σ1 := σ) (σ2 := σ) h ?_ (Trl.rf σ) ?_ (ScM.rf σ)
    · simp only [f_X4_said, c1, if_pos h1, ob0_s, if_neg one_ne0, chk_nI (show a < 6 by omega) (by omega), cl_nI (show a < 2 ^ 31 by omega)]
    · simp only [f_X5_said, plM, if_pos h1, ob0_s, if_neg one_ne0, add4, chk_nI (show 4 + a < 60 by omega) (by omega), cl_nI (show 4 + a < 2 ^ 31 by omega)]
      rw [← cr.2.2.2.2.1 a (by omega)]
  · refine Step.bey h ?_ ?_
    · simp only [f_X4_said, c1, if_neg h1, ob0_s, if_pos, cfd0, ob2_s]
    · simp only [f_X5_said, plM, if_neg h1, ob0_s, if_pos, mfd0, ob2_s]
theorem op_feels {n : Nat} {σ : Sg} (h : Inv n σ) (x w : Int32) : Step n σ (f_X4_feels x w) (f_X5_feels x w) := by
  obtain ⟨⟨N, d, ok, hd, cr⟩, hz⟩ := id h.1
  have hN := ok.1
  have c1 : ∀ τ, τ 1 = σ 1 → f_X0_has 1 x τ = some (if 0 ≤ x.toInt ∧ x.toInt < (N : Int) then 1 else 0) := fun τ e => hasC hN (by rw [e]; exact cr.1.trans ok.2.1) x
  have m1 : ∀ τ, τ 50 = σ 50 → f_X5_isOne x τ = some (if 0 ≤ x.toInt ∧ x.toInt < (N : Int) then 1 else 0) := fun τ e => oneM hN (by rw [e]; exact ok.2.1) x
  have c2 : ∀ τ, f_X4_within w 0 20 τ = some (if 0 ≤ w.toInt ∧ w.toInt ≤ 20 then 1 else 0) := fun τ => wC (by decide) (by decide) τ
  have m2 : ∀ τ, f_X5_isIn w.toInt64 0 20 τ = some (if 0 ≤ w.toInt ∧ w.toInt ≤ 20 then 1 else 0) := fun τ => wM (by decide) (by decide) τ
  by_cases h1 : 0 ≤ x.toInt ∧ x.toInt < (N : Int)
  · by_cases h2 : 0 ≤ w.toInt ∧ w.toInt ≤ 20
    · obtain ⟨p, hp, rfl⟩ := nn_lt h1
      obtain ⟨g0, g1, g2, g3, g4⟩ := cr.o hp
      refine Step.val (r := feelS (σ 50) p w) (σ1 := σ) (σ2 := σ) h ?_ (Trl.rf σ) ?_ (ScM.rf σ)
      · simp only [f_X4_feels, c1 σ rfl, c2, if_pos h1, if_pos h2, ob0_s, if_neg one_ne0, chk_nI (show p < 8 by omega) (by omega), cl_nI (show p < 2 ^ 31 by omega), cfeel, g0, g3, feelS]
      · simp only [f_X5_feels, m1 σ rfl, m2, if_pos h1, if_pos h2, ob0_s, if_neg one_ne0, mfeel (show p < 8 by omega)]
    · refine Step.bey h ?_ ?_
      · simp only [f_X4_feels, c1 σ rfl, c2, if_pos h1, if_neg h2, ob0_s, if_neg one_ne0, if_pos, cfd0, ob2_s]
      · simp only [f_X5_feels, m1 (fdC σ 0) (fdC_o (by omega)), m2, if_pos h1, if_neg h2, ob0_s, if_neg one_ne0, if_pos, mfd0, ob2_s]
  · refine Step.bey h ?_ ?_
    · simp only [f_X4_feels, c1 σ rfl, if_neg h1, ob0_s, if_pos, cfd0, ob2_s]
    · simp only [f_X5_feels, m1 (fdC σ 0) (fdC_o (by omega)), if_neg h1, ob0_s, if_pos, mfd0, ob2_s]
theorem op_bearer {n : Nat} {σ : Sg} (h : Inv n σ) (x w : Int32) : Step n σ (f_X4_bearer x w) (f_X5_bearer x w) := by
  obtain ⟨⟨N, d, ok, hd, cr⟩, hz⟩ := id h.1
  have hN := ok.1
  have c1 : ∀ τ, τ 1 = σ 1 → f_X0_has 1 x τ = some (if 0 ≤ x.toInt ∧ x.toInt < (N : Int) then 1 else 0) := fun τ e => hasC hN (by rw [e]; exact cr.1.trans ok.2.1) x
  have m1 : ∀ τ, τ 50 = σ 50 → f_X5_isOne x τ = some (if 0 ≤ x.toInt ∧ x.toInt < (N : Int) then 1 else 0) := fun τ e => oneM hN (by rw [e]; exact ok.2.1) x
  have c2 : ∀ τ, f_X4_within w 1 20 τ = some (if 1 ≤ w.toInt ∧ w.toInt ≤ 20 then 1 else 0) := fun τ => wC (by decide) (by decide) τ
  have m2 : ∀ τ, f_X5_isIn w.toInt64 1 20 τ = some (if 1 ≤ w.toInt ∧ w.toInt ≤ 20 then 1 else 0) := fun τ => wM (by decide) (by decide) τ
  by_cases h1 : 0 ≤ x.toInt ∧ x.toInt < (N : Int)
  · by_cases h2 : 1 ≤ w.toInt ∧ w.toInt ≤ 20
    · obtain ⟨p, hp, rfl⟩ := nn_lt h1
      cases hb : bearS N (σ 50) p w with
      | none =>
        refine Step.find0 h (j := 3) (by omega) (r := -1000004) ?_ ?_
        · simp only [f_X4_bearer, c1 σ rfl, c2, if_pos h1, if_pos h2, ob0_s, if_neg one_ne0, crb ok cr, cbears ok cr, hb, bz, if_pos, cfd3, ob2_s]
        · simp only [f_X5_bearer, m1 (fdC σ 3) (fdC_o (by omega)), m2, if_pos h1, if_pos h2, ob0_s, if_neg one_ne0, mbear hN w (fdC σ 3) (by rw [fdC_o (by omega)]; exact ok.2.1), fdC_o (show 50 ≠ 48 by omega), hb, orN none (fun j hj => by cases hj), ob2_s]
      | some j =>
        have hj := bearS_lt hb
        have hrb : rbN (σ 50) (nI p) N = some j := by
          unfold bearS at hb
          cases hr : rbN (σ 50) (nI p) N with
          | none => rw [hr] at hb; cases hb
          | some j' =>
            rw [hr] at hb
            dsimp only at hb
            split at hb
            · cases hb
            · cases hb; rfl
        refine Step.val (r := nI j) (σ1 := σ) (σ2 := σ) h ?_ (Trl.rf σ) ?_ (ScM.rf σ)
        · simp only [f_X4_bearer, c1 σ rfl, c2, if_pos h1, if_pos h2, ob0_s, if_neg one_ne0, crb ok cr, cbears ok cr, hb, bz]
          rw [hrb]; rfl
        · simp only [f_X5_bearer, m1 σ rfl, m2, if_pos h1, if_pos h2, ob0_s, if_neg one_ne0, mbear hN w σ ok.2.1, hb, orN (some j) (fun j' hj' => by cases hj'; omega), ob2_s]
    · refine Step.bey h ?_ ?_
      · simp only [f_X4_bearer, c1 σ rfl, c2, if_pos h1, if_neg h2, ob0_s, if_neg one_ne0, if_pos, cfd0, ob2_s]
      · simp only [f_X5_bearer, m1 (fdC σ 0) (fdC_o (by omega)), m2, if_pos h1, if_neg h2, ob0_s, if_neg one_ne0, if_pos, mfd0, ob2_s]
  · refine Step.bey h ?_ ?_
    · simp only [f_X4_bearer, c1 σ rfl, if_neg h1, ob0_s, if_pos, cfd0, ob2_s]
    · simp only [f_X5_bearer, m1 (fdC σ 0) (fdC_o (by omega)), if_neg h1, ob0_s, if_pos, mfd0, ob2_s]
theorem op_of {n : Nat} {σ : Sg} (h : Inv n σ) (x w : Int32) : Step n σ (f_X4_of x w) (f_X5_of x w) := by
  obtain ⟨⟨N, d, ok, hd, cr⟩, hz⟩ := id h.1
  have hN := ok.1
  have c1 : ∀ τ, τ 1 = σ 1 → f_X0_has 1 x τ = some (if 0 ≤ x.toInt ∧ x.toInt < (N : Int) then 1 else 0) := fun τ e => hasC hN (by rw [e]; exact cr.1.trans ok.2.1) x
  have m1 : ∀ τ, τ 50 = σ 50 → f_X5_isOne x τ = some (if 0 ≤ x.toInt ∧ x.toInt < (N : Int) then 1 else 0) := fun τ e => oneM hN (by rw [e]; exact ok.2.1) x
  have c2 : ∀ τ, f_X4_within w 0 7 τ = some (if 0 ≤ w.toInt ∧ w.toInt ≤ 7 then 1 else 0) := fun τ => wC (by decide) (by decide) τ
  have m2 : ∀ τ, f_X5_isIn w.toInt64 0 7 τ = some (if 0 ≤ w.toInt ∧ w.toInt ≤ 7 then 1 else 0) := fun τ => wM (by decide) (by decide) τ
  by_cases h1 : 0 ≤ x.toInt ∧ x.toInt < (N : Int)
  · by_cases h2 : 0 ≤ w.toInt ∧ w.toInt ≤ 7
    · obtain ⟨p, hp, rfl⟩ := nn_lt h1
      obtain ⟨a, ha, rfl⟩ := nn_of (b := 7) h2
      obtain ⟨g0, g1, g2, g3, g4⟩ := cr.o hp
      refine Step.val (r := if nI a = 5 then askS (σ 50) p else if nI a = 6 then roomS (σ 50) p else if nI a = 7 then fgV (σ 50 (10 + 5 * p)) else σ 50 (10 + 5 * p + a)) (σ1 := σ) (σ2 := σ) h ?_ (Trl.rf σ) ?_ (ScM.rf σ)
      · simp only [f_X4_of, c1 σ rfl, c2, if_pos h1, if_pos h2, ob0_s, if_neg one_ne0, chk_nI (show p < 8 by omega) (by omega), cl_nI (show p < 2 ^ 31 by omega), cask, croomS cr hp, cfg, g0, g1, cr.2.1]
        split
        · rfl
        · split
          · rfl
          · split
            · rfl
            · rename_i k5 k6 k7
              have ha5 : a < 5 := by
                have : a ≠ 5 := fun e => k5 (by rw [e]; rfl)
                have : a ≠ 6 := fun e => k6 (by rw [e]; rfl)
                have : a ≠ 7 := fun e => k7 (by rw [e]; rfl)
                omega
              rw [cattr ha5, ob0_s, cr.2.2.2.2.2.2 p hp a ha5]
      · simp only [f_X5_of, m1 σ rfl, m2, if_pos h1, if_pos h2, ob0_s, if_neg one_ne0, mask (show p < 8 by omega), mroom (show p < 8 by omega), mfg (show p < 8 by omega)]
        split
        · rfl
        · split
          · rfl
          · split
            · rfl
            · rename_i k5 k6 k7
              have ha5 : a < 5 := by
                have : a ≠ 5 := fun e => k5 (by rw [e]; rfl)
                have : a ≠ 6 := fun e => k6 (by rw [e]; rfl)
                have : a ≠ 7 := fun e => k7 (by rw [e]; rfl)
                omega
              rw [its_eq (by omega) ha5, ob0_s]
    · refine Step.bey h ?_ ?_
      · simp only [f_X4_of, c1 σ rfl, c2, if_pos h1, if_neg h2, ob0_s, if_neg one_ne0, if_pos, cfd0, ob2_s]
      · simp only [f_X5_of, m1 (fdC σ 0) (fdC_o (by omega)), m2, if_pos h1, if_neg h2, ob0_s, if_neg one_ne0, if_pos, mfd0, ob2_s]
  · refine Step.bey h ?_ ?_
    · simp only [f_X4_of, c1 σ rfl, if_neg h1, ob0_s, if_pos, cfd0, ob2_s]
    · simp only [f_X5_of, m1 (fdC σ 0) (fdC_o (by omega)), if_neg h1, ob0_s, if_pos, mfd0, ob2_s]
theorem CR.at1 {n b p a : Nat} {σ : Sg} {s : Rw} (h : CR n b σ s) (hp : p < n) (ha : a < 5) : σ (b + 4 + p) a = s (10 + 5 * p + a) := h.2.2.2.2.2.2 p hp a ha
theorem csetA {q a : Nat} (ha : a < 5) (v : Int32) (σ : Sg) : f_X1_setAttribute q (nI a) v σ = some (up2 σ q a v) := by
  have c : a = 0 ∨ a = 1 ∨ a = 2 ∨ a = 3 ∨ a = 4 := by omega
  rcases c with rfl | rfl | rfl | rfl | rfl <;> rfl
theorem cmost {a : Nat} (ha : a < 5) (σ : Sg) : f_X4_mostOf (nI a) σ = some (nI (bnd a)) := by
  have c : a = 0 ∨ a = 1 ∨ a = 2 ∨ a = 3 ∨ a = 4 := by omega
  rcases c with rfl | rfl | rfl | rfl | rfl <;> rfl
theorem mmost {a : Nat} (ha : a < 5) (σ : Sg) : f_X5_greatestOf (nI a) σ = some (nI (bnd a)) := by
  have c : a = 0 ∨ a = 1 ∨ a = 2 ∨ a = 3 ∨ a = 4 := by omega
  rcases c with rfl | rfl | rfl | rfl | rfl <;> rfl
theorem bnd_lt (a : Nat) : bnd a < 10000 := by
  unfold bnd
  split
  · omega
  · split <;> omega
theorem op_change {n : Nat} {σ : Sg} (h : Inv n σ) (x w v : Int32) : Step n σ (f_X4_change x w v) (f_X5_change x w v) := by
  obtain ⟨⟨N, d, ok, hd, cr⟩, hz⟩ := id h.1
  have hN := ok.1
  have c1 : ∀ τ, τ 1 = σ 1 → f_X0_has 1 x τ = some (if 0 ≤ x.toInt ∧ x.toInt < (N : Int) then 1 else 0) := fun τ e => hasC hN (by rw [e]; exact cr.1.trans ok.2.1) x
  have m1 : ∀ τ, τ 50 = σ 50 → f_X5_isOne x τ = some (if 0 ≤ x.toInt ∧ x.toInt < (N : Int) then 1 else 0) := fun τ e => oneM hN (by rw [e]; exact ok.2.1) x
  have c2 : ∀ τ, f_X4_within w 0 4 τ = some (if 0 ≤ w.toInt ∧ w.toInt ≤ 4 then 1 else 0) := fun τ => wC (by decide) (by decide) τ
  have m2 : ∀ τ, f_X5_isIn w.toInt64 0 4 τ = some (if 0 ≤ w.toInt ∧ w.toInt ≤ 4 then 1 else 0) := fun τ => wM (by decide) (by decide) τ
  by_cases h1 : 0 ≤ x.toInt ∧ x.toInt < (N : Int)
  · by_cases h2 : 0 ≤ w.toInt ∧ w.toInt ≤ 4
    · obtain ⟨p, hp, rfl⟩ := nn_lt h1
      obtain ⟨a, ha, rfl⟩ := nn_of (b := 4) h2
      have hb := bnd_lt a
      have c3 : ∀ τ, f_X4_within v 0 (nI (bnd a)) τ = some (if 0 ≤ v.toInt ∧ v.toInt ≤ ((bnd a : Nat) : Int) then 1 else 0) := fun τ => wC (by decide) (nI_toInt (by omega)) τ
      have m3 : ∀ τ, f_X5_isIn v.toInt64 0 (nI (bnd a)).toInt64 τ = some (if 0 ≤ v.toInt ∧ v.toInt ≤ ((bnd a : Nat) : Int) then 1 else 0) := fun τ => wM (by decide) (by rw [Int32.toInt_toInt64, nI_toInt (by omega)]) τ
      by_cases h3 : 0 ≤ v.toInt ∧ v.toInt ≤ ((bnd a : Nat) : Int)
      · refine ⟨σ (1 + 4 + p) a, up2 σ (1 + 4 + p) a v, up2 (up2 σ (1 + 4 + p) a v) 50 (10 + 5 * p + a) v, ?_, ?_, ?_⟩
        · simp only [f_X4_change, c1 σ rfl, c2, c3, if_pos h1, if_pos h2, if_pos h3, ob0_s, if_neg one_ne0, cmost (show a < 5 by omega), chk_nI (show p < 8 by omega) (by omega), cl_nI (show p < 2 ^ 31 by omega), cattr (show a < 5 by omega), csetA (show a < 5 by omega), ob1_s]
        · simp only [f_X5_change, m1 (up2 σ (1 + 4 + p) a v) (up2_ne _ _ (by omega)), m2, m3, if_pos h1, if_pos h2, if_pos h3, ob0_s, if_neg one_ne0, mmost (show a < 5 by omega), at_eq, f_X5_becomes, chk_nI (show 10 + 5 * p + a < 60 by omega) (by omega), cl_nI (show 10 + 5 * p + a < 2 ^ 31 by omega), lt_s1, ob2_s]
          rw [up2_ne _ _ (by omega), cr.at1 hp (by omega)]
        · obtain ⟨vv, hv, rfl⟩ := nn_of h3
          refine h.main (fun k g1 g2 g3 g4 g5 g6 => by rw [up2_ne _ _ g2, up2_ne _ _ (by omega)]) ⟨by rw [up2_ne _ _ (by omega), up2_ne _ _ (by omega)], by rw [up2_ne _ _ (by omega), up2_ne _ _ (by omega)]⟩ ⟨⟨N, d, ?_, by omega, ?_⟩, ?_⟩
          · rw [up2_k, up2_ne _ _ (by omega)]
            exact Ok_person ok hp (by omega) ⟨vv, hv, rfl⟩
          · rw [up2_k, up2_ne _ _ (by omega)]
            exact (CR_p (b := 1) cr (show p < 8 by omega) (show a < 5 by omega)).same (fun k g1 g2 => up2_ne _ _ (by omega)) ok.1
          · rw [up2_ne _ _ (by omega), up2_ne _ _ (by omega)]; exact hz
      · refine Step.bey h ?_ ?_
        · simp only [f_X4_change, c1 σ rfl, c2, c3, if_pos h1, if_pos h2, if_neg h3, ob0_s, if_neg one_ne0, cmost (show a < 5 by omega), if_pos, cfd0, ob2_s]
        · simp only [f_X5_change, m1 (fdC σ 0) (fdC_o (by omega)), m2, m3, if_pos h1, if_pos h2, if_neg h3, ob0_s, if_neg one_ne0, mmost (show a < 5 by omega), if_pos, mfd0, ob2_s]
    · refine Step.bey h ?_ ?_
      · simp only [f_X4_change, c1 σ rfl, c2, if_pos h1, if_neg h2, ob0_s, if_neg one_ne0, if_pos, cfd0, ob2_s]
      · simp only [f_X5_change, m1 (fdC σ 0) (fdC_o (by omega)), m2, if_pos h1, if_neg h2, ob0_s, if_neg one_ne0, if_pos, mfd0, ob2_s]
  · refine Step.bey h ?_ ?_
    · simp only [f_X4_change, c1 σ rfl, if_neg h1, ob0_s, if_pos, cfd0, ob2_s]
    · simp only [f_X5_change, m1 (fdC σ 0) (fdC_o (by omega)), if_neg h1, ob0_s, if_pos, mfd0, ob2_s]
theorem op_seed {n : Nat} {σ : Sg} (h : Inv n σ) (v : Int32) : Step n σ (f_X4_seed v) (f_X5_seed v) := by
  obtain ⟨⟨N, d, ok, hd, cr⟩, hz⟩ := id h.1
  refine ⟨σ 1 6, up2 σ 1 6 v, up2 (up2 σ 1 6 v) 50 2 v, rfl, ?_, ?_⟩
  · rw [f_X5_seed, f_X5_becomes, show (2 : Int32) = nI 2 from rfl, chk_nI (by omega) (by omega), cl_nI (by omega), lt_s1, ob2_s, up2_ne _ _ (by omega), cr.2.2.1]
  · refine h.main (fun k g1 g2 g3 g4 g5 g6 => by rw [up2_ne _ _ g2, up2_ne _ _ (by omega)]) ⟨by rw [up2_ne _ _ (by omega), up2_ne _ _ (by omega)], by rw [up2_ne _ _ (by omega), up2_ne _ _ (by omega)]⟩ ⟨⟨N, d, ?_, by omega, ?_⟩, ?_⟩
    · rw [up2_k, up2_ne _ _ (by omega)]
      obtain ⟨h1, h2, h3, h4, h5, h6, h7⟩ := ok
      refine ⟨h1, ?_, ?_, ?_, fun i hi => ?_, fun q hq => ?_, fun i hi => ?_⟩
      · rw [upd_ne _ _ (by omega)]; exact h2
      · rw [upd_ne _ _ (by omega)]; exact h3
      · rw [upd_ne _ _ (by omega)]; exact h4
      · rw [upd_ne _ _ (by omega)]; exact h5 i hi
      · obtain ⟨g0, g1, g2, g3, g4⟩ := h6 q hq
        refine ⟨?_, ?_, ?_, ?_, ?_⟩
        all_goals (rw [upd_ne _ _ (by omega)]; assumption)
      · rw [upd_ne _ _ (by omega)]; exact h7 i hi
    · rw [up2_k, up2_ne _ _ (by omega)]
      exact (CR_f (b := 1) (i := 6) (j := 2) cr (by omega)).same (fun k g1 g2 => up2_ne _ _ (by omega)) ok.1
    · rw [up2_ne _ _ (by omega), up2_an _ _ (by omega)]; exact hz
theorem op_wipe {n : Nat} {σ : Sg} (h : Inv n σ) : Step n σ f_X4_wipe f_X5_wipe := by
  have h' := h.mono (show n ≤ n + 1 by omega)
  refine ⟨σ 37 1, up2 σ 37 1 0, up2 (up2 σ 37 1 0) 49 7 0, rfl, ?_, ?_⟩
  · rw [f_X5_wipe, lt_s1, up2_ne _ _ (by omega), h.2.2.2.1.1]
  · have e : ∀ k, k ≠ 37 → k ≠ 49 → up2 (up2 σ 37 1 0) 49 7 0 k = σ k := fun k a b => by rw [up2_ne _ _ b, up2_ne _ _ a]
    refine ⟨h'.1.same (fun k a b => e k (by omega) (by omega)) (e 50 (by omega) (by omega)), h'.2.1.same (by rw [e 0 (by omega) (by omega)]) (fun k a b => e k (by omega) (by omega)) (e 51 (by omega) (by omega)) (by rw [up2_an _ _ (by omega), up2_ne _ _ (by omega)]), h'.2.2.1.same (e 48 (by omega) (by omega)) (e 54 (by omega) (by omega)), ⟨?_, 0, by omega, ?_, fun i hi => by omega⟩, fun k hk => (h'.2.2.2.2 k hk).same (e _ (by omega) (by omega)) (e _ (by omega) (by omega)) (e 56 (by omega) (by omega)) (e 57 (by omega) (by omega)) (e 58 (by omega) (by omega))⟩
    · rw [up2_at, up2_ne _ _ (by omega), up2_at]
    · rw [up2_ne _ _ (by omega), up2_at]; rfl
theorem op_tear {n : Nat} {σ : Sg} (h : Inv n σ) : Step n σ f_X4_tear f_X5_tear := by
  have h' := h.mono (show n ≤ n + 1 by omega)
  have e6 := h.2.1.1
  refine ⟨if σ 0 6 = 0 then 0 else 1, up2 σ 0 6 0, up2 (up2 σ 0 6 0) 49 4 0, ?_, ?_, ?_⟩
  · rw [f_X4_tear]
    split <;> rfl
  · rw [f_X5_tear, lt_s1, up2_ne _ _ (by omega), ← e6]
    split <;> rfl
  · have e : ∀ k, k ≠ 0 → k ≠ 49 → up2 (up2 σ 0 6 0) 49 4 0 k = σ k := fun k a b => by rw [up2_ne _ _ b, up2_ne _ _ a]
    refine ⟨h'.1.same (fun k a b => e k (by omega) (by omega)) (e 50 (by omega) (by omega)), ⟨?_, Or.inl ?_⟩, h'.2.2.1.same (e 48 (by omega) (by omega)) (e 54 (by omega) (by omega)), h'.2.2.2.1.same (by rw [e 37 (by omega) (by omega)]) (e 38 (by omega) (by omega)) (by rw [up2_an _ _ (by omega), up2_ne _ _ (by omega)]) (e 55 (by omega) (by omega)), fun k hk => (h'.2.2.2.2 k hk).same (e _ (by omega) (by omega)) (e _ (by omega) (by omega)) (e 56 (by omega) (by omega)) (e 57 (by omega) (by omega)) (e 58 (by omega) (by omega))⟩
    · rw [up2_at, up2_ne _ _ (by omega), up2_at]
    · rw [up2_ne _ _ (by omega), up2_at]
