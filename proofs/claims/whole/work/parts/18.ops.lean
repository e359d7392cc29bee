/-! persons, spots, images, counts, days -/
theorem CR.row {n b : Nat} {σ : Sg} {s s' : Rw} (h : CR n b σ s) (hn : n ≤ 8) (e : ∀ k, k < 60 → s' k = s k) : CR n b σ s' := by
  obtain ⟨h1, h2, h3, h4, h5, h6, h7⟩ := h
  refine ⟨?_, ?_, ?_, ?_, fun j hj => ?_, fun j hj => ?_, fun q hq c hc => ?_⟩
  all_goals (rw [e _ (by omega)])
  · exact h1
  · exact h2
  · exact h3
  · exact h4
  · exact h5 j hj
  · exact h6 j hj
  · exact h7 q hq c hc
theorem Ok.row {n d : Nat} {s s' : Rw} (h : Ok n d s) (e : ∀ k, k < 60 → s' k = s k) : Ok n d s' := by
  obtain ⟨h1, h2, h3, h4, h5, h6, h7⟩ := h
  refine ⟨h1, ?_, ?_, ?_, fun i hi => ?_, fun q hq => ?_, fun i hi => ?_⟩
  · rw [e _ (by omega)]; exact h2
  · rw [e _ (by omega)]; exact h3
  · rw [e _ (by omega)]; exact h4
  · rw [e _ (by omega)]; exact h5 i hi
  · rw [e _ (by omega), e _ (by omega), e _ (by omega), e _ (by omega), e _ (by omega)]; exact h6 q hq
  · rw [e _ (by omega)]; exact h7 i hi
theorem CR.grow {n b : Nat} {σ : Sg} {s : Rw} (h : CR n b σ s) (hp : ∀ a, a < 5 → σ (b + 4 + n) a = s (10 + 5 * n + a)) : CR (n + 1) b σ s := by
  obtain ⟨h1, h2, h3, h4, h5, h6, h7⟩ := h
  refine ⟨h1, h2, h3, h4, h5, h6, fun q hq c hc => ?_⟩
  by_cases e : q = n
  · subst e; exact hp c hc
  · exact h7 q (by omega) c hc
def comesF (N : Nat) (s : Rw) (k b : Int32) : Rw := upd (upd (upd (upd (upd (upd s (10 + 5 * N) k) (10 + 5 * N + 1) 0) (10 + 5 * N + 2) b) (10 + 5 * N + 3) 0) (10 + 5 * N + 4) 0) 0 (nI (N + 1))
theorem mcomes {N : Nat} (hN : N < 8) (k b : Int32) (σ : Sg) (h0 : σ 50 0 = nI N) : f_X5_comes k b σ = some (upr σ 50 (comesF N (σ 50) k b)) := by
  simp only [f_X5_comes, h0, atv0, atv1, atv2, atv3, atv4, ob0_s, chk_nI (show 10 + 5 * N < 60 by omega) (by omega), chk_nI (show 10 + 5 * N + 1 < 60 by omega) (by omega), chk_nI (show 10 + 5 * N + 2 < 60 by omega) (by omega), chk_nI (show 10 + 5 * N + 3 < 60 by omega) (by omega), chk_nI (show 10 + 5 * N + 4 < 60 by omega) (by omega), cl_nI (show 10 + 5 * N < 2 ^ 31 by omega), cl_nI (show 10 + 5 * N + 1 < 2 ^ 31 by omega), cl_nI (show 10 + 5 * N + 2 < 2 ^ 31 by omega), cl_nI (show 10 + 5 * N + 3 < 2 ^ 31 by omega), cl_nI (show 10 + 5 * N + 4 < 2 ^ 31 by omega), lt_s1, up2_upr, upr_at, upr_upr, comesF]
  rw [upd_ne _ _ (show 0 ≠ 10 + 5 * N + 4 by omega), upd_ne _ _ (show 0 ≠ 10 + 5 * N + 3 by omega), upd_ne _ _ (show 0 ≠ 10 + 5 * N + 2 by omega), upd_ne _ _ (show 0 ≠ 10 + 5 * N + 1 by omega), upd_ne _ _ (show 0 ≠ 10 + 5 * N by omega), h0, nI_1]
theorem cadd {N d b : Nat} {σ : Sg} {s : Rw} (ok : Ok N d s) (cr : CR N b σ s) (hN : N < 8) (k u : Int32) : ∃ σ', f_X0_add b k u σ = some (nI N, σ') ∧ CR (N + 1) b σ' (comesF N s k u) ∧ FrC b σ σ' := by
  have h3 : σ b 3 = nI N := cr.1.trans ok.2.1
  have cr5 := CR_p (a := 4) (v := 0) (CR_p (a := 3) (v := 0) (CR_p (a := 2) (v := u) (CR_p (a := 1) (v := 0) (CR_p (a := 0) (v := k) cr hN (by omega)) hN (by omega)) hN (by omega)) hN (by omega)) hN (by omega)
  have cr6 : CR (N + 1) b _ _ := cr5.grow (fun a ha => by
    have c : a = 0 ∨ a = 1 ∨ a = 2 ∨ a = 3 ∨ a = 4 := by omega
    rcases c with rfl | rfl | rfl | rfl | rfl <;> simp [up2, upd])
  have hs : up2 (up2 (up2 (up2 (up2 σ (b + 4 + N) 0 k) (b + 4 + N) 1 0) (b + 4 + N) 2 u) (b + 4 + N) 3 0) (b + 4 + N) 4 0 b 3 = nI N := by
    rw [up2_ne _ _ (by omega), up2_ne _ _ (by omega), up2_ne _ _ (by omega), up2_ne _ _ (by omega), up2_ne _ _ (by omega)]; exact h3
  rw [f_X0_add, h3, if_pos (show nI N < 8 from nI_lt (b := 8) hN (by omega)), chk_nI hN (by omega), cl_nI (by omega), f_X1_begin]
  simp only [lt_s1, ob1_s, hs, up2_at]
  rw [nI_1, nI_pred]
  refine ⟨_, rfl, CR_f (i := 3) (j := 0) cr6 (by omega), ?_⟩
  exact FrC.tr (FrC.tr (FrC.tr (FrC.tr (FrC.tr (FrC.up (by omega) (by omega) (by omega)) (FrC.up (by omega) (by omega) (by omega))) (FrC.up (by omega) (by omega) (by omega))) (FrC.up (by omega) (by omega) (by omega))) (FrC.up (by omega) (by omega) (by omega))) (FrC.up (by omega) (by omega) (by omega))
theorem Ok_comes {N d : Nat} {s : Rw} (ok : Ok N d s) (hN : N < 8) {k u : Nat} (hk : k ≤ 6) (hu : u ≤ 99) : Ok (N + 1) d (comesF N s (nI k) (nI u)) := by
  obtain ⟨h1, h2, h3, h4, h5, h6, h7⟩ := ok
  unfold comesF
  refine ⟨by omega, upd_at _ _ _, ?_, ?_, fun i hi => ?_, fun q hq => ?_, fun i hi => ?_⟩
  · rw [upd_ne _ _ (by omega), upd_ne _ _ (by omega), upd_ne _ _ (by omega), upd_ne _ _ (by omega), upd_ne _ _ (by omega), upd_ne _ _ (by omega)]; exact h3
  · rw [upd_ne _ _ (by omega), upd_ne _ _ (by omega), upd_ne _ _ (by omega), upd_ne _ _ (by omega), upd_ne _ _ (by omega), upd_ne _ _ (by omega)]; exact h4
  · rw [upd_ne _ _ (by omega), upd_ne _ _ (by omega), upd_ne _ _ (by omega), upd_ne _ _ (by omega), upd_ne _ _ (by omega), upd_ne _ _ (by omega)]; exact h5 i hi
  · by_cases e : q = N
    · subst e
      refine ⟨⟨k, hk, ?_⟩, ⟨0, by omega, ?_⟩, ⟨u, hu, ?_⟩, ⟨0, by omega, ?_⟩, ⟨0, by omega, ?_⟩⟩
      · simp [upd]
      · simp [upd]; rfl
      · simp [upd]
      · simp [upd]; rfl
      · simp [upd]; rfl
    · have hq' : q < N := by omega
      obtain ⟨g0, g1, g2, g3, g4⟩ := h6 q hq'
      refine ⟨?_, ?_, ?_, ?_, ?_⟩
      all_goals (rw [upd_ne _ _ (by omega), upd_ne _ _ (by omega), upd_ne _ _ (by omega), upd_ne _ _ (by omega), upd_ne _ _ (by omega), upd_ne _ _ (by omega)]; assumption)
  · rw [upd_ne _ _ (by omega), upd_ne _ _ (by omega), upd_ne _ _ (by omega), upd_ne _ _ (by omega), upd_ne _ _ (by omega), upd_ne _ _ (by omega)]
    rcases h7 i hi with e | ⟨p, hp, e⟩
    · exact Or.inl e
    · exact Or.inr ⟨p, by omega, e⟩
theorem op_person {n : Nat} {σ : Sg} (h : Inv n σ) (x w : Int32) : Step n σ (f_X4_person x w) (f_X5_person x w) := by
  obtain ⟨⟨N, d, ok, hd, cr⟩, hz⟩ := id h.1
  have hN := ok.1
  have h3 : σ 1 3 = nI N := cr.1.trans ok.2.1
  have c1 : ∀ τ, f_X4_within x 0 6 τ = some (if 0 ≤ x.toInt ∧ x.toInt ≤ 6 then 1 else 0) := fun τ => wC (by decide) (by decide) τ
  have m1 : ∀ τ, f_X5_isIn x.toInt64 0 6 τ = some (if 0 ≤ x.toInt ∧ x.toInt ≤ 6 then 1 else 0) := fun τ => wM (by decide) (by decide) τ
  have c2 : ∀ τ, f_X4_within w 0 99 τ = some (if 0 ≤ w.toInt ∧ w.toInt ≤ 99 then 1 else 0) := fun τ => wC (by decide) (by decide) τ
  have m2 : ∀ τ, f_X5_isIn w.toInt64 0 99 τ = some (if 0 ≤ w.toInt ∧ w.toInt ≤ 99 then 1 else 0) := fun τ => wM (by decide) (by decide) τ
  by_cases h1 : 0 ≤ x.toInt ∧ x.toInt ≤ 6
  · by_cases h2 : 0 ≤ w.toInt ∧ w.toInt ≤ 99
    · by_cases h8 : N < 8
      · obtain ⟨k, hk, rfl⟩ := nn_of (b := 6) h1
        obtain ⟨u, hu, rfl⟩ := nn_of (b := 99) h2
        obtain ⟨σ1, e, cr', fr⟩ := cadd ok cr h8 (nI k) (nI u)
        have e50 : σ1 50 = σ 50 := fr.1 50 (by omega)
        have e0 : comesF N (σ 50) (nI k) (nI u) 0 = nI (N + 1) := by unfold comesF; exact upd_at _ _ _
        refine ⟨nI N, σ1, upr σ1 50 (comesF N (σ 50) (nI k) (nI u)), ?_, ?_, ?_⟩
        · simp only [f_X4_person, c1, c2, if_pos h1, if_pos h2, ob0_s, if_neg one_ne0, h3, if_pos (show nI N < 8 from nI_lt (b := 8) h8 (by omega)), e, ob2_s]
        · simp only [f_X5_person, m1, m2, if_pos h1, if_pos h2, ob0_s, if_neg one_ne0, e50, ok.2.1, if_neg (show ¬ nI N = 8 from fun z => by have := (nI_eq (b := 8) (by omega) (by omega)).mp z; omega), mcomes h8 (nI k) (nI u) σ1 (by rw [e50]; exact ok.2.1), ob1_s, upr_at, e0, nI_pred]
        · refine h.main (fun k g1 g2 g3 g4 g5 g6 => by rw [upr_ne _ _ g2]; exact fr.1 k (by omega)) ⟨by rw [upr_ne _ _ (by omega), fr.1 49 (by omega)], by rw [upr_ne _ _ (by omega), fr.1 49 (by omega)]⟩ ⟨⟨N + 1, d, ?_, by omega, ?_⟩, ?_⟩
          · rw [upr_at]; exact Ok_comes ok h8 hk hu
          · rw [upr_at]; exact cr'.same (fun k g1 g2 => upr_ne _ _ (by omega)) (by omega)
          · rw [upr_ne _ _ (by omega), fr.2]; exact hz
      · have e8 : N = 8 := by omega
        subst e8
        refine Step.find0 h (j := 1) (by omega) (r := -1000002) ?_ ?_
        · simp only [f_X4_person, c1, c2, if_pos h1, if_pos h2, ob0_s, if_neg one_ne0, h3, if_neg (show ¬ nI 8 < 8 from by decide), cfd1, ob2_s]
        · simp only [f_X5_person, m1, m2, if_pos h1, if_pos h2, ob0_s, if_neg one_ne0, fdC_o (show 50 ≠ 48 by omega), ok.2.1, if_pos (show nI 8 = 8 from rfl), mfd1, ob2_s]
    · refine Step.bey h ?_ ?_
      · simp only [f_X4_person, c1, c2, if_pos h1, if_neg h2, ob0_s, if_neg one_ne0, if_pos, cfd0, ob2_s]
      · simp only [f_X5_person, m1, m2, if_pos h1, if_neg h2, ob0_s, if_neg one_ne0, if_pos, mfd0, ob2_s]
  · refine Step.bey h ?_ ?_
    · simp only [f_X4_person, c1, if_neg h1, ob0_s, if_pos, cfd0, ob2_s]
    · simp only [f_X5_person, m1, if_neg h1, ob0_s, if_pos, mfd0, ob2_s]
theorem Ok_spot {n d i : Nat} {s : Rw} {v : Int32} (h : Ok n d s) (hi : i < 10) (hv : v = -1 ∨ ∃ p, p < n ∧ v = nI p) : Ok n d (upd s (50 + i) v) := by
  obtain ⟨h1, h2, h3, h4, h5, h6, h7⟩ := h
  refine ⟨h1, ?_, ?_, ?_, fun j hj => ?_, fun q hq => ?_, fun j hj => ?_⟩
  · rw [upd_ne _ _ (by omega)]; exact h2
  · rw [upd_ne _ _ (by omega)]; exact h3
  · rw [upd_ne _ _ (by omega)]; exact h4
  · rw [upd_ne _ _ (by omega)]; exact h5 j hj
  · obtain ⟨g0, g1, g2, g3, g4⟩ := h6 q hq
    refine ⟨?_, ?_, ?_, ?_, ?_⟩
    all_goals (rw [upd_ne _ _ (by omega)]; assumption)
  · by_cases e : j = i
    · subst e; rw [upd_at]; exact hv
    · rw [upd_ne _ _ (by omega)]; exact h7 j hj
theorem add50 (a : Nat) : 50 + nI a = nI (50 + a) := nI_add 50 a
theorem hold_st {n : Nat} {σ : Sg} (h : Inv n σ) {N d i : Nat} {v : Int32} (ok : Ok N d (σ 50)) (hd : d ≤ 60 * n) (cr : CR N 1 σ (σ 50)) (hi : i < 10) (hv : v = -1 ∨ ∃ p, p < N ∧ v = nI p) : Inv (n + 1) (up2 (up2 σ (1 + 3) i v) 50 (50 + i) v) := by
  have hz := h.1.2
  refine h.main (fun k g1 g2 g3 g4 g5 g6 => by rw [up2_ne _ _ g2, up2_ne _ _ (by omega)]) ⟨by rw [up2_ne _ _ (by omega), up2_ne _ _ (by omega)], by rw [up2_ne _ _ (by omega), up2_ne _ _ (by omega)]⟩ ⟨⟨N, d, ?_, by omega, ?_⟩, ?_⟩
  · rw [up2_k, up2_ne _ _ (by omega)]; exact Ok_spot ok hi hv
  · rw [up2_k, up2_ne _ _ (by omega)]
    exact (CR_s (b := 1) cr ok.1 hi).same (fun k g1 g2 => up2_ne _ _ (by omega)) ok.1
  · rw [up2_ne _ _ (by omega), up2_ne _ _ (by omega)]; exact hz
theorem op_hold {n : Nat} {σ : Sg} (h : Inv n σ) (x w : Int32) : Step n σ (f_X4_hold x w) (f_X5_hold x w) := by
  obtain ⟨⟨N, d, ok, hd, cr⟩, hz⟩ := id h.1
  have hN := ok.1
  have c1 : ∀ τ, f_X4_within x 0 9 τ = some (if 0 ≤ x.toInt ∧ x.toInt ≤ 9 then 1 else 0) := fun τ => wC (by decide) (by decide) τ
  have m1 : ∀ τ, f_X5_isIn x.toInt64 0 9 τ = some (if 0 ≤ x.toInt ∧ x.toInt ≤ 9 then 1 else 0) := fun τ => wM (by decide) (by decide) τ
  have c2 : ∀ τ, τ 1 = σ 1 → f_X0_has 1 w τ = some (if 0 ≤ w.toInt ∧ w.toInt < (N : Int) then 1 else 0) := fun τ e => hasC hN (by rw [e]; exact cr.1.trans ok.2.1) w
  have m2 : ∀ τ, τ 50 = σ 50 → f_X5_isOne w τ = some (if 0 ≤ w.toInt ∧ w.toInt < (N : Int) then 1 else 0) := fun τ e => oneM hN (by rw [e]; exact ok.2.1) w
  by_cases h1 : 0 ≤ x.toInt ∧ x.toInt ≤ 9
  · by_cases hm : w = -1
    · obtain ⟨i, hi, rfl⟩ := nn_of (b := 9) h1
      refine ⟨1, up2 σ (1 + 3) i w, up2 (up2 σ (1 + 3) i w) 50 (50 + i) w, ?_, ?_, hold_st h ok hd cr (by omega) (Or.inl hm)⟩
      · simp only [f_X4_hold, c1, if_pos h1, ob0_s, if_neg one_ne0, if_pos hm, chk_nI (show i < 10 by omega) (by omega), cl_nI (show i < 2 ^ 31 by omega), lt_s1]
      · simp only [f_X5_hold, m1, if_pos h1, ob0_s, if_neg one_ne0, if_pos hm, add50, chk_nI (show 50 + i < 60 by omega) (by omega), cl_nI (show 50 + i < 2 ^ 31 by omega), lt_s1]
    · by_cases h2 : 0 ≤ w.toInt ∧ w.toInt < (N : Int)
      · obtain ⟨i, hi, rfl⟩ := nn_of (b := 9) h1
        refine ⟨1, up2 σ (1 + 3) i w, up2 (up2 σ (1 + 3) i w) 50 (50 + i) w, ?_, ?_, hold_st h ok hd cr (by omega) (Or.inr (nn_lt h2))⟩
        · simp only [f_X4_hold, c1, c2 σ rfl, if_pos h1, if_pos h2, ob0_s, if_neg one_ne0, if_neg hm, chk_nI (show i < 10 by omega) (by omega), cl_nI (show i < 2 ^ 31 by omega), lt_s1]
        · simp only [f_X5_hold, m1, m2 (up2 σ (1 + 3) i w) (up2_ne _ _ (by omega)), if_pos h1, if_pos h2, ob0_s, if_neg one_ne0, if_neg hm, add50, chk_nI (show 50 + i < 60 by omega) (by omega), cl_nI (show 50 + i < 2 ^ 31 by omega), lt_s1]
      · refine Step.bey h ?_ ?_
        · simp only [f_X4_hold, c1, c2 σ rfl, if_pos h1, if_neg h2, ob0_s, if_neg one_ne0, if_neg hm, if_pos, cfd0, ob2_s]
        · simp only [f_X5_hold, m1, m2 (fdC σ 0) (fdC_o (by omega)), if_pos h1, if_neg h2, ob0_s, if_neg one_ne0, if_neg hm, if_pos, mfd0, ob2_s]
  · refine Step.bey h ?_ ?_
    · simp only [f_X4_hold, c1, if_neg h1, ob0_s, if_pos, cfd0, ob2_s]
    · simp only [f_X5_hold, m1, if_neg h1, ob0_s, if_pos, mfd0, ob2_s]
theorem kind_ok {k a : Nat} (hk : k ≤ 6) (ha : a ≤ 6) (q : Nat) (σ τ : Sg) (e : σ q 0 = nI k) : f_X1_isOfKind q (nI a) σ = f_X5_isUnder (nI k) (nI a) τ := by
  rw [f_X1_isOfKind, e]
  have ck : k = 0 ∨ k = 1 ∨ k = 2 ∨ k = 3 ∨ k = 4 ∨ k = 5 ∨ k = 6 := by omega
  have ca : a = 0 ∨ a = 1 ∨ a = 2 ∨ a = 3 ∨ a = 4 ∨ a = 5 ∨ a = 6 := by omega
  rcases ck with rfl | rfl | rfl | rfl | rfl | rfl | rfl <;> rcases ca with rfl | rfl | rfl | rfl | rfl | rfl | rfl <;> rfl
theorem under_01 {k a : Nat} (hk : k ≤ 6) (ha : a ≤ 6) (τ : Sg) : ∃ r : Int32, f_X5_isUnder (nI k) (nI a) τ = some r ∧ (r = 0 ∨ r = 1) := by
  have ck : k = 0 ∨ k = 1 ∨ k = 2 ∨ k = 3 ∨ k = 4 ∨ k = 5 ∨ k = 6 := by omega
  have ca : a = 0 ∨ a = 1 ∨ a = 2 ∨ a = 3 ∨ a = 4 ∨ a = 5 ∨ a = 6 := by omega
  rcases ck with rfl | rfl | rfl | rfl | rfl | rfl | rfl <;> rcases ca with rfl | rfl | rfl | rfl | rfl | rfl | rfl <;> first | exact ⟨0, rfl, Or.inl rfl⟩ | exact ⟨1, rfl, Or.inr rfl⟩
theorem under_o (x y : Int32) (σ τ : Sg) : f_X5_isUnder x y σ = f_X5_isUnder x y τ := rfl
theorem op_as {n : Nat} {σ : Sg} (h : Inv n σ) (x w : Int32) : Step n σ (f_X4_as x w) (f_X5_as x w) := by
  obtain ⟨⟨N, d, ok, hd, cr⟩, hz⟩ := id h.1
  have hN := ok.1
  have c1 : ∀ τ, f_X4_within x 0 9 τ = some (if 0 ≤ x.toInt ∧ x.toInt ≤ 9 then 1 else 0) := fun τ => wC (by decide) (by decide) τ
  have m1 : ∀ τ, f_X5_isIn x.toInt64 0 9 τ = some (if 0 ≤ x.toInt ∧ x.toInt ≤ 9 then 1 else 0) := fun τ => wM (by decide) (by decide) τ
  have c2 : ∀ τ, f_X4_within w 0 6 τ = some (if 0 ≤ w.toInt ∧ w.toInt ≤ 6 then 1 else 0) := fun τ => wC (by decide) (by decide) τ
  have m2 : ∀ τ, f_X5_isIn w.toInt64 0 6 τ = some (if 0 ≤ w.toInt ∧ w.toInt ≤ 6 then 1 else 0) := fun τ => wM (by decide) (by decide) τ
  by_cases h1 : 0 ≤ x.toInt ∧ x.toInt ≤ 9
  · by_cases h2 : 0 ≤ w.toInt ∧ w.toInt ≤ 6
    · obtain ⟨i, hi, rfl⟩ := nn_of (b := 9) h1
      obtain ⟨a, ha, rfl⟩ := nn_of (b := 6) h2
      have es := cr.2.2.2.2.2.1 i (by omega)
      rcases ok.2.2.2.2.2.2 i (by omega) with e | ⟨p, hp, e⟩
      · refine Step.find0 h (j := 5) (by omega) (r := -1000006) ?_ ?_
        · simp only [f_X4_as, c1, c2, if_pos h1, if_pos h2, ob0_s, if_neg one_ne0, chk_nI (show i < 10 by omega) (by omega), cl_nI (show i < 2 ^ 31 by omega), es, e, chas_m1, if_pos, cfd5, ob2_s]
        · simp only [f_X5_as, m1, m2, if_pos h1, if_pos h2, ob0_s, if_neg one_ne0, add50, chk_nI (show 50 + i < 60 by omega) (by omega), cl_nI (show 50 + i < 2 ^ 31 by omega), fdC_o (show 50 ≠ 48 by omega), e, if_neg (show ¬ (0 : Int32) ≤ -1 by decide), mfd5, ob2_s]
      · obtain ⟨⟨k, hk, ek⟩, -⟩ := ok.2.2.2.2.2.1 p hp
        obtain ⟨r, er, hr⟩ := under_01 hk ha σ
        have ck := kind_ok hk ha (1 + 4 + p) σ σ (by rw [(cr.o hp).1]; exact ek)
        rcases hr with rfl | rfl
        · refine Step.find0 h (j := 2) (by omega) (r := -1000003) ?_ ?_
          · simp only [f_X4_as, c1, c2, if_pos h1, if_pos h2, ob0_s, if_neg one_ne0, chk_nI (show i < 10 by omega) (by omega), cl_nI (show i < 2 ^ 31 by omega), es, e, chas hN (cr.1.trans ok.2.1) p (by omega), if_pos hp, chk_nI (show p < 8 by omega) (by omega), cl_nI (show p < 2 ^ 31 by omega), ck, er, if_pos, cfd2, ob2_s]
          · simp only [f_X5_as, m1, m2, if_pos h1, if_pos h2, ob0_s, if_neg one_ne0, add50, chk_nI (show 50 + i < 60 by omega) (by omega), cl_nI (show 50 + i < 2 ^ 31 by omega), fdC_o (show 50 ≠ 48 by omega), e, if_pos (nI_ge0 (show p < 2 ^ 31 by omega)), its0 (show p < 8 by omega), ek, under_o _ _ (fdC σ 2) σ, er, if_pos, mfd2, ob2_s]
        · refine Step.val (r := nI p) (σ1 := σ) (σ2 := σ) h ?_ (Trl.rf σ) ?_ (ScM.rf σ)
          · simp only [f_X4_as, c1, c2, if_pos h1, if_pos h2, ob0_s, if_neg one_ne0, chk_nI (show i < 10 by omega) (by omega), cl_nI (show i < 2 ^ 31 by omega), es, e, chas hN (cr.1.trans ok.2.1) p (by omega), if_pos hp, chk_nI (show p < 8 by omega) (by omega), cl_nI (show p < 2 ^ 31 by omega), ck, er]
          · simp only [f_X5_as, m1, m2, if_pos h1, if_pos h2, ob0_s, if_neg one_ne0, add50, chk_nI (show 50 + i < 60 by omega) (by omega), cl_nI (show 50 + i < 2 ^ 31 by omega), e, if_pos (nI_ge0 (show p < 2 ^ 31 by omega)), its0 (show p < 8 by omega), ek, er]
    · refine Step.bey h ?_ ?_
      · simp only [f_X4_as, c1, c2, if_pos h1, if_neg h2, ob0_s, if_neg one_ne0, if_pos, cfd0, ob2_s]
      · simp only [f_X5_as, m1, m2, if_pos h1, if_neg h2, ob0_s, if_neg one_ne0, if_pos, mfd0, ob2_s]
  · refine Step.bey h ?_ ?_
    · simp only [f_X4_as, c1, if_neg h1, ob0_s, if_pos, cfd0, ob2_s]
    · simp only [f_X5_as, m1, if_neg h1, ob0_s, if_pos, mfd0, ob2_s]
theorem op_image {n : Nat} {σ : Sg} (h : Inv n σ) : Step n σ f_X4_image f_X5_image := by
  obtain ⟨⟨N, d, ok, hd, cr⟩, hz⟩ := id h.1
  have h' := h.mono (show n ≤ n + 1 by omega)
  obtain ⟨σ1, e1, cr1, z1, f1⟩ := cbecome (b := 13) (c := 1) ok cr (by omega)
  have g : ∀ k, k ≠ 0 → ¬ (13 ≤ k ∧ k < 25) → up2 σ1 0 6 1 k = σ k := fun k a b => by rw [up2_ne _ _ a]; exact f1 k (by omega)
  refine ⟨1, up2 σ1 0 6 1, up2 (upr (up2 σ1 0 6 1) 51 (cp60 (σ 50) (σ 51))) 49 4 1, ?_, ?_, ?_⟩
  · rw [f_X4_image, e1, ob1_s, lt_s1]
  · rw [f_X5_image, mcopy (by omega), ob1_s, lt_s1, g 50 (by omega) (by omega), g 51 (by omega) (by omega)]
  · have e : ∀ k, k ≠ 0 → ¬ (13 ≤ k ∧ k < 25) → k ≠ 49 → k ≠ 51 → up2 (upr (up2 σ1 0 6 1) 51 (cp60 (σ 50) (σ 51))) 49 4 1 k = σ k := fun k a b c d => by rw [up2_ne _ _ c, upr_ne _ _ d]; exact g k a b
    have e13 : ∀ k, 13 ≤ k → k < 25 → up2 (upr (up2 σ1 0 6 1) 51 (cp60 (σ 50) (σ 51))) 49 4 1 k = σ1 k := fun k a b => by rw [up2_ne _ _ (by omega), upr_ne _ _ (by omega), up2_ne _ _ (by omega)]
    refine ⟨h'.1.same (fun k a b => e k (by omega) (by omega) (by omega) (by omega)) (e 50 (by omega) (by omega) (by omega) (by omega)), ⟨?_, Or.inr ⟨?_, ⟨N, d, ?_, by omega, ?_⟩, ?_⟩⟩, h'.2.2.1.same (e 48 (by omega) (by omega) (by omega) (by omega)) (e 54 (by omega) (by omega) (by omega) (by omega)), h'.2.2.2.1.same (by rw [e 37 (by omega) (by omega) (by omega) (by omega)]) (e 38 (by omega) (by omega) (by omega) (by omega)) (by rw [up2_an _ _ (by omega), upr_ne _ _ (by omega), g 49 (by omega) (by omega)]) (e 55 (by omega) (by omega) (by omega) (by omega)), fun k hk => (h'.2.2.2.2 k hk).same (e _ (by omega) (by omega) (by omega) (by omega)) (e _ (by omega) (by omega) (by omega) (by omega)) (e 56 (by omega) (by omega) (by omega) (by omega)) (e 57 (by omega) (by omega) (by omega) (by omega)) (e 58 (by omega) (by omega) (by omega) (by omega))⟩
    · rw [up2_at, up2_ne _ _ (by omega), upr_ne _ _ (by omega), up2_at]
    · rw [up2_ne _ _ (by omega), upr_ne _ _ (by omega), up2_at]
    · rw [up2_ne _ _ (by omega), upr_at]; exact ok.row (fun k hk => by simp [cp60, hk])
    · rw [up2_ne _ _ (show 51 ≠ 49 by omega), upr_at]
      exact (cr1.row ok.1 (fun k hk => by simp [cp60, hk])).same (fun k a b => e13 k (by omega) (by omega)) ok.1
    · rw [e13 13 (by omega) (by omega), z1]; exact hz
theorem op_undo {n : Nat} {σ : Sg} (h : Inv n σ) : Step n σ f_X4_undo f_X5_undo := by
  obtain ⟨hk4, hk⟩ := id h.2.1
  rcases hk with hk | ⟨hk, ⟨N, d, ok, hd, cr⟩, hz⟩
  · refine Step.find0 h (j := 3) (by omega) (r := -1000004) ?_ ?_
    · rw [f_X4_undo, if_pos hk, cfd3, ob2_s]
    · rw [f_X5_undo, fdC_o (by omega), ← hk4, if_pos hk, mfd3, ob2_s]
  · obtain ⟨σ1, e1, cr1, z1, f1⟩ := cbecome (b := 1) (c := 13) ok cr (by omega)
    have e50 := f1 50 (by omega)
    have e51 := f1 51 (by omega)
    have c50 : cp60 (σ 51) (σ 50) 1 = σ 51 1 := by simp [cp60]
    refine ⟨σ1 1 5, σ1, upr σ1 50 (cp60 (σ 51) (σ 50)), ?_, ?_, ?_⟩
    · rw [f_X4_undo, if_neg (by rw [hk]; decide), e1, ob1_s]
    · rw [f_X5_undo, f1 49 (by omega), ← hk4, if_neg (by rw [hk]; decide), mcopy (by omega), ob1_s, upr_at, e50, e51, c50, cr1.2.1]
    · refine h.main (fun k g1 g2 g3 g4 g5 g6 => by rw [upr_ne _ _ g2]; exact f1 k (by omega)) ⟨by rw [upr_ne _ _ (by omega), f1 49 (by omega)], by rw [upr_ne _ _ (by omega), f1 49 (by omega)]⟩ ⟨⟨N, d, ?_, by omega, ?_⟩, ?_⟩
      · rw [upr_at]; exact ok.row (fun k hk => by simp [cp60, hk])
      · rw [upr_at]; exact (cr1.row ok.1 (fun k hk => by simp [cp60, hk])).same (fun k g1 g2 => upr_ne _ _ (by omega)) ok.1
      · rw [upr_ne _ _ (by omega), z1]; exact hz
