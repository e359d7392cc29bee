/-! now, count, status, go, gossip; what will be -/
theorem sum1 {n d b : Nat} {σ : Sg} {s : Rw} (hk : Ok n d s) (h : CR n b σ s) : f_X0_sumOf b 1 σ = some (sumR s 1 n) := csum (a := 1) hk h (by omega)
theorem sum3 {n d b : Nat} {σ : Sg} {s : Rw} (hk : Ok n d s) (h : CR n b σ s) : f_X0_sumOf b 3 σ = some (sumR s 3 n) := csum (a := 3) hk h (by omega)
theorem sum4 {n d b : Nat} {σ : Sg} {s : Rw} (hk : Ok n d s) (h : CR n b σ s) : f_X0_sumOf b 4 σ = some (sumR s 4 n) := csum (a := 4) hk h (by omega)
theorem msum1 {n : Nat} {σ : Sg} (hn : n ≤ 8) (h0 : σ 50 0 = nI n) : f_X5_sumOf 1 σ = some (sumR (σ 50) 1 n) := msum (a := 1) hn h0 (by omega)
theorem msum3 {n : Nat} {σ : Sg} (hn : n ≤ 8) (h0 : σ 50 0 = nI n) : f_X5_sumOf 3 σ = some (sumR (σ 50) 3 n) := msum (a := 3) hn h0 (by omega)
theorem msum4 {n : Nat} {σ : Sg} (hn : n ≤ 8) (h0 : σ 50 0 = nI n) : f_X5_sumOf 4 σ = some (sumR (σ 50) 4 n) := msum (a := 4) hn h0 (by omega)
theorem op_now {n : Nat} {σ : Sg} (h : Inv n σ) (x : Int32) : Step n σ (f_X4_now x) (f_X5_now x) := by
  obtain ⟨⟨N, d, ok, hd, cr⟩, hz⟩ := id h.1
  have hN := ok.1
  by_cases h7 : x = 0 ∨ x = 1 ∨ x = 2 ∨ x = 3 ∨ x = 4 ∨ x = 5 ∨ x = 6 ∨ x = 7
  · refine Step.val (r := if x = 0 then σ 50 1 else if x = 1 then sumR (σ 50) 1 N else if x = 2 then sumR (σ 50) 3 N else if x = 3 then σ 50 3 else if x = 4 then owR (σ 50) N else if x = 5 then enc (rbN (σ 50) (-1) N) else if x = 6 then sumR (σ 50) 4 N else if owR (σ 50) N = 0 then 1 else 0) (σ1 := σ) (σ2 := σ) h ?_ (Trl.rf σ) ?_ (ScM.rf σ)
    · simp only [f_X4_now, cr.2.1, cr.2.2.2.1, sum1 ok cr, sum3 ok cr, sum4 ok cr, cow ok cr, crb ok cr, ceven ok cr, ob0_s]
      rcases h7 with rfl | rfl | rfl | rfl | rfl | rfl | rfl | rfl
      · rfl
      · rfl
      · rfl
      · rfl
      · rfl
      · rfl
      · rfl
      · by_cases e : owR (σ 50) N = 0
        · simp only [if_pos e]; rfl
        · simp only [if_neg e]; rfl
    · simp only [f_X5_now, msum1 hN ok.2.1, msum3 hN ok.2.1, msum4 hN ok.2.1, mow hN ok.2.1, mrb hN _ σ ok.2.1, ob0_s]
      rcases h7 with rfl | rfl | rfl | rfl | rfl | rfl | rfl | rfl
      · rfl
      · rfl
      · rfl
      · rfl
      · rfl
      · rfl
      · rfl
      · by_cases e : owR (σ 50) N = 0
        · simp only [if_pos e]; rfl
        · simp only [if_neg e]; rfl
  · refine Step.bey h ?_ ?_
    · rw [f_X4_now, if_neg (by grind), if_neg (by grind), if_neg (by grind), if_neg (by grind), if_neg (by grind), if_neg (by grind), if_neg (by grind), if_neg (by grind), cfd0, ob2_s]
    · rw [f_X5_now, if_neg (by grind), if_neg (by grind), if_neg (by grind), if_neg (by grind), if_neg (by grind), if_neg (by grind), if_neg (by grind), if_neg (by grind), mfd0, ob2_s]
def spR (s : Rw) : Nat → Int32
  | 0 => 0
  | i + 1 => if s (50 + i) = -1 then spR s i else spR s i + 1
theorem cspots {n d b : Nat} {σ : Sg} {s : Rw} (hk : Ok n d s) (h : CR n b σ s) : f_X0_spotsInUse b σ = some (spR s 10) := by
  have key := loop_up (P := fun f i => f_X0_spotsInUse_L4 b f (spR s i) (nI i) σ = some (spR s 10)) 10
    (fun f => by rw [f_X0_spotsInUse_L4, if_pos (show (10 : Int32) ≤ nI 10 from by decide)])
    (fun f i hi ih => by
      rw [f_X0_spotsInUse_L4, if_neg (show ¬ (10 : Int32) ≤ nI i from nle (n := 10) hi (by omega)), chk_nI (by omega) (by omega), cl_nI (by omega), nI_1, h.2.2.2.2.2.1 i hi]
      rw [spR] at ih
      split
      · rename_i hc; rw [if_pos hc] at ih; exact ih
      · rename_i hc; rw [if_neg hc] at ih; exact ih)
  exact key FU 0 (by omega) (by rw [FU_eq]; omega)
theorem add_z (x : Int32) : x + 0 = x := by simp
theorem mspots {n d : Nat} {σ : Sg} (hk : Ok n d (σ 50)) : f_X5_count_L95 FU 0 0 σ = some (spR (σ 50) 10, σ) := by
  have key := loop_up (P := fun f i => f_X5_count_L95 f (spR (σ 50) i) (nI i) σ = some (spR (σ 50) 10, σ)) 10
    (fun f => by rw [f_X5_count_L95, if_pos (show (10 : Int32) ≤ nI 10 from by decide)])
    (fun f i hi ih => by
      rw [f_X5_count_L95, if_neg (show ¬ (10 : Int32) ≤ nI i from nle (n := 10) hi (by omega)), add50, chk_nI (by omega) (by omega), cl_nI (by omega), nI_1, add_z]
      rw [spR] at ih
      have hn := hk.1
      rcases hk.2.2.2.2.2.2 i hi with e | ⟨p, hp, e⟩
      · rw [if_pos e] at ih
        rw [e, if_neg (by decide)]
        exact ih
      · rw [if_neg (by rw [e]; exact nI_ne_m1 (by omega))] at ih
        rw [e, if_pos (nI_ge0 (by omega))]
        exact ih)
  exact key FU 0 (by omega) (by rw [FU_eq]; omega)
theorem op_count {n : Nat} {σ : Sg} (h : Inv n σ) (x : Int32) : Step n σ (f_X4_count x) (f_X5_count x) := by
  obtain ⟨⟨N, d, ok, hd, cr⟩, hz⟩ := id h.1
  have hN := ok.1
  by_cases h7 : x = 0 ∨ x = 1 ∨ x = 2 ∨ x = 3 ∨ x = 4 ∨ x = 5 ∨ x = 6 ∨ x = 7
  · refine Step.val (r := if x = 0 then σ 50 1 else if x = 1 then σ 50 0 else if x = 2 then sumR (σ 50) 1 N else if x = 3 then sumR (σ 50) 3 N else if x = 4 then σ 50 3 else if x = 5 then σ 49 7 else if x = 6 then σ 50 2 else spR (σ 50) 10) (σ1 := σ) (σ2 := σ) h ?_ (Trl.rf σ) ?_ (ScM.rf σ)
    · simp only [f_X4_count, cr.1, cr.2.1, cr.2.2.1, cr.2.2.2.1, sum1 ok cr, sum3 ok cr, cspots ok cr, h.2.2.2.1.1, ob0_s]
      rcases h7 with rfl | rfl | rfl | rfl | rfl | rfl | rfl | rfl <;> rfl
    · simp only [f_X5_count, msum1 hN ok.2.1, msum3 hN ok.2.1, mspots ok, ob0_s]
      rcases h7 with rfl | rfl | rfl | rfl | rfl | rfl | rfl | rfl <;> rfl
  · refine Step.bey h ?_ ?_
    · rw [f_X4_count, if_neg (by grind), if_neg (by grind), if_neg (by grind), if_neg (by grind), if_neg (by grind), if_neg (by grind), if_neg (by grind), if_neg (by grind), cfd0, ob2_s]
    · rw [f_X5_count, if_neg (by grind), if_neg (by grind), if_neg (by grind), if_neg (by grind), if_neg (by grind), if_neg (by grind), if_neg (by grind), if_neg (by grind), mfd0, ob2_s]
theorem m1_toInt : (-1 : Int32).toInt = -1 := by decide
theorem op_status {n : Nat} {σ : Sg} (h : Inv n σ) (x : Int32) : Step n σ (f_X4_status x) (f_X5_status x) := by
  obtain ⟨f1, f2⟩ := id h.2.2.1
  have c1 : ∀ τ, f_X4_within x 0 6 τ = some (if 0 ≤ x.toInt ∧ x.toInt ≤ 6 then 1 else 0) := fun τ => wC (by decide) (by decide) τ
  have m1 : ∀ τ, f_X5_isIn x.toInt64 (-1) 6 τ = some (if -1 ≤ x.toInt ∧ x.toInt ≤ 6 then 1 else 0) := fun τ => wM (by decide) (by decide) τ
  by_cases h1 : 0 ≤ x.toInt ∧ x.toInt ≤ 6
  · have h2 : -1 ≤ x.toInt ∧ x.toInt ≤ 6 := by omega
    obtain ⟨j, hj, rfl⟩ := nn_of (b := 6) h1
    refine Step.val (r := σ 48 j) (σ1 := σ) (σ2 := σ) h ?_ (Trl.rf σ) ?_ (ScM.rf σ)
    · simp only [f_X4_status, c1, if_pos h1, ob0_s, if_neg one_ne0, chk_nI (show j < 7 by omega) (by omega), cl_nI (show j < 2 ^ 31 by omega)]
    · simp only [f_X5_status, m1, if_pos h2, ob0_s, if_neg one_ne0, nI_1, chk_nI (show j + 1 < 8 by omega) (by omega), cl_nI (show j + 1 < 2 ^ 31 by omega)]
      rw [f1 j (by omega)]
  · by_cases h3 : x = -1
    · subst h3
      refine Step.val (r := σ 54 0) (σ1 := σ) (σ2 := σ) h ?_ (Trl.rf σ) ?_ (ScM.rf σ)
      · rw [f_X4_status, c1, if_neg h1, ob0_s, if_pos rfl, if_pos rfl, f2]
        have e0 : f_X4_status_L33 FU 0 0 σ = some (0 + σ 48 0 + σ 48 1 + σ 48 2 + σ 48 3 + σ 48 4 + σ 48 5 + σ 48 6, σ) := rfl
        rw [e0, Int32.zero_add]
      · rfl
    · have h2 : ¬ (-1 ≤ x.toInt ∧ x.toInt ≤ 6) := fun z => h3 (Int32.toInt_inj.mp (by rw [m1_toInt]; omega))
      refine Step.bey h ?_ ?_
      · rw [f_X4_status, c1, if_neg h1, ob0_s, if_pos rfl, if_neg h3, cfd0, ob2_s]
      · rw [f_X5_status, m1, if_neg h2, ob0_s, if_pos rfl, mfd0, ob2_s]
theorem le99999 {a : Nat} (h : a ≤ 99999) : nI a ≤ 99999 := nI_le (b := 99999) h (by omega)
theorem op_go {n : Nat} (hn : n < 512) {σ : Sg} (h : Inv n σ) (x : Int32) : Step n σ (f_X4_go x) (f_X5_go x) := by
  obtain ⟨⟨N, d, ok, hd, cr⟩, hz⟩ := id h.1
  have hN := ok.1
  have c1 : ∀ τ, f_X4_within x 1 60 τ = some (if 1 ≤ x.toInt ∧ x.toInt ≤ 60 then 1 else 0) := fun τ => wC (by decide) (by decide) τ
  have m1 : ∀ τ, f_X5_isIn x.toInt64 1 60 τ = some (if 1 ≤ x.toInt ∧ x.toInt ≤ 60 then 1 else 0) := fun τ => wM (by decide) (by decide) τ
  by_cases h1 : 1 ≤ x.toInt ∧ x.toInt ≤ 60
  · obtain ⟨k, hk, rfl⟩ := nn_of (x := x) (b := 60) ⟨by omega, h1.2⟩
    have okk := Ok_go (m := 0) ok k (by omega)
    obtain ⟨σ1, e1, cr1, fr⟩ := cgo 0 ok cr hz k (by omega) (by omega)
    have e50 : σ1 50 = σ 50 := fr.1 50 (by omega)
    refine ⟨sumR (goN N 0 k (σ 50)) 1 N, σ1, upr σ1 50 (goN N 0 k (σ 50)), ?_, ?_, ?_⟩
    · simp only [f_X4_go, c1, if_pos h1, ob0_s, if_neg one_ne0, cr.2.1, ok.2.2.1, nI_add, if_pos (le99999 (show d + k ≤ 99999 by omega)), e1, ob1_s, sum1 okk cr1]
    · have g := mgo (n := N) (d := d) (σ := σ1) (by rw [e50]; exact ok) k (by omega) (by omega)
      rw [e50] at g
      simp only [f_X5_go, m1, if_pos h1, ob0_s, if_neg one_ne0, e50, ok.2.2.1, nI_add, if_pos (le99999 (show d + k ≤ 99999 by omega)), g, ob1_s, msum1 (n := N) (σ := upr σ1 50 (goN N 0 k (σ 50))) hN (by rw [upr_at]; exact okk.2.1), upr_at]
    · refine h.main (fun k g1 g2 g3 g4 g5 g6 => by rw [upr_ne _ _ g2]; exact fr.1 k (by omega)) ⟨by rw [upr_ne _ _ (by omega), fr.1 49 (by omega)], by rw [upr_ne _ _ (by omega), fr.1 49 (by omega)]⟩ ⟨⟨N, d + k, ?_, by omega, ?_⟩, ?_⟩
      · rw [upr_at]; exact okk
      · rw [upr_at]; exact cr1.same (fun k g1 g2 => upr_ne _ _ (by omega)) hN
      · rw [upr_ne _ _ (by omega), fr.2]; exact hz
  · refine Step.bey h ?_ ?_
    · simp only [f_X4_go, c1, if_neg h1, ob0_s, if_pos, cfd0, ob2_s]
    · simp only [f_X5_go, m1, if_neg h1, ob0_s, if_pos, mfd0, ob2_s]
/-- the trial is the county, and days go by there -/
theorem tri {N d : Nat} {σ : Sg} {s : Rw} (ok : Ok N d s) (cr : CR N 1 σ s) (hz : σ 1 7 = 0) : ∃ τ, f_X0_become 25 1 σ = some τ ∧ CR N 25 τ s ∧ τ 25 7 = 0 ∧ Trl σ τ := by
  obtain ⟨τ, e, cr', z, f⟩ := cbecome (b := 25) (c := 1) ok cr (by omega)
  exact ⟨τ, e, cr', z.trans hz, fun k hk => f k (by omega)⟩
theorem CR.trl {N : Nat} {σ τ : Sg} {s : Rw} (cr : CR N 1 σ s) (hN : N ≤ 8) (h : Trl σ τ) : CR N 1 τ s := cr.same (fun k a b => h k (by omega)) hN
theorem op_hints {n : Nat} (hn : n < 512) {σ : Sg} (h : Inv n σ) (x : Int32) : Step n σ (f_X4_hints x) (f_X5_hints x) := by
  obtain ⟨⟨N, d, ok, hd, cr⟩, hz⟩ := id h.1
  have c1 : ∀ τ, f_X4_within x 0 100 τ = some (if 0 ≤ x.toInt ∧ x.toInt ≤ 100 then 1 else 0) := fun τ => wC (by decide) (by decide) τ
  have m1 : ∀ τ, f_X5_isIn x.toInt64 0 100 τ = some (if 0 ≤ x.toInt ∧ x.toInt ≤ 100 then 1 else 0) := fun τ => wM (by decide) (by decide) τ
  by_cases h1 : 0 ≤ x.toInt ∧ x.toInt ≤ 100
  · obtain ⟨k, hk, rfl⟩ := nn_of (b := 100) h1
    obtain ⟨τ, e0, cr0, z0, t0⟩ := tri ok cr hz
    obtain ⟨σ1, e1, cr1, fr⟩ := cgo 0 ok cr0 z0 k (by omega) (by omega)
    have t1 : Trl σ σ1 := t0.tr (Trl.of fr)
    have e50 : σ1 50 = σ 50 := t1 50 (by omega)
    refine Step.val (r := goN N 0 k (σ 50) 3) (σ1 := σ1) (σ2 := asd σ1) h ?_ t1 ?_ (ScM_asd _)
    · simp only [f_X4_hints, c1, if_pos h1, ob0_s, if_neg one_ne0, e0, ob1_s, e1, cr1.2.2.2.1]
    · have g := mthen (n := N) (d := d) (k := k) (pl := 3) (σ := σ1) (by rw [e50]; exact ok) (by omega) (by omega) (by omega)
      rw [e50] at g
      simp only [f_X5_hints, m1, if_pos h1, ob0_s, if_neg one_ne0, show (3 : Int32) = nI 3 from rfl, g, ob2_s]
  · refine Step.bey h ?_ ?_
    · simp only [f_X4_hints, c1, if_neg h1, ob0_s, if_pos, cfd0, ob2_s]
    · simp only [f_X5_hints, m1, if_neg h1, ob0_s, if_pos, mfd0, ob2_s]
theorem op_ahead {n : Nat} (hn : n < 512) {σ : Sg} (h : Inv n σ) (x w v : Int32) : Step n σ (f_X4_ahead x w v) (f_X5_ahead x w v) := by
  obtain ⟨⟨N, d, ok, hd, cr⟩, hz⟩ := id h.1
  have hN := ok.1
  have c1 : ∀ τ, τ 1 = σ 1 → f_X0_has 1 x τ = some (if 0 ≤ x.toInt ∧ x.toInt < (N : Int) then 1 else 0) := fun τ e => hasC hN (by rw [e]; exact cr.1.trans ok.2.1) x
  have m1 : ∀ τ, τ 50 = σ 50 → f_X5_isOne x τ = some (if 0 ≤ x.toInt ∧ x.toInt < (N : Int) then 1 else 0) := fun τ e => oneM hN (by rw [e]; exact ok.2.1) x
  have c2 : ∀ τ, f_X4_within v 0 100 τ = some (if 0 ≤ v.toInt ∧ v.toInt ≤ 100 then 1 else 0) := fun τ => wC (by decide) (by decide) τ
  have m2 : ∀ τ, f_X5_isIn v.toInt64 0 100 τ = some (if 0 ≤ v.toInt ∧ v.toInt ≤ 100 then 1 else 0) := fun τ => wM (by decide) (by decide) τ
  have m1f := m1 (fdC σ 0) (fdC_o (by omega))
  by_cases h1 : 0 ≤ x.toInt ∧ x.toInt < (N : Int)
  · by_cases hw : w = 1 ∨ w = 3 ∨ w = 4
    · by_cases h2 : 0 ≤ v.toInt ∧ v.toInt ≤ 100
      · obtain ⟨p, hp, rfl⟩ := nn_lt h1
        obtain ⟨k, hk, rfl⟩ := nn_of (b := 100) h2
        obtain ⟨a, ha, rfl⟩ : ∃ a : Nat, a < 5 ∧ w = nI a := by
          rcases hw with rfl | rfl | rfl
          · exact ⟨1, by omega, rfl⟩
          · exact ⟨3, by omega, rfl⟩
          · exact ⟨4, by omega, rfl⟩
        obtain ⟨τ, e0, cr0, z0, t0⟩ := tri ok cr hz
        obtain ⟨σ1, e1, cr1, fr⟩ := cgo 0 ok cr0 z0 k (by omega) (by omega)
        have t1 : Trl σ σ1 := t0.tr (Trl.of fr)
        have e50 : σ1 50 = σ 50 := t1 50 (by omega)
        have g := mthen (n := N) (d := d) (k := k) (pl := 10 + 5 * p + a) (σ := σ1) (by rw [e50]; exact ok) (by omega) (by omega) (by omega)
        rw [e50] at g
        refine Step.val (r := goN N 0 k (σ 50) (10 + 5 * p + a)) (σ1 := σ1) (σ2 := asd σ1) h ?_ t1 ?_ (ScM_asd _)
        · have body : (ob0 (f_X0_has 1 (nI p) σ) fun r3 => if r3 = 0 then ob2 (f_X4_found (-1000001) σ) fun r6 s7 => some (r6, s7) else ob0 (f_X4_within (nI k) 0 100 σ) fun r9 => if r9 = 0 then ob2 (f_X4_found (-1000001) σ) fun r12 s13 => some (r12, s13) else ob1 (f_X0_become 25 1 σ) fun s15 => ob1 (f_X0_passDays 25 (nI k) s15) fun s17 => chk (nI p) 8 (ob0 (f_X1_attribute (25 + 4 + (nI p).toNatClampNeg) (nI a) s17) fun r20 => some (r20, s17))) = some (goN N 0 k (σ 50) (10 + 5 * p + a), σ1) := by
            simp only [c1 σ rfl, c2, if_pos h1, if_pos h2, ob0_s, if_neg one_ne0, e0, ob1_s, e1, chk_nI (show p < 8 by omega) (by omega), cl_nI (show p < 2 ^ 31 by omega), cattr ha, cr1.at1 hp ha]
          rw [f_X4_ahead]
          rcases hw with e | e | e
          · rw [if_pos e]; exact body
          · rw [e, if_neg (by decide), if_pos rfl, ← e]; exact body
          · rw [e, if_neg (by decide), if_neg (by decide), if_pos rfl, ← e]; exact body
        · have body : (ob0 (f_X5_isIn (nI k).toInt64 (0 : Int64) (100 : Int64) σ1) fun r9 => if r9 = 0 then ob2 (f_X5_finds (-1000001) σ1) fun r12 s13 => some (r12, s13) else ob0 (f_X5_at (nI p) (nI a) σ1) fun r15 => ob2 (f_X5_thenAt r15 (nI k) σ1) fun r17 s18 => some (r17, s18)) = some (goN N 0 k (σ 50) (10 + 5 * p + a), asd σ1) := by
            simp only [m2, if_pos h2, ob0_s, if_neg one_ne0, at_eq, g, ob2_s]
          rw [f_X5_ahead, m1 σ1 e50, if_pos h1, ob0_s, if_neg one_ne0]
          rcases hw with e | e | e
          · rw [if_pos e]; exact body
          · rw [e, if_neg (by decide), if_pos rfl, ← e]; exact body
          · rw [e, if_neg (by decide), if_neg (by decide), if_pos rfl, ← e]; exact body
      · refine Step.bey h ?_ ?_
        · rw [f_X4_ahead]
          simp only [c1 σ rfl, c2, if_pos h1, if_neg h2, ob0_s, if_neg one_ne0, if_pos, cfd0, ob2_s]
          rcases hw with rfl | rfl | rfl <;> rfl
        · rw [f_X5_ahead]
          simp only [m1f, m2, if_pos h1, if_neg h2, ob0_s, if_neg one_ne0, if_pos, mfd0, ob2_s]
          rcases hw with rfl | rfl | rfl <;> rfl
    · refine Step.bey h ?_ ?_
      · rw [f_X4_ahead, if_neg (by grind), if_neg (by grind), if_neg (by grind), c1 σ rfl, if_pos h1, ob0_s, if_neg one_ne0, cfd0, ob2_s]
      · rw [f_X5_ahead, m1f, if_pos h1, ob0_s, if_neg one_ne0, if_neg (by grind), if_neg (by grind), if_neg (by grind), mfd0, ob2_s]
  · refine Step.bey h ?_ ?_
    · rw [f_X4_ahead]
      simp only [c1 σ rfl, if_neg h1, ob0_s, if_pos, cfd0, ob2_s]
      simp
    · rw [f_X5_ahead, m1f, if_neg h1, ob0_s, if_pos rfl, mfd0, ob2_s]
