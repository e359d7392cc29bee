/-! several days; sums; sets; copies -/
theorem cgo {n d b : Nat} (m : Int32) {σ : Sg} {s : Rw} (hk : Ok n d s) (h : CR n b σ s) (hm : σ b 7 = m) (k : Nat) (hdk : d + k ≤ 99999) (hk1 : k < 1000) : ∃ σ', f_X0_passDays b (nI k) σ = some σ' ∧ CR n b σ' (goN n m k s) ∧ FrC b σ σ' := by
  have key := loop_up (P := fun f i => ∀ τ, CR n b τ (goN n m i s) → FrC b σ τ → ∃ σ', f_X0_passDays_L2 b (nI k) f (nI i) τ = some σ' ∧ CR n b σ' (goN n m k s) ∧ FrC b σ σ') k
    (fun f τ hC hF => by
      rw [f_X0_passDays_L2, if_pos (nI_le (Nat.le_refl k) (by omega))]
      exact ⟨τ, rfl, hC, hF⟩)
    (fun f i hi ih τ hC hF => by
      rw [f_X0_passDays_L2, if_neg (nle hi (by omega)), nI_1]
      obtain ⟨σ', e, hC', hF'⟩ := cday (d := d + i) (by omega) m (Ok_go hk i (by omega)) hC (hF.2.trans hm)
      rw [e, ob1_s]
      exact ih σ' hC' (FrC.tr hF hF'))
  exact key FU 0 (Nat.zero_le k) (by rw [FU_eq]; omega) σ h (FrC.rf b σ)
theorem mgo {n d : Nat} {σ : Sg} (hk : Ok n d (σ 50)) (k : Nat) (hdk : d + k < 2 ^ 30) (hk1 : k < 1000) : f_X5_goes (nI k) σ = some (upr σ 50 (goN n 0 k (σ 50))) := by
  have key := loop_up (P := fun f i => f_X5_goes_L2 (nI k) f (nI i) (upr σ 50 (goN n 0 i (σ 50))) = some (upr σ 50 (goN n 0 k (σ 50)))) k
    (fun f => by rw [f_X5_goes_L2, if_pos (nI_le (Nat.le_refl k) (by omega))])
    (fun f i hi ih => by
      rw [f_X5_goes_L2, if_neg (nle hi (by omega)), nI_1, mdayOk (n := n) (d := d + i) (by omega) 0 _ (by rw [upr_at]; exact Ok_go hk i (by omega)), ob1_s, upr_at, upr_upr]
      exact ih)
  have := key FU 0 (Nat.zero_le k) (by rw [FU_eq]; omega)
  rw [show goN n 0 0 (σ 50) = σ 50 from rfl, upr_self] at this
  exact this
def sumR (s : Rw) (a : Nat) : Nat → Int32
  | 0 => 0
  | i + 1 => sumR s a i + s (10 + 5 * i + a)
theorem cattr {q a : Nat} (ha : a < 5) (σ : Sg) : f_X1_attribute q (nI a) σ = some (σ q a) := by
  have c : a = 0 ∨ a = 1 ∨ a = 2 ∨ a = 3 ∨ a = 4 := by omega
  rcases c with rfl | rfl | rfl | rfl | rfl <;> rfl
theorem csum {n d b a : Nat} {σ : Sg} {s : Rw} (hk : Ok n d s) (h : CR n b σ s) (ha : a < 5) : f_X0_sumOf b (nI a) σ = some (sumR s a n) := by
  have hn := hk.1
  have h0 : σ b 3 = nI n := h.1.trans hk.2.1
  have key := loop_up (P := fun f i => f_X0_sumOf_L4 b (nI a) f (sumR s a i) (nI i) σ = some (sumR s a n)) n
    (fun f => by rw [f_X0_sumOf_L4, h0, if_pos (nI_le (Nat.le_refl n) (by omega))])
    (fun f i hi ih => by
      rw [f_X0_sumOf_L4, h0, if_neg (nle hi (by omega)), chk_nI (by omega) (by omega), cl_nI (by omega), cattr ha, ob0_s, nI_1, h.2.2.2.2.2.2 i hi a ha]
      exact ih)
  exact key FU 0 (Nat.zero_le n) (by rw [FU_eq]; omega)
theorem msum {n a : Nat} {σ : Sg} (hn : n ≤ 8) (h0 : σ 50 0 = nI n) (ha : a < 5) : f_X5_sumOf (nI a) σ = some (sumR (σ 50) a n) := by
  have key := loop_up (P := fun f i => f_X5_sumOf_L4 (nI a) f (sumR (σ 50) a i) (nI i) σ = some (sumR (σ 50) a n)) n
    (fun f => by rw [f_X5_sumOf_L4, h0, if_pos (nI_le (Nat.le_refl n) (by omega))])
    (fun f i hi ih => by
      rw [f_X5_sumOf_L4, h0, if_neg (nle hi (by omega)), its_eq (by omega) ha, ob0_s, nI_1]
      exact ih)
  exact key FU 0 (Nat.zero_le n) (by rw [FU_eq]; omega)
def owR (s : Rw) : Nat → Int32
  | 0 => 0
  | i + 1 => if s (10 + 5 * i + 1) ≤ 0 then owR s i else owR s i ||| jshl 1 (nI i)
theorem cow {n d b : Nat} {σ : Sg} {s : Rw} (hk : Ok n d s) (h : CR n b σ s) : f_X0_owedSet b σ = some (owR s n) := by
  have hn := hk.1
  have h0 : σ b 3 = nI n := h.1.trans hk.2.1
  have key := loop_up (P := fun f i => f_X0_owedSet_L4 b f (owR s i) (nI i) σ = some (owR s n)) n
    (fun f => by rw [f_X0_owedSet_L4, h0, if_pos (nI_le (Nat.le_refl n) (by omega))])
    (fun f i hi ih => by
      rw [f_X0_owedSet_L4, h0, if_neg (nle hi (by omega)), chk_nI (by omega) (by omega), cl_nI (by omega), nI_1, (h.o hi).2.1]
      rw [owR] at ih
      split
      · rename_i hc; rw [if_pos hc] at ih; exact ih
      · rename_i hc; rw [if_neg hc] at ih; exact ih)
  exact key FU 0 (Nat.zero_le n) (by rw [FU_eq]; omega)
theorem or_z (x : Int32) : x ||| 0 = x := by
  apply Int32.toBitVec_inj.mp
  simp
theorem mow {n : Nat} {σ : Sg} (hn : n ≤ 8) (h0 : σ 50 0 = nI n) : f_X5_owedOnes σ = some (owR (σ 50) n) := by
  have key := loop_up (P := fun f i => f_X5_owedOnes_L4 f (owR (σ 50) i) (nI i) σ = some (owR (σ 50) n)) n
    (fun f => by rw [f_X5_owedOnes_L4, h0, if_pos (nI_le (Nat.le_refl n) (by omega))])
    (fun f i hi ih => by
      rw [f_X5_owedOnes_L4, h0, if_neg (nle hi (by omega)), its1 (by omega), ob0_s, nI_1, or_z]
      rw [owR] at ih
      split
      · rename_i hc; rw [if_pos hc] at ih; exact ih
      · rename_i hc; rw [if_neg hc] at ih; exact ih)
  exact key FU 0 (Nat.zero_le n) (by rw [FU_eq]; omega)
theorem ceven {n d b : Nat} {σ : Sg} {s : Rw} (hk : Ok n d s) (h : CR n b σ s) : f_X0_isEven b σ = some (if owR s n = 0 then 1 else 0) := by
  rw [f_X0_isEven, cow hk h, ob0_s]
  simp only [apply_ite some]
/-- a row of 60 copied -/
def cp60 (r t : Rw) : Rw := fun k => if k < 60 then r k else t k
def cpI (r t : Rw) (i : Nat) : Rw := fun k => if k < i then r k else t k
theorem mcopy {a c : Nat} (hac : a ≠ c) (σ : Sg) : f_X5_copyRow a c σ = some (upr σ c (cp60 (σ a) (σ c))) := by
  have key := loop_up (P := fun f i => f_X5_copyRow_L2 a c f (nI i) (upr σ c (cpI (σ a) (σ c) i)) = some (upr σ c (cp60 (σ a) (σ c)))) 60
    (fun f => by rw [f_X5_copyRow_L2, if_pos (show (60 : Int32) ≤ nI 60 from by decide)]; rfl)
    (fun f i hi ih => by
      rw [f_X5_copyRow_L2, if_neg (show ¬ (60 : Int32) ≤ nI i from nle (n := 60) hi (by omega)), chk_nI hi (by omega), cl_nI (by omega), lt_s1, nI_1, up2_upr, upr_upr, upr_at, upr_ne _ _ hac]
      rw [show upd (cpI (σ a) (σ c) i) i (σ a i) = cpI (σ a) (σ c) (i + 1) from by
        funext k
        unfold upd cpI
        by_cases h : k = i
        · subst h; simp
        · by_cases h2 : k < i
          · simp [h, h2, Nat.lt_succ_of_lt h2]
          · simp [h, h2, show ¬ k < i + 1 by omega]]
      exact ih)
  have := key FU 0 (by omega) (by rw [FU_eq]; omega)
  rw [show cpI (σ a) (σ c) 0 = σ c from by funext k; simp [cpI], upr_self] at this
  exact this
def asd (σ : Sg) : Sg := upr σ 53 (cp60 (σ 50) (σ 53))
theorem asd_50 (σ : Sg) : asd σ 50 = σ 50 := by rw [asd, upr_ne _ _ (by omega)]
theorem asd_asd (σ : Sg) : asd (asd σ) = asd σ := by
  have e : asd σ 53 = cp60 (σ 50) (σ 53) := by rw [asd, upr_at]
  rw [asd, asd_50, e]
  rw [asd, upr_upr]
  congr 1
  funext k
  unfold cp60
  by_cases h : k < 60 <;> simp [h]
theorem masd (σ : Sg) : f_X5_copyRow 50 53 σ = some (asd σ) := mcopy (by omega) σ
theorem mback {σ : Sg} {r : Rw} (hr : ∀ k, 60 ≤ k → r k = σ 50 k) : f_X5_copyRow 53 50 (upr (asd σ) 50 r) = some (asd σ) := by
  rw [mcopy (by omega), upr_at, upr_upr, upr_ne _ _ (by omega)]
  have e : cp60 (asd σ 53) r = asd σ 50 := by
    funext k
    rw [asd_50]
    unfold cp60
    by_cases h : k < 60
    · rw [if_pos h, asd, upr_at]
      simp [cp60, h]
    · rw [if_neg h]; exact hr k (by omega)
  rw [e, upr_self]
theorem mthen {n d k pl : Nat} {σ : Sg} (hk : Ok n d (σ 50)) (hdk : d + k < 2 ^ 30) (hk1 : k < 1000) (hpl : pl < 60) : f_X5_thenAt (nI pl) (nI k) σ = some (goN n 0 k (σ 50) pl, asd σ) := by
  have hk' : Ok n d (asd σ 50) := by rw [asd_50]; exact hk
  rw [f_X5_thenAt, masd, ob1_s, mgo hk' k hdk hk1, ob1_s, chk_nI hpl (by omega), asd_50, mback (fun j hj => goN_hi hk k hdk j hj), ob1_s, upr_at, cl_nI (by omega)]
/-- the trial becomes the county -/
theorem cp_ok {α : Type} {sp dp n : Int32} {n0 n1 : Nat} {s : Sg} {f : Sg → Option α} (h : (0 ≤ sp.toInt ∧ 0 ≤ dp.toInt ∧ 0 ≤ n.toInt ∧ sp.toInt + n.toInt ≤ (n0 : Int) ∧ dp.toInt + n.toInt ≤ (n1 : Int))) : cp sp dp n n0 n1 s f = f s := by
  rw [cp, if_pos h]
theorem cbecome {n d b c : Nat} {σ : Sg} {s : Rw} (hk : Ok n d s) (h : CR n c σ s) (hbc : b + 12 ≤ c ∨ c + 12 ≤ b) : ∃ σ', f_X0_become b c σ = some σ' ∧ CR n b σ' s ∧ σ' b 7 = σ c 7 ∧ ∀ k, (k < b ∨ b + 12 ≤ k) → σ' k = σ k := by
  have hn := hk.1
  obtain ⟨h1, h2, h3, h4, h5, h6, h7⟩ := id h
  have hz : (0 : Int32).toNatClampNeg = 0 := by decide
  have h6' : (6 : Int32).toNatClampNeg = 6 := by decide
  have h10' : (10 : Int32).toNatClampNeg = 10 := by decide
  rw [f_X0_become, cp_ok (by decide), cp_ok (by decide)]
  have eL : ∀ k, (k < b ∨ b + 12 ≤ k) → (cpyR (cpyR σ (c + 1) (b + 1) 0 0 6) (c + 3) (b + 3) 0 0 10) k = σ k := fun k hk => by
    rw [cpyR, upr_ne _ _ (by omega), cpyR, upr_ne _ _ (by omega)]
  have eB : (cpyR (cpyR σ (c + 1) (b + 1) 0 0 6) (c + 3) (b + 3) 0 0 10) b = σ b := by rw [cpyR, upr_ne _ _ (by omega), cpyR, upr_ne _ _ (by omega)]
  have e1 : ∀ i, i < 6 → (cpyR (cpyR σ (c + 1) (b + 1) 0 0 6) (c + 3) (b + 3) 0 0 10) (b + 1) i = s (4 + i) := fun i hi => by
    rw [cpyR, upr_ne _ _ (by omega), cpyR, upr_at, hz, h6', pk_cpy_in (by omega) (by omega), Nat.sub_zero, Nat.zero_add, h5 i hi]
  have e3 : ∀ i, i < 10 → (cpyR (cpyR σ (c + 1) (b + 1) 0 0 6) (c + 3) (b + 3) 0 0 10) (b + 3) i = s (50 + i) := fun i hi => by
    rw [cpyR, upr_at, hz, h10', pk_cpy_in (by omega) (by omega), Nat.sub_zero, Nat.zero_add, cpyR, upr_ne _ _ (by omega), h6 i hi]
  generalize cpyR (cpyR σ (c + 1) (b + 1) 0 0 6) (c + 3) (b + 3) 0 0 10 = τ0 at eL eB e1 e3
  have key := loop_up (P := fun f i => ∀ τ, (∀ k, (k < b ∨ b + 12 ≤ k) → τ k = σ k) → (∀ j, j < 6 → τ (b + 1) j = s (4 + j)) → (∀ j, j < 10 → τ (b + 3) j = s (50 + j)) → (∀ p, p < i → ∀ a, a < 5 → τ (b + 4 + p) a = s (10 + 5 * p + a)) → ∃ σ', f_X0_become_L32 b c f (nI i) τ = some σ' ∧ CR n b σ' s ∧ σ' b 7 = σ c 7 ∧ ∀ k, (k < b ∨ b + 12 ≤ k) → σ' k = σ k) n
    (fun f τ g1 g2 g3 g4 => by
      have gc : τ c = σ c := g1 c (by omega)
      rw [f_X0_become_L32, gc, h1, hk.2.1, if_pos (nI_le (Nat.le_refl n) (by omega))]
      simp only [lt_s1]
      refine ⟨_, rfl, ⟨?_, ?_, ?_, ?_, fun i hi => ?_, fun i hi => ?_, fun p hp a ha => ?_⟩, ?_, fun k hk => ?_⟩
      · simp [up2, upd, hk.2.1]
      · simp [up2, upd, show c ≠ b by omega, gc, h2]
      · simp [up2, upd, show c ≠ b by omega, gc, h3]
      · simp [up2, upd, show c ≠ b by omega, gc, h4]
      · rw [up2_ne _ _ (by omega), up2_ne _ _ (by omega), up2_ne _ _ (by omega), up2_ne _ _ (by omega), up2_ne _ _ (by omega)]; exact g2 i hi
      · rw [up2_ne _ _ (by omega), up2_ne _ _ (by omega), up2_ne _ _ (by omega), up2_ne _ _ (by omega), up2_ne _ _ (by omega)]; exact g3 i hi
      · rw [up2_ne _ _ (by omega), up2_ne _ _ (by omega), up2_ne _ _ (by omega), up2_ne _ _ (by omega), up2_ne _ _ (by omega)]; exact g4 p hp a ha
      · simp [up2, upd, show c ≠ b by omega, gc]
      · rw [up2_ne _ _ (by omega), up2_ne _ _ (by omega), up2_ne _ _ (by omega), up2_ne _ _ (by omega), up2_ne _ _ (by omega)]; exact g1 k hk)
    (fun f i hi ih τ g1 g2 g3 g4 => by
      have gc : τ c = σ c := g1 c (by omega)
      have gp : τ (c + 4 + i) = σ (c + 4 + i) := g1 _ (by omega)
      rw [f_X0_become_L32, gc, h1, hk.2.1, if_neg (nle hi (by omega)), chk_nI (by omega) (by omega), cl_nI (by omega), nI_1, f_X1_become]
      simp only [lt_s1, ob1_s]
      refine ih _ (fun k hk => ?_) (fun j hj => ?_) (fun j hj => ?_) (fun p hp a ha => ?_)
      · rw [up2_ne _ _ (by omega), up2_ne _ _ (by omega), up2_ne _ _ (by omega), up2_ne _ _ (by omega), up2_ne _ _ (by omega)]; exact g1 k hk
      · rw [up2_ne _ _ (by omega), up2_ne _ _ (by omega), up2_ne _ _ (by omega), up2_ne _ _ (by omega), up2_ne _ _ (by omega)]; exact g2 j hj
      · rw [up2_ne _ _ (by omega), up2_ne _ _ (by omega), up2_ne _ _ (by omega), up2_ne _ _ (by omega), up2_ne _ _ (by omega)]; exact g3 j hj
      · by_cases e : p = i
        · subst e
          have hb := h7 p hi a ha
          have ca : a = 0 ∨ a = 1 ∨ a = 2 ∨ a = 3 ∨ a = 4 := by omega
          rcases ca with rfl | rfl | rfl | rfl | rfl <;> simp [up2, upd, show c + 4 + p ≠ b + 4 + p by omega, show c ≠ b by omega, gp, hb]
        · rw [up2_ne _ _ (by omega), up2_ne _ _ (by omega), up2_ne _ _ (by omega), up2_ne _ _ (by omega), up2_ne _ _ (by omega)]; exact g4 p (by omega) a ha)
  exact key FU 0 (Nat.zero_le n) (by rw [FU_eq]; omega) τ0 eL e1 e3 (fun p hp => by omega)
