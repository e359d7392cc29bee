/-! weightFor, buildFor, kindFor -/
def EvK (N k : Nat) (s : Rw) : Prop := ∃ i, i < k ∧ owR (goN N 0 (i + 1) s) N = 0
theorem cew {N d k : Nat} {τ : Sg} {s : Rw} (ok : Ok N d s) (hdk : d + k ≤ 99999) (hk : k < 900) (cr : CR N 25 τ s) (hz : τ 25 7 = 0) : ∃ r τ', f_X0_isEvenWithin 25 (nI k) τ = some (r, τ') ∧ FrC 25 τ τ' ∧ ((EvK N k s ∧ r = 1) ∨ (¬ EvK N k s ∧ r = 0)) := by
  have key := loop_up (P := fun f i => ∀ ρ, CR N 25 ρ (goN N 0 i s) → FrC 25 τ ρ → (∀ j, j < i → ¬ owR (goN N 0 (j + 1) s) N = 0) → ∃ r τ', f_X0_isEvenWithin_L2 25 (nI k) f (nI i) ρ = some (r, τ') ∧ FrC 25 τ τ' ∧ ((EvK N k s ∧ r = 1) ∨ (¬ EvK N k s ∧ r = 0))) k
    (fun f ρ c fr hq => by
      rw [f_X0_isEvenWithin_L2, if_pos (nI_le (Nat.le_refl k) (by omega))]
      exact ⟨0, ρ, rfl, fr, Or.inr ⟨fun ⟨i, hi, q⟩ => hq i hi q, rfl⟩⟩)
    (fun f i hi ih ρ c fr hq => by
      have oki := Ok_go (m := 0) ok i (by omega)
      obtain ⟨ρ', e, c', f'⟩ := cday (d := d + i) (by omega) 0 oki c (fr.2.trans hz)
      have oki1 := Ok_go (m := 0) ok (i + 1) (by omega)
      have c1 : CR N 25 ρ' (goN N 0 (i + 1) s) := c'
      rw [f_X0_isEvenWithin_L2, if_neg (nle hi (by omega)), e, ob1_s, ceven oki1 c1, ob0_s, nI_1]
      by_cases q : owR (goN N 0 (i + 1) s) N = 0
      · rw [if_pos q, if_neg one_ne0]
        exact ⟨1, ρ', rfl, fr.tr f', Or.inl ⟨⟨i, hi, q⟩, rfl⟩⟩
      · rw [if_neg q, if_pos rfl]
        refine ih ρ' c1 (fr.tr f') (fun j hj => ?_)
        by_cases e2 : j = i
        · subst e2; exact q
        · exact hq j (by omega))
  exact key FU 0 (Nat.zero_le k) (by rw [FU_eq]; omega) τ cr (FrC.rf 25 τ) (fun j hj => by omega)
theorem mew {N d k : Nat} {σ : Sg} (ok : Ok N d (σ 50)) (hdk : d + k ≤ 99999) (hk : k < 900) : ∃ r j, j ≤ k ∧ f_X5_isEvenOnce (nI k) σ = some (r, upr σ 50 (goN N 0 j (σ 50))) ∧ ((EvK N k (σ 50) ∧ r = 1) ∨ (¬ EvK N k (σ 50) ∧ r = 0)) := by
  have key := loop_up (P := fun f i => i ≤ k → (∀ j, j < i → ¬ owR (goN N 0 (j + 1) (σ 50)) N = 0) → ∃ r j, j ≤ k ∧ f_X5_isEvenOnce_L4 (nI k) (f + 1) 0 (nI i) (upr σ 50 (goN N 0 i (σ 50))) = some (r, upr σ 50 (goN N 0 j (σ 50))) ∧ ((EvK N k (σ 50) ∧ r = 1) ∨ (¬ EvK N k (σ 50) ∧ r = 0))) k
    (fun f _ hq => by
      rw [f_X5_isEvenOnce_L4, if_pos (nI_le (Nat.le_refl k) (by omega))]
      exact ⟨0, k, Nat.le_refl k, rfl, Or.inr ⟨fun ⟨i, hi, q⟩ => hq i hi q, rfl⟩⟩)
    (fun f i hi ih _ hq => by
      have oki := Ok_go (m := 0) ok i (by omega)
      have oki1 := Ok_go (m := 0) ok (i + 1) (by omega)
      rw [f_X5_isEvenOnce_L4, if_neg (nle hi (by omega)), if_pos rfl, mdayOk (n := N) (d := d + i) (by omega) 0 _ (by rw [upr_at]; exact oki), ob1_s, upr_at, upr_upr]
      rw [show dayF N 0 (goN N 0 i (σ 50)) = goN N 0 (i + 1) (σ 50) from rfl, mow (n := N) ok.1 (by rw [upr_at]; exact oki1.2.1), ob0_s, upr_at, nI_1]
      by_cases q : owR (goN N 0 (i + 1) (σ 50)) N = 0
      · rw [if_pos q]
        refine ⟨1, i + 1, by omega, ?_, Or.inl ⟨⟨i, hi, q⟩, rfl⟩⟩
        rw [f_X5_isEvenOnce_L4]
        split
        · rfl
        · rfl
      · rw [if_neg q]
        refine ih (by omega) (fun j hj => ?_)
        by_cases e2 : j = i
        · subst e2; exact q
        · exact hq j (by omega))
  have := key 999 0 (Nat.zero_le k) (by omega) (by omega) (fun j hj => by omega)
  rw [show goN N 0 0 (σ 50) = σ 50 from rfl, upr_self] at this
  exact this
def yW (i : Nat) : Int32 := if i ≤ 20 then nI (20 - i) else -1
theorem yW_step {i : Nat} (h : i < 21) : yW i + (-1) = yW (i + 1) := by
  unfold yW
  rw [if_pos (by omega)]
  by_cases e : i = 20
  · subst e; decide
  · rw [if_pos (by omega), show 20 - i = (20 - (i + 1)) + 1 by omega, pk_m1]
theorem yW_at {i : Nat} (h : i < 21) : yW i = nI (20 - i) := by unfold yW; rw [if_pos (by omega)]
theorem yW_21 : yW 21 = -1 := rfl
theorem cwf {N d k : Nat} {σ : Sg} {s : Rw} (ok : Ok N d s) (hdk : d + k ≤ 99999) (hk : k < 900) (cr : CR N 1 σ s) (hz : σ 1 7 = 0) {w x : Nat} (hw : w < 8) (hx : x ≤ 20) (es : s (4 + d % 6) = nI (100 * w + x)) : ∃ τ, Trl σ τ ∧ ((∃ i, i < 21 ∧ EvK N k (upd s (4 + d % 6) (nI (100 * w + (20 - i)))) ∧ (∀ j, j < i → ¬ EvK N k (upd s (4 + d % 6) (nI (100 * w + (20 - j))))) ∧ f_X4_weightFor_L20 (nI k) FU 20 σ = some (nI (20 - i), τ)) ∨ ((∀ i, i < 21 → ¬ EvK N k (upd s (4 + d % 6) (nI (100 * w + (20 - i))))) ∧ f_X4_weightFor_L20 (nI k) FU 20 σ = some (-1000004, fdC τ 3))) := by
  have hN := ok.1
  have hl : d % 6 < 6 := Nat.mod_lt _ (by omega)
  have key := loop_up (P := fun f i => ∀ ρ, Trl σ ρ → (∀ j, j < i → ¬ EvK N k (upd s (4 + d % 6) (nI (100 * w + (20 - j))))) → ∃ τ, Trl σ τ ∧ ((∃ i', i' < 21 ∧ EvK N k (upd s (4 + d % 6) (nI (100 * w + (20 - i')))) ∧ (∀ j, j < i' → ¬ EvK N k (upd s (4 + d % 6) (nI (100 * w + (20 - j))))) ∧ f_X4_weightFor_L20 (nI k) f (yW i) ρ = some (nI (20 - i'), τ)) ∨ ((∀ i', i' < 21 → ¬ EvK N k (upd s (4 + d % 6) (nI (100 * w + (20 - i'))))) ∧ f_X4_weightFor_L20 (nI k) f (yW i) ρ = some (-1000004, fdC τ 3)))) 21
    (fun f ρ t hq => by
      refine ⟨ρ, t, Or.inr ⟨hq, ?_⟩⟩
      rw [f_X4_weightFor_L20, yW_21, if_pos neg1_lt0, cfd3, ob2_s])
    (fun f i hi ih ρ t hq => by
      have c := cr.trl hN t
      obtain ⟨τ0, e0, cr0, z0, t0⟩ := tri ok c ((congrFun (t 1 (by omega)) 7).trans hz)
      have t00 := t.tr t0
      have c0 := cr.trl hN t00
      obtain ⟨w', x', hw', hx', es', eA, eB⟩ := cnextW (d := d) (by omega) ok c0
      have hwx : w' = w := by
        rw [es] at es'
        have := (nI_eq (by omega) (by omega)).mp es'
        omega
      subst hwx
      have ok1 := Ok_list (v := nI (100 * w' + (20 - i))) ok hl ⟨w', 20 - i, hw, by omega, rfl⟩
      have cr1 := CR_l (b := 25) (v := nI (100 * w' + (20 - i))) cr0 hl
      obtain ⟨r, τ', e2, fr2, hr⟩ := cew ok1 hdk hk cr1 (by rw [up2_ne _ _ (by omega)]; exact z0)
      have t2 : Trl σ τ' := t00.tr (Trl.tr (Trl.of (FrC.up (by omega) (by omega) (by omega))) (Trl.of fr2))
      have unf : f_X4_weightFor_L20 (nI k) (f + 1) (yW i) ρ = (if r = 0 then f_X4_weightFor_L20 (nI k) f (yW (i + 1)) τ' else some (nI (20 - i), τ')) := by
        rw [f_X4_weightFor_L20, yW_step hi, yW_at hi, if_neg (nI_nn (by omega)), e0, ob1_s, eA, ob0_s, csetN (d := d) (by omega) ok cr0 hw (by omega), ob1_s, e2, ob2_s]
      rw [unf]
      rcases hr with ⟨q, rfl⟩ | ⟨q, rfl⟩
      · rw [if_neg one_ne0]
        exact ⟨τ', t2, Or.inl ⟨i, hi, q, hq, rfl⟩⟩
      · rw [if_pos rfl]
        refine ih τ' t2 (fun j hj => ?_)
        by_cases e3 : j = i
        · subst e3; exact q
        · exact hq j (by omega))
  exact key FU 0 (by omega) (by rw [FU_eq]; omega) σ (Trl.rf σ) (fun j hj => by omega)
theorem mwf {N d k : Nat} {σ : Sg} (ok : Ok N d (σ 50)) (hdk : d + k ≤ 99999) (hk : k < 900) {w x : Nat} (hw : w < 8) (hx : x ≤ 20) (es : σ 50 (4 + d % 6) = nI (100 * w + x)) : (∃ i, i < 21 ∧ EvK N k (upd (σ 50) (4 + d % 6) (nI (100 * w + (20 - i)))) ∧ (∀ j, j < i → ¬ EvK N k (upd (σ 50) (4 + d % 6) (nI (100 * w + (20 - j))))) ∧ f_X5_weightFor_L41 (nI k) (nI (4 + d % 6)) FU (-1) 20 (asd σ) = some (nI (20 - i), asd σ)) ∨ ((∀ i, i < 21 → ¬ EvK N k (upd (σ 50) (4 + d % 6) (nI (100 * w + (20 - i))))) ∧ f_X5_weightFor_L41 (nI k) (nI (4 + d % 6)) FU (-1) 20 (asd σ) = some (-1000004, fdM (asd σ) 3)) := by
  have hN := ok.1
  have hl : d % 6 < 6 := Nat.mod_lt _ (by omega)
  have key := loop_up (P := fun f i => (∀ j, j < i → ¬ EvK N k (upd (σ 50) (4 + d % 6) (nI (100 * w + (20 - j))))) → (∃ i', i' < 21 ∧ EvK N k (upd (σ 50) (4 + d % 6) (nI (100 * w + (20 - i')))) ∧ (∀ j, j < i' → ¬ EvK N k (upd (σ 50) (4 + d % 6) (nI (100 * w + (20 - j))))) ∧ f_X5_weightFor_L41 (nI k) (nI (4 + d % 6)) (f + 1) (-1) (yW i) (asd σ) = some (nI (20 - i'), asd σ)) ∨ ((∀ i', i' < 21 → ¬ EvK N k (upd (σ 50) (4 + d % 6) (nI (100 * w + (20 - i'))))) ∧ f_X5_weightFor_L41 (nI k) (nI (4 + d % 6)) (f + 1) (-1) (yW i) (asd σ) = some (-1000004, fdM (asd σ) 3))) 21
    (fun f hq => by
      refine Or.inr ⟨hq, ?_⟩
      have := orN none (fun j hj => by cases hj) (asd σ)
      rw [f_X5_weightFor_L41, yW_21, if_pos neg1_lt0, show (-1 : Int32) = enc none from rfl, this, ob2_s])
    (fun f i hi ih hq => by
      have ok1 := Ok_list (v := nI (100 * w + (20 - i))) ok hl ⟨w, 20 - i, hw, by omega, rfl⟩
      obtain ⟨r, j, hj, e2, hr⟩ := mew (N := N) (d := d) (k := k) (σ := upr (asd σ) 50 (upd (σ 50) (4 + d % 6) (nI (100 * w + (20 - i))))) (by rw [upr_at]; exact ok1) hdk hk
      rw [upr_at] at e2 hr
      rw [upr_upr] at e2
      have hb : f_X5_copyRow 53 50 (upr (asd σ) 50 (goN N 0 j (upd (σ 50) (4 + d % 6) (nI (100 * w + (20 - i)))))) = some (asd σ) := mback (fun q hq => by rw [goN_hi ok1 j (by omega) q hq, upd_ne _ _ (by omega)])
      have em : nI w * 100 + nI (20 - i) = nI (100 * w + (20 - i)) := by
        show nI w * nI 100 + nI (20 - i) = _
        rw [pk_mul, nI_add, Nat.mul_comm]
      have unf : f_X5_weightFor_L41 (nI k) (nI (4 + d % 6)) (f + 1 + 1) (-1) (yW i) (asd σ) = (if r = 0 then f_X5_weightFor_L41 (nI k) (nI (4 + d % 6)) (f + 1) (-1) (yW (i + 1)) (asd σ) else f_X5_weightFor_L41 (nI k) (nI (4 + d % 6)) (f + 1) (nI (20 - i)) (yW (i + 1)) (asd σ)) := by
        rw [f_X5_weightFor_L41, yW_step hi, yW_at hi, if_neg (nI_nn (by omega)), if_neg (show ¬ (0 : Int32) ≤ -1 by decide), chk_nI (by omega) (by omega), cl_nI (by omega), asd_50, es, Sy_whom hw hx, em, lt_s1, up2_upr, asd_50, e2, ob2_s, hb, ob1_s, ob1_s]
      rw [unf]
      rcases hr with ⟨q, rfl⟩ | ⟨q, rfl⟩
      · rw [if_neg one_ne0]
        refine Or.inl ⟨i, hi, q, hq, ?_⟩
        have := orN (some (20 - i)) (fun j hj => by cases hj; omega) (asd σ)
        rw [f_X5_weightFor_L41, show nI (20 - i) = enc (some (20 - i)) from rfl]
        split
        · rw [this, ob2_s]; rfl
        · rw [if_pos (show (0 : Int32) ≤ enc (some (20 - i)) from nI_ge0 (by omega)), this, ob2_s]; rfl
      · rw [if_pos rfl]
        refine ih (fun j hj => ?_)
        by_cases e3 : j = i
        · subst e3; exact q
        · exact hq j (by omega))
  exact key 999 0 (by omega) (by omega) (fun j hj => by omega)
theorem op_weightFor {n : Nat} (hn : n < 512) {σ : Sg} (h : Inv n σ) (x : Int32) : Step n σ (f_X4_weightFor x) (f_X5_weightFor x) := by
  obtain ⟨⟨N, d, ok, hd, cr⟩, hz⟩ := id h.1
  have hl : d % 6 < 6 := Nat.mod_lt _ (by omega)
  have c1 : ∀ τ, f_X4_within x 1 40 τ = some (if 1 ≤ x.toInt ∧ x.toInt ≤ 40 then 1 else 0) := fun τ => wC (by decide) (by decide) τ
  have m1 : ∀ τ, f_X5_isIn x.toInt64 1 40 τ = some (if 1 ≤ x.toInt ∧ x.toInt ≤ 40 then 1 else 0) := fun τ => wM (by decide) (by decide) τ
  by_cases h1 : 1 ≤ x.toInt ∧ x.toInt ≤ 40
  · obtain ⟨k, hk, rfl⟩ := nn_of (x := x) (b := 40) ⟨by omega, h1.2⟩
    obtain ⟨w, y, hw, hy, es⟩ := ok.2.2.2.2.1 (d % 6) hl
    obtain ⟨τ, t, hc⟩ := cwf ok (k := k) (by omega) (by omega) cr hz hw hy es
    have e50 : τ 50 = σ 50 := t 50 (by omega)
    have eC : f_X4_weightFor (nI k) σ = f_X4_weightFor_L20 (nI k) FU 20 σ := by simp only [f_X4_weightFor, c1, if_pos h1, ob0_s, if_neg one_ne0]
    have eM : ∀ ρ, ρ 50 = σ 50 → f_X5_weightFor (nI k) ρ = f_X5_weightFor_L41 (nI k) (nI (4 + d % 6)) FU (-1) 20 (asd ρ) := fun ρ e => by
      simp only [f_X5_weightFor, m1, if_pos h1, ob0_s, if_neg one_ne0, f_X5_nextPlace, e, ok.2.2.1, jrem6 (show d < 2 ^ 31 by omega), add4, masd, ob1_s]
    rcases hc with ⟨i, hi, q, q2, e⟩ | ⟨q, e⟩
    · rcases mwf (σ := τ) (N := N) (d := d) (k := k) (by rw [e50]; exact ok) (by omega) (by omega) hw hy (by rw [e50]; exact es) with ⟨j, hj, p1, p2, e'⟩ | ⟨p1, e'⟩
      · rw [e50] at p1 p2
        have := lst_uniq (Q := fun i => EvK N k (upd (σ 50) (4 + d % 6) (nI (100 * w + (20 - i))))) q q2 p1 p2
        subst this
        exact Step.val h (eC.trans e) t ((eM τ e50).trans e') (ScM_asd _)
      · rw [e50] at p1
        exact absurd q (p1 i hi)
    · have e50' : (fdC τ 3) 50 = σ 50 := (fdC_o (by omega)).trans e50
      rcases mwf (σ := fdC τ 3) (N := N) (d := d) (k := k) (by rw [e50']; exact ok) (by omega) (by omega) hw hy (by rw [e50']; exact es) with ⟨j, hj, p1, p2, e'⟩ | ⟨p1, e'⟩
      · rw [e50'] at p1
        exact absurd p1 (q j hj)
      · exact Step.find h (by omega) (eC.trans e) t ((eM _ e50').trans e') (ScM_asd _)
  · refine Step.bey h ?_ ?_
    · simp only [f_X4_weightFor, c1, if_neg h1, ob0_s, if_pos, cfd0, ob2_s]
    · simp only [f_X5_weightFor, m1, if_neg h1, ob0_s, if_pos, mfd0, ob2_s]
