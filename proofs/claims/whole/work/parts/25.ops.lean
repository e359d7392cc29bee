/-! fits, weighed, kinds -/
def toldB (N c : Nat) (u : Nat → Int32) (s : Rw) : Nat → Bool
  | 0 => true
  | i + 1 => toldB N c u s i && (u i == -1 || u i == goN N 0 i s c)
def b01 (b : Bool) : Int32 := if b then 1 else 0
theorem toldB_up {N c : Nat} {u : Nat → Int32} {s : Rw} {i : Nat} (h : toldB N c u s i = false) : ∀ t, toldB N c u s (i + t) = false := by
  intro t
  induction t with
  | zero => exact h
  | succ t ih => rw [← Nat.add_assoc, toldB, ih]; rfl
theorem toldB_cg {N c : Nat} {u u' : Nat → Int32} {s : Rw} : ∀ i, (∀ j, j < i → u j = u' j) → toldB N c u s i = toldB N c u' s i := by
  intro i
  induction i with
  | zero => intro _; rfl
  | succ i ih => intro h; rw [toldB, toldB, ih (fun j hj => h j (by omega)), h i (by omega)]
theorem toldB_s {N c : Nat} {u : Nat → Int32} {s : Rw} {i : Nat} (h : toldB N c u s i = true) : (u i = -1 → toldB N c u s (i + 1) = true) ∧ (u i = goN N 0 i s c → toldB N c u s (i + 1) = true) ∧ (¬ u i = -1 → ¬ u i = goN N 0 i s c → toldB N c u s (i + 1) = false) := by
  rw [toldB, h]
  refine ⟨fun e => by simp [e], fun e => by simp [e], fun e e2 => by simp [e, e2]⟩
theorem cTold {N d k m p a : Nat} {τ : Sg} {s : Rw} (ok : Ok N d s) (hd : d + 40 ≤ 99999) (hm40 : m ≤ 40) (cr : CR N 25 τ s) (hz : τ 25 7 = 0) (hp : p < N) (ha : a < 5) (hk : k < 4) (hm : τ (40 + k) 2 = nI m) : ∃ τ', FrC 25 τ τ' ∧ f_X4_isTrialAsTold (40 + k) (nI p) (nI a) τ = some (b01 (toldB N (10 + 5 * p + a) (τ (44 + k)) s m), τ') := by
  have hN := ok.1
  have e44 : 40 + k + 4 = 44 + k := by omega
  have key := loop_up (P := fun f i => ∀ ρ, CR N 25 ρ (goN N 0 (i - 1) s) → FrC 25 τ ρ → i ≤ m → toldB N (10 + 5 * p + a) (τ (44 + k)) s i = true → ∃ τ', FrC 25 τ τ' ∧ f_X4_isTrialAsTold_L3 (40 + k) (nI p) (nI a) f (nI i) ρ = some (b01 (toldB N (10 + 5 * p + a) (τ (44 + k)) s m), τ')) m
    (fun f ρ c fr _ ht => by
      refine ⟨ρ, fr, ?_⟩
      rw [f_X4_isTrialAsTold_L3, fr.1 (40 + k) (by omega), hm, if_pos (nI_le (Nat.le_refl m) (by omega)), ht]
      rfl)
    (fun f i hi ih ρ c fr him ht => by
      have fin : ∀ ρ', CR N 25 ρ' (goN N 0 i s) → FrC 25 τ ρ' → ∃ τ', FrC 25 τ τ' ∧ (chk (nI i) 40 <| if (ρ' (40 + k + 4) (nI i).toNatClampNeg) = (-1) then f_X4_isTrialAsTold_L3 (40 + k) (nI p) (nI a) f (nI i + 1) ρ' else chk (nI p) 8 <| ob0 (f_X1_attribute (25 + 4 + (nI p).toNatClampNeg) (nI a) ρ') fun r7 => if (ρ' (40 + k + 4) (nI i).toNatClampNeg) = r7 then f_X4_isTrialAsTold_L3 (40 + k) (nI p) (nI a) f (nI i + 1) ρ' else some (0, ρ')) = some (b01 (toldB N (10 + 5 * p + a) (τ (44 + k)) s m), τ') := by
        intro ρ' c' fr'
        obtain ⟨g1, g2, g3⟩ := toldB_s ht
        rw [chk_nI (by omega) (by omega), chk_nI (by omega) (by omega), cl_nI (by omega), cl_nI (by omega), cattr ha, ob0_s, nI_1, e44, fr'.1 (44 + k) (by omega), c'.at1 hp ha]
        by_cases q1 : τ (44 + k) i = -1
        · rw [if_pos q1]
          exact ih ρ' c' fr' (by omega) (g1 q1)
        · rw [if_neg q1]
          by_cases q2 : τ (44 + k) i = goN N 0 i s (10 + 5 * p + a)
          · rw [if_pos q2]
            exact ih ρ' c' fr' (by omega) (g2 q2)
          · rw [if_neg q2]
            refine ⟨ρ', fr', ?_⟩
            have := toldB_up (g3 q1 q2) (m - (i + 1))
            rw [show i + 1 + (m - (i + 1)) = m by omega] at this
            rw [this]
            rfl
      rw [f_X4_isTrialAsTold_L3, fr.1 (40 + k) (by omega), hm, if_neg (nle hi (by omega))]
      by_cases i0 : i = 0
      · subst i0
        rw [if_pos z_le0]
        exact fin ρ c fr
      · have oki := Ok_go (m := 0) ok (i - 1) (by omega)
        obtain ⟨ρ', e, c', f'⟩ := cday (d := d + (i - 1)) (by omega) 0 oki c (fr.2.trans hz)
        have c2 : CR N 25 ρ' (goN N 0 i s) := by
          have e3 : i = (i - 1) + 1 := by omega
          rw [e3]; exact c'
        rw [if_neg (show ¬ nI i ≤ 0 from nle (n := i) (i := 0) (by omega) (by omega)), e, ob1_s]
        exact fin ρ' c2 (fr.tr f'))
  exact key FU 0 (Nat.zero_le m) (by rw [FU_eq]; omega) τ cr (FrC.rf 25 τ) (Nat.zero_le m) rfl
theorem ix40 {k i : Nat} : 40 * nI k + nI i = nI (40 * k + i) := by
  rw [show (40 : Int32) * nI k = nI (40 * k) from pk_mul 40 k, nI_add]
theorem b01_b (b : Bool) : b01 b = 0 ∨ b01 b = 1 := by cases b; exact Or.inl rfl; exact Or.inr rfl
theorem chkb_ok {α : Type} {v : Int32} {o : Option α} (h : v = 0 ∨ v = 1) : chkb v o = o := by rw [chkb, if_pos h]
theorem mTold {N d k m c : Nat} {σ : Sg} (ok : Ok N d (σ 50)) (hd : d + 41 ≤ 99999) (hm40 : m ≤ 40) (hc : c < 60) (hk : k < 4) (hm : σ 57 k = nI m) : f_X5_isTold (nI k) (nI c) σ = some (b01 (toldB N c (fun i => σ 58 (40 * k + i)) (σ 50) m), asd σ) := by
  have hN := ok.1
  have bk : ∀ i, i ≤ m → f_X5_copyRow 53 50 (upr (asd σ) 50 (goN N 0 i (σ 50))) = some (asd σ) := fun i hi => mback (fun q hq => goN_hi ok i (by omega) q hq)
  have e57 : ∀ r, upr (asd σ) 50 r 57 k = nI m := fun r => by rw [upr_ne _ _ (by omega), asd, upr_ne _ _ (by omega)]; exact hm
  have e58 : ∀ r j, upr (asd σ) 50 r 58 j = σ 58 j := fun r j => by rw [upr_ne _ _ (by omega), asd, upr_ne _ _ (by omega)]
  have key := loop_up (P := fun f i => i ≤ m → toldB N c (fun i => σ 58 (40 * k + i)) (σ 50) i = true → f_X5_isTold_L16 (nI k) (nI c) (f + 1) 1 (nI i) (upr (asd σ) 50 (goN N 0 i (σ 50))) = some (b01 (toldB N c (fun i => σ 58 (40 * k + i)) (σ 50) m), asd σ)) m
    (fun f _ ht => by
      rw [f_X5_isTold_L16, chk_nI (by omega) (by omega), cl_nI (show k < 2 ^ 31 by omega), e57, if_pos (nI_le (Nat.le_refl m) (by omega)), bk m (Nat.le_refl m), ob1_s, ht]
      rfl)
    (fun f i hi ih him ht => by
      obtain ⟨g1, g2, g3⟩ := toldB_s ht
      have oki := Ok_go (m := 0) ok i (by omega)
      have eD : f_X5_dayBut 0 (upr (asd σ) 50 (goN N 0 i (σ 50))) = some (upr (asd σ) 50 (goN N 0 (i + 1) (σ 50))) := by
        rw [mdayOk (n := N) (d := d + i) (by omega) 0 _ (by rw [upr_at]; exact oki), upr_at, upr_upr]
        rfl
      have eS : f_X5_isTold_L16 (nI k) (nI c) (f + 1 + 1) 1 (nI i) (upr (asd σ) 50 (goN N 0 i (σ 50))) = (if σ 58 (40 * k + i) = -1 then f_X5_isTold_L16 (nI k) (nI c) (f + 1) 1 (nI (i + 1)) (upr (asd σ) 50 (goN N 0 (i + 1) (σ 50))) else if σ 58 (40 * k + i) = goN N 0 i (σ 50) c then f_X5_isTold_L16 (nI k) (nI c) (f + 1) 1 (nI (i + 1)) (upr (asd σ) 50 (goN N 0 (i + 1) (σ 50))) else f_X5_isTold_L16 (nI k) (nI c) (f + 1) 0 (nI (i + 1)) (upr (asd σ) 50 (goN N 0 (i + 1) (σ 50)))) := by
        rw [f_X5_isTold_L16, chk_nI (by omega) (by omega), cl_nI (show k < 2 ^ 31 by omega), e57, if_neg (nle hi (by omega)), if_neg one_ne0, ix40, chk_nI (by omega) (by omega), cl_nI (by omega), chk_nI hc (by omega), cl_nI (by omega), e58, eD, ob1_s, ob1_s, upr_at, nI_1]
      rw [eS]
      by_cases q1 : σ 58 (40 * k + i) = -1
      · rw [if_pos q1]
        exact ih (by omega) (g1 q1)
      · rw [if_neg q1]
        by_cases q2 : σ 58 (40 * k + i) = goN N 0 i (σ 50) c
        · rw [if_pos q2]
          exact ih (by omega) (g2 q2)
        · rw [if_neg q2]
          have := toldB_up (g3 q1 q2) (m - (i + 1))
          rw [show i + 1 + (m - (i + 1)) = m by omega] at this
          rw [this, f_X5_isTold_L16, chk_nI (by omega) (by omega), if_pos rfl, bk (i + 1) (by omega), ob1_s]
          split <;> rfl)
  have := key 999 0 (Nat.zero_le m) (by omega) (Nat.zero_le m) rfl
  rw [show goN N 0 0 (σ 50) = asd σ 50 from (asd_50 σ).symm, upr_self] at this
  rw [f_X5_isTold, masd, ob1_s]
  exact this
def cntB (q : Nat → Bool) : Nat → Nat
  | 0 => 0
  | i + 1 => cntB q i + (q i).toNat
theorem cntB_le (q : Nat → Bool) : ∀ i, cntB q i ≤ i := by
  intro i
  induction i with
  | zero => exact Nat.le_refl _
  | succ i ih =>
    rw [cntB]
    cases q i
    · exact Nat.le_succ_of_le ih
    · exact Nat.succ_le_succ ih
theorem cntB_rev (q : Nat → Bool) : cntB (fun j => q (20 - j)) 21 = cntB q 21 := by
  simp only [cntB, Nat.reduceSub]
  omega
def lstH (q : Nat → Bool) : Nat → Option Nat
  | 0 => none
  | i + 1 => if q i then some i else lstH q i
theorem lstH_p (q : Nat → Bool) : ∀ i, (lstH q i = none → (∀ j, j < i → q j = false) ∧ cntB q i = 0) ∧ (∀ j, lstH q i = some j → j < i ∧ q j = true ∧ (∀ t, j < t → t < i → q t = false) ∧ 0 < cntB q i) := by
  intro i
  induction i with
  | zero => exact ⟨fun _ => ⟨fun j hj => by omega, rfl⟩, fun j hj => by cases hj⟩
  | succ i ih =>
    rw [lstH, cntB]
    cases hq : q i with
    | true =>
      refine ⟨fun e => (by cases e), fun j e => ?_⟩
      cases e
      refine ⟨by omega, hq, fun t h1 h2 => by omega, ?_⟩
      show 0 < _ + 1
      omega
    | false =>
      refine ⟨fun e => ?_, fun j e => ?_⟩
      · obtain ⟨a, b⟩ := ih.1 e
        refine ⟨fun j hj => ?_, b⟩
        by_cases e2 : j = i
        · subst e2; exact hq
        · exact a j (by omega)
      · obtain ⟨a, b, c, d⟩ := ih.2 j e
        refine ⟨by omega, b, fun t h1 h2 => ?_, d⟩
        by_cases e2 : t = i
        · subst e2; exact hq
        · exact c t h1 (by omega)
/-- is the sheet as told, were the next saying of weight v -/
def fiQ (N d p m w : Nat) (u : Nat → Int32) (s : Rw) (v : Nat) : Bool := toldB N (10 + 5 * p + 3) u (upd s (4 + d % 6) (nI (100 * w + v))) m
theorem cwat {N d k m p w x v : Nat} {τ : Sg} {s : Rw} (ok : Ok N d s) (hd : d + 40 ≤ 99999) (hm40 : m ≤ 40) (cr : CR N 1 τ s) (hz : τ 1 7 = 0) (hp : p < N) (hk : k < 4) (hm : τ (40 + k) 2 = nI m) (hw : w < 8) (hx : x ≤ 20) (hv : v ≤ 20) (es : s (4 + d % 6) = nI (100 * w + x)) : ∃ τ', Trl τ τ' ∧ f_X4_isWeightAsTold (40 + k) (nI p) (nI v) τ = some (b01 (fiQ N d p m w (τ (44 + k)) s v), τ') := by
  have hN := ok.1
  have hl : d % 6 < 6 := Nat.mod_lt _ (by omega)
  obtain ⟨τ0, e0, cr0, z0, t0⟩ := tri ok cr hz
  have c0 := cr.trl hN t0
  obtain ⟨w', x', hw', hx', es', eA, eB⟩ := cnextW (d := d) (by omega) ok c0
  have hwx : w' = w := by
    rw [es] at es'
    have := (nI_eq (by omega) (by omega)).mp es'
    omega
  subst hwx
  have ok1 := Ok_list (v := nI (100 * w' + v)) ok hl ⟨w', v, hw, by omega, rfl⟩
  have cr1 := CR_l (b := 25) (v := nI (100 * w' + v)) cr0 hl
  have e44 : up2 τ0 (25 + 1) (d % 6) (nI (100 * w' + v)) (44 + k) = τ (44 + k) := by rw [up2_ne _ _ (by omega)]; exact t0 _ (by omega)
  obtain ⟨τ', f', e⟩ := cTold (k := k) (m := m) (p := p) (a := 3) ok1 hd hm40 cr1 (by rw [up2_ne _ _ (by omega)]; exact z0) hp (by omega) hk (by rw [up2_ne _ _ (by omega), t0 _ (by omega)]; exact hm)
  refine ⟨τ', t0.tr (Trl.tr (Trl.of (FrC.up (by omega) (by omega) (by omega))) (Trl.of f')), ?_⟩
  rw [e44] at e
  rw [f_X4_isWeightAsTold, e0, ob1_s, eA, ob0_s, csetN (d := d) (by omega) ok cr0 hw hv, ob1_s, show (3 : Int32) = nI 3 from rfl, e, ob2_s, chkb_ok (b01_b _)]
  rfl
theorem lt20 {i : Nat} (h : i < 21) : ¬ (20 : Int32) < nI i := by
  rw [i_not_lt]; exact nI_le (b := 20) (by omega) (by omega)
theorem nI_cnt (q : Nat → Bool) (i : Nat) : (if b01 (q i) = 0 then nI (cntB q i) else nI (cntB q i) + 1) = nI (cntB q (i + 1)) := by
  rw [cntB]
  cases q i
  · rfl
  · exact nI_1 _
theorem cfits {N d k m p w x : Nat} {σ : Sg} {s : Rw} (ok : Ok N d s) (hd : d + 40 ≤ 99999) (hm40 : m ≤ 40) (cr : CR N 1 σ s) (hz : σ 1 7 = 0) (hp : p < N) (hk : k < 4) (hm : σ (40 + k) 2 = nI m) (hw : w < 8) (hx : x ≤ 20) (es : s (4 + d % 6) = nI (100 * w + x)) : ∃ τ, Trl σ τ ∧ f_X4_fits_L23 (nI k) (nI p) FU 0 0 σ = some (nI (cntB (fiQ N d p m w (σ (44 + k)) s) 21), τ) := by
  have hN := ok.1
  have key := loop_up (P := fun f i => ∀ ρ, Trl σ ρ → ∃ τ, Trl σ τ ∧ f_X4_fits_L23 (nI k) (nI p) f (nI (cntB (fiQ N d p m w (σ (44 + k)) s) i)) (nI i) ρ = some (nI (cntB (fiQ N d p m w (σ (44 + k)) s) 21), τ)) 21
    (fun f ρ t => ⟨ρ, t, by rw [f_X4_fits_L23, if_pos (by decide)]⟩)
    (fun f i hi ih ρ t => by
      obtain ⟨τ', t', e⟩ := cwat (τ := ρ) (k := k) (v := i) ok hd hm40 (cr.trl hN t) ((congrFun (t 1 (by omega)) 7).trans hz) hp hk ((congrFun (t _ (by omega)) 2).trans hm) hw hx (by omega) es
      rw [t (44 + k) (by omega)] at e
      rw [f_X4_fits_L23, if_neg (lt20 hi), chk_nI (by omega) (by omega), cl_nI (by omega), e, ob2_s, nI_1 i]
      have g := ih τ' (t.tr t')
      rw [← nI_cnt] at g
      by_cases q : b01 (fiQ N d p m w (σ (44 + k)) s i) = 0
      · rw [if_pos q] at g ⊢; exact g
      · rw [if_neg q] at g ⊢; exact g)
  exact key FU 0 (by omega) (by rw [FU_eq]; omega) σ (Trl.rf σ)
theorem b01_t {b : Bool} (h : b = true) : ¬ b01 b = 0 := by subst h; decide
theorem b01_f {b : Bool} (h : b = false) : b01 b = 0 := by subst h; rfl
theorem cweighed {N d k m p w x : Nat} {σ : Sg} {s : Rw} (ok : Ok N d s) (hd : d + 40 ≤ 99999) (hm40 : m ≤ 40) (cr : CR N 1 σ s) (hz : σ 1 7 = 0) (hp : p < N) (hk : k < 4) (hm : σ (40 + k) 2 = nI m) (hw : w < 8) (hx : x ≤ 20) (es : s (4 + d % 6) = nI (100 * w + x)) : ∃ τ, Trl σ τ ∧ ((∃ i, i < 21 ∧ fiQ N d p m w (σ (44 + k)) s i = true ∧ (∀ j, j < i → fiQ N d p m w (σ (44 + k)) s j = false) ∧ f_X4_weighed_L20 (nI k) (nI p) FU 0 σ = some (nI i, τ)) ∨ ((∀ j, j < 21 → fiQ N d p m w (σ (44 + k)) s j = false) ∧ f_X4_weighed_L20 (nI k) (nI p) FU 0 σ = some (-1000004, fdC τ 3))) := by
  have hN := ok.1
  have key := loop_up (P := fun f i => ∀ ρ, Trl σ ρ → (∀ j, j < i → fiQ N d p m w (σ (44 + k)) s j = false) → ∃ τ, Trl σ τ ∧ ((∃ i', i' < 21 ∧ fiQ N d p m w (σ (44 + k)) s i' = true ∧ (∀ j, j < i' → fiQ N d p m w (σ (44 + k)) s j = false) ∧ f_X4_weighed_L20 (nI k) (nI p) f (nI i) ρ = some (nI i', τ)) ∨ ((∀ j, j < 21 → fiQ N d p m w (σ (44 + k)) s j = false) ∧ f_X4_weighed_L20 (nI k) (nI p) f (nI i) ρ = some (-1000004, fdC τ 3)))) 21
    (fun f ρ t hq => ⟨ρ, t, Or.inr ⟨hq, by rw [f_X4_weighed_L20, if_pos (by decide), cfd3, ob2_s]⟩⟩)
    (fun f i hi ih ρ t hq => by
      obtain ⟨τ', t', e⟩ := cwat (τ := ρ) (k := k) (v := i) ok hd hm40 (cr.trl hN t) ((congrFun (t 1 (by omega)) 7).trans hz) hp hk ((congrFun (t _ (by omega)) 2).trans hm) hw hx (by omega) es
      rw [t (44 + k) (by omega)] at e
      rw [f_X4_weighed_L20, if_neg (lt20 hi), chk_nI (by omega) (by omega), cl_nI (by omega), e, ob2_s, nI_1 i]
      cases q : fiQ N d p m w (σ (44 + k)) s i with
      | false =>
        rw [if_pos (b01_f rfl)]
        refine ih τ' (t.tr t') (fun j hj => ?_)
        by_cases e3 : j = i
        · subst e3; exact q
        · exact hq j (by omega)
      | true =>
        rw [if_neg (b01_t rfl)]
        exact ⟨τ', t.tr t', Or.inl ⟨i, hi, q, hq, rfl⟩⟩)
  exact key FU 0 (by omega) (by rw [FU_eq]; omega) σ (Trl.rf σ) (fun j hj => by omega)
theorem mfits {N d k m p w x : Nat} {σ : Sg} (ok : Ok N d (σ 50)) (hd : d + 41 ≤ 99999) (hm40 : m ≤ 40) (hp : p < N) (hk : k < 4) (hm : σ 57 k = nI m) (hw : w < 8) (hx : x ≤ 20) (es : σ 50 (4 + d % 6) = nI (100 * w + x)) : ∃ τ, ScM σ τ ∧ f_X5_findsFits (nI k) (nI p) σ = some τ ∧ τ 49 11 = nI (cntB (fiQ N d p m w (fun i => σ 58 (40 * k + i)) (σ 50)) 21) ∧ (∀ j, lstH (fun j => fiQ N d p m w (fun i => σ 58 (40 * k + i)) (σ 50) (20 - j)) 21 = some j → τ 49 12 = nI (20 - j)) := by
  have hN := ok.1
  have hl : d % 6 < 6 := Nat.mod_lt _ (by omega)
  have key := loop_up (P := fun f i => ∀ ρ, Rl (4 + d % 6) σ ρ → ρ 49 11 = nI (cntB (fun j => fiQ N d p m w (fun i => σ 58 (40 * k + i)) (σ 50) (20 - j)) i) → (∀ j, lstH (fun j => fiQ N d p m w (fun i => σ 58 (40 * k + i)) (σ 50) (20 - j)) i = some j → ρ 49 12 = nI (20 - j)) → ∃ τ, ScM σ τ ∧ f_X5_findsFits_L22 (nI k) (nI p) (nI (4 + d % 6)) (σ 50 (4 + d % 6)) f (yW i) ρ = some τ ∧ τ 49 11 = nI (cntB (fiQ N d p m w (fun i => σ 58 (40 * k + i)) (σ 50)) 21) ∧ (∀ j, lstH (fun j => fiQ N d p m w (fun i => σ 58 (40 * k + i)) (σ 50) (20 - j)) 21 = some j → τ 49 12 = nI (20 - j))) 21
    (fun f ρ t h11 h12 => by
      refine ⟨_, t.back, ?_, ?_, ?_⟩
      · rw [f_X5_findsFits_L22, yW_21, if_pos neg1_lt0, chk_nI (by omega) (by omega), cl_nI (by omega), lt_s1]
      · rw [up2_ne _ _ (by omega), h11, cntB_rev]
      · intro j hj; rw [up2_ne _ _ (by omega)]; exact h12 j hj)
    (fun f i hi ih ρ t h11 h12 => by
      obtain ⟨t1, e1⟩ := t.up (nI (100 * w + (20 - i)))
      have ok1 := Ok_list (v := nI (100 * w + (20 - i))) ok hl ⟨w, 20 - i, hw, by omega, rfl⟩
      have eT := mTold (N := N) (d := d) (k := k) (m := m) (c := 10 + 5 * p + 3) (σ := up2 ρ 50 (4 + d % 6) (nI (100 * w + (20 - i)))) (by rw [e1]; exact ok1) hd hm40 (by omega) hk (by rw [t1.1 57 (by omega) (by omega) (by omega) (by omega)]; exact hm)
      rw [e1, t1.1 58 (by omega) (by omega) (by omega) (by omega)] at eT
      have em : nI w * 100 + nI (20 - i) = nI (100 * w + (20 - i)) := by
        show nI w * nI 100 + nI (20 - i) = _
        rw [pk_mul, nI_add, Nat.mul_comm]
      rw [f_X5_findsFits_L22, yW_step hi, yW_at hi, if_neg (nI_nn (by omega)), chk_nI (by omega) (by omega), cl_nI (by omega), es, Sy_whom hw hx, em, lt_s1, atv3, ob0_s, eT, ob2_s, ← es]
      have a11 : asd (up2 ρ 50 (4 + d % 6) (nI (100 * w + (20 - i)))) 49 = ρ 49 := by rw [asd, upr_ne _ _ (by omega), up2_ne _ _ (by omega)]
      have hq : toldB N (10 + 5 * p + 3) (fun i => σ 58 (40 * k + i)) (upd (σ 50) (4 + d % 6) (nI (100 * w + (20 - i)))) m = fiQ N d p m w (fun i => σ 58 (40 * k + i)) (σ 50) (20 - i) := rfl
      rw [hq]
      cases q : fiQ N d p m w (fun i => σ 58 (40 * k + i)) (σ 50) (20 - i) with
      | false =>
        rw [if_pos (b01_f rfl)]
        refine ih _ t1.asd ?_ (fun j hj => ?_)
        · rw [a11, h11, cntB, q]; rfl
        · rw [a11]
          rw [lstH, if_neg (by rw [q]; decide)] at hj
          exact h12 j hj
      | true =>
        rw [if_neg (b01_t rfl), lt_s1, lt_s1, a11, h11, nI_1]
        refine ih _ ?_ ?_ (fun j hj => ?_)
        · refine ⟨fun q a b c e => ?_, ?_, ?_, fun j hj => ?_⟩
          · rw [up2_ne _ _ a, up2_ne _ _ a]; exact t1.asd.1 q a b c e
          · rw [up2_an _ _ (by omega), up2_an _ _ (by omega)]; exact t1.asd.2.1
          · rw [up2_an _ _ (by omega), up2_an _ _ (by omega)]; exact t1.asd.2.2.1
          · rw [up2_ne _ _ (by omega), up2_ne _ _ (by omega)]; exact t1.asd.2.2.2 j hj
        · rw [up2_an _ _ (by omega), up2_at, cntB, q]; rfl
        · rw [lstH, if_pos q] at hj
          cases hj
          rw [up2_at])
  have tr : Rl (4 + d % 6) σ (up2 σ 49 11 0) := by
    refine ⟨fun q a b c e => ?_, ?_, ?_, fun j hj => ?_⟩
    · rw [up2_ne _ _ a]
    · rw [up2_an _ _ (by omega)]
    · rw [up2_an _ _ (by omega)]
    · rw [up2_ne _ _ (by omega)]
  have := key FU 0 (by omega) (by rw [FU_eq]; omega) (up2 σ 49 11 0) tr (by rw [up2_at]; rfl) (fun j hj => by cases hj)
  obtain ⟨τ, h1, h2, h3⟩ := this
  refine ⟨τ, h1, ?_, h3⟩
  rw [f_X5_findsFits, f_X5_nextPlace, ok.2.2.1, jrem6 (by omega), add4, ob0_s, chk_nI (by omega) (by omega), lt_s1, cl_nI (by omega)]
  exact h2
theorem sfind {σ : Sg} (h : ∀ k, k < 4 → Sk σ k) (x : Int32) : (f_X4_sheetFinding x σ = some (-1000001) ∧ ∀ ρ : Sg, ρ 56 = σ 56 → f_X5_wants x ρ = some (-1000001)) ∨ (f_X4_sheetFinding x σ = some (-1000006) ∧ ∀ ρ : Sg, ρ 56 = σ 56 → f_X5_wants x ρ = some (-1000006)) ∨ (∃ k m, k < 4 ∧ x = nI k ∧ m ≤ 40 ∧ σ (40 + k) 2 = nI m ∧ σ 57 k = nI m ∧ σ (40 + k) 1 = σ 56 k ∧ (σ 56 k = 8 ∨ σ 56 k = 16 ∨ σ 56 k = 32) ∧ f_X4_sheetFinding x σ = some 0 ∧ ∀ ρ : Sg, ρ 56 = σ 56 → f_X5_wants x ρ = some 0) := by
  have c1 : ∀ τ, f_X4_within x 0 3 τ = some (if 0 ≤ x.toInt ∧ x.toInt ≤ 3 then 1 else 0) := fun τ => wC (by decide) (by decide) τ
  by_cases h1 : 0 ≤ x.toInt ∧ x.toInt ≤ 3
  · obtain ⟨k, hk, rfl⟩ := nn_of (b := 3) h1
    obtain ⟨⟨m, hm, e1, e2⟩, hb, -⟩ := h k (by omega)
    rcases hb with ⟨b1, b2⟩ | ⟨b1, b2⟩
    · refine Or.inr (Or.inl ⟨?_, fun ρ e => ?_⟩)
      · rw [f_X4_sheetFinding, c1, if_pos h1, ob0_s, if_neg one_ne0, chk_nI (by omega) (by omega), cl_nI (by omega), f_X3_isMissing, if_pos b1, ob0_s, if_neg one_ne0]
      · rw [f_X5_wants, shM, if_pos h1, ob0_s, if_neg one_ne0, chk_nI (by omega) (by omega), cl_nI (by omega), e, b2, if_neg (by decide)]
    · refine Or.inr (Or.inr ⟨k, m, by omega, rfl, hm, e1, e2, b1, b2, ?_, fun ρ e => ?_⟩)
      · rw [f_X4_sheetFinding, c1, if_pos h1, ob0_s, if_neg one_ne0, chk_nI (by omega) (by omega), cl_nI (by omega), f_X3_isMissing, b1]
        rcases b2 with b2 | b2 | b2 <;> rw [b2] <;> decide
      · rw [f_X5_wants, shM, if_pos h1, ob0_s, if_neg one_ne0, chk_nI (by omega) (by omega), cl_nI (by omega), e]
        rcases b2 with b2 | b2 | b2 <;> rw [b2] <;> decide
  · refine Or.inl ⟨?_, fun ρ e => ?_⟩
    · rw [f_X4_sheetFinding, c1, if_neg h1, ob0_s, if_pos rfl]
    · rw [f_X5_wants, shM, if_neg h1, ob0_s, if_pos rfl]
theorem spfind {σ : Sg} {N d : Nat} (h : ∀ k, k < 4 → Sk σ k) (ok : Ok N d (σ 50)) (cr : CR N 1 σ (σ 50)) (x y : Int32) : (f_X4_sheetAndPersonFinding x y σ = some (-1000001) ∧ ∀ ρ : Sg, ρ 56 = σ 56 → ρ 50 = σ 50 → f_X5_wantsFor x y ρ = some (-1000001)) ∨ (f_X4_sheetAndPersonFinding x y σ = some (-1000006) ∧ ∀ ρ : Sg, ρ 56 = σ 56 → ρ 50 = σ 50 → f_X5_wantsFor x y ρ = some (-1000006)) ∨ (∃ k m p, k < 4 ∧ x = nI k ∧ p < N ∧ y = nI p ∧ m ≤ 40 ∧ σ (40 + k) 2 = nI m ∧ σ 57 k = nI m ∧ f_X4_sheetAndPersonFinding x y σ = some 0 ∧ ∀ ρ : Sg, ρ 56 = σ 56 → ρ 50 = σ 50 → f_X5_wantsFor x y ρ = some 0) := by
  have hN := ok.1
  rcases sfind h x with ⟨a, b⟩ | ⟨a, b⟩ | ⟨k, m, hk, rfl, hm, e1, e2, -, -, a, b⟩
  · refine Or.inl ⟨?_, fun ρ e _ => ?_⟩
    · rw [f_X4_sheetAndPersonFinding, a, ob0_s, if_neg (by decide)]
    · rw [f_X5_wantsFor, b ρ e, ob0_s, if_neg (by decide), ob0_s]
  · refine Or.inr (Or.inl ⟨?_, fun ρ e _ => ?_⟩)
    · rw [f_X4_sheetAndPersonFinding, a, ob0_s, if_neg (by decide)]
    · rw [f_X5_wantsFor, b ρ e, ob0_s, if_neg (by decide), ob0_s]
  · by_cases h1 : 0 ≤ y.toInt ∧ y.toInt < (N : Int)
    · obtain ⟨p, hp, rfl⟩ := nn_lt h1
      refine Or.inr (Or.inr ⟨k, m, p, hk, rfl, hp, rfl, hm, e1, e2, ?_, fun ρ e e50 => ?_⟩)
      · rw [f_X4_sheetAndPersonFinding, a, ob0_s, if_pos (by decide), hasC hN (cr.1.trans ok.2.1), if_pos h1, ob0_s, if_neg one_ne0]
      · rw [f_X5_wantsFor, b ρ e, ob0_s, if_pos rfl, oneM hN (by rw [e50]; exact ok.2.1), if_pos h1, ob0_s, if_neg one_ne0]
    · refine Or.inl ⟨?_, fun ρ e e50 => ?_⟩
      · rw [f_X4_sheetAndPersonFinding, a, ob0_s, if_pos (by decide), hasC hN (cr.1.trans ok.2.1), if_neg h1, ob0_s, if_pos rfl]
      · rw [f_X5_wantsFor, b ρ e, ob0_s, if_pos rfl, oneM hN (by rw [e50]; exact ok.2.1), if_neg h1, ob0_s, if_pos rfl]
theorem fiQ_cg {N d p m w : Nat} {u u' : Nat → Int32} {s : Rw} (h : ∀ j, j < m → u j = u' j) : fiQ N d p m w u s = fiQ N d p m w u' s := by
  funext v
  exact toldB_cg m h
theorem op_fits {n : Nat} (hn : n < 512) {σ : Sg} (h : Inv n σ) (x y : Int32) : Step n σ (f_X4_fits x y) (f_X5_fits x y) := by
  obtain ⟨⟨N, d, ok, hd, cr⟩, hz⟩ := id h.1
  have hl : d % 6 < 6 := Nat.mod_lt _ (by omega)
  rcases spfind h.2.2.2.2 ok cr x y with ⟨a, b⟩ | ⟨a, b⟩ | ⟨k, m, p, hk, rfl, hp, rfl, hm, e1, e2, a, b⟩
  · refine Step.bey h ?_ ?_
    · rw [f_X4_fits, a, ob0_s, if_neg (by decide), cfd0, ob2_s]
    · rw [f_X5_fits, b _ (fdC_o (by omega)) (fdC_o (by omega)), ob0_s, if_neg (by decide), mfd0, ob2_s]
  · refine Step.find0 (j := 5) (r := -1000006) h (by omega) ?_ ?_
    · rw [f_X4_fits, a, ob0_s, if_neg (by decide), cfd5, ob2_s]
    · rw [f_X5_fits, b _ (fdC_o (by omega)) (fdC_o (by omega)), ob0_s, if_neg (by decide), mfd5, ob2_s]
  · obtain ⟨w, v, hw, hv, es⟩ := ok.2.2.2.2.1 (d % 6) hl
    obtain ⟨τ, t, e⟩ := cfits (k := k) ok (by omega) hm cr hz hp hk e1 hw hv es
    have e50 : τ 50 = σ 50 := t 50 (by omega)
    obtain ⟨τ2, s2, g, g11, -⟩ := mfits (σ := τ) (N := N) (d := d) (k := k) (m := m) (p := p) (by rw [e50]; exact ok) (by omega) hm hp hk ((congrFun (t 57 (by omega)) k).trans e2) hw hv (by rw [e50]; exact es)
    refine Step.val (r := nI (cntB (fiQ N d p m w (σ (44 + k)) (σ 50)) 21)) h ?_ t (σ2 := τ2) ?_ s2
    · rw [f_X4_fits, a, ob0_s, if_pos (by decide), e]
    · rw [f_X5_fits, b _ (t _ (by omega)) e50, ob0_s, if_pos rfl, g, ob1_s, g11, e50, t 58 (by omega), fiQ_cg (fun j hj => ((h.2.2.2.2 k hk).2.2 j (by omega)).symm)]
theorem op_weighed {n : Nat} (hn : n < 512) {σ : Sg} (h : Inv n σ) (x y : Int32) : Step n σ (f_X4_weighed x y) (f_X5_weighed x y) := by
  obtain ⟨⟨N, d, ok, hd, cr⟩, hz⟩ := id h.1
  have hl : d % 6 < 6 := Nat.mod_lt _ (by omega)
  rcases spfind h.2.2.2.2 ok cr x y with ⟨a, b⟩ | ⟨a, b⟩ | ⟨k, m, p, hk, rfl, hp, rfl, hm, e1, e2, a, b⟩
  · refine Step.bey h ?_ ?_
    · rw [f_X4_weighed, a, ob0_s, if_neg (by decide), cfd0, ob2_s]
    · rw [f_X5_weighed, b _ (fdC_o (by omega)) (fdC_o (by omega)), ob0_s, if_neg (by decide), mfd0, ob2_s]
  · refine Step.find0 (j := 5) (r := -1000006) h (by omega) ?_ ?_
    · rw [f_X4_weighed, a, ob0_s, if_neg (by decide), cfd5, ob2_s]
    · rw [f_X5_weighed, b _ (fdC_o (by omega)) (fdC_o (by omega)), ob0_s, if_neg (by decide), mfd5, ob2_s]
  · obtain ⟨w, v, hw, hv, es⟩ := ok.2.2.2.2.1 (d % 6) hl
    have hu : fiQ N d p m w (fun i => σ 58 (40 * k + i)) (σ 50) = fiQ N d p m w (σ (44 + k)) (σ 50) := fiQ_cg (fun j hj => ((h.2.2.2.2 k hk).2.2 j (by omega)).symm)
    obtain ⟨τ, t, hc⟩ := cweighed (k := k) ok (by omega) hm cr hz hp hk e1 hw hv es
    have e50 : τ 50 = σ 50 := t 50 (by omega)
    have eC : f_X4_weighed (nI k) (nI p) σ = f_X4_weighed_L20 (nI k) (nI p) FU 0 σ := by rw [f_X4_weighed, a, ob0_s, if_pos (by decide)]
    have ls := lstH_p (fun j => fiQ N d p m w (σ (44 + k)) (σ 50) (20 - j)) 21
    rw [cntB_rev] at ls
    rcases hc with ⟨i, hi, q, q2, e⟩ | ⟨q, e⟩
    · obtain ⟨τ2, s2, g, g11, g12⟩ := mfits (σ := τ) (N := N) (d := d) (k := k) (m := m) (p := p) (by rw [e50]; exact ok) (by omega) hm hp hk ((congrFun (t 57 (by omega)) k).trans e2) hw hv (by rw [e50]; exact es)
      rw [e50, t 58 (by omega), hu] at g11
      rw [e50, t 58 (by omega), hu] at g12
      cases hj : lstH (fun j => fiQ N d p m w (σ (44 + k)) (σ 50) (20 - j)) 21 with
      | none =>
        have := (ls.1 hj).1 (20 - i) (by omega)
        rw [show 20 - (20 - i) = i by omega, q] at this
        cases this
      | some j =>
        obtain ⟨b1, b2, b3, b4⟩ := ls.2 j hj
        have hij : i = 20 - j := by
          by_cases c1 : i < 20 - j
          · have := b3 (20 - i) (by omega) (by omega)
            rw [show 20 - (20 - i) = i by omega, q] at this
            cases this
          · by_cases c2 : 20 - j < i
            · have := q2 (20 - j) c2
              rw [b2] at this
              cases this
            · omega
        have hcn := cntB_le (fiQ N d p m w (σ (44 + k)) (σ 50)) 21
        refine Step.val h (eC.trans e) t (σ2 := τ2) ?_ s2
        rw [f_X5_weighed, b _ (t _ (by omega)) e50, ob0_s, if_pos rfl, g, ob1_s, g11, if_neg (show ¬ nI (cntB (fiQ N d p m w (σ (44 + k)) (σ 50)) 21) ≤ 0 from nle (i := 0) (by omega) (by omega)), g12 j hj, hij]
    · have e50' : (fdC τ 3) 50 = σ 50 := (fdC_o (by omega)).trans e50
      have e58' : (fdC τ 3) 58 = σ 58 := (fdC_o (by omega)).trans (t 58 (by omega))
      obtain ⟨τ2, s2, g, g11, g12⟩ := mfits (σ := fdC τ 3) (N := N) (d := d) (k := k) (m := m) (p := p) (by rw [e50']; exact ok) (by omega) hm hp hk (by rw [fdC_o (by omega), t 57 (by omega)]; exact e2) hw hv (by rw [e50']; exact es)
      rw [e50', e58', hu] at g11
      cases hj : lstH (fun j => fiQ N d p m w (σ (44 + k)) (σ 50) (20 - j)) 21 with
      | none =>
        rw [(ls.1 hj).2] at g11
        refine Step.find (τ2 := τ2) h (by omega) (eC.trans e) t ?_ s2
        rw [f_X5_weighed, b _ ((fdC_o (by omega)).trans (t _ (by omega))) e50', ob0_s, if_pos rfl, g, ob1_s, g11, if_pos (by decide), mfd3, ob2_s]
      | some j =>
        obtain ⟨b1, b2, b3, b4⟩ := ls.2 j hj
        rw [q _ (by omega)] at b2
        cases b2
def kiQ (N p m : Nat) (u : Nat → Int32) (s : Rw) (i : Nat) : Bool := toldB N (10 + 5 * p + 1) u (upd s (10 + 5 * p) (nI i)) m
def kiN (q : Nat → Bool) : Nat → Int32
  | 0 => 0
  | i + 1 => if b01 (q i) = 0 then kiN q i else kiN q i ||| jshl 1 (nI i)
theorem ckinds {N d k m p : Nat} {σ : Sg} {s : Rw} (ok : Ok N d s) (hd : d + 40 ≤ 99999) (hm40 : m ≤ 40) (cr : CR N 1 σ s) (hz : σ 1 7 = 0) (hp : p < N) (hk : k < 4) (hm : σ (40 + k) 2 = nI m) : ∃ τ, Trl σ τ ∧ f_X4_kinds_L23 (nI k) (nI p) FU 0 0 σ = some (kiN (kiQ N p m (σ (44 + k)) s) 7, τ) := by
  have hN := ok.1
  have key := loop_up (P := fun f i => ∀ ρ, Trl σ ρ → ∃ τ, Trl σ τ ∧ f_X4_kinds_L23 (nI k) (nI p) f (kiN (kiQ N p m (σ (44 + k)) s) i) (nI i) ρ = some (kiN (kiQ N p m (σ (44 + k)) s) 7, τ)) 7
    (fun f ρ t => ⟨ρ, t, by rw [f_X4_kinds_L23, if_pos (by decide)]⟩)
    (fun f i hi ih ρ t => by
      have c := cr.trl hN t
      obtain ⟨τ0, e0, cr0, z0, t0⟩ := tri ok c ((congrFun (t 1 (by omega)) 7).trans hz)
      have t00 := t.tr t0
      have ok1 := Ok_person (v := nI i) ok hp (show 0 < 5 by omega) ⟨i, by simp [bnd]; omega, rfl⟩
      have cr1 := CR_p (v := nI i) cr0 (show p < 8 by omega) (show 0 < 5 by omega)
      obtain ⟨τ', f', e⟩ := cTold (k := k) (m := m) (p := p) (a := 1) ok1 hd hm40 cr1 (by rw [up2_ne _ _ (by omega)]; exact z0) hp (by omega) hk (by rw [up2_ne _ _ (by omega), t00 _ (by omega)]; exact hm)
      rw [up2_ne _ _ (show 44 + k ≠ 25 + 4 + p by omega), t00 (44 + k) (by omega)] at e
      have t2 : Trl σ τ' := t00.tr (Trl.tr (Trl.of (FrC.up (by omega) (by omega) (by omega))) (Trl.of f'))
      have hlt : ¬ (7 : Int32) ≤ nI i := nle (n := 7) hi (by omega)
      rw [f_X4_kinds_L23, if_neg hlt, e0, ob1_s, chk_nI (by omega) (by omega), cl_nI (by omega), lt_s1, chk_nI (by omega) (by omega), cl_nI (by omega), show (1 : Int32) = nI 1 from rfl, e, ob2_s, show nI 1 = 1 from rfl, nI_1]
      have g := ih τ' t2
      rw [kiN] at g
      by_cases q : b01 (kiQ N p m (σ (44 + k)) s i) = 0
      · rw [if_pos q] at g
        rw [if_pos (show b01 (toldB N (10 + 5 * p + 1) (σ (44 + k)) (upd s (10 + 5 * p + 0) (nI i)) m) = 0 from q)]
        exact g
      · rw [if_neg q] at g
        rw [if_neg (show ¬ b01 (toldB N (10 + 5 * p + 1) (σ (44 + k)) (upd s (10 + 5 * p + 0) (nI i)) m) = 0 from q)]
        exact g)
  exact key FU 0 (by omega) (by rw [FU_eq]; omega) σ (Trl.rf σ)
theorem mkinds {N d k m p : Nat} {σ : Sg} (ok : Ok N d (σ 50)) (hd : d + 41 ≤ 99999) (hm40 : m ≤ 40) (hp : p < N) (hk : k < 4) (hm : σ 57 k = nI m) : ∃ τ, ScM σ τ ∧ f_X5_kinds_L31 (nI k) (nI p) (σ 50 (10 + 5 * p)) FU 0 0 σ = some (kiN (kiQ N p m (fun i => σ 58 (40 * k + i)) (σ 50)) 7, τ) := by
  have hN := ok.1
  have key := loop_up (P := fun f i => ∀ ρ, Rl (10 + 5 * p) σ ρ → ∃ τ, ScM σ τ ∧ f_X5_kinds_L31 (nI k) (nI p) (σ 50 (10 + 5 * p)) f (kiN (kiQ N p m (fun i => σ 58 (40 * k + i)) (σ 50)) i) (nI i) ρ = some (kiN (kiQ N p m (fun i => σ 58 (40 * k + i)) (σ 50)) 7, τ)) 7
    (fun f ρ t => by
      refine ⟨_, t.back, ?_⟩
      rw [f_X5_kinds_L31, if_pos (by decide), atv0, ob0_s, chk_nI (by omega) (by omega), cl_nI (by omega), lt_s1])
    (fun f i hi ih ρ t => by
      obtain ⟨t1, e1⟩ := t.up (nI i)
      have ok1 := Ok_person (v := nI i) ok hp (show 0 < 5 by omega) ⟨i, by simp [bnd]; omega, rfl⟩
      have eT := mTold (N := N) (d := d) (k := k) (m := m) (c := 10 + 5 * p + 1) (σ := up2 ρ 50 (10 + 5 * p) (nI i)) (by rw [e1]; exact ok1) hd hm40 (by omega) hk (by rw [t1.1 57 (by omega) (by omega) (by omega) (by omega)]; exact hm)
      rw [e1, t1.1 58 (by omega) (by omega) (by omega) (by omega)] at eT
      have hlt : ¬ (6 : Int32) < nI i := by rw [i_not_lt]; exact nI_le (b := 6) (by omega) (by omega)
      have hq : toldB N (10 + 5 * p + 1) (fun i => σ 58 (40 * k + i)) (upd (σ 50) (10 + 5 * p) (nI i)) m = kiQ N p m (fun i => σ 58 (40 * k + i)) (σ 50) i := rfl
      rw [hq] at eT
      rw [f_X5_kinds_L31, if_neg hlt, atv0, ob0_s, chk_nI (by omega) (by omega), cl_nI (by omega), lt_s1, atv1, ob0_s, eT, ob2_s, or_z, nI_1]
      have g := ih _ t1.asd
      rw [kiN] at g
      by_cases q : b01 (kiQ N p m (fun i => σ 58 (40 * k + i)) (σ 50) i) = 0
      · rw [if_pos q] at g ⊢; exact g
      · rw [if_neg q] at g ⊢; exact g)
  exact key FU 0 (by omega) (by rw [FU_eq]; omega) σ (Rl.rf _ σ)
theorem op_kinds {n : Nat} (hn : n < 512) {σ : Sg} (h : Inv n σ) (x y : Int32) : Step n σ (f_X4_kinds x y) (f_X5_kinds x y) := by
  obtain ⟨⟨N, d, ok, hd, cr⟩, hz⟩ := id h.1
  rcases spfind h.2.2.2.2 ok cr x y with ⟨a, b⟩ | ⟨a, b⟩ | ⟨k, m, p, hk, rfl, hp, rfl, hm, e1, e2, a, b⟩
  · refine Step.bey h ?_ ?_
    · rw [f_X4_kinds, a, ob0_s, if_neg (by decide), cfd0, ob2_s]
    · rw [f_X5_kinds, b _ (fdC_o (by omega)) (fdC_o (by omega)), ob0_s, if_neg (by decide), mfd0, ob2_s]
  · refine Step.find0 (j := 5) (r := -1000006) h (by omega) ?_ ?_
    · rw [f_X4_kinds, a, ob0_s, if_neg (by decide), cfd5, ob2_s]
    · rw [f_X5_kinds, b _ (fdC_o (by omega)) (fdC_o (by omega)), ob0_s, if_neg (by decide), mfd5, ob2_s]
  · have hN := ok.1
    obtain ⟨τ, t, e⟩ := ckinds (k := k) ok (by omega) hm cr hz hp hk e1
    have e50 : τ 50 = σ 50 := t 50 (by omega)
    obtain ⟨τ2, s2, g⟩ := mkinds (σ := τ) (N := N) (d := d) (k := k) (m := m) (p := p) (by rw [e50]; exact ok) (by omega) hm hp hk ((congrFun (t 57 (by omega)) k).trans e2)
    have hu : kiQ N p m (fun i => σ 58 (40 * k + i)) (σ 50) = kiQ N p m (σ (44 + k)) (σ 50) := funext (fun v => toldB_cg m (fun j hj => ((h.2.2.2.2 k hk).2.2 j (by omega)).symm))
    rw [e50, t 58 (by omega), hu] at g
    refine Step.val (r := kiN (kiQ N p m (σ (44 + k)) (σ 50)) 7) h ?_ t (σ2 := τ2) ?_ s2
    · rw [f_X4_kinds, a, ob0_s, if_pos (by decide), e]
    · rw [f_X5_kinds, b _ (t _ (by omega)) e50, ob0_s, if_pos rfl, its0 (by omega), ob0_s, e50, g]
