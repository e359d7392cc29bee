/-! buildFor, kindFor, swapFor -/
theorem i_rfl (a : Int32) : a ≤ a := by rw [Int32.le_iff_toInt_le]; omega
theorem i_tr {a b c : Int32} (h : a ≤ b) (h2 : b ≤ c) : a ≤ c := by rw [Int32.le_iff_toInt_le] at *; omega
theorem anF_3 {n d p : Nat} {s : Rw} (ok : Ok n d s) (hp : p < n) : s 3 ≤ anF n s p 3 := by
  have hn := ok.1
  unfold anF
  split
  · exact i_rfl _
  · cases hj : bearS n s p (askS s p) with
    | none =>
      obtain ⟨a, ha, e⟩ := ok.2.2.2.1
      show s 3 ≤ upd _ 3 _ 3
      rw [upd_at, e, nI_1, show (99999 : Int32) = nI 99999 from rfl, jmin_nI (by omega) (by omega)]
      exact nI_le (by omega) (by omega)
    | some j =>
      have := bearS_lt hj
      show s 3 ≤ beF _ j _ _ 3
      rw [beF_o _ _ _ (by omega) (Or.inl (by omega)), upd_ne _ _ (by omega), upd_ne _ _ (by omega)]
      exact i_rfl _
theorem asF_3 {n d p : Nat} {m : Int32} {s : Rw} (ok : Ok n d s) (hp : p < n) : s 3 ≤ asF n m p s 3 := by
  unfold asF
  split
  · exact anF_3 ok hp
  · exact i_rfl _
theorem itr_3 {n d : Nat} {m : Int32} : ∀ i, i ≤ n → ∀ s, Ok n d s → s 3 ≤ itr (asF n m) i s 3 := by
  intro i
  induction i with
  | zero => intro _ s _; exact i_rfl _
  | succ i ih =>
    intro hi s ok
    have ok1 := Ok_itr (g := asF n m) (fun p s hp h => Ok_asF h hp) i (by omega) s ok
    exact i_tr (ih (by omega) s ok) (asF_3 ok1 (by omega))
theorem dayF_3 {n d : Nat} {m : Int32} {s : Rw} (hd : d < 2 ^ 30) (ok : Ok n d s) : s 3 ≤ dayF n m s 3 := by
  have hn := ok.1
  have hq : Sy (s (4 + d % 6)) := ok.2.2.2.2.1 (d % 6) (Nat.mod_lt d (by omega))
  unfold dayF
  simp only [ok.2.2.1, jrem6 (show d < 2 ^ 31 by omega), cl_nI (show d % 6 < 2 ^ 31 by omega)]
  rw [upd_ne _ _ (by omega), itr_o (N := n) (fun p s hp => fgF_o s (by omega) (Or.inl (by omega))) n (Nat.le_refl n)]
  have h := itr_3 (m := m) n (Nat.le_refl n) _ (Ok_st ok hq)
  rw [stF_o _ hq (Or.inl (by omega))] at h
  exact h
theorem goN_3 {n d : Nat} {m : Int32} {s : Rw} (ok : Ok n d s) : ∀ t i, d + (i + t) < 2 ^ 30 → goN n m i s 3 ≤ goN n m (i + t) s 3 := by
  intro t
  induction t with
  | zero => intro i _; exact i_rfl _
  | succ t ih =>
    intro i hi
    exact i_tr (ih i (by omega)) (dayF_3 (d := d + (i + t)) (by omega) (Ok_go ok (i + t) (by omega)))
theorem ckh {N d k : Nat} {τ : Sg} {s : Rw} (ok : Ok N d s) (hdk : d + k ≤ 99999) (hk : k < 900) (cr : CR N 25 τ s) (hz : τ 25 7 = 0) : ∃ r τ', f_X0_keepsHints 25 (nI k) τ = some (r, τ') ∧ FrC 25 τ τ' ∧ ((goN N 0 k s 3 = s 3 ∧ r = 1) ∨ (¬ goN N 0 k s 3 = s 3 ∧ r = 0)) := by
  have key := loop_up (P := fun f i => ∀ ρ, CR N 25 ρ (goN N 0 i s) → FrC 25 τ ρ → ∃ r τ', f_X0_keepsHints_L7 25 (nI k) (s 3) f (nI i) ρ = some (r, τ') ∧ FrC 25 τ τ' ∧ ((goN N 0 k s 3 = s 3 ∧ r = 1) ∨ (¬ goN N 0 k s 3 = s 3 ∧ r = 0))) k
    (fun f ρ c fr => by
      rw [f_X0_keepsHints_L7, if_pos (nI_le (Nat.le_refl k) (by omega)), c.2.2.2.1]
      by_cases q : goN N 0 k s 3 = s 3
      · rw [if_pos q]; exact ⟨1, ρ, rfl, fr, Or.inl ⟨q, rfl⟩⟩
      · rw [if_neg q]; exact ⟨0, ρ, rfl, fr, Or.inr ⟨q, rfl⟩⟩)
    (fun f i hi ih ρ c fr => by
      have oki := Ok_go (m := 0) ok i (by omega)
      rw [f_X0_keepsHints_L7, if_neg (nle hi (by omega)), c.2.2.2.1, nI_1]
      by_cases q : goN N 0 i s 3 = s 3
      · obtain ⟨ρ', e, c', f'⟩ := cday (d := d + i) (by omega) 0 oki c (fr.2.trans hz)
        rw [if_pos q, e, ob1_s]
        exact ih ρ' c' (fr.tr f')
      · rw [if_neg q]
        refine ⟨0, ρ, rfl, fr, Or.inr ⟨fun e => q ?_, rfl⟩⟩
        have h1 := goN_3 (m := 0) ok i 0 (by omega)
        have h2 := goN_3 (m := 0) ok (k - i) i (by omega)
        rw [show i + (k - i) = k by omega, e] at h2
        rw [Nat.zero_add] at h1
        exact i_le_antisymm h2 h1)
  have := key FU 0 (Nat.zero_le k) (by rw [FU_eq]; omega) τ cr (FrC.rf 25 τ)
  rw [f_X0_keepsHints, cr.2.2.2.1]
  exact this
/-- the reference's row but for one place -/
def Rl (c : Nat) (σ ρ : Sg) : Prop := (∀ k, k ≠ 49 → k ≠ 50 → k ≠ 52 → k ≠ 53 → ρ k = σ k) ∧ ρ 49 4 = σ 49 4 ∧ ρ 49 7 = σ 49 7 ∧ ∀ j, j ≠ c → ρ 50 j = σ 50 j
theorem Rl.rf (c : Nat) (σ : Sg) : Rl c σ σ := ⟨fun _ _ _ _ _ => rfl, rfl, rfl, fun _ _ => rfl⟩
theorem Rl.up {c : Nat} {σ ρ : Sg} (h : Rl c σ ρ) (v : Int32) : Rl c σ (up2 ρ 50 c v) ∧ up2 ρ 50 c v 50 = upd (σ 50) c v := by
  refine ⟨⟨fun k a b x y => by rw [up2_ne _ _ b]; exact h.1 k a b x y, by rw [up2_ne _ _ (by omega)]; exact h.2.1, by rw [up2_ne _ _ (by omega)]; exact h.2.2.1, fun j hj => ?_⟩, ?_⟩
  · rw [up2_k, upd_ne _ _ hj]; exact h.2.2.2 j hj
  · rw [up2_k]
    funext j
    by_cases e : j = c
    · subst e; rw [upd_at, upd_at]
    · rw [upd_ne _ _ e, upd_ne _ _ e]; exact h.2.2.2 j e
theorem Rl.asd {c : Nat} {σ ρ : Sg} (h : Rl c σ ρ) : Rl c σ (asd ρ) := by
  have hs := ScM_asd ρ
  exact ⟨fun k a b x y => (hs.1 k a x y).trans (h.1 k a b x y), hs.2.1.trans h.2.1, hs.2.2.trans h.2.2.1, fun j hj => by rw [asd_50]; exact h.2.2.2 j hj⟩
theorem Rl.back {c : Nat} {σ ρ : Sg} (h : Rl c σ ρ) : ScM σ (up2 ρ 50 c (σ 50 c)) := by
  obtain ⟨g, e⟩ := h.up (σ 50 c)
  refine ⟨fun k a x y => ?_, g.2.1, g.2.2.1⟩
  by_cases q : k = 50
  · subst q
    rw [e]
    funext j
    by_cases e : j = c
    · subst e; rw [upd_at]
    · rw [upd_ne _ _ e]
  · exact g.1 k a q x y
theorem askedM {N : Nat} (hN : N ≤ 8) {σ : Sg} (h : σ 50 0 = nI N) (x y : Int32) : f_X5_isAsked x y σ = some (if 0 ≤ x.toInt ∧ x.toInt < (N : Int) then (if 0 ≤ y.toInt ∧ y.toInt ≤ 40 then 1 else 0) else 0) := by
  rw [f_X5_isAsked, oneM hN h, ob0_s]
  by_cases h1 : 0 ≤ x.toInt ∧ x.toInt < (N : Int)
  · rw [if_pos h1, if_pos h1, if_neg one_ne0, wM (a := 0) (b := 40) (by decide) (by decide), ob0_s]
    by_cases h2 : 0 ≤ y.toInt ∧ y.toInt ≤ 40
    · rw [if_pos h2, if_neg one_ne0]
    · rw [if_neg h2, if_pos rfl]
  · rw [if_neg h1, if_neg h1, if_pos rfl]
theorem lt99 {i : Nat} (h : i < 100) : ¬ (99 : Int32) < nI i := by
  rw [i_not_lt]; exact nI_le (b := 99) (by omega) (by omega)
def bfQ (N k p : Nat) (s : Rw) (i : Nat) : Prop := goN N 0 k (upd s (10 + 5 * p + 2) (nI i)) 3 = s 3
theorem cbf {N d k p : Nat} {σ : Sg} {s : Rw} (ok : Ok N d s) (hdk : d + k ≤ 99999) (hk : k < 900) (cr : CR N 1 σ s) (hz : σ 1 7 = 0) (hp : p < N) : ∃ τ, Trl σ τ ∧ ((∃ i, i < 100 ∧ bfQ N k p s i ∧ (∀ j, j < i → ¬ bfQ N k p s j) ∧ f_X4_buildFor_L30 (nI p) (nI k) FU 0 σ = some (nI i, τ)) ∨ ((∀ i, i < 100 → ¬ bfQ N k p s i) ∧ f_X4_buildFor_L30 (nI p) (nI k) FU 0 σ = some (-1000004, fdC τ 3))) := by
  have hN := ok.1
  have key := loop_up (P := fun f i => ∀ ρ, Trl σ ρ → (∀ j, j < i → ¬ bfQ N k p s j) → ∃ τ, Trl σ τ ∧ ((∃ i', i' < 100 ∧ bfQ N k p s i' ∧ (∀ j, j < i' → ¬ bfQ N k p s j) ∧ f_X4_buildFor_L30 (nI p) (nI k) f (nI i) ρ = some (nI i', τ)) ∨ ((∀ i', i' < 100 → ¬ bfQ N k p s i') ∧ f_X4_buildFor_L30 (nI p) (nI k) f (nI i) ρ = some (-1000004, fdC τ 3)))) 100
    (fun f ρ t hq => by
      refine ⟨ρ, t, Or.inr ⟨hq, ?_⟩⟩
      rw [f_X4_buildFor_L30, if_pos (by decide), cfd3, ob2_s])
    (fun f i hi ih ρ t hq => by
      have c := cr.trl hN t
      obtain ⟨τ0, e0, cr0, z0, t0⟩ := tri ok c ((congrFun (t 1 (by omega)) 7).trans hz)
      have ok1 := Ok_person (v := nI i) ok hp (show 2 < 5 by omega) ⟨i, by simp [bnd]; omega, rfl⟩
      have cr1 := CR_p (v := nI i) cr0 (show p < 8 by omega) (show 2 < 5 by omega)
      obtain ⟨r, τ', e2, fr2, hr⟩ := ckh ok1 hdk hk cr1 (by rw [up2_ne _ _ (by omega)]; exact z0)
      have t2 : Trl σ τ' := (t.tr t0).tr (Trl.tr (Trl.of (FrC.up (by omega) (by omega) (by omega))) (Trl.of fr2))
      rw [upd_ne s _ (show 3 ≠ 10 + 5 * p + 2 by omega)] at hr
      rw [f_X4_buildFor_L30, if_neg (lt99 hi), e0, ob1_s, chk_nI (by omega) (by omega), cl_nI (by omega), lt_s1, e2, ob2_s, nI_1]
      rcases hr with ⟨q, rfl⟩ | ⟨q, rfl⟩
      · rw [if_neg one_ne0]
        exact ⟨τ', t2, Or.inl ⟨i, hi, q, hq, rfl⟩⟩
      · rw [if_pos rfl]
        refine ih τ' t2 (fun j hj => ?_)
        by_cases e3 : j = i
        · subst e3; exact q
        · exact hq j (by omega))
  exact key FU 0 (by omega) (by rw [FU_eq]; omega) σ (Trl.rf σ) (fun j hj => by omega)
theorem mbf {N d k p : Nat} {σ : Sg} (ok : Ok N d (σ 50)) (hdk : d + k ≤ 99999) (hk : k < 900) (hp : p < N) : ∃ τ, ScM σ τ ∧ ((∃ i, i < 100 ∧ bfQ N k p (σ 50) i ∧ (∀ j, j < i → ¬ bfQ N k p (σ 50) j) ∧ f_X5_buildFor_L29 (nI p) (nI k) (σ 50 (10 + 5 * p + 2)) FU (-1) 0 σ = some (nI i, τ)) ∨ ((∀ i, i < 100 → ¬ bfQ N k p (σ 50) i) ∧ f_X5_buildFor_L29 (nI p) (nI k) (σ 50 (10 + 5 * p + 2)) FU (-1) 0 σ = some (-1000004, fdM τ 3))) := by
  have hN := ok.1
  have key := loop_up (P := fun f i => ∀ ρ, Rl (10 + 5 * p + 2) σ ρ → (∀ j, j < i → ¬ bfQ N k p (σ 50) j) → ∃ τ, ScM σ τ ∧ ((∃ i', i' < 100 ∧ bfQ N k p (σ 50) i' ∧ (∀ j, j < i' → ¬ bfQ N k p (σ 50) j) ∧ f_X5_buildFor_L29 (nI p) (nI k) (σ 50 (10 + 5 * p + 2)) (f + 1) (-1) (nI i) ρ = some (nI i', τ)) ∨ ((∀ i', i' < 100 → ¬ bfQ N k p (σ 50) i') ∧ f_X5_buildFor_L29 (nI p) (nI k) (σ 50 (10 + 5 * p + 2)) (f + 1) (-1) (nI i) ρ = some (-1000004, fdM τ 3)))) 100
    (fun f ρ t hq => by
      refine ⟨_, t.back, Or.inr ⟨hq, ?_⟩⟩
      have := orN none (fun j hj => by cases hj) (up2 ρ 50 (10 + 5 * p + 2) (σ 50 (10 + 5 * p + 2)))
      rw [f_X5_buildFor_L29, if_pos (by decide), atv2, ob0_s, chk_nI (by omega) (by omega), cl_nI (by omega), lt_s1, show (-1 : Int32) = enc none from rfl, this, ob2_s])
    (fun f i hi ih ρ t hq => by
      have ok1 := Ok_person (v := nI i) ok hp (show 2 < 5 by omega) ⟨i, by simp [bnd]; omega, rfl⟩
      obtain ⟨t1, e1⟩ := t.up (nI i)
      have eT := mthen (n := N) (d := d) (k := k) (pl := 3) (σ := up2 ρ 50 (10 + 5 * p + 2) (nI i)) (by rw [e1]; exact ok1) (by omega) (by omega) (by omega)
      rw [show nI 3 = 3 from rfl] at eT
      have unf : f_X5_buildFor_L29 (nI p) (nI k) (σ 50 (10 + 5 * p + 2)) (f + 1 + 1) (-1) (nI i) ρ = (if goN N 0 k (upd (σ 50) (10 + 5 * p + 2) (nI i)) 3 = σ 50 3 then f_X5_buildFor_L29 (nI p) (nI k) (σ 50 (10 + 5 * p + 2)) (f + 1) (nI i) (nI (i + 1)) (asd (up2 ρ 50 (10 + 5 * p + 2) (nI i))) else f_X5_buildFor_L29 (nI p) (nI k) (σ 50 (10 + 5 * p + 2)) (f + 1) (-1) (nI (i + 1)) (asd (up2 ρ 50 (10 + 5 * p + 2) (nI i)))) := by
        rw [f_X5_buildFor_L29, if_neg (lt99 hi), if_neg (show ¬ (0 : Int32) ≤ -1 by decide), atv2, ob0_s, chk_nI (by omega) (by omega), cl_nI (by omega), lt_s1, eT, ob2_s, asd_50, e1, upd_ne (σ 50) _ (show 3 ≠ 10 + 5 * p + 2 by omega), nI_1]
      rw [unf]
      by_cases q : goN N 0 k (upd (σ 50) (10 + 5 * p + 2) (nI i)) 3 = σ 50 3
      · rw [if_pos q]
        refine ⟨_, t1.asd.back, Or.inl ⟨i, hi, q, hq, ?_⟩⟩
        have : f_X5_orNone (nI i) (up2 (asd (up2 ρ 50 (10 + 5 * p + 2) (nI i))) 50 (10 + 5 * p + 2) (σ 50 (10 + 5 * p + 2))) = some (nI i, up2 (asd (up2 ρ 50 (10 + 5 * p + 2) (nI i))) 50 (10 + 5 * p + 2) (σ 50 (10 + 5 * p + 2))) := orN (some i) (fun j hj => by cases hj; omega) _
        rw [f_X5_buildFor_L29, atv2, ob0_s, chk_nI (by omega) (by omega), cl_nI (by omega), lt_s1, if_pos (show (0 : Int32) ≤ nI i from nI_ge0 (by omega)), this, ob2_s]
        split <;> rfl
      · rw [if_neg q]
        refine ih _ t1.asd (fun j hj => ?_)
        by_cases e3 : j = i
        · subst e3; exact q
        · exact hq j (by omega))
  exact key 999 0 (by omega) (by omega) σ (Rl.rf _ σ) (fun j hj => by omega)
theorem op_buildFor {n : Nat} (hn : n < 512) {σ : Sg} (h : Inv n σ) (x v : Int32) : Step n σ (f_X4_buildFor x v) (f_X5_buildFor x v) := by
  obtain ⟨⟨N, d, ok, hd, cr⟩, hz⟩ := id h.1
  have hN := ok.1
  have c1 : ∀ τ, τ 1 = σ 1 → f_X0_has 1 x τ = some (if 0 ≤ x.toInt ∧ x.toInt < (N : Int) then 1 else 0) := fun τ e => hasC hN (by rw [e]; exact cr.1.trans ok.2.1) x
  have m1 : ∀ τ, τ 50 = σ 50 → f_X5_isAsked x v τ = some (if 0 ≤ x.toInt ∧ x.toInt < (N : Int) then (if 0 ≤ v.toInt ∧ v.toInt ≤ 40 then 1 else 0) else 0) := fun τ e => askedM hN (by rw [e]; exact ok.2.1) x v
  have c2 : ∀ τ, f_X4_within v 0 40 τ = some (if 0 ≤ v.toInt ∧ v.toInt ≤ 40 then 1 else 0) := fun τ => wC (by decide) (by decide) τ
  by_cases h1 : 0 ≤ x.toInt ∧ x.toInt < (N : Int)
  · by_cases h2 : 0 ≤ v.toInt ∧ v.toInt ≤ 40
    · obtain ⟨p, hp, rfl⟩ := nn_lt h1
      obtain ⟨k, hk, rfl⟩ := nn_of (b := 40) h2
      obtain ⟨τ, t, hc⟩ := cbf ok (k := k) (by omega) (by omega) cr hz hp
      have e50 : τ 50 = σ 50 := t 50 (by omega)
      have eC : f_X4_buildFor (nI p) (nI k) σ = f_X4_buildFor_L30 (nI p) (nI k) FU 0 σ := by
        simp only [f_X4_buildFor, c1 σ rfl, c2, if_pos h1, if_pos h2, ob0_s, if_neg one_ne0]
      have eM : ∀ ρ, ρ 50 = σ 50 → f_X5_buildFor (nI p) (nI k) ρ = f_X5_buildFor_L29 (nI p) (nI k) (ρ 50 (10 + 5 * p + 2)) FU (-1) 0 ρ := fun ρ e => by
        rw [f_X5_buildFor, m1 ρ e, if_pos h1, if_pos h2, ob0_s, if_neg one_ne0, its2 (show p < 8 by omega), ob0_s]
      rcases hc with ⟨i, hi, q, q2, e⟩ | ⟨q, e⟩
      · obtain ⟨τ2, s2, hm⟩ := mbf (σ := τ) (N := N) (d := d) (k := k) (by rw [e50]; exact ok) (by omega) (by omega) hp
        rcases hm with ⟨j, hj, p1, p2, e'⟩ | ⟨p1, e'⟩
        · rw [e50] at p1 p2
          have := lst_uniq (Q := bfQ N k p (σ 50)) q q2 p1 p2
          subst this
          exact Step.val h (eC.trans e) t ((eM τ e50).trans e') s2
        · rw [e50] at p1
          exact absurd q (p1 i hi)
      · have e50' : (fdC τ 3) 50 = σ 50 := (fdC_o (by omega)).trans e50
        obtain ⟨τ2, s2, hm⟩ := mbf (σ := fdC τ 3) (N := N) (d := d) (k := k) (by rw [e50']; exact ok) (by omega) (by omega) hp
        rcases hm with ⟨j, hj, p1, p2, e'⟩ | ⟨p1, e'⟩
        · rw [e50'] at p1
          exact absurd p1 (q j hj)
        · exact Step.find h (by omega) (eC.trans e) t ((eM _ e50').trans e') s2
    · refine Step.bey h ?_ ?_
      · simp only [f_X4_buildFor, c1 σ rfl, c2, if_pos h1, if_neg h2, ob0_s, if_neg one_ne0, if_pos, cfd0, ob2_s]
      · simp only [f_X5_buildFor, m1 (fdC σ 0) (fdC_o (by omega)), if_pos h1, if_neg h2, ob0_s, if_pos, mfd0, ob2_s]
  · refine Step.bey h ?_ ?_
    · simp only [f_X4_buildFor, c1 σ rfl, if_neg h1, ob0_s, if_pos, cfd0, ob2_s]
    · simp only [f_X5_buildFor, m1 (fdC σ 0) (fdC_o (by omega)), if_neg h1, ob0_s, if_pos, mfd0, ob2_s]
def kfV (N k p : Nat) (s : Rw) (i : Nat) : Int32 := goN N 0 k (upd s (10 + 5 * p) (nI i)) (10 + 5 * p + 3)
def kfN (v : Nat → Int32) : Nat → Int32 × Int32
  | 0 => (0, 10000)
  | i + 1 => if (kfN v i).2 ≤ v i then kfN v i else (nI i, v i)
theorem ckf {N d k p : Nat} {σ : Sg} {s : Rw} (ok : Ok N d s) (hdk : d + k ≤ 99999) (hk : k < 900) (cr : CR N 1 σ s) (hz : σ 1 7 = 0) (hp : p < N) : ∃ τ, Trl σ τ ∧ f_X4_kindFor_L38 (nI p) (nI k) FU 0 10000 0 σ = some ((kfN (kfV N k p s) 7).1, τ) := by
  have hN := ok.1
  have key := loop_up (P := fun f i => ∀ ρ, Trl σ ρ → ∃ τ, Trl σ τ ∧ f_X4_kindFor_L38 (nI p) (nI k) f (kfN (kfV N k p s) i).1 (kfN (kfV N k p s) i).2 (nI i) ρ = some ((kfN (kfV N k p s) 7).1, τ)) 7
    (fun f ρ t => ⟨ρ, t, by rw [f_X4_kindFor_L38, if_pos (by decide)]⟩)
    (fun f i hi ih ρ t => by
      have c := cr.trl hN t
      obtain ⟨τ0, e0, cr0, z0, t0⟩ := tri ok c ((congrFun (t 1 (by omega)) 7).trans hz)
      have ok1 := Ok_person (v := nI i) ok hp (show 0 < 5 by omega) ⟨i, by simp [bnd]; omega, rfl⟩
      have cr1 := CR_p (v := nI i) cr0 (show p < 8 by omega) (show 0 < 5 by omega)
      obtain ⟨τ2, e2, cr2, fr2⟩ := cgo 0 ok1 cr1 (by rw [up2_ne _ _ (by omega)]; exact z0) k hdk (by omega)
      have t2 : Trl σ τ2 := (t.tr t0).tr (Trl.tr (Trl.of (FrC.up (by omega) (by omega) (by omega))) (Trl.of fr2))
      have ev : τ2 (25 + 4 + p) 3 = kfV N k p s i := cr2.at1 hp (by omega)
      have hlt : ¬ (7 : Int32) ≤ nI i := nle (n := 7) hi (by omega)
      rw [f_X4_kindFor_L38, if_neg hlt, e0, ob1_s, chk_nI (by omega) (by omega), cl_nI (by omega), lt_s1, e2, ob1_s, ev, nI_1]
      have g := ih τ2 t2
      rw [kfN] at g
      by_cases q : (kfN (kfV N k p s) i).2 ≤ kfV N k p s i
      · rw [if_pos q] at g ⊢; exact g
      · rw [if_neg q] at g ⊢; exact g)
  exact key FU 0 (by omega) (by rw [FU_eq]; omega) σ (Trl.rf σ)
theorem mkf {N d k p : Nat} {σ : Sg} (ok : Ok N d (σ 50)) (hdk : d + k ≤ 99999) (hk : k < 900) (hp : p < N) : ∃ τ, ScM σ τ ∧ f_X5_kindFor_L34 (nI p) (nI k) (σ 50 (10 + 5 * p)) FU 0 10000 0 σ = some ((kfN (kfV N k p (σ 50)) 7).1, τ) := by
  have hN := ok.1
  have key := loop_up (P := fun f i => ∀ ρ, Rl (10 + 5 * p) σ ρ → ∃ τ, ScM σ τ ∧ f_X5_kindFor_L34 (nI p) (nI k) (σ 50 (10 + 5 * p)) f (kfN (kfV N k p (σ 50)) i).1 (kfN (kfV N k p (σ 50)) i).2 (nI i) ρ = some ((kfN (kfV N k p (σ 50)) 7).1, τ)) 7
    (fun f ρ t => by
      refine ⟨_, t.back, ?_⟩
      rw [f_X5_kindFor_L34, if_pos (by decide), atv0, ob0_s, chk_nI (by omega) (by omega), cl_nI (by omega), lt_s1])
    (fun f i hi ih ρ t => by
      have ok1 := Ok_person (v := nI i) ok hp (show 0 < 5 by omega) ⟨i, by simp [bnd]; omega, rfl⟩
      obtain ⟨t1, e1⟩ := t.up (nI i)
      have eT := mthen (n := N) (d := d) (k := k) (pl := 10 + 5 * p + 3) (σ := up2 ρ 50 (10 + 5 * p) (nI i)) (by rw [e1]; exact ok1) (by omega) (by omega) (by omega)
      have hlt : ¬ (6 : Int32) < nI i := by rw [i_not_lt]; exact nI_le (b := 6) (by omega) (by omega)
      rw [e1, show goN N 0 k (upd (σ 50) (10 + 5 * p) (nI i)) (10 + 5 * p + 3) = kfV N k p (σ 50) i from rfl] at eT
      rw [f_X5_kindFor_L34, if_neg hlt, atv0, ob0_s, chk_nI (by omega) (by omega), cl_nI (by omega), lt_s1, atv3, ob0_s, eT, ob2_s, lea_eq, nI_1]
      have g := ih _ t1.asd
      rw [kfN] at g
      by_cases q : (kfN (kfV N k p (σ 50)) i).2 ≤ kfV N k p (σ 50) i
      · rw [if_pos q] at g ⊢
        rw [ob0_s, jmin, if_neg (by rw [i_not_lt]; exact q)]
        exact g
      · rw [if_neg q] at g ⊢
        rw [ob0_s, jmin, if_pos (i_not_le.mp q)]
        exact g)
  exact key FU 0 (by omega) (by rw [FU_eq]; omega) σ (Rl.rf _ σ)
theorem op_kindFor {n : Nat} (hn : n < 512) {σ : Sg} (h : Inv n σ) (x v : Int32) : Step n σ (f_X4_kindFor x v) (f_X5_kindFor x v) := by
  obtain ⟨⟨N, d, ok, hd, cr⟩, hz⟩ := id h.1
  have hN := ok.1
  have c1 : ∀ τ, τ 1 = σ 1 → f_X0_has 1 x τ = some (if 0 ≤ x.toInt ∧ x.toInt < (N : Int) then 1 else 0) := fun τ e => hasC hN (by rw [e]; exact cr.1.trans ok.2.1) x
  have m1 : ∀ τ, τ 50 = σ 50 → f_X5_isAsked x v τ = some (if 0 ≤ x.toInt ∧ x.toInt < (N : Int) then (if 0 ≤ v.toInt ∧ v.toInt ≤ 40 then 1 else 0) else 0) := fun τ e => askedM hN (by rw [e]; exact ok.2.1) x v
  have c2 : ∀ τ, f_X4_within v 0 40 τ = some (if 0 ≤ v.toInt ∧ v.toInt ≤ 40 then 1 else 0) := fun τ => wC (by decide) (by decide) τ
  by_cases h1 : 0 ≤ x.toInt ∧ x.toInt < (N : Int)
  · by_cases h2 : 0 ≤ v.toInt ∧ v.toInt ≤ 40
    · obtain ⟨p, hp, rfl⟩ := nn_lt h1
      obtain ⟨k, hk, rfl⟩ := nn_of (b := 40) h2
      obtain ⟨τ, t, hc⟩ := ckf ok (k := k) (by omega) (by omega) cr hz hp
      have e50 : τ 50 = σ 50 := t 50 (by omega)
      obtain ⟨τ2, s2, hm⟩ := mkf (σ := τ) (N := N) (d := d) (k := k) (by rw [e50]; exact ok) (by omega) (by omega) hp
      refine Step.val h (r := (kfN (kfV N k p (σ 50)) 7).1) (σ1 := τ) ?_ t (σ2 := τ2) ?_ s2
      · simp only [f_X4_kindFor, c1 σ rfl, c2, if_pos h1, if_pos h2, ob0_s, if_neg one_ne0, hc]
      · rw [e50] at hm
        rw [f_X5_kindFor, m1 τ e50, if_pos h1, if_pos h2, ob0_s, if_neg one_ne0, its0 (show p < 8 by omega), ob0_s, e50, hm]
    · refine Step.bey h ?_ ?_
      · simp only [f_X4_kindFor, c1 σ rfl, c2, if_pos h1, if_neg h2, ob0_s, if_neg one_ne0, if_pos, cfd0, ob2_s]
      · simp only [f_X5_kindFor, m1 (fdC σ 0) (fdC_o (by omega)), if_pos h1, if_neg h2, ob0_s, if_pos, mfd0, ob2_s]
  · refine Step.bey h ?_ ?_
    · simp only [f_X4_kindFor, c1 σ rfl, if_neg h1, ob0_s, if_pos, cfd0, ob2_s]
    · simp only [f_X5_kindFor, m1 (fdC σ 0) (fdC_o (by omega)), if_neg h1, ob0_s, if_pos, mfd0, ob2_s]
def stA (a : Option (Nat × Int32)) (c : Nat) (v : Int32) : Option (Nat × Int32) := match a with
  | none => some (c, v)
  | some (b, m) => if m ≤ v then some (b, m) else some (c, v)
def swJ (v : Nat → Nat → Int32) (i : Nat) (a : Option (Nat × Int32)) : Nat → Option (Nat × Int32)
  | 0 => a
  | t + 1 => stA (swJ v i a t) (8 * i + (i + 1 + t)) (v i (i + 1 + t))
def swO (v : Nat → Nat → Int32) (N : Nat) : Nat → Option (Nat × Int32)
  | 0 => none
  | i + 1 => swJ v i (swO v N i) (N - (i + 1))
def swV (N k : Nat) (s : Rw) (i j : Nat) : Int32 := goN N 0 k (upd (upd s (10 + 5 * i + 2) (s (10 + 5 * j + 2))) (10 + 5 * j + 2) (s (10 + 5 * i + 2))) 3
theorem Ok_swap {N d i j : Nat} {s : Rw} (ok : Ok N d s) (hi : i < N) (hj : j < N) : Ok N d (upd (upd s (10 + 5 * i + 2) (s (10 + 5 * j + 2))) (10 + 5 * j + 2) (s (10 + 5 * i + 2))) :=
  Ok_person (Ok_person ok hi (show 2 < 5 by omega) (ok.2.2.2.2.2.1 j hj).2.2.1) hj (show 2 < 5 by omega) (ok.2.2.2.2.2.1 i hi).2.2.1
theorem chs {N d k i j : Nat} {τ : Sg} {s : Rw} (ok : Ok N d s) (hdk : d + k ≤ 99999) (hk : k < 900) (cr : CR N 1 τ s) (hz : τ 1 7 = 0) (hi : i < j) (hj : j < N) : ∃ τ', Trl τ τ' ∧ f_X4_hintsWithSwapped (nI i) (nI j) (nI k) τ = some (swV N k s i j, τ') := by
  have hN := ok.1
  obtain ⟨τ0, e0, cr0, z0, t0⟩ := tri ok cr hz
  have c0 := cr.trl hN t0
  have ej : τ0 (1 + 4 + j) 2 = s (10 + 5 * j + 2) := c0.at1 hj (by omega)
  have ei : up2 τ0 (25 + 4 + i) 2 (s (10 + 5 * j + 2)) (1 + 4 + i) 2 = s (10 + 5 * i + 2) := by rw [up2_ne _ _ (by omega)]; exact c0.at1 (by omega) (by omega)
  have cr1 := CR_p (v := s (10 + 5 * i + 2)) (CR_p (v := s (10 + 5 * j + 2)) cr0 (show i < 8 by omega) (show 2 < 5 by omega)) (show j < 8 by omega) (show 2 < 5 by omega)
  obtain ⟨τ2, e2, cr2, fr2⟩ := cgo 0 (Ok_swap ok (show i < N by omega) hj) cr1 (by rw [up2_ne _ _ (by omega), up2_ne _ _ (by omega)]; exact z0) k hdk (by omega)
  refine ⟨τ2, t0.tr (Trl.tr (Trl.of (FrC.up (by omega) (by omega) (by omega))) (Trl.tr (Trl.of (FrC.up (by omega) (by omega) (by omega))) (Trl.of fr2))), ?_⟩
  rw [f_X4_hintsWithSwapped, e0, ob1_s, chk_nI (by omega) (by omega), chk_nI (by omega) (by omega), cl_nI (by omega), cl_nI (by omega), ej, lt_s1, ei, lt_s1, e2, ob1_s, cr2.2.2.2.1]
  rfl
theorem swV_in {N d k i j : Nat} {s : Rw} (ok : Ok N d s) (hdk : d + k ≤ 99999) (hi : i < N) (hj : j < N) : In (swV N k s i j) 99999 := (Ok_go (m := 0) (Ok_swap ok hi hj) k (by omega)).2.2.2.1
theorem code8 (i j : Nat) : 8 * nI i + nI j = nI (8 * i + j) := by
  rw [show (8 : Int32) * nI i = nI (8 * i) from pk_mul 8 i, nI_add]
theorem csw {N d k i : Nat} {σ : Sg} {s : Rw} (ok : Ok N d s) (hdk : d + k ≤ 99999) (hk : k < 900) (cr : CR N 1 σ s) (hz : σ 1 7 = 0) (hi : i < N) (kk : Int32 → Int32 → Int32 → Sg → Option (Int32 × Sg)) (a : Option (Nat × Int32)) {ρ0 : Sg} (hρ : Trl σ ρ0) : ∃ τ, Trl σ τ ∧ f_X4_swapFor_L43 kk (nI k) (nI i) FU (encA a) (valA 100000 a) (nI (i + 1)) ρ0 = kk (encA (swJ (swV N k s) i a (N - (i + 1)))) (valA 100000 (swJ (swV N k s) i a (N - (i + 1)))) (nI (i + 1)) τ := by
  have hN := ok.1
  have key := loop_up (P := fun f j => i + 1 ≤ j → ∀ ρ, Trl σ ρ → ∃ τ, Trl σ τ ∧ f_X4_swapFor_L43 kk (nI k) (nI i) f (encA (swJ (swV N k s) i a (j - (i + 1)))) (valA 100000 (swJ (swV N k s) i a (j - (i + 1)))) (nI j) ρ = kk (encA (swJ (swV N k s) i a (N - (i + 1)))) (valA 100000 (swJ (swV N k s) i a (N - (i + 1)))) (nI (i + 1)) τ) N
    (fun f _ ρ t => by
      have c := cr.trl hN t
      exact ⟨ρ, t, by rw [f_X4_swapFor_L43, c.1, ok.2.1, if_pos (nI_le (Nat.le_refl N) (by omega)), nI_1]⟩)
    (fun f j hj ih hij ρ t => by
      have c := cr.trl hN t
      obtain ⟨τ', t', e⟩ := chs ok hdk hk c ((congrFun (t 1 (by omega)) 7).trans hz) (show i < j by omega) hj
      obtain ⟨q, hq, ev⟩ := swV_in (k := k) ok hdk hi hj
      rw [f_X4_swapFor_L43, c.1, ok.2.1, if_neg (nle hj (by omega)), e, ob2_s, code8, nI_1]
      have g := ih (by omega) τ' (t.tr t')
      rw [show j + 1 - (i + 1) = (j - (i + 1)) + 1 by omega, swJ, show i + 1 + (j - (i + 1)) = j by omega] at g
      cases hr : swJ (swV N k s) i a (j - (i + 1)) with
      | none =>
        rw [hr] at g
        rw [if_neg (show ¬ valA 100000 none ≤ swV N k s i j from by rw [ev]; exact nle (n := 100000) (by omega) (by omega))]
        exact g
      | some qq =>
        obtain ⟨b, m⟩ := qq
        rw [hr] at g
        dsimp only [stA] at g
        by_cases hc : m ≤ swV N k s i j
        · rw [if_pos hc] at g
          rw [if_pos (show valA 100000 (some (b, m)) ≤ swV N k s i j from hc)]
          exact g
        · rw [if_neg hc] at g
          rw [if_neg (show ¬ valA 100000 (some (b, m)) ≤ swV N k s i j from hc)]
          exact g)
  have := key FU (i + 1) (by omega) (by rw [FU_eq]; omega) (Nat.le_refl _) ρ0 hρ
  rw [Nat.sub_self] at this
  exact this
theorem swJ_lt {v : Nat → Nat → Int32} {i : Nat} {a : Option (Nat × Int32)} (ha : ∀ b m, a = some (b, m) → b < 100) : ∀ t, i + 1 + t ≤ 8 → ∀ b m, swJ v i a t = some (b, m) → b < 100 := by
  intro t
  induction t with
  | zero => intro _; exact ha
  | succ t ih =>
    intro ht b m h
    rw [swJ] at h
    cases hr : swJ v i a t with
    | none => rw [hr] at h; cases h; omega
    | some q =>
      obtain ⟨b', m'⟩ := q
      rw [hr] at h
      dsimp only [stA] at h
      have := ih (by omega) b' m' hr
      by_cases hc : m' ≤ v i (i + 1 + t)
      · rw [if_pos hc] at h; cases h; exact this
      · rw [if_neg hc] at h; cases h; omega
theorem swO_lt {v : Nat → Nat → Int32} {N : Nat} (hN : N ≤ 8) : ∀ i, i ≤ N → ∀ b m, swO v N i = some (b, m) → b < 100 := by
  intro i
  induction i with
  | zero => intro _ b m h; cases h
  | succ i ih => intro hi; exact swJ_lt (ih (by omega)) _ (by omega)
theorem msw {N d k i : Nat} {σ : Sg} (ok : Ok N d (σ 50)) (hdk : d + k ≤ 99999) (hk : k < 900) (hi : i < N) (kk : Int32 → Int32 → Int32 → Sg → Option (Int32 × Sg)) (a : Option (Nat × Int32)) (ha : ∀ b m, a = some (b, m) → b < 100) {ρ0 : Sg} (hρ : ScM σ ρ0) : ∃ τ, ScM σ τ ∧ f_X5_swapFor_L43 kk (nI k) (nI i) FU (encA a) (valA 0 a) (nI (i + 1)) ρ0 = kk (encA (swJ (swV N k (σ 50)) i a (N - (i + 1)))) (valA 0 (swJ (swV N k (σ 50)) i a (N - (i + 1)))) (nI (i + 1)) τ := by
  have hN := ok.1
  have key := loop_up (P := fun f j => i + 1 ≤ j → ∀ ρ, ScM σ ρ → ∃ τ, ScM σ τ ∧ f_X5_swapFor_L43 kk (nI k) (nI i) f (encA (swJ (swV N k (σ 50)) i a (j - (i + 1)))) (valA 0 (swJ (swV N k (σ 50)) i a (j - (i + 1)))) (nI j) ρ = kk (encA (swJ (swV N k (σ 50)) i a (N - (i + 1)))) (valA 0 (swJ (swV N k (σ 50)) i a (N - (i + 1)))) (nI (i + 1)) τ) N
    (fun f _ ρ t => ⟨ρ, t, by rw [f_X5_swapFor_L43, t.1 50 (by omega) (by omega) (by omega), ok.2.1, if_pos (nI_le (Nat.le_refl N) (by omega)), nI_1]⟩)
    (fun f j hj ih hij ρ t => by
      have e50 := t.1 50 (by omega) (by omega) (by omega)
      have eT := mthen (n := N) (d := d) (k := k) (pl := 3) (σ := upr ρ 50 (upd (upd (σ 50) (10 + 5 * i + 2) (σ 50 (10 + 5 * j + 2))) (10 + 5 * j + 2) (σ 50 (10 + 5 * i + 2)))) (by rw [upr_at]; exact Ok_swap ok hi hj) (by omega) (by omega) (by omega)
      rw [upr_at, show goN N 0 k (upd (upd (σ 50) (10 + 5 * i + 2) (σ 50 (10 + 5 * j + 2))) (10 + 5 * j + 2) (σ 50 (10 + 5 * i + 2))) 3 = swV N k (σ 50) i j from rfl, show nI 3 = 3 from rfl] at eT
      have er : upd (upd (upd (upd (σ 50) (10 + 5 * i + 2) (σ 50 (10 + 5 * j + 2))) (10 + 5 * j + 2) (σ 50 (10 + 5 * i + 2))) (10 + 5 * i + 2) (σ 50 (10 + 5 * i + 2))) (10 + 5 * j + 2) (σ 50 (10 + 5 * j + 2)) = σ 50 := by
        funext q
        by_cases e1 : q = 10 + 5 * j + 2
        · subst e1; rw [upd_at]
        · by_cases e2 : q = 10 + 5 * i + 2
          · subst e2; rw [upd_ne _ _ e1, upd_at]
          · rw [upd_ne _ _ e1, upd_ne _ _ e2, upd_ne _ _ e1, upd_ne _ _ e2]
      have hN2 : ScM σ (upr (asd (upr ρ 50 (upd (upd (σ 50) (10 + 5 * i + 2) (σ 50 (10 + 5 * j + 2))) (10 + 5 * j + 2) (σ 50 (10 + 5 * i + 2))))) 50 (σ 50)) := by
        refine ⟨fun q x y z => ?_, ?_, ?_⟩
        · by_cases e : q = 50
          · subst e; rw [upr_at]
          · rw [upr_ne _ _ e, (ScM_asd _).1 q x y z, upr_ne _ _ e]; exact t.1 q x y z
        · rw [upr_ne _ _ (by omega), (ScM_asd _).2.1, upr_ne _ _ (by omega)]; exact t.2.1
        · rw [upr_ne _ _ (by omega), (ScM_asd _).2.2, upr_ne _ _ (by omega)]; exact t.2.2
      rw [f_X5_swapFor_L43, e50, ok.2.1, if_neg (nle hj (by omega))]
      simp only [its2 (show i < 8 by omega), its2 (show j < 8 by omega), atv2, ob0_s, chk_nI (show 10 + 5 * i + 2 < 60 by omega) (by omega), chk_nI (show 10 + 5 * j + 2 < 60 by omega) (by omega), cl_nI (show 10 + 5 * i + 2 < 2 ^ 31 by omega), cl_nI (show 10 + 5 * j + 2 < 2 ^ 31 by omega), lt_s1, up2_upr, upr_at, upr_upr, e50, eT, ob2_s, asd_50, er, code8, nI_1]
      have g := ih (by omega) _ hN2
      rw [show j + 1 - (i + 1) = (j - (i + 1)) + 1 by omega, swJ, show i + 1 + (j - (i + 1)) = j by omega] at g
      cases hr : swJ (swV N k (σ 50)) i a (j - (i + 1)) with
      | none =>
        rw [hr] at g
        rw [if_pos (show encA none < 0 from neg1_lt0)]
        exact g
      | some qq =>
        obtain ⟨b, m⟩ := qq
        have hb := swJ_lt ha _ (by omega) b m hr
        rw [hr] at g
        dsimp only [stA] at g
        rw [if_neg (show ¬ encA (some (b, m)) < 0 from nI_nn (by omega))]
        by_cases hc : m ≤ swV N k (σ 50) i j
        · rw [if_pos hc] at g
          rw [if_pos (show valA 0 (some (b, m)) ≤ swV N k (σ 50) i j from hc)]
          exact g
        · rw [if_neg hc] at g
          rw [if_neg (show ¬ valA 0 (some (b, m)) ≤ swV N k (σ 50) i j from hc)]
          exact g)
  have := key FU (i + 1) (by omega) (by rw [FU_eq]; omega) (Nat.le_refl _) ρ0 hρ
  rw [Nat.sub_self] at this
  exact this
theorem cswO {N d k : Nat} {σ : Sg} {s : Rw} (ok : Ok N d s) (hdk : d + k ≤ 99999) (hk : k < 900) (cr : CR N 1 σ s) (hz : σ 1 7 = 0) : ∃ τ, Trl σ τ ∧ f_X4_swapFor_L25 (nI k) FU (-1) 100000 0 σ = (match swO (swV N k s) N N with | none => some (-1000004, fdC τ 3) | some (b, _) => some (nI b, τ)) := by
  have hN := ok.1
  have key := loop_up (P := fun f i => ∀ ρ, Trl σ ρ → ∃ τ, Trl σ τ ∧ f_X4_swapFor_L25 (nI k) f (encA (swO (swV N k s) N i)) (valA 100000 (swO (swV N k s) N i)) (nI i) ρ = (match swO (swV N k s) N N with | none => some (-1000004, fdC τ 3) | some (b, _) => some (nI b, τ))) N
    (fun f ρ t => by
      have c := cr.trl hN t
      refine ⟨ρ, t, ?_⟩
      rw [f_X4_swapFor_L25, c.1, ok.2.1, if_pos (nI_le (Nat.le_refl N) (by omega))]
      cases hr : swO (swV N k s) N N with
      | none => rw [if_pos (show encA none = -1 from rfl), cfd3, ob2_s]
      | some q =>
        obtain ⟨b, m⟩ := q
        have := swO_lt hN N (Nat.le_refl N) b m hr
        rw [if_neg (show ¬ encA (some (b, m)) = -1 from nI_ne_m1 (by omega))]
        rfl)
    (fun f i hi ih ρ t => by
      have c := cr.trl hN t
      obtain ⟨τ, t2, e⟩ := csw ok hdk hk cr hz hi (fun z0 z1 z2 s => f_X4_swapFor_L25 (nI k) f z0 z1 z2 s) (swO (swV N k s) N i) t
      rw [f_X4_swapFor_L25, c.1, ok.2.1, if_neg (nle hi (by omega)), nI_1, e]
      exact ih τ t2)
  exact key FU 0 (Nat.zero_le N) (by rw [FU_eq]; omega) σ (Trl.rf σ)
theorem mswO {N d k : Nat} {σ : Sg} (ok : Ok N d (σ 50)) (hdk : d + k ≤ 99999) (hk : k < 900) : ∃ τ, ScM σ τ ∧ f_X5_swapFor_L26 (nI k) FU (-1) 0 0 σ = (match swO (swV N k (σ 50)) N N with | none => some (-1000004, fdM τ 3) | some (b, _) => some (nI b, τ)) := by
  have hN := ok.1
  have key := loop_up (P := fun f i => ∀ ρ, ScM σ ρ → ∃ τ, ScM σ τ ∧ f_X5_swapFor_L26 (nI k) f (encA (swO (swV N k (σ 50)) N i)) (valA 0 (swO (swV N k (σ 50)) N i)) (nI i) ρ = (match swO (swV N k (σ 50)) N N with | none => some (-1000004, fdM τ 3) | some (b, _) => some (nI b, τ))) N
    (fun f ρ t => by
      refine ⟨ρ, t, ?_⟩
      rw [f_X5_swapFor_L26, t.1 50 (by omega) (by omega) (by omega), ok.2.1, if_pos (nI_le (Nat.le_refl N) (by omega))]
      cases hr : swO (swV N k (σ 50)) N N with
      | none =>
        have := orN none (fun j hj => by cases hj) ρ
        rw [show encA none = enc none from rfl, this, ob2_s]
      | some q =>
        obtain ⟨b, m⟩ := q
        have hb := swO_lt hN N (Nat.le_refl N) b m hr
        have := orN (some b) (fun j hj => by cases hj; omega) ρ
        rw [show encA (some (b, m)) = enc (some b) from rfl, this, ob2_s])
    (fun f i hi ih ρ t => by
      obtain ⟨τ, t2, e⟩ := msw ok hdk hk hi (fun z0 z1 z2 s => f_X5_swapFor_L26 (nI k) f z0 z1 z2 s) (swO (swV N k (σ 50)) N i) (swO_lt hN i (by omega)) t
      rw [f_X5_swapFor_L26, t.1 50 (by omega) (by omega) (by omega), ok.2.1, if_neg (nle hi (by omega)), nI_1, e]
      exact ih τ t2)
  exact key FU 0 (Nat.zero_le N) (by rw [FU_eq]; omega) σ (ScM.rf σ)
theorem op_swapFor {n : Nat} (hn : n < 512) {σ : Sg} (h : Inv n σ) (x : Int32) : Step n σ (f_X4_swapFor x) (f_X5_swapFor x) := by
  obtain ⟨⟨N, d, ok, hd, cr⟩, hz⟩ := id h.1
  have c1 : ∀ τ, f_X4_within x 0 40 τ = some (if 0 ≤ x.toInt ∧ x.toInt ≤ 40 then 1 else 0) := fun τ => wC (by decide) (by decide) τ
  have m1 : ∀ τ, f_X5_isIn x.toInt64 0 40 τ = some (if 0 ≤ x.toInt ∧ x.toInt ≤ 40 then 1 else 0) := fun τ => wM (by decide) (by decide) τ
  by_cases h1 : 0 ≤ x.toInt ∧ x.toInt ≤ 40
  · obtain ⟨k, hk, rfl⟩ := nn_of (b := 40) h1
    obtain ⟨τ, t, e⟩ := cswO ok (k := k) (by omega) (by omega) cr hz
    have e50 : τ 50 = σ 50 := t 50 (by omega)
    have eC : f_X4_swapFor (nI k) σ = f_X4_swapFor_L25 (nI k) FU (-1) 100000 0 σ := by simp only [f_X4_swapFor, c1, if_pos h1, ob0_s, if_neg one_ne0]
    have eM : ∀ ρ, f_X5_swapFor (nI k) ρ = f_X5_swapFor_L26 (nI k) FU (-1) 0 0 ρ := fun ρ => by
      simp only [f_X5_swapFor, m1, if_pos h1, ob0_s, if_neg one_ne0]
    cases hr : swO (swV N k (σ 50)) N N with
    | none =>
      rw [hr] at e
      have e50' : (fdC τ 3) 50 = σ 50 := (fdC_o (by omega)).trans e50
      obtain ⟨τ2, s2, g⟩ := mswO (N := N) (d := d) (k := k) (σ := fdC τ 3) (by rw [e50']; exact ok) (by omega) (by omega)
      rw [e50', hr] at g
      exact Step.find h (by omega) (eC.trans e) t ((eM _).trans g) s2
    | some q =>
      obtain ⟨b, m⟩ := q
      rw [hr] at e
      obtain ⟨τ2, s2, g⟩ := mswO (N := N) (d := d) (k := k) (σ := τ) (by rw [e50]; exact ok) (by omega) (by omega)
      rw [e50, hr] at g
      exact Step.val h (eC.trans e) t ((eM _).trans g) s2
  · refine Step.bey h ?_ ?_
    · simp only [f_X4_swapFor, c1, if_neg h1, ob0_s, if_pos, cfd0, ob2_s]
    · simp only [f_X5_swapFor, m1, if_neg h1, ob0_s, if_pos, mfd0, ob2_s]
