/-! refuse -/
def cn (x : Nat) : Nat := x % 2 + x / 2 % 2 + x / 4 % 2 + x / 8 % 2 + x / 16 % 2 + x / 32 % 2 + x / 64 % 2 + x / 128 % 2
theorem bc_k : ∀ x : Fin 256, f_J6_bitCount_0f7a4 (nI x.val) (fun _ _ => 0) = some (nI (cn x.val)) := by decide +kernel
theorem bc_e {x : Nat} (h : x < 256) (σ : Sg) : f_J6_bitCount_0f7a4 (nI x) σ = some (nI (cn x)) := bc_k ⟨x, h⟩
theorem many_k : ∀ x : Fin 256, f_X5_many_L4 9 0 (nI x.val) (fun _ _ => 0) = some (nI (cn x.val)) := by decide +kernel
theorem many_up : ∀ (f : Nat) (a y : Int32) (σ τ : Sg) (r : Int32), f_X5_many_L4 f a y σ = some r → ∀ g, f_X5_many_L4 (f + g) a y τ = some r := by
  intro f
  induction f with
  | zero => intro a y σ τ r h; cases h
  | succ f ih =>
    intro a y σ τ r h g
    rw [show f + 1 + g = (f + g) + 1 by omega, f_X5_many_L4]
    rw [f_X5_many_L4] at h
    by_cases c : y = 0
    · rw [if_pos c] at h ⊢; exact h
    · rw [if_neg c] at h ⊢; exact ih _ _ _ _ _ h g
theorem many_e {x : Nat} (h : x < 256) (σ : Sg) : f_X5_many (nI x) σ = some (nI (cn x)) := by
  rw [f_X5_many, FU_eq]
  exact many_up 9 _ _ _ _ _ (many_k ⟨x, h⟩) 991
theorem cn_k : ∀ x : Fin 256, ∀ N : Fin 9, x.val < 2 ^ N.val → cn x.val ≤ N.val ∧ (cn x.val = N.val → x.val + 1 = 2 ^ N.val) := by decide +kernel
theorem cn_b : ∀ N : Fin 9, ∀ p : Fin 8, p.val < N.val → ¬ (jshr (nI (2 ^ N.val - 1)) (nI p.val) &&& 1) = 0 := by decide +kernel
theorem cn_lt {x N p : Nat} (hN : N ≤ 8) (hx : x < 2 ^ N) (hp : p < N) (hb : (jshr (nI x) (nI p) &&& 1) = 0) : cn x < N := by
  have h8 : 2 ^ N ≤ 2 ^ 8 := Nat.pow_le_pow_right (by omega) hN
  obtain ⟨a, b⟩ := cn_k ⟨x, by omega⟩ ⟨N, by omega⟩ hx
  have c := cn_b ⟨N, by omega⟩ ⟨p, by omega⟩ hp
  dsimp only at a b c
  by_cases e : cn x = N
  · have := b e
    rw [show 2 ^ N - 1 = x by omega] at c
    exact absurd hb c
  · omega
theorem cn_le8 {x : Nat} (h : x < 256) : cn x < 2 ^ 31 := by unfold cn; omega
theorem shl_k : ∀ N : Fin 9, jshl 1 (nI N.val) = nI (2 ^ N.val) := by decide +kernel
theorem shl_e {N : Nat} (h : N ≤ 8) : jshl 1 (nI N) = nI (2 ^ N) := shl_k ⟨N, by omega⟩
def reB (N k p : Nat) (s : Rw) (x : Nat) : Int32 := goN N (nI x) k s (10 + 5 * p + 3)
def reG (N k p : Nat) (v : Int32) (s : Rw) (x : Nat) : Prop := (jshr (nI x) (nI p) &&& 1) = 0 ∧ ¬ v < reB N k p s x
theorem cbw {N d k p x : Nat} {τ : Sg} {s : Rw} (ok : Ok N d s) (hdk : d + k ≤ 99999) (hk : k < 900) (cr : CR N 1 τ s) (hz : τ 1 7 = 0) (hp : p < N) : ∃ τ', Trl τ τ' ∧ f_X4_borneWithout (nI x) (nI p) (nI k) τ = some (reB N k p s x, τ') := by
  have hN := ok.1
  obtain ⟨τ0, e0, cr0, z0, t0⟩ := tri ok cr hz
  have cr1 : CR N 25 (up2 τ0 25 7 (nI x)) s := by
    obtain ⟨a1, a2, a3, a4, a5, a6, a7⟩ := cr0
    refine ⟨?_, ?_, ?_, ?_, fun i hi => ?_, fun i hi => ?_, fun q hq a ha => ?_⟩
    · rw [up2_k, upd_ne _ _ (by omega)]; exact a1
    · rw [up2_k, upd_ne _ _ (by omega)]; exact a2
    · rw [up2_k, upd_ne _ _ (by omega)]; exact a3
    · rw [up2_k, upd_ne _ _ (by omega)]; exact a4
    · rw [up2_ne _ _ (by omega)]; exact a5 i hi
    · rw [up2_ne _ _ (by omega)]; exact a6 i hi
    · rw [up2_ne _ _ (by omega)]; exact a7 q hq a ha
  obtain ⟨τ2, e2, cr2, fr2⟩ := cgo (nI x) ok cr1 (by rw [up2_k, upd_at]) k hdk (by omega)
  refine ⟨τ2, t0.tr (Trl.tr (fun q hq => up2_ne _ _ (by omega)) (Trl.of fr2)), ?_⟩
  rw [f_X4_borneWithout, e0, ob1_s, lt_s1, e2, ob1_s, chk_nI (by omega) (by omega), cl_nI (by omega)]
  have : τ2 (25 + 4 + p) 3 = reB N k p s x := cr2.at1 hp (by omega)
  rw [this]
theorem cre_in {N d k p c : Nat} {v : Int32} {σ : Sg} {s : Rw} (ok : Ok N d s) (hdk : d + k ≤ 99999) (hk : k < 900) (cr : CR N 1 σ s) (hz : σ 1 7 = 0) (hp : p < N) (hc : c < N) (kk : Int32 → Sg → Option (Int32 × Sg)) {ρ0 : Sg} (hρ : Trl σ ρ0) : ∃ τ, Trl σ τ ∧ ((∃ x, x < 2 ^ N ∧ cn x = c ∧ reG N k p v s x ∧ (∀ y, y < x → cn y = c → ¬ reG N k p v s y) ∧ f_X4_refuse_L57 kk (nI p) v (nI k) (nI c) FU 0 ρ0 = some (nI x, τ)) ∨ ((∀ x, x < 2 ^ N → cn x = c → ¬ reG N k p v s x) ∧ f_X4_refuse_L57 kk (nI p) v (nI k) (nI c) FU 0 ρ0 = kk (nI (c + 1)) τ)) := by
  have hN := ok.1
  have h8 : 2 ^ N ≤ 2 ^ 8 := Nat.pow_le_pow_right (by omega) hN
  have key := loop_up (P := fun f x => ∀ ρ, Trl σ ρ → (∀ y, y < x → cn y = c → ¬ reG N k p v s y) → ∃ τ, Trl σ τ ∧ ((∃ x', x' < 2 ^ N ∧ cn x' = c ∧ reG N k p v s x' ∧ (∀ y, y < x' → cn y = c → ¬ reG N k p v s y) ∧ f_X4_refuse_L57 kk (nI p) v (nI k) (nI c) f (nI x) ρ = some (nI x', τ)) ∨ ((∀ x', x' < 2 ^ N → cn x' = c → ¬ reG N k p v s x') ∧ f_X4_refuse_L57 kk (nI p) v (nI k) (nI c) f (nI x) ρ = kk (nI (c + 1)) τ))) (2 ^ N)
    (fun f ρ t hq => by
      have c1 := cr.trl hN t
      exact ⟨ρ, t, Or.inr ⟨hq, by rw [f_X4_refuse_L57, c1.1, ok.2.1, shl_e hN, if_pos (nI_le (Nat.le_refl _) (by omega)), nI_1]⟩⟩)
    (fun f x hx ih ρ t hq => by
      have c1 := cr.trl hN t
      rw [f_X4_refuse_L57, c1.1, ok.2.1, shl_e hN, if_neg (nle hx (by omega)), bc_e (by omega), ob0_s, cisIn, ob0_s, nI_1]
      have go : ∀ ρ', Trl σ ρ' → (cn x = c → ¬ reG N k p v s x) → _ := fun ρ' t' hx' => ih ρ' t' (fun y hy => by
        by_cases e : y = x
        · subst e; exact hx'
        · exact hq y (by omega))
      by_cases e1 : cn x = c
      · rw [if_pos (show nI (cn x) = nI c by rw [e1])]
        by_cases e2 : (jshr (nI x) (nI p) &&& 1) = 0
        · rw [if_pos e2, if_pos rfl]
          obtain ⟨τ', t', e⟩ := cbw (x := x) ok hdk hk c1 ((congrFun (t 1 (by omega)) 7).trans hz) hp
          rw [e, ob2_s]
          by_cases e3 : v < reB N k p s x
          · rw [if_pos e3]
            exact go τ' (t.tr t') (fun _ g => g.2 e3)
          · rw [if_neg e3]
            exact ⟨τ', t.tr t', Or.inl ⟨x, hx, e1, ⟨e2, e3⟩, hq, rfl⟩⟩
        · rw [if_neg e2, if_neg one_ne0]
          exact go ρ t (fun _ g => e2 g.1)
      · rw [if_neg (fun e => e1 ((nI_eq (cn_le8 (by omega)) (by omega)).mp e))]
        exact go ρ t (fun e => absurd e e1))
  exact key FU 0 (Nat.zero_le _) (by rw [FU_eq]; omega) ρ0 hρ (fun y hy => by omega)
def reM (N k p : Nat) (v : Int32) (s : Rw) (x : Nat) : Prop := x < 2 ^ N ∧ reG N k p v s x ∧ ∀ y, y < 2 ^ N → reG N k p v s y → cn x < cn y ∨ (cn x = cn y ∧ x ≤ y)
theorem reM_uniq {N k p x y : Nat} {v : Int32} {s : Rw} (h : reM N k p v s x) (h2 : reM N k p v s y) : x = y := by
  have a := h.2.2 y h2.1 h2.2.1
  have b := h2.2.2 x h.1 h.2.1
  omega
theorem cre {N d k p : Nat} {v : Int32} {σ : Sg} {s : Rw} (ok : Ok N d s) (hdk : d + k ≤ 99999) (hk : k < 900) (cr : CR N 1 σ s) (hz : σ 1 7 = 0) (hp : p < N) : ∃ τ, Trl σ τ ∧ ((∃ x, reM N k p v s x ∧ f_X4_refuse_L42 (nI p) v (nI k) FU 0 σ = some (nI x, τ)) ∨ ((∀ x, x < 2 ^ N → ¬ reG N k p v s x) ∧ f_X4_refuse_L42 (nI p) v (nI k) FU 0 σ = some (-1000004, fdC τ 3))) := by
  have hN := ok.1
  have key := loop_up (P := fun f c => ∀ ρ, Trl σ ρ → (∀ y, y < 2 ^ N → cn y < c → ¬ reG N k p v s y) → ∃ τ, Trl σ τ ∧ ((∃ x, reM N k p v s x ∧ f_X4_refuse_L42 (nI p) v (nI k) f (nI c) ρ = some (nI x, τ)) ∨ ((∀ x, x < 2 ^ N → ¬ reG N k p v s x) ∧ f_X4_refuse_L42 (nI p) v (nI k) f (nI c) ρ = some (-1000004, fdC τ 3)))) N
    (fun f ρ t hq => by
      have c1 := cr.trl hN t
      refine ⟨ρ, t, Or.inr ⟨fun x hx g => hq x hx (cn_lt hN hx hp g.1) g, ?_⟩⟩
      rw [f_X4_refuse_L42, c1.1, ok.2.1, if_pos (nI_le (Nat.le_refl _) (by omega)), cfd3, ob2_s])
    (fun f c hc ih ρ t hq => by
      have c1 := cr.trl hN t
      obtain ⟨τ, t2, hr⟩ := cre_in (v := v) ok hdk hk cr hz hp hc (fun z0 s => f_X4_refuse_L42 (nI p) v (nI k) f z0 s) t
      rw [f_X4_refuse_L42, c1.1, ok.2.1, if_neg (nle hc (by omega))]
      rcases hr with ⟨x, hx, e1, g, q, e⟩ | ⟨q, e⟩
      · rw [e]
        refine ⟨τ, t2, Or.inl ⟨x, ⟨hx, g, fun y hy gy => ?_⟩, rfl⟩⟩
        have h1 : ¬ cn y < c := fun h => hq y hy h gy
        by_cases h2 : cn y = c
        · have h3 : ¬ y < x := fun h => q y h h2 gy
          omega
        · omega
      · rw [e]
        refine ih τ t2 (fun y hy hy2 => ?_)
        by_cases h2 : cn y = c
        · exact q y hy h2
        · exact hq y hy (by omega))
  exact key FU 0 (Nat.zero_le _) (by rw [FU_eq]; omega) σ (Trl.rf σ) (fun y _ hy => by omega)
theorem mre_in {N d k p x : Nat} {v y4 : Int32} {σ : Sg} (ok : Ok N d (σ 50)) (hdk : d + k ≤ 99999) (hk : k < 900) (hp : p < N) (kk : Int32 → Int32 → Sg → Option (Int32 × Sg)) : f_X5_refuse_L99 kk (nI p) v (nI k) y4 (nI x) FU 0 (asd σ) = (if v < reB N k p (σ 50) x then kk y4 (nI (x + 1)) (asd σ) else kk (nI x) (nI (x + 1)) (asd σ)) := by
  have hN := ok.1
  have key := loop_up (P := fun f i => f_X5_refuse_L99 kk (nI p) v (nI k) y4 (nI x) f (nI i) (upr (asd σ) 50 (goN N (nI x) i (σ 50))) = (if v < reB N k p (σ 50) x then kk y4 (nI (x + 1)) (asd σ) else kk (nI x) (nI (x + 1)) (asd σ))) k
    (fun f => by
      have hb : f_X5_copyRow 53 50 (upr (asd σ) 50 (goN N (nI x) k (σ 50))) = some (asd σ) := mback (fun q hq => goN_hi ok k (by omega) q hq)
      rw [f_X5_refuse_L99, if_pos (nI_le (Nat.le_refl k) (by omega)), its3 (by omega), ob0_s, upr_at, hb, ob1_s, ob1_s, nI_1]
      rfl)
    (fun f i hi ih => by
      have oki := Ok_go (m := nI x) ok i (by omega)
      rw [f_X5_refuse_L99, if_neg (nle hi (by omega)), mdayOk (n := N) (d := d + i) (by omega) (nI x) _ (by rw [upr_at]; exact oki), ob1_s, upr_at, upr_upr, nI_1]
      exact ih)
  have := key FU 0 (Nat.zero_le k) (by rw [FU_eq]; omega)
  rw [show goN N (nI x) 0 (σ 50) = asd σ 50 from (asd_50 σ).symm, upr_self] at this
  exact this
theorem mre {N d k p : Nat} {v : Int32} {σ : Sg} (ok : Ok N d (σ 50)) (hdk : d + k ≤ 99999) (hk : k < 900) (hp : p < N) : (∃ x, reM N k p v (σ 50) x ∧ f_X5_refuse_L56 (nI p) v (nI k) FU (-1) 0 (asd σ) = some (nI x, asd σ)) ∨ ((∀ x, x < 2 ^ N → ¬ reG N k p v (σ 50) x) ∧ f_X5_refuse_L56 (nI p) v (nI k) FU (-1) 0 (asd σ) = some (-1000004, fdM (asd σ) 3)) := by
  have hN := ok.1
  have h8 : 2 ^ N ≤ 2 ^ 8 := Nat.pow_le_pow_right (by omega) hN
  have key := loop_up (P := fun f x => ∀ o : Option Nat, (o = none → ∀ y, y < x → ¬ reG N k p v (σ 50) y) → (∀ b, o = some b → b < x ∧ reG N k p v (σ 50) b ∧ ∀ y, y < x → reG N k p v (σ 50) y → cn b < cn y ∨ (cn b = cn y ∧ b ≤ y)) → x ≤ 2 ^ N → (∃ x', reM N k p v (σ 50) x' ∧ f_X5_refuse_L56 (nI p) v (nI k) f (enc o) (nI x) (asd σ) = some (nI x', asd σ)) ∨ ((∀ x', x' < 2 ^ N → ¬ reG N k p v (σ 50) x') ∧ f_X5_refuse_L56 (nI p) v (nI k) f (enc o) (nI x) (asd σ) = some (-1000004, fdM (asd σ) 3))) (2 ^ N)
    (fun f o h0 h1 _ => by
      rw [f_X5_refuse_L56, asd_50, ok.2.1, shl_e hN, if_pos (nI_le (Nat.le_refl _) (by omega))]
      cases o with
      | none =>
        have := orN none (fun j hj => by cases hj) (asd σ)
        rw [this, ob2_s]
        exact Or.inr ⟨h0 rfl, rfl⟩
      | some b =>
        obtain ⟨a1, a2, a3⟩ := h1 b rfl
        have := orN (some b) (fun j hj => by cases hj; omega) (asd σ)
        rw [this, ob2_s]
        exact Or.inl ⟨b, ⟨a1, a2, a3⟩, rfl⟩)
    (fun f x hx ih o h0 h1 _ => by
      have keep : ¬ reG N k p v (σ 50) x → _ := fun hg => ih o (fun e y hy => by
          by_cases q : y = x
          · subst q; exact hg
          · exact h0 e y (by omega)) (fun b e => by
          obtain ⟨a1, a2, a3⟩ := h1 b e
          refine ⟨by omega, a2, fun y hy gy => ?_⟩
          by_cases q : y = x
          · subst q; exact absurd gy hg
          · exact a3 y (by omega) gy) (by omega)
      rw [f_X5_refuse_L56, asd_50, ok.2.1, shl_e hN, if_neg (nle hx (by omega)), nI_1]
      by_cases e1 : (jshr (nI x) (nI p) &&& 1) = 0
      · rw [if_pos e1]
        cases o with
        | none =>
          rw [if_pos (show enc none < 0 from neg1_lt0), mre_in ok hdk hk hp]
          by_cases e3 : v < reB N k p (σ 50) x
          · rw [if_pos e3]
            exact keep (fun g => g.2 e3)
          · rw [if_neg e3]
            refine ih (some x) (fun e => by cases e) (fun b e => ?_) (by omega)
            cases e
            refine ⟨by omega, ⟨e1, e3⟩, fun y hy gy => ?_⟩
            by_cases q : y = x
            · subst q; exact Or.inr ⟨rfl, Nat.le_refl _⟩
            · exact absurd gy (h0 rfl y (by omega))
        | some b =>
          obtain ⟨a1, a2, a3⟩ := h1 b rfl
          rw [if_neg (show ¬ enc (some b) < 0 from nI_nn (by omega)), many_e (by omega), ob0_s, show enc (some b) = nI b from rfl, many_e (by omega), ob0_s]
          by_cases e2 : cn b ≤ cn x
          · rw [if_pos (nI_le e2 (cn_le8 (by omega)))]
            refine ih (some b) (fun e => by cases e) (fun b' e => ?_) (by omega)
            cases e
            refine ⟨by omega, a2, fun y hy gy => ?_⟩
            by_cases q : y = x
            · subst q; omega
            · exact a3 y (by omega) gy
          · rw [if_neg (nle (by omega) (cn_le8 (by omega))), mre_in ok hdk hk hp]
            by_cases e3 : v < reB N k p (σ 50) x
            · rw [if_pos e3]
              exact keep (fun g => g.2 e3)
            · rw [if_neg e3]
              refine ih (some x) (fun e => by cases e) (fun b' e => ?_) (by omega)
              cases e
              refine ⟨by omega, ⟨e1, e3⟩, fun y hy gy => ?_⟩
              by_cases q : y = x
              · subst q; exact Or.inr ⟨rfl, Nat.le_refl _⟩
              · have := a3 y (by omega) gy
                omega
      · rw [if_neg e1]
        exact keep (fun g => e1 g.1))
  exact key FU 0 (Nat.zero_le _) (by rw [FU_eq]; omega) none (fun _ y hy => by omega) (fun b e => by cases e) (Nat.zero_le _)
theorem op_refuse {n : Nat} (hn : n < 512) {σ : Sg} (h : Inv n σ) (x v w : Int32) : Step n σ (f_X4_refuse x v w) (f_X5_refuse x v w) := by
  obtain ⟨⟨N, d, ok, hd, cr⟩, hz⟩ := id h.1
  have hN := ok.1
  have c1 : ∀ τ, τ 1 = σ 1 → f_X0_has 1 x τ = some (if 0 ≤ x.toInt ∧ x.toInt < (N : Int) then 1 else 0) := fun τ e => hasC hN (by rw [e]; exact cr.1.trans ok.2.1) x
  have m1 : ∀ τ, τ 50 = σ 50 → f_X5_isOne x τ = some (if 0 ≤ x.toInt ∧ x.toInt < (N : Int) then 1 else 0) := fun τ e => oneM hN (by rw [e]; exact ok.2.1) x
  have c2 : ∀ τ, f_X4_within v 0 9999 τ = some (if 0 ≤ v.toInt ∧ v.toInt ≤ 9999 then 1 else 0) := fun τ => wC (by decide) (by decide) τ
  have m2 : ∀ τ, f_X5_isIn v.toInt64 0 9999 τ = some (if 0 ≤ v.toInt ∧ v.toInt ≤ 9999 then 1 else 0) := fun τ => wM (by decide) (by decide) τ
  have c3 : ∀ τ, f_X4_within w 0 20 τ = some (if 0 ≤ w.toInt ∧ w.toInt ≤ 20 then 1 else 0) := fun τ => wC (by decide) (by decide) τ
  have m3 : ∀ τ, f_X5_isIn w.toInt64 0 20 τ = some (if 0 ≤ w.toInt ∧ w.toInt ≤ 20 then 1 else 0) := fun τ => wM (by decide) (by decide) τ
  have eo : fdC σ 0 50 = σ 50 := fdC_o (by omega)
  by_cases h1 : 0 ≤ x.toInt ∧ x.toInt < (N : Int)
  · by_cases h2 : 0 ≤ v.toInt ∧ v.toInt ≤ 9999
    · by_cases h3 : 0 ≤ w.toInt ∧ w.toInt ≤ 20
      · obtain ⟨p, hp, rfl⟩ := nn_lt h1
        obtain ⟨k, hk, rfl⟩ := nn_of (b := 20) h3
        obtain ⟨τ, t, hc⟩ := cre ok (k := k) (v := v) (by omega) (by omega) cr hz hp
        have e50 : τ 50 = σ 50 := t 50 (by omega)
        have eC : f_X4_refuse (nI p) v (nI k) σ = f_X4_refuse_L42 (nI p) v (nI k) FU 0 σ := by
          rw [f_X4_refuse, c1 σ rfl, if_pos h1, ob0_s, if_neg one_ne0, c2, if_pos h2, ob0_s, if_neg one_ne0, c3, if_pos h3, ob0_s, if_neg one_ne0]
        have eM : ∀ ρ, ρ 50 = σ 50 → f_X5_refuse (nI p) v (nI k) ρ = f_X5_refuse_L56 (nI p) v (nI k) FU (-1) 0 (asd ρ) := fun ρ e => by
          rw [f_X5_refuse, m1 ρ e, if_pos h1, ob0_s, if_neg one_ne0, m2, if_pos h2, ob0_s, if_neg one_ne0, m3, if_pos h3, ob0_s, if_neg one_ne0, masd, ob1_s]
        rcases hc with ⟨i, q, e⟩ | ⟨q, e⟩
        · rcases mre (σ := τ) (N := N) (d := d) (k := k) (v := v) (by rw [e50]; exact ok) (by omega) (by omega) hp with ⟨j, p1, e'⟩ | ⟨p1, e'⟩
          · rw [e50] at p1
            have := reM_uniq q p1
            subst this
            exact Step.val h (eC.trans e) t ((eM τ e50).trans e') (ScM_asd _)
          · rw [e50] at p1
            exact absurd q.2.1 (p1 i q.1)
        · have e50' : (fdC τ 3) 50 = σ 50 := (fdC_o (by omega)).trans e50
          rcases mre (σ := fdC τ 3) (N := N) (d := d) (k := k) (v := v) (by rw [e50']; exact ok) (by omega) (by omega) hp with ⟨j, p1, e'⟩ | ⟨p1, e'⟩
          · rw [e50'] at p1
            exact absurd p1.2.1 (q j p1.1)
          · exact Step.find h (by omega) (eC.trans e) t ((eM _ e50').trans e') (ScM_asd _)
      · refine Step.bey h ?_ ?_
        · rw [f_X4_refuse, c1 σ rfl, if_pos h1, ob0_s, if_neg one_ne0, c2, if_pos h2, ob0_s, if_neg one_ne0, c3, if_neg h3, ob0_s, if_pos rfl, cfd0, ob2_s]
        · rw [f_X5_refuse, m1 _ eo, if_pos h1, ob0_s, if_neg one_ne0, m2, if_pos h2, ob0_s, if_neg one_ne0, m3, if_neg h3, ob0_s, if_pos rfl, mfd0, ob2_s]
    · refine Step.bey h ?_ ?_
      · rw [f_X4_refuse, c1 σ rfl, if_pos h1, ob0_s, if_neg one_ne0, c2, if_neg h2, ob0_s, if_pos rfl, cfd0, ob2_s]
      · rw [f_X5_refuse, m1 _ eo, if_pos h1, ob0_s, if_neg one_ne0, m2, if_neg h2, ob0_s, if_pos rfl, mfd0, ob2_s]
  · refine Step.bey h ?_ ?_
    · rw [f_X4_refuse, c1 σ rfl, if_neg h1, ob0_s, if_pos rfl, cfd0, ob2_s]
    · rw [f_X5_refuse, m1 _ eo, if_neg h1, ob0_s, if_pos rfl, mfd0, ob2_s]
