/-! searches -/
theorem srch {S R : Type} (L : Nat → Nat → S → R) (I : Nat → S → Prop) (Q : Nat → Prop) (B : Nat) (Rn : S → R) (Rv : Nat → S → R)
    (hn : ∀ f τ, I B τ → L (f + 1) B τ = Rn τ)
    (hs : ∀ f i τ, i < B → I i τ → (Q i ∧ L (f + 1) i τ = Rv i τ) ∨ (¬ Q i ∧ ∃ τ', I (i + 1) τ' ∧ L (f + 1) i τ = L f (i + 1) τ')) :
    ∀ F τ0, B < F → I 0 τ0 → ∃ τ, (∃ i, i < B ∧ Q i ∧ (∀ j, j < i → ¬ Q j) ∧ I i τ ∧ L F 0 τ0 = Rv i τ) ∨ ((∀ i, i < B → ¬ Q i) ∧ I B τ ∧ L F 0 τ0 = Rn τ) := by
  have key : ∀ f i τ, i ≤ B → B - i < f → I i τ → (∀ j, j < i → ¬ Q j) → ∃ τ', (∃ k, k < B ∧ Q k ∧ (∀ j, j < k → ¬ Q j) ∧ I k τ' ∧ L f i τ = Rv k τ') ∨ ((∀ k, k < B → ¬ Q k) ∧ I B τ' ∧ L f i τ = Rn τ') := by
    intro f
    induction f with
    | zero => intro i τ _ h; omega
    | succ f ih =>
      intro i τ hi hf hI hq
      by_cases e : i = B
      · subst e
        exact ⟨τ, Or.inr ⟨hq, hI, hn f τ hI⟩⟩
      · rcases hs f i τ (by omega) hI with ⟨q, l⟩ | ⟨q, τ', hI', l⟩
        · exact ⟨τ, Or.inl ⟨i, by omega, q, hq, hI, l⟩⟩
        · rw [l]
          refine ih (i + 1) τ' (by omega) (by omega) hI' (fun j hj => ?_)
          by_cases e2 : j = i
          · subst e2; exact q
          · exact hq j (by omega)
  intro F τ0 hF h0
  exact key F 0 τ0 (by omega) (by omega) h0 (fun j hj => by omega)
theorem lst_uniq {Q : Nat → Prop} {i j : Nat} (hi : Q i) (hi2 : ∀ k, k < i → ¬ Q k) (hj : Q j) (hj2 : ∀ k, k < j → ¬ Q k) : i = j := by
  rcases Nat.lt_trichotomy i j with h | h | h
  · exact absurd hi (hj2 i h)
  · exact h
  · exact absurd hj (hi2 j h)
theorem lt200 {i : Nat} (h : i < 201) : ¬ (200 : Int32) < nI i := by
  rw [i_not_lt]; exact nI_le (b := 200) (by omega) (by omega)
theorem ceven_s {N d : Nat} {σ : Sg} {s : Rw} (ok : Ok N d s) (hd : d + 300 ≤ 99999) (cr : CR N 1 σ s) (hz : σ 1 7 = 0) : ∃ τ, Trl σ τ ∧ ((∃ i, i < 201 ∧ owR (goN N 0 i s) N = 0 ∧ (∀ j, j < i → ¬ owR (goN N 0 j s) N = 0) ∧ f_X4_even σ = some (nI i, τ)) ∨ ((∀ i, i < 201 → ¬ owR (goN N 0 i s) N = 0) ∧ f_X4_even σ = some (-1000004, fdC τ 3))) := by
  obtain ⟨τ0, e0, cr0, z0, t0⟩ := tri ok cr hz
  have key := srch (fun f i τ => f_X4_even_L13 f (nI i) τ) (fun i τ => CR N 25 τ (goN N 0 i s) ∧ τ 25 7 = 0 ∧ Trl σ τ) (fun i => owR (goN N 0 i s) N = 0) 201 (fun τ => some (-1000004, fdC τ 3)) (fun i τ => some (nI i, τ))
    (fun f τ hI => by
      show f_X4_even_L13 (f + 1) (nI 201) τ = _
      rw [f_X4_even_L13, if_pos (show (200 : Int32) < nI 201 from by decide), cfd3, ob2_s])
    (fun f i τ hi hI => by
      obtain ⟨c, z, t⟩ := hI
      have oki := Ok_go (m := 0) ok i (by omega)
      show (_ ∧ f_X4_even_L13 (f + 1) (nI i) τ = _) ∨ (_ ∧ ∃ τ', _ ∧ f_X4_even_L13 (f + 1) (nI i) τ = f_X4_even_L13 f (nI (i + 1)) τ')
      rw [f_X4_even_L13, if_neg (lt200 hi), ceven oki c, ob0_s]
      by_cases q : owR (goN N 0 i s) N = 0
      · left
        rw [if_pos q, if_neg one_ne0]
        exact ⟨q, rfl⟩
      · right
        obtain ⟨τ', e, c', f'⟩ := cday (d := d + i) (by omega) 0 oki c z
        rw [if_neg q, if_pos rfl, e, ob1_s, nI_1]
        exact ⟨q, τ', ⟨c', f'.2.trans z, t.tr (Trl.of f')⟩, rfl⟩)
    FU τ0 (by rw [FU_eq]; omega) ⟨cr0, z0, t0⟩
  obtain ⟨τ, h | h⟩ := key
  · obtain ⟨i, hi, q, q2, hI, e⟩ := h
    refine ⟨τ, hI.2.2, Or.inl ⟨i, hi, q, q2, ?_⟩⟩
    rw [f_X4_even, e0, ob1_s]; exact e
  · obtain ⟨q, hI, e⟩ := h
    refine ⟨τ, hI.2.2, Or.inr ⟨q, ?_⟩⟩
    rw [f_X4_even, e0, ob1_s]; exact e
theorem meven_s {N d : Nat} {σ : Sg} (ok : Ok N d (σ 50)) (hd : d + 300 ≤ 99999) : (∃ i, i < 201 ∧ owR (goN N 0 i (σ 50)) N = 0 ∧ (∀ j, j < i → ¬ owR (goN N 0 j (σ 50)) N = 0) ∧ f_X5_even σ = some (nI i, asd σ)) ∨ ((∀ i, i < 201 → ¬ owR (goN N 0 i (σ 50)) N = 0) ∧ f_X5_even σ = some (-1000004, fdM (asd σ) 3)) := by
  have hi60 : ∀ i, i ≤ 201 → ∀ k, 60 ≤ k → goN N 0 i (σ 50) k = σ 50 k := fun i hi k hk => goN_hi ok i (by omega) k hk
  have key := srch (fun f i τ => f_X5_even_L13 f (nI i) τ) (fun i τ => τ = upr (asd σ) 50 (goN N 0 i (σ 50))) (fun i => owR (goN N 0 i (σ 50)) N = 0) 201 (fun τ => some (-1000004, fdM (asd σ) 3)) (fun i τ => some (nI i, asd σ))
    (fun f τ hI => by
      show f_X5_even_L13 (f + 1) (nI 201) τ = _
      rw [f_X5_even_L13, if_pos (show (200 : Int32) < nI 201 from by decide), hI, mback (hi60 201 (by omega)), ob1_s, mfd3, ob2_s])
    (fun f i τ hi hI => by
      have oki := Ok_go (m := 0) ok i (by omega)
      show (_ ∧ f_X5_even_L13 (f + 1) (nI i) τ = _) ∨ (_ ∧ ∃ τ', _ ∧ f_X5_even_L13 (f + 1) (nI i) τ = f_X5_even_L13 f (nI (i + 1)) τ')
      rw [f_X5_even_L13, if_neg (lt200 hi), hI, mow (n := N) ok.1 (by rw [upr_at]; exact oki.2.1), ob0_s, upr_at]
      by_cases q : owR (goN N 0 i (σ 50)) N = 0
      · left
        rw [if_pos q, mback (hi60 i (by omega)), ob1_s]
        exact ⟨q, rfl⟩
      · right
        rw [if_neg q, mdayOk (n := N) (d := d + i) (by omega) 0 _ (by rw [upr_at]; exact oki), ob1_s, upr_at, upr_upr, nI_1]
        exact ⟨q, _, rfl, rfl⟩)
    FU (asd σ) (by rw [FU_eq]; omega) (by rw [show goN N 0 0 (σ 50) = asd σ 50 from (asd_50 σ).symm, upr_self])
  obtain ⟨τ, h | h⟩ := key
  · obtain ⟨i, hi, q, q2, hI, e⟩ := h
    refine Or.inl ⟨i, hi, q, q2, ?_⟩
    rw [f_X5_even, masd, ob1_s]; exact e
  · obtain ⟨q, hI, e⟩ := h
    refine Or.inr ⟨q, ?_⟩
    rw [f_X5_even, masd, ob1_s]; exact e
theorem op_even {n : Nat} (hn : n < 512) {σ : Sg} (h : Inv n σ) : Step n σ f_X4_even f_X5_even := by
  obtain ⟨⟨N, d, ok, hd, cr⟩, hz⟩ := id h.1
  obtain ⟨τ, t, hc⟩ := ceven_s ok (by omega) cr hz
  have e50 : τ 50 = σ 50 := t 50 (by omega)
  rcases hc with ⟨i, hi, q, q2, e⟩ | ⟨q, e⟩
  · rcases meven_s (σ := τ) (N := N) (d := d) (by rw [e50]; exact ok) (by omega) with ⟨j, hj, p, p2, e'⟩ | ⟨p, e'⟩
    · rw [e50] at p p2
      have := lst_uniq (Q := fun i => owR (goN N 0 i (σ 50)) N = 0) q q2 p p2
      subst this
      exact Step.val h e t e' (ScM_asd _)
    · rw [e50] at p
      exact absurd q (p i hi)
  · rcases meven_s (σ := fdC τ 3) (N := N) (d := d) (by rw [fdC_o (by omega), e50]; exact ok) (by omega) with ⟨j, hj, p, p2, e'⟩ | ⟨p, e'⟩
    · rw [fdC_o (by omega), e50] at p
      exact absurd p (q j hj)
    · exact Step.find h (by omega) e t e' (ScM_asd _)
/-- days until BORNE of one lies within -/
theorem cdtb {N d p : Nat} {σ : Sg} {s : Rw} (ok : Ok N d s) (hd : d + 300 ≤ 99999) (cr : CR N 1 σ s) (hz : σ 1 7 = 0) (hp : p < N) (lo hi : Int32) : ∃ τ, Trl σ τ ∧ ((∃ i, i < 201 ∧ (lo.toInt ≤ (goN N 0 i s (10 + 5 * p + 3)).toInt ∧ (goN N 0 i s (10 + 5 * p + 3)).toInt ≤ hi.toInt) ∧ (∀ j, j < i → ¬ (lo.toInt ≤ (goN N 0 j s (10 + 5 * p + 3)).toInt ∧ (goN N 0 j s (10 + 5 * p + 3)).toInt ≤ hi.toInt)) ∧ f_X4_daysToBorne (nI p) lo hi σ = some (nI i, τ)) ∨ ((∀ i, i < 201 → ¬ (lo.toInt ≤ (goN N 0 i s (10 + 5 * p + 3)).toInt ∧ (goN N 0 i s (10 + 5 * p + 3)).toInt ≤ hi.toInt)) ∧ f_X4_daysToBorne (nI p) lo hi σ = some (-1000004, fdC τ 3))) := by
  have hN := ok.1
  obtain ⟨τ0, e0, cr0, z0, t0⟩ := tri ok cr hz
  have key := srch (fun f i τ => f_X4_daysToBorne_L14 (nI p) lo hi f (nI i) τ) (fun i τ => CR N 25 τ (goN N 0 i s) ∧ τ 25 7 = 0 ∧ Trl σ τ) (fun i => lo.toInt ≤ (goN N 0 i s (10 + 5 * p + 3)).toInt ∧ (goN N 0 i s (10 + 5 * p + 3)).toInt ≤ hi.toInt) 201 (fun τ => some (-1000004, fdC τ 3)) (fun i τ => some (nI i, τ))
    (fun f τ hI => by
      show f_X4_daysToBorne_L14 (nI p) lo hi (f + 1) (nI 201) τ = _
      rw [f_X4_daysToBorne_L14, if_pos (show (200 : Int32) < nI 201 from by decide), cfd3, ob2_s])
    (fun f i τ hi' hI => by
      obtain ⟨c, z, t⟩ := hI
      have oki := Ok_go (m := 0) ok i (by omega)
      show (_ ∧ f_X4_daysToBorne_L14 (nI p) lo hi (f + 1) (nI i) τ = _) ∨ (_ ∧ ∃ τ', _ ∧ f_X4_daysToBorne_L14 (nI p) lo hi (f + 1) (nI i) τ = f_X4_daysToBorne_L14 (nI p) lo hi f (nI (i + 1)) τ')
      rw [f_X4_daysToBorne_L14, if_neg (lt200 hi'), chk_nI (by omega) (by omega), cl_nI (by omega), (c.o hp).2.2.2.1, wC rfl rfl, ob0_s]
      by_cases q : lo.toInt ≤ (goN N 0 i s (10 + 5 * p + 3)).toInt ∧ (goN N 0 i s (10 + 5 * p + 3)).toInt ≤ hi.toInt
      · left
        rw [if_pos q, if_neg one_ne0]
        exact ⟨q, rfl⟩
      · right
        obtain ⟨τ', e, c', f'⟩ := cday (d := d + i) (by omega) 0 oki c z
        rw [if_neg q, if_pos rfl, e, ob1_s, nI_1]
        exact ⟨q, τ', ⟨c', f'.2.trans z, t.tr (Trl.of f')⟩, rfl⟩)
    FU τ0 (by rw [FU_eq]; omega) ⟨cr0, z0, t0⟩
  obtain ⟨τ, h | h⟩ := key
  · obtain ⟨i, hi, q, q2, hI, e⟩ := h
    refine ⟨τ, hI.2.2, Or.inl ⟨i, hi, q, q2, ?_⟩⟩
    rw [f_X4_daysToBorne, e0, ob1_s]; exact e
  · obtain ⟨q, hI, e⟩ := h
    refine ⟨τ, hI.2.2, Or.inr ⟨q, ?_⟩⟩
    rw [f_X4_daysToBorne, e0, ob1_s]; exact e
theorem mwhen_s {N d p : Nat} {σ : Sg} (ok : Ok N d (σ 50)) (hd : d + 300 ≤ 99999) (hp : p < N) (v : Int32) : (∃ i, i < 201 ∧ v ≤ goN N 0 i (σ 50) (10 + 5 * p + 3) ∧ (∀ j, j < i → ¬ v ≤ goN N 0 j (σ 50) (10 + 5 * p + 3)) ∧ f_X5_when_L40 (nI p) v FU 0 (asd σ) = some (nI i, asd σ)) ∨ ((∀ i, i < 201 → ¬ v ≤ goN N 0 i (σ 50) (10 + 5 * p + 3)) ∧ f_X5_when_L40 (nI p) v FU 0 (asd σ) = some (-1000004, fdM (asd σ) 3)) := by
  have hN := ok.1
  have hi60 : ∀ i, i ≤ 201 → ∀ k, 60 ≤ k → goN N 0 i (σ 50) k = σ 50 k := fun i hi k hk => goN_hi ok i (by omega) k hk
  have key := srch (fun f i τ => f_X5_when_L40 (nI p) v f (nI i) τ) (fun i τ => τ = upr (asd σ) 50 (goN N 0 i (σ 50))) (fun i => v ≤ goN N 0 i (σ 50) (10 + 5 * p + 3)) 201 (fun τ => some (-1000004, fdM (asd σ) 3)) (fun i τ => some (nI i, asd σ))
    (fun f τ hI => by
      show f_X5_when_L40 (nI p) v (f + 1) (nI 201) τ = _
      rw [f_X5_when_L40, if_pos (show (200 : Int32) < nI 201 from by decide), hI, mback (hi60 201 (by omega)), ob1_s, mfd3, ob2_s])
    (fun f i τ hi hI => by
      have oki := Ok_go (m := 0) ok i (by omega)
      show (_ ∧ f_X5_when_L40 (nI p) v (f + 1) (nI i) τ = _) ∨ (_ ∧ ∃ τ', _ ∧ f_X5_when_L40 (nI p) v (f + 1) (nI i) τ = f_X5_when_L40 (nI p) v f (nI (i + 1)) τ')
      rw [f_X5_when_L40, if_neg (lt200 hi), hI, its3 (by omega), ob0_s, upr_at]
      by_cases q : v ≤ goN N 0 i (σ 50) (10 + 5 * p + 3)
      · left
        rw [if_pos q, mback (hi60 i (by omega)), ob1_s]
        exact ⟨q, rfl⟩
      · right
        rw [if_neg q, mdayOk (n := N) (d := d + i) (by omega) 0 _ (by rw [upr_at]; exact oki), ob1_s, upr_at, upr_upr, nI_1]
        exact ⟨q, _, rfl, rfl⟩)
    FU (asd σ) (by rw [FU_eq]; omega) (by rw [show goN N 0 0 (σ 50) = asd σ 50 from (asd_50 σ).symm, upr_self])
  obtain ⟨τ, h | h⟩ := key
  · obtain ⟨i, hi, q, q2, hI, e⟩ := h
    exact Or.inl ⟨i, hi, q, q2, e⟩
  · obtain ⟨q, hI, e⟩ := h
    exact Or.inr ⟨q, e⟩
theorem mclean_s {N d p : Nat} {σ : Sg} (ok : Ok N d (σ 50)) (hd : d + 300 ≤ 99999) (hp : p < N) : (∃ i, i < 201 ∧ goN N 0 i (σ 50) (10 + 5 * p + 3) ≤ 0 ∧ (∀ j, j < i → ¬ goN N 0 j (σ 50) (10 + 5 * p + 3) ≤ 0) ∧ f_X5_clean_L28 (nI p) FU 0 (asd σ) = some (nI i, asd σ)) ∨ ((∀ i, i < 201 → ¬ goN N 0 i (σ 50) (10 + 5 * p + 3) ≤ 0) ∧ f_X5_clean_L28 (nI p) FU 0 (asd σ) = some (-1000004, fdM (asd σ) 3)) := by
  have hN := ok.1
  have hi60 : ∀ i, i ≤ 201 → ∀ k, 60 ≤ k → goN N 0 i (σ 50) k = σ 50 k := fun i hi k hk => goN_hi ok i (by omega) k hk
  have key := srch (fun f i τ => f_X5_clean_L28 (nI p) f (nI i) τ) (fun i τ => τ = upr (asd σ) 50 (goN N 0 i (σ 50))) (fun i => goN N 0 i (σ 50) (10 + 5 * p + 3) ≤ 0) 201 (fun τ => some (-1000004, fdM (asd σ) 3)) (fun i τ => some (nI i, asd σ))
    (fun f τ hI => by
      show f_X5_clean_L28 (nI p) (f + 1) (nI 201) τ = _
      rw [f_X5_clean_L28, if_pos (show (200 : Int32) < nI 201 from by decide), hI, mback (hi60 201 (by omega)), ob1_s, mfd3, ob2_s])
    (fun f i τ hi hI => by
      have oki := Ok_go (m := 0) ok i (by omega)
      show (_ ∧ f_X5_clean_L28 (nI p) (f + 1) (nI i) τ = _) ∨ (_ ∧ ∃ τ', _ ∧ f_X5_clean_L28 (nI p) (f + 1) (nI i) τ = f_X5_clean_L28 (nI p) f (nI (i + 1)) τ')
      rw [f_X5_clean_L28, if_neg (lt200 hi), hI, its3 (by omega), ob0_s, upr_at]
      by_cases q : goN N 0 i (σ 50) (10 + 5 * p + 3) ≤ 0
      · left
        rw [if_pos q, mback (hi60 i (by omega)), ob1_s]
        exact ⟨q, rfl⟩
      · right
        rw [if_neg q, mdayOk (n := N) (d := d + i) (by omega) 0 _ (by rw [upr_at]; exact oki), ob1_s, upr_at, upr_upr, nI_1]
        exact ⟨q, _, rfl, rfl⟩)
    FU (asd σ) (by rw [FU_eq]; omega) (by rw [show goN N 0 0 (σ 50) = asd σ 50 from (asd_50 σ).symm, upr_self])
  obtain ⟨τ, h | h⟩ := key
  · obtain ⟨i, hi, q, q2, hI, e⟩ := h
    exact Or.inl ⟨i, hi, q, q2, e⟩
  · obtain ⟨q, hI, e⟩ := h
    exact Or.inr ⟨q, e⟩
theorem borne_in {N d p i : Nat} {s : Rw} (ok : Ok N d s) (hd : d + i < 2 ^ 30) (hp : p < N) : 0 ≤ (goN N 0 i s (10 + 5 * p + 3)).toInt ∧ (goN N 0 i s (10 + 5 * p + 3)).toInt ≤ 9999 := by
  obtain ⟨-, -, -, ⟨a, ha, e⟩, -⟩ := (Ok_go (m := 0) ok i hd).2.2.2.2.2.1 p hp
  rw [e, nI_toInt (by omega)]
  omega
theorem op_when {n : Nat} (hn : n < 512) {σ : Sg} (h : Inv n σ) (x v : Int32) : Step n σ (f_X4_when x v) (f_X5_when x v) := by
  obtain ⟨⟨N, d, ok, hd, cr⟩, hz⟩ := id h.1
  have hN := ok.1
  have c1 : ∀ τ, τ 1 = σ 1 → f_X0_has 1 x τ = some (if 0 ≤ x.toInt ∧ x.toInt < (N : Int) then 1 else 0) := fun τ e => hasC hN (by rw [e]; exact cr.1.trans ok.2.1) x
  have m1 : ∀ τ, τ 50 = σ 50 → f_X5_isOne x τ = some (if 0 ≤ x.toInt ∧ x.toInt < (N : Int) then 1 else 0) := fun τ e => oneM hN (by rw [e]; exact ok.2.1) x
  have c2 : ∀ τ, f_X4_within v 0 9999 τ = some (if 0 ≤ v.toInt ∧ v.toInt ≤ 9999 then 1 else 0) := fun τ => wC (by decide) (by decide) τ
  have m2 : ∀ τ, f_X5_isIn v.toInt64 0 9999 τ = some (if 0 ≤ v.toInt ∧ v.toInt ≤ 9999 then 1 else 0) := fun τ => wM (by decide) (by decide) τ
  by_cases h1 : 0 ≤ x.toInt ∧ x.toInt < (N : Int)
  · by_cases h2 : 0 ≤ v.toInt ∧ v.toInt ≤ 9999
    · obtain ⟨p, hp, rfl⟩ := nn_lt h1
      have hQ : ∀ i, i < 201 → ((v.toInt ≤ (goN N 0 i (σ 50) (10 + 5 * p + 3)).toInt ∧ (goN N 0 i (σ 50) (10 + 5 * p + 3)).toInt ≤ (9999 : Int32).toInt) ↔ v ≤ goN N 0 i (σ 50) (10 + 5 * p + 3)) := fun i hi => by
        have := borne_in (i := i) ok (by omega) hp
        have e : (9999 : Int32).toInt = 9999 := by decide
        rw [Int32.le_iff_toInt_le, e]
        omega
      obtain ⟨τ, t, hc⟩ := cdtb ok (by omega) cr hz hp v 9999
      have e50 : τ 50 = σ 50 := t 50 (by omega)
      have eC : f_X4_when (nI p) v σ = f_X4_daysToBorne (nI p) v 9999 σ := by
        simp only [f_X4_when, c1 σ rfl, c2, if_pos h1, if_pos h2, ob0_s, if_neg one_ne0]
        rcases hc with ⟨i, hi, q, q2, e⟩ | ⟨q, e⟩ <;> rw [e, ob2_s]
      have eM : ∀ ρ, ρ 50 = σ 50 → f_X5_when (nI p) v ρ = f_X5_when_L40 (nI p) v FU 0 (asd ρ) := fun ρ e => by
        simp only [f_X5_when, m1 ρ e, m2, if_pos h1, if_pos h2, ob0_s, if_neg one_ne0, masd, ob1_s]
      rcases hc with ⟨i, hi, q, q2, e⟩ | ⟨q, e⟩
      · rcases mwhen_s (σ := τ) (N := N) (d := d) (by rw [e50]; exact ok) (by omega) hp v with ⟨j, hj, p1, p2, e'⟩ | ⟨p1, e'⟩
        · rw [e50] at p1 p2
          have := lst_uniq (Q := fun i => v ≤ goN N 0 i (σ 50) (10 + 5 * p + 3)) ((hQ i hi).mp q) (fun k hk z => q2 k hk ((hQ k (by omega)).mpr z)) p1 p2
          subst this
          exact Step.val h (eC.trans e) t ((eM τ e50).trans e') (ScM_asd _)
        · rw [e50] at p1
          exact absurd ((hQ i hi).mp q) (p1 i hi)
      · have e50' : (fdC τ 3) 50 = σ 50 := (fdC_o (by omega)).trans e50
        rcases mwhen_s (σ := fdC τ 3) (N := N) (d := d) (by rw [e50']; exact ok) (by omega) hp v with ⟨j, hj, p1, p2, e'⟩ | ⟨p1, e'⟩
        · rw [e50'] at p1
          exact absurd ((hQ j hj).mpr p1) (q j hj)
        · exact Step.find h (by omega) (eC.trans e) t ((eM _ e50').trans e') (ScM_asd _)
    · refine Step.bey h ?_ ?_
      · simp only [f_X4_when, c1 σ rfl, c2, if_pos h1, if_neg h2, ob0_s, if_neg one_ne0, if_pos, cfd0, ob2_s]
      · simp only [f_X5_when, m1 (fdC σ 0) (fdC_o (by omega)), m2, if_pos h1, if_neg h2, ob0_s, if_neg one_ne0, if_pos, mfd0, ob2_s]
  · refine Step.bey h ?_ ?_
    · simp only [f_X4_when, c1 σ rfl, if_neg h1, ob0_s, if_pos, cfd0, ob2_s]
    · simp only [f_X5_when, m1 (fdC σ 0) (fdC_o (by omega)), if_neg h1, ob0_s, if_pos, mfd0, ob2_s]
theorem op_clean {n : Nat} (hn : n < 512) {σ : Sg} (h : Inv n σ) (x : Int32) : Step n σ (f_X4_clean x) (f_X5_clean x) := by
  obtain ⟨⟨N, d, ok, hd, cr⟩, hz⟩ := id h.1
  have hN := ok.1
  have c1 : ∀ τ, τ 1 = σ 1 → f_X0_has 1 x τ = some (if 0 ≤ x.toInt ∧ x.toInt < (N : Int) then 1 else 0) := fun τ e => hasC hN (by rw [e]; exact cr.1.trans ok.2.1) x
  have m1 : ∀ τ, τ 50 = σ 50 → f_X5_isOne x τ = some (if 0 ≤ x.toInt ∧ x.toInt < (N : Int) then 1 else 0) := fun τ e => oneM hN (by rw [e]; exact ok.2.1) x
  by_cases h1 : 0 ≤ x.toInt ∧ x.toInt < (N : Int)
  · obtain ⟨p, hp, rfl⟩ := nn_lt h1
    have hQ : ∀ i, i < 201 → (((0 : Int32).toInt ≤ (goN N 0 i (σ 50) (10 + 5 * p + 3)).toInt ∧ (goN N 0 i (σ 50) (10 + 5 * p + 3)).toInt ≤ (0 : Int32).toInt) ↔ goN N 0 i (σ 50) (10 + 5 * p + 3) ≤ 0) := fun i hi => by
      have := borne_in (i := i) ok (by omega) hp
      have e : (0 : Int32).toInt = 0 := by decide
      rw [Int32.le_iff_toInt_le, e]
      omega
    obtain ⟨τ, t, hc⟩ := cdtb ok (by omega) cr hz hp 0 0
    have e50 : τ 50 = σ 50 := t 50 (by omega)
    have eC : f_X4_clean (nI p) σ = f_X4_daysToBorne (nI p) 0 0 σ := by
      simp only [f_X4_clean, c1 σ rfl, if_pos h1, ob0_s, if_neg one_ne0]
      rcases hc with ⟨i, hi, q, q2, e⟩ | ⟨q, e⟩ <;> rw [e, ob2_s]
    have eM : ∀ ρ, ρ 50 = σ 50 → f_X5_clean (nI p) ρ = f_X5_clean_L28 (nI p) FU 0 (asd ρ) := fun ρ e => by
      simp only [f_X5_clean, m1 ρ e, if_pos h1, ob0_s, if_neg one_ne0, masd, ob1_s]
    rcases hc with ⟨i, hi, q, q2, e⟩ | ⟨q, e⟩
    · rcases mclean_s (σ := τ) (N := N) (d := d) (by rw [e50]; exact ok) (by omega) hp with ⟨j, hj, p1, p2, e'⟩ | ⟨p1, e'⟩
      · rw [e50] at p1 p2
        have := lst_uniq (Q := fun i => goN N 0 i (σ 50) (10 + 5 * p + 3) ≤ 0) ((hQ i hi).mp q) (fun k hk z => q2 k hk ((hQ k (by omega)).mpr z)) p1 p2
        subst this
        exact Step.val h (eC.trans e) t ((eM τ e50).trans e') (ScM_asd _)
      · rw [e50] at p1
        exact absurd ((hQ i hi).mp q) (p1 i hi)
    · have e50' : (fdC τ 3) 50 = σ 50 := (fdC_o (by omega)).trans e50
      rcases mclean_s (σ := fdC τ 3) (N := N) (d := d) (by rw [e50']; exact ok) (by omega) hp with ⟨j, hj, p1, p2, e'⟩ | ⟨p1, e'⟩
      · rw [e50'] at p1
        exact absurd ((hQ j hj).mpr p1) (q j hj)
      · exact Step.find h (by omega) (eC.trans e) t ((eM _ e50').trans e') (ScM_asd _)
  · refine Step.bey h ?_ ?_
    · simp only [f_X4_clean, c1 σ rfl, if_neg h1, ob0_s, if_pos, cfd0, ob2_s]
    · simp only [f_X5_clean, m1 (fdC σ 0) (fdC_o (by omega)), if_neg h1, ob0_s, if_pos, mfd0, ob2_s]
