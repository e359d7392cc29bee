/-! an item, the whole text -/
theorem wrapE {m : Option (Int32 × Sg)} {r : Int32} {s : Sg} (h : m = some (r, s)) (hr : r = 0 ∨ r = 1) : (ob2 m fun r s => chkb r <| some (r, s)) = m := by
  rw [h, ob2_s, chkb_ok hr]
theorem itemT {t : Nat} {g : Nat → Nat} (ht : t ≤ 120) (hg : ∀ i, i < t → g i ≤ 255) {d N k b e v : Nat} {ρ μ : Sg} (h : PP t g d ρ μ N k b e v) : Bad t ρ μ (f_X2_readItem 25 ρ) (f_X5_itemHere μ) ∨ ∃ N', Gd t g d ρ μ N' (b + 1) (f_X2_readItem 25 ρ) (f_X5_itemHere μ) := by
  have hbe : k ≠ 0 → b < e := h.2.2.1.2.2.2.2.2.2.2.2.2.2.2.1
  have a4 : f_X5_isFour 115 97 105 100 μ = some (if WL g k b e wSaid then 1 else 0) := mfour ht hg h.2.1 h.2.2.1 115 97 105 100 (by omega)
  have a5 : f_X5_isFive 104 105 110 116 115 μ = some (if WL g k b e wHints then 1 else 0) := mfive ht hg h.2.1 h.2.2.1 104 105 110 116 115 (by omega)
  rw [f_X2_readItem, cword ht hg h.1 h.2.2.1 (i := 0) wSaid (by decide) (by decide) (by decide), obi, cword ht hg h.1 h.2.2.1 (i := 1) wHints (by decide) (by decide) (by decide), obi, f_X5_itemHere, mkind ht hg h.2.1 h.2.2.1, ob0_s, a4, obi, a5, obi]
  by_cases w1 : WL g k b e wSaid
  · obtain ⟨c, m, e1, e2, hr⟩ := sayT ht hg h
    have hk := w1.1
    rw [if_pos w1, if_pos w1, kW_no w1 (by decide), if_pos neg1_lt0, e1, e2]
    rcases hr with hb | hgd
    · obtain ⟨ρ', μ', bb, x1, x2, x3⟩ := id hb
      rw [wrapE x2 (Or.inl rfl)]
      exact Or.inl hb
    · obtain ⟨ρ', μ', k', b', e', v', x1, x2, x3⟩ := id hgd
      rw [wrapE x2 (Or.inr rfl)]
      exact Or.inr ⟨N, hgd.lift (by have := hbe (by omega); omega) (FCr.rf ρ) (FMr.rf μ)⟩
  · rw [if_neg w1, if_neg w1]
    by_cases w2 : WL g k b e wHints
    · obtain ⟨c, m, e1, e2, hr⟩ := hintT ht hg h
      have hk := w2.1
      rw [if_pos w2, if_pos w2, kW_no w2 (by decide), if_pos neg1_lt0, e1, e2]
      rcases hr with hb | hgd
      · obtain ⟨ρ', μ', bb, x1, x2, x3⟩ := id hb
        rw [wrapE x2 (Or.inl rfl)]
        exact Or.inl hb
      · obtain ⟨ρ', μ', k', b', e', v', x1, x2, x3⟩ := id hgd
        rw [wrapE x2 (Or.inr rfl)]
        exact Or.inr ⟨N, hgd.lift (by have := hbe (by omega); omega) (FCr.rf ρ) (FMr.rf μ)⟩
    · rw [if_neg w2, if_neg w2]
      rcases kW_cases g k b e with hw | ⟨⟨q, hq, hw⟩, hk⟩
      · have ec : f_X2_readPerson 25 ρ = some (0, ρ) := by
          rw [f_X2_readPerson, ckind ht hg h.1 h.2.2.1, hw, ob0_s, if_pos rfl, chas_m1, ob0_s, if_pos rfl]
        have fa : f_X5_fails μ = some (0, up2 μ 49 17 (nI b)) := by rw [f_X5_fails, h.2.2.1.2.2.2.2.2.1, lt_s1]
        rw [hw, if_pos neg1_lt0, wrapE ec (Or.inl rfl), wrapE fa (Or.inl rfl), ec, fa]
        exact Or.inl (Bad.mk h (FCr.rf ρ) (FMr.rf μ))
      · rw [hw, if_neg (nI_nn (by omega))]
        rcases persT ht hg h hq hw with hb | hgd
        · obtain ⟨ρ', μ', bb, x1, x2, x3⟩ := id hb
          rw [wrapE x1 (Or.inl rfl), wrapE x2 (Or.inl rfl)]
          exact Or.inl hb
        · obtain ⟨ρ', μ', k', b', e', v', x1, x2, x3⟩ := id hgd
          rw [wrapE x1 (Or.inr rfl), wrapE x2 (Or.inr rfl)]
          exact Or.inr ⟨N + 1, hgd.lift (by have := hbe (by omega); omega) (FCr.rf ρ) (FMr.rf μ)⟩
def endF (μ : Sg) : Option (Int32 × Sg) := lt (up2 μ 49 7 0) fun s11 => ob1 (f_X5_copyRow 52 50 s11) fun s14 => some (((-1) - (s14 49 17)), s14)
def TX (d : Nat) (ρ μ : Sg) (c m : Option (Int32 × Sg)) : Prop := (∃ ρ' μ' b, c = some (-1 - nI b, ρ') ∧ b ≤ 120 ∧ FCr ρ ρ' ∧ FMr μ μ' ∧ μ' 49 17 = nI b ∧ m = endF μ') ∨ (∃ ρ' μ' N y, c = some (nI y, ρ') ∧ y ≤ 61 ∧ FCr ρ ρ' ∧ FMr μ μ' ∧ Ok N d (μ' 50) ∧ CR N 25 ρ' (μ' 50) ∧ m = some (nI y, up2 μ' 49 7 0))
theorem TX.lift {d : Nat} {ρ μ ρ1 μ1 : Sg} {c m : Option (Int32 × Sg)} (h : TX d ρ1 μ1 c m) (f1 : FCr ρ ρ1) (f2 : FMr μ μ1) : TX d ρ μ c m := by
  rcases h with ⟨a, b, q, h1, h2, h3, h4, h5⟩ | ⟨a, b, N, y, h1, h2, h3, h4, h5⟩
  · exact Or.inl ⟨a, b, q, h1, h2, f1.tr h3, f2.tr h4, h5⟩
  · exact Or.inr ⟨a, b, N, y, h1, h2, f1.tr h3, f2.tr h4, h5⟩
theorem itemsT {t : Nat} {g : Nat → Nat} (ht : t ≤ 120) (hg : ∀ i, i < t → g i ≤ 255) {d N k b e v : Nat} {ρ μ : Sg} (h : PP t g d ρ μ N k b e v) : TX d ρ μ (f_X2_readInto_L11 25 FU 1 ρ) (ob2 (f_X5_itemHere μ) fun r8 s9 => f_X5_text_L27 FU 1 r8 s9) := by
  have key := loop_up (P := fun f y => ∀ (ρ μ : Sg) (N k b e v : Nat), PP t g d ρ μ N k b e v → 1 ≤ y → 2 * (y - 1) ≤ b → TX d ρ μ (f_X2_readInto_L11 25 f (nI y) ρ) (ob2 (f_X5_itemHere μ) fun r8 s9 => f_X5_text_L27 f (nI y) r8 s9)) 62
    (fun f ρ μ N k b e v h _ hb => by
      have := h.2.2.1.2.2.2.2.2.2.2.2.2.1
      have := h.2.2.1.2.2.2.2.2.2.2.2.2.2.1
      omega)
    (fun f y hy ih ρ μ N k b e v h h1 hb => by
      rw [f_X2_readInto_L11, if_neg (show ¬ (120 : Int32) < nI y by rw [i_not_lt]; exact nI_le (b := 120) (by omega) (by omega))]
      rcases itemT ht hg h with hbad | ⟨N', hgd⟩
      · obtain ⟨ρ', μ', bb, x1, x2, x3, x4, x5, x6, x7⟩ := hbad
        rw [x1, x2, ob2_s, ob2_s, if_pos rfl, x3]
        refine Or.inl ⟨ρ', μ', bb, rfl, by omega, x6, x7, x4, ?_⟩
        rw [f_X5_text_L27, if_pos rfl]
        rfl
      · obtain ⟨ρ', μ', k', b', e', v', x1, x2, h', hb', x6, x7⟩ := hgd
        obtain ⟨c2, c3, c4, -, m13, m14, m15, -, k4, kb, ke, kz, -⟩ := id h'.2.2.1
        rw [x1, x2, ob2_s, ob2_s, if_neg one_ne0, c2, c3, f_X5_text_L27, if_neg one_ne0, m13]
        by_cases k0 : k' = 0
        · subst k0
          rw [if_pos (show nI 0 = 0 from rfl), if_neg (show ¬ nI 0 = 3 by decide), if_pos (show nI 0 = 0 from rfl), lt_s1]
          exact Or.inr ⟨ρ', μ', N', y, rfl, by omega, x6, x7, h'.2.2.2.1, h'.2.2.2.2, rfl⟩
        · have kne := kz k0
          have n0 : ¬ nI k' = 0 := fun q => k0 ((nI_eq (b := 0) (by omega) (by omega)).mp q)
          rw [if_neg n0]
          by_cases k3 : k' = 3
          · subst k3
            rw [if_pos (show nI 3 = 3 from rfl), if_pos (show nI 3 = 3 from rfl), nI_1]
            obtain ⟨ρ2, μ2, k2, b2, e2, v2, s1, s2, f1, f2, h2, hb2⟩ := h'.next ht hg
            rw [s1, ob1_s, s2, ob1_s]
            exact (ih ρ2 μ2 N' k2 b2 e2 v2 h2 (by omega) (by omega)).lift (x6.tr f1.r) (x7.tr f2.r)
          · have n3 : ¬ nI k' = 3 := fun q => k3 ((nI_eq (b := 3) (by omega) (by omega)).mp q)
            have fa : f_X5_fails μ' = some (0, up2 μ' 49 17 (nI b')) := by rw [f_X5_fails, m14, lt_s1]
            rw [if_neg n3, if_neg n3, if_neg n0, fa, ob2_s, if_pos rfl]
            exact Or.inl ⟨ρ', up2 μ' 49 17 (nI b'), b', rfl, by omega, x6, x7.tr (FM.up (by omega) (by omega)).r, up2_at .., rfl⟩)
  exact key FU 1 (by omega) (by rw [FU_eq]; omega) ρ μ N k b e v h (Nat.le_refl 1) (by omega)
theorem textT {t : Nat} {g : Nat → Nat} (ht : t ≤ 120) (hg : ∀ i, i < t → g i ≤ 255) {d N : Nat} {τ M0 : Sg} (hC : TC t g τ) (hM : TM t g M0) (ok : Ok N d (M0 50)) (cr : CR N 25 τ (M0 50)) : (∃ ρ' b, f_X2_readInto 25 τ = some (-1 - nI b, ρ') ∧ b ≤ 120 ∧ FCr τ ρ' ∧ ∃ M', f_X5_text M0 = some (-1 - nI b, M') ∧ M' 49 7 = 0 ∧ M' 49 4 = M0 49 4 ∧ (∀ c, c ≠ 49 → c ≠ 50 → c ≠ 52 → M' c = M0 c) ∧ ∀ j, j < 60 → M' 50 j = M0 50 j) ∨ (∃ ρ' N' y s', f_X2_readInto 25 τ = some (nI y, ρ') ∧ y ≤ 61 ∧ FCr τ ρ' ∧ Ok N' d s' ∧ CR N' 25 ρ' s' ∧ ∃ M', f_X5_text M0 = some (nI y, M') ∧ M' 49 7 = 0 ∧ M' 49 4 = M0 49 4 ∧ (∀ c, c ≠ 49 → c ≠ 50 → c ≠ 52 → M' c = M0 c) ∧ M' 50 = s') := by
  have hN := ok.1
  have e52 : f_X5_copyRow 50 52 M0 = some (upr M0 52 (cp60 (M0 50) (M0 52))) := mcopy (by omega) M0
  have fC0 : FC τ (up2 τ 37 4 0) := FC.up (by omega)
  have hM1 : TM t g (up2 (upr M0 52 (cp60 (M0 50) (M0 52))) 49 15 0) := (hM.cg (μ' := upr M0 52 (cp60 (M0 50) (M0 52))) (upr_ne _ _ (by omega)) (upr_ne _ _ (by omega))).fr (FM.up (by omega) (by omega))
  obtain ⟨ρ1, μ1, k1, b1, e1, v1, s1, s2, f1, f2, hK, -⟩ := tkNext ht hg (q := 0) (Nat.zero_le t) (hC.fr fC0) hM1 (up2_at ..) (up2_at ..)
  have e50 : μ1 50 = M0 50 := by rw [f2.1 50 (by omega), up2_ne _ _ (by omega), upr_ne _ _ (by omega)]
  have pp : PP t g d ρ1 μ1 N k1 b1 e1 v1 := ⟨(hC.fr fC0).fr f1, hM1.fr f2, hK, by rw [e50]; exact ok, by rw [e50]; exact cr.same (fun q x y => (f1.1 q (by omega)).trans (fC0.1 q (by omega))) hN⟩
  have hx := itemsT ht hg pp
  have uC : f_X2_readInto 25 τ = f_X2_readInto_L11 25 FU 1 ρ1 := by rw [f_X2_readInto, lt_s1, s1, ob1_s]
  have uM : f_X5_text M0 = (ob2 (f_X5_itemHere μ1) fun r8 s9 => f_X5_text_L27 FU 1 r8 s9) := by rw [f_X5_text, e52, ob1_s, lt_s1, s2, ob1_s]
  have fr1 : FCr τ ρ1 := (fC0.tr f1).r
  have o1 : ∀ c, c ≠ 49 → c ≠ 52 → μ1 c = M0 c := fun c h1 h2 => by rw [f2.1 c h1, up2_ne _ _ h1, upr_ne _ _ h2]
  have o4 : μ1 49 4 = M0 49 4 := by rw [f2.2.1, up2_an _ _ (by omega), upr_ne _ _ (by omega)]
  have o52 : μ1 52 = cp60 (M0 50) (M0 52) := by rw [f2.1 52 (by omega), up2_ne _ _ (by omega), upr_at]
  rw [uC, uM]
  rcases hx with ⟨ρ', μ', b, x1, x2, x3, x4, x5, x6⟩ | ⟨ρ', μ', N', y, x1, x2, x3, x4, x5, x6, x7⟩
  · refine Or.inl ⟨ρ', b, x1, x2, fr1.tr x3, upr (up2 μ' 49 7 0) 50 (cp60 ((up2 μ' 49 7 0) 52) ((up2 μ' 49 7 0) 50)), ?_, ?_, ?_, fun c h1 h2 h3 => ?_, fun j hj => ?_⟩
    · rw [x6, endF, lt_s1, mcopy (by omega), ob1_s, upr_ne _ _ (by omega), up2_an _ _ (by omega), x5]
    · rw [upr_ne _ _ (by omega), up2_at]
    · rw [upr_ne _ _ (by omega), up2_an _ _ (by omega), x4.2.1, o4]
    · rw [upr_ne _ _ h2, up2_ne _ _ h1, x4.1 c h1 h2, o1 c h1 h3]
    · rw [upr_at, cp60, if_pos hj, up2_ne _ _ (by omega), x4.1 52 (by omega) (by omega), o52, cp60, if_pos hj]
  · refine Or.inr ⟨ρ', N', y, μ' 50, x1, x2, fr1.tr x3, x5, x6, up2 μ' 49 7 0, x7, ?_, ?_, fun c h1 h2 h3 => ?_, ?_⟩
    · rw [up2_at]
    · rw [up2_an _ _ (by omega), x4.2.1, o4]
    · rw [up2_ne _ _ h1, x4.1 c h1 h2, o1 c h1 h3]
    · rw [up2_ne _ _ (by omega)]
theorem Inv.text {n : Nat} {σ σ2 : Sg} (h : Inv n σ) (hs : ∀ c, (c = 0 ∨ 13 ≤ c) → (c < 25 ∨ 37 < c) → c ≠ 49 → c ≠ 50 → c ≠ 52 → σ2 c = σ c) (h4 : σ2 49 4 = σ 49 4) (hM : Mn (n + 1) σ2) (h1 : σ2 37 1 = 0) (h7 : σ2 49 7 = 0) : Inv (n + 1) σ2 := by
  have e : ∀ c, (c = 0 ∨ 13 ≤ c) → (c < 25 ∨ 37 < c) → c ≠ 49 → c ≠ 50 → c ≠ 52 → σ2 c = σ c := hs
  refine ⟨hM, (h.2.1.same (by rw [e 0 (by omega) (by omega) (by omega) (by omega) (by omega)]) (fun k a b => e k (by omega) (by omega) (by omega) (by omega) (by omega)) (e 51 (by omega) (by omega) (by omega) (by omega) (by omega)) h4).mono (by omega), h.2.2.1.same (e 48 (by omega) (by omega) (by omega) (by omega) (by omega)) (e 54 (by omega) (by omega) (by omega) (by omega) (by omega)), ⟨by rw [h1, h7], 0, by omega, h1, fun i hi => by omega⟩, fun k hk => (h.2.2.2.2 k hk).same (e _ (by omega) (by omega) (by omega) (by omega) (by omega)) (e _ (by omega) (by omega) (by omega) (by omega) (by omega)) (e 56 (by omega) (by omega) (by omega) (by omega) (by omega)) (e 57 (by omega) (by omega) (by omega) (by omega) (by omega)) (e 58 (by omega) (by omega) (by omega) (by omega) (by omega))⟩
theorem m1_neg {b : Nat} (h : b ≤ 120) : -1 - nI b < (0 : Int32) := by
  have e : (-1 - nI b : Int32).toInt = -1 - (b : Int) := by
    rw [Int32.toInt_sub, nI_toInt (by omega), m1_toInt]
    exact Int.bmod_eq_of_le (by omega) (by omega)
  rw [Int32.lt_iff_toInt_lt, e, show (0 : Int32).toInt = 0 by decide]
  omega
theorem op_text {n : Nat} {σ : Sg} (h : Inv n σ) : Step n σ f_X4_text f_X5_text := by
  obtain ⟨⟨N, d, ok, hd, cr⟩, hz⟩ := id h.1
  have hN := ok.1
  obtain ⟨e49, t, ht, e37, hT⟩ := id h.2.2.2.1
  obtain ⟨τ, e0, cr0, z0, t0⟩ := tri ok cr hz
  have hg : ∀ i, i < t → (σ 38 i).toNatClampNeg ≤ 255 ∧ σ 38 i = nI (σ 38 i).toNatClampNeg := fun i hi => by
    obtain ⟨-, a, ha, e⟩ := hT i hi
    rw [e, cl_nI (by omega)]
    exact ⟨ha, rfl⟩
  have hC : TC t (fun i => (σ 38 i).toNatClampNeg) τ := ⟨by rw [t0 37 (by omega)]; exact e37, fun i hi => by rw [t0 38 (by omega)]; exact (hg i hi).2⟩
  have hM : ∀ M : Sg, M 49 7 = σ 49 7 → M 55 = σ 55 → TM t (fun i => (σ 38 i).toNatClampNeg) M := fun M h1 h2 => ⟨by rw [h1, ← e49]; exact e37, fun i hi => by rw [h2, ← (hT i hi).1]; exact (hg i hi).2⟩
  have T : ∀ M : Sg, M 49 7 = σ 49 7 → M 55 = σ 55 → M 50 = σ 50 → _ := fun M h1 h2 h3 => textT ht (fun i hi => (hg i hi).1) (d := d) (N := N) hC (hM M h1 h2) (by rw [h3]; exact ok) (by rw [h3]; exact cr0)
  rcases T σ rfl rfl rfl with ⟨ρ', b, x1, x2, x3, -⟩ | ⟨ρ', N', y, s', x1, x2, x3, ok', cr', -⟩
  · have uC : f_X4_text σ = some (-1 - nI b, up2 ρ' 37 1 0) := by
      rw [f_X4_text, e0, ob1_s, x1, ob2_s, if_pos (m1_neg x2), lt_s1]
    have oc : ∀ c, (c < 25 ∨ 37 < c) → up2 ρ' 37 1 0 c = σ c := fun c hc => by rw [up2_ne _ _ (by omega), x3.1 c (by omega) (by omega), t0 c (by omega)]
    rcases T (up2 ρ' 37 1 0) (by rw [oc 49 (by omega)]) (oc 55 (by omega)) (oc 50 (by omega)) with ⟨ρ'', b'', y1, y2, y3, M', z1, z2, z3, z4, z5⟩ | ⟨ρ'', N'', y'', s'', y1, y2, y3, -⟩
    · rw [x1] at y1
      have eb : -1 - nI b'' = -1 - nI b := (Prod.ext_iff.mp (Option.some.inj y1)).1.symm
      rw [eb] at z1
      have r50 : ∀ j, j < 60 → M' 50 j = σ 50 j := fun j hj => by rw [z5 j hj, oc 50 (by omega)]
      have o1 : ∀ c, 1 ≤ c → c < 13 → M' c = σ c := fun c a b => by rw [z4 c (by omega) (by omega) (by omega), oc c (by omega)]
      refine ⟨_, _, M', uC, z1, h.text (fun c h1 h2 h3 h4 h5 => by rw [z4 c h3 h4 h5, oc c (by omega)]) (by rw [z3, oc 49 (by omega)]) ⟨⟨N, d, ok.row r50, by omega, ?_⟩, ?_⟩ ?_ z2⟩
      · exact (cr.row hN r50).same (fun k g1 g2 => o1 k g1 g2) hN
      · rw [o1 1 (by omega) (by omega)]; exact hz
      · rw [z4 37 (by omega) (by omega) (by omega), up2_at]
    · rw [x1] at y1
      have eb : -1 - nI b = nI y'' := (Prod.ext_iff.mp (Option.some.inj y1)).1
      have := m1_neg x2
      rw [eb] at this
      exact absurd this (nI_nn (by omega))
  · obtain ⟨σa, a1, a2, a3, a4⟩ := cbecome (b := 1) ok' cr' (by omega)
    have uC : f_X4_text σ = some (nI y, up2 σa 37 1 0) := by
      rw [f_X4_text, e0, ob1_s, x1, ob2_s, if_neg (nI_nn (by omega)), a1, ob1_s, lt_s1]
    have oc : ∀ c, (c = 0 ∨ 13 ≤ c) → (c < 25 ∨ 37 < c) → up2 σa 37 1 0 c = σ c := fun c hc h2 => by rw [up2_ne _ _ (by omega), a4 c (by omega), x3.1 c (by omega) (by omega), t0 c (by omega)]
    rcases T (up2 σa 37 1 0) (by rw [oc 49 (by omega) (by omega)]) (oc 55 (by omega) (by omega)) (oc 50 (by omega) (by omega)) with ⟨ρ'', b'', y1, y2, y3, -⟩ | ⟨ρ'', N'', y'', s'', y1, y2, y3, ok'', cr'', M', z1, z2, z3, z4, z5⟩
    · rw [x1] at y1
      have eb : nI y = -1 - nI b'' := (Prod.ext_iff.mp (Option.some.inj y1)).1
      have := m1_neg y2
      rw [← eb] at this
      exact absurd this (nI_nn (by omega))
    · rw [x1] at y1
      have eb : nI y = nI y'' := (Prod.ext_iff.mp (Option.some.inj y1)).1
      have er : ρ' = ρ'' := (Prod.ext_iff.mp (Option.some.inj y1)).2
      subst er
      obtain ⟨σb, b1, b2, b3, b4⟩ := cbecome (b := 1) ok'' cr'' (by omega)
      rw [a1] at b1
      have es : σa = σb := Option.some.inj b1
      subst es
      refine ⟨_, _, M', uC, by rw [z1, eb], h.text (fun c h1 h2 h3 h4 h5 => by rw [z4 c h3 h4 h5, oc c h1 h2]) (by rw [z3, oc 49 (by omega) (by omega)]) ⟨⟨N'', d, by rw [z5]; exact ok'', by omega, ?_⟩, ?_⟩ ?_ z2⟩
      · rw [z5]
        exact b2.same (fun k g1 g2 => by rw [z4 k (by omega) (by omega) (by omega), up2_ne _ _ (by omega)]) ok''.1
      · rw [z4 1 (by omega) (by omega) (by omega), up2_ne _ _ (by omega), a3, x3.2.2]; exact z0
      · rw [z4 37 (by omega) (by omega) (by omega), up2_at]
