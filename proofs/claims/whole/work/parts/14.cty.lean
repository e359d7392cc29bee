/-! a county of the class holds a row -/
def CR (n b : Nat) (σ : Sg) (s : Rw) : Prop := σ b 3 = s 0 ∧ σ b 5 = s 1 ∧ σ b 6 = s 2 ∧ σ b 4 = s 3 ∧ (∀ i, i < 6 → σ (b + 1) i = s (4 + i)) ∧ (∀ i, i < 10 → σ (b + 3) i = s (50 + i)) ∧ ∀ p, p < n → ∀ a, a < 5 → σ (b + 4 + p) a = s (10 + 5 * p + a)
/-- nothing but the county at b has changed, and who is silent is as before -/
def FrC (b : Nat) (σ σ' : Sg) : Prop := (∀ k, (k < b ∨ b + 12 ≤ k) → σ' k = σ k) ∧ σ' b 7 = σ b 7
theorem FrC.rf (b : Nat) (σ : Sg) : FrC b σ σ := ⟨fun _ _ => rfl, rfl⟩
theorem FrC.tr {b : Nat} {σ1 σ2 σ3 : Sg} (h : FrC b σ1 σ2) (h2 : FrC b σ2 σ3) : FrC b σ1 σ3 := ⟨fun k hk => (h2.1 k hk).trans (h.1 k hk), h2.2.trans h.2⟩
theorem up2_ne (σ : Sg) {k c i : Nat} (v : Int32) (h : c ≠ k) : up2 σ k i v c = σ c := by simp [up2, h]
theorem up2_at (σ : Sg) (k i : Nat) (v : Int32) : up2 σ k i v k i = v := by simp [up2, upd]
theorem up2_an (σ : Sg) {k i j : Nat} (v : Int32) (h : j ≠ i) : up2 σ k i v k j = σ k j := by simp [up2, upd, h]
theorem FrC.up {b k i : Nat} {σ : Sg} {v : Int32} (h1 : b ≤ k) (h2 : k < b + 12) (h3 : k ≠ b ∨ i ≠ 7) : FrC b σ (up2 σ k i v) := by
  refine ⟨fun c hc => up2_ne σ v (by omega), ?_⟩
  by_cases e : b = k
  · subst e
    exact up2_an σ v (by omega)
  · rw [up2_ne σ v e]
theorem CR_p {n b p a : Nat} {σ : Sg} {s : Rw} {v : Int32} (h : CR n b σ s) (hp : p < 8) (ha : a < 5) : CR n b (up2 σ (b + 4 + p) a v) (upd s (10 + 5 * p + a) v) := by
  obtain ⟨h1, h2, h3, h4, h5, h6, h7⟩ := h
  refine ⟨?_, ?_, ?_, ?_, fun i hi => ?_, fun i hi => ?_, fun q hq c hc => ?_⟩
  · rw [up2_ne σ v (by omega), upd_ne _ _ (by omega)]; exact h1
  · rw [up2_ne σ v (by omega), upd_ne _ _ (by omega)]; exact h2
  · rw [up2_ne σ v (by omega), upd_ne _ _ (by omega)]; exact h3
  · rw [up2_ne σ v (by omega), upd_ne _ _ (by omega)]; exact h4
  · rw [up2_ne σ v (by omega), upd_ne _ _ (by omega)]; exact h5 i hi
  · rw [up2_ne σ v (by omega), upd_ne _ _ (by omega)]; exact h6 i hi
  · by_cases e : q = p
    · subst e
      by_cases e2 : c = a
      · subst e2
        rw [up2_at, upd_at]
      · rw [up2_an σ v e2, upd_ne _ _ (by omega)]; exact h7 q hq c hc
    · rw [up2_ne σ v (by omega), upd_ne _ _ (by omega)]; exact h7 q hq c hc
theorem CR_f {n b i j : Nat} {σ : Sg} {s : Rw} {v : Int32} (h : CR n b σ s) (hij : (i = 3 ∧ j = 0) ∨ (i = 5 ∧ j = 1) ∨ (i = 6 ∧ j = 2) ∨ (i = 4 ∧ j = 3)) : CR n b (up2 σ b i v) (upd s j v) := by
  obtain ⟨h1, h2, h3, h4, h5, h6, h7⟩ := h
  refine ⟨?_, ?_, ?_, ?_, fun i hi => ?_, fun i hi => ?_, fun q hq c hc => ?_⟩
  · by_cases e : i = 3
    · have : j = 0 := by omega
      subst e; subst this; rw [up2_at, upd_at]
    · rw [up2_an σ v (by omega), upd_ne _ _ (by omega)]; exact h1
  · by_cases e : i = 5
    · have : j = 1 := by omega
      subst e; subst this; rw [up2_at, upd_at]
    · rw [up2_an σ v (by omega), upd_ne _ _ (by omega)]; exact h2
  · by_cases e : i = 6
    · have : j = 2 := by omega
      subst e; subst this; rw [up2_at, upd_at]
    · rw [up2_an σ v (by omega), upd_ne _ _ (by omega)]; exact h3
  · by_cases e : i = 4
    · have : j = 3 := by omega
      subst e; subst this; rw [up2_at, upd_at]
    · rw [up2_an σ v (by omega), upd_ne _ _ (by omega)]; exact h4
  · rw [up2_ne σ v (by omega), upd_ne _ _ (by omega)]; exact h5 i hi
  · rw [up2_ne σ v (by omega), upd_ne _ _ (by omega)]; exact h6 i hi
  · rw [up2_ne σ v (by omega), upd_ne _ _ (by omega)]; exact h7 q hq c hc
theorem CR_l {n b i : Nat} {σ : Sg} {s : Rw} {v : Int32} (h : CR n b σ s) (hi : i < 6) : CR n b (up2 σ (b + 1) i v) (upd s (4 + i) v) := by
  obtain ⟨h1, h2, h3, h4, h5, h6, h7⟩ := h
  refine ⟨?_, ?_, ?_, ?_, fun j hj => ?_, fun j hj => ?_, fun q hq c hc => ?_⟩
  · rw [up2_ne σ v (by omega), upd_ne _ _ (by omega)]; exact h1
  · rw [up2_ne σ v (by omega), upd_ne _ _ (by omega)]; exact h2
  · rw [up2_ne σ v (by omega), upd_ne _ _ (by omega)]; exact h3
  · rw [up2_ne σ v (by omega), upd_ne _ _ (by omega)]; exact h4
  · by_cases e : j = i
    · subst e; rw [up2_at, upd_at]
    · rw [up2_an σ v e, upd_ne _ _ (by omega)]; exact h5 j hj
  · rw [up2_ne σ v (by omega), upd_ne _ _ (by omega)]; exact h6 j hj
  · rw [up2_ne σ v (by omega), upd_ne _ _ (by omega)]; exact h7 q hq c hc
theorem CR_s {n b i : Nat} {σ : Sg} {s : Rw} {v : Int32} (h : CR n b σ s) (hn : n ≤ 8) (hi : i < 10) : CR n b (up2 σ (b + 3) i v) (upd s (50 + i) v) := by
  obtain ⟨h1, h2, h3, h4, h5, h6, h7⟩ := h
  refine ⟨?_, ?_, ?_, ?_, fun j hj => ?_, fun j hj => ?_, fun q hq c hc => ?_⟩
  · rw [up2_ne σ v (by omega), upd_ne _ _ (by omega)]; exact h1
  · rw [up2_ne σ v (by omega), upd_ne _ _ (by omega)]; exact h2
  · rw [up2_ne σ v (by omega), upd_ne _ _ (by omega)]; exact h3
  · rw [up2_ne σ v (by omega), upd_ne _ _ (by omega)]; exact h4
  · rw [up2_ne σ v (by omega), upd_ne _ _ (by omega)]; exact h5 j hj
  · by_cases e : j = i
    · subst e; rw [up2_at, upd_at]
    · rw [up2_an σ v e, upd_ne _ _ (by omega)]; exact h6 j hj
  · rw [up2_ne σ v (by omega), upd_ne _ _ (by omega)]; exact h7 q hq c hc
theorem CR.same {n b : Nat} {σ σ' : Sg} {s : Rw} (h : CR n b σ s) (hs : ∀ k, b ≤ k → k < b + 12 → σ' k = σ k) (hn : n ≤ 8) : CR n b σ' s := by
  obtain ⟨h1, h2, h3, h4, h5, h6, h7⟩ := h
  refine ⟨?_, ?_, ?_, ?_, fun j hj => ?_, fun j hj => ?_, fun q hq c hc => ?_⟩
  all_goals (rw [hs _ (by omega) (by omega)])
  · exact h1
  · exact h2
  · exact h3
  · exact h4
  · exact h5 j hj
  · exact h6 j hj
  · exact h7 q hq c hc
theorem CR.o {n b p : Nat} {σ : Sg} {s : Rw} (h : CR n b σ s) (hp : p < n) : σ (b + 4 + p) 0 = s (10 + 5 * p) ∧ σ (b + 4 + p) 1 = s (10 + 5 * p + 1) ∧ σ (b + 4 + p) 2 = s (10 + 5 * p + 2) ∧ σ (b + 4 + p) 3 = s (10 + 5 * p + 3) ∧ σ (b + 4 + p) 4 = s (10 + 5 * p + 4) :=
  ⟨h.2.2.2.2.2.2 p hp 0 (by omega), h.2.2.2.2.2.2 p hp 1 (by omega), h.2.2.2.2.2.2 p hp 2 (by omega), h.2.2.2.2.2.2 p hp 3 (by omega), h.2.2.2.2.2.2 p hp 4 (by omega)⟩
theorem croomS {n b p : Nat} {σ : Sg} {s : Rw} (h : CR n b σ s) (hp : p < n) : f_X1_room (b + 4 + p) σ = some (roomS s p) := by
  obtain ⟨h0, h1, h2, h3, h4⟩ := h.o hp
  rw [croom, h0, h2, h3, roomS]
theorem roomS_in {n d p : Nat} {s : Rw} (h : Ok n d s) (hp : p < n) : In (roomS s p) 198 := by
  obtain ⟨-, -, ⟨a2, b2, e2⟩, ⟨a3, b3, e3⟩, -⟩ := h.2.2.2.2.2.1 p hp
  rw [roomS, e2, e3]
  exact roomV_in _ b2 b3
def mostS (s : Rw) (o : Option Nat) : Int32 := match o with
  | none => -1
  | some j => roomS s j
theorem m1_le {a : Nat} (ha : a < 2 ^ 31) : (-1 : Int32) ≤ nI a := by
  rw [Int32.le_iff_toInt_le, nI_toInt ha]
  have : (-1 : Int32).toInt = -1 := by decide
  omega
theorem not_le_m1 {a : Nat} (ha : a < 2 ^ 31) : ¬ nI a ≤ (-1 : Int32) := by
  rw [Int32.le_iff_toInt_le, nI_toInt ha]
  have : (-1 : Int32).toInt = -1 := by decide
  omega
theorem crb {n d b : Nat} {σ : Sg} {s : Rw} (hk : Ok n d s) (h : CR n b σ s) (x : Int32) : f_X0_roomiestBut b x σ = some (enc (rbN s x n)) := by
  have hn := hk.1
  have h0 : σ b 3 = nI n := h.1.trans hk.2.1
  have key := loop_up (P := fun f i => f_X0_roomiestBut_L7 b x f (enc (rbN s x i)) (mostS s (rbN s x i)) (nI i) σ = some (enc (rbN s x n))) n
    (fun f => by rw [f_X0_roomiestBut_L7, h0, if_pos (nI_le (Nat.le_refl n) (by omega))])
    (fun f i hi ih => by
      rw [f_X0_roomiestBut_L7, h0, if_neg (nle hi (by omega)), nI_1, cl_nI (by omega)]
      rw [rbN] at ih
      by_cases hx : nI i = x
      · rw [if_pos hx] at ih ⊢
        rw [if_pos]
        · exact ih
        · cases hr : rbN s x i with
          | none => exact Int32.le_refl _
          | some j =>
            obtain ⟨m, hm, em⟩ := roomS_in hk (Nat.lt_trans (rbN_lt _ _ _ _ hr) hi)
            show (-1 : Int32) ≤ roomS s j
            rw [em]
            exact m1_le (by omega)
      · rw [if_neg hx] at ih ⊢
        rw [chk_nI (by omega) (by omega), croomS h hi, ob0_s]
        cases hr : rbN s x i with
        | none =>
          rw [hr] at ih
          obtain ⟨m, hm, em⟩ := roomS_in hk hi
          rw [if_neg (show ¬ roomS s i ≤ mostS s none from by rw [em]; exact not_le_m1 (by omega))]
          exact ih
        | some j =>
          rw [hr] at ih
          dsimp only at ih
          by_cases hc : roomS s i ≤ roomS s j
          · rw [if_pos hc] at ih
            rw [if_pos (show roomS s i ≤ mostS s (some j) from hc)]
            exact ih
          · rw [if_neg hc] at ih
            rw [if_neg (show ¬ roomS s i ≤ mostS s (some j) from hc)]
            exact ih)
  exact key FU 0 (Nat.zero_le n) (by rw [FU_eq]; omega)
theorem chas {n b : Nat} {σ : Sg} (hn : n ≤ 8) (h0 : σ b 3 = nI n) (j : Nat) (hj : j < 2 ^ 31) : f_X0_has b (nI j) σ = some (if j < n then 1 else 0) := by
  rw [f_X0_has, if_neg (nI_nn hj), h0]
  by_cases h : j < n
  · rw [if_neg (nle h (by omega)), if_pos h]
  · rw [if_pos (nI_le (by omega) hj), if_neg h]
theorem chas_m1 (b : Nat) (σ : Sg) : f_X0_has b (-1) σ = some 0 := by
  rw [f_X0_has, if_pos neg1_lt0]
def bz (o : Option Nat) : Int32 := match o with
  | none => 0
  | some _ => 1
theorem cbears {n d b p : Nat} {σ : Sg} {s : Rw} (hk : Ok n d s) (h : CR n b σ s) (w : Int32) : f_X0_bears b (enc (rbN s (nI p) n)) w σ = some (bz (bearS n s p w)) := by
  have h0 : σ b 3 = nI n := h.1.trans hk.2.1
  rw [f_X0_bears, bearS]
  cases hr : rbN s (nI p) n with
  | none => rw [show enc (none : Option Nat) = -1 from rfl, chas_m1, ob0_s]; rfl
  | some j =>
    have hj := rbN_lt _ _ _ _ hr
    have hn := hk.1
    rw [show enc (some j) = nI j from rfl, chas hk.1 h0 j (by omega), ob0_s, if_pos hj, if_neg (by decide), chk_nI (by omega) (by omega), cl_nI (by omega), croomS h hj, ob0_s]
    dsimp only
    by_cases hc : roomS s j < w
    · rw [if_pos hc, if_pos hc]; rfl
    · rw [if_neg hc, if_neg hc]; rfl
theorem csuffer {n b p : Nat} {σ : Sg} {s : Rw} (h : CR n b σ s) (hn : n ≤ 8) (hp : p < n) (ow w : Int32) : ∃ σ', f_X1_suffer (b + 4 + p) ow w σ = some σ' ∧ CR n b σ' (beF s p w ow) ∧ FrC b σ σ' := by
  obtain ⟨h0, h1, h2, h3, h4⟩ := h.o hp
  refine ⟨_, rfl, ?_, FrC.tr (FrC.up (by omega) (by omega) (by omega)) (FrC.up (by omega) (by omega) (by omega))⟩
  rw [up2_an σ _ (by omega), h1, h3, beF]
  exact CR_p (a := 3) (CR_p (a := 1) h (by omega) (by omega)) (by omega) (by omega)
theorem cserve {n d b p : Nat} {σ : Sg} {s : Rw} (hk : Ok n d s) (h : CR n b σ s) (hp : p < n) : ∃ σ', f_X0_serve b (nI p) σ = some σ' ∧ CR n b σ' (anF n s p) ∧ FrC b σ σ' := by
  have hn := hk.1
  obtain ⟨h0, h1, h2, h3, h4⟩ := h.o hp
  rw [f_X0_serve, chk_nI (by omega) (by omega), cl_nI (by omega), cask, ob0_s, h0, h1, h.2.1, crb hk h, ob0_s]
  rw [show jmin (askMV (s (10 + 5 * p)) (s 1)) (s (10 + 5 * p + 1)) = askS s p from rfl, cbears hk h, ob0_s]
  unfold anF
  by_cases hw : askS s p ≤ 0
  · rw [if_pos hw, if_neg (i_not_lt.mpr hw)]
    exact ⟨σ, rfl, h, FrC.rf b σ⟩
  · rw [if_neg hw, if_pos (i_not_le.mp hw)]
    cases hb : bearS n s p (askS s p) with
    | none =>
      rw [if_pos (show bz none = 0 from rfl)]
      refine ⟨_, rfl, ?_, FrC.tr (FrC.up (by omega) (by omega) (by omega)) (FrC.up (by omega) (by omega) (by omega))⟩
      rw [up2_ne σ _ (by omega), h.2.2.2.1]
      exact CR_f (CR_p (a := 1) h (by omega) (by omega)) (by omega)
    | some j =>
      have hj := bearS_lt hb
      have hrb : rbN s (nI p) n = some j := by
        unfold bearS at hb
        cases hr : rbN s (nI p) n with
        | none => rw [hr] at hb; cases hb
        | some j' =>
          rw [hr] at hb
          dsimp only at hb
          split at hb
          · cases hb
          · cases hb; rfl
      rw [if_neg (show ¬ bz (some j) = 0 from (by decide : ¬ (1 : Int32) = 0)), lt_s1, lt_s1, hrb, show enc (some j) = nI j from rfl, chk_nI (by omega) (by omega), cl_nI (by omega), cfeel, ob0_s, up2_an σ _ (by omega), h4]
      have hC : CR n b (up2 (up2 σ (b + 4 + p) 1 (s (10 + 5 * p + 1) - askS s p)) (b + 4 + p) 4 (jmin 9999 (s (10 + 5 * p + 4) + 1))) (upd (upd s (10 + 5 * p + 1) (s (10 + 5 * p + 1) - askS s p)) (10 + 5 * p + 4) (jmin 9999 (s (10 + 5 * p + 4) + 1))) :=
        CR_p (a := 4) (CR_p (a := 1) h (by omega) (by omega)) (by omega) (by omega)
      obtain ⟨g0, g1, g2, g3, g4⟩ := hC.o hj
      rw [g0, g3]
      obtain ⟨σ', e, hC', hF⟩ := csuffer hC hn hj (feelV (upd (upd s (10 + 5 * p + 1) (s (10 + 5 * p + 1) - askS s p)) (10 + 5 * p + 4) (jmin 9999 (s (10 + 5 * p + 4) + 1)) (10 + 5 * j)) (upd (upd s (10 + 5 * p + 1) (s (10 + 5 * p + 1) - askS s p)) (10 + 5 * p + 4) (jmin 9999 (s (10 + 5 * p + 4) + 1)) (10 + 5 * j + 3)) (askS s p) / 2) (askS s p)
      rw [e, ob1_s]
      exact ⟨σ', rfl, hC', FrC.tr (FrC.tr (FrC.up (by omega) (by omega) (by omega)) (FrC.up (by omega) (by omega) (by omega))) hF⟩
theorem cforget {n b p : Nat} {σ : Sg} {s : Rw} (h : CR n b σ s) (hn : n ≤ 8) (hp : p < n) : ∃ σ', f_X1_forget (b + 4 + p) σ = some σ' ∧ CR n b σ' (fgF s p) ∧ FrC b σ σ' := by
  obtain ⟨h0, h1, h2, h3, h4⟩ := h.o hp
  rw [f_X1_forget, cfg, ob0_s, h0, h3]
  exact ⟨_, rfl, CR_p (a := 3) h (by omega) (by omega), FrC.up (by omega) (by omega) (by omega)⟩
theorem cisIn (m x : Int32) (σ : Sg) : f_X4_isIn m x σ = some (if (jshr m x &&& 1) = 0 then 0 else 1) := by
  rw [f_X4_isIn]
  obtain ⟨j, hj, e⟩ := pk_andE (jshr m x) (m := 1) 1 (by decide)
  rw [e]
  have c : j = 0 ∨ j = 1 := by omega
  rcases c with rfl | rfl
  · rfl
  · rfl
theorem cday38 {n d b : Nat} (hd : d < 99999) {σ : Sg} {s : Rw} (hk : Ok n d s) (h : CR n b σ s) : ∃ σ', f_X0_passDay_L38 b FU 0 σ = some σ' ∧ CR n b σ' (upd (itr (fun p s => fgF s p) n s) 1 (itr (fun p s => fgF s p) n s 1 + 1)) ∧ FrC b σ σ' := by
  have hn := hk.1
  have hO : ∀ i, i ≤ n → Ok n d (itr (fun p s => fgF s p) i s) := fun i hi => Ok_itr (g := fun p s => fgF s p) (fun p s hp h => Ok_fg h hp) i hi s hk
  have key := loop_up (P := fun f i => ∀ τ, CR n b τ (itr (fun p s => fgF s p) i s) → FrC b σ τ → ∃ σ', f_X0_passDay_L38 b f (nI i) τ = some σ' ∧ CR n b σ' (upd (itr (fun p s => fgF s p) n s) 1 (itr (fun p s => fgF s p) n s 1 + 1)) ∧ FrC b σ σ') n
    (fun f τ hC hF => by
      rw [f_X0_passDay_L38, hC.1, (hO n (Nat.le_refl n)).2.1, if_pos (nI_le (Nat.le_refl n) (by omega)), lt_s1, hC.2.1]
      refine ⟨_, rfl, ?_, FrC.tr hF (FrC.up (by omega) (by omega) (by omega))⟩
      have e := (hO n (Nat.le_refl n)).2.2.1
      have e2 : jmin 99999 (itr (fun p s => fgF s p) n s 1 + 1) = itr (fun p s => fgF s p) n s 1 + 1 := by
        rw [e, nI_1]
        show jmin (nI 99999) (nI (d + 1)) = _
        rw [jmin_nI (by omega) (by omega)]
        congr 1
        omega
      rw [e2]
      exact CR_f hC (by omega))
    (fun f i hi ih τ hC hF => by
      rw [f_X0_passDay_L38, hC.1, (hO i (by omega)).2.1, if_neg (nle hi (by omega)), chk_nI (by omega) (by omega), cl_nI (by omega), nI_1]
      obtain ⟨σ', e, hC', hF'⟩ := cforget hC hn hi
      rw [e, ob1_s]
      exact ih σ' hC' (FrC.tr hF hF'))
  exact key FU 0 (Nat.zero_le n) (by rw [FU_eq]; omega) σ h (FrC.rf b σ)
theorem cday6 {n d b : Nat} (hd : d < 99999) (m : Int32) {σ : Sg} {s : Rw} (hk : Ok n d s) (h : CR n b σ s) (hm : σ b 7 = m) : ∃ σ', f_X0_passDay_L6 b FU 0 σ = some σ' ∧ CR n b σ' (let s3 := itr (fun p s => fgF s p) n (itr (asF n m) n s); upd s3 1 (s3 1 + 1)) ∧ FrC b σ σ' := by
  have hn := hk.1
  have hO : ∀ i, i ≤ n → Ok n d (itr (asF n m) i s) := fun i hi => Ok_itr (g := asF n m) (fun p s hp h => Ok_asF h hp) i hi s hk
  have key := loop_up (P := fun f i => ∀ τ, CR n b τ (itr (asF n m) i s) → FrC b σ τ → ∃ σ', f_X0_passDay_L6 b f (nI i) τ = some σ' ∧ CR n b σ' (let s3 := itr (fun p s => fgF s p) n (itr (asF n m) n s); upd s3 1 (s3 1 + 1)) ∧ FrC b σ σ') n
    (fun f τ hC hF => by
      rw [f_X0_passDay_L6, hC.1, (hO n (Nat.le_refl n)).2.1, if_pos (nI_le (Nat.le_refl n) (by omega))]
      obtain ⟨σ', e, hC', hF'⟩ := cday38 hd (hO n (Nat.le_refl n)) hC
      exact ⟨σ', e, hC', FrC.tr hF hF'⟩)
    (fun f i hi ih τ hC hF => by
      rw [f_X0_passDay_L6, hC.1, (hO i (by omega)).2.1, if_neg (nle hi (by omega)), nI_1, hF.2, hm, cisIn, ob0_s]
      rw [itr, asF] at ih
      by_cases hc : (jshr m (nI i) &&& 1) = 0
      · rw [if_pos hc] at ih ⊢
        rw [if_pos rfl]
        obtain ⟨σ', e, hC', hF'⟩ := cserve (hO i (by omega)) hC hi
        rw [e, ob1_s]
        exact ih σ' hC' (FrC.tr hF hF')
      · rw [if_neg hc] at ih ⊢
        rw [if_neg (by decide)]
        exact ih τ hC hF)
  exact key FU 0 (Nat.zero_le n) (by rw [FU_eq]; omega) σ h (FrC.rf b σ)
theorem cnextW {n d b : Nat} (hd : d < 2 ^ 30) {σ : Sg} {s : Rw} (hk : Ok n d s) (h : CR n b σ s) : ∃ w x : Nat, w < 8 ∧ x ≤ 20 ∧ s (4 + d % 6) = nI (100 * w + x) ∧ f_X0_nextWhom b σ = some (nI w) ∧ f_X0_nextWeight b σ = some (nI x) := by
  have hl : d % 6 < 6 := Nat.mod_lt _ (by omega)
  obtain ⟨w, x, hw, hx, e⟩ := hk.2.2.2.2.1 (d % 6) hl
  refine ⟨w, x, hw, hx, e, ?_, ?_⟩
  · rw [f_X0_nextWhom, h.2.1, hk.2.2.1, jrem6 (by omega), chk_nI hl (by omega), cl_nI (by omega), h.2.2.2.2.1 _ hl, e, Sy_whom hw hx]
  · rw [f_X0_nextWeight, h.2.1, hk.2.2.1, jrem6 (by omega), chk_nI hl (by omega), cl_nI (by omega), h.2.2.2.2.1 _ hl, e, Sy_weight hw hx]
theorem ctell {n d b : Nat} (hd : d < 2 ^ 30) {σ : Sg} {s : Rw} (hk : Ok n d s) (h : CR n b σ s) : ∃ σ', f_X0_tellSaying b σ = some σ' ∧ CR n b σ' (stF n s (s (4 + d % 6))) ∧ FrC b σ σ' := by
  have hn := hk.1
  obtain ⟨w, x, hw, hx, e, e1, e2⟩ := cnextW hd hk h
  rw [f_X0_tellSaying, e1, ob0_s, e2, ob0_s, chas hn (h.1.trans hk.2.1) w (by omega), ob0_s, stF, e, Sy_whom hw hx, Sy_weight hw hx]
  by_cases hwn : w < n
  · rw [if_pos hwn, if_neg (by decide), if_neg (nle hwn (by omega))]
    by_cases hc : nI x ≤ 0
    · rw [if_pos hc, if_pos hc]
      exact ⟨σ, rfl, h, FrC.rf b σ⟩
    · rw [if_neg hc, if_neg hc, chk_nI (by omega) (by omega), cl_nI (by omega), cfeel, ob0_s]
      obtain ⟨h0, h1, h2, h3, h4⟩ := h.o hwn
      rw [h0, h3]
      obtain ⟨σ', e3, hC', hF⟩ := csuffer h hn hwn (feelV (s (10 + 5 * w)) (s (10 + 5 * w + 3)) (nI x)) (nI x)
      rw [e3, ob1_s]
      exact ⟨σ', rfl, hC', hF⟩
  · rw [if_neg hwn, if_pos rfl, if_pos (nI_le (by omega) (by omega))]
    exact ⟨σ, rfl, h, FrC.rf b σ⟩
theorem cday {n d b : Nat} (hd : d < 99999) (m : Int32) {σ : Sg} {s : Rw} (hk : Ok n d s) (h : CR n b σ s) (hm : σ b 7 = m) : ∃ σ', f_X0_passDay b σ = some σ' ∧ CR n b σ' (dayF n m s) ∧ FrC b σ σ' := by
  have hl : d % 6 < 6 := Nat.mod_lt _ (by omega)
  obtain ⟨σ1, e1, hC1, hF1⟩ := ctell (by omega) hk h
  have hk1 : Ok n d (stF n s (s (4 + d % 6))) := Ok_st hk (hk.2.2.2.2.1 _ hl)
  obtain ⟨σ2, e2, hC2, hF2⟩ := cday6 hd m hk1 hC1 (hF1.2.trans hm)
  rw [f_X0_passDay, e1, ob1_s]
  refine ⟨σ2, e2, ?_, FrC.tr hF1 hF2⟩
  unfold dayF
  simp only [hk.2.2.1, jrem6 (show d < 2 ^ 31 by omega), cl_nI (show d % 6 < 2 ^ 31 by omega)]
  exact hC2
