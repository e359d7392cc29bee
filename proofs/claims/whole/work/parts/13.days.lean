/-! days of the reference -/
theorem jrem_nI {a k : Nat} (ha : a < 2 ^ 31) (h0 : 0 < k) (hk : k < 2 ^ 31) : jrem (nI a) (nI k) = nI (a % k) := pk_rem ha h0 hk
theorem jrem6 {a : Nat} (ha : a < 2 ^ 31) : jrem (nI a) 6 = nI (a % 6) := jrem_nI (k := 6) ha (by omega) (by omega)
theorem jrem100 {a : Nat} (ha : a < 2 ^ 31) : jrem (nI a) 100 = nI (a % 100) := jrem_nI (k := 100) ha (by omega) (by omega)
theorem div100 {a : Nat} (ha : a < 2 ^ 31) : nI a / 100 = nI (a / 100) := pk_div (d := 100) ha (by omega) (by omega)
theorem add4 (a : Nat) : 4 + nI a = nI (4 + a) := nI_add 4 a
def Sy (e : Int32) : Prop := ∃ w x : Nat, w < 8 ∧ x ≤ 20 ∧ e = nI (100 * w + x)
theorem Sy_whom {w x : Nat} (hw : w < 8) (hx : x ≤ 20) : nI (100 * w + x) / 100 = nI w := by
  rw [div100 (by omega)]
  congr 1
  omega
theorem Sy_weight {w x : Nat} (hw : w < 8) (hx : x ≤ 20) : jrem (nI (100 * w + x)) 100 = nI x := by
  rw [jrem100 (by omega)]
  congr 1
  omega
theorem beF_o (s : Rw) {p : Nat} (w ow : Int32) {k : Nat} (hp : p < 8) (h : k < 10 ∨ 50 ≤ k) : beF s p w ow k = s k := by
  unfold beF
  rw [upd_ne _ _ (by omega), upd_ne _ _ (by omega)]
theorem anF_o {n : Nat} (s : Rw) {p k : Nat} (hn : n ≤ 8) (hp : p < 8) (h3 : k ≠ 3) (h : k < 10 ∨ 50 ≤ k) : anF n s p k = s k := by
  unfold anF
  split
  · rfl
  · cases hj : bearS n s p (askS s p) with
    | none =>
      dsimp only
      rw [upd_ne _ _ (by omega), upd_ne _ _ (by omega)]
    | some j =>
      dsimp only
      have := bearS_lt hj
      rw [beF_o _ _ _ (by omega) h, upd_ne _ _ (by omega), upd_ne _ _ (by omega)]
theorem fgF_o (s : Rw) {p k : Nat} (hp : p < 8) (h : k < 10 ∨ 50 ≤ k) : fgF s p k = s k := by
  unfold fgF
  rw [upd_ne _ _ (by omega)]
theorem asF_o {n : Nat} (m : Int32) (s : Rw) {p k : Nat} (hn : n ≤ 8) (hp : p < 8) (h3 : k ≠ 3) (h : k < 10 ∨ 50 ≤ k) : asF n m p s k = s k := by
  unfold asF
  split
  · exact anF_o s hn hp h3 h
  · rfl
theorem itr_o {g : Nat → Rw → Rw} {k : Nat} {N : Nat} (hg : ∀ p s, p < N → g p s k = s k) : ∀ i, i ≤ N → ∀ s, itr g i s k = s k := by
  intro i
  induction i with
  | zero => intro _ s; rfl
  | succ i ih => intro h s; rw [itr, hg _ _ (by omega), ih (by omega)]
theorem stF_o {n : Nat} (s : Rw) {e : Int32} {k : Nat} (he : Sy e) (h : k < 10 ∨ 50 ≤ k) : stF n s e k = s k := by
  obtain ⟨w, x, hw, hx, rfl⟩ := he
  unfold stF
  rw [Sy_whom hw hx, cl_nI (by omega)]
  split
  · rfl
  · split
    · rfl
    · exact beF_o _ _ _ hw h
theorem mday95 {n : Nat} (hn : n ≤ 8) (σ : Sg) : σ 50 0 = nI n → f_X5_dayBut_L95 FU 0 σ = some (upr σ 50 (upd (itr (fun p s => fgF s p) n (σ 50)) 1 (itr (fun p s => fgF s p) n (σ 50) 1 + 1))) := by
  intro h0
  have hz : ∀ i, i ≤ n → itr (fun p s => fgF s p) i (σ 50) 0 = nI n := fun i hi => by rw [itr_o (N := n) (fun p s hp => fgF_o s (by omega) (Or.inl (by omega))) i hi, h0]
  have key := loop_up (P := fun f i => f_X5_dayBut_L95 f (nI i) (upr σ 50 (itr (fun p s => fgF s p) i (σ 50))) = some (upr σ 50 (upd (itr (fun p s => fgF s p) n (σ 50)) 1 (itr (fun p s => fgF s p) n (σ 50) 1 + 1)))) n
    (fun f => by
      rw [f_X5_dayBut_L95, upr_at, hz n (Nat.le_refl n), if_pos (nI_le (Nat.le_refl n) (by omega))]
      simp only [lt_s1, up2_upr, upr_at, upr_upr])
    (fun f i hi ih => by
      rw [f_X5_dayBut_L95, upr_at, hz i (by omega), if_neg (nle hi (by omega)), nI_1]
      simp only [atv3, its3 (show i < 8 by omega), mfg (show i < 8 by omega), ob0_s, gre_eq, chk_nI (show 10 + 5 * i + 3 < 60 by omega) (by omega), cl_nI (show 10 + 5 * i + 3 < 2 ^ 31 by omega), lt_s1, up2_upr, upr_at, upr_upr]
      exact ih)
  have := key FU 0 (Nat.zero_le n) (by rw [FU_eq]; omega)
  rw [show itr (fun p s => fgF s p) 0 (σ 50) = σ 50 from rfl, upr_self] at this
  exact this
theorem mday60 {n : Nat} (hn : n ≤ 8) (m : Int32) (σ : Sg) (h0 : σ 50 0 = nI n) : f_X5_dayBut_L60 m FU 0 σ = some (upr σ 50 (let s3 := itr (fun p s => fgF s p) n (itr (asF n m) n (σ 50)); upd s3 1 (s3 1 + 1))) := by
  have hz : ∀ i, i ≤ n → itr (asF n m) i (σ 50) 0 = nI n := fun i hi => by rw [itr_o (N := n) (fun p s hp => asF_o m s hn (by omega) (by omega) (Or.inl (by omega))) i hi, h0]
  have key := loop_up (P := fun f i => f_X5_dayBut_L60 m f (nI i) (upr σ 50 (itr (asF n m) i (σ 50))) = some (upr σ 50 (let s3 := itr (fun p s => fgF s p) n (itr (asF n m) n (σ 50)); upd s3 1 (s3 1 + 1)))) n
    (fun f => by
      rw [f_X5_dayBut_L60, upr_at, hz n (Nat.le_refl n), if_pos (nI_le (Nat.le_refl n) (by omega)), mday95 hn _ (by rw [upr_at, hz n (Nat.le_refl n)]), upr_at, upr_upr])
    (fun f i hi ih => by
      rw [f_X5_dayBut_L60, upr_at, hz i (by omega), if_neg (nle hi (by omega)), nI_1]
      rw [itr, asF] at ih
      by_cases hc : (jshr m (nI i) &&& 1) = 0
      · rw [if_pos hc] at ih ⊢
        rw [man hn (by omega) _ (by rw [upr_at, hz i (by omega)]), ob1_s, upr_at, upr_upr]
        exact ih
      · rw [if_neg hc] at ih ⊢
        exact ih)
  have := key FU 0 (Nat.zero_le n) (by rw [FU_eq]; omega)
  rw [show itr (asF n m) 0 (σ 50) = σ 50 from rfl, upr_self] at this
  exact this
theorem mday {n d : Nat} (hn : n ≤ 8) (hd : d < 2 ^ 30) (m : Int32) (σ : Sg) (h0 : σ 50 0 = nI n) (h1 : σ 50 1 = nI d) (hq : Sy (σ 50 (4 + d % 6))) : f_X5_dayBut m σ = some (upr σ 50 (dayF n m (σ 50))) := by
  have hl : d % 6 < 6 := Nat.mod_lt _ (by omega)
  rw [f_X5_dayBut]
  simp only [h1, jrem6 (show d < 2 ^ 31 by omega), add4, chk_nI (show 4 + d % 6 < 60 by omega) (by omega), cl_nI (show 4 + d % 6 < 2 ^ 31 by omega)]
  rw [dayF]
  simp only [h1, jrem6 (show d < 2 ^ 31 by omega), cl_nI (show d % 6 < 2 ^ 31 by omega)]
  obtain ⟨w, x, hw, hx, he⟩ := id hq
  rw [h0, stF, he, Sy_whom hw hx, Sy_weight hw hx, cl_nI (by omega)]
  split
  · exact mday60 hn m σ h0
  · split
    · exact mday60 hn m σ h0
    · rw [mfeel hw, ob0_s, mbe hw, ob1_s, mday60 hn m _ (by rw [upr_at, beF_o _ _ _ hw (Or.inl (by omega)), h0]), upr_at, upr_upr]
theorem dayF_o {n d : Nat} (hn : n ≤ 8) (hd : d < 2 ^ 30) (m : Int32) (s : Rw) (h1 : s 1 = nI d) (hq : Sy (s (4 + d % 6))) {k : Nat} (hk1 : k ≠ 1) (hk3 : k ≠ 3) (h : k < 10 ∨ 50 ≤ k) : dayF n m s k = s k := by
  unfold dayF
  simp only [h1, jrem6 (show d < 2 ^ 31 by omega), cl_nI (show d % 6 < 2 ^ 31 by omega)]
  rw [upd_ne _ _ hk1, itr_o (N := n) (fun p s hp => fgF_o s (by omega) h) n (Nat.le_refl n), itr_o (N := n) (fun p s hp => asF_o m s hn (by omega) hk3 h) n (Nat.le_refl n), stF_o _ hq h]
theorem dayF_1 {n d : Nat} (hn : n ≤ 8) (hd : d < 2 ^ 30) (m : Int32) (s : Rw) (h1 : s 1 = nI d) (hq : Sy (s (4 + d % 6))) : dayF n m s 1 = nI (d + 1) := by
  unfold dayF
  simp only [h1, jrem6 (show d < 2 ^ 31 by omega), cl_nI (show d % 6 < 2 ^ 31 by omega)]
  rw [upd_at, itr_o (N := n) (fun p s hp => fgF_o s (by omega) (Or.inl (by omega))) n (Nat.le_refl n), itr_o (N := n) (fun p s hp => asF_o m s hn (by omega) (by omega) (Or.inl (by omega))) n (Nat.le_refl n), stF_o _ hq (Or.inl (by omega)), h1, nI_1]
/-! what a row may hold -/
def In (v : Int32) (hi : Nat) : Prop := ∃ a : Nat, a ≤ hi ∧ v = nI a
def Ok (n d : Nat) (s : Rw) : Prop := n ≤ 8 ∧ s 0 = nI n ∧ s 1 = nI d ∧ In (s 3) 99999 ∧ (∀ i, i < 6 → Sy (s (4 + i))) ∧ (∀ p, p < n → In (s (10 + 5 * p)) 6 ∧ In (s (10 + 5 * p + 1)) 9999 ∧ In (s (10 + 5 * p + 2)) 99 ∧ In (s (10 + 5 * p + 3)) 9999 ∧ In (s (10 + 5 * p + 4)) 9999) ∧ (∀ i, i < 10 → s (50 + i) = -1 ∨ ∃ p, p < n ∧ s (50 + i) = nI p)
theorem In_min {a hi b : Nat} (ha : a < 2 ^ 31) (hb : b ≤ hi) (hb2 : b < 2 ^ 31) : In (jmin (nI b) (nI a)) hi := by
  unfold jmin
  split
  · rename_i h
    rw [nI_ltI ha hb2] at h
    exact ⟨a, by omega, rfl⟩
  · exact ⟨b, hb, rfl⟩
theorem jmin_nI {a b : Nat} (ha : a < 2 ^ 31) (hb : b < 2 ^ 31) : jmin (nI b) (nI a) = nI (min b a) := by
  unfold jmin
  split
  · rename_i h
    rw [nI_ltI ha hb] at h
    congr 1; omega
  · rename_i h
    rw [nI_ltI ha hb] at h
    congr 1; omega
theorem z_le0 : nI 0 ≤ 0 := by decide
theorem jmax_sub {u v : Nat} (hu : u < 2 ^ 30) (hv : v < 2 ^ 30) : jmax 0 (nI u - nI v) = nI (u - v) := by
  unfold jmax
  by_cases h : v < u
  · rw [pk_sub (by omega), if_pos]
    exact nI_lt (a := 0) (by omega) (by omega)
  · rw [if_neg]
    · rw [show u - v = 0 by omega]; rfl
    · rw [i_not_lt]
      by_cases h2 : u = v
      · subst h2
        rw [pk_sub (Nat.le_refl _), Nat.sub_self]
        exact z_le0
      · exact i_lt_le (pk_sneg (by omega) (by omega))
theorem div2_nI {a : Nat} (ha : a < 2 ^ 31) : nI a / 2 = nI (a / 2) := pk_div (d := 2) ha (by omega) (by omega)
theorem div10_nI {a : Nat} (ha : a < 2 ^ 31) : nI a / 10 = nI (a / 10) := pk_div (d := 10) ha (by omega) (by omega)
theorem roomV_in (k : Int32) {u v : Nat} (hu : u ≤ 99) (hv : v ≤ 9999) : In (roomV k (nI u) (nI v)) 198 := by
  unfold roomV
  rw [jmax_sub (by omega) (by omega), div2_nI (by omega)]
  split
  · exact ⟨_, by omega, rfl⟩
  · split
    · exact ⟨_, by omega, rfl⟩
    · split
      · exact ⟨_, by omega, nI_add _ _⟩
      · split
        · exact ⟨_, by omega, nI_add _ _⟩
        · split
          · split
            · exact ⟨99, by omega, rfl⟩
            · exact ⟨_, by omega, rfl⟩
          · split
            · exact ⟨_, by omega, nI_add _ 5⟩
            · exact ⟨_, by omega, rfl⟩
theorem feelV_in (k : Int32) {v w : Nat} (hv : v ≤ 9999) (hw : w ≤ 20) : In (feelV k (nI v) (nI w)) 2000 := by
  unfold feelV
  have e2 : 2 * nI w = nI (2 * w) := pk_mul 2 w
  have e3 : 2 * nI w - 3 = nI (2 * w) - nI 3 := by rw [e2]; rfl
  rw [e3, e2, div2_nI (by omega), div10_nI (by omega), jmax_sub (by omega) (by omega)]
  split
  · exact ⟨_, by omega, rfl⟩
  · split
    · exact ⟨_, by omega, rfl⟩
    · split
      · exact ⟨_, by omega, nI_add _ 1⟩
      · split
        · exact ⟨w / 2 + 1 + v / 10, by omega, by rw [← nI_add, ← nI_add]; rfl⟩
        · split
          · split
            · exact ⟨_, by omega, rfl⟩
            · exact ⟨0, by omega, rfl⟩
          · split
            · exact ⟨_, by omega, rfl⟩
            · exact ⟨_, by omega, rfl⟩
theorem askMV_in (k d : Int32) : In (askMV k d) 20 := by
  unfold askMV
  split
  · exact ⟨5, by omega, rfl⟩
  · split
    · exact ⟨20, by omega, rfl⟩
    · split
      · exact ⟨0, by omega, rfl⟩
      · split
        · split
          · exact ⟨3, by omega, rfl⟩
          · exact ⟨0, by omega, rfl⟩
        · split
          · exact ⟨10, by omega, rfl⟩
          · split
            · exact ⟨15, by omega, rfl⟩
            · exact ⟨10, by omega, rfl⟩
theorem fgV_in (k : Int32) : In (fgV k) 6 := by
  unfold fgV
  split
  · exact ⟨0, by omega, rfl⟩
  · split
    · exact ⟨3, by omega, rfl⟩
    · split
      · exact ⟨3, by omega, rfl⟩
      · split
        · exact ⟨6, by omega, rfl⟩
        · exact ⟨1, by omega, rfl⟩
/-- a person's number changes within its bounds -/
def bnd (a : Nat) : Nat := if a = 0 then 6 else if a = 2 then 99 else 9999
theorem Ok_person {n d : Nat} {s : Rw} {p a : Nat} {v : Int32} (h : Ok n d s) (hp : p < n) (ha : a < 5) (hv : In v (bnd a)) : Ok n d (upd s (10 + 5 * p + a) v) := by
  obtain ⟨h1, h2, h3, h4, h5, h6, h7⟩ := h
  refine ⟨h1, ?_, ?_, ?_, fun i hi => ?_, fun q hq => ?_, fun i hi => ?_⟩
  · rw [upd_ne _ _ (by omega)]; exact h2
  · rw [upd_ne _ _ (by omega)]; exact h3
  · rw [upd_ne _ _ (by omega)]; exact h4
  · rw [upd_ne _ _ (by omega)]; exact h5 i hi
  · obtain ⟨g0, g1, g2, g3, g4⟩ := h6 q hq
    by_cases hqp : q = p
    · subst hqp
      have c : a = 0 ∨ a = 1 ∨ a = 2 ∨ a = 3 ∨ a = 4 := by omega
      rcases c with rfl | rfl | rfl | rfl | rfl
      · refine ⟨?_, ?_, ?_, ?_, ?_⟩
        · rw [show 10 + 5 * q = 10 + 5 * q + 0 from rfl, upd_at]; exact hv
        all_goals (rw [upd_ne _ _ (by omega)]; assumption)
      · refine ⟨?_, ?_, ?_, ?_, ?_⟩
        · rw [upd_ne _ _ (by omega)]; assumption
        · rw [upd_at]; exact hv
        all_goals (rw [upd_ne _ _ (by omega)]; assumption)
      · refine ⟨?_, ?_, ?_, ?_, ?_⟩
        · rw [upd_ne _ _ (by omega)]; assumption
        · rw [upd_ne _ _ (by omega)]; assumption
        · rw [upd_at]; exact hv
        all_goals (rw [upd_ne _ _ (by omega)]; assumption)
      · refine ⟨?_, ?_, ?_, ?_, ?_⟩
        · rw [upd_ne _ _ (by omega)]; assumption
        · rw [upd_ne _ _ (by omega)]; assumption
        · rw [upd_ne _ _ (by omega)]; assumption
        · rw [upd_at]; exact hv
        · rw [upd_ne _ _ (by omega)]; assumption
      · refine ⟨?_, ?_, ?_, ?_, ?_⟩
        · rw [upd_ne _ _ (by omega)]; assumption
        · rw [upd_ne _ _ (by omega)]; assumption
        · rw [upd_ne _ _ (by omega)]; assumption
        · rw [upd_ne _ _ (by omega)]; assumption
        · rw [upd_at]; exact hv
    · refine ⟨?_, ?_, ?_, ?_, ?_⟩
      all_goals (rw [upd_ne _ _ (by omega)]; assumption)
  · rw [upd_ne _ _ (by omega)]; exact h7 i hi
theorem Ok_hints {n d : Nat} {s : Rw} {v : Int32} (h : Ok n d s) (hv : In v 99999) : Ok n d (upd s 3 v) := by
  obtain ⟨h1, h2, h3, h4, h5, h6, h7⟩ := h
  refine ⟨h1, ?_, ?_, ?_, fun i hi => ?_, fun q hq => ?_, fun i hi => ?_⟩
  · rw [upd_ne _ _ (by omega)]; exact h2
  · rw [upd_ne _ _ (by omega)]; exact h3
  · rw [upd_at]; exact hv
  · rw [upd_ne _ _ (by omega)]; exact h5 i hi
  · obtain ⟨g0, g1, g2, g3, g4⟩ := h6 q hq
    refine ⟨?_, ?_, ?_, ?_, ?_⟩
    all_goals (rw [upd_ne _ _ (by omega)]; assumption)
  · rw [upd_ne _ _ (by omega)]; exact h7 i hi
theorem Ok_day {n d d' : Nat} {s : Rw} (h : Ok n d s) : Ok n d' (upd s 1 (nI d')) := by
  obtain ⟨h1, h2, h3, h4, h5, h6, h7⟩ := h
  refine ⟨h1, ?_, ?_, ?_, fun i hi => ?_, fun q hq => ?_, fun i hi => ?_⟩
  · rw [upd_ne _ _ (by omega)]; exact h2
  · rw [upd_at]
  · rw [upd_ne _ _ (by omega)]; exact h4
  · rw [upd_ne _ _ (by omega)]; exact h5 i hi
  · obtain ⟨g0, g1, g2, g3, g4⟩ := h6 q hq
    refine ⟨?_, ?_, ?_, ?_, ?_⟩
    all_goals (rw [upd_ne _ _ (by omega)]; assumption)
  · rw [upd_ne _ _ (by omega)]; exact h7 i hi
theorem Ok_list {n d i : Nat} {s : Rw} {v : Int32} (h : Ok n d s) (hi : i < 6) (hv : Sy v) : Ok n d (upd s (4 + i) v) := by
  obtain ⟨h1, h2, h3, h4, h5, h6, h7⟩ := h
  refine ⟨h1, ?_, ?_, ?_, fun j hj => ?_, fun q hq => ?_, fun i hi => ?_⟩
  · rw [upd_ne _ _ (by omega)]; exact h2
  · rw [upd_ne _ _ (by omega)]; exact h3
  · rw [upd_ne _ _ (by omega)]; exact h4
  · by_cases e : j = i
    · subst e; rw [upd_at]; exact hv
    · rw [upd_ne _ _ (by omega)]; exact h5 j hj
  · obtain ⟨g0, g1, g2, g3, g4⟩ := h6 q hq
    refine ⟨?_, ?_, ?_, ?_, ?_⟩
    all_goals (rw [upd_ne _ _ (by omega)]; assumption)
  · rw [upd_ne _ _ (by omega)]; exact h7 i hi
theorem Ok_be {n d : Nat} {s : Rw} {p w ow : Nat} (h : Ok n d s) (hp : p < n) (hw : w ≤ 20) (how : ow ≤ 2000) : Ok n d (beF s p (nI w) (nI ow)) := by
  obtain ⟨-, ⟨a1, b1, e1⟩, -, ⟨a3, b3, e3⟩, -⟩ := h.2.2.2.2.2.1 p hp
  unfold beF
  rw [e1, e3, nI_add, nI_add]
  refine Ok_person (a := 3) (Ok_person (a := 1) h hp (by omega) ?_) hp (by omega) ?_
  · exact In_min (b := 9999) (hi := 9999) (by omega) (by omega) (by omega)
  · exact In_min (b := 9999) (hi := 9999) (by omega) (by omega) (by omega)
theorem askS_in {n d : Nat} {s : Rw} {p : Nat} (h : Ok n d s) (hp : p < n) : ∃ w o : Nat, w ≤ 20 ∧ w ≤ o ∧ o ≤ 9999 ∧ askS s p = nI w ∧ s (10 + 5 * p + 1) = nI o := by
  obtain ⟨-, ⟨a1, b1, e1⟩, -⟩ := h.2.2.2.2.2.1 p hp
  obtain ⟨m, hm, em⟩ := askMV_in (s (10 + 5 * p)) (s 1)
  exact ⟨min m a1, a1, by omega, by omega, b1, by rw [askS, em, e1, jmin_nI (by omega) (by omega)], e1⟩
theorem Ok_an {n d : Nat} {s : Rw} {p : Nat} (h : Ok n d s) (hp : p < n) : Ok n d (anF n s p) := by
  obtain ⟨w, o, hw, hwo, ho, ew, eo⟩ := askS_in h hp
  obtain ⟨-, -, -, -, ⟨a4, b4, e4⟩⟩ := h.2.2.2.2.2.1 p hp
  obtain ⟨ah, bh, eh⟩ := h.2.2.2.1
  unfold anF
  split
  · exact h
  · rename_i hc
    split
    · refine Ok_hints (Ok_person (a := 1) h hp (by omega) ?_) ?_
      · have : 0 < w := by
          rcases Nat.eq_zero_or_pos w with z | z
          · exact absurd (by rw [ew, z]; exact z_le0) hc
          · exact z
        rw [eo]
        exact ⟨o - 1, by show o - 1 ≤ 9999; omega, by rw [← pk_sub (by omega)]; rfl⟩
      · rw [eh, nI_1]
        exact In_min (a := ah + 1) (b := 99999) (by omega) (by omega) (by omega)
    · rename_i j hj
      have hjn := bearS_lt hj
      have h2 : Ok n d (upd (upd s (10 + 5 * p + 1) (s (10 + 5 * p + 1) - askS s p)) (10 + 5 * p + 4) (jmin 9999 (s (10 + 5 * p + 4) + 1))) := by
        refine Ok_person (a := 4) (Ok_person (a := 1) h hp (by omega) ?_) hp (by omega) ?_
        · rw [eo, ew]
          exact ⟨o - w, by show o - w ≤ 9999; omega, pk_sub hwo⟩
        · rw [e4, nI_1]
          exact In_min (a := a4 + 1) (b := 9999) (by omega) (by show 9999 ≤ 9999; omega) (by omega)
      obtain ⟨-, -, -, ⟨a3, b3, e3⟩, -⟩ := h2.2.2.2.2.2.1 j hjn
      obtain ⟨f, hf, ef⟩ := feelV_in (upd (upd s (10 + 5 * p + 1) (s (10 + 5 * p + 1) - askS s p)) (10 + 5 * p + 4) (jmin 9999 (s (10 + 5 * p + 4) + 1)) (10 + 5 * j)) b3 hw
      have e : feelS (upd (upd s (10 + 5 * p + 1) (s (10 + 5 * p + 1) - askS s p)) (10 + 5 * p + 4) (jmin 9999 (s (10 + 5 * p + 4) + 1))) j (askS s p) = nI f := by
        rw [feelS, e3, ew]
        rw [ew] at ef
        exact ef
      rw [e, ew, div2_nI (by omega)]
      rw [ew] at h2
      exact Ok_be h2 hjn hw (by omega)
theorem Ok_fg {n d : Nat} {s : Rw} {p : Nat} (h : Ok n d s) (hp : p < n) : Ok n d (fgF s p) := by
  obtain ⟨-, -, -, ⟨a3, b3, e3⟩, -⟩ := h.2.2.2.2.2.1 p hp
  obtain ⟨f, hf, ef⟩ := fgV_in (s (10 + 5 * p))
  unfold fgF
  refine Ok_person (a := 3) h hp (by omega) ?_
  rw [e3, ef, jmax_sub (by omega) (by omega)]
  exact ⟨_, by show _ ≤ 9999; omega, rfl⟩
theorem Ok_itr {n d : Nat} {g : Nat → Rw → Rw} (hg : ∀ p s, p < n → Ok n d s → Ok n d (g p s)) : ∀ i, i ≤ n → ∀ s, Ok n d s → Ok n d (itr g i s) := by
  intro i
  induction i with
  | zero => intro _ s h; exact h
  | succ i ih => intro hi s h; exact hg i _ (by omega) (ih (by omega) s h)
theorem Ok_st {n d : Nat} {s : Rw} {e : Int32} (h : Ok n d s) (he : Sy e) : Ok n d (stF n s e) := by
  obtain ⟨w, x, hw, hx, rfl⟩ := he
  unfold stF
  rw [Sy_whom hw hx, Sy_weight hw hx, cl_nI (by omega)]
  split
  · exact h
  · rename_i hc
    split
    · exact h
    · have hwn : w < n := by
        rcases Nat.lt_or_ge w n with z | z
        · exact z
        · exact absurd (nI_le z (by omega)) hc
      obtain ⟨-, -, -, ⟨a3, b3, e3⟩, -⟩ := h.2.2.2.2.2.1 w hwn
      obtain ⟨f, hf, ef⟩ := feelV_in (s (10 + 5 * w)) b3 hx
      rw [feelS, e3, ef]
      exact Ok_be h hwn hx hf
theorem Ok_asF {n d : Nat} {m : Int32} {s : Rw} {p : Nat} (h : Ok n d s) (hp : p < n) : Ok n d (asF n m p s) := by
  unfold asF
  split
  · exact Ok_an h hp
  · exact h
theorem Ok_dayF {n d : Nat} {m : Int32} {s : Rw} (hd : d < 2 ^ 30) (h : Ok n d s) : Ok n (d + 1) (dayF n m s) := by
  have hl : d % 6 < 6 := Nat.mod_lt _ (by omega)
  have hs := Ok_itr (n := n) (d := d) (g := fun p s => fgF s p) (fun p s hp h => Ok_fg h hp) n (Nat.le_refl n) _ (Ok_itr (n := n) (d := d) (g := asF n m) (fun p s hp h => Ok_asF h hp) n (Nat.le_refl n) _ (Ok_st (n := n) h (h.2.2.2.2.1 (d % 6) hl)))
  unfold dayF
  simp only [h.2.2.1, jrem6 (show d < 2 ^ 31 by omega), cl_nI (show d % 6 < 2 ^ 31 by omega)]
  rw [hs.2.2.1, nI_1]
  exact Ok_day hs
/-- days by an absent set -/
def goN (n : Nat) (m : Int32) : Nat → Rw → Rw
  | 0, s => s
  | i + 1, s => dayF n m (goN n m i s)
theorem Ok_go {n d : Nat} {m : Int32} {s : Rw} (h : Ok n d s) : ∀ i, d + i < 2 ^ 30 → Ok n (d + i) (goN n m i s) := by
  intro i
  induction i with
  | zero => intro _; exact h
  | succ i ih => intro hi; exact Ok_dayF (d := d + i) (by omega) (ih (by omega))
theorem mdayOk {n d : Nat} (hd : d < 2 ^ 30) (m : Int32) (σ : Sg) (h : Ok n d (σ 50)) : f_X5_dayBut m σ = some (upr σ 50 (dayF n m (σ 50))) := mday h.1 hd m σ h.2.1 h.2.2.1 (h.2.2.2.2.1 (d % 6) (Nat.mod_lt d (by omega)))
theorem dayF_hi {n d : Nat} {m : Int32} {s : Rw} (hd : d < 2 ^ 30) (h : Ok n d s) {k : Nat} (hk : 60 ≤ k) : dayF n m s k = s k := dayF_o h.1 hd m s h.2.2.1 (h.2.2.2.2.1 (d % 6) (Nat.mod_lt d (by omega))) (by omega) (by omega) (Or.inr (by omega))
theorem goN_hi {n d : Nat} {m : Int32} {s : Rw} (h : Ok n d s) : ∀ i, d + i < 2 ^ 30 → ∀ k, 60 ≤ k → goN n m i s k = s k := by
  intro i
  induction i with
  | zero => intro _ k _; rfl
  | succ i ih => intro hi k hk; rw [goN, dayF_hi (d := d + i) (by omega) (Ok_go h i (by omega)) hk, ih (by omega) k hk]
