/-! gossip; whom, how -/
theorem csetN {N d b w x : Nat} (hd : d < 2 ^ 30) {σ : Sg} {s : Rw} (ok : Ok N d s) (cr : CR N b σ s) (hw : w < 8) (hx : x ≤ 20) : f_X0_setNext b (nI w) (nI x) σ = some (up2 σ (b + 1) (d % 6) (nI (100 * w + x))) := by
  have hl : d % 6 < 6 := Nat.mod_lt _ (by omega)
  rw [f_X0_setNext, f_X4_saying, ob0_s, cr.2.1, ok.2.2.1, jrem6 (by omega), chk_nI hl (by omega), cl_nI (by omega), lt_s1, Sy_mk (by omega) hx]
theorem Ok_z {n d : Nat} {s : Rw} {v : Int32} (ok : Ok n d s) : Ok n d (upd s 2 v) := by
  obtain ⟨h1, h2, h3, h4, h5, h6, h7⟩ := ok
  refine ⟨h1, ?_, ?_, ?_, fun i hi => ?_, fun q hq => ?_, fun i hi => ?_⟩
  · rw [upd_ne _ _ (by omega)]; exact h2
  · rw [upd_ne _ _ (by omega)]; exact h3
  · rw [upd_ne _ _ (by omega)]; exact h4
  · rw [upd_ne _ _ (by omega)]; exact h5 i hi
  · obtain ⟨g0, g1, g2, g3, g4⟩ := h6 q hq
    refine ⟨?_, ?_, ?_, ?_, ?_⟩
    all_goals (rw [upd_ne _ _ (by omega)]; assumption)
  · rw [upd_ne _ _ (by omega)]; exact h7 i hi
theorem ush8 (z : Int32) : ∃ t : Nat, t < 2 ^ 24 ∧ jushr z 8 = nI t := by
  have h := pk_ushr z 8 8 (by decide)
  have hz : z.toBitVec.toNat < 2 ^ 32 := z.toBitVec.isLt
  refine ⟨z.toBitVec.toNat / 2 ^ 8, by omega, ?_⟩
  apply Int32.toBitVec_inj.mp
  apply BitVec.eq_of_toNat_eq
  rw [pk_tn (by omega)]
  exact h
def zF (z : Int32) : Int32 := z * 1103515245 + 12345
def gsF (N d : Nat) (s : Rw) : Rw := dayF N 0 (upd (upd s 2 (zF (zF (s 2)))) (4 + d % 6) (100 * jrem (jushr (zF (s 2)) 8) 8 + jrem (jushr (zF (zF (s 2))) 8) 21))
def gsN (N d : Nat) : Nat → Rw → Rw
  | 0, s => s
  | i + 1, s => gsF N (d + i) (gsN N d i s)
theorem draw_sy (z : Int32) : ∃ w x : Nat, w < 8 ∧ x ≤ 20 ∧ jrem (jushr (zF z) 8) 8 = nI w ∧ jrem (jushr (zF (zF z)) 8) 21 = nI x := by
  obtain ⟨t, ht, e⟩ := ush8 (zF z)
  obtain ⟨t', ht', e'⟩ := ush8 (zF (zF z))
  refine ⟨t % 8, t' % 21, by omega, by omega, ?_, ?_⟩
  · rw [e]; exact jrem_nI (k := 8) (by omega) (by omega) (by omega)
  · rw [e']; exact jrem_nI (k := 21) (by omega) (by omega) (by omega)
theorem gs_mid {N d : Nat} {s : Rw} (ok : Ok N d s) : Ok N d (upd (upd s 2 (zF (zF (s 2)))) (4 + d % 6) (100 * jrem (jushr (zF (s 2)) 8) 8 + jrem (jushr (zF (zF (s 2))) 8) 21)) := by
  have hl : d % 6 < 6 := Nat.mod_lt _ (by omega)
  obtain ⟨w, x, hw, hx, e1, e2⟩ := draw_sy (s 2)
  rw [e1, e2, Sy_mk (by omega) hx]
  exact Ok_list (Ok_z ok) hl ⟨w, x, hw, hx, rfl⟩
theorem Ok_gs {N d : Nat} {s : Rw} (hd : d < 2 ^ 30) (ok : Ok N d s) : Ok N (d + 1) (gsF N d s) := Ok_dayF hd (gs_mid ok)
theorem Ok_gsN {N d : Nat} {s : Rw} (ok : Ok N d s) : ∀ i, d + i < 2 ^ 30 → Ok N (d + i) (gsN N d i s) := by
  intro i
  induction i with
  | zero => intro _; exact ok
  | succ i ih => intro hi; exact Ok_gs (d := d + i) (by omega) (ih (by omega))
theorem cgs {N d k : Nat} {σ : Sg} {s : Rw} (ok : Ok N d s) (hdk : d + k ≤ 99999) (hk : k < 900) (cr : CR N 1 σ s) (hz : σ 1 7 = 0) : ∃ σ', f_X4_gossip_L40 (nI k) FU 0 σ = some (sumR (gsN N d k s) 1 N, σ') ∧ CR N 1 σ' (gsN N d k s) ∧ FrC 1 σ σ' := by
  have hN := ok.1
  have key := loop_up (P := fun f i => ∀ τ, CR N 1 τ (gsN N d i s) → FrC 1 σ τ → ∃ σ', f_X4_gossip_L40 (nI k) f (nI i) τ = some (sumR (gsN N d k s) 1 N, σ') ∧ CR N 1 σ' (gsN N d k s) ∧ FrC 1 σ σ') k
    (fun f τ c fr => by
      rw [f_X4_gossip_L40, if_pos (nI_le (Nat.le_refl k) (by omega)), sum1 (Ok_gsN ok k (by omega)) c, ob0_s]
      exact ⟨τ, rfl, c, fr⟩)
    (fun f i hi ih τ c fr => by
      have oki := Ok_gsN ok i (by omega)
      have hl : (d + i) % 6 < 6 := Nat.mod_lt _ (by omega)
      obtain ⟨w, x, hw, hx, e1, e2⟩ := draw_sy (gsN N d i s 2)
      rw [f_X4_gossip_L40, if_neg (nle hi (by omega)), nI_1]
      simp only [f_X0_draw, lt_s1, ob2_s, up2_at]
      rw [c.2.2.1, show gsN N d i s 2 * 1103515245 + 12345 = zF (gsN N d i s 2) from rfl, show zF (gsN N d i s 2) * 1103515245 + 12345 = zF (zF (gsN N d i s 2)) from rfl, e1, e2]
      have c2 : CR N 1 (up2 (up2 τ 1 6 (zF (gsN N d i s 2))) 1 6 (zF (zF (gsN N d i s 2)))) (upd (gsN N d i s) 2 (zF (zF (gsN N d i s 2)))) := by
        have g := CR_f (b := 1) (i := 6) (j := 2) (v := zF (zF (gsN N d i s 2))) (CR_f (b := 1) (i := 6) (j := 2) (v := zF (gsN N d i s 2)) c (by omega)) (by omega)
        have e : upd (upd (gsN N d i s) 2 (zF (gsN N d i s 2))) 2 (zF (zF (gsN N d i s 2))) = upd (gsN N d i s) 2 (zF (zF (gsN N d i s 2))) := by
          funext k
          by_cases h : k = 2 <;> simp [upd, h]
        rw [e] at g
        exact g
      have ok2 : Ok N (d + i) (upd (gsN N d i s) 2 (zF (zF (gsN N d i s 2)))) := Ok_z oki
      rw [csetN (d := d + i) (by omega) ok2 c2 hw hx, ob1_s]
      have c3 := CR_l (b := 1) (v := nI (100 * w + x)) c2 hl
      have ok3 := Ok_list (v := nI (100 * w + x)) ok2 hl ⟨w, x, hw, hx, rfl⟩
      have fr3 : FrC 1 σ (up2 (up2 (up2 τ 1 6 (zF (gsN N d i s 2))) 1 6 (zF (zF (gsN N d i s 2)))) (1 + 1) ((d + i) % 6) (nI (100 * w + x))) := fr.tr (FrC.tr (FrC.tr (FrC.up (by omega) (by omega) (by omega)) (FrC.up (by omega) (by omega) (by omega))) (FrC.up (by omega) (by omega) (by omega)))
      obtain ⟨σ', e, c', f'⟩ := cday (d := d + i) (by omega) 0 ok3 c3 (fr3.2.trans hz)
      rw [e, ob1_s]
      refine ih σ' ?_ (fr3.tr f')
      rw [gsN, gsF, e1, e2, Sy_mk (by omega) hx]
      exact c')
  exact key FU 0 (Nat.zero_le k) (by rw [FU_eq]; omega) σ cr (FrC.rf 1 σ)
theorem mgs {N d k : Nat} {σ : Sg} (ok : Ok N d (σ 50)) (hdk : d + k ≤ 99999) (hk : k < 900) : f_X5_gossip_L41 (nI k) FU 0 σ = some (sumR (gsN N d k (σ 50)) 1 N, upr σ 50 (gsN N d k (σ 50))) := by
  have hN := ok.1
  have key := loop_up (P := fun f i => f_X5_gossip_L41 (nI k) f (nI i) (upr σ 50 (gsN N d i (σ 50))) = some (sumR (gsN N d k (σ 50)) 1 N, upr σ 50 (gsN N d k (σ 50)))) k
    (fun f => by
      rw [f_X5_gossip_L41, if_pos (nI_le (Nat.le_refl k) (by omega)), msum1 hN (by rw [upr_at]; exact (Ok_gsN ok k (by omega)).2.1), ob0_s, upr_at])
    (fun f i hi ih => by
      have oki := Ok_gsN ok i (by omega)
      have hl : (d + i) % 6 < 6 := Nat.mod_lt _ (by omega)
      rw [f_X5_gossip_L41, if_neg (nle hi (by omega)), nI_1]
      simp only [f_X5_draw, f_X5_nextPlace, lt_s1, ob2_s, ob0_s, up2_upr, upr_at, upr_upr, upd_at]
      rw [show gsN N d i (σ 50) 2 * 1103515245 + 12345 = zF (gsN N d i (σ 50) 2) from rfl, show zF (gsN N d i (σ 50) 2) * 1103515245 + 12345 = zF (zF (gsN N d i (σ 50) 2)) from rfl]
      have eu : upd (upd (gsN N d i (σ 50)) 2 (zF (gsN N d i (σ 50) 2))) 2 (zF (zF (gsN N d i (σ 50) 2))) = upd (gsN N d i (σ 50)) 2 (zF (zF (gsN N d i (σ 50) 2))) := by
        funext k
        by_cases h : k = 2 <;> simp [upd, h]
      rw [eu, upd_ne _ _ (show 1 ≠ 2 by omega), oki.2.2.1, jrem6 (by omega), add4, chk_nI (by omega) (by omega), cl_nI (by omega)]
      have okm := gs_mid oki
      rw [mdayOk (n := N) (d := d + i) (by omega) 0 _ (by rw [upr_at]; exact okm), ob1_s, upr_at, upr_upr]
      exact ih)
  have := key FU 0 (Nat.zero_le k) (by rw [FU_eq]; omega)
  rw [show gsN N d 0 (σ 50) = σ 50 from rfl, upr_self] at this
  exact this
theorem op_gossip {n : Nat} (hn : n < 512) {σ : Sg} (h : Inv n σ) (x : Int32) : Step n σ (f_X4_gossip x) (f_X5_gossip x) := by
  obtain ⟨⟨N, d, ok, hd, cr⟩, hz⟩ := id h.1
  have hN := ok.1
  have c1 : ∀ τ, f_X4_within x 1 20 τ = some (if 1 ≤ x.toInt ∧ x.toInt ≤ 20 then 1 else 0) := fun τ => wC (by decide) (by decide) τ
  have m1 : ∀ τ, f_X5_isIn x.toInt64 1 20 τ = some (if 1 ≤ x.toInt ∧ x.toInt ≤ 20 then 1 else 0) := fun τ => wM (by decide) (by decide) τ
  by_cases h1 : 1 ≤ x.toInt ∧ x.toInt ≤ 20
  · obtain ⟨k, hk, rfl⟩ := nn_of (x := x) (b := 20) ⟨by omega, h1.2⟩
    have okk := Ok_gsN ok k (by omega)
    obtain ⟨σ1, e1, cr1, fr⟩ := cgs ok (k := k) (by omega) (by omega) cr hz
    have e50 : σ1 50 = σ 50 := fr.1 50 (by omega)
    refine ⟨sumR (gsN N d k (σ 50)) 1 N, σ1, upr σ1 50 (gsN N d k (σ 50)), ?_, ?_, ?_⟩
    · simp only [f_X4_gossip, c1, if_pos h1, ob0_s, if_neg one_ne0, cr.2.1, ok.2.2.1, nI_add, if_pos (le99999 (show d + k ≤ 99999 by omega)), e1]
    · have g := mgs (N := N) (d := d) (k := k) (σ := σ1) (by rw [e50]; exact ok) (by omega) (by omega)
      rw [e50] at g
      simp only [f_X5_gossip, m1, if_pos h1, ob0_s, if_neg one_ne0, e50, ok.2.2.1, nI_add, if_pos (le99999 (show d + k ≤ 99999 by omega)), g]
    · refine h.main (fun k g1 g2 g3 g4 g5 g6 => by rw [upr_ne _ _ g2]; exact fr.1 k (by omega)) ⟨by rw [upr_ne _ _ (by omega), fr.1 49 (by omega)], by rw [upr_ne _ _ (by omega), fr.1 49 (by omega)]⟩ ⟨⟨N, d + k, ?_, by omega, ?_⟩, ?_⟩
      · rw [upr_at]; exact okk
      · rw [upr_at]; exact cr1.same (fun k g1 g2 => upr_ne _ _ (by omega)) hN
      · rw [upr_ne _ _ (by omega), fr.2]; exact hz
  · refine Step.bey h ?_ ?_
    · simp only [f_X4_gossip, c1, if_neg h1, ob0_s, if_pos, cfd0, ob2_s]
    · simp only [f_X5_gossip, m1, if_neg h1, ob0_s, if_pos, mfd0, ob2_s]
/-! the least of several -/
def amN (v : Nat → Int32) : Nat → Option (Nat × Int32)
  | 0 => none
  | i + 1 => match amN v i with
    | none => some (i, v i)
    | some (b, m) => if m ≤ v i then some (b, m) else some (i, v i)
theorem amN_lt (v : Nat → Int32) : ∀ i b m, amN v i = some (b, m) → b < i := by
  intro i
  induction i with
  | zero => intro b m h; cases h
  | succ i ih =>
    intro b m h
    rw [amN] at h
    split at h
    · cases h; omega
    · rename_i b' m' hb
      split at h
      · cases h; exact Nat.lt_succ_of_lt (ih _ _ hb)
      · cases h; omega
theorem amN_none (v : Nat → Int32) : ∀ i, amN v i = none → i = 0 := by
  intro i h
  cases i with
  | zero => rfl
  | succ i =>
    rw [amN] at h
    split at h
    · cases h
    · split at h <;> cases h
theorem sumR_in {N d a : Nat} {s : Rw} (ok : Ok N d s) (ha : a = 1 ∨ a = 3 ∨ a = 4) : ∀ i, i ≤ N → In (sumR s a i) (9999 * i) := by
  intro i
  induction i with
  | zero => intro _; exact ⟨0, by omega, rfl⟩
  | succ i ih =>
    intro hi
    obtain ⟨t, ht, e⟩ := ih (by omega)
    obtain ⟨-, ⟨a1, b1, e1⟩, -, ⟨a3, b3, e3⟩, ⟨a4, b4, e4⟩⟩ := ok.2.2.2.2.2.1 i (by omega)
    rw [sumR, e]
    rcases ha with rfl | rfl | rfl
    · exact ⟨t + a1, by omega, by rw [e1, nI_add]⟩
    · exact ⟨t + a3, by omega, by rw [e3, nI_add]⟩
    · exact ⟨t + a4, by omega, by rw [e4, nI_add]⟩
def encA (o : Option (Nat × Int32)) : Int32 := match o with
  | none => -1
  | some (b, _) => nI b
def valA (d0 : Int32) (o : Option (Nat × Int32)) : Int32 := match o with
  | none => d0
  | some (_, m) => m
/-- what all are OWED together behind k days if the next saying were of i -/
def whV (N d k x : Nat) (s : Rw) (i : Nat) : Int32 := sumR (goN N 0 k (upd s (4 + d % 6) (nI (100 * i + x)))) 1 N
theorem cwhom {N d k : Nat} {σ : Sg} {s : Rw} (ok : Ok N d s) (hdk : d + k ≤ 99999) (hk : k < 900) (cr : CR N 1 σ s) (hz : σ 1 7 = 0) {w x : Nat} (hw : w < 8) (hx : x ≤ 20) (es : s (4 + d % 6) = nI (100 * w + x)) : ∃ τ, Trl σ τ ∧ f_X4_whom_L25 (nI k) FU (-1) 79993 0 σ = (match amN (whV N d k x s) N with | none => some (-1000004, fdC τ 3) | some (b, _) => some (nI b, τ)) := by
  have hN := ok.1
  have hl : d % 6 < 6 := Nat.mod_lt _ (by omega)
  have key := loop_up (P := fun f i => ∀ τ, Trl σ τ → ∃ τ', Trl σ τ' ∧ f_X4_whom_L25 (nI k) f (encA (amN (whV N d k x s) i)) (valA 79993 (amN (whV N d k x s) i)) (nI i) τ = (match amN (whV N d k x s) N with | none => some (-1000004, fdC τ' 3) | some (b, _) => some (nI b, τ'))) N
    (fun f τ t => by
      have c := cr.trl hN t
      refine ⟨τ, t, ?_⟩
      rw [f_X4_whom_L25, c.1, ok.2.1, if_pos (nI_le (Nat.le_refl N) (by omega))]
      cases hr : amN (whV N d k x s) N with
      | none => rw [if_pos (show encA none = -1 from rfl), cfd3, ob2_s]
      | some q =>
        obtain ⟨b, m⟩ := q
        have := amN_lt _ _ _ _ hr
        rw [if_neg (show ¬ encA (some (b, m)) = -1 from nI_ne_m1 (by omega))]
        rfl)
    (fun f i hi ih τ t => by
      have c := cr.trl hN t
      obtain ⟨τ0, e0, cr0, z0, t0⟩ := tri ok c ((congrFun (t 1 (by omega)) 7).trans hz)
      have t00 := t.tr t0
      have c0 := cr.trl hN t00
      obtain ⟨w', x', hw', hx', es', eA, eB⟩ := cnextW (d := d) (by omega) ok c0
      have hwx : w' = w ∧ x' = x := by
        rw [es] at es'
        have := (nI_eq (by omega) (by omega)).mp es'
        omega
      obtain ⟨rfl, rfl⟩ := hwx
      rw [f_X4_whom_L25, c.1, ok.2.1, if_neg (nle hi (by omega)), e0, ob1_s, eB, ob0_s, csetN (d := d) (by omega) ok cr0 (show i < 8 by omega) hx, ob1_s, nI_1]
      have ok1 := Ok_list (v := nI (100 * i + x')) ok hl ⟨i, x', by omega, hx, rfl⟩
      have cr1 := CR_l (b := 25) (v := nI (100 * i + x')) cr0 hl
      obtain ⟨τ2, e2, cr2, fr2⟩ := cgo 0 ok1 cr1 (by rw [up2_ne _ _ (by omega)]; exact z0) k hdk (by omega)
      have ok2 := Ok_go (m := 0) ok1 k (by omega)
      rw [e2, ob1_s, sum1 ok2 cr2, ob0_s]
      have t2 : Trl σ τ2 := t00.tr (Trl.tr (Trl.of (FrC.up (by omega) (by omega) (by omega))) (Trl.of fr2))
      obtain ⟨q, hq, eq⟩ := sumR_in ok2 (Or.inl rfl) N (Nat.le_refl N)
      have ev : whV N d k x' s i = nI q := eq
      rw [show sumR (goN N 0 k (upd s (4 + d % 6) (nI (100 * i + x')))) 1 N = whV N d k x' s i from rfl]
      have step := ih τ2 t2
      rw [amN] at step
      cases hr : amN (whV N d k x' s) i with
      | none =>
        rw [hr] at step
        rw [if_neg (show ¬ valA 79993 none ≤ whV N d k x' s i from by rw [ev]; exact nle (n := 79993) (by omega) (by omega))]
        exact step
      | some qq =>
        obtain ⟨b, m⟩ := qq
        rw [hr] at step
        dsimp only at step
        by_cases hc : m ≤ whV N d k x' s i
        · rw [if_pos hc] at step
          rw [if_pos (show valA 79993 (some (b, m)) ≤ whV N d k x' s i from hc)]
          exact step
        · rw [if_neg hc] at step
          rw [if_neg (show ¬ valA 79993 (some (b, m)) ≤ whV N d k x' s i from hc)]
          exact step)
  exact key FU 0 (Nat.zero_le N) (by rw [FU_eq]; omega) σ (Trl.rf σ)
theorem mwhom {N d k : Nat} {σ : Sg} (ok : Ok N d (σ 50)) (hdk : d + k ≤ 99999) (hk : k < 900) {w x : Nat} (hw : w < 8) (hx : x ≤ 20) (es : σ 50 (4 + d % 6) = nI (100 * w + x)) : f_X5_whom_L43 (nI k) (nI (4 + d % 6)) FU (-1) 0 0 (asd σ) = (match amN (whV N d k x (σ 50)) N with | none => some (-1000004, fdM (asd σ) 3) | some (b, _) => some (nI b, asd σ)) := by
  have hN := ok.1
  have hl : d % 6 < 6 := Nat.mod_lt _ (by omega)
  have key := loop_up (P := fun f i => f_X5_whom_L43 (nI k) (nI (4 + d % 6)) f (encA (amN (whV N d k x (σ 50)) i)) (valA 0 (amN (whV N d k x (σ 50)) i)) (nI i) (asd σ) = (match amN (whV N d k x (σ 50)) N with | none => some (-1000004, fdM (asd σ) 3) | some (b, _) => some (nI b, asd σ))) N
    (fun f => by
      rw [f_X5_whom_L43, asd_50, ok.2.1, if_pos (nI_le (Nat.le_refl N) (by omega))]
      cases hr : amN (whV N d k x (σ 50)) N with
      | none =>
        have := orN none (fun j hj => by cases hj) (asd σ)
        rw [show encA none = enc none from rfl, this, ob2_s]
      | some q =>
        obtain ⟨b, m⟩ := q
        have hb := amN_lt _ _ _ _ hr
        have := orN (some b) (fun j hj => by cases hj; omega) (asd σ)
        rw [show encA (some (b, m)) = enc (some b) from rfl, this, ob2_s])
    (fun f i hi ih => by
      have ok1 := Ok_list (v := nI (100 * i + x)) ok hl ⟨i, x, by omega, hx, rfl⟩
      have ok2 := Ok_go (m := 0) ok1 k (by omega)
      rw [f_X5_whom_L43, asd_50, ok.2.1, if_neg (nle hi (by omega)), chk_nI (by omega) (by omega), cl_nI (by omega), es, Sy_weight hw hx, Sy_mk (by omega) hx, lt_s1, up2_upr, asd_50, mgo (n := N) (d := d) (by rw [upr_at]; exact ok1) k (by omega) (by omega), ob1_s, upr_at, upr_upr, msum1 hN (by rw [upr_at]; exact ok2.2.1), ob0_s, upr_at, mback (fun j hj => by rw [goN_hi ok1 k (by omega) j hj, upd_ne _ _ (by omega)]), ob1_s, nI_1]
      rw [show sumR (goN N 0 k (upd (σ 50) (4 + d % 6) (nI (100 * i + x)))) 1 N = whV N d k x (σ 50) i from rfl]
      rw [amN] at ih
      cases hr : amN (whV N d k x (σ 50)) i with
      | none =>
        rw [hr] at ih
        rw [if_pos (show encA none < 0 from neg1_lt0)]
        exact ih
      | some qq =>
        obtain ⟨b, m⟩ := qq
        have hb := amN_lt _ _ _ _ hr
        rw [hr] at ih
        rw [if_neg (show ¬ encA (some (b, m)) < 0 from nI_nn (by omega))]
        dsimp only at ih
        by_cases hc : m ≤ whV N d k x (σ 50) i
        · rw [if_pos hc] at ih
          rw [if_pos (show valA 0 (some (b, m)) ≤ whV N d k x (σ 50) i from hc)]
          exact ih
        · rw [if_neg hc] at ih
          rw [if_neg (show ¬ valA 0 (some (b, m)) ≤ whV N d k x (σ 50) i from hc)]
          exact ih)
  exact key FU 0 (Nat.zero_le N) (by rw [FU_eq]; omega)
theorem op_whom {n : Nat} (hn : n < 512) {σ : Sg} (h : Inv n σ) (x : Int32) : Step n σ (f_X4_whom x) (f_X5_whom x) := by
  obtain ⟨⟨N, d, ok, hd, cr⟩, hz⟩ := id h.1
  have hl : d % 6 < 6 := Nat.mod_lt _ (by omega)
  have c1 : ∀ τ, f_X4_within x 0 40 τ = some (if 0 ≤ x.toInt ∧ x.toInt ≤ 40 then 1 else 0) := fun τ => wC (by decide) (by decide) τ
  have m1 : ∀ τ, f_X5_isIn x.toInt64 0 40 τ = some (if 0 ≤ x.toInt ∧ x.toInt ≤ 40 then 1 else 0) := fun τ => wM (by decide) (by decide) τ
  by_cases h1 : 0 ≤ x.toInt ∧ x.toInt ≤ 40
  · obtain ⟨k, hk, rfl⟩ := nn_of (b := 40) h1
    obtain ⟨w, y, hw, hy, es⟩ := ok.2.2.2.2.1 (d % 6) hl
    obtain ⟨τ, t, e⟩ := cwhom ok (k := k) (by omega) (by omega) cr hz hw hy es
    have e50 : τ 50 = σ 50 := t 50 (by omega)
    have eC : f_X4_whom (nI k) σ = f_X4_whom_L25 (nI k) FU (-1) 79993 0 σ := by simp only [f_X4_whom, c1, if_pos h1, ob0_s, if_neg one_ne0]
    have eM : ∀ ρ, ρ 50 = σ 50 → f_X5_whom (nI k) ρ = f_X5_whom_L43 (nI k) (nI (4 + d % 6)) FU (-1) 0 0 (asd ρ) := fun ρ e => by
      simp only [f_X5_whom, m1, if_pos h1, ob0_s, if_neg one_ne0, f_X5_nextPlace, e, ok.2.2.1, jrem6 (show d < 2 ^ 31 by omega), add4, masd, ob1_s]
    cases hr : amN (whV N d k y (σ 50)) N with
    | none =>
      rw [hr] at e
      have e50' : (fdC τ 3) 50 = σ 50 := (fdC_o (by omega)).trans e50
      have g := mwhom (N := N) (d := d) (k := k) (σ := fdC τ 3) (by rw [e50']; exact ok) (by omega) (by omega) hw hy (by rw [e50']; exact es)
      rw [e50', hr] at g
      exact Step.find h (by omega) (eC.trans e) t ((eM _ e50').trans g) (ScM_asd _)
    | some q =>
      obtain ⟨b, m⟩ := q
      rw [hr] at e
      have g := mwhom (N := N) (d := d) (k := k) (σ := τ) (by rw [e50]; exact ok) (by omega) (by omega) hw hy (by rw [e50]; exact es)
      rw [e50, hr] at g
      exact Step.val h (eC.trans e) t ((eM _ e50).trans g) (ScM_asd _)
  · refine Step.bey h ?_ ?_
    · simp only [f_X4_whom, c1, if_neg h1, ob0_s, if_pos, cfd0, ob2_s]
    · simp only [f_X5_whom, m1, if_neg h1, ob0_s, if_pos, mfd0, ob2_s]
