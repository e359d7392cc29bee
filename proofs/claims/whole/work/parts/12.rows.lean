/-! THE PURE PART. Rows of the reference (60 places) as functions; what a day does to one. -/
theorem chk_nI {α : Type} {k n : Nat} {o : Option α} (h : k < n) (hn : n < 2 ^ 31) : chk (nI k) n o = o := by
  unfold chk
  rw [nI_toInt (by omega), if_pos (by omega)]
theorem cl_nI {k : Nat} (h : k < 2 ^ 31) : (nI k).toNatClampNeg = k := nI_clamp h
theorem ob0_s {α β : Type} (x : β) (f : β → Option α) : ob0 (some x) f = f x := rfl
theorem ob1_s {α : Type} (x : Sg) (f : Sg → Option α) : ob1 (some x) f = f x := rfl
theorem ob2_s {α β : Type} (x : β) (s : Sg) (f : β → Sg → Option α) : ob2 (some (x, s)) f = f x s := rfl
theorem lt_s1 {α : Type} (s : Sg) (f : Sg → Option α) : lt s f = f s := rfl
theorem up2_upr (σ : Sg) (k i : Nat) (v : Int32) : up2 σ k i v = upr σ k (upd (σ k) i v) := rfl
theorem upr_upr (σ : Sg) (k : Nat) (r r' : Nat → Int32) : upr (upr σ k r) k r' = upr σ k r' := by
  funext a
  by_cases h : a = k <;> simp [upr, h]
theorem upr_self (σ : Sg) (k : Nat) : upr σ k (σ k) = σ := by
  funext a
  by_cases h : a = k <;> simp [upr, h]
theorem upr_at (σ : Sg) (k : Nat) (r : Nat → Int32) : upr σ k r k = r := by simp [upr]
theorem upr_ne (σ : Sg) {k a : Nat} (r : Nat → Int32) (h : a ≠ k) : upr σ k r a = σ a := by simp [upr, h]
theorem upd_at (f : Nat → Int32) (k : Nat) (x : Int32) : upd f k x k = x := by simp [upd]
theorem upd_ne (f : Nat → Int32) {k a : Nat} (x : Int32) (h : a ≠ k) : upd f k x a = f a := by simp [upd, h]
theorem i_le_antisymm {a b : Int32} (h : a ≤ b) (h2 : b ≤ a) : a = b := by
  rw [Int32.le_iff_toInt_le] at h h2
  exact Int32.toInt_inj.mp (by omega)
theorem i_not_lt {a b : Int32} : ¬ a < b ↔ b ≤ a := by
  rw [Int32.lt_iff_toInt_lt, Int32.le_iff_toInt_le]; omega
theorem i_not_le {a b : Int32} : ¬ a ≤ b ↔ b < a := by
  rw [Int32.lt_iff_toInt_lt, Int32.le_iff_toInt_le]; omega
theorem i_lt_le {a b : Int32} (h : a < b) : a ≤ b := by
  rw [Int32.lt_iff_toInt_lt] at h; rw [Int32.le_iff_toInt_le]; omega
theorem gre_eq (a b : Int32) (σ : Sg) : f_X5_greatest a b σ = some (jmax a b) := by
  unfold f_X5_greatest jmax
  by_cases h : a ≤ b
  · rw [if_pos h]
    by_cases h2 : a < b
    · rw [if_pos h2]
    · rw [if_neg h2, i_le_antisymm h (i_not_lt.mp h2)]
  · rw [if_neg h, if_neg (fun z => h (i_lt_le z))]
theorem lea_eq (a b : Int32) (σ : Sg) : f_X5_least a b σ = some (jmin a b) := by
  unfold f_X5_least jmin
  by_cases h : b ≤ a
  · rw [if_pos h]
    by_cases h2 : b < a
    · rw [if_pos h2]
    · rw [if_neg h2, i_le_antisymm h (i_not_lt.mp h2)]
  · rw [if_neg h, if_neg (fun z => h (i_lt_le z))]
theorem ix5 (p a : Nat) : (10 + 5 * nI p) + nI a = nI (10 + 5 * p + a) := by
  show (nI 10 + nI 5 * nI p) + nI a = _
  rw [pk_mul, nI_add, nI_add]
theorem its_eq {p a : Nat} (hp : p < 8) (ha : a < 5) (σ : Sg) : f_X5_its (nI p) (nI a) σ = some (σ 50 (10 + 5 * p + a)) := by
  unfold f_X5_its
  rw [ix5, chk_nI (by omega) (by omega), cl_nI (by omega)]
theorem its0 {p : Nat} (hp : p < 8) (σ : Sg) : f_X5_its (nI p) 0 σ = some (σ 50 (10 + 5 * p)) := its_eq (a := 0) hp (by omega) σ
theorem its1 {p : Nat} (hp : p < 8) (σ : Sg) : f_X5_its (nI p) 1 σ = some (σ 50 (10 + 5 * p + 1)) := its_eq (a := 1) hp (by omega) σ
theorem its2 {p : Nat} (hp : p < 8) (σ : Sg) : f_X5_its (nI p) 2 σ = some (σ 50 (10 + 5 * p + 2)) := its_eq (a := 2) hp (by omega) σ
theorem its3 {p : Nat} (hp : p < 8) (σ : Sg) : f_X5_its (nI p) 3 σ = some (σ 50 (10 + 5 * p + 3)) := its_eq (a := 3) hp (by omega) σ
theorem its4 {p : Nat} (hp : p < 8) (σ : Sg) : f_X5_its (nI p) 4 σ = some (σ 50 (10 + 5 * p + 4)) := its_eq (a := 4) hp (by omega) σ
theorem at_eq (p a : Nat) (σ : Sg) : f_X5_at (nI p) (nI a) σ = some (nI (10 + 5 * p + a)) := by
  unfold f_X5_at
  rw [ix5]
theorem atv0 (p : Nat) (σ : Sg) : f_X5_at (nI p) 0 σ = some (nI (10 + 5 * p)) := at_eq p 0 σ
theorem atv1 (p : Nat) (σ : Sg) : f_X5_at (nI p) 1 σ = some (nI (10 + 5 * p + 1)) := at_eq p 1 σ
theorem atv2 (p : Nat) (σ : Sg) : f_X5_at (nI p) 2 σ = some (nI (10 + 5 * p + 2)) := at_eq p 2 σ
theorem atv3 (p : Nat) (σ : Sg) : f_X5_at (nI p) 3 σ = some (nI (10 + 5 * p + 3)) := at_eq p 3 σ
theorem atv4 (p : Nat) (σ : Sg) : f_X5_at (nI p) 4 σ = some (nI (10 + 5 * p + 4)) := at_eq p 4 σ
/-! what one feels, asks, has room for, forgets -/
def feelV (k bo w : Int32) : Int32 := if k = 1 then 2 * w else if k = 2 then w / 2 else if k = 3 then w / 2 + 1 else if k = 4 then w / 2 + 1 + bo / 10 else if k = 5 then (if 5 ≤ w then w else 0) else if k = 6 then jmax 0 (2 * w - 3) else w
def askMV (k d : Int32) : Int32 := if k = 1 then 5 else if k = 2 then 20 else if k = 3 then 0 else if k = 4 then (if jrem d 7 = 6 then 3 else 0) else if k = 5 then 10 else if k = 6 then 15 else 10
def roomV (k bu bo : Int32) : Int32 := if k = 1 then jmax 0 (bu - bo) / 2 else if k = 2 then jmax 0 (bu - bo) else if k = 3 then jmax 0 (bu - bo) + bu else if k = 4 then jmax 0 (bu - bo) + bu else if k = 5 then (if bo = 0 then 99 else jmax 0 (bu - bo)) else if k = 6 then jmax 0 (bu - bo) / 2 + 5 else jmax 0 (bu - bo)
def fgV (k : Int32) : Int32 := if k = 1 then 0 else if k = 2 then 3 else if k = 3 then 3 else if k = 4 then 6 else 1
theorem cfeel (q : Nat) (w : Int32) (σ : Sg) : f_X1_feeling q w σ = some (feelV (σ q 0) (σ q 3) w) := by
  simp only [f_X1_feeling, feelV, apply_ite some]
theorem cask (q : Nat) (d : Int32) (σ : Sg) : f_X1_asking q d σ = some (jmin (askMV (σ q 0) d) (σ q 1)) := by
  have h : f_X1_mostAsked q d σ = some (askMV (σ q 0) d) := by simp only [f_X1_mostAsked, askMV, apply_ite some]
  rw [f_X1_asking, h, ob0_s]
theorem croom (q : Nat) (σ : Sg) : f_X1_room q σ = some (roomV (σ q 0) (σ q 2) (σ q 3)) := by
  simp only [f_X1_room, roomV, apply_ite some]
theorem cfg (q : Nat) (σ : Sg) : f_X1_forgetting q σ = some (fgV (σ q 0)) := by
  simp only [f_X1_forgetting, fgV, apply_ite some]
abbrev Rw : Type := Nat → Int32
def feelS (s : Rw) (p : Nat) (w : Int32) : Int32 := feelV (s (10 + 5 * p)) (s (10 + 5 * p + 3)) w
def askS (s : Rw) (p : Nat) : Int32 := jmin (askMV (s (10 + 5 * p)) (s 1)) (s (10 + 5 * p + 1))
def roomS (s : Rw) (p : Nat) : Int32 := roomV (s (10 + 5 * p)) (s (10 + 5 * p + 2)) (s (10 + 5 * p + 3))
theorem mfeel {p : Nat} (hp : p < 8) (w : Int32) (σ : Sg) : f_X5_feelsOf (nI p) w σ = some (feelS (σ 50) p w) := by
  simp only [f_X5_feelsOf, feelS, feelV, its0 hp, its3 hp, ob0_s, gre_eq, apply_ite some]
theorem mask {p : Nat} (hp : p < 8) (σ : Sg) : f_X5_asks (nI p) σ = some (askS (σ 50) p) := by
  have h : f_X5_asksMost (nI p) σ = some (askMV (σ 50 (10 + 5 * p)) (σ 50 1)) := by simp only [f_X5_asksMost, askMV, its0 hp, ob0_s, apply_ite some]
  simp only [f_X5_asks, h, its1 hp, ob0_s, lea_eq, askS]
theorem mroom {p : Nat} (hp : p < 8) (σ : Sg) : f_X5_room (nI p) σ = some (roomS (σ 50) p) := by
  simp only [f_X5_room, roomS, roomV, its0 hp, its2 hp, its3 hp, ob0_s, gre_eq, apply_ite some]
theorem mfg {p : Nat} (hp : p < 8) (σ : Sg) : f_X5_forgets (nI p) σ = some (fgV (σ 50 (10 + 5 * p))) := by
  simp only [f_X5_forgets, fgV, its0 hp, ob0_s, apply_ite some]
/-! counting loops -/
theorem loop_up {P : Nat → Nat → Prop} (N : Nat) (base : ∀ f, P (f + 1) N) (step : ∀ f i, i < N → P f (i + 1) → P (f + 1) i) : ∀ f i, i ≤ N → N - i < f → P f i := by
  intro f
  induction f with
  | zero => intro i _ h; omega
  | succ f ih =>
    intro i h1 h2
    by_cases h : i = N
    · subst h; exact base f
    · exact step f i (by omega) (ih (i + 1) (by omega) (by omega))
theorem FU_eq : FU = 1000 := rfl
theorem nle {i n : Nat} (h : i < n) (hn : n < 2 ^ 31) : ¬ nI n ≤ nI i := nI_ge h hn
theorem neg1_lt0 : (-1 : Int32) < 0 := by decide
theorem nI_nn {n : Nat} (h : n < 2 ^ 31) : ¬ nI n < 0 := nI_pos h
theorem nI_ge0 {n : Nat} (h : n < 2 ^ 31) : (0 : Int32) ≤ nI n := nI_pos' h
theorem nI_ne_m1 {n : Nat} (h : n < 2 ^ 31) : nI n ≠ -1 := fun e => nI_nn h (by rw [e]; decide)
/-! who has most room but one -/
def enc (o : Option Nat) : Int32 := match o with
  | none => -1
  | some j => nI j
def rbN (s : Rw) (x : Int32) : Nat → Option Nat
  | 0 => none
  | i + 1 => if nI i = x then rbN s x i else match rbN s x i with
    | none => some i
    | some j => if roomS s i ≤ roomS s j then some j else some i
theorem rbN_lt (s : Rw) (x : Int32) : ∀ i j, rbN s x i = some j → j < i := by
  intro i
  induction i with
  | zero => intro j h; cases h
  | succ i ih =>
    intro j h
    rw [rbN] at h
    split at h
    · exact Nat.lt_succ_of_lt (ih j h)
    · split at h
      · cases h; omega
      · rename_i j' hj'
        split at h
        · cases h; exact Nat.lt_succ_of_lt (ih _ hj')
        · cases h; omega
theorem mrb {n : Nat} (hn : n ≤ 8) (x : Int32) (σ : Sg) (h0 : σ 50 0 = nI n) : f_X5_roomiestBut x σ = some (enc (rbN (σ 50) x n)) := by
  have key := loop_up (P := fun f i => f_X5_roomiestBut_L4 x f (enc (rbN (σ 50) x i)) (nI i) σ = some (enc (rbN (σ 50) x n))) n
    (fun f => by rw [f_X5_roomiestBut_L4, h0, if_pos (nI_le (Nat.le_refl n) (by omega))])
    (fun f i hi ih => by
      rw [f_X5_roomiestBut_L4, h0, if_neg (nle hi (by omega)), nI_1]
      rw [rbN] at ih
      by_cases hx : nI i = x
      · rw [if_pos hx] at ih ⊢
        exact ih
      · rw [if_neg hx] at ih ⊢
        cases hr : rbN (σ 50) x i with
        | none =>
          rw [hr] at ih
          rw [show enc (none : Option Nat) = -1 from rfl, if_pos neg1_lt0]
          exact ih
        | some j =>
          have hj := rbN_lt _ _ _ _ hr
          rw [hr] at ih
          rw [show enc (some j) = nI j from rfl, if_neg (nI_nn (by omega)), mroom (by omega), ob0_s, mroom (by omega), ob0_s]
          dsimp only at ih
          split
          · rename_i hc; rw [if_pos hc] at ih; exact ih
          · rename_i hc; rw [if_neg hc] at ih; exact ih)
  exact key FU 0 (Nat.zero_le n) (by rw [FU_eq]; omega)
def bearS (n : Nat) (s : Rw) (p : Nat) (w : Int32) : Option Nat := match rbN s (nI p) n with
  | none => none
  | some j => if roomS s j < w then none else some j
theorem mbear {n p : Nat} (hn : n ≤ 8) (w : Int32) (σ : Sg) (h0 : σ 50 0 = nI n) : f_X5_bearerOf (nI p) w σ = some (enc (bearS n (σ 50) p w)) := by
  rw [f_X5_bearerOf, mrb hn _ σ h0, ob0_s, bearS]
  cases hr : rbN (σ 50) (nI p) n with
  | none => rfl
  | some j =>
    have hj := rbN_lt _ _ _ _ hr
    rw [show enc (some j) = nI j from rfl, if_neg (nI_nn (by omega)), mroom (by omega), ob0_s]
    dsimp only
    split
    · rfl
    · rfl
theorem bearS_lt {n p : Nat} {s : Rw} {w : Int32} {j : Nat} (h : bearS n s p w = some j) : j < n := by
  unfold bearS at h
  split at h
  · cases h
  · rename_i j' hr
    split at h
    · cases h
    · cases h; exact rbN_lt _ _ _ _ hr
/-! one bears, one asks, one forgets, a day -/
def beF (s : Rw) (p : Nat) (w ow : Int32) : Rw := upd (upd s (10 + 5 * p + 1) (jmin 9999 (s (10 + 5 * p + 1) + ow))) (10 + 5 * p + 3) (jmin 9999 (s (10 + 5 * p + 3) + w))
def anF (n : Nat) (s : Rw) (p : Nat) : Rw := if askS s p ≤ 0 then s else match bearS n s p (askS s p) with
  | none => upd (upd s (10 + 5 * p + 1) (s (10 + 5 * p + 1) - 1)) 3 (jmin 99999 (s 3 + 1))
  | some j => beF (upd (upd s (10 + 5 * p + 1) (s (10 + 5 * p + 1) - askS s p)) (10 + 5 * p + 4) (jmin 9999 (s (10 + 5 * p + 4) + 1))) j (askS s p) (feelS (upd (upd s (10 + 5 * p + 1) (s (10 + 5 * p + 1) - askS s p)) (10 + 5 * p + 4) (jmin 9999 (s (10 + 5 * p + 4) + 1))) j (askS s p) / 2)
def fgF (s : Rw) (p : Nat) : Rw := upd s (10 + 5 * p + 3) (jmax 0 (s (10 + 5 * p + 3) - fgV (s (10 + 5 * p))))
def itr {α : Type} (g : Nat → α → α) : Nat → α → α
  | 0, a => a
  | i + 1, a => g i (itr g i a)
def stF (n : Nat) (s : Rw) (e : Int32) : Rw := if nI n ≤ e / 100 then s else if jrem e 100 ≤ 0 then s else beF s (e / 100).toNatClampNeg (jrem e 100) (feelS s (e / 100).toNatClampNeg (jrem e 100))
def asF (n : Nat) (m : Int32) (p : Nat) (s : Rw) : Rw := if (jshr m (nI p) &&& 1) = 0 then anF n s p else s
def dayF (n : Nat) (m : Int32) (s : Rw) : Rw :=
  let s3 := itr (fun p s => fgF s p) n (itr (asF n m) n (stF n s (s (4 + (jrem (s 1) 6).toNatClampNeg))))
  upd s3 1 (s3 1 + 1)
theorem mbe {p : Nat} (hp : p < 8) (w ow : Int32) (σ : Sg) : f_X5_bears (nI p) w ow σ = some (upr σ 50 (beF (σ 50) p w ow)) := by
  simp only [f_X5_bears, atv1, atv3, its1 hp, its3 hp, ob0_s, lea_eq, lt_s1, chk_nI (show 10 + 5 * p + 1 < 60 by omega) (by omega), chk_nI (show 10 + 5 * p + 3 < 60 by omega) (by omega), cl_nI (show 10 + 5 * p + 1 < 2 ^ 31 by omega), cl_nI (show 10 + 5 * p + 3 < 2 ^ 31 by omega), up2_upr, upr_at, upr_upr, beF]
  rw [upd_ne _ _ (show 10 + 5 * p + 3 ≠ 10 + 5 * p + 1 by omega)]
theorem man {n p : Nat} (hn : n ≤ 8) (hp : p < 8) (σ : Sg) (h0 : σ 50 0 = nI n) : f_X5_asksNow (nI p) σ = some (upr σ 50 (anF n (σ 50) p)) := by
  simp only [f_X5_asksNow, mask hp, mbear hn _ σ h0, ob0_s, anF]
  by_cases hw : askS (σ 50) p ≤ 0
  · rw [if_pos hw, if_pos hw, upr_self]
  · rw [if_neg hw, if_neg hw]
    cases hb : bearS n (σ 50) p (askS (σ 50) p) with
    | none =>
      rw [show enc (none : Option Nat) = -1 from rfl, if_pos neg1_lt0]
      simp only [atv1, ob0_s, chk_nI (show 10 + 5 * p + 1 < 60 by omega) (by omega), cl_nI (show 10 + 5 * p + 1 < 2 ^ 31 by omega), lt_s1, lea_eq, up2_upr, upr_at, upr_upr]
      rw [upd_ne _ _ (show 3 ≠ 10 + 5 * p + 1 by omega)]
    | some j =>
      have hj := bearS_lt hb
      rw [show enc (some j) = nI j from rfl, if_neg (nI_nn (by omega))]
      simp only [atv1, atv4, its4 hp, ob0_s, chk_nI (show 10 + 5 * p + 1 < 60 by omega) (by omega), cl_nI (show 10 + 5 * p + 1 < 2 ^ 31 by omega), chk_nI (show 10 + 5 * p + 4 < 60 by omega) (by omega), cl_nI (show 10 + 5 * p + 4 < 2 ^ 31 by omega), lt_s1, lea_eq, up2_upr, upr_at, upr_upr, mfeel (show j < 8 by omega), mbe (show j < 8 by omega), ob1_s]
      rw [upd_ne _ _ (show 10 + 5 * p + 4 ≠ 10 + 5 * p + 1 by omega)]
