/-! tokens: the class's reader and the reference's read the same tape -/
def TC (t : Nat) (g : Nat → Nat) (ρ : Sg) : Prop := ρ 37 1 = nI t ∧ ∀ i, i < t → ρ 38 i = nI (g i)
def TM (t : Nat) (g : Nat → Nat) (μ : Sg) : Prop := μ 49 7 = nI t ∧ ∀ i, i < t → μ 55 i = nI (g i)
def FC (ρ ρ' : Sg) : Prop := (∀ c, c ≠ 37 → ρ' c = ρ c) ∧ ρ' 37 1 = ρ 37 1
def FM (μ μ' : Sg) : Prop := (∀ c, c ≠ 49 → μ' c = μ c) ∧ μ' 49 4 = μ 49 4 ∧ μ' 49 7 = μ 49 7
theorem FC.tr {a b c : Sg} (h : FC a b) (h2 : FC b c) : FC a c := ⟨fun k hk => (h2.1 k hk).trans (h.1 k hk), h2.2.trans h.2⟩
theorem FM.tr {a b c : Sg} (h : FM a b) (h2 : FM b c) : FM a c := ⟨fun k hk => (h2.1 k hk).trans (h.1 k hk), h2.2.1.trans h.2.1, h2.2.2.trans h.2.2⟩
theorem FC.up {ρ : Sg} {i : Nat} {v : Int32} (h : i ≠ 1) : FC ρ (up2 ρ 37 i v) := ⟨fun c hc => up2_ne _ _ hc, up2_an _ _ (Ne.symm h)⟩
theorem FM.up {μ : Sg} {i : Nat} {v : Int32} (h : i ≠ 4) (h2 : i ≠ 7) : FM μ (up2 μ 49 i v) := ⟨fun c hc => up2_ne _ _ hc, up2_an _ _ (Ne.symm h), up2_an _ _ (Ne.symm h2)⟩
theorem TC.fr {t : Nat} {g : Nat → Nat} {ρ ρ' : Sg} (h : TC t g ρ) (f : FC ρ ρ') : TC t g ρ' := ⟨f.2.trans h.1, fun i hi => by rw [f.1 38 (by omega)]; exact h.2 i hi⟩
theorem TM.fr {t : Nat} {g : Nat → Nat} {μ μ' : Sg} (h : TM t g μ) (f : FM μ μ') : TM t g μ' := ⟨f.2.2.trans h.1, fun i hi => by rw [f.1 55 (by omega)]; exact h.2 i hi⟩
def TK (t : Nat) (ρ μ : Sg) (k b e v : Nat) : Prop := ρ 37 2 = nI k ∧ ρ 37 3 = nI b ∧ ρ 37 4 = nI e ∧ (k = 2 → ρ 37 5 = nI (min 10000 v)) ∧ μ 49 13 = nI k ∧ μ 49 14 = nI b ∧ μ 49 15 = nI e ∧ (k = 2 → μ 49 16 = nI v) ∧ k ≤ 4 ∧ b ≤ e ∧ e ≤ t ∧ (k ≠ 0 → b < e) ∧ v ≤ 99999
def isL (x : Nat) : Bool := decide (97 ≤ x ∧ x ≤ 122)
def isD (x : Nat) : Bool := decide (48 ≤ x ∧ x ≤ 57)
theorem cisL {x : Nat} (hx : x ≤ 255) (σ : Sg) : f_X2_isLetter (nI x) σ = some (b01 (isL x)) := by
  have e1 : nI x < 97 ↔ x < 97 := nI_ltI (b := 97) (by omega) (by omega)
  have e2 : 122 < nI x ↔ 122 < x := nI_ltI (a := 122) (by omega) (by omega)
  simp only [f_X2_isLetter, e1, e2]
  by_cases h1 : x < 97
  · have h : isL x = false := decide_eq_false (by omega)
    rw [if_pos h1, h]
    rfl
  · rw [if_neg h1]
    by_cases h2 : 122 < x
    · have h : isL x = false := decide_eq_false (by omega)
      rw [if_pos h2, h]
      rfl
    · have h : isL x = true := decide_eq_true (by omega)
      rw [if_neg h2, h]
      rfl
theorem cisD {x : Nat} (hx : x ≤ 255) (σ : Sg) : f_X2_isDigit (nI x) σ = some (b01 (isD x)) := by
  have e1 : nI x < 48 ↔ x < 48 := nI_ltI (b := 48) (by omega) (by omega)
  have e2 : 57 < nI x ↔ 57 < x := nI_ltI (a := 57) (by omega) (by omega)
  simp only [f_X2_isDigit, e1, e2]
  by_cases h1 : x < 48
  · have h : isD x = false := decide_eq_false (by omega)
    rw [if_pos h1, h]
    rfl
  · rw [if_neg h1]
    by_cases h2 : 57 < x
    · have h : isD x = false := decide_eq_false (by omega)
      rw [if_pos h2, h]
      rfl
    · have h : isD x = true := decide_eq_true (by omega)
      rw [if_neg h2, h]
      rfl
theorem misL {x : Nat} (hx : x ≤ 255) (σ : Sg) : f_X5_isLetter (nI x) σ = some (b01 (isL x)) := cisL hx σ
theorem misD {x : Nat} (hx : x ≤ 255) (σ : Sg) : f_X5_isDigit (nI x) σ = some (b01 (isD x)) := cisD hx σ
theorem misL1 (σ : Sg) : f_X5_isLetter (-1) σ = some 0 := by rw [f_X5_isLetter, if_pos (by decide)]
theorem misD1 (σ : Sg) : f_X5_isDigit (-1) σ = some 0 := by rw [f_X5_isDigit, if_pos (by decide)]
theorem byt {t : Nat} {g : Nat → Nat} {μ : Sg} (ht : t ≤ 120) (h : TM t g μ) {p : Nat} (hp : p < t) : f_X5_byteAt (nI p) μ = some (nI (g p)) := by
  rw [f_X5_byteAt, h.1, if_neg (nle hp (by omega)), chk_nI (by omega) (by omega), cl_nI (by omega), h.2 p hp]
theorem byt_e {t : Nat} {g : Nat → Nat} {μ : Sg} (ht : t ≤ 120) (h : TM t g μ) : f_X5_byteAt (nI t) μ = some (-1) := by
  rw [f_X5_byteAt, h.1, if_pos (nI_le (Nat.le_refl t) (by omega))]
theorem m136 {μ : Sg} {k e : Nat} (hk : k ≤ 4) (hk2 : k ≠ 2) (h13 : μ 49 13 = nI k) (h15 : μ 49 15 = nI e) : f_X5_nextToken_L136 FU μ = some (up2 μ 49 15 (nI (if k ≤ 2 then e else e + 1))) := by
  rw [show FU = 999 + 1 from rfl, f_X5_nextToken_L136, h13, if_neg (show ¬ nI k = 2 from fun q => hk2 ((nI_eq (b := 2) (by omega) (by omega)).mp q)), h15, add_z, nI_1]
  by_cases h : k ≤ 2
  · rw [if_pos (show nI k ≤ 2 from nI_le (b := 2) h (by omega)), lt_s1, if_pos h]
  · rw [if_neg (show ¬ nI k ≤ 2 from nle (i := 2) (by omega) (by omega)), lt_s1, if_neg h]
theorem lets {t : Nat} {g : Nat → Nat} (ht : t ≤ 120) (hg : ∀ i, i < t → g i ≤ 255) {q : Nat} (hq : q ≤ t) {ρ μ : Sg} (hC : TC t g ρ) (hM : TM t g μ) (h4 : ρ 37 4 = nI q) (h15 : μ 49 15 = nI q) (h13 : μ 49 13 = 1) : ∃ ρ' μ' e, f_X2_step_L85 FU ρ = some ρ' ∧ f_X5_nextToken_L101 FU μ = some μ' ∧ ρ' 37 4 = nI e ∧ μ' 49 15 = nI e ∧ q ≤ e ∧ e ≤ t ∧ (q < t → isL (g q) = true → q < e) ∧ (∀ c, c ≠ 37 → ρ' c = ρ c) ∧ (∀ i, i ≠ 4 → ρ' 37 i = ρ 37 i) ∧ (∀ c, c ≠ 49 → μ' c = μ c) ∧ (∀ i, i ≠ 15 → μ' 49 i = μ 49 i) := by
  have key := loop_up (P := fun f q => ∀ ρ μ : Sg, TC t g ρ → TM t g μ → ρ 37 4 = nI q → μ 49 15 = nI q → μ 49 13 = 1 → ∃ ρ' μ' e, f_X2_step_L85 f ρ = some ρ' ∧ f_X5_nextToken_L101 f μ = some μ' ∧ ρ' 37 4 = nI e ∧ μ' 49 15 = nI e ∧ q ≤ e ∧ e ≤ t ∧ (q < t → isL (g q) = true → q < e) ∧ (∀ c, c ≠ 37 → ρ' c = ρ c) ∧ (∀ i, i ≠ 4 → ρ' 37 i = ρ 37 i) ∧ (∀ c, c ≠ 49 → μ' c = μ c) ∧ (∀ i, i ≠ 15 → μ' 49 i = μ 49 i)) t
    (fun f ρ μ hC hM h4 h15 h13 => by
      refine ⟨ρ, up2 μ 49 15 (nI t), t, ?_, ?_, h4, up2_at .., Nat.le_refl t, Nat.le_refl t, fun h => by omega, fun _ _ => rfl, fun _ _ => rfl, fun c hc => up2_ne _ _ hc, fun i hi => up2_an _ _ hi⟩
      · rw [f_X2_step_L85, hC.1, h4, if_pos (nI_le (Nat.le_refl t) (by omega))]
      · rw [f_X5_nextToken_L101, h13, if_pos rfl, h15, byt_e ht hM, ob0_s, misL1, ob0_s, if_pos rfl, m136 (k := 1) (e := t) (by omega) (by omega) h13 h15]
        rfl)
    (fun f q hq ih ρ μ hC hM h4 h15 h13 => by
      have hgq := hg q hq
      rw [f_X2_step_L85, hC.1, h4, if_neg (nle hq (by omega)), chk_nI (by omega) (by omega), cl_nI (by omega), hC.2 q hq, cisL hgq, ob0_s, f_X5_nextToken_L101, h13, if_pos rfl, h15, byt ht hM hq, ob0_s, misL hgq, ob0_s]
      cases hl : isL (g q) with
      | false =>
        rw [if_pos (b01_f rfl), if_pos (b01_f rfl), m136 (k := 1) (e := q) (by omega) (by omega) h13 h15]
        exact ⟨ρ, _, q, rfl, rfl, h4, up2_at .., Nat.le_refl q, by omega, fun _ h => (by cases h), fun _ _ => rfl, fun _ _ => rfl, fun c hc => up2_ne _ _ hc, fun i hi => up2_an _ _ hi⟩
      | true =>
        rw [if_neg (b01_t rfl), if_neg (b01_t rfl), nI_1, lt_s1, lt_s1]
        obtain ⟨ρ', μ', e, a1, a2, a3, a4, a5, a6, -, a8, a9, a10, a11⟩ := ih (up2 ρ 37 4 (nI (q + 1))) (up2 μ 49 15 (nI (q + 1))) (hC.fr (FC.up (by omega))) (hM.fr (FM.up (by omega) (by omega))) (up2_at ..) (up2_at ..) (by rw [up2_an _ _ (by omega)]; exact h13)
        exact ⟨ρ', μ', e, a1, a2, a3, a4, by omega, a6, fun _ _ => by omega, fun c hc => by rw [a8 c hc, up2_ne _ _ hc], fun i hi => by rw [a9 i hi, up2_an _ _ hi], fun c hc => by rw [a10 c hc, up2_ne _ _ hc], fun i hi => by rw [a11 i hi, up2_an _ _ hi]⟩)
  exact key FU q hq (by rw [FU_eq]; omega) ρ μ hC hM h4 h15 h13
theorem dv {V c : Nat} (hV : V ≤ 99999) (h1 : 48 ≤ c) (h2 : c ≤ 57) : jmin 10000 (10 * nI (min 10000 V) + nI c - 48) = nI (min 10000 (if V ≤ 9999 then 10 * V + (c - 48) else V)) := by
  rw [show (10 : Int32) * nI (min 10000 V) = nI (10 * min 10000 V) from pk_mul 10 _, nI_add, show (48 : Int32) = nI 48 from rfl, pk_sub (by omega), show (10000 : Int32) = nI 10000 from rfl, jmin_nI (by omega) (by omega)]
  congr 1
  split <;> omega
theorem digs {t : Nat} {g : Nat → Nat} (ht : t ≤ 120) (hg : ∀ i, i < t → g i ≤ 255) {q : Nat} (hq : q ≤ t) {ρ μ : Sg} (hC : TC t g ρ) (hM : TM t g μ) (h4 : ρ 37 4 = nI q) (h15 : μ 49 15 = nI q) (h13 : μ 49 13 = 2) {V : Nat} (hV : V ≤ 99999) (h5 : ρ 37 5 = nI (min 10000 V)) (h16 : μ 49 16 = nI V) : ∃ ρ' μ' e v, f_X2_step_L149 FU ρ = some ρ' ∧ f_X5_nextToken_L136 FU μ = some μ' ∧ ρ' 37 4 = nI e ∧ μ' 49 15 = nI e ∧ q ≤ e ∧ e ≤ t ∧ v ≤ 99999 ∧ ρ' 37 5 = nI (min 10000 v) ∧ μ' 49 16 = nI v ∧ (q < t → isD (g q) = true → q < e) ∧ (∀ c, c ≠ 37 → ρ' c = ρ c) ∧ (∀ i, i ≠ 4 → i ≠ 5 → ρ' 37 i = ρ 37 i) ∧ (∀ c, c ≠ 49 → μ' c = μ c) ∧ (∀ i, i ≠ 15 → i ≠ 16 → μ' 49 i = μ 49 i) := by
  have key := loop_up (P := fun f q => ∀ (ρ μ : Sg) (V : Nat), TC t g ρ → TM t g μ → ρ 37 4 = nI q → μ 49 15 = nI q → μ 49 13 = 2 → V ≤ 99999 → ρ 37 5 = nI (min 10000 V) → μ 49 16 = nI V → ∃ ρ' μ' e v, f_X2_step_L149 f ρ = some ρ' ∧ f_X5_nextToken_L136 f μ = some μ' ∧ ρ' 37 4 = nI e ∧ μ' 49 15 = nI e ∧ q ≤ e ∧ e ≤ t ∧ v ≤ 99999 ∧ ρ' 37 5 = nI (min 10000 v) ∧ μ' 49 16 = nI v ∧ (q < t → isD (g q) = true → q < e) ∧ (∀ c, c ≠ 37 → ρ' c = ρ c) ∧ (∀ i, i ≠ 4 → i ≠ 5 → ρ' 37 i = ρ 37 i) ∧ (∀ c, c ≠ 49 → μ' c = μ c) ∧ (∀ i, i ≠ 15 → i ≠ 16 → μ' 49 i = μ 49 i)) t
    (fun f ρ μ V hC hM h4 h15 h13 hV h5 h16 => by
      refine ⟨ρ, up2 μ 49 15 (nI t), t, V, ?_, ?_, h4, up2_at .., Nat.le_refl t, Nat.le_refl t, hV, h5, by rw [up2_an _ _ (by omega)]; exact h16, fun h => by omega, fun _ _ => rfl, fun _ _ _ => rfl, fun c hc => up2_ne _ _ hc, fun i hi _ => up2_an _ _ hi⟩
      · rw [f_X2_step_L149, hC.1, h4, if_pos (nI_le (Nat.le_refl t) (by omega))]
      · rw [f_X5_nextToken_L136, h13, if_pos rfl, h15, byt_e ht hM, ob0_s, misD1, ob0_s, if_pos rfl, if_pos (i_rfl 2), add_z, lt_s1])
    (fun f q hq ih ρ μ V hC hM h4 h15 h13 hV h5 h16 => by
      have hgq := hg q hq
      rw [f_X2_step_L149, hC.1, h4, if_neg (nle hq (by omega)), chk_nI (by omega) (by omega), cl_nI (by omega), hC.2 q hq, cisD hgq, ob0_s, f_X5_nextToken_L136, h13, if_pos rfl, h15, byt ht hM hq, ob0_s, misD hgq, ob0_s, h16]
      cases hl : isD (g q) with
      | false =>
        rw [if_pos (b01_f rfl), if_pos (b01_f rfl), if_pos (i_rfl 2), add_z, lt_s1]
        exact ⟨ρ, _, q, V, rfl, rfl, h4, up2_at .., Nat.le_refl q, by omega, hV, h5, by rw [up2_an _ _ (by omega)]; exact h16, fun _ h => (by cases h), fun _ _ => rfl, fun _ _ _ => rfl, fun c hc => up2_ne _ _ hc, fun i hi _ => up2_an _ _ hi⟩
      | true =>
        have hd : 48 ≤ g q ∧ g q ≤ 57 := by simpa [isD] using hl
        have eM : (if nI V ≤ 9999 then ob0 (some (nI (g q))) fun r61 => lt (up2 μ 49 16 (((10 * nI V) + r61) - 48)) fun s62 => lt (up2 s62 49 15 ((s62 49 15) + 1)) fun s64 => f_X5_nextToken_L136 f s64 else lt (up2 μ 49 16 (nI V)) fun s66 => lt (up2 s66 49 15 ((s66 49 15) + 1)) fun s68 => f_X5_nextToken_L136 f s68) = f_X5_nextToken_L136 f (up2 (up2 μ 49 16 (nI (if V ≤ 9999 then 10 * V + (g q - 48) else V))) 49 15 (nI (q + 1))) := by
          by_cases hv : V ≤ 9999
          · rw [if_pos (show nI V ≤ 9999 from nI_le (b := 9999) hv (by omega)), ob0_s, lt_s1, lt_s1, up2_an _ _ (by omega), h15, nI_1, if_pos hv, show (10 : Int32) * nI V = nI (10 * V) from pk_mul 10 _, nI_add, show (48 : Int32) = nI 48 from rfl, pk_sub (by omega), show 10 * V + g q - 48 = 10 * V + (g q - 48) by omega]
          · rw [if_neg (show ¬ nI V ≤ 9999 from nle (i := 9999) (by omega) (by omega)), lt_s1, lt_s1, up2_an _ _ (by omega), h15, nI_1, if_neg hv]
        rw [if_neg (b01_t rfl), if_neg (b01_t rfl), h5, dv hV hd.1 hd.2, lt_s1, up2_an _ _ (by omega), h4, nI_1, lt_s1, eM]
        obtain ⟨ρ', μ', e, v, a1, a2, a3, a4, a5, a6, a7, b1, b2, -, a8, a9, a10, a11⟩ := ih (up2 (up2 ρ 37 5 (nI (min 10000 (if V ≤ 9999 then 10 * V + (g q - 48) else V)))) 37 4 (nI (q + 1))) (up2 (up2 μ 49 16 (nI (if V ≤ 9999 then 10 * V + (g q - 48) else V))) 49 15 (nI (q + 1))) (if V ≤ 9999 then 10 * V + (g q - 48) else V) (hC.fr ((FC.up (by omega)).tr (FC.up (by omega)))) (hM.fr ((FM.up (by omega) (by omega)).tr (FM.up (by omega) (by omega)))) (up2_at ..) (up2_at ..) (by rw [up2_an _ _ (by omega), up2_an _ _ (by omega)]; exact h13) (by split <;> omega) (by rw [up2_an _ _ (by omega), up2_at]) (by rw [up2_an _ _ (by omega), up2_at])
        exact ⟨ρ', μ', e, v, a1, a2, a3, a4, by omega, a6, a7, b1, b2, fun _ _ => by omega, fun c hc => by rw [a8 c hc, up2_ne _ _ hc, up2_ne _ _ hc], fun i hi hi2 => by rw [a9 i hi hi2, up2_an _ _ hi, up2_an _ _ hi2], fun c hc => by rw [a10 c hc, up2_ne _ _ hc, up2_ne _ _ hc], fun i hi hi2 => by rw [a11 i hi hi2, up2_an _ _ hi, up2_an _ _ hi2]⟩)
  exact key FU q hq (by rw [FU_eq]; omega) ρ μ V hC hM h4 h15 h13 hV h5 h16
def tailC (σ : Sg) : Option Sg :=
  lt (up2 σ 37 3 (σ 37 4)) fun s2 =>
  if (s2 37 3) < (s2 37 1) then
    chk (s2 37 3) 120 <|
    ob0 (f_X2_isLetter (s2 38 (s2 37 3).toNatClampNeg) s2) fun r7 =>
    if r7 = 0 then
      ob0 (f_X2_isDigit (s2 38 (s2 37 3).toNatClampNeg) s2) fun r10 =>
      if r10 = 0 then
        if (s2 38 (s2 37 3).toNatClampNeg) = 59 then
          lt (up2 s2 37 2 3) fun s13 =>
          lt (up2 s13 37 4 ((s13 37 4) + 1)) fun s15 =>
          some s15
        else
          lt (up2 s2 37 2 4) fun s17 =>
          lt (up2 s17 37 4 ((s17 37 4) + 1)) fun s19 =>
          some s19
      else
        lt (up2 s2 37 2 2) fun s21 =>
        lt (up2 s21 37 5 0) fun s23 =>
        f_X2_step_L149 FU s23
    else
      lt (up2 s2 37 2 1) fun s25 =>
      f_X2_step_L85 FU s25
  else
    lt (up2 s2 37 2 0) fun s27 =>
    some s27
def tailM (σ : Sg) : Option Sg :=
  lt (up2 σ 49 15 (σ 49 14)) fun s8 =>
  ob0 (f_X5_byteAt (s8 49 14) s8) fun r11 =>
  if 0 ≤ r11 then
    ob0 (f_X5_isLetter r11 s8) fun r14 =>
    if r14 = 0 then
      ob0 (f_X5_isDigit r11 s8) fun r17 =>
      if r17 = 0 then
        if r11 = 59 then
          lt (up2 s8 49 13 3) fun s20 =>
          lt (up2 s20 49 16 0) fun s22 =>
          f_X5_nextToken_L101 FU s22
        else
          lt (up2 s8 49 13 4) fun s24 =>
          lt (up2 s24 49 16 0) fun s26 =>
          f_X5_nextToken_L101 FU s26
      else
        lt (up2 s8 49 13 2) fun s28 =>
        lt (up2 s28 49 16 0) fun s30 =>
        f_X5_nextToken_L101 FU s30
    else
      lt (up2 s8 49 13 1) fun s32 =>
      lt (up2 s32 49 16 0) fun s34 =>
      f_X5_nextToken_L101 FU s34
  else
    lt (up2 s8 49 13 0) fun s36 =>
    lt (up2 s36 49 16 0) fun s38 =>
    f_X5_nextToken_L101 FU s38
theorem stepC (f : Nat) (σ : Sg) : f_X2_step_L0 (f + 1) σ = (if (σ 37 1) ≤ (σ 37 4) then tailC σ else chk (σ 37 4) 120 <| if (σ 38 (σ 37 4).toNatClampNeg) = 32 then lt (up2 σ 37 4 ((σ 37 4) + 1)) fun s31 => f_X2_step_L0 f s31 else tailC σ) := rfl
theorem stepM (f : Nat) (σ : Sg) : f_X5_nextToken_L8 (f + 1) σ = (ob0 (f_X5_byteAt (σ 49 14) σ) fun r4 => if r4 = 32 then lt (up2 σ 49 14 ((σ 49 14) + 1)) fun s6 => f_X5_nextToken_L8 f s6 else tailM σ) := rfl
theorem m101 {μ : Sg} {k : Nat} (hk : k ≤ 4) (hk2 : k ≠ 1) (h13 : μ 49 13 = nI k) : f_X5_nextToken_L101 FU μ = f_X5_nextToken_L136 FU μ := by
  rw [show f_X5_nextToken_L101 FU μ = f_X5_nextToken_L101 (999 + 1) μ from rfl, f_X5_nextToken_L101, h13, if_neg (show ¬ nI k = 1 from fun q => hk2 ((nI_eq (b := 1) (by omega) (by omega)).mp q))]
theorem tail {t : Nat} {g : Nat → Nat} (ht : t ≤ 120) (hg : ∀ i, i < t → g i ≤ 255) {p : Nat} (hp : p ≤ t) {ρ μ : Sg} (hC : TC t g ρ) (hM : TM t g μ) (h4 : ρ 37 4 = nI p) (h14 : μ 49 14 = nI p) : ∃ ρ' μ' k e v, tailC ρ = some ρ' ∧ tailM μ = some μ' ∧ FC ρ ρ' ∧ FM μ μ' ∧ TK t ρ' μ' k p e v := by
  have c1 : up2 ρ 37 3 (nI p) 37 1 = nI t := by rw [up2_an _ _ (by omega)]; exact hC.1
  have c3 : up2 ρ 37 3 (nI p) 37 3 = nI p := up2_at ..
  have hM1 : TM t g (up2 μ 49 15 (nI p)) := hM.fr (FM.up (by omega) (by omega))
  have m14 : up2 μ 49 15 (nI p) 49 14 = nI p := by rw [up2_an _ _ (by omega)]; exact h14
  by_cases hpt : p < t
  · have hgp := hg p hpt
    have c38 : up2 ρ 37 3 (nI p) 38 p = nI (g p) := by rw [up2_ne _ _ (by omega)]; exact hC.2 p hpt
    have eC : tailC ρ = (if b01 (isL (g p)) = 0 then (if b01 (isD (g p)) = 0 then (if nI (g p) = 59 then some (up2 (up2 (up2 ρ 37 3 (nI p)) 37 2 3) 37 4 (nI (p + 1))) else some (up2 (up2 (up2 ρ 37 3 (nI p)) 37 2 4) 37 4 (nI (p + 1)))) else f_X2_step_L149 FU (up2 (up2 (up2 ρ 37 3 (nI p)) 37 2 2) 37 5 0)) else f_X2_step_L85 FU (up2 (up2 ρ 37 3 (nI p)) 37 2 1)) := by
      rw [tailC, h4, lt_s1, c3, c1, if_pos (nI_lt hpt (by omega)), chk_nI (by omega) (by omega), cl_nI (by omega), c38, cisL hgp, ob0_s, cisD hgp, ob0_s, lt_s1, lt_s1, lt_s1, lt_s1, lt_s1, lt_s1, lt_s1, up2_an _ _ (by omega), up2_an _ _ (by omega), up2_an _ _ (by omega), h4, nI_1, up2_an _ _ (by omega), h4, nI_1]
    have eM : tailM μ = (if b01 (isL (g p)) = 0 then (if b01 (isD (g p)) = 0 then (if nI (g p) = 59 then f_X5_nextToken_L101 FU (up2 (up2 (up2 μ 49 15 (nI p)) 49 13 3) 49 16 0) else f_X5_nextToken_L101 FU (up2 (up2 (up2 μ 49 15 (nI p)) 49 13 4) 49 16 0)) else f_X5_nextToken_L101 FU (up2 (up2 (up2 μ 49 15 (nI p)) 49 13 2) 49 16 0)) else f_X5_nextToken_L101 FU (up2 (up2 (up2 μ 49 15 (nI p)) 49 13 1) 49 16 0)) := by
      rw [tailM, h14, lt_s1, m14, byt ht hM1 hpt, ob0_s, if_pos (nI_ge0 (by omega)), misL hgp, ob0_s, misD hgp, ob0_s, lt_s1, lt_s1, lt_s1, lt_s1, lt_s1, lt_s1, lt_s1, lt_s1]
    rw [eC, eM]
    cases hl : isL (g p) with
    | true =>
      rw [if_neg (b01_t rfl), if_neg (b01_t rfl)]
      obtain ⟨ρ', μ', e, a1, a2, a3, a4, a5, a6, a7, a8, a9, a10, a11⟩ := lets ht hg hp (ρ := up2 (up2 ρ 37 3 (nI p)) 37 2 1) (μ := up2 (up2 (up2 μ 49 15 (nI p)) 49 13 1) 49 16 0) (hC.fr ((FC.up (by omega)).tr (FC.up (by omega)))) (hM1.fr ((FM.up (by omega) (by omega)).tr (FM.up (by omega) (by omega)))) (by rw [up2_an _ _ (by omega), up2_an _ _ (by omega)]; exact h4) (by rw [up2_an _ _ (by omega), up2_an _ _ (by omega), up2_at]) (by rw [up2_an _ _ (by omega), up2_at])
      refine ⟨ρ', μ', 1, e, 0, a1, a2, ⟨fun c hc => by rw [a8 c hc, up2_ne _ _ hc, up2_ne _ _ hc], by rw [a9 1 (by omega), up2_an _ _ (by omega), up2_an _ _ (by omega)]⟩, ⟨fun c hc => by rw [a10 c hc, up2_ne _ _ hc, up2_ne _ _ hc, up2_ne _ _ hc], by rw [a11 4 (by omega), up2_an _ _ (by omega), up2_an _ _ (by omega), up2_an _ _ (by omega)], by rw [a11 7 (by omega), up2_an _ _ (by omega), up2_an _ _ (by omega), up2_an _ _ (by omega)]⟩, ?_, ?_, a3, fun h => by omega, ?_, ?_, a4, fun h => by omega, by omega, a5, a6, fun _ => a7 hpt hl, by omega⟩
      · rw [a9 2 (by omega), up2_at]; rfl
      · rw [a9 3 (by omega), up2_an _ _ (by omega), up2_at]
      · rw [a11 13 (by omega), up2_an _ _ (by omega), up2_at]; rfl
      · rw [a11 14 (by omega), up2_an _ _ (by omega), up2_an _ _ (by omega), m14]
    | false =>
      rw [if_pos (b01_f rfl), if_pos (b01_f rfl)]
      cases hd : isD (g p) with
      | true =>
        rw [if_neg (b01_t rfl), if_neg (b01_t rfl), m101 (k := 2) (by omega) (by omega) (by rw [up2_an _ _ (by omega), up2_at]; rfl)]
        obtain ⟨ρ', μ', e, v, a1, a2, a3, a4, a5, a6, b0, b1, b2, a7, a8, a9, a10, a11⟩ := digs ht hg hp (ρ := up2 (up2 (up2 ρ 37 3 (nI p)) 37 2 2) 37 5 0) (μ := up2 (up2 (up2 μ 49 15 (nI p)) 49 13 2) 49 16 0) (V := 0) (hC.fr (((FC.up (by omega)).tr (FC.up (by omega))).tr (FC.up (by omega)))) (hM1.fr ((FM.up (by omega) (by omega)).tr (FM.up (by omega) (by omega)))) (by rw [up2_an _ _ (by omega), up2_an _ _ (by omega), up2_an _ _ (by omega)]; exact h4) (by rw [up2_an _ _ (by omega), up2_an _ _ (by omega), up2_at]) (by rw [up2_an _ _ (by omega), up2_at]) (by omega) (by rw [up2_at]; rfl) (by rw [up2_at]; rfl)
        refine ⟨ρ', μ', 2, e, v, a1, a2, ⟨fun c hc => by rw [a8 c hc, up2_ne _ _ hc, up2_ne _ _ hc, up2_ne _ _ hc], by rw [a9 1 (by omega) (by omega), up2_an _ _ (by omega), up2_an _ _ (by omega), up2_an _ _ (by omega)]⟩, ⟨fun c hc => by rw [a10 c hc, up2_ne _ _ hc, up2_ne _ _ hc, up2_ne _ _ hc], by rw [a11 4 (by omega) (by omega), up2_an _ _ (by omega), up2_an _ _ (by omega), up2_an _ _ (by omega)], by rw [a11 7 (by omega) (by omega), up2_an _ _ (by omega), up2_an _ _ (by omega), up2_an _ _ (by omega)]⟩, ?_, ?_, a3, fun _ => b1, ?_, ?_, a4, fun _ => b2, by omega, a5, a6, fun _ => a7 hpt hd, b0⟩
        · rw [a9 2 (by omega) (by omega), up2_an _ _ (by omega), up2_at]; rfl
        · rw [a9 3 (by omega) (by omega), up2_an _ _ (by omega), up2_an _ _ (by omega), up2_at]
        · rw [a11 13 (by omega) (by omega), up2_an _ _ (by omega), up2_at]; rfl
        · rw [a11 14 (by omega) (by omega), up2_an _ _ (by omega), up2_an _ _ (by omega), m14]
      | false =>
        rw [if_pos (b01_f rfl), if_pos (b01_f rfl)]
        have fin : ∀ k : Nat, k = 3 ∨ k = 4 → ∃ ρ' μ' k' e v, some (up2 (up2 (up2 ρ 37 3 (nI p)) 37 2 (nI k)) 37 4 (nI (p + 1))) = some ρ' ∧ f_X5_nextToken_L101 FU (up2 (up2 (up2 μ 49 15 (nI p)) 49 13 (nI k)) 49 16 0) = some μ' ∧ FC ρ ρ' ∧ FM μ μ' ∧ TK t ρ' μ' k' p e v := by
          intro k hk
          refine ⟨up2 (up2 (up2 ρ 37 3 (nI p)) 37 2 (nI k)) 37 4 (nI (p + 1)), up2 (up2 (up2 (up2 μ 49 15 (nI p)) 49 13 (nI k)) 49 16 0) 49 15 (nI (p + 1)), k, p + 1, 0, rfl, ?_, ((FC.up (by omega)).tr (FC.up (by omega))).tr (FC.up (by omega)), (((FM.up (by omega) (by omega)).tr (FM.up (by omega) (by omega))).tr (FM.up (by omega) (by omega))).tr (FM.up (by omega) (by omega)), ?_, ?_, up2_at .., fun h => by omega, ?_, ?_, up2_at .., fun h => by omega, by omega, by omega, by omega, fun _ => by omega, by omega⟩
          · rw [m101 (k := k) (by omega) (by omega) (by rw [up2_an _ _ (by omega), up2_at]), m136 (k := k) (e := p) (by omega) (by omega) (by rw [up2_an _ _ (by omega), up2_at]) (by rw [up2_an _ _ (by omega), up2_an _ _ (by omega), up2_at]), if_neg (by omega)]
          · rw [up2_an _ _ (by omega), up2_at]
          · rw [up2_an _ _ (by omega), up2_an _ _ (by omega), up2_at]
          · rw [up2_an _ _ (by omega), up2_an _ _ (by omega), up2_at]
          · rw [up2_an _ _ (by omega), up2_an _ _ (by omega), up2_an _ _ (by omega), m14]
        by_cases h59 : nI (g p) = 59
        · rw [if_pos h59, if_pos h59]
          exact fin 3 (Or.inl rfl)
        · rw [if_neg h59, if_neg h59]
          exact fin 4 (Or.inr rfl)
  · have hpe : p = t := by omega
    subst hpe
    have eC : tailC ρ = some (up2 (up2 ρ 37 3 (nI p)) 37 2 0) := by
      rw [tailC, h4, lt_s1, c3, c1, if_neg (by rw [i_not_lt]; exact i_rfl _), lt_s1]
    have eM : tailM μ = some (up2 (up2 (up2 (up2 μ 49 15 (nI p)) 49 13 0) 49 16 0) 49 15 (nI p)) := by
      rw [tailM, h14, lt_s1, m14, byt_e ht hM1, ob0_s, if_neg (by decide), lt_s1, lt_s1, m101 (k := 0) (by omega) (by omega) (by rw [up2_an _ _ (by omega), up2_at]; rfl), m136 (k := 0) (e := p) (by omega) (by omega) (by rw [up2_an _ _ (by omega), up2_at]; rfl) (by rw [up2_an _ _ (by omega), up2_an _ _ (by omega), up2_at]), if_pos (by omega)]
    rw [eC, eM]
    refine ⟨_, _, 0, p, 0, rfl, rfl, (FC.up (by omega)).tr (FC.up (by omega)), (((FM.up (by omega) (by omega)).tr (FM.up (by omega) (by omega))).tr (FM.up (by omega) (by omega))).tr (FM.up (by omega) (by omega)), ?_, ?_, ?_, fun h => by omega, ?_, ?_, up2_at .., fun h => by omega, by omega, by omega, by omega, fun h => by omega, by omega⟩
    · rw [up2_at]; rfl
    · rw [up2_an _ _ (by omega), up2_at]
    · rw [up2_an _ _ (by omega), up2_an _ _ (by omega)]; exact h4
    · rw [up2_an _ _ (by omega), up2_an _ _ (by omega), up2_at]; rfl
    · rw [up2_an _ _ (by omega), up2_an _ _ (by omega), up2_an _ _ (by omega), m14]
theorem tkNext {t : Nat} {g : Nat → Nat} (ht : t ≤ 120) (hg : ∀ i, i < t → g i ≤ 255) {q : Nat} (hq : q ≤ t) {ρ μ : Sg} (hC : TC t g ρ) (hM : TM t g μ) (h4 : ρ 37 4 = nI q) (h15 : μ 49 15 = nI q) : ∃ ρ' μ' k b e v, f_X2_step ρ = some ρ' ∧ f_X5_nextToken μ = some μ' ∧ FC ρ ρ' ∧ FM μ μ' ∧ TK t ρ' μ' k b e v ∧ q ≤ b := by
  have key := loop_up (P := fun f p => ∀ ρ μ : Sg, TC t g ρ → TM t g μ → ρ 37 4 = nI p → μ 49 14 = nI p → ∃ ρ' μ' k b e v, f_X2_step_L0 f ρ = some ρ' ∧ f_X5_nextToken_L8 f μ = some μ' ∧ FC ρ ρ' ∧ FM μ μ' ∧ TK t ρ' μ' k b e v ∧ p ≤ b) t
    (fun f ρ μ hC hM h4 h14 => by
      obtain ⟨ρ', μ', k, e, v, a1, a2, a3, a4, a5⟩ := tail ht hg (Nat.le_refl t) hC hM h4 h14
      refine ⟨ρ', μ', k, t, e, v, ?_, ?_, a3, a4, a5, Nat.le_refl t⟩
      · rw [stepC, hC.1, h4, if_pos (nI_le (Nat.le_refl t) (by omega))]; exact a1
      · rw [stepM, h14, byt_e ht hM, ob0_s, if_neg (by decide)]; exact a2)
    (fun f p hp ih ρ μ hC hM h4 h14 => by
      rw [stepC, hC.1, h4, if_neg (nle hp (by omega)), chk_nI (by omega) (by omega), cl_nI (by omega), hC.2 p hp, stepM, h14, byt ht hM hp, ob0_s]
      by_cases h32 : nI (g p) = 32
      · rw [if_pos h32, if_pos h32, lt_s1, lt_s1, nI_1]
        obtain ⟨ρ', μ', k, b, e, v, a1, a2, a3, a4, a5, a6⟩ := ih (up2 ρ 37 4 (nI (p + 1))) (up2 μ 49 14 (nI (p + 1))) (hC.fr (FC.up (by omega))) (hM.fr (FM.up (by omega) (by omega))) (up2_at ..) (up2_at ..)
        exact ⟨ρ', μ', k, b, e, v, a1, a2, (FC.up (by omega)).tr a3, (FM.up (by omega) (by omega)).tr a4, a5, by omega⟩
      · rw [if_neg h32, if_neg h32]
        obtain ⟨ρ', μ', k, e, v, a1, a2, a3, a4, a5⟩ := tail ht hg (show p ≤ t by omega) hC hM h4 h14
        exact ⟨ρ', μ', k, p, e, v, a1, a2, a3, a4, a5, Nat.le_refl p⟩)
  obtain ⟨ρ', μ', k, b, e, v, a1, a2, a3, a4, a5⟩ := key FU q hq (by rw [FU_eq]; omega) ρ (up2 μ 49 14 (nI q)) hC (hM.fr (FM.up (by omega) (by omega))) h4 (up2_at ..)
  refine ⟨ρ', μ', k, b, e, v, a1, ?_, a3, (FM.up (by omega) (by omega)).tr a4, a5⟩
  rw [f_X5_nextToken, h15, lt_s1]
  exact a2
