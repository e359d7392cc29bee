/-! words, items, the text -/
abbrev WL (g : Nat → Nat) (k b e : Nat) (l : List Nat) : Prop := k = 1 ∧ e = b + l.length ∧ ∀ j, j < l.length → g (b + j) = l.getD j 0
theorem WL_inj {g : Nat → Nat} {k b e : Nat} {l l' : List Nat} (h : WL g k b e l) (h2 : WL g k b e l') : l = l' := by
  have hl : l.length = l'.length := by have := h.2.1; have := h2.2.1; omega
  refine List.ext_getElem hl (fun j h3 h4 => ?_)
  have a := h.2.2 j h3
  have b := h2.2.2 j h4
  rw [List.getD_eq_getElem?_getD, List.getElem?_eq_getElem h3, Option.getD_some] at a
  rw [List.getD_eq_getElem?_getD, List.getElem?_eq_getElem h4, Option.getD_some] at b
  omega
theorem obi {α : Type} {c : Prop} [Decidable c] (A B : Option α) : (ob0 (some (if c then (1 : Int32) else 0)) fun r => if r = 0 then A else B) = if c then B else A := by
  by_cases h : c
  · rw [if_pos h, if_pos h, ob0_s, if_neg one_ne0]
  · rw [if_neg h, if_neg h, ob0_s, if_pos rfl]
theorem cword {t : Nat} {g : Nat → Nat} (ht : t ≤ 120) (hg : ∀ i, i < t → g i ≤ 255) {ρ μ : Sg} {k b e v : Nat} (hC : TC t g ρ) (hK : TK t ρ μ k b e v) {i : Nat} (l : List Nat) (h1 : lenS.getD i 0 = l.length) (h2 : ∀ j, j < l.length → (bytS.getD i []).getD j 0 = nI (l.getD j 0) ∧ l.getD j 0 ≤ 255) (h6 : l.length ≤ 6) : f_X2_isWord i ρ = some (if WL g k b e l then 1 else 0) := by
  obtain ⟨k1, k2, k3, -, -, -, -, -, k4, kb, ke, -, -⟩ := hK
  rw [f_X2_isWord, k1, k2, k3, h1, pk_sub kb]
  by_cases hk : k = 1
  · rw [if_pos (show nI k = 1 by rw [hk]; rfl)]
    by_cases hl : e - b = l.length
    · rw [if_pos (by rw [hl])]
      have key := loop_up (P := fun f j => j ≤ l.length → (∀ q, q < j → g (b + q) = l.getD q 0) → f_X2_isWord_L28 i f (nI j) ρ = some (if WL g k b e l then 1 else 0)) l.length
        (fun f _ hq => by rw [f_X2_isWord_L28, h1, if_pos (nI_le (Nat.le_refl _) (by omega)), if_pos ⟨hk, by omega, hq⟩])
        (fun f j hj ih _ hq => by
          have hb := hg (b + j) (by omega)
          rw [f_X2_isWord_L28, h1, if_neg (nle hj (by omega)), k2, nI_add, chk_nI (by omega) (by omega), chk_nI hj (by omega), cl_nI (by omega), cl_nI (by omega), hC.2 _ (by omega), (h2 j hj).1, nI_1]
          by_cases hc : g (b + j) = l.getD j 0
          · rw [if_pos (by rw [hc])]
            refine ih (by omega) (fun q hq2 => ?_)
            by_cases e2 : q = j
            · subst e2; exact hc
            · exact hq q (by omega)
          · have := (h2 j hj).2
            rw [if_neg (fun q => hc ((nI_eq (by omega) (by omega)).mp q)), if_neg (fun w => hc (w.2.2 j hj))])
      exact key FU 0 (Nat.zero_le _) (by rw [FU_eq]; omega) (Nat.zero_le _) (fun q hq => by omega)
    · rw [if_neg (fun q => hl ((nI_eq (by omega) (by omega)).mp q)), if_neg (fun w => hl (by have := w.2.1; omega))]
  · rw [if_neg (show ¬ nI k = 1 from fun q => hk ((nI_eq (b := 1) (by omega) (by omega)).mp q)), if_neg (fun w => hk w.1)]
theorem mwordE {t : Nat} (ht : t ≤ 120) {ρ μ : Sg} {k b e v n : Nat} (hn : n ≤ 6) (hK : TK t ρ μ k b e v) : f_X5_isWord (nI n) μ = some (if k = 1 ∧ e = b + n then 1 else 0) := by
  obtain ⟨-, -, -, -, k1, k2, k3, -, k4, kb, ke, -, -⟩ := hK
  rw [f_X5_isWord, k1, k2, k3, pk_sub kb]
  by_cases hk : k = 1
  · rw [if_pos (show nI k = 1 by rw [hk]; rfl)]
    by_cases hl : e - b = n
    · rw [if_pos (by rw [hl]), if_pos ⟨hk, by omega⟩]
    · rw [if_neg (fun q => hl ((nI_eq (by omega) (by omega)).mp q)), if_neg (by omega)]
  · rw [if_neg (show ¬ nI k = 1 from fun q => hk ((nI_eq (b := 1) (by omega) (by omega)).mp q)), if_neg (fun w => hk w.1)]
theorem has3 {t : Nat} {g : Nat → Nat} (ht : t ≤ 120) (hg : ∀ i, i < t → g i ≤ 255) {ρ μ : Sg} {k b e v o x y z : Nat} (hM : TM t g μ) (hK : TK t ρ μ k b e v) (ho : b + o + 3 ≤ e) (hx : x ≤ 255) (hy : y ≤ 255) (hz : z ≤ 255) : f_X5_has3 (nI o) (nI x) (nI y) (nI z) μ = some (if g (b + o) = x ∧ g (b + o + 1) = y ∧ g (b + o + 2) = z then 1 else 0) := by
  obtain ⟨-, -, -, -, k1, k2, k3, -, k4, kb, ke, -, -⟩ := hK
  have a0 := hg (b + o) (by omega)
  have a1 := hg (b + o + 1) (by omega)
  have a2 := hg (b + o + 2) (by omega)
  rw [f_X5_has3, k2, nI_add, nI_1, show (2 : Int32) = nI 2 from rfl, nI_add, byt ht hM (by omega), byt ht hM (by omega), byt ht hM (by omega), ob0_s, ob0_s, ob0_s]
  by_cases c0 : g (b + o) = x
  · rw [if_pos (by rw [c0])]
    by_cases c1 : g (b + o + 1) = y
    · rw [if_pos (by rw [c1])]
      by_cases c2 : g (b + o + 2) = z
      · rw [if_pos (by rw [c2]), if_pos ⟨c0, c1, c2⟩]
      · rw [if_neg (fun q => c2 ((nI_eq (by omega) (by omega)).mp q)), if_neg (fun w => c2 w.2.2)]
    · rw [if_neg (fun q => c1 ((nI_eq (by omega) (by omega)).mp q)), if_neg (fun w => c1 w.2.1)]
  · rw [if_neg (fun q => c0 ((nI_eq (by omega) (by omega)).mp q)), if_neg (fun w => c0 w.1)]
theorem WL4 {g : Nat → Nat} {k b e x0 x1 x2 x3 : Nat} : WL g k b e [x0, x1, x2, x3] ↔ (k = 1 ∧ e = b + 4) ∧ (g (b + 0) = x0 ∧ g (b + 0 + 1) = x1 ∧ g (b + 0 + 2) = x2) ∧ (g (b + 1) = x1 ∧ g (b + 1 + 1) = x2 ∧ g (b + 1 + 2) = x3) := by
  constructor
  · rintro ⟨h1, h2, h3⟩
    exact ⟨⟨h1, h2⟩, ⟨h3 0 (by simp), h3 1 (by simp), h3 2 (by simp)⟩, h3 1 (by simp), h3 2 (by simp), h3 3 (by simp)⟩
  · rintro ⟨⟨h1, h2⟩, ⟨a0, a1, a2⟩, b1, b2, b3⟩
    refine ⟨h1, h2, fun j hj => ?_⟩
    have c : j = 0 ∨ j = 1 ∨ j = 2 ∨ j = 3 := by simp at hj; omega
    rcases c with rfl | rfl | rfl | rfl
    · exact a0
    · exact a1
    · exact a2
    · exact b3
theorem WL5 {g : Nat → Nat} {k b e x0 x1 x2 x3 x4 : Nat} : WL g k b e [x0, x1, x2, x3, x4] ↔ (k = 1 ∧ e = b + 5) ∧ (g (b + 0) = x0 ∧ g (b + 0 + 1) = x1 ∧ g (b + 0 + 2) = x2) ∧ (g (b + 2) = x2 ∧ g (b + 2 + 1) = x3 ∧ g (b + 2 + 2) = x4) := by
  constructor
  · rintro ⟨h1, h2, h3⟩
    exact ⟨⟨h1, h2⟩, ⟨h3 0 (by simp), h3 1 (by simp), h3 2 (by simp)⟩, h3 2 (by simp), h3 3 (by simp), h3 4 (by simp)⟩
  · rintro ⟨⟨h1, h2⟩, ⟨a0, a1, a2⟩, b1, b2, b3⟩
    refine ⟨h1, h2, fun j hj => ?_⟩
    have c : j = 0 ∨ j = 1 ∨ j = 2 ∨ j = 3 ∨ j = 4 := by simp at hj; omega
    rcases c with rfl | rfl | rfl | rfl | rfl
    · exact a0
    · exact a1
    · exact a2
    · exact b2
    · exact b3
theorem WL6 {g : Nat → Nat} {k b e x0 x1 x2 x3 x4 x5 : Nat} : WL g k b e [x0, x1, x2, x3, x4, x5] ↔ (k = 1 ∧ e = b + 6) ∧ (g (b + 0) = x0 ∧ g (b + 0 + 1) = x1 ∧ g (b + 0 + 2) = x2) ∧ (g (b + 3) = x3 ∧ g (b + 3 + 1) = x4 ∧ g (b + 3 + 2) = x5) := by
  constructor
  · rintro ⟨h1, h2, h3⟩
    exact ⟨⟨h1, h2⟩, ⟨h3 0 (by simp), h3 1 (by simp), h3 2 (by simp)⟩, h3 3 (by simp), h3 4 (by simp), h3 5 (by simp)⟩
  · rintro ⟨⟨h1, h2⟩, ⟨a0, a1, a2⟩, b1, b2, b3⟩
    refine ⟨h1, h2, fun j hj => ?_⟩
    have c : j = 0 ∨ j = 1 ∨ j = 2 ∨ j = 3 ∨ j = 4 ∨ j = 5 := by simp at hj; omega
    rcases c with rfl | rfl | rfl | rfl | rfl | rfl
    · exact a0
    · exact a1
    · exact a2
    · exact b1
    · exact b2
    · exact b3
theorem mfour {t : Nat} {g : Nat → Nat} (ht : t ≤ 120) (hg : ∀ i, i < t → g i ≤ 255) {ρ μ : Sg} {k b e v : Nat} (hM : TM t g μ) (hK : TK t ρ μ k b e v) (x0 x1 x2 x3 : Nat) (h0 : x0 ≤ 255 ∧ x1 ≤ 255 ∧ x2 ≤ 255 ∧ x3 ≤ 255) : f_X5_isFour (nI x0) (nI x1) (nI x2) (nI x3) μ = some (if WL g k b e [x0, x1, x2, x3] then 1 else 0) := by
  rw [f_X5_isFour, show (4 : Int32) = nI 4 from rfl, mwordE ht (by omega) hK, obi]
  by_cases c : k = 1 ∧ e = b + 4
  · rw [if_pos c, show (0 : Int32) = nI 0 from rfl, has3 ht hg (o := 0) hM hK (by omega) h0.1 h0.2.1 h0.2.2.1, show nI 0 = 0 from rfl, obi]
    by_cases c1 : g (b + 0) = x0 ∧ g (b + 0 + 1) = x1 ∧ g (b + 0 + 2) = x2
    · rw [if_pos c1, show (1 : Int32) = nI 1 from rfl, has3 ht hg (o := 1) hM hK (by omega) h0.2.1 h0.2.2.1 h0.2.2.2, show nI 1 = 1 from rfl, obi]
      by_cases c2 : g (b + 1) = x1 ∧ g (b + 1 + 1) = x2 ∧ g (b + 1 + 2) = x3
      · rw [if_pos c2, if_pos (WL4.mpr ⟨c, c1, c2⟩)]
      · rw [if_neg c2, if_neg (fun w => c2 (WL4.mp w).2.2)]
    · rw [if_neg c1, if_neg (fun w => c1 (WL4.mp w).2.1)]
  · rw [if_neg c, if_neg (fun w => c (WL4.mp w).1)]
theorem mfive {t : Nat} {g : Nat → Nat} (ht : t ≤ 120) (hg : ∀ i, i < t → g i ≤ 255) {ρ μ : Sg} {k b e v : Nat} (hM : TM t g μ) (hK : TK t ρ μ k b e v) (x0 x1 x2 x3 x4 : Nat) (h0 : x0 ≤ 255 ∧ x1 ≤ 255 ∧ x2 ≤ 255 ∧ x3 ≤ 255 ∧ x4 ≤ 255) : f_X5_isFive (nI x0) (nI x1) (nI x2) (nI x3) (nI x4) μ = some (if WL g k b e [x0, x1, x2, x3, x4] then 1 else 0) := by
  rw [f_X5_isFive, show (5 : Int32) = nI 5 from rfl, mwordE ht (by omega) hK, obi]
  by_cases c : k = 1 ∧ e = b + 5
  · rw [if_pos c, show (0 : Int32) = nI 0 from rfl, has3 ht hg (o := 0) hM hK (by omega) h0.1 h0.2.1 h0.2.2.1, show nI 0 = 0 from rfl, obi]
    by_cases c1 : g (b + 0) = x0 ∧ g (b + 0 + 1) = x1 ∧ g (b + 0 + 2) = x2
    · rw [if_pos c1, show (2 : Int32) = nI 2 from rfl, has3 ht hg (o := 2) hM hK (by omega) h0.2.2.1 h0.2.2.2.1 h0.2.2.2.2, obi]
      by_cases c2 : g (b + 2) = x2 ∧ g (b + 2 + 1) = x3 ∧ g (b + 2 + 2) = x4
      · rw [if_pos c2, if_pos (WL5.mpr ⟨c, c1, c2⟩)]
      · rw [if_neg c2, if_neg (fun w => c2 (WL5.mp w).2.2)]
    · rw [if_neg c1, if_neg (fun w => c1 (WL5.mp w).2.1)]
  · rw [if_neg c, if_neg (fun w => c (WL5.mp w).1)]
theorem msix {t : Nat} {g : Nat → Nat} (ht : t ≤ 120) (hg : ∀ i, i < t → g i ≤ 255) {ρ μ : Sg} {k b e v : Nat} (hM : TM t g μ) (hK : TK t ρ μ k b e v) (x0 x1 x2 x3 x4 x5 : Nat) (h0 : x0 ≤ 255 ∧ x1 ≤ 255 ∧ x2 ≤ 255 ∧ x3 ≤ 255 ∧ x4 ≤ 255 ∧ x5 ≤ 255) : f_X5_isSix (nI x0) (nI x1) (nI x2) (nI x3) (nI x4) (nI x5) μ = some (if WL g k b e [x0, x1, x2, x3, x4, x5] then 1 else 0) := by
  rw [f_X5_isSix, show (6 : Int32) = nI 6 from rfl, mwordE ht (by omega) hK, obi]
  by_cases c : k = 1 ∧ e = b + 6
  · rw [if_pos c, show (0 : Int32) = nI 0 from rfl, has3 ht hg (o := 0) hM hK (by omega) h0.1 h0.2.1 h0.2.2.1, show nI 0 = 0 from rfl, obi]
    by_cases c1 : g (b + 0) = x0 ∧ g (b + 0 + 1) = x1 ∧ g (b + 0 + 2) = x2
    · rw [if_pos c1, show (3 : Int32) = nI 3 from rfl, has3 ht hg (o := 3) hM hK (by omega) h0.2.2.2.1 h0.2.2.2.2.1 h0.2.2.2.2.2, obi]
      by_cases c2 : g (b + 3) = x3 ∧ g (b + 3 + 1) = x4 ∧ g (b + 3 + 2) = x5
      · rw [if_pos c2, if_pos (WL6.mpr ⟨c, c1, c2⟩)]
      · rw [if_neg c2, if_neg (fun w => c2 (WL6.mp w).2.2)]
    · rw [if_neg c1, if_neg (fun w => c1 (WL6.mp w).2.1)]
  · rw [if_neg c, if_neg (fun w => c (WL6.mp w).1)]
def wSaid : List Nat := [115, 97, 105, 100]
def wHints : List Nat := [104, 105, 110, 116, 115]
def wPerson : List Nat := [112, 101, 114, 115, 111, 110]
def wLady : List Nat := [108, 97, 100, 121]
def wDuke : List Nat := [100, 117, 107, 101]
def wClergy : List Nat := [99, 108, 101, 114, 103, 121]
def wBishop : List Nat := [98, 105, 115, 104, 111, 112]
def wCowman : List Nat := [99, 111, 119, 109, 97, 110]
def wYoung : List Nat := [121, 111, 117, 110, 103]
def wBuild : List Nat := [98, 117, 105, 108, 100]
def wOwed : List Nat := [111, 119, 101, 100]
def wBore : List Nat := [98, 111, 114, 101]
def kW (g : Nat → Nat) (k b e : Nat) : Int32 := if WL g k b e wPerson then 0 else if WL g k b e wLady then 1 else if WL g k b e wDuke then 2 else if WL g k b e wClergy then 3 else if WL g k b e wBishop then 4 else if WL g k b e wCowman then 5 else if WL g k b e wYoung then 6 else -1
theorem kW_cases (g : Nat → Nat) (k b e : Nat) : kW g k b e = -1 ∨ ((∃ q : Nat, q ≤ 6 ∧ kW g k b e = nI q) ∧ k = 1) := by
  unfold kW
  split
  · rename_i w; exact Or.inr ⟨⟨0, by omega, rfl⟩, w.1⟩
  · split
    · rename_i w; exact Or.inr ⟨⟨1, by omega, rfl⟩, w.1⟩
    · split
      · rename_i w; exact Or.inr ⟨⟨2, by omega, rfl⟩, w.1⟩
      · split
        · rename_i w; exact Or.inr ⟨⟨3, by omega, rfl⟩, w.1⟩
        · split
          · rename_i w; exact Or.inr ⟨⟨4, by omega, rfl⟩, w.1⟩
          · split
            · rename_i w; exact Or.inr ⟨⟨5, by omega, rfl⟩, w.1⟩
            · split
              · rename_i w; exact Or.inr ⟨⟨6, by omega, rfl⟩, w.1⟩
              · exact Or.inl rfl
theorem kW_no {g : Nat → Nat} {k b e : Nat} {l : List Nat} (w : WL g k b e l) (h : l ≠ wPerson ∧ l ≠ wLady ∧ l ≠ wDuke ∧ l ≠ wClergy ∧ l ≠ wBishop ∧ l ≠ wCowman ∧ l ≠ wYoung) : kW g k b e = -1 := by
  unfold kW
  rw [if_neg (fun q => h.1 (WL_inj w q)), if_neg (fun q => h.2.1 (WL_inj w q)), if_neg (fun q => h.2.2.1 (WL_inj w q)), if_neg (fun q => h.2.2.2.1 (WL_inj w q)), if_neg (fun q => h.2.2.2.2.1 (WL_inj w q)), if_neg (fun q => h.2.2.2.2.2.1 (WL_inj w q)), if_neg (fun q => h.2.2.2.2.2.2 (WL_inj w q))]
theorem ckind {t : Nat} {g : Nat → Nat} (ht : t ≤ 120) (hg : ∀ i, i < t → g i ≤ 255) {ρ μ : Sg} {k b e v : Nat} (hC : TC t g ρ) (hK : TK t ρ μ k b e v) : f_X2_kindOfWord ρ = some (kW g k b e) := by
  rw [f_X2_kindOfWord, cword ht hg hC hK (i := 2) wPerson (by decide) (by decide) (by decide), obi, cword ht hg hC hK (i := 3) wLady (by decide) (by decide) (by decide), obi, cword ht hg hC hK (i := 4) wDuke (by decide) (by decide) (by decide), obi, cword ht hg hC hK (i := 5) wClergy (by decide) (by decide) (by decide), obi, cword ht hg hC hK (i := 6) wBishop (by decide) (by decide) (by decide), obi, cword ht hg hC hK (i := 7) wCowman (by decide) (by decide) (by decide), obi, cword ht hg hC hK (i := 8) wYoung (by decide) (by decide) (by decide), obi]
  simp only [kW, apply_ite some]
theorem mkind {t : Nat} {g : Nat → Nat} (ht : t ≤ 120) (hg : ∀ i, i < t → g i ≤ 255) {ρ μ : Sg} {k b e v : Nat} (hM : TM t g μ) (hK : TK t ρ μ k b e v) : f_X5_kindHere μ = some (kW g k b e) := by
  have a0 : f_X5_isSix 112 101 114 115 111 110 μ = some (if WL g k b e wPerson then 1 else 0) := msix ht hg hM hK 112 101 114 115 111 110 (by omega)
  have a1 : f_X5_isFour 108 97 100 121 μ = some (if WL g k b e wLady then 1 else 0) := mfour ht hg hM hK 108 97 100 121 (by omega)
  have a2 : f_X5_isFour 100 117 107 101 μ = some (if WL g k b e wDuke then 1 else 0) := mfour ht hg hM hK 100 117 107 101 (by omega)
  have a3 : f_X5_isSix 99 108 101 114 103 121 μ = some (if WL g k b e wClergy then 1 else 0) := msix ht hg hM hK 99 108 101 114 103 121 (by omega)
  have a4 : f_X5_isSix 98 105 115 104 111 112 μ = some (if WL g k b e wBishop then 1 else 0) := msix ht hg hM hK 98 105 115 104 111 112 (by omega)
  have a5 : f_X5_isSix 99 111 119 109 97 110 μ = some (if WL g k b e wCowman then 1 else 0) := msix ht hg hM hK 99 111 119 109 97 110 (by omega)
  have a6 : f_X5_isFive 121 111 117 110 103 μ = some (if WL g k b e wYoung then 1 else 0) := mfive ht hg hM hK 121 111 117 110 103 (by omega)
  rw [f_X5_kindHere, a0, obi, a1, obi, a2, obi, a3, obi, a4, obi, a5, obi, a6, obi]
  simp only [kW, apply_ite some]
def FCr (ρ ρ' : Sg) : Prop := (∀ c, (c < 25 ∨ 37 ≤ c) → c ≠ 37 → ρ' c = ρ c) ∧ ρ' 37 1 = ρ 37 1 ∧ ρ' 25 7 = ρ 25 7
def FMr (μ μ' : Sg) : Prop := (∀ c, c ≠ 49 → c ≠ 50 → μ' c = μ c) ∧ μ' 49 4 = μ 49 4 ∧ μ' 49 7 = μ 49 7
theorem FCr.rf (a : Sg) : FCr a a := ⟨fun _ _ _ => rfl, rfl, rfl⟩
theorem FMr.rf (a : Sg) : FMr a a := ⟨fun _ _ _ => rfl, rfl, rfl⟩
theorem FCr.tr {a b c : Sg} (h : FCr a b) (h2 : FCr b c) : FCr a c := ⟨fun k x y => (h2.1 k x y).trans (h.1 k x y), h2.2.1.trans h.2.1, h2.2.2.trans h.2.2⟩
theorem FMr.tr {a b c : Sg} (h : FMr a b) (h2 : FMr b c) : FMr a c := ⟨fun k x y => (h2.1 k x y).trans (h.1 k x y), h2.2.1.trans h.2.1, h2.2.2.trans h.2.2⟩
theorem FC.r {a b : Sg} (h : FC a b) : FCr a b := ⟨fun k _ y => h.1 k y, h.2, by rw [h.1 25 (by omega)]⟩
theorem FM.r {a b : Sg} (h : FM a b) : FMr a b := ⟨fun k y _ => h.1 k y, h.2.1, h.2.2⟩
theorem FCr.cty {a b : Sg} (h : FrC 25 a b) : FCr a b := ⟨fun k x _ => h.1 k (by omega), by rw [h.1 37 (by omega)], h.2⟩
theorem FMr.row {μ : Sg} {i : Nat} {v : Int32} : FMr μ (up2 μ 50 i v) := ⟨fun k _ y => up2_ne _ _ y, by rw [up2_ne _ _ (by omega)], by rw [up2_ne _ _ (by omega)]⟩
def PP (t : Nat) (g : Nat → Nat) (d : Nat) (ρ μ : Sg) (N k b e v : Nat) : Prop := TC t g ρ ∧ TM t g μ ∧ TK t ρ μ k b e v ∧ Ok N d (μ 50) ∧ CR N 25 ρ (μ 50)
def Bad (t : Nat) (ρ μ : Sg) (c m : Option (Int32 × Sg)) : Prop := ∃ ρ' μ' b, c = some (0, ρ') ∧ m = some (0, μ') ∧ ρ' 37 3 = nI b ∧ μ' 49 17 = nI b ∧ b ≤ t ∧ FCr ρ ρ' ∧ FMr μ μ'
def Gd (t : Nat) (g : Nat → Nat) (d : Nat) (ρ μ : Sg) (N b0 : Nat) (c m : Option (Int32 × Sg)) : Prop := ∃ ρ' μ' k b e v, c = some (1, ρ') ∧ m = some (1, μ') ∧ PP t g d ρ' μ' N k b e v ∧ b0 ≤ b ∧ FCr ρ ρ' ∧ FMr μ μ'
theorem TK.cg {t : Nat} {ρ μ ρ' μ' : Sg} {k b e v : Nat} (h : TK t ρ μ k b e v) (h1 : ρ' 37 = ρ 37) (h2 : μ' 49 = μ 49) : TK t ρ' μ' k b e v := by
  unfold TK
  rw [h1, h2]
  exact h
theorem TC.cg {t : Nat} {g : Nat → Nat} {ρ ρ' : Sg} (h : TC t g ρ) (h1 : ρ' 37 = ρ 37) (h2 : ρ' 38 = ρ 38) : TC t g ρ' := by unfold TC; rw [h1, h2]; exact h
theorem TM.cg {t : Nat} {g : Nat → Nat} {μ μ' : Sg} (h : TM t g μ) (h1 : μ' 49 = μ 49) (h2 : μ' 55 = μ 55) : TM t g μ' := by unfold TM; rw [h1, h2]; exact h
theorem PP.next {t : Nat} {g : Nat → Nat} (ht : t ≤ 120) (hg : ∀ i, i < t → g i ≤ 255) {d N k b e v : Nat} {ρ μ : Sg} (h : PP t g d ρ μ N k b e v) : ∃ ρ' μ' k' b' e' v', f_X2_step ρ = some ρ' ∧ f_X5_nextToken μ = some μ' ∧ FC ρ ρ' ∧ FM μ μ' ∧ PP t g d ρ' μ' N k' b' e' v' ∧ e ≤ b' := by
  obtain ⟨hC, hM, hK, ok, cr⟩ := h
  obtain ⟨ρ', μ', k', b', e', v', a1, a2, a3, a4, a5, a6⟩ := tkNext ht hg (q := e) hK.2.2.2.2.2.2.2.2.2.2.1 hC hM hK.2.2.1 hK.2.2.2.2.2.2.1
  have e50 : μ' 50 = μ 50 := a4.1 50 (by omega)
  refine ⟨ρ', μ', k', b', e', v', a1, a2, a3, a4, ⟨hC.fr a3, hM.fr a4, a5, by rw [e50]; exact ok, ?_⟩, a6⟩
  rw [e50]
  exact cr.same (fun q x y => a3.1 q (by omega)) ok.1
theorem PP.num {t : Nat} {g : Nat → Nat} (ht : t ≤ 120) (hg : ∀ i, i < t → g i ≤ 255) {d N k b e v m : Nat} {ρ μ : Sg} (hm : m ≤ 9999) (h : PP t g d ρ μ N k b e v) : (f_X2_readNumber (nI m) ρ = some (-1, ρ) ∧ f_X5_isNumber 0 (nI m) μ = some (0, up2 μ 49 17 (nI b))) ∨ (v ≤ m ∧ μ 49 16 = nI v ∧ f_X5_isNumber 0 (nI m) μ = some (1, μ) ∧ ∀ μ1 : Sg, μ1 49 = μ 49 → μ1 55 = μ 55 → ∃ ρ' μ' k' b' e' v', f_X2_readNumber (nI m) ρ = some (nI v, ρ') ∧ f_X5_nextToken μ1 = some μ' ∧ FC ρ ρ' ∧ FM μ1 μ' ∧ TC t g ρ' ∧ TM t g μ' ∧ TK t ρ' μ' k' b' e' v' ∧ e ≤ b') := by
  obtain ⟨hC, hM, hK, ok, cr⟩ := h
  obtain ⟨k1, k2, k3, k5, j1, j2, j3, j5, k4, kb, ke, -, hv⟩ := id hK
  have fa : f_X5_fails μ = some (0, up2 μ 49 17 (nI b)) := by rw [f_X5_fails, j2, lt_s1]
  by_cases h2 : k = 2
  · subst h2
    have v5 := k5 rfl
    have v6 := j5 rfl
    have m1 : f_X5_isIn (nI v).toInt64 (0 : Int32).toInt64 (nI m).toInt64 μ = some (if (0 : Int) ≤ (nI v).toInt ∧ (nI v).toInt ≤ (m : Int) then 1 else 0) := wM (by decide) (by rw [Int32.toInt_toInt64, nI_toInt (by omega)]) μ
    have ev : (nI v).toInt = (v : Int) := nI_toInt (by omega)
    by_cases h3 : v ≤ m
    · refine Or.inr ⟨h3, v6, ?_, fun μ1 u1 u2 => ?_⟩
      · rw [f_X5_isNumber, j1, if_pos (show nI 2 = 2 from rfl), v6, m1, ob0_s, if_pos (show (0 : Int) ≤ (nI v).toInt ∧ (nI v).toInt ≤ (m : Int) by rw [ev]; omega), if_neg one_ne0]
      · obtain ⟨ρ', μ', k', b', e', v', a1, a2, a3, a4, a5, a6⟩ := tkNext ht hg (q := e) ke hC (hM.cg u1 u2) k3 (by rw [u1]; exact j3)
        refine ⟨ρ', μ', k', b', e', v', ?_, a2, a3, a4, hC.fr a3, (hM.cg u1 u2).fr a4, a5, a6⟩
        rw [f_X2_readNumber, k1, if_pos (show nI 2 = 2 from rfl), v5, show min 10000 v = v by omega, if_pos (nI_le h3 (by omega)), a1, ob1_s]
    · refine Or.inl ⟨?_, ?_⟩
      · rw [f_X2_readNumber, k1, if_pos (show nI 2 = 2 from rfl), v5, if_neg (nle (by omega) (by omega))]
      · rw [f_X5_isNumber, j1, if_pos (show nI 2 = 2 from rfl), v6, m1, ob0_s, if_neg (show ¬ ((0 : Int) ≤ (nI v).toInt ∧ (nI v).toInt ≤ (m : Int)) by rw [ev]; omega), if_pos rfl, fa, ob2_s, if_pos rfl]
  · have n2 : ¬ nI k = 2 := fun q => h2 ((nI_eq (b := 2) (by omega) (by omega)).mp q)
    refine Or.inl ⟨?_, ?_⟩
    · rw [f_X2_readNumber, k1, if_neg n2]
    · rw [f_X5_isNumber, j1, if_neg n2, fa, ob2_s, if_pos rfl]
theorem Bad.mk {t : Nat} {g : Nat → Nat} {d N k b e v : Nat} {ρ μ ρ1 μ1 : Sg} (h : PP t g d ρ1 μ1 N k b e v) (f1 : FCr ρ ρ1) (f2 : FMr μ μ1) : Bad t ρ μ (some (0, ρ1)) (some (0, up2 μ1 49 17 (nI b))) :=
  ⟨ρ1, _, b, rfl, rfl, h.2.2.1.2.1, up2_at .., by have := h.2.2.1.2.2.2.2.2.2.2.2.2.1; have := h.2.2.1.2.2.2.2.2.2.2.2.2.2.1; omega, f1, f2.tr (FM.up (by omega) (by omega)).r⟩
theorem Bad.lift {t : Nat} {ρ μ ρ1 μ1 : Sg} {c m : Option (Int32 × Sg)} (h : Bad t ρ1 μ1 c m) (f1 : FCr ρ ρ1) (f2 : FMr μ μ1) : Bad t ρ μ c m := by
  obtain ⟨a, b, q, h1, h2, h3, h4, h5, h6, h7⟩ := h
  exact ⟨a, b, q, h1, h2, h3, h4, h5, f1.tr h6, f2.tr h7⟩
theorem Gd.lift {t : Nat} {g : Nat → Nat} {d N b0 b1 : Nat} {ρ μ ρ1 μ1 : Sg} {c m : Option (Int32 × Sg)} (h : Gd t g d ρ1 μ1 N b1 c m) (hb : b0 ≤ b1) (f1 : FCr ρ ρ1) (f2 : FMr μ μ1) : Gd t g d ρ μ N b0 c m := by
  obtain ⟨a, b, k, b', e, v, h1, h2, h3, h4, h6, h7⟩ := h
  exact ⟨a, b, k, b', e, v, h1, h2, h3, by omega, f1.tr h6, f2.tr h7⟩
theorem att {t : Nat} {g : Nat → Nat} (ht : t ≤ 120) (hg : ∀ i, i < t → g i ≤ 255) {d N k b e v p a i : Nat} {ρ μ : Sg} (h : PP t g d ρ μ N k b e v) (hp : p < N) (ha : a < 5) (l : List Nat) (h1 : lenS.getD i 0 = l.length) (h2 : ∀ j, j < l.length → (bytS.getD i []).getD j 0 = nI (l.getD j 0) ∧ l.getD j 0 ≤ 255) (h6 : l.length ≤ 6) : Bad t ρ μ (f_X2_readAttribute i (25 + 4 + p) (nI a) ρ) (f_X5_perhaps (if WL g k b e l then 1 else 0) (nI (10 + 5 * p + a)) (nI (bnd a)) μ) ∨ Gd t g d ρ μ N b (f_X2_readAttribute i (25 + 4 + p) (nI a) ρ) (f_X5_perhaps (if WL g k b e l then 1 else 0) (nI (10 + 5 * p + a)) (nI (bnd a)) μ) := by
  have hN := h.2.2.2.1.1
  have hbn := bnd_lt a
  rw [f_X2_readAttribute, cword ht hg h.1 h.2.2.1 l h1 h2 h6, obi, f_X5_perhaps]
  by_cases w : WL g k b e l
  · rw [if_pos w, if_pos w, if_neg one_ne0]
    obtain ⟨ρ1, μ1, k1, b1, e1, v1, s1, s2, f1, f2, h', hb1⟩ := h.next ht hg
    have hbe : b ≤ e := h.2.2.1.2.2.2.2.2.2.2.2.2.1
    have hb1e : b1 ≤ e1 := h'.2.2.1.2.2.2.2.2.2.2.2.2.1
    rw [s1, ob1_s, cmost ha, ob0_s, s2, ob1_s]
    rcases h'.num ht hg (m := bnd a) (by omega) with ⟨q1, q2⟩ | ⟨hv, ev, q2, q3⟩
    · rw [q1, q2, ob2_s, ob2_s, if_pos rfl, if_pos rfl]
      exact Or.inl (Bad.mk h' f1.r f2.r)
    · obtain ⟨ρ2, μ2, k2, b2, e2, v2, r1, r2, g1, g2, hC2, hM2, hK2, hb2⟩ := q3 (up2 μ1 50 (10 + 5 * p + a) (nI v1)) (up2_ne _ _ (by omega)) (up2_ne _ _ (by omega))
      rw [r1, q2, ob2_s, ob2_s, if_neg (nI_ne_m1 (by omega)), if_neg one_ne0, csetA ha, ob1_s, chk_nI (by omega) (by omega), cl_nI (by omega), ev, lt_s1, r2, ob1_s]
      have e50 : μ2 50 = upd (μ1 50) (10 + 5 * p + a) (nI v1) := by rw [g2.1 50 (by omega), up2_k]
      refine Or.inr ⟨_, _, k2, b2, e2, v2, rfl, rfl, ⟨hC2.cg (up2_ne _ _ (by omega)) (up2_ne _ _ (by omega)), hM2, hK2.cg (up2_ne _ _ (by omega)) rfl, ?_, ?_⟩, by omega, ?_, ?_⟩
      · rw [e50]; exact Ok_person h'.2.2.2.1 hp ha ⟨v1, hv, rfl⟩
      · rw [e50]
        exact CR_p (h'.2.2.2.2.same (fun q x y => g1.1 q (by omega)) hN) (by omega) ha
      · exact (f1.r.tr g1.r).tr (FCr.cty (FrC.up (by omega) (by omega) (by omega)))
      · exact (f2.r.tr FMr.row).tr g2.r
  · rw [if_neg w, if_neg w, if_pos rfl]
    exact Or.inr ⟨ρ, μ, k, b, e, v, rfl, rfl, h, Nat.le_refl b, FCr.rf ρ, FMr.rf μ⟩
theorem sayT {t : Nat} {g : Nat → Nat} (ht : t ≤ 120) (hg : ∀ i, i < t → g i ≤ 255) {d N k b e v : Nat} {ρ μ : Sg} (h : PP t g d ρ μ N k b e v) : ∃ c m, (ob1 (f_X2_step ρ) fun s18 => ob2 (f_X2_readSaying 25 s18) fun r20 s21 => chkb r20 <| some (r20, s21)) = c ∧ f_X5_saidHere μ = m ∧ (Bad t ρ μ c m ∨ Gd t g d ρ μ N e c m) := by
  have hN := h.2.2.2.1.1
  refine ⟨_, _, rfl, rfl, ?_⟩
  obtain ⟨ρ1, μ1, k1, b1, e1, v1, s1, s2, f1, f2, h1, hb1⟩ := h.next ht hg
  have be1 : b1 ≤ e1 := h1.2.2.1.2.2.2.2.2.2.2.2.2.1
  rw [s1, ob1_s, f_X5_saidHere, s2, ob1_s, f_X2_readSaying, show (5 : Int32) = nI 5 from rfl, show (7 : Int32) = nI 7 from rfl, show (20 : Int32) = nI 20 from rfl]
  rcases h1.num ht hg (m := 5) (by omega) with ⟨q1, q2⟩ | ⟨hv1, ev1, q2, q3⟩
  · rw [q1, q2, ob2_s, ob2_s, if_pos rfl, if_pos rfl, ob2_s, chkb_ok (Or.inl rfl)]
    exact Or.inl (Bad.mk h1 f1.r f2.r)
  · obtain ⟨ρ2, μ2, k2, b2, e2, v2, r1, r2, g1, g2, hC2, hM2, hK2, hb2⟩ := q3 μ1 rfl rfl
    have e50 : μ2 50 = μ1 50 := g2.1 50 (by omega)
    have h2 : PP t g d ρ2 μ2 N k2 b2 e2 v2 := ⟨hC2, hM2, hK2, by rw [e50]; exact h1.2.2.2.1, by rw [e50]; exact h1.2.2.2.2.same (fun q x y => g1.1 q (by omega)) hN⟩
    have be2 : b2 ≤ e2 := hK2.2.2.2.2.2.2.2.2.2.1
    rw [r1, q2, ob2_s, ob2_s, if_neg (nI_ne_m1 (by omega)), if_neg one_ne0, r2, ob1_s]
    rcases h2.num ht hg (m := 7) (by omega) with ⟨p1, p2⟩ | ⟨hv2, ev2, p2, p3⟩
    · rw [p1, p2, ob2_s, ob2_s, if_pos rfl, if_pos rfl, ob2_s, chkb_ok (Or.inl rfl)]
      exact Or.inl (Bad.mk h2 (f1.r.tr g1.r) (f2.r.tr g2.r))
    · obtain ⟨ρ3, μ3, k3, b3, e3, v3, t1, t2, j1, j2, hC3, hM3, hK3, hb3⟩ := p3 μ2 rfl rfl
      have e50' : μ3 50 = μ2 50 := j2.1 50 (by omega)
      have h3 : PP t g d ρ3 μ3 N k3 b3 e3 v3 := ⟨hC3, hM3, hK3, by rw [e50']; exact h2.2.2.2.1, by rw [e50']; exact h2.2.2.2.2.same (fun q x y => j1.1 q (by omega)) hN⟩
      have be3 : b3 ≤ e3 := hK3.2.2.2.2.2.2.2.2.2.1
      rw [t1, p2, ob2_s, ob2_s, if_neg (nI_ne_m1 (by omega)), if_neg one_ne0, t2, ob1_s]
      rcases h3.num ht hg (m := 20) (by omega) with ⟨w1, w2⟩ | ⟨hv3, ev3, w2, w3⟩
      · rw [w1, w2, ob2_s, ob2_s, if_pos rfl, if_pos rfl, ob2_s, chkb_ok (Or.inl rfl)]
        exact Or.inl (Bad.mk h3 ((f1.r.tr g1.r).tr j1.r) ((f2.r.tr g2.r).tr j2.r))
      · obtain ⟨ρ4, μ4, k4, b4, e4, v4, x1, x2, y1, y2, hC4, hM4, hK4, hb4⟩ := w3 (up2 μ3 50 (4 + v1) (nI (100 * v2 + v3))) (up2_ne _ _ (by omega)) (up2_ne _ _ (by omega))
        rw [x1, w2, ob2_s, ob2_s, if_neg (nI_ne_m1 (by omega)), if_neg one_ne0, f_X4_saying, ob0_s, Sy_mk (by omega) hv3, chk_nI (by omega) (by omega), cl_nI (by omega), lt_s1, ob2_s, chkb_ok (Or.inr rfl), ev1, ev2, ev3, Sy_mk (by omega) hv3, add4, chk_nI (by omega) (by omega), cl_nI (by omega), lt_s1, x2, ob1_s]
        have e50 : μ4 50 = upd (μ3 50) (4 + v1) (nI (100 * v2 + v3)) := by rw [y2.1 50 (by omega), up2_k]
        refine Or.inr ⟨_, _, k4, b4, e4, v4, rfl, rfl, ⟨hC4.cg (up2_ne _ _ (by omega)) (up2_ne _ _ (by omega)), hM4, hK4.cg (up2_ne _ _ (by omega)) rfl, ?_, ?_⟩, by omega, ?_, ?_⟩
        · rw [e50]; exact Ok_list h3.2.2.2.1 (by omega) ⟨v2, v3, by omega, hv3, rfl⟩
        · rw [e50]
          exact CR_l (h3.2.2.2.2.same (fun q x y => y1.1 q (by omega)) hN) (by omega)
        · exact (((f1.r.tr g1.r).tr j1.r).tr y1.r).tr (FCr.cty (FrC.up (by omega) (by omega) (by omega)))
        · exact (((f2.r.tr g2.r).tr j2.r).tr FMr.row).tr y2.r
theorem hintT {t : Nat} {g : Nat → Nat} (ht : t ≤ 120) (hg : ∀ i, i < t → g i ≤ 255) {d N k b e v : Nat} {ρ μ : Sg} (h : PP t g d ρ μ N k b e v) : ∃ c m, (ob1 (f_X2_step ρ) fun s12 => ob2 (f_X2_readHints 25 s12) fun r14 s15 => chkb r14 <| some (r14, s15)) = c ∧ f_X5_perhaps 1 3 9999 μ = m ∧ (Bad t ρ μ c m ∨ Gd t g d ρ μ N e c m) := by
  have hN := h.2.2.2.1.1
  refine ⟨_, _, rfl, rfl, ?_⟩
  obtain ⟨ρ1, μ1, k1, b1, e1, v1, s1, s2, f1, f2, h1, hb1⟩ := h.next ht hg
  have be1 : b1 ≤ e1 := h1.2.2.1.2.2.2.2.2.2.2.2.2.1
  rw [s1, ob1_s, f_X5_perhaps, if_neg one_ne0, s2, ob1_s, f_X2_readHints, show (9999 : Int32) = nI 9999 from rfl, show (3 : Int32) = nI 3 from rfl]
  rcases h1.num ht hg (m := 9999) (by omega) with ⟨q1, q2⟩ | ⟨hv1, ev1, q2, q3⟩
  · rw [q1, q2, ob2_s, ob2_s, if_pos rfl, if_pos rfl, ob2_s, chkb_ok (Or.inl rfl)]
    exact Or.inl (Bad.mk h1 f1.r f2.r)
  · obtain ⟨ρ2, μ2, k2, b2, e2, v2, r1, r2, g1, g2, hC2, hM2, hK2, hb2⟩ := q3 (up2 μ1 50 3 (nI v1)) (up2_ne _ _ (by omega)) (up2_ne _ _ (by omega))
    rw [r1, q2, ob2_s, ob2_s, if_neg (nI_ne_m1 (by omega)), if_neg one_ne0, lt_s1, ob2_s, chkb_ok (Or.inr rfl), chk_nI (by omega) (by omega), cl_nI (by omega), ev1, lt_s1, r2, ob1_s]
    have e50 : μ2 50 = upd (μ1 50) 3 (nI v1) := by rw [g2.1 50 (by omega), up2_k]
    refine Or.inr ⟨_, _, k2, b2, e2, v2, rfl, rfl, ⟨hC2.cg (up2_ne _ _ (by omega)) (up2_ne _ _ (by omega)), hM2, hK2.cg (up2_ne _ _ (by omega)) rfl, ?_, ?_⟩, by omega, ?_, ?_⟩
    · rw [e50]; exact Ok_hints h1.2.2.2.1 ⟨v1, by omega, rfl⟩
    · rw [e50]
      exact CR_f (i := 4) (j := 3) (h1.2.2.2.2.same (fun q x y => g1.1 q (by omega)) hN) (by omega)
    · exact (f1.r.tr g1.r).tr (FCr.cty (FrC.up (by omega) (by omega) (by omega)))
    · exact (f2.r.tr FMr.row).tr g2.r
theorem persT {t : Nat} {g : Nat → Nat} (ht : t ≤ 120) (hg : ∀ i, i < t → g i ≤ 255) {d N k b e v q : Nat} {ρ μ : Sg} (h : PP t g d ρ μ N k b e v) (hq : q ≤ 6) (hw : kW g k b e = nI q) : Bad t ρ μ (f_X2_readPerson 25 ρ) (f_X5_personHere (nI q) μ) ∨ Gd t g d ρ μ (N + 1) e (f_X2_readPerson 25 ρ) (f_X5_personHere (nI q) μ) := by
  have hN := h.2.2.2.1.1
  rw [f_X2_readPerson, ckind ht hg h.1 h.2.2.1, hw, ob0_s, if_neg (nI_ne_m1 (by omega)), f_X5_personHere, h.2.2.2.1.2.1]
  by_cases h8 : N = 8
  · subst h8
    have ea : f_X0_add 25 (nI q) 20 ρ = some (-1, ρ) := by
      rw [f_X0_add, h.2.2.2.2.1, h.2.2.2.1.2.1, if_neg (by decide)]
    have fa : f_X5_fails μ = some (0, up2 μ 49 17 (nI b)) := by rw [f_X5_fails, h.2.2.1.2.2.2.2.2.1, lt_s1]
    rw [ea, ob2_s, chas_m1, ob0_s, if_pos rfl, if_pos (by decide), fa, ob2_s, chkb_ok (Or.inl rfl)]
    exact Or.inl (Bad.mk h (FCr.rf ρ) (FMr.rf μ))
  · obtain ⟨ρ1, ea, cr1, fr1⟩ := cadd (b := 25) h.2.2.2.1 h.2.2.2.2 (show N < 8 by omega) (nI q) (nI 20)
    have em := mcomes (N := N) (show N < 8 by omega) (nI q) (nI 20) μ h.2.2.2.1.2.1
    have ok1 : Ok (N + 1) d (comesF N (μ 50) (nI q) (nI 20)) := Ok_comes h.2.2.2.1 (by omega) hq (by omega)
    have h1 : PP t g d ρ1 (upr μ 50 (comesF N (μ 50) (nI q) (nI 20))) (N + 1) k b e v := ⟨h.1.cg (fr1.1 37 (by omega)) (fr1.1 38 (by omega)), h.2.1.cg (upr_ne _ _ (by omega)) (upr_ne _ _ (by omega)), h.2.2.1.cg (fr1.1 37 (by omega)) (upr_ne _ _ (by omega)), by rw [upr_at]; exact ok1, by rw [upr_at]; exact cr1⟩
    have fm0 : FMr μ (upr μ 50 (comesF N (μ 50) (nI q) (nI 20))) := ⟨fun c _ y => upr_ne _ _ y, by rw [upr_ne _ _ (by omega)], by rw [upr_ne _ _ (by omega)]⟩
    have eN : upr μ 50 (comesF N (μ 50) (nI q) (nI 20)) 50 0 - 1 = nI N := by
      rw [upr_at, ok1.2.1, show (1 : Int32) = nI 1 from rfl, pk_sub (by omega)]
      rfl
    obtain ⟨ρ2, μ2, k2, b2, e2, v2, s1, s2, f1, f2, h2, hb2⟩ := h1.next ht hg
    have c11 : f_X5_isFive 98 117 105 108 100 μ2 = some (if WL g k2 b2 e2 wBuild then 1 else 0) := mfive ht hg h2.2.1 h2.2.2.1 98 117 105 108 100 (by omega)
    rw [show (20 : Int32) = nI 20 from rfl, ea, ob2_s, chas (n := N + 1) (by omega) (cr1.1.trans ok1.2.1) N (by omega), ob0_s, if_pos (show N < N + 1 by omega), if_neg one_ne0, s1, ob1_s, chk_nI (by omega) (by omega), cl_nI (by omega), if_neg (show ¬ nI N = 8 from fun x => h8 ((nI_eq (b := 8) (by omega) (by omega)).mp x)), em, ob1_s, eN, s2, ob1_s, c11, ob0_s, atv2, ob0_s]
    rcases att ht hg h2 (p := N) (a := 2) (i := 9) (by omega) (by omega) wBuild (by decide) (by decide) (by decide) with hb | hgd
    · obtain ⟨ρ', μ', bb, a1, a2, a3, a4, a5, a6, a7⟩ := hb
      rw [show (2 : Int32) = nI 2 from rfl, a1, ob2_s, if_pos rfl, show (99 : Int32) = nI (bnd 2) from rfl, a2, ob2_s, if_pos rfl]
      exact Or.inl ⟨ρ', μ', bb, rfl, rfl, a3, a4, a5, ((FCr.cty fr1).tr f1.r).tr a6, (fm0.tr f2.r).tr a7⟩
    · obtain ⟨ρ3, μ3, k3, b3, e3, v3, a1, a2, h3, hb3, a6, a7⟩ := hgd
      have c12 : f_X5_isFour 111 119 101 100 μ3 = some (if WL g k3 b3 e3 wOwed then 1 else 0) := mfour ht hg h3.2.1 h3.2.2.1 111 119 101 100 (by omega)
      rw [show (2 : Int32) = nI 2 from rfl, a1, ob2_s, if_neg one_ne0, show (99 : Int32) = nI (bnd 2) from rfl, a2, ob2_s, if_neg one_ne0, c12, ob0_s, atv1, ob0_s]
      rcases att ht hg h3 (p := N) (a := 1) (i := 10) (by omega) (by omega) wOwed (by decide) (by decide) (by decide) with hb | hgd
      · obtain ⟨ρ', μ', bb, x1, x2, x3, x4, x5, x6, x7⟩ := hb
        rw [show f_X2_readAttribute 10 (25 + 4 + N) 1 ρ3 = some (0, ρ') from x1, ob2_s, if_pos rfl, show (9999 : Int32) = nI (bnd 1) from rfl, x2, ob2_s, if_pos rfl]
        exact Or.inl ⟨ρ', μ', bb, rfl, rfl, x3, x4, x5, (((FCr.cty fr1).tr f1.r).tr a6).tr x6, ((fm0.tr f2.r).tr a7).tr x7⟩
      · obtain ⟨ρ4, μ4, k4, b4, e4, v4, x1, x2, h4, hb4, x6, x7⟩ := hgd
        have c13 : f_X5_isFour 98 111 114 101 μ4 = some (if WL g k4 b4 e4 wBore then 1 else 0) := mfour ht hg h4.2.1 h4.2.2.1 98 111 114 101 (by omega)
        rw [show f_X2_readAttribute 10 (25 + 4 + N) 1 ρ3 = some (1, ρ4) from x1, ob2_s, if_neg one_ne0, show (9999 : Int32) = nI (bnd 1) from rfl, x2, ob2_s, if_neg one_ne0, c13, ob0_s, atv3, ob0_s]
        rcases att ht hg h4 (p := N) (a := 3) (i := 11) (by omega) (by omega) wBore (by decide) (by decide) (by decide) with hb | hgd
        · obtain ⟨ρ', μ', bb, z1, z2, z3, z4, z5, z6, z7⟩ := hb
          rw [show f_X2_readAttribute 11 (25 + 4 + N) 3 ρ4 = some (0, ρ') from z1, ob2_s, if_pos rfl, show nI (bnd 1) = nI (bnd 3) from rfl, z2, ob2_s, if_pos rfl]
          exact Or.inl ⟨ρ', μ', bb, rfl, rfl, z3, z4, z5, ((((FCr.cty fr1).tr f1.r).tr a6).tr x6).tr z6, (((fm0.tr f2.r).tr a7).tr x7).tr z7⟩
        · obtain ⟨ρ5, μ5, k5, b5, e5, v5, z1, z2, h5, hb5, z6, z7⟩ := hgd
          rw [show f_X2_readAttribute 11 (25 + 4 + N) 3 ρ4 = some (1, ρ5) from z1, ob2_s, if_neg one_ne0, show nI (bnd 1) = nI (bnd 3) from rfl, z2, ob2_s, if_neg one_ne0]
          exact Or.inr ⟨ρ5, μ5, k5, b5, e5, v5, rfl, rfl, h5, by omega, ((((FCr.cty fr1).tr f1.r).tr a6).tr x6).tr z6, (((fm0.tr f2.r).tr a7).tr x7).tr z7⟩
