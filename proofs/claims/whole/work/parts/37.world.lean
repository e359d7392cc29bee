/-! the world behind both constructors is the fixed shape -/
def adr (ax : Nat) (u : Nat → Nat) (am : Nat) (v : Nat → Nat) (k : Nat) : Nat :=
  if k = 0 then ax else if k < 37 then u ((k - 1) - (k - 1) % 12 + (if (k - 1) % 12 < 3 then (k - 1) % 12 else if (k - 1) % 12 = 3 then 11 else (k - 1) % 12 - 1)) else if k < 40 then u (k - 1) else if k < 44 then u (39 + 2 * (k - 40)) else if k < 48 then u (40 + 2 * (k - 44)) else if k = 48 then u 47 else if k = 49 then am else v (k - 50)
def m1R (a n : Nat) : Nat → Int32 := fun j => if a ≤ j ∧ j < a + n then -1 else 0
def sg0 : Sg := fun k => if k = 1 ∨ k = 13 ∨ k = 25 then (fun j => if j = 6 then 1 else 0) else if k = 4 ∨ k = 16 ∨ k = 28 then m1R 0 10 else if k = 50 then (fun j => if j = 2 then 1 else m1R 50 10 j) else if k = 56 then m1R 0 4 else fun _ => 0
theorem arrV_ext {cA : ClassId} {n : Nat} {f g : Nat → Value} (h : ∀ j, j < n → f j = g j) : arrV cA n f = arrV cA n g := by
  have e : (arrV cA n f).slots = (arrV cA n g).slots := by
    apply Array.ext
    · rw [arrV_size, arrV_size]
    · intro i h1 h2
      have hi : i < n := by rw [arrV_size] at h1; exact h1
      have a := arrV_read cA f hi
      have b := arrV_read cA g hi
      rw [Array.getElem?_eq_getElem h1] at a
      rw [Array.getElem?_eq_getElem h2] at b
      rw [Option.some.inj a, Option.some.inj b, h i hi]
  show ({ (arrV cA n f) with slots := (arrV cA n f).slots } : Cell) = _
  rw [e]
  rfl
theorem va_P.int {D : va_G} {cl : List vw_C} {ws : va_W} {H : Heap} {p a n : Nat} {cA : ClassId} {f g : Nat → Int32} (h : va_P D cl ws H) (he : ws[p]? = some (a, .inl (cA, n, .inl f))) (hfg : ∀ j, j < n → f j = g j) : va_at D cl (a, .inl (cA, n, .inl g)) H := by
  have h1 : H[a]? = some (vp_cell cA (n, .inl f)) := h p _ he
  show H[a]? = some (vp_cell cA (n, .inl g))
  rw [h1, show vp_cell cA (n, .inl f) = arrV cA n (fun j => .int (f j)) from rfl, show vp_cell cA (n, .inl g) = arrV cA n (fun j => .int (g j)) from rfl, arrV_ext (g := fun j => .int (g j)) (fun j hj => by rw [hfg j hj])]
theorem va_P.refs {D : va_G} {cl : List vw_C} {ws : va_W} {H : Heap} {p a n : Nat} {cA : ClassId} {f g : Nat → Option Nat} (h : va_P D cl ws H) (he : ws[p]? = some (a, .inl (cA, n, .inr (.inr (.inr (.inr f)))))) (hfg : ∀ j, j < n → f j = g j) : va_at D cl (a, .inl (cA, n, .inr (.inr (.inr (.inr g))))) H := by
  have h1 : H[a]? = some (vp_cell cA (n, .inr (.inr (.inr (.inr f))))) := h p _ he
  show H[a]? = some (vp_cell cA (n, .inr (.inr (.inr (.inr g)))))
  rw [h1, vp_cell_q, vp_cell_q, arrV_ext (g := fun j => va_rf (g j)) (fun j hj => by rw [hfg j hj])]
theorem st_P {l : Launch} {D : va_G} {c : Cls} {ax am aT : Nat} {u v kK kV : Nat → Nat} {H : Heap} (h : va_P D vwCl (poX4 c ax u ++ poX5 c am v) H) : ∀ k, k < 59 → va_at D vwCl (adr ax u am v k, cE (l, D, adr ax u am v, c, aT, kK, kV) sg0 k) H := by
  intro k hk
  have hc : k = 0 ∨ k = 1 ∨ k = 2 ∨ k = 3 ∨ k = 4 ∨ k = 5 ∨ k = 6 ∨ k = 7 ∨ k = 8 ∨ k = 9 ∨ k = 10 ∨ k = 11 ∨ k = 12 ∨ k = 13 ∨ k = 14 ∨ k = 15 ∨ k = 16 ∨ k = 17 ∨ k = 18 ∨ k = 19 ∨ k = 20 ∨ k = 21 ∨ k = 22 ∨ k = 23 ∨ k = 24 ∨ k = 25 ∨ k = 26 ∨ k = 27 ∨ k = 28 ∨ k = 29 ∨ k = 30 ∨ k = 31 ∨ k = 32 ∨ k = 33 ∨ k = 34 ∨ k = 35 ∨ k = 36 ∨ k = 37 ∨ k = 38 ∨ k = 39 ∨ k = 40 ∨ k = 41 ∨ k = 42 ∨ k = 43 ∨ k = 44 ∨ k = 45 ∨ k = 46 ∨ k = 47 ∨ k = 48 ∨ k = 49 ∨ k = 50 ∨ k = 51 ∨ k = 52 ∨ k = 53 ∨ k = 54 ∨ k = 55 ∨ k = 56 ∨ k = 57 ∨ k = 58 := by omega
  rcases hc with rfl | rfl | rfl | rfl | rfl | rfl | rfl | rfl | rfl | rfl | rfl | rfl | rfl | rfl | rfl | rfl | rfl | rfl | rfl | rfl | rfl | rfl | rfl | rfl | rfl | rfl | rfl | rfl | rfl | rfl | rfl | rfl | rfl | rfl | rfl | rfl | rfl | rfl | rfl | rfl | rfl | rfl | rfl | rfl | rfl | rfl | rfl | rfl | rfl | rfl | rfl | rfl | rfl | rfl | rfl | rfl | rfl | rfl | rfl
  · exact h 0 _ rfl
  · exact h 1 _ rfl
  · exact h 2 _ rfl
  · exact h.refs (p := 3) rfl (fun j hj => by
      have q : j = 0 ∨ j = 1 ∨ j = 2 ∨ j = 3 ∨ j = 4 ∨ j = 5 ∨ j = 6 ∨ j = 7 := by omega
      rcases q with rfl | rfl | rfl | rfl | rfl | rfl | rfl | rfl <;> rfl)
  · exact h.int (p := 12) rfl (by decide)
  · exact h 4 _ rfl
  · exact h 5 _ rfl
  · exact h 6 _ rfl
  · exact h 7 _ rfl
  · exact h 8 _ rfl
  · exact h 9 _ rfl
  · exact h 10 _ rfl
  · exact h 11 _ rfl
  · exact h 13 _ rfl
  · exact h 14 _ rfl
  · exact h.refs (p := 15) rfl (fun j hj => by
      have q : j = 0 ∨ j = 1 ∨ j = 2 ∨ j = 3 ∨ j = 4 ∨ j = 5 ∨ j = 6 ∨ j = 7 := by omega
      rcases q with rfl | rfl | rfl | rfl | rfl | rfl | rfl | rfl <;> rfl)
  · exact h.int (p := 24) rfl (by decide)
  · exact h 16 _ rfl
  · exact h 17 _ rfl
  · exact h 18 _ rfl
  · exact h 19 _ rfl
  · exact h 20 _ rfl
  · exact h 21 _ rfl
  · exact h 22 _ rfl
  · exact h 23 _ rfl
  · exact h 25 _ rfl
  · exact h 26 _ rfl
  · exact h.refs (p := 27) rfl (fun j hj => by
      have q : j = 0 ∨ j = 1 ∨ j = 2 ∨ j = 3 ∨ j = 4 ∨ j = 5 ∨ j = 6 ∨ j = 7 := by omega
      rcases q with rfl | rfl | rfl | rfl | rfl | rfl | rfl | rfl <;> rfl)
  · exact h.int (p := 36) rfl (by decide)
  · exact h 28 _ rfl
  · exact h 29 _ rfl
  · exact h 30 _ rfl
  · exact h 31 _ rfl
  · exact h 32 _ rfl
  · exact h 33 _ rfl
  · exact h 34 _ rfl
  · exact h 35 _ rfl
  · exact h 37 _ rfl
  · exact h 38 _ rfl
  · exact h.refs (p := 39) rfl (fun j hj => by
      have q : j = 0 ∨ j = 1 ∨ j = 2 ∨ j = 3 := by omega
      rcases q with rfl | rfl | rfl | rfl <;> rfl)
  · exact h 40 _ rfl
  · exact h 42 _ rfl
  · exact h 44 _ rfl
  · exact h 46 _ rfl
  · exact h 41 _ rfl
  · exact h 43 _ rfl
  · exact h 45 _ rfl
  · exact h 47 _ rfl
  · exact h 48 _ rfl
  · exact h 49 _ rfl
  · exact h.int (p := 50) rfl (by decide)
  · exact h 51 _ rfl
  · exact h 52 _ rfl
  · exact h 53 _ rfl
  · exact h 54 _ rfl
  · exact h 55 _ rfl
  · exact h.int (p := 56) rfl (by decide)
  · exact h 57 _ rfl
  · exact h 58 _ rfl
