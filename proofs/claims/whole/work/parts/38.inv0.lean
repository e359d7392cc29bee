/-! the invariant at the start -/
theorem s50_o {j : Nat} (h2 : j ≠ 2) (h : j < 50) : sg0 50 j = 0 := by
  show (if j = 2 then (1 : Int32) else m1R 50 10 j) = 0
  rw [if_neg h2, m1R, if_neg (by omega)]
theorem s50_m {i : Nat} (h : i < 10) : sg0 50 (50 + i) = -1 := by
  show (if 50 + i = 2 then (1 : Int32) else m1R 50 10 (50 + i)) = -1
  rw [if_neg (by omega), m1R, if_pos (by omega)]
theorem inv0 : Inv 0 sg0 := by
  have hz : ∀ k j, k ≠ 1 → k ≠ 13 → k ≠ 25 → k ≠ 4 → k ≠ 16 → k ≠ 28 → k ≠ 50 → k ≠ 56 → sg0 k j = 0 := by
    intro k j h1 h2 h3 h4 h5 h6 h7 h8
    unfold sg0
    rw [if_neg (by omega), if_neg (by omega), if_neg h7, if_neg h8]
  refine ⟨⟨⟨0, 0, ⟨by omega, s50_o (by omega) (by omega), s50_o (by omega) (by omega), ⟨0, by omega, s50_o (by omega) (by omega)⟩, fun i hi => ⟨0, 0, by omega, by omega, s50_o (by omega) (by omega)⟩, fun p hp => by omega, fun i hi => Or.inl (s50_m hi)⟩, by omega, ⟨?_, ?_, ?_, ?_, fun i hi => ?_, fun i hi => ?_, fun p hp => by omega⟩⟩, rfl⟩, ⟨rfl, Or.inl rfl⟩, ⟨fun j hj => ?_, rfl⟩, ⟨rfl, 0, by omega, rfl, fun i hi => by omega⟩, fun k hk => ⟨⟨0, by omega, ?_, ?_⟩, Or.inl ⟨?_, ?_⟩, fun i hi => ?_⟩⟩
  · rfl
  · rfl
  · rfl
  · rfl
  · rw [hz _ _ (by omega) (by omega) (by omega) (by omega) (by omega) (by omega) (by omega) (by omega), s50_o (by omega) (by omega)]
  · rw [s50_m hi]
    show m1R 0 10 i = -1
    rw [m1R, if_pos (by omega)]
  · rw [hz _ _ (by omega) (by omega) (by omega) (by omega) (by omega) (by omega) (by omega) (by omega), hz _ _ (by omega) (by omega) (by omega) (by omega) (by omega) (by omega) (by omega) (by omega)]
  · exact hz _ _ (by omega) (by omega) (by omega) (by omega) (by omega) (by omega) (by omega) (by omega)
  · exact hz _ _ (by omega) (by omega) (by omega) (by omega) (by omega) (by omega) (by omega) (by omega)
  · exact hz _ _ (by omega) (by omega) (by omega) (by omega) (by omega) (by omega) (by omega) (by omega)
  · show m1R 0 4 k = -1
    rw [m1R, if_pos (by omega)]
  · rw [hz _ _ (by omega) (by omega) (by omega) (by omega) (by omega) (by omega) (by omega) (by omega), hz _ _ (by omega) (by omega) (by omega) (by omega) (by omega) (by omega) (by omega) (by omega)]
