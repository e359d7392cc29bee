/-! the start: the strings -/
set_option maxRecDepth 100000 in
theorem ss_ex : ∀ i, i < 12 → Cond.exactly (tmS i) "java/lang/String" ∈ flatC (Jvm.Cond.and given_1 narrow_1) := by decide +kernel
set_option maxRecDepth 100000 in
theorem ss_co : ∀ i, i < 12 → Cond.eq (.field (tmS i) "java/lang/String" "coder" "B") (.int 0) ∈ flatC (Jvm.Cond.and given_1 narrow_1) := by decide +kernel
set_option maxRecDepth 100000 in
theorem ss_ar : ∀ i, i < 12 → Cond.arrayOf (.field (tmS i) "java/lang/String" "value" "[B") .byte ∈ flatC (Jvm.Cond.and given_1 narrow_1) := by decide +kernel
set_option maxRecDepth 100000 in
theorem ss_le : ∀ i, i < 12 → Cond.eq (.length (.field (tmS i) "java/lang/String" "value" "[B")) (.int (Int32.ofNat (lenS.getD i 0))) ∈ flatC (Jvm.Cond.and given_1 narrow_1) := by decide +kernel
set_option maxRecDepth 100000 in
theorem ss_el : ∀ i, i < 12 → ∀ j, j < lenS.getD i 0 → Cond.eq (.elem (.field (tmS i) "java/lang/String" "value" "[B") (.int (Int32.ofNat j))) (.int ((bytS.getD i []).getD j 0)) ∈ flatC (Jvm.Cond.and given_1 narrow_1) := by decide +kernel
set_option maxRecDepth 100000 in
theorem ss_ne : ∀ i, i < 12 → ∀ j, j < 12 → i < j → Cond.not (Cond.eq (tmS i) (tmS j)) ∈ flatC (Jvm.Cond.and given_1 narrow_1) ∨ Cond.not (Cond.eq (tmS j) (tmS i)) ∈ flatC (Jvm.Cond.and given_1 narrow_1) := by decide +kernel
theorem ss_rf : ∀ i, i < 12 → Cond.stringRef RX2 (txS i).2.1 (txS i).1 ∈ lw_tbl := fin12 ⟨tb_of 513 (by decide +kernel), tb_of 575 (by decide +kernel), tb_of 588 (by decide +kernel), tb_of 589 (by decide +kernel), tb_of 590 (by decide +kernel), tb_of 591 (by decide +kernel), tb_of 592 (by decide +kernel), tb_of 593 (by decide +kernel), tb_of 594 (by decide +kernel), tb_of 597 (by decide +kernel), tb_of 604 (by decide +kernel), tb_of 605 (by decide +kernel)⟩
theorem ss_31 : ∀ i, i < 12 → lenS.getD i 0 < 2 ^ 31 := by decide +kernel
theorem st_S4 {a : Array Value} {s : State} {A : Nat → Prop} (hts : ∀ w ∈ lw_tbl, w.before a s = true) (hgv : (Jvm.Cond.and given_1 narrow_1).before a s = true) (hA : ∀ q : Nat, q < s.heap.size → ¬ A q) : ∃ adK adV : Nat → Nat, vk_S 12 lenS bytS adK adV A s s.heap ∧ ∀ i, i < 12 → vk_R RX2 (txS i).2.1 (txS i).1 (adK i) s := by
  have hs := flat_of_before _ hgv
  obtain ⟨adK, adV, h1, h2⟩ := vk_Sof (tm := tmS) (len := lenS) (byt := bytS) (N := 12) (A := A) ss_31 (fun i hi => hs _ (ss_ex i hi)) (fun i hi => hs _ (ss_co i hi)) (fun i hi => hs _ (ss_ar i hi)) (fun i hi => hs _ (ss_le i hi)) (fun i hi j hj => hs _ (ss_el i hi j hj)) (fun i j hi hj hij => by
    rcases Nat.lt_or_gt_of_ne hij with h | h
    · rcases ss_ne i hi j hj h with q | q
      · exact Or.inl (hs _ q)
      · exact Or.inr (hs _ q)
    · rcases ss_ne j hj i hi h with q | q
      · exact Or.inr (hs _ q)
      · exact Or.inl (hs _ q)) hA
  exact ⟨adK, adV, h1, fun i hi => vk_R.of (hts _ (ss_rf i hi)) (h2 i hi)⟩
theorem st_Nw {a : Array Value} {s : State} (hts : ∀ w ∈ lw_tbl, w.before a s = true) : kNw s :=
  ⟨va_Nw.of (by decide +kernel) (hts (.methodLinkNest RX0 88 yX4_isIn RX4) (tb_of 293 (by decide +kernel))), va_Nw.of (by decide +kernel) (hts (.methodLinkNest RX0 73 yX4_saying RX4) (tb_of 374 (by decide +kernel))), va_Nw.of (by decide +kernel) (hts (.methodLinkNest RX2 61 yX4_saying RX4) (tb_of 574 (by decide +kernel))), va_Nw.of (by decide +kernel) (hts (.methodLinkNest RX2 92 yX4_mostOf RX4) (tb_of 602 (by decide +kernel))), va_Nw.of (by decide +kernel) (hts (.methodLinkNest RX1 40 yX4_within RX4) (tb_of 619 (by decide +kernel))), va_Nw.of (by decide +kernel) (hts (.fieldLinkNest RX1 44 RX4 "ABOVE" "[I" RX4) (tb_of 620 (by decide +kernel)))⟩
/-! the start: all that is known of the machine, over the world that the constructors made -/
def plc (k : Nat) : Nat := if k = 0 then 0 else if k < 37 then ((k - 1) - (k - 1) % 12 + (if (k - 1) % 12 < 3 then (k - 1) % 12 else if (k - 1) % 12 = 3 then 11 else (k - 1) % 12 - 1)) + 1 else if k < 40 then k else if k < 44 then 40 + 2 * (k - 40) else if k < 48 then 41 + 2 * (k - 44) else k
theorem plc_inj : ∀ i, i < 59 → ∀ j, j < 59 → plc i = plc j → i = j := by decide +kernel
theorem plc_at {c : Cls} {ax am : Nat} {u v : Nat → Nat} : ∀ k, k < 59 → ∃ x : va_E, (poX4 c ax u ++ poX5 c am v)[plc k]? = some (adr ax u am v k, x) := by
  intro k hk
  have hc : k = 0 ∨ k = 1 ∨ k = 2 ∨ k = 3 ∨ k = 4 ∨ k = 5 ∨ k = 6 ∨ k = 7 ∨ k = 8 ∨ k = 9 ∨ k = 10 ∨ k = 11 ∨ k = 12 ∨ k = 13 ∨ k = 14 ∨ k = 15 ∨ k = 16 ∨ k = 17 ∨ k = 18 ∨ k = 19 ∨ k = 20 ∨ k = 21 ∨ k = 22 ∨ k = 23 ∨ k = 24 ∨ k = 25 ∨ k = 26 ∨ k = 27 ∨ k = 28 ∨ k = 29 ∨ k = 30 ∨ k = 31 ∨ k = 32 ∨ k = 33 ∨ k = 34 ∨ k = 35 ∨ k = 36 ∨ k = 37 ∨ k = 38 ∨ k = 39 ∨ k = 40 ∨ k = 41 ∨ k = 42 ∨ k = 43 ∨ k = 44 ∨ k = 45 ∨ k = 46 ∨ k = 47 ∨ k = 48 ∨ k = 49 ∨ k = 50 ∨ k = 51 ∨ k = 52 ∨ k = 53 ∨ k = 54 ∨ k = 55 ∨ k = 56 ∨ k = 57 ∨ k = 58 := by omega
  rcases hc with rfl | rfl | rfl | rfl | rfl | rfl | rfl | rfl | rfl | rfl | rfl | rfl | rfl | rfl | rfl | rfl | rfl | rfl | rfl | rfl | rfl | rfl | rfl | rfl | rfl | rfl | rfl | rfl | rfl | rfl | rfl | rfl | rfl | rfl | rfl | rfl | rfl | rfl | rfl | rfl | rfl | rfl | rfl | rfl | rfl | rfl | rfl | rfl | rfl | rfl | rfl | rfl | rfl | rfl | rfl | rfl | rfl | rfl | rfl <;> exact ⟨_, rfl⟩
theorem adr_inj {A : Nat → Prop} {c : Cls} {ax am : Nat} {u v : Nat → Nat} (h : va_D A (poX4 c ax u ++ poX5 c am v)) : ∀ i j, i < 59 → j < 59 → adr ax u am v i = adr ax u am v j → i = j := by
  intro i j hi hj e
  obtain ⟨x, hx⟩ := plc_at (c := c) (ax := ax) (am := am) (u := u) (v := v) i hi
  obtain ⟨y, hy⟩ := plc_at (c := c) (ax := ax) (am := am) (u := u) (v := v) j hj
  exact plc_inj i hi j hj (h.1 _ _ _ _ hx hy e)
theorem adr_in {A : Nat → Prop} {c : Cls} {ax am : Nat} {u v : Nat → Nat} (h : va_D A (poX4 c ax u ++ poX5 c am v)) : ∀ k, k < 59 → A (adr ax u am v k) := by
  intro k hk
  obtain ⟨x, hx⟩ := plc_at (c := c) (ax := ax) (am := am) (u := u) (v := v) k hk
  exact h.2 _ _ hx
theorem st_Kx {a : Array Value} {s : State} {l : Launch} {D : va_G} {c : Cls} {ax am : Nat} {u v : Nat → Nat} (hts : ∀ w ∈ lw_tbl, w.before a s = true) (hgv : (Jvm.Cond.and given_1 narrow_1).before a s = true) (hK : Kc D c s) (hD : va_D (fun q => s.heap.size ≤ q) (poX4 c ax u ++ poX5 c am v)) : ∃ (aT : Nat) (kK kV : Nat → Nat), Kx (l, D, adr ax u am v, c, aT, kK, kV) s := by
  have hA : ∀ q : Nat, q < s.heap.size → ¬ (fun q => ∃ k, k < 59 ∧ q = adr ax u am v k) q := by
    rintro q hq ⟨k, hk, rfl⟩
    have : s.heap.size ≤ adr ax u am v k := adr_in hD k hk
    omega
  obtain ⟨aT, t1, t2⟩ := st_S3 hts hgv hA
  obtain ⟨kK, kV, h1, h2⟩ := st_S4 hts hgv hA
  exact ⟨aT, kK, kV, hK.1, adr_inj hD, st_Nw hts, ⟨st_S1 hts hgv hA, st_S2 hts hgv hA, t1, t2, h1⟩, h2⟩
