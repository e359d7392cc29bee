/-! the start: classes, arrays -/
theorem tb_of (i : Nat) {w : Cond} (h : tables_1[i]? = some w) : w ∈ lw_tbl := List.mem_append_right _ (List.mem_of_getElem? h)
theorem tG_lw {w : Cond} (h : w ∈ tG) : w ∈ lw_tbl := (List.mem_filter.mp h).1
theorem st_cls {a : Array Value} {s : State} (hts : ∀ w ∈ lw_tbl, w.before a s = true) : ∃ c : Cls, ∀ (k : Nat) (q : ClassId × FieldType), (tyl c)[k]? = some q → ArrOfT s q.1 q.2 ∧ va_RA s q.1 q.2 := by
  obtain ⟨cI, kI, oI, i1, i2, i3⟩ := Cond.arrayClass_spec (hts (.arrayClass .int) (tb_of 57 (by decide +kernel)))
  obtain ⟨oP, cP, kP, p1, p2, p3, p4, p5⟩ := Cond.arrayOver_spec (hts (.arrayOver (.object RX1)) (tb_of 29 (by decide +kernel)))
  obtain ⟨oS, cS, kS, s1, s2, s3, s4, s5⟩ := Cond.arrayOver_spec (hts (.arrayOver (.object RX3)) (tb_of 121 (by decide +kernel)))
  refine ⟨(cI, cP, cS), fun k q hq => ?_⟩
  match k, hq with
  | 0, hq => cases hq; exact ⟨fun n z => ⟨fun k h => (by cases h), kI, i2, oI, i3⟩, i1⟩
  | 1, hq => cases hq; exact ⟨fun n z => ⟨fun k h => (by cases h), kP, p3, oP, p4⟩, kP, oP, p3, p4, p1, p5⟩
  | 2, hq => cases hq; exact ⟨fun n z => ⟨fun k h => (by cases h), kS, s3, oS, s4⟩, kS, oS, s3, s4, s1, s5⟩
  | k + 3, hq => simp [tyl] at hq
theorem st_D {a : Array Value} {s : State} (hts : ∀ w ∈ lw_tbl, w.before a s = true) : ∃ D : va_G, ∀ (k : Nat) (q : vw_C), vwCl[k]? = some q → u_Kn s q.1 q.2.1 q.2.2 (D.1 k) (D.2 k) := by
  obtain ⟨c0, i0, h0⟩ := u_known (C := RX0) (T := TX0) (N := 8) (n := 8) hts (fun w hw => tG_lw (iX0 w hw)) (hts (.instantiable RX0 8) (tb_of 23 (by decide +kernel)))
  obtain ⟨c1, i1, h1⟩ := u_known (C := RX1) (T := TX1) (N := 5) (n := 5) hts (fun w hw => tG_lw (iX1 w hw)) (hts (.instantiable RX1 5) (tb_of 30 (by decide +kernel)))
  obtain ⟨c2, i2, h2⟩ := u_known (C := RX2) (T := TX2) (N := 6) (n := 6) hts (fun w hw => tG_lw (iX2 w hw)) (hts (.instantiable RX2 6) (tb_of 95 (by decide +kernel)))
  obtain ⟨c3, i3, h3⟩ := u_known (C := RX3) (T := TX3) (N := 3) (n := 3) hts (fun w hw => tG_lw (iX3 w hw)) (hts (.instantiable RX3 3) (tb_of 122 (by decide +kernel)))
  obtain ⟨c4, i4, h4⟩ := u_known (C := RX4) (T := TX4) (N := 7) (n := 7) hts (fun w hw => tG_lw (iX4 w hw)) (hts (.instantiable RX4 7) (tb_of 15 (by decide +kernel)))
  obtain ⟨c5, i5, h5⟩ := u_known (C := RX5) (T := TX5) (N := 18) (n := 18) hts (fun w hw => tG_lw (iX5 w hw)) (hts (.instantiable RX5 18) (tb_of 685 (by decide +kernel)))
  refine ⟨(fun k => if k = 0 then c0 else if k = 1 then c1 else if k = 2 then c2 else if k = 3 then c3 else if k = 4 then c4 else c5, fun k => if k = 0 then i0 else if k = 1 then i1 else if k = 2 then i2 else if k = 3 then i3 else if k = 4 then i4 else i5), fun k q hq => ?_⟩
  match k, hq with
  | 0, hq => cases hq; exact h0
  | 1, hq => cases hq; exact h1
  | 2, hq => cases hq; exact h2
  | 3, hq => cases hq; exact h3
  | 4, hq => cases hq; exact h4
  | 5, hq => cases hq; exact h5
  | k + 6, hq => simp [vwCl] at hq
theorem st_Kc {a : Array Value} {s : State} (hts : ∀ w ∈ lw_tbl, w.before a s = true) : ∃ (D : va_G) (c : Cls), Kc D c s := by
  obtain ⟨D, hD⟩ := st_D hts
  obtain ⟨c, hc⟩ := st_cls hts
  exact ⟨D, c, ⟨hD, hc⟩, va_AO.of (hts (.arrayOver (.object RX1)) (tb_of 29 (by decide +kernel))), va_AO.of (hts (.arrayOver (.object RX3)) (tb_of 121 (by decide +kernel))), va_Nw.of (by decide +kernel) (hts (.methodLinkNest RX0 21 yX1_init RX4) (tb_of 31 (by decide +kernel)))⟩
