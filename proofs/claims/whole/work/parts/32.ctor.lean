/-! constructors: contract, return, call -/
def TgI (l : Launch) (D : va_G) (A : Nat → Prop) (fr : Fr) (kn sn : Nat) (pst : (Nat → Nat) → va_W) : Prop :=
  (fT fr).sig.returnType = none ∧ (fT fr).locks = false ∧ (fT fr).name = "<init>" ∧ (fR fr).cells = kn ∧ (fR fr).slots = sn ∧ fQ fr = MQ (fB fr) (va_Qv (fun _ : Nat → Nat => True) (fun u t => va_P D vwCl (pst u) t.heap ∧ va_D A (pst u)) A) (fA fr) (fS fr) kn sn A
theorem conI_of {l : Launch} {D : va_G} {c : Cls} {mt : Mt} {d kn sn ci : Nat} {fs0 : List Value} {post : Nat → (Nat → Nat) → va_W} (hy : plainName mt.1.cls = true) (hn : mt.1.name = "<init>") (hl : 1 ≤ mt.2.2.1) (hr : mt.2.2.2 = none)
    (hw : ∀ (h0 : Nat) (A : Nat → Prop) (fr : Fr), Cn D c A mt d fr → TgI l D A fr kn sn (post h0) → GN l D A fr mt.2.2.1 0 [(0, .ref h0)] [] [(h0, .inr (ci, fs0))] 0 0) : ConI l D c mt d kn sn ci fs0 post := by
  intro h0 sz
  refine Met.ofW (cc := mt.2.1) (maxL := mt.2.2.1) (ret := mt.2.2.2) hy rfl ?_
  intro p e s m args below meth c1 s₁ B hml hv
  obtain ⟨rfl, hsz, hP, hK, hD0⟩ := hv
  subst hsz
  have hts := atoms_spec (ws := Cond.code mt.1 mt.2.1 mt.2.2.1 mt.2.2.2 :: tG) B.pre
  have hown : s.vm.findClass mt.1.cls = some m.cls := findClass_of_methodNamed B.named
  have hin : meth.name = "<init>" := ((name_of_methodNamed B.named B.method).1).trans hn
  have hD := hD0.self (sz := s.heap.size)
  rw [lg_entry_eq]
  refine hw h0 (va_A [(h0, .inr (ci, fs0))] s.heap.size) (p, e, (headSpec (Cond.code mt.1 mt.2.1 mt.2.2.1 mt.2.2.2 :: tG) (rmn d kn sn)).room, s, m, [Value.ref h0].toArray, below, meth, c1, 0, 0, _) ⟨B.exec, B.bytes, hml, hown, fun w hw => hts w (List.mem_cons_of_mem _ hw), hK, fun q h => Or.inr h, Nat.le_refl d, Nat.le_refl _⟩ ⟨B.returns.trans hr, B.notSynchronized, hin, rfl, rfl, rfl⟩ s.heap [] _ hP hD va_S.rf (lv_entry [.ref h0] hl)
section GRO2
variable {l : Launch} {D : va_G} {c : Cls} {A : Nat → Prop} {mt : Mt} {d : Nat} {fr : Fr} {nL pc pc' : Nat} {lv : List (Nat × Value)} {rest : List Value} {ws : va_W} {kc ns : Nat}
theorem gn_vret {pst : (Nat → Nat) → va_W} (u : Nat → Nat) (is : List Nat) (cx : Cn D c A mt d fr) (tg : TgI l D A fr kc ns pst) (hs : is.filterMap (fun i => ws[i]?) = pst u) (hs2 : is.map (fun i => ws[i]?) = (pst u).map some) (hnd : va_nd is = true) (hd : decode mt.2.1 pc = .ok (.return_, 1)) : GN l D A fr nL pc lv [] ws kc ns := by
  obtain ⟨t1, t2, t3, t4, t5, t6⟩ := tg
  intro H locs ls hP hD hS hl
  rw [t6]
  exact W.vret cx.1 cx.2.1 t1 (fun t ht hW => ⟨⟨u, rfl, trivial, by rw [ht]; exact hP.sub is hs, hD.sub is hnd hs2⟩, hS.F ht⟩) hS.2.2 hd t2
def LkI (own : String) (ix : Nat) (m2 : Mt) : Prop := Cond.methodLink own ix m2.1 ∈ tG ∧ Cond.instanceMethod m2.1 ∈ tG ∧ Cond.initialized m2.1.cls ∈ tG ∧ Cond.code m2.1 m2.2.1 m2.2.2.1 none ∈ tG ∧ m2.2.2.2 = none ∧ m2.1.name = "<init>" ∧ (m2.1.cls ≠ "java/lang/invoke/MethodHandle" ∧ m2.1.cls ≠ "java/lang/invoke/VarHandle" ∧ (parseMethodDescriptor m2.1.desc).map (fun d => d.parameters.length) = some 0) ∧ m2.2.2.1 ≤ 17
theorem gn_init {m2 : Mt} {d2 kn sn ci qb b ix : Nat} {fs0 : List Value} {post : Nat → (Nat → Nat) → va_W} {wr : va_W} (isR : List Nat) (cx : Cn D c A mt d fr) (hn : nL = mt.2.2.1) (hc : ConI l D c m2 d2 kn sn ci fs0 post) (he : ws[qb]? = some (b, .inr (ci, fs0))) (hR : isR.map (fun i => ws[i]?) = wr.map some) (hnd : va_nd isR = true) (hdis : ∀ i ∈ isR, i ∉ [qb]) (hd2 : d2 + 1 ≤ d) (hk : LkI mt.1.cls ix m2) (hkc : kc + kn ≤ (fR fr).cells) (hks : ns + sn ≤ (fR fr).slots) (hrm : (rest.map fun v => v.category).sum ≤ 8) (hd : decode mt.2.1 pc = .ok (.invokespecial ix, 3)) (hp : pc + 3 = pc') (kk : ∀ u, GN l D A fr nL pc' lv rest (wr ++ post b u) (kc + kn) (ns + sn)) : GN l D A fr nL pc lv (.ref b :: rest) ws kc ns := by
  subst hp
  obtain ⟨k1, k2, k3, k4, k5, k6, k7, k8⟩ := hk
  obtain ⟨hx, hb, hml, hown, hts, hK, hA, hfr, hlo⟩ := cx
  intro H locs ls hP hD hS hl
  have h1 : [qb].map (fun i => ws[i]?) = [(b, (Sum.inr (ci, fs0) : va_E))].map some := by simp [he]
  have h2 : [qb].filterMap (fun i => ws[i]?) = [(b, (Sum.inr (ci, fs0) : va_E))] := by simp [he]
  have hPc := hP.sub [qb] h2
  have hDc := hD.sub [qb] rfl h1
  have hFc := va_free (wc := [(b, .inr (ci, fs0))]) hD hS hA [qb] h1
  refine va_callv (va_runI (As := []) (rest := rest) ⟨hx, hb, hml, hown, hts⟩ (hc b H.size) (cwI 0 hts (tG_all ?_) (by rw [k5]) rfl rfl (hts _ k3) (hts _ k1) (hts _ k2) k6 k7 ⟨Nat.le_trans hd2 hfr, ?_⟩) ⟨fun a U g mk q => by obtain ⟨q0, q1, qP, qK, qD⟩ := q; exact ⟨q0, q1, qP, qK.call, qD⟩, fun U hU hW => ⟨rfl, by rw [hU], by rw [hU]; exact hPc, hK.warm hW, hDc.weaken (fun _ _ _ _ => trivial)⟩⟩ rfl rfl (by rw [← hn]; exact hl.1) rfl (lv_room hrm) hd ⟨hkc, hks⟩) hS (fun q _ h => hFc q h) hFc (fun u t H1 locs1 ht hvm _ hB hz1 hk1 hS1 => ?_)
  · intro w hw
    rcases List.mem_cons.mp hw with rfl | hw
    · rw [k5]; exact k4
    · exact hw
  · show 8 + (m2.2.2.1 + 11) + 36 * d2 ≤ _
    omega
  · obtain ⟨hP1, hD1⟩ := hB
    rw [ht] at hP1
    obtain ⟨hP2, hD2⟩ := va_join (wr := wr) hP hD [qb] isR h1 hR hnd hdis hk1 hFc hP1 hD1
    exact kk u H1 locs1 ls hP2 hD2 hS1 hl
theorem gn_initN {m2 : Mt} {d2 kn sn ci qb b ix : Nat} {host : String} {fs0 : List Value} {post : Nat → (Nat → Nat) → va_W} {wr : va_W} (isR : List Nat) (cx : Cn D c A mt d fr) (hn : nL = mt.2.2.1) (hc : ConI l D c m2 d2 kn sn ci fs0 post) (he : ws[qb]? = some (b, .inr (ci, fs0))) (hR : isR.map (fun i => ws[i]?) = wr.map some) (hnd : va_nd isR = true) (hdis : ∀ i ∈ isR, i ∉ [qb]) (hd2 : d2 + 1 ≤ d) (k1 : va_Nw (.methodLinkNest mt.1.cls ix m2.1 host) (fS fr)) (hk : Cond.instanceMethod m2.1 ∈ tG ∧ Cond.initialized m2.1.cls ∈ tG ∧ Cond.code m2.1 m2.2.1 m2.2.2.1 none ∈ tG ∧ m2.2.2.2 = none ∧ m2.1.name = "<init>" ∧ (m2.1.cls ≠ "java/lang/invoke/MethodHandle" ∧ m2.1.cls ≠ "java/lang/invoke/VarHandle" ∧ (parseMethodDescriptor m2.1.desc).map (fun d => d.parameters.length) = some 0) ∧ m2.2.2.1 ≤ 17) (hkc : kc + kn ≤ (fR fr).cells) (hks : ns + sn ≤ (fR fr).slots) (hrm : (rest.map fun v => v.category).sum ≤ 8) (hd : decode mt.2.1 pc = .ok (.invokespecial ix, 3)) (hp : pc + 3 = pc') (kk : ∀ u, GN l D A fr nL pc' lv rest (wr ++ post b u) (kc + kn) (ns + sn)) : GN l D A fr nL pc lv (.ref b :: rest) ws kc ns := by
  subst hp
  obtain ⟨k2, k3, k4, k5, k6, k7, k8⟩ := hk
  obtain ⟨hx, hb, hml, hown, hts, hK, hA, hfr, hlo⟩ := cx
  intro H locs ls hP hD hS hl
  have h1 : [qb].map (fun i => ws[i]?) = [(b, (Sum.inr (ci, fs0) : va_E))].map some := by simp [he]
  have h2 : [qb].filterMap (fun i => ws[i]?) = [(b, (Sum.inr (ci, fs0) : va_E))] := by simp [he]
  have hPc := hP.sub [qb] h2
  have hDc := hD.sub [qb] rfl h1
  have hFc := va_free (wc := [(b, .inr (ci, fs0))]) hD hS hA [qb] h1
  refine va_callv (va_runIN (As := []) (rest := rest) ⟨hx, hb, hml, hown, hts⟩ (hc b H.size) ⟨va_cnB 0 hts (tG_all ?_) (by rw [k5]) rfl rfl k1 (hts _ k3) k7 ⟨Nat.le_trans hd2 hfr, ?_⟩, k6, hts _ k2⟩ ⟨fun a U g mk q => by obtain ⟨q0, q1, qP, qK, qD⟩ := q; exact ⟨q0, q1, qP, qK.call, qD⟩, fun U hU hW => ⟨rfl, by rw [hU], by rw [hU]; exact hPc, hK.warm hW, hDc.weaken (fun _ _ _ _ => trivial)⟩⟩ rfl rfl (by rw [← hn]; exact hl.1) rfl (lv_room hrm) hd ⟨hkc, hks⟩) hS (fun q _ h => hFc q h) hFc (fun u t H1 locs1 ht hvm _ hB hz1 hk1 hS1 => ?_)
  · intro w hw
    rcases List.mem_cons.mp hw with rfl | hw
    · rw [k5]; exact k4
    · exact hw
  · show 8 + (m2.2.2.1 + 11) + 36 * d2 ≤ _
    omega
  · obtain ⟨hP1, hD1⟩ := hB
    rw [ht] at hP1
    obtain ⟨hP2, hD2⟩ := va_join (wr := wr) hP hD [qb] isR h1 hR hnd hdis hk1 hFc hP1 hD1
    exact kk u H1 locs1 ls hP2 hD2 hS1 hl
end GRO2
