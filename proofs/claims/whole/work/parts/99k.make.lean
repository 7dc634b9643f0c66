/-! WHAT MAKES: new cells, constructors -/
theorem ltz_0 {P : Nat → Prop} : ∀ j, j < 0 → P j := fun j h => absurd h (Nat.not_lt_zero j)
theorem ltz_s {P : Nat → Prop} {N : Nat} (h : ∀ j, j < N → P j) (hN : P N) : ∀ j, j < N + 1 → P j := fun j hj => by
  rcases Nat.lt_or_ge j N with q | q
  · exact h j q
  · have e : j = N := by omega
    subst e; exact hN
def NewOk (own : String) (idx ci N : Nat) (fs : List Value) : Prop := ∃ (C : String) (T : u_T) (ty : Nat → FieldType), vwCl[ci]? = some (C, T, N) ∧ (∀ w ∈ u_ws C T N, w ∈ AW) ∧ (∀ k, k < N → parseFieldDescriptor (T k).2.2.1 = some (ty k)) ∧ Cond.classLink own idx C ∈ AW ∧ Cond.instantiable C N ∈ AW ∧ Cond.initialized C ∈ AW ∧ ∀ j, j < N → defaultValue (ty j) = vp_V fs j
def FPF (own : String) (ci kk : Nat) (ty : FieldType) : Prop := ∃ (C : String) (T : u_T) (N : Nat) (ty0 : Nat → FieldType), vwCl[ci]? = some (C, T, N) ∧ kk < N ∧ (∀ k, k < N → parseFieldDescriptor (T k).2.2.1 = some (ty0 k)) ∧ (∀ a, a < N → ∀ b, b < N → a ≠ b → (T a).2.1 ≠ (T b).2.1) ∧ (T kk).2.2.2 = true ∧ (T kk).1 = own ∧ parseFieldDescriptor (T kk).2.2.1 = some ty
section MAKE
variable {G : Gm} {k n : Nat} {ws : va_W} {lv : List (Nat × Value)} {st : List Value} {cc : ByteArray} {own : String} {nL : Nat} {R : Room}
theorem V_ws {pc : Nat} (ws' : va_W) (e : ws = ws') (z : V G k n ws' pc lv st) : V G k n ws pc lv st := by subst e; exact z
theorem V_perm {pc : Nat} (ws' : va_W) (is : List Nat) (hn : va_nd is = true) (e : is.map (fun i => ws[i]?) = ws'.map some) (z : V G k n ws' pc lv st) : V G k n ws pc lv st :=
  fun H locs ls hP hD hS hl => z H locs ls (sub_is hP hD is e hn).1 (hD.sub is hn e) hS hl
theorem V_widen {pc : Nat} (k' n' : Nat) (h1 : k ≤ k') (h2 : n ≤ n') (z : V G k' n' ws pc lv st) : V G k n ws pc lv st :=
  fun H locs ls hP hD hS hl => W.widen h1 h2 (z H locs ls hP hD hS hl)
theorem V_newi (h : VOk G cc own nL R) {pc : Nat} {x : Int32} (N : Nat) (hw : Cond.arrayClass (newarray.typeOf .int) ∈ AW) (hn : ¬ x < 0) (hN : x.toNatClampNeg = N) (hb : N * componentBytes .int ≤ 536870912) (hc : k + 1 ≤ R.cells) (hs : n + N ≤ R.slots) (d : decode cc pc = .ok (.newarray .int, 2)) (z : ∀ q, V G (k + 1) (n + N) (ws ++ [(q, .inl ((gK G).2.1, N, .inl (fun _ => 0)))]) (pc + 2) lv (.ref q :: st)) : V G k n ws pc lv (.int x :: st) := by
  obtain ⟨hx, hbd, hml, hown, hts, hK, hNW, hA, rfl⟩ := h
  intro H locs ls hP hD hS hl
  refine va_newa (atype := .int) (ty := .int) (a0 := (N, .inl (fun _ => (0 : Int32)))) hx hbd (hts _ hw) rfl hK hP hD hS hA (fun cA => rfl) hn hN hb hc hs d (fun q cA H1 hK1 hP1 hD1 hS1 => ?_)
  have e : cA = (gK G).2.1 := Option.some.inj (((hK1.2 4 (cA, .int) rfl).2).symm.trans ((hK.2 0 ((gK G).2.1, .int) rfl).2))
  subst e
  exact z q H1 locs ls hP1 hD1 hS1 hl
theorem V_newl (h : VOk G cc own nL R) {pc : Nat} {x : Int32} (N : Nat) (hw : Cond.arrayClass (newarray.typeOf .long) ∈ AW) (hn : ¬ x < 0) (hN : x.toNatClampNeg = N) (hb : N * componentBytes .long ≤ 536870912) (hc : k + 1 ≤ R.cells) (hs : n + N ≤ R.slots) (d : decode cc pc = .ok (.newarray .long, 2)) (z : ∀ q, V G (k + 1) (n + N) (ws ++ [(q, .inl ((gK G).2.2.1, N, .inr (.inl (fun _ => 0))))]) (pc + 2) lv (.ref q :: st)) : V G k n ws pc lv (.int x :: st) := by
  obtain ⟨hx, hbd, hml, hown, hts, hK, hNW, hA, rfl⟩ := h
  intro H locs ls hP hD hS hl
  refine va_newa (atype := .long) (ty := .long) (a0 := (N, .inr (.inl (fun _ => (0 : Int64))))) hx hbd (hts _ hw) rfl hK hP hD hS hA (fun cA => rfl) hn hN hb hc hs d (fun q cA H1 hK1 hP1 hD1 hS1 => ?_)
  have e : cA = (gK G).2.2.1 := Option.some.inj (((hK1.2 4 (cA, .long) rfl).2).symm.trans ((hK.2 1 ((gK G).2.2.1, .long) rfl).2))
  subst e
  exact z q H1 locs ls hP1 hD1 hS1 hl
theorem V_newb (h : VOk G cc own nL R) {pc : Nat} {x : Int32} (N : Nat) (hw : Cond.arrayClass (newarray.typeOf .byte) ∈ AW) (hn : ¬ x < 0) (hN : x.toNatClampNeg = N) (hb : N * componentBytes .byte ≤ 536870912) (hc : k + 1 ≤ R.cells) (hs : n + N ≤ R.slots) (d : decode cc pc = .ok (.newarray .byte, 2)) (z : ∀ q, V G (k + 1) (n + N) (ws ++ [(q, .inl ((gK G).2.2.2.1, N, .inl (fun _ => 0)))]) (pc + 2) lv (.ref q :: st)) : V G k n ws pc lv (.int x :: st) := by
  obtain ⟨hx, hbd, hml, hown, hts, hK, hNW, hA, rfl⟩ := h
  intro H locs ls hP hD hS hl
  refine va_newa (atype := .byte) (ty := .byte) (a0 := (N, .inl (fun _ => (0 : Int32)))) hx hbd (hts _ hw) rfl hK hP hD hS hA (fun cA => rfl) hn hN hb hc hs d (fun q cA H1 hK1 hP1 hD1 hS1 => ?_)
  have e : cA = (gK G).2.2.2.1 := Option.some.inj (((hK1.2 4 (cA, .byte) rfl).2).symm.trans ((hK.2 2 ((gK G).2.2.2.1, .byte) rfl).2))
  subst e
  exact z q H1 locs ls hP1 hD1 hS1 hl
theorem V_newz (h : VOk G cc own nL R) {pc : Nat} {x : Int32} (N : Nat) (hw : Cond.arrayClass (newarray.typeOf .boolean) ∈ AW) (hn : ¬ x < 0) (hN : x.toNatClampNeg = N) (hb : N * componentBytes .boolean ≤ 536870912) (hc : k + 1 ≤ R.cells) (hs : n + N ≤ R.slots) (d : decode cc pc = .ok (.newarray .boolean, 2)) (z : ∀ q, V G (k + 1) (n + N) (ws ++ [(q, .inl ((gK G).2.2.2.2, N, .inl (fun _ => 0)))]) (pc + 2) lv (.ref q :: st)) : V G k n ws pc lv (.int x :: st) := by
  obtain ⟨hx, hbd, hml, hown, hts, hK, hNW, hA, rfl⟩ := h
  intro H locs ls hP hD hS hl
  refine va_newa (atype := .boolean) (ty := .boolean) (a0 := (N, .inl (fun _ => (0 : Int32)))) hx hbd (hts _ hw) rfl hK hP hD hS hA (fun cA => rfl) hn hN hb hc hs d (fun q cA H1 hK1 hP1 hD1 hS1 => ?_)
  have e : cA = (gK G).2.2.2.2 := Option.some.inj (((hK1.2 4 (cA, .boolean) rfl).2).symm.trans ((hK.2 3 ((gK G).2.2.2.2, .boolean) rfl).2))
  subst e
  exact z q H1 locs ls hP1 hD1 hS1 hl
theorem V_new (h : VOk G cc own nL R) {pc idx ci N : Nat} {fs : List Value} (f : NewOk own idx ci N fs) (hc : k + 1 ≤ R.cells) (hs : n + N ≤ R.slots) (d : decode cc pc = .ok (.new idx, 3)) (z : ∀ q, V G (k + 1) (n + N) (ws ++ [(q, .inr (ci, fs))]) (pc + 3) lv (.ref q :: st)) : V G k n ws pc lv st := by
  obtain ⟨C, T, ty, f1, f2, f3, f4, f5, f6, f7⟩ := f
  obtain ⟨hx, hbd, hml, hown, hts, hK, hNW, hA, rfl⟩ := h
  intro H locs ls hP hD hS hl
  exact va_new (Ts := AW) hx hbd hts f2 ty f3 hown (hts _ f4) (hts _ f5) (hts _ f6) hK hP hD hS hA f1 f7 hc hs d (fun q H1 hP1 hD1 hS1 => z q H1 locs ls hP1 hD1 hS1 hl)
theorem V_putF (h : VOk G cc own nL R) {pc idx ci kk : Nat} {ty : FieldType} (f : FL own idx ci kk) (g : FPF own ci kk ty) (hin : (gmt G).name = "<init>") (q0 : Nat) {a : Nat} {fs : List Value} {v : Value} (ws' : va_W) (he : ws[q0]? = some (a, .inr (ci, fs))) (hn : narrow ty v = v) (hf : fits ty v = true) (hlt : kk < fs.length) (hw : ws.set q0 (a, .inr (ci, fs.set kk v)) = ws') (d : decode cc pc = .ok (.putfield idx, 3)) (z : V G k n ws' (pc + 3) lv st) : V G k n ws pc lv (v :: .ref a :: st) := by
  obtain ⟨C, T, N, f1, f2, f3, f4⟩ := f
  obtain ⟨C', T', N', ty0, g1, g2, g3, g4, g5, g6, g7⟩ := g
  cases f1.symm.trans g1
  subst hw
  exact fun H locs ls hP hD hS hl => va_putF (Ts := AW) h.1 h.2.1 h.2.2.2.2.1 f3 ty0 g3 g4 h.2.2.2.1 h.2.2.2.2.2.1 hP hD hS q0 he f1 kk f2 (h.2.2.2.2.1 _ f4) (fun _ h9 => h9) g5 hin g6 g7 hn hf hlt d (fun H1 locs1 hP1 hD1 hS1 => z H1 locs1 ls hP1 hD1 hS1 hl)
theorem V_obj (h : VOk G cc own nL R) {pc idx a : Nat} (w1 : Cond.methodLink own idx objectInit ∈ AW) (w2 : Cond.instanceMethod objectInit ∈ AW) (w3 : Cond.code objectInit ⟨#[0xb1]⟩ 1 none ∈ AW) (hR : 1 ≤ R.frames ∧ 12 ≤ R.locals) (d : decode cc pc = .ok (.invokespecial idx, 3)) (z : V G k n ws (pc + 3) lv []) : V G k n ws pc lv [.ref a] := by
  obtain ⟨hx, hbd, hml, hown, hts, hK, hNW, hA, rfl⟩ := h
  intro H locs ls hP hD hS hl
  exact W.objInit hx hbd hown (hts _ w1) (hts _ w2) (hts _ w3) rfl hl.1 rfl d hR.1 (Nat.le_trans (m := 12) (Nat.le_of_ble_eq_true rfl) hR.2) (W.eq (g2 := F0 _ (pc + 3) ls []) rfl (z H locs ls hP hD hS hl))
theorem V_afterI {mc ms pc : Nat} {wc : va_W} {Pst : Option Value → va_W → Prop} {H : Heap} {locs : List Loc} {ls : Array Slot} {st0 : List Value} (hA : ∀ q, (gS G).heap.size ≤ q → gA G q) (hP : va_P (gK G).1 vwCl ws H) (hD : va_D (gA G) ws) (hS : va_S (gA G) (gS G).heap H locs) (hl : lv_has ls (gc G).maxLocals lv)
    (isC isR : List Nat) (wr : va_W) (hC : isC.map (fun i => ws[i]?) = wc.map some) (hRs : isR.map (fun i => ws[i]?) = wr.map some) (hn : va_nd isR = true) (hdis : ∀ i ∈ isR, i ∉ isC)
    (hr : va_Run (gp G) (gl G) (ge G) (gR G) (gS G) (gm G) (gar G) (gb G) (gmt G) (gc G) H locs k n mc ms (F0 (gm G) pc ls st0) st (pQ (va_A wc H.size) (gK G).1 Pst (gar G)) (va_A wc H.size))
    (z : ∀ r w1, Pst r w1 → V G (k + mc) (n + ms) (wr ++ w1) (pc + 3) lv (r.toList ++ st)) : W (gp G) (gl G) (ge G) (gR G) (gS G) (gm G) (gar G) (gb G) (gmt G) (gc G) H locs k n (gQ G) (F0 (gm G) pc ls st0) := by
  have hF := va_free hD hS hA isC hC
  intro T hT X
  obtain ⟨v, s0, t, T', L, h0, X', hL, e1, e2, ⟨r1, w2, g1, g3, g4, g5, g6, g7⟩, go⟩ := hr T hT X
  cases g3
  rw [h0] at g6 g7
  obtain ⟨p1, p2⟩ := va_join (wr := wr) (w1 := w2) hP hD isC isR hC hRs hn hdis (H1 := T'.heap) (fun q h1 h2 => by rw [e1]; exact g7 q h1 h2) hF (by rw [e1]; exact g4) g5
  obtain ⟨t2, a1, b1⟩ := z v w2 g1 T'.heap (locs ++ L) ls p1 p2 ⟨Nat.le_trans hS.1 (by rw [e1]; exact g6), fun q h1 h2 => by rw [e1, g7 q (Nat.lt_of_lt_of_le h1 hS.1) (fun zz => h2 (hF q zz))]; exact hS.2.1 q h1 h2, fun q hq => by
      rcases List.mem_append.mp hq with h | h
      · exact hS.2.2 q h
      · exact hF _ (hL q h)⟩ hl T' rfl X'
  exact ⟨t2, go t2 a1, b1⟩
theorem V_callI (h : VOk G cc own nL R) {pc idx : Nat} {y : MethodName} {cc' : ByteArray} {nL' np dp' mc ms : Nat} {b : Nat} {As : List Value} {wc : va_W} {Pst : va_W → Prop} (S0 : List Value)
    (hC0 : Ctr y cc' nL' none dp' mc ms (gK G) (.ref b :: As) wc (fun r w => r = none ∧ Pst w)) (mf : MF y cc' nL' none np) (lk : Cond.methodLink own idx y ∈ AW) (im : Cond.instanceMethod y ∈ AW) (hy : y.name = "<init>") (hR : dp' + 1 ≤ R.frames ∧ 8 + (nL' + 11) + 64 * dp' ≤ R.locals) (hkn : k + mc ≤ R.cells ∧ n + ms ≤ R.slots)
    (isC isR : List Nat) (wr : va_W) (hC : isC.map (fun i => ws[i]?) = wc.map some) (hRs : isR.map (fun i => ws[i]?) = wr.map some) (hnC : va_nd isC = true) (hn : va_nd isR = true) (hdis : ∀ i ∈ isR, i ∉ isC)
    (hnp : As.length = np) (hst : S0 = As.reverse ++ .ref b :: st) (hro : (st.map fun v => v.category).sum ≤ 8) (d : decode cc pc = .ok (.invokespecial idx, 3)) (z : ∀ w1, Pst w1 → V G (k + mc) (n + ms) (wr ++ w1) (pc + 3) lv st) : V G k n ws pc lv S0 := by
  subst hst
  obtain ⟨hx, hb, hml, hown, hts, hK, hN, hA, rfl⟩ := h
  intro H locs ls hP hD hS hl
  obtain ⟨c1, c2⟩ := sub_is hP hD isC hC hnC
  refine V_afterI hA hP hD hS hl isC isR wr hC hRs hn hdis (Pst := fun r w => r = none ∧ Pst w) ?_ (fun r w1 q => by obtain ⟨rfl, q2⟩ := q; exact z w1 q2)
  exact va_runI (Ts := AW) (n := np) ⟨hx, hb, hml, hown, hts⟩ (hC0 (gl G) H.size) ⟨callB_of np hts (AW_goodIn mf.2.1) rfl rfl rfl (hts _ mf.1) (hts _ lk) mf.2.2 hR, hy, hts _ im⟩ ⟨blindC, fun U hU hW => ⟨rfl, by rw [hU], by rw [hU]; exact c1, va_K.moved hW.alike hK, NW.warm hW hN, c2⟩⟩ rfl hnp (hl.1.trans hml) rfl (lv_room hro) d hkn
theorem V_callIN (h : VOk G cc own nL R) {pc idx : Nat} {y : MethodName} {cc' : ByteArray} {nL' np dp' mc ms : Nat} {b : Nat} {As : List Value} {wc : va_W} {Pst : va_W → Prop} (S0 : List Value)
    (hC0 : Ctr y cc' nL' none dp' mc ms (gK G) (.ref b :: As) wc (fun r w => r = none ∧ Pst w)) (mf : MF y cc' nL' none np) (lk : NW (gS G) → va_Nw (.methodLinkNest own idx y "BoltRow") (gS G)) (im : Cond.instanceMethod y ∈ AW) (hy : y.name = "<init>") (hR : dp' + 1 ≤ R.frames ∧ 8 + (nL' + 11) + 64 * dp' ≤ R.locals) (hkn : k + mc ≤ R.cells ∧ n + ms ≤ R.slots)
    (isC isR : List Nat) (wr : va_W) (hC : isC.map (fun i => ws[i]?) = wc.map some) (hRs : isR.map (fun i => ws[i]?) = wr.map some) (hnC : va_nd isC = true) (hn : va_nd isR = true) (hdis : ∀ i ∈ isR, i ∉ isC)
    (hnp : As.length = np) (hst : S0 = As.reverse ++ .ref b :: st) (hro : (st.map fun v => v.category).sum ≤ 8) (d : decode cc pc = .ok (.invokespecial idx, 3)) (z : ∀ w1, Pst w1 → V G (k + mc) (n + ms) (wr ++ w1) (pc + 3) lv st) : V G k n ws pc lv S0 := by
  subst hst
  obtain ⟨hx, hb, hml, hown, hts, hK, hN, hA, rfl⟩ := h
  intro H locs ls hP hD hS hl
  obtain ⟨c1, c2⟩ := sub_is hP hD isC hC hnC
  refine V_afterI hA hP hD hS hl isC isR wr hC hRs hn hdis (Pst := fun r w => r = none ∧ Pst w) ?_ (fun r w1 q => by obtain ⟨rfl, q2⟩ := q; exact z w1 q2)
  exact va_runIN (Ts := AW) (n := np) (host := "BoltRow") ⟨hx, hb, hml, hown, hts⟩ (hC0 (gl G) H.size) ⟨va_cnB np hts (AW_goodIn mf.2.1) rfl rfl rfl (lk hN) (hts _ mf.1) mf.2.2 hR, hy, hts _ im⟩ ⟨blindC, fun U hU hW => ⟨rfl, by rw [hU], by rw [hU]; exact c1, va_K.moved hW.alike hK, NW.warm hW hN, c2⟩⟩ rfl hnp (hl.1.trans hml) rfl (lv_room hro) d hkn
end MAKE
