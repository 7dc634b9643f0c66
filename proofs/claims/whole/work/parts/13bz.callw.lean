/-! a call with more than eight words left on the stack below it -/
section VQ
variable {G : Gm} {k n : Nat} {ws : va_W} {lv : List (Nat × Value)} {st : List Value} {cc : ByteArray} {own : String} {nL : Nat} {R : Room}
theorem V_wallV16 (h : VOk G cc own nL R) {pc idx : Nat} {y : MethodName} {cc' : ByteArray} {nL' : Nat} {ret' : Option FieldType} {np dp' : Nat} {b : Nat} {As : List Value} {w1 : va_W} {r : Option Value} (S0 : List Value)
    (hC0 : Ctr y cc' nL' ret' dp' 0 0 (gK G) (.ref b :: As) ws (Eqs r w1)) (mf : MF y cc' nL' ret' np) (lk : Cond.methodLink own idx y ∈ AW) (im : Cond.instanceMethod y ∈ AW) (se : Cond.selects y.cls y y ∈ AW) (hR : dp' + 1 ≤ R.frames ∧ 16 + (nL' + 11) + 64 * dp' ≤ R.locals) (hkn : k ≤ R.cells ∧ n ≤ R.slots)
    (hf : w1.map (·.1) = ws.map (·.1)) (q0 : Nat) {ci : Nat} {fs : List Value} {T : u_T} {N : Nat} (hq : ws[q0]? = some (b, .inr (ci, fs))) (hci : vwCl[ci]? = some (y.cls, T, N))
    (hnp : As.length = np) (hst : S0 = As.reverse ++ .ref b :: st) (hro : (st.map fun v => v.category).sum ≤ 16) (S2 : List Value) (h2 : r.toList ++ st = S2) (d : decode cc pc = .ok (.invokevirtual idx, 3)) (z : V G k n w1 (pc + 3) lv S2) : V G k n ws pc lv S0 := by
  subst hst; subst h2
  obtain ⟨hx, hb, hml, hown, hts, hK, hN, hA, rfl⟩ := h
  intro H locs ls hP hD hS hl
  refine V_after0 hA hP hD hS hl hf ?_ z
  have hM := hC0 (gl G) H.size
  have hblind := blindC (K := gK G) (sz := H.size) (As := .ref b :: As) (wc := ws)
  have hgood := AW_goodIn mf.2.1
  have hKb : Back (gl G) (gR G) (gp G) (ge G) (gb G) (gS G) (gar G) y 3 16 (PreOf (gR G) 0 0 (va_Pc (.ref b :: As) (fun U => U.heap.size = H.size ∧ va_P (gK G).1 vwCl ws U.heap ∧ va_K (gK G).1 vwCl (kty (gK G)) U ∧ NW U ∧ va_D (fun _ => True) ws))) (PostOf (pQ (va_A ws H.size) (gK G).1 (Eqs r w1)) 0 0 (va_A ws H.size)) :=
    back_of (bytes := cc') (maxL := nL') (ret := ret') hM hblind rfl rfl hR.1 hR.2 (fun w hw a' U hW => word_at hW (hgood w hw).2 (hts _ (hgood w hw).1)) List.mem_cons_self (fun a' U hW => word_at hW (Or.inl (by first | rfl | simp [Cond.onTables, Cond.keeps, Cond.steady])) (hts _ mf.1))
  obtain ⟨cellB, g1, g2, g3⟩ := va_recv hK hP hci hq
  intro T hT X
  obtain ⟨v, vm₁, ⟨U', l2, c2, s2⟩, hW₁, X', ⟨g', mk, t, L, e1, e2, hq', h1, hL, h2', h3⟩, st'⟩ := callV X hx (C := y.cls) (bytes := cc') (maxL := nL') (ret := ret') hown (hts _ lk) (hts _ im) (hts _ se) (hts _ mf.2.1) ⟨mf.2.2.1, mf.2.2.2.1⟩ hKb (by rw [hT]; exact g1) g2 g3 (g := F0 (gm G) pc ls (As.reverse ++ .ref b :: st)) rfl (hl.1) (argsL := As) (rest := st) (fun sig hs => by
      have h9 := mf.2.2.2.2
      rw [hs] at h9
      exact hnp.trans (Option.some.inj h9).symm) rfl (by show 2 * 0 + _ ≤ 16; omega) (by rw [hb]; exact d)
    (fun vm₁ hW₁ => ⟨hkn.1, hkn.2, rfl, by rw [← hT]; rfl, by show va_P _ _ _ T.heap; rw [hT]; exact hP, va_K.moved hW₁.alike hK, NW.warm hW₁ hN, hD.weaken (fun _ _ _ _ => trivial)⟩)
  dsimp only [Pt.U, Pt.locs, Pt.cells, Pt.slots] at X' e1 e2 h1 h2' h3 st'
  subst h1; subst h2'; subst h3
  exact ⟨v, (T.setVm vm₁).calling g' mk (Value.ref b :: As).toArray, t, U', L, hT, X', hL, e1, e2, hq', st'⟩
end VQ
