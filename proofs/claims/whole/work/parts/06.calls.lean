/-! a call on a part of the world: the callee's cells by their places, the others' places, the world behind it -/
def covB (L : Nat) (isC isR : List Nat) : Bool := (List.range L).all (fun k => isC.contains k || isR.contains k) && isR.all (fun k => !isC.contains k)
theorem covB_spec {L : Nat} {isC isR : List Nat} (h : covB L isC isR = true) : (∀ k, k < L → k ∈ isC ∨ k ∈ isR) ∧ ∀ k ∈ isR, k ∉ isC := by
  unfold covB at h
  rw [Bool.and_eq_true] at h
  refine ⟨fun k hk => ?_, fun k hk hc => ?_⟩
  · have := List.all_eq_true.mp h.1 k (List.mem_range.mpr hk)
    rw [Bool.or_eq_true] at this
    rcases this with q | q
    · exact Or.inl (by simpa using q)
    · exact Or.inr (by simpa using q)
  · have := List.all_eq_true.mp h.2 k hk
    simp at this
    exact this hc
section VP
variable {G : Gm} {k n : Nat} {ws : va_W} {lv : List (Nat × Value)} {st : List Value} {cc : ByteArray} {own : String} {nL : Nat} {R : Room}
theorem at_places {ws : va_W} {isC : List Nat} {w1 : va_W} (h : isC.map (fun i => ws[i]?) = w1.map some) {k : Nat} (hk : k ∈ isC) {q : Nat × va_E} (hq : ws[k]? = some q) : ∃ j : Nat, w1[j]? = some q ∧ isC[j]? = some k := by
  obtain ⟨j, hj⟩ := List.getElem?_of_mem hk
  have h3 : (isC.map (fun i => ws[i]?))[j]? = some (ws[k]?) := by rw [List.getElem?_map, hj]; rfl
  rw [h, List.getElem?_map] at h3
  cases hw : w1[j]? with
  | none => rw [hw] at h3; cases h3
  | some x =>
    rw [hw] at h3
    have h4 : some x = ws[k]? := Option.some.inj h3
    rw [hq] at h4
    exact ⟨j, by rw [hw, Option.some.inj h4], hj⟩
theorem places_P {D : va_G} {A : Nat → Prop} {ws ws2 wc w1 : va_W} {H H1 : Heap} (hP : va_P D vwCl ws H) (hD : va_D A ws) (isC isR : List Nat) (L : Nat) (hL : ws2.length = L) (hcov : covB L isC isR = true) (hC : isC.map (fun i => ws[i]?) = wc.map some) (hC2 : isC.map (fun i => ws2[i]?) = w1.map some) (wr : va_W) (hR1 : isR.map (fun i => ws[i]?) = wr.map some) (hR2 : isR.map (fun i => ws2[i]?) = wr.map some) (hf : w1.map (·.1) = wc.map (·.1))
    (hk : ∀ q : Nat, q < H.size → ¬ va_A wc H.size q → H1[q]? = H[q]?) (hP1 : va_P D vwCl w1 H1) : va_P D vwCl ws2 H1 ∧ va_D A ws2 := by
  subst hL
  obtain ⟨c1, c2⟩ := covB_spec hcov
  have rest : ∀ (k : Nat) (q : Nat × va_E), k ∈ isR → ws2[k]? = some q → ws[k]? = some q := by
    intro k q hm hq
    obtain ⟨j, hj, hj2⟩ := at_places hR2 hm hq
    have e1 : (isR.map (fun i => ws[i]?))[j]? = some (ws[k]?) := by rw [List.getElem?_map, hj2]; rfl
    rw [hR1, List.getElem?_map, hj] at e1
    exact (Option.some.inj e1).symm
  have key : ∀ (k : Nat) (q : Nat × va_E), ws2[k]? = some q → ∃ q', ws[k]? = some q' ∧ q'.1 = q.1 := by
    intro k q hq
    rcases c1 k (List.getElem?_eq_some_iff.mp hq).1 with hm | hm
    · obtain ⟨j, hj, hj2⟩ := at_places hC2 hm hq
      have e0 : (wc.map (·.1))[j]? = some q.1 := by rw [← hf, List.getElem?_map, hj]; rfl
      rw [List.getElem?_map] at e0
      have e1 : (isC.map (fun i => ws[i]?))[j]? = some (ws[k]?) := by rw [List.getElem?_map, hj2]; rfl
      rw [hC, List.getElem?_map] at e1
      cases hw : wc[j]? with
      | none => rw [hw] at e0; cases e0
      | some x =>
        rw [hw] at e0 e1
        exact ⟨x, (Option.some.inj e1).symm, Option.some.inj e0⟩
    · exact ⟨q, rest k q hm hq, rfl⟩
  refine ⟨fun k q hq => ?_, fun i j p q hi hj hpq => ?_, fun i p hi => ?_⟩
  rotate_left
  · obtain ⟨p', a1, a2⟩ := key i p hi
    obtain ⟨q', b1, b2⟩ := key j q hj
    exact hD.1 i j p' q' a1 b1 (by rw [a2, b2]; exact hpq)
  · obtain ⟨p', a1, a2⟩ := key i p hi
    rw [← a2]; exact hD.2 i p' a1
  rcases c1 k (List.getElem?_eq_some_iff.mp hq).1 with hm | hm
  · obtain ⟨j, hj, -⟩ := at_places hC2 hm hq
    exact hP1 j q hj
  · have h2 : ws[k]? = some q := rest k q hm hq
    refine (hP k q h2).kept (hk q.1 (hP k q h2).lt ?_)
    rintro (⟨j, e, hj⟩ | hle)
    · have h3 : (isC.map (fun i => ws[i]?))[j]? = some (some (q.1, e)) := by rw [hC, List.getElem?_map, hj]; rfl
      rw [List.getElem?_map] at h3
      cases hi : isC[j]? with
      | none => rw [hi] at h3; cases h3
      | some i =>
        rw [hi] at h3
        have h4 : ws[i]? = some (q.1, e) := Option.some.inj h3
        have := hD.1 k i q (q.1, e) h2 h4 rfl
        subst this
        exact c2 k hm (List.mem_of_getElem? hi)
    · have := (hP k q h2).lt
      omega
theorem V_afterP {pc : Nat} {wc w1 ws2 : va_W} {r : Option Value} {H : Heap} {locs : List Loc} {ls : Array Slot} {st0 : List Value} (hA : ∀ q, (gS G).heap.size ≤ q → gA G q) (hP : va_P (gK G).1 vwCl ws H) (hD : va_D (gA G) ws) (hS : va_S (gA G) (gS G).heap H locs) (hl : lv_has ls (gc G).maxLocals lv)
    (isC isR : List Nat) (L : Nat) (hL : ws2.length = L) (hcov : covB L isC isR = true) (hC : isC.map (fun i => ws[i]?) = wc.map some) (hC2 : isC.map (fun i => ws2[i]?) = w1.map some) (wr : va_W) (hR1 : isR.map (fun i => ws[i]?) = wr.map some) (hR2 : isR.map (fun i => ws2[i]?) = wr.map some) (hf : w1.map (·.1) = wc.map (·.1))
    (hr : va_Run (gp G) (gl G) (ge G) (gR G) (gS G) (gm G) (gar G) (gb G) (gmt G) (gc G) H locs k n 0 0 (F0 (gm G) pc ls st0) st (pQ (va_A wc H.size) (gK G).1 (Eqs r w1) (gar G)) (va_A wc H.size))
    (z : V G k n ws2 (pc + 3) lv (r.toList ++ st)) : W (gp G) (gl G) (ge G) (gR G) (gS G) (gm G) (gar G) (gb G) (gmt G) (gc G) H locs k n (gQ G) (F0 (gm G) pc ls st0) := by
  have hF := va_free hD hS hA isC hC
  intro T hT X
  obtain ⟨v, s0, t, T', Ls, h0, X', hL', e1, e2, ⟨r1, w2, ⟨g1, g2⟩, g3, g4, g5, g6, g7⟩, go⟩ := hr T hT X
  subst g1; subst g2
  cases g3
  rw [h0] at g6 g7
  obtain ⟨p1, p2⟩ := places_P hP hD isC isR L hL hcov hC hC2 wr hR1 hR2 hf (H1 := T'.heap) (fun q h1 h2 => by rw [e1]; exact g7 q h1 h2) (by rw [e1]; exact g4)
  obtain ⟨t2, a1, b1⟩ := z T'.heap (locs ++ Ls) ls p1 p2 ⟨Nat.le_trans hS.1 (by rw [e1]; exact g6), fun q h1 h2 => by rw [e1, g7 q (Nat.lt_of_lt_of_le h1 hS.1) (fun zz => h2 (hF q zz))]; exact hS.2.1 q h1 h2, fun q hq => by
      rcases List.mem_append.mp hq with h | h
      · exact hS.2.2 q h
      · exact hF _ (hL' q h)⟩ hl T' rfl X'
  exact ⟨t2, go t2 a1, b1⟩
theorem V_partV (h : VOk G cc own nL R) {pc idx : Nat} {y : MethodName} {cc' : ByteArray} {nL' : Nat} {ret' : Option FieldType} {np dp' : Nat} {b : Nat} {As : List Value} {wc w1 : va_W} {r : Option Value} (S0 : List Value)
    (hC0 : Ctr y cc' nL' ret' dp' 0 0 (gK G) (.ref b :: As) wc (Eqs r w1)) (mf : MF y cc' nL' ret' np) (lk : Cond.methodLink own idx y ∈ AW) (im : Cond.instanceMethod y ∈ AW) (se : Cond.selects y.cls y y ∈ AW) (hR0 : dp' + 1 ≤ R.frames ∧ 8 + (nL' + 11) + 64 * dp' ≤ R.locals) (hkn : k ≤ R.cells ∧ n ≤ R.slots)
    (ws2 : va_W) (isC isR : List Nat) (L : Nat) (hL : ws2.length = L) (hcov : covB L isC isR = true) (hn : va_nd isC = true) (hC : isC.map (fun i => ws[i]?) = wc.map some) (hC2 : isC.map (fun i => ws2[i]?) = w1.map some) (wr : va_W) (hR1 : isR.map (fun i => ws[i]?) = wr.map some) (hR2 : isR.map (fun i => ws2[i]?) = wr.map some) (hf : w1.map (·.1) = wc.map (·.1))
    (q0 : Nat) {ci : Nat} {fs : List Value} {T : u_T} {N : Nat} (hq : ws[q0]? = some (b, .inr (ci, fs))) (hci : vwCl[ci]? = some (y.cls, T, N))
    (hnp : As.length = np) (hst : S0 = As.reverse ++ .ref b :: st) (hro : (st.map fun v => v.category).sum ≤ 8) (S2 : List Value) (h2 : r.toList ++ st = S2) (d : decode cc pc = .ok (.invokevirtual idx, 3)) (z : V G k n ws2 (pc + 3) lv S2) : V G k n ws pc lv S0 := by
  subst hst; subst h2
  obtain ⟨hx, hb, hml, hown, hts, hK, hN, hA, rfl⟩ := h
  intro H locs ls hP hD hS hl
  obtain ⟨c1, c2⟩ := sub_is hP hD isC hC hn
  refine V_afterP hA hP hD hS hl isC isR L hL hcov hC hC2 wr hR1 hR2 hf ?_ z
  exact va_runV (Ts := AW) (n := np) ⟨hx, hb, hml, hown, hts⟩ (hC0 (gl G) H.size) ⟨callB_of np hts (AW_goodIn mf.2.1) rfl rfl rfl (hts _ mf.1) (hts _ lk) mf.2.2 hR0, hts _ im, hts _ se⟩ ⟨blindC, va_recv hK hP hci hq, fun U hU hW => ⟨rfl, by rw [hU], by rw [hU]; exact c1, va_K.moved hW.alike hK, NW.warm hW hN, c2⟩⟩ rfl hnp (hl.1.trans hml) rfl (lv_room hro) d hkn
end VP
