/-! THE LAW'S WALK: its rules -/
theorem AW_goodW {w : Cond} (h : w ∈ AW) : GoodIn AW (w :: AW) := fun v hv => by
  rcases List.mem_cons.mp hv with e | e
  · rw [e]; exact ⟨h, good_of_word (AW_good h)⟩
  · exact ⟨e, good_of_word (AW_good e)⟩
section LAWR
variable {G : Gm} {k n : Nat} {ws : va_W} {lv : List (Nat × Value)} {st : List Value} {cc : ByteArray} {own : String} {nL : Nat} {R : Room}
theorem V_sld (h : VOk G cc own nL R) {b L : Nat} {xs : Nat → Int32} (hX : va_X b L xs (gS G) (gS G).heap) (hbl : b < (gS G).heap.size) (hbA : ¬ gA G b) {pc : Nat} {i : Int32} (hin : vp_in i L) (d : decode cc pc = .ok (.iaload, 1)) (z : V G k n ws (pc + 1) lv (.int (xs i.toNatClampNeg) :: st)) : V G k n ws pc lv (.int i :: .ref b :: st) :=
  fun H locs ls hP hD hS hl => va_sld h.1 h.2.1 hX hbl hbA hS hin d (z H locs ls hP hD hS hl)
theorem V_slen (h : VOk G cc own nL R) {b L : Nat} {xs : Nat → Int32} (hX : va_X b L xs (gS G) (gS G).heap) (hbl : b < (gS G).heap.size) (hbA : ¬ gA G b) {pc : Nat} (d : decode cc pc = .ok (.arraylength, 1)) (z : V G k n ws (pc + 1) lv (.int (Int32.ofNat L) :: st)) : V G k n ws pc lv (.ref b :: st) :=
  fun H locs ls hP hD hS hl => va_slen h.1 h.2.1 hX hbl hbA hS d (z H locs ls hP hD hS hl)
theorem V_mid (h : VOk G cc own nL R) {pc idx : Nat} {y : MethodName} {cc' : ByteArray} {nL' : Nat} {ret' : Option FieldType} {np dp' : Nat} {b : Nat} {As : List Value} {pre mid post m1 : va_W} {r : Option Value} (S0 : List Value)
    (hC0 : Ctr y cc' nL' ret' dp' 0 0 (gK G) (.ref b :: As) mid (Eqs r m1)) (mf : MF y cc' nL' ret' np) (lk : Cond.methodLink own idx y ∈ AW) (im : Cond.instanceMethod y ∈ AW) (se : Cond.selects y.cls y y ∈ AW) (hR : dp' + 1 ≤ R.frames ∧ 8 + (nL' + 11) + 64 * dp' ≤ R.locals) (hkn : k ≤ R.cells ∧ n ≤ R.slots)
    (hnd : va_nd (List.range' pre.length mid.length) = true) (hf : m1.map (·.1) = mid.map (·.1)) {ci : Nat} {fs : List Value} {T : u_T} {N : Nat} (hq : mid[0]? = some (b, .inr (ci, fs))) (hci : vwCl[ci]? = some (y.cls, T, N))
    (hnp : As.length = np) (hst : S0 = As.reverse ++ .ref b :: st) (hro : (st.map fun v => v.category).sum ≤ 8) (S2 : List Value) (h2 : r.toList ++ st = S2) (d : decode cc pc = .ok (.invokevirtual idx, 3)) (z : V G k n (pre ++ (m1 ++ post)) (pc + 3) lv S2) : V G k n (pre ++ (mid ++ post)) pc lv S0 := by
  have hpos : 0 < mid.length := (List.getElem?_eq_some_iff.mp hq).1
  have hlen : m1.length = mid.length := by simpa using congrArg List.length hf
  refine V_callV h S0 hC0 mf lk im se hR hkn (List.range' pre.length mid.length) (get_mid pre mid post) hnd hf pre.length (ci := ci) (fs := fs) ?_ hci hnp hst hro (pre ++ (m1 ++ post)) (stPl_mid mid m1 pre post hlen) S2 h2 d z
  rw [List.getElem?_append_right (Nat.le_refl _), Nat.sub_self, List.getElem?_append_left hpos]
  exact hq
theorem V_callSW (h : VOk G cc own nL R) (hX : NX (gA G) (gS G) (gS G).heap) (hl0 : (gl G).stackTraces = false) {pc idx : Nat} {y : MethodName} {cc' : ByteArray} {nL' : Nat} {ret' : Option FieldType} {hh : List (Nat × Nat × Nat × Nat)} {np dp' mc ms : Nat} {As : List Value} {wc : va_W} {Pst : Option Value → va_W → Prop} (S0 : List Value)
    (hC0 : CtrW y cc' nL' ret' hh dp' mc ms (gK G) As wc Pst) (mi : Cond.initialized y.cls ∈ AW) (mc9 : Cond.codeWith y cc' nL' ret' hh ∈ AW) (md : y.cls ≠ "java/lang/invoke/MethodHandle" ∧ y.cls ≠ "java/lang/invoke/VarHandle" ∧ (parseMethodDescriptor y.desc).map (fun d => d.parameters.length) = some np) (lk : Cond.methodLink own idx y ∈ AW) (sm : Cond.static y ∈ AW) (hR : dp' + 1 ≤ R.frames ∧ 8 + (nL' + 11) + 64 * dp' ≤ R.locals) (hkn : k + mc ≤ R.cells ∧ n + ms ≤ R.slots)
    (isC isR : List Nat) (wr : va_W) (hC : isC.map (fun i => ws[i]?) = wc.map some) (hRs : isR.map (fun i => ws[i]?) = wr.map some) (hnC : va_nd isC = true) (hn : va_nd isR = true) (hdis : ∀ i ∈ isR, i ∉ isC)
    (hnp : As.length = np) (hst : S0 = As.reverse ++ st) (hro : (st.map fun v => v.category).sum ≤ 8) (d : decode cc pc = .ok (.invokestatic idx, 3)) (z : ∀ r w1, Pst r w1 → V G (k + mc) (n + ms) (wr ++ w1) (pc + 3) lv (r.toList ++ st)) : V G k n ws pc lv S0 := by
  subst hst
  obtain ⟨hx, hb, hml, hown, hts, hK, hN, hA, rfl⟩ := h
  intro H locs ls hP hD hS hl
  obtain ⟨c1, c2⟩ := sub_is hP hD isC hC hnC
  have hF := va_free hD hS hA isC hC
  have hXH : NX (va_A wc H.size) (gS G) H := (hX.kept hS.2.1).narrow hF
  refine V_afterI hA hP hD hS hl isC isR wr hC hRs hn hdis (Pst := Pst) ?_ z
  exact vx_runSW (As := As) (Ts := AW) (n := np) ⟨hx, hb, hml, hown, hts⟩ (hC0 (gl G) hl0 H.size) ⟨⟨rfl, rfl, hR.1, hR.2, pay_in hts (AW_goodW mc9), List.mem_cons_self⟩, hts _ mc9, hts _ mi, ⟨md.1, md.2.1⟩, fun sig hs => by
      have h2 := md.2.2
      rw [hs] at h2
      exact (Option.some.inj h2).symm, hts _ lk, hts _ sm⟩ ⟨blindT, fun U hU hW => ⟨rfl, by rw [hU], by rw [hU]; exact c1, va_K.moved hW.alike hK, NW.warm hW hN, c2, by rw [hU]; exact hXH.warm hW⟩⟩ rfl hnp (hl.1.trans hml) rfl (lv_room hro) d hkn
end LAWR
/-- what the law's walk stands on -/
def LawOk (G : Gm) (b L : Nat) (xs : Nat → Int32) : Prop := VOk G cL_law RL 8 room_1 ∧ va_X b L xs (gS G) (gS G).heap ∧ b < (gS G).heap.size ∧ (¬ gA G b) ∧ L ≤ 3584 ∧ NX (gA G) (gS G) (gS G).heap ∧ (gl G).stackTraces = false ∧ ∀ (k n : Nat) (ws : va_W) (lv : List (Nat × Value)), k ≤ 603490 → n ≤ 7285634 → V G k n ws 1419 lv [.int 1]
theorem inx {i L t : Nat} (h : i + 7 ≤ L) (hL : L ≤ 3584) (ht : t ≤ 6) : vp_in (zI (i : Int) + zI (t : Int)) L := by
  rw [zI_addN, ← nI_z]
  exact vp_in_nI (by omega) (by omega)
theorem inx0 {i L : Nat} (h : i + 7 ≤ L) (hL : L ≤ 3584) : vp_in (zI (i : Int)) L := by
  rw [← nI_z]
  exact vp_in_nI (by omega) (by omega)
abbrev lvL (b q1 q2 out i : Nat) : List (Nat × Value) := [(0, .ref b), (1, .ref q1), (2, .ref q2), (3, .ref out), (4, .int (zI (i : Int)))]
abbrev wsL (G : Gm) (out : Nat) (o0 : Nat → Int64) (wx wm : va_W) : va_W := [outc (gK G) out o0] ++ (wx ++ wm)
theorem wl_1 {c : Nat × va_E} {wx wm : va_W} : [c] ++ (wx ++ wm) = ([c] ++ wx) ++ (wm ++ []) := by rw [List.append_nil, List.append_assoc]
theorem wl_2 {c : Nat × va_E} {wx wm : va_W} : ([c] ++ wx) ++ (wm ++ []) = [c] ++ (wx ++ wm) := wl_1.symm
