/-! THE LAW'S OWN CALLS: part and row, caught -/
theorem get_mid (pre mid post : va_W) : (List.range' pre.length mid.length).map (fun i => (pre ++ (mid ++ post))[i]?) = mid.map some := by
  apply List.ext_getElem?
  intro i
  rw [List.getElem?_map, List.getElem?_map]
  by_cases hi : i < mid.length
  · rw [List.getElem?_range' hi, Nat.one_mul, Option.map_some, List.getElem?_append_right (by omega), Nat.add_sub_cancel_left, List.getElem?_append_left hi, List.getElem?_eq_getElem hi]
    rfl
  · rw [List.getElem?_eq_none (by rw [List.length_range']; omega), List.getElem?_eq_none (by omega)]
    rfl
theorem get_tail (pre mid : va_W) : (List.range' pre.length mid.length).map (fun i => (pre ++ mid)[i]?) = mid.map some := by
  have h := get_mid pre mid []
  rw [List.append_nil] at h
  exact h
theorem get_head (mid post : va_W) : (List.range' 0 mid.length).map (fun i => (mid ++ post)[i]?) = mid.map some := get_mid [] mid post
theorem stPl_mid : ∀ (mid m1 pre post : va_W), m1.length = mid.length → stPl (pre ++ (mid ++ post)) (List.range' pre.length mid.length) m1 = pre ++ (m1 ++ post)
  | [], m1, pre, post, h => by
    have e : m1 = [] := List.eq_nil_of_length_eq_zero (by simpa using h)
    subst e
    rfl
  | x :: mid, [], pre, post, h => by simp at h
  | x :: mid, y :: m1, pre, post, h => by
    have h1 : m1.length = mid.length := by simpa using h
    have e : (pre ++ (x :: mid ++ post)).set pre.length y = (pre ++ [y]) ++ (mid ++ post) := by
      rw [List.set_append_right (h := Nat.le_refl _), Nat.sub_self]
      simp
    have el : (pre ++ [y]).length = pre.length + 1 := by simp
    have ih := stPl_mid mid m1 (pre ++ [y]) post h1
    rw [el] at ih
    show stPl (pre ++ (x :: mid ++ post)) (List.range' pre.length (mid.length + 1)) (y :: m1) = _
    rw [List.range'_succ]
    show stPl ((pre ++ (x :: mid ++ post)).set pre.length y) (List.range' (pre.length + 1) mid.length) m1 = _
    rw [e, ih]
    simp
theorem blindT {K : Kd} {sz : Nat} {As : List Value} {wc : va_W} : FrameBlind (va_Pc As (PcT K wc sz)) := fun a U g mk q => by
  obtain ⟨q0, q1, qP, qK, qN, qD, qX⟩ := q
  exact ⟨q0, q1, qP, va_K.moved (u := U) (U := U.calling g mk a) (Vm.Alike.refl U.vm) qK, NW.same rfl qN, qD, NX.same rfl qX⟩
def CtrW (y : MethodName) (cc : ByteArray) (nL : Nat) (ret : Option FieldType) (hh : List (Nat × Nat × Nat × Nat)) (dp mc ms : Nat) (K : Kd) (As : List Value) (ws : va_W) (Pst : Option Value → va_W → Prop) : Prop :=
  ∀ (l : Launch), l.stackTraces = false → ∀ sz : Nat, Met l y (.codeWith y cc nL ret hh :: AW) (rmC dp mc ms) (va_Pc As (PcT K ws sz)) (pQ (va_A ws sz) K.1 Pst) mc ms (va_A ws sz)
theorem mkCtrW {y : MethodName} {cc : ByteArray} {nL : Nat} {ret : Option FieldType} {hh : List (Nat × Nat × Nat × Nat)} {dp mc ms : Nat} {K : Kd} {As : List Value} {ws : va_W} {Pst : Option Value → va_W → Prop} (hy : plainName y.cls = true) (hlen : (lg_sl As).length ≤ nL)
    (body : ∀ G : Gm, gK G = K → VOk G cc y.cls nL (rmC dp mc ms) → RetQ G mc ms ret Pst → (gl G).stackTraces = false → (gc G).exceptionTable.toList = tableOf hh → NX (gA G) (gS G) (gS G).heap → V G 0 0 ws 0 (lv_args 0 As) []) : CtrW y cc nL ret hh dp mc ms K As ws Pst := by
  intro l hl0 sz
  refine va_MetW (cc := cc) (maxL := nL) (ret := ret) (hh := hh) hy rfl ?_
  intro p e s m args below meth c s₁ B hml hv
  obtain ⟨rfl, hsz, hP, hK, hN, hD0, hX⟩ := hv
  subst hsz
  have hts := atoms_spec (ws := Cond.codeWith y cc nL ret hh :: AW) B.pre
  have hown : s.vm.findClass y.cls = some m.cls := findClass_of_methodNamed B.named
  have hD := hD0.self (sz := s.heap.size)
  have hl := lv_entry As (n := nL) hlen
  rw [lg_entry_eq]
  have hb := body ((p, l, e, rmC dp mc ms, s), (m, As.toArray, below, meth, c), (va_A ws s.heap.size, K, MQ below (pQ (va_A ws s.heap.size) K.1 Pst) As.toArray s mc ms (va_A ws s.heap.size))) rfl
    ⟨B.exec, B.bytes, hml, hown, fun w hw => hts w (List.mem_cons_of_mem _ hw), hK, hN, fun q h => Or.inr h, rfl⟩ ⟨B.returns, B.notSynchronized, rfl⟩ hl0 (vx_table (x := y) B (hts _ List.mem_cons_self)) hX
  exact hb s.heap [] _ hP hD va_S.rf (by rw [show (gc _).maxLocals = nL from hml]; exact hl)
section LAWC
variable {G : Gm} {k n : Nat} {ws : va_W} {lv : List (Nat × Value)} {st : List Value} {cc : ByteArray} {own : String} {nL : Nat} {R : Room}
theorem V_callT (h : VOk G cc own nL R) (hX : NX (gA G) (gS G) (gS G).heap) (hl0 : (gl G).stackTraces = false) (x : ExceptionTableEntry) (htab : (gc G).exceptionTable.toList = [x]) {pc idx : Nat} {y : MethodName} {cc' : ByteArray} {nL' : Nat} {ret' : Option FieldType} {np dp' mc ms : Nat} {b : Nat} {As : List Value} {wc : va_W} {Pst : Option Value → va_W → Prop} {XP : Prop} (S0 : List Value)
    (hC0 : CtrT y cc' nL' ret' dp' mc ms (gK G) (.ref b :: As) wc Pst XP) (mf : MF y cc' nL' ret' np) (lk : Cond.methodLink own idx y ∈ AW) (im : Cond.instanceMethod y ∈ AW) (se : Cond.selects y.cls y y ∈ AW) (hR : dp' + 1 ≤ R.frames ∧ 8 + (nL' + 11) + 64 * dp' ≤ R.locals) (hkn : k + mc ≤ R.cells ∧ n + ms ≤ R.slots)
    (isC isR : List Nat) (wr : va_W) (hC : isC.map (fun i => ws[i]?) = wc.map some) (hRs : isR.map (fun i => ws[i]?) = wr.map some) (hnC : va_nd isC = true) (hn : va_nd isR = true) (hdis : ∀ i ∈ isR, i ∉ isC)
    (q0 : Nat) {ci : Nat} {fs : List Value} {T : u_T} {N : Nat} (hq : ws[q0]? = some (b, .inr (ci, fs))) (hci : vwCl[ci]? = some (y.cls, T, N))
    (hnp : As.length = np) (hst : S0 = As.reverse ++ .ref b :: st) (hro : (st.map fun v => v.category).sum ≤ 8) (d : decode cc pc = .ok (.invokevirtual idx, 3))
    (hcov : covers x pc = true) (hct : x.catchType ≠ 0) (lkx : Cond.classLink own x.catchType NSE ∈ AW)
    (z : ∀ r w1, Pst r w1 → V G (k + mc) (n + ms) (wr ++ w1) (pc + 3) lv (r.toList ++ st))
    (zx : XP → ∀ q : Nat, V G (k + mc) (n + ms) (wr ++ wc) x.handlerPc lv [.ref q]) : V G k n ws pc lv S0 := by
  subst hst
  obtain ⟨hx, hb, hml, hown, hts, hK, hN, hA, rfl⟩ := h
  intro H locs ls hP hD hS hl
  obtain ⟨c1, c2⟩ := sub_is hP hD isC hC hnC
  have hF := va_free hD hS hA isC hC
  have hXH : NX (va_A wc H.size) (gS G) H := (hX.kept hS.2.1).narrow hF
  have hr := vx_runV (e := ge G) (below := gb G) (meth := gmt G) (Ts := AW) (n := np) (g := F0 (gm G) pc ls (As.reverse ++ .ref b :: st)) (H := H) (locs := locs) (cells := k) (slots := n) ⟨hx, hb, hml, hown, hts⟩ (hC0 (gl G) hl0 H.size) ⟨callB_of np hts (AW_goodIn mf.2.1) rfl rfl rfl (hts _ mf.1) (hts _ lk) mf.2.2 hR, hts _ im, hts _ se⟩ ⟨blindT, va_recv hK hP hci hq, fun U hU hW => ⟨rfl, by rw [hU], by rw [hU]; exact c1, va_K.moved hW.alike hK, NW.warm hW hN, c2, by rw [hU]; exact hXH.warm hW⟩⟩ rfl hnp (hl.1.trans hml) rfl (lv_room hro) d hkn
  intro T hT X
  have hSn : ∀ (T' : State) (L : List Loc), H.size ≤ T'.heap.size → (∀ q, q < H.size → ¬ va_A wc H.size q → T'.heap[q]? = H[q]?) → (∀ q ∈ L, va_A wc H.size q.base) → va_S (gA G) (gS G).heap T'.heap (locs ++ L) := fun T' L g6 g7 hL => ⟨Nat.le_trans hS.1 g6, fun q h1 h2 => by rw [g7 q (Nat.lt_of_lt_of_le h1 hS.1) (fun zz => h2 (hF q zz))]; exact hS.2.1 q h1 h2, fun q hq => by
      rcases List.mem_append.mp hq with h | h
      · exact hS.2.2 q h
      · exact hF _ (hL q h)⟩
  rcases hr T hT X with ⟨v, s0, t, T', L, h0, X', hL, e1, e2, ⟨r1, w2, g1, g3, g4, g5, g6, g7⟩, go⟩ | ⟨q, s0, t, T', L, E, ce, h0, X', hL, e1, e2, ⟨hE, hXP, hPx, g6, g7⟩, hce, hcv, hcl, go⟩
  · cases g3
    rw [h0, ← e1] at g6 g7
    obtain ⟨p1, p2⟩ := va_join (wr := wr) (w1 := w2) hP hD isC isR hC hRs hn hdis (H1 := T'.heap) g7 hF (by rw [e1]; exact g4) g5
    obtain ⟨t2, a1, b1⟩ := z v w2 g1 T'.heap (locs ++ L) ls p1 p2 (hSn T' L g6 g7 hL) hl T' rfl X'
    exact ⟨t2, go t2 a1, b1⟩
  · subst hE
    rw [h0, ← e1] at g6 g7
    obtain ⟨p1, p2⟩ := va_join (wr := wr) (w1 := wc) hP hD isC isR hC hRs hn hdis (H1 := T'.heap) g7 hF (by rw [e1]; exact hPx) c2.self
    have hz := zx hXP q T'.heap (locs ++ L) ls p1 p2 (hSn T' L g6 g7 hL) hl
    obtain ⟨t2, a1, b1⟩ := vx_catch (rest := st) (pc := pc) hown [] x [] htab (fun z hz => absurd hz List.not_mem_nil) hcov hct (hts _ lkx) (va_Nw.use rfl hX.1) (by rw [e1]; exact hce) hcv hcl hz T' rfl X'
    exact ⟨t2, go.trans a1, b1⟩
end LAWC
