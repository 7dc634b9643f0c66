/-! THROWS: what the class throws, and who catches it -/
def NSE : String := "java/util/NoSuchElementException"
def NMS : List String := ["java/lang/RuntimeException", "java/lang/Exception"]
def nd1 : Cond := .declares ⟨"java/lang/RuntimeException", "<init>", "()V"⟩
def nd2 : Cond := .declares ⟨"java/lang/Exception", "<init>", "()V"⟩
def nd3 : Cond := .declares ⟨"java/lang/Throwable", "<init>", "()V"⟩
def NX (A : Nat → Prop) (U : State) (H : Heap) : Prop := va_Nw (.castable NSE NSE) U ∧ va_Nw nd1 U ∧ va_Nw nd2 U ∧ va_Nw nd3 U ∧ vx_Zq Bundle.tN "UNASSIGNED_STACK" Bundle.steD A U H ∧ vx_Zq Bundle.tN "SUPPRESSED_SENTINEL" Bundle.listD A U H
theorem NX.warm {A : Nat → Prop} {s U : State} {H : Heap} (hW : s.WarmedH U.vm) (h : NX A s H) : NX A U H := ⟨va_Nw.warmC hW h.1, va_Nw.warmD hW h.2.1, va_Nw.warmD hW h.2.2.1, va_Nw.warmD hW h.2.2.2.1, vx_Zq.moved hW.alike h.2.2.2.2.1, vx_Zq.moved hW.alike h.2.2.2.2.2⟩
theorem NX.same {A : Nat → Prop} {u U : State} {H : Heap} (e : u.vm = U.vm) (h : NX A u H) : NX A U H := by
  have hal : u.vm.Alike U.vm := by rw [e]; exact Vm.Alike.refl _
  exact ⟨va_Nw.same rfl e h.1, va_Nw.same rfl e h.2.1, va_Nw.same rfl e h.2.2.1, va_Nw.same rfl e h.2.2.2.1, vx_Zq.moved hal h.2.2.2.2.1, vx_Zq.moved hal h.2.2.2.2.2⟩
theorem NX.kept {A : Nat → Prop} {U : State} {H H1 : Heap} (h : NX A U H) (hq : ∀ a : Nat, a < H.size → ¬ A a → H1[a]? = H[a]?) : NX A U H1 := ⟨h.1, h.2.1, h.2.2.1, h.2.2.2.1, vx_Zq.kept h.2.2.2.2.1 hq, vx_Zq.kept h.2.2.2.2.2 hq⟩
theorem NX.narrow {A B : Nat → Prop} {U : State} {H : Heap} (h : NX A U H) (hAB : ∀ q, B q → A q) : NX B U H := ⟨h.1, h.2.1, h.2.2.1, h.2.2.2.1, vx_Zq.narrow h.2.2.2.2.1 hAB, vx_Zq.narrow h.2.2.2.2.2 hAB⟩
def PcT (K : Kd) (ws : va_W) (sz : Nat) (U : State) : Prop := U.heap.size = sz ∧ va_P K.1 vwCl ws U.heap ∧ va_K K.1 vwCl (kty K) U ∧ NW U ∧ va_D (fun _ => True) ws ∧ NX (va_A ws sz) U U.heap
def XcT (A : Nat → Prop) (K : Kd) (ws : va_W) (XP : Prop) : String → State → State → Prop := fun E st t => E = NSE ∧ XP ∧ va_P K.1 vwCl ws t.heap ∧ va_F A st t
def CtrT (y : MethodName) (cc : ByteArray) (nL : Nat) (ret : Option FieldType) (dp mc ms : Nat) (K : Kd) (As : List Value) (ws : va_W) (Pst : Option Value → va_W → Prop) (XP : Prop) : Prop :=
  ∀ (l : Launch), l.stackTraces = false → ∀ sz : Nat, vx_Met l y (.code y cc nL ret :: AW) (rmC dp mc ms) (va_Pc As (PcT K ws sz)) (pQ (va_A ws sz) K.1 Pst) (XcT (va_A ws sz) K ws XP) mc ms (va_A ws sz)
def RetX (G : Gm) (mc ms : Nat) (ret : Option FieldType) (Pst : Option Value → va_W → Prop) (XP : Prop) (w0 : va_W) : Prop :=
  (gmt G).sig.returnType = ret ∧ (gmt G).locks = false ∧ gQ G = vx_MQ (gb G) (pQ (gA G) (gK G).1 Pst) (XcT (gA G) (gK G) w0 XP) (gar G) (gS G) mc ms (gA G) ∧ (gl G).stackTraces = false ∧ (∀ x ∈ (gc G).exceptionTable.toList, False) ∧ NX (gA G) (gS G) (gS G).heap
theorem mkCtrT {y : MethodName} {cc : ByteArray} {nL : Nat} {ret : Option FieldType} {dp mc ms : Nat} {K : Kd} {As : List Value} {ws : va_W} {Pst : Option Value → va_W → Prop} {XP : Prop} (hy : plainName y.cls = true) (hlen : (lg_sl As).length ≤ nL)
    (body : ∀ G : Gm, gK G = K → VOk G cc y.cls nL (rmC dp mc ms) → RetX G mc ms ret Pst XP ws → V G 0 0 ws 0 (lv_args 0 As) []) : CtrT y cc nL ret dp mc ms K As ws Pst XP := by
  intro l hl0 sz
  refine vx_ofW (cc := cc) (maxL := nL) (ret := ret) hy rfl ?_
  intro p e s m args below meth c s₁ B hml htab hv
  obtain ⟨rfl, hsz, hP, hK, hN, hD0, hX⟩ := hv
  subst hsz
  have hts := atoms_spec (ws := Cond.code y cc nL ret :: AW) B.pre
  have hown : s.vm.findClass y.cls = some m.cls := findClass_of_methodNamed B.named
  have hD := hD0.self (sz := s.heap.size)
  have hl := lv_entry As (n := nL) hlen
  rw [lg_entry_eq]
  have hb := body ((p, l, e, rmC dp mc ms, s), (m, As.toArray, below, meth, c), (va_A ws s.heap.size, K, vx_MQ below (pQ (va_A ws s.heap.size) K.1 Pst) (XcT (va_A ws s.heap.size) K ws XP) As.toArray s mc ms (va_A ws s.heap.size))) rfl
    ⟨B.exec, B.bytes, hml, hown, fun w hw => hts w (List.mem_cons_of_mem _ hw), hK, hN, fun q h => Or.inr h, rfl⟩ ⟨B.returns, B.notSynchronized, rfl, hl0, htab, hX⟩
  exact hb s.heap [] _ hP hD va_S.rf (by rw [show (gc _).maxLocals = nL from hml]; exact hl)
section THR
variable {G : Gm} {k n mc ms : Nat} {ws w0 : va_W} {lv : List (Nat × Value)} {st : List Value} {cc : ByteArray} {own : String} {nL : Nat} {R : Room} {XP : Prop} {Pst : Option Value → va_W → Prop}
theorem V_iretX (h : VOk G cc own nL R) (q : RetX G mc ms (some .int) Pst XP w0) {pc : Nat} {v : Int32} (hk : k ≤ mc) (hn : n ≤ ms) (d : decode cc pc = .ok (.ireturn, 1)) (hp : Pst (some (.int v)) ws) : V G k n ws pc lv [.int v] := by
  intro H locs ls hP hD hS hl
  rw [q.2.2.1]
  exact vx_ret (W.widen hk hn (W.iret h.1 h.2.1 q.1 (fun t ht hW => ⟨_, _, hp, rfl, by rw [ht]; exact hP, hD, hS.F ht⟩) hS.2.2 d q.2.1))
theorem V_lretX (h : VOk G cc own nL R) (q : RetX G mc ms (some .long) Pst XP w0) {pc : Nat} {v : Int64} (hk : k ≤ mc) (hn : n ≤ ms) (d : decode cc pc = .ok (.lreturn, 1)) (hp : Pst (some (.long v)) ws) : V G k n ws pc lv [.long v] := by
  intro H locs ls hP hD hS hl
  rw [q.2.2.1]
  exact vx_ret (W.widen hk hn (W.lret h.1 h.2.1 q.1 (fun t ht hW => ⟨_, _, hp, rfl, by rw [ht]; exact hP, hD, hS.F ht⟩) hS.2.2 d q.2.1))
theorem V_throw0 (h : VOk G cc own nL R) {ret : Option FieldType} (q : RetX G mc ms ret Pst XP ws) (hxp : XP) {pc ik ic : Nat} (wk : Cond.classLink own ik NSE ∈ AW) (wi : Cond.initialized NSE ∈ AW) (hat : ∀ w ∈ (vx_at0 own ic NSE NMS).filter goodWord, w ∈ AW) (hng : ∀ w ∈ (vx_at0 own ic NSE NMS).filter (fun w => !goodWord w), w ∈ [.castable NSE NSE, nd1, nd2, nd3])
    (hgood : ∀ w ∈ Cond.classLink own ik NSE :: Cond.initialized NSE :: vx_at0 own ic NSE NMS, vx_ot w = true)
    (hR : 5 < R.frames ∧ 81 ≤ R.locals) (hRc : k + 1 ≤ R.cells ∧ n + 6 ≤ R.slots) (hk : k + 1 ≤ mc) (hn : n + 6 ≤ ms)
    (d0 : decode cc pc = .ok (.new ik, 3)) (d3 : decode cc (pc + 3) = .ok (.dup, 1)) (d4 : decode cc (pc + 4) = .ok (.invokespecial ic, 3)) (d7 : decode cc (pc + 7) = .ok (.athrow, 1)) : V G k n ws pc lv [] := by
  obtain ⟨hx, hb, hml, hown, hts, hK, hN, hA, rfl⟩ := h
  obtain ⟨q1, q2, q3, q4, q5, q6⟩ := q
  intro H locs ls hP hD hS hl
  rw [q3]
  exact vx_throw0 (A := gA G) (names := NMS) (cls := NSE) hx hb q4 hown (by decide +kernel) (by decide +kernel) (hts _ wk) (hts _ wi)
    (vx_hat (fun w hw => hts _ (hat w hw)) hng (vx_c (va_Nw.use rfl q6.1) (vx_c (va_Nw.use rfl q6.2.1) (vx_c (va_Nw.use rfl q6.2.2.1) (vx_c (va_Nw.use rfl q6.2.2.2.1) vx_n))))) hgood q6.2.2.2.2.1 q6.2.2.2.2.2 hS hl.1 d0 d3 d4 d7 (fun x hx => (q5 x hx).elim)
    hR.1 (Nat.le_trans (m := 81) (Nat.le_of_ble_eq_true rfl) hR.2) hRc.1 hRc.2 q2
    (fun t hal hz hk => ⟨rfl, hxp, hP.kept (fun j x hx => hk x.1 ((hP j x hx).lt)), ⟨Nat.le_trans hS.1 hz, fun a h1 h2 => (hk a (Nat.lt_of_lt_of_le h1 hS.1)).trans (hS.2.1 a h1 h2)⟩⟩)
    hS.2.2 hk hn
end THR
theorem tX_wk : Cond.classLink RX6 150 NSE ∈ AW := AW_t 761 (by decide +kernel) (by decide +kernel)
theorem tX_wi : Cond.initialized NSE ∈ AW := AW_t 13 (by decide +kernel) (by decide +kernel)
theorem tX_at : ∀ w ∈ (vx_at0 RX6 152 NSE NMS).filter goodWord, w ∈ AW := fun w hw => List.mem_filter.mpr ⟨(show ∀ w ∈ (vx_at0 RX6 152 NSE NMS).filter goodWord, w ∈ lw_tbl by decide +kernel) w hw, (List.mem_filter.mp hw).2⟩
theorem tX_ng : ∀ w ∈ (vx_at0 RX6 152 NSE NMS).filter (fun w => !goodWord w), w ∈ [.castable NSE NSE, nd1, nd2, nd3] := by decide +kernel
theorem tX_gd : ∀ w ∈ Cond.classLink RX6 150 NSE :: Cond.initialized NSE :: vx_at0 RX6 152 NSE NMS, vx_ot w = true := by decide +kernel
