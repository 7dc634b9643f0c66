/-! WHO SHEDS: a bolt that breaks bore; who is left ahead and behind -/
section OPS30
variable {n : Nat} {nv : Nat → Nat → Int} {A B : Int} {F : Nat} {g c y s u pit o now : Nat → Int32} {m : Nat}
/-- what holds at each break -/
def Brk (R : List Ev4 → Ev4 → Prop) (L : List Ev4) : Prop := ∀ L1 e L2, L = L1 ++ e :: L2 → e.1 = 2 → R L1 e
theorem Brk.app {R : List Ev4 → Ev4 → Prop} {L L' : List Ev4} (h : Brk R L) (h' : ∀ L1 e L2, L' = L1 ++ e :: L2 → e.1 = 2 → R (L ++ L1) e) : Brk R (L ++ L') := by
  intro L1 e L2 hE h2e
  rcases List.append_eq_append_iff.mp hE with ⟨a, ea, eb⟩ | ⟨a, ea, eb⟩
  · rw [ea]; exact h' a e L2 eb h2e
  · cases a with
    | nil =>
      have e1 : L = L1 := by simpa using ea
      have e2 : L' = [] ++ e :: L2 := by simpa using eb.symm
      have := h' [] e L2 e2 h2e
      rw [← e1]
      simpa using this
    | cons x a =>
      have e1 : e = x := by
        have := congrArg List.head? eb
        simpa using this
      subst e1
      exact h L1 e a ea h2e
theorem Brk.no {R : List Ev4 → Ev4 → Prop} {L L' : List Ev4} (h : Brk R L) (h' : ∀ e ∈ L', ¬ e.1 = 2) : Brk R (L ++ L') :=
  h.app fun L1 e L2 q w => absurd w (h' e (by rw [q]; simp))
def Fp (n : Nat) (nv : Nat → Nat → Int) (A B : Int) (L1 : List Ev4) (e : Ev4) : Prop := ∀ E f d, SAt n nv A B (lft (snd0 n nv) L1) e.2.2.1 e.2.2.2 E f d → 0 < f e.2.1
theorem fp_one (hn : n ≤ 5) (hv : NvOk n nv) (hA : 0 ≤ A ∧ A ≤ 2) (hB : 0 ≤ B ∧ B ≤ 2) {md : Nat → Int} {P Q : Int} {L : List Ev4} (h : BOk n nv A B m md P Q L) (hP : 0 < P) {b : Nat} (hb : b < n) (hb2 : md b = 2) : Fp n nv A B L (2, b, P, Q) := by
  intro E f d hsat
  obtain ⟨hE, hm, hs, hN, hc, h0⟩ := h
  dsimp only at hsat
  rw [hE.2.2.2.1] at hsat
  obtain ⟨D, fr, fs, dr, ds, sO, sU, hS, hD2, -, -, -, -, -⟩ := nx_ex hn hv hA hB hm.bd hs
  have hNN := hN D fr fs dr ds hS
  have hQ := hE.1.2.2.1
  have hD := hS.1
  have hsat2 := hNN.sat hv hm hS hQ (fun w => by omega)
  have hu := (hsat.unique hv hA hB (by omega) hQ hsat2 b hb).1
  have v := hv b hb
  have h1 := (hNN b hb).2.2 hb2
  have hDQ : 0 < D * Q := Int.mul_pos hD hQ
  have h2 := Int.mul_pos (show 0 < nv b 2 by omega) hDQ
  have hE0 : 0 < E := by
    obtain ⟨⟨N, -, hE, -⟩, -⟩ := hsat
    exact hE
  have h3 := Int.mul_pos (show 0 < fr b * P + fs b * Q by omega) hE0
  rw [hu, Int.mul_comm] at h3
  exact Int.pos_of_mul_pos_right h3 hDQ
theorem brk_fp (hn : n ≤ 5) (hv : NvOk n nv) (hA : 0 ≤ A ∧ A ≤ 2) (hB : 0 ≤ B ∧ B ≤ 2) {P Q : Int} (hP : 0 < P) : ∀ (k : Nat) (b : Int) (m : Nat) (md : Nat → Int) (L : List Ev4), BOk n nv A B m md P Q L → (b = -1 ∨ (0 ≤ b ∧ b.toNat < n ∧ md b.toNat = 2)) → (0 ≤ b → KOk P Q) → Brk (Fp n nv A B) L → Brk (Fp n nv A B) (brk n nv A B P Q k b m md L).2.2 := by
  intro k
  induction k with
  | zero => intro b m md L _ _ _ hF; exact hF
  | succ k ih =>
    intro b m md L h hb hK hF
    simp only [brk]
    by_cases hneg : b < 0
    · rw [if_pos hneg]; exact hF
    · rw [if_neg hneg]
      obtain ⟨b0, b1, b2⟩ := hb.resolve_left (by omega)
      generalize b.toNat = c at *
      have one := fp_one hn hv hA hB h hP b1 b2
      obtain ⟨g1, g2, g3, g4⟩ := h.gone hn hv hA hB hP (hK b0) b1 b2
      have hF1 : Brk (Fp n nv A B) (L ++ [(2, c, P, Q)]) := hF.app fun L1 e L2 q w => by
        cases L1 with
        | nil =>
          have e1 : e = (2, c, P, Q) := by
            have := congrArg List.head? q
            simpa using this.symm
          rw [e1, List.append_nil]; exact one
        | cons x L1 =>
          have := congrArg List.length q
          simp at this
      by_cases hz : clr m c = 0
      · rw [if_pos hz]; exact hF1
      · rw [if_neg hz]
        obtain ⟨g5, g6, g7⟩ := g4 hz
        refine ih (wors n nv A B (stw n nv A B (clr m c) P Q) P Q) _ _ _ g5 (wors_cs _ _ _) (fun _ => hK b0) ((hF1.no fun e he => ?_).no fun e he => ?_)
        · rw [(mem_evs he).1]; decide
        · rw [(mem_evs he).1]; decide
theorem gst_fp (hn : n ≤ 5) (hv : NvOk n nv) (hA : 0 ≤ A ∧ A ≤ 2) (hB : 0 ≤ B ∧ B ≤ 2) {s : Gs} (h : GOk n nv A B s) (hF : Brk (Fp n nv A B) s.2.2.2.2) : Brk (Fp n nv A B) (gst n nv A B s).2.2.2.2 := by
  by_cases hs : s.1 = 0
  · have e : gst n nv A B s = s := if_pos hs
    rw [e]; exact hF
  obtain ⟨m, md, P, Q, L⟩ := s
  obtain ⟨h, hu⟩ := h
  dsimp only at h hu hs hF
  obtain ⟨P', Q', e1, e2, e3, e4, e5, ⟨i, i1, i2⟩, eK, e6, e7⟩ := h.next hn hv hA hB hu
  have hb := fst1_cs (fun i => decide (md i = 2) && due n nv A B md i) n
  unfold gst
  dsimp only
  rw [if_neg hs, e1]
  dsimp only
  generalize fst1 (fun i => decide (md i = 2) && due n nv A B md i) n = b at *
  refine brk_fp hn hv hA hB e5 5 b m (rai n nv A B md) _ e6 ?_ (fun q => ?_) ((hF.no fun e he => ?_).no fun e he => ?_)
  · rcases hb with q | ⟨q1, q2, q3⟩
    · exact Or.inl q
    · refine Or.inr ⟨q1, q2, ?_⟩
      simp at q3
      unfold rai
      rw [if_neg (by omega)]; exact q3.1
  · obtain ⟨q1, q2, q3⟩ := hb.resolve_left (by omega)
    simp at q3
    exact eK ⟨_, q2, q3.1, q3.2⟩
  · rw [(mem_evs he).1]; decide
  · rw [(mem_evs he).1]; decide
theorem gs_fp (hn : n ≤ 5) (hv : NvOk n nv) (hA : 0 ≤ A ∧ A ≤ 2) (hB : 0 ≤ B ∧ B ≤ 2) : ∀ k, Brk (Fp n nv A B) (gs n nv A B k).2.2.2.2 := by
  intro k
  induction k with
  | zero =>
    intro L1 e L2 q w
    have he : e ∈ (gs0 n nv).2.2.2.2 := by
      show e ∈ (gs n nv A B 0).2.2.2.2
      rw [q]; simp
    have := (mem_evs he).1
    rw [this] at w
    exact absurd w (by decide)
  | succ k ih =>
    show Brk (Fp n nv A B) (gst n nv A B (gs n nv A B k)).2.2.2.2
    by_cases q : (gs n nv A B k).1 = 0
    · have e : gst n nv A B (gs n nv A B k) = gs n nv A B k := if_pos q
      rw [e]; exact ih
    · exact gst_fp hn hv hA hB ((gs_ok hn hv hA hB k).2 q).1 ih
/-! who is left -/
theorem lft_bit : ∀ (L : List Ev4) (m0 : Nat), m0 < 32 → (∀ e ∈ L, e.2.1 < 5) → lft m0 L < 32 ∧ ∀ k, k < 5 → ((lft m0 L).testBit k = true ↔ m0.testBit k = true ∧ ∀ e ∈ L, e.1 = 2 → e.2.1 ≠ k) := by
  intro L
  induction L with
  | nil => intro m0 h _; exact ⟨h, fun k hk => ⟨fun w => ⟨w, fun e he => absurd he (by simp)⟩, fun w => w.1⟩⟩
  | cons x L ih =>
    intro m0 h hall
    have hx := hall x (List.mem_cons_self ..)
    show lft (if x.1 = 2 then clr m0 x.2.1 else m0) L < 32 ∧ ∀ k, k < 5 → ((lft (if x.1 = 2 then clr m0 x.2.1 else m0) L).testBit k = true ↔ _)
    by_cases q : x.1 = 2
    · rw [if_pos q]
      obtain ⟨a, b⟩ := ih (clr m0 x.2.1) (clr_lt m0 h _ hx) (fun e he => hall e (List.mem_cons_of_mem _ he))
      refine ⟨a, fun k hk => ?_⟩
      rw [b k hk, testBit_clr m0 h x.2.1 hx k hk]
      constructor
      · rintro ⟨w1, w2⟩
        have w3 : m0.testBit k = true ∧ ¬ k = x.2.1 := by simpa using w1
        refine ⟨w3.1, fun e he h2 => ?_⟩
        rcases List.mem_cons.mp he with z | z
        · rw [z]; exact fun y => w3.2 y.symm
        · exact w2 e z h2
      · rintro ⟨w1, w2⟩
        have w3 := w2 x (List.mem_cons_self ..) q
        refine ⟨by rw [w1]; simp; exact fun y => w3 y.symm, fun e he => w2 e (List.mem_cons_of_mem _ he)⟩
    · rw [if_neg q]
      obtain ⟨a, b⟩ := ih m0 h (fun e he => hall e (List.mem_cons_of_mem _ he))
      refine ⟨a, fun k hk => ?_⟩
      rw [b k hk]
      constructor
      · rintro ⟨w1, w2⟩
        refine ⟨w1, fun e he h2 => ?_⟩
        rcases List.mem_cons.mp he with z | z
        · rw [z] at h2; exact absurd h2 q
        · exact w2 e z h2
      · rintro ⟨w1, w2⟩
        exact ⟨w1, fun e he => w2 e (List.mem_cons_of_mem _ he)⟩
theorem fst1_least {p : Nat → Bool} : ∀ k j, fst1 p k = ((j : Nat) : Int) → ∀ i, i < j → p i = false := by
  intro k
  induction k with
  | zero => intro j h; exact absurd h (by show ¬ (-1 : Int) = (j : Int); omega)
  | succ k ih =>
    intro j h i hi
    simp only [fst1] at h
    by_cases q : fst1 p k = -1
    · rw [if_pos q] at h
      by_cases q2 : p k = true
      · rw [if_pos q2] at h
        exact fst1_none k q i (by omega)
      · rw [if_neg q2] at h; omega
    · rw [if_neg q] at h
      exact ih j h i hi
/-- the break of a bolt in the row of events -/
theorem fnd_br {L : List Ev4} {b : Nat} : (fnd L 2 (b : Int) = -1 ∧ ∀ e ∈ L, e.1 = 2 → e.2.1 ≠ b) ∨ ∃ (j : Nat) (e : Ev4), fnd L 2 (b : Int) = (j : Int) ∧ L[j]? = some e ∧ e.1 = 2 ∧ e.2.1 = b ∧ ∀ i e', i < j → L[i]? = some e' → e'.1 = 2 → e'.2.1 ≠ b := by
  have hc := fst1_cs (fun i => decide (evk L i = 2) && decide ((evb L i : Int) = (b : Int))) L.length
  rcases hc with h | ⟨h1, h2, h3⟩
  · left
    refine ⟨h, fun e he w z => ?_⟩
    obtain ⟨i, hi⟩ := List.getElem?_of_mem he
    have hl : i < L.length := (List.getElem?_eq_some_iff.mp hi).1
    have := fst1_none _ h i hl
    obtain ⟨k1, k2⟩ := evk_at hi
    rw [k1, k2, w, z] at this
    simp at this
  · right
    obtain ⟨e, he⟩ := getElem_of_lt h2
    obtain ⟨k1, k2⟩ := evk_at he
    rw [k1, k2] at h3
    have h4 : e.1 = 2 ∧ (e.2.1 : Int) = (b : Int) := by simpa using h3
    have hj : fnd L 2 (b : Int) = (((fst1 (fun i => decide (evk L i = 2) && decide ((evb L i : Int) = (b : Int))) L.length).toNat : Nat) : Int) := by
      rw [Int.toNat_of_nonneg h1]; rfl
    refine ⟨_, e, hj, he, h4.1, by omega, fun i e' hi he' w z => ?_⟩
    have := fst1_least L.length _ hj i hi
    obtain ⟨k1, k2⟩ := evk_at he'
    rw [k1, k2, w, z] at this
    simp at this
theorem take_mem {L : List Ev4} {j : Nat} {e : Ev4} : e ∈ L.take j ↔ ∃ i, i < j ∧ L[i]? = some e := by
  constructor
  · intro h
    obtain ⟨i, hi⟩ := List.getElem?_of_mem h
    have hl : i < (L.take j).length := (List.getElem?_eq_some_iff.mp hi).1
    rw [List.length_take] at hl
    exact ⟨i, by omega, by rw [List.getElem?_take, if_pos (by omega)] at hi; exact hi⟩
  · rintro ⟨i, hi, he⟩
    have : (L.take j)[i]? = some e := by rw [List.getElem?_take, if_pos hi]; exact he
    exact List.mem_of_getElem? this
def lbk (L : List Ev4) : Nat → Int
  | 0 => -1
  | k + 1 => if evk L k = 2 then (k : Int) else lbk L k
theorem lbk_cs (L : List Ev4) : ∀ k, (lbk L k = -1 ∧ ∀ i, i < k → ¬ evk L i = 2) ∨ ∃ i : Nat, i < k ∧ lbk L k = (i : Int) ∧ evk L i = 2 ∧ ∀ i', i < i' → i' < k → ¬ evk L i' = 2 := by
  intro k
  induction k with
  | zero => exact Or.inl ⟨rfl, fun i hi => absurd hi (Nat.not_lt_zero i)⟩
  | succ k ih =>
    show ((if evk L k = 2 then (k : Int) else lbk L k) = -1 ∧ _) ∨ ∃ i : Nat, _ ∧ (if evk L k = 2 then (k : Int) else lbk L k) = (i : Int) ∧ _
    by_cases q : evk L k = 2
    · rw [if_pos q]
      exact Or.inr ⟨k, by omega, rfl, q, fun i' h1 h2 => absurd h2 (by omega)⟩
    · rw [if_neg q]
      rcases ih with ⟨h1, h2⟩ | ⟨i, i1, i2, i3, i4⟩
      · refine Or.inl ⟨h1, fun i hi => ?_⟩
        by_cases x : i = k
        · rw [x]; exact q
        · exact h2 i (by omega)
      · refine Or.inr ⟨i, by omega, i2, i3, fun i' h1 h2 => ?_⟩
        by_cases x : i' = k
        · rw [x]; exact q
        · exact i4 i' h1 (by omega)
theorem lastBreak_z (hF : 40 < F) {L : List Ev4} (hL : L.length ≤ 15) (hall : ∀ e ∈ L, (0 ≤ e.1 ∧ e.1 ≤ 2) ∧ e.2.1 < n ∧ LOk e.2.2.1 e.2.2.2) {tot : Int32} {kd wh : Nat → Int32} {ov un : Nat → Int64} (hE : EvZ L tot kd wh ov un) : f_M_lastBreak F tot kd = some (zI (lbk L L.length)) := by
  have loop := iter_for (body := un2 (fb_M_lastBreak_4 tot kd)) (F := F) (s := ((-1 : Int32), (0 : Int32))) (fun k z => z = (zI (lbk L k), zI (k : Int))) (fun r => r = zI (lbk L L.length)) L.length (by omega) rfl ?_ ?_
  · obtain ⟨r, e, rfl⟩ := loop
    unfold f_M_lastBreak
    rw [e, Option.bind_some]
  · rintro k z hk rfl
    obtain ⟨e, he⟩ := getElem_of_lt hk
    obtain ⟨z1, z2, z3, z4⟩ := hE.2 k e he
    have hm := hall e (List.mem_of_getElem? he)
    have ek := (evk_at he).1
    dsimp only [un2]
    unfold fb_M_lastBreak_4
    rw [hE.1, if_neg (by rw [zI_le (by omega) (by omega) (by omega) (by omega)]; omega), ldA_z (f := kd) (by omega) (by omega), Option.bind_some, z1]
    by_cases w : e.1 = 2
    · rw [if_pos (show zI e.1 = (2 : Int32) by rw [w]; rfl)]
      simp only [fj_M_lastBreak_27, nm, zI_1]
      exact ⟨_, rfl, by rw [show lbk L (k + 1) = (k : Int) from if_pos (by rw [ek, w])]⟩
    · rw [if_neg (show ¬ zI e.1 = (2 : Int32) from fun y => w ((zI_eq (a := e.1) (b := 2) (by omega) (by omega) (by omega) (by omega)).mp y))]
      simp only [fj_M_lastBreak_27, nm, zI_1]
      exact ⟨_, rfl, by rw [show lbk L (k + 1) = lbk L k from if_neg (by rw [ek]; exact w)]⟩
  · rintro z rfl
    dsimp only [un2]
    unfold fb_M_lastBreak_4
    rw [hE.1, if_pos (Int32.le_refl _)]
    exact ⟨_, rfl, rfl⟩
theorem leftAhead_z (hn : n ≤ 5) (hF : 40 < F) (hv : NvOk n nv) (ho : ∀ i, i < n → o i = zI (nv i 5)) {L : List Ev4} (hL : L.length ≤ 15) (hall : ∀ e ∈ L, (0 ≤ e.1 ∧ e.1 ≤ 2) ∧ e.2.1 < n ∧ LOk e.2.2.1 e.2.2.2) {tot : Int32} {kd wh : Nat → Int32} {ov un : Nat → Int64} (hE : EvZ L tot kd wh ov un) {j : Nat} (hj : j ≤ L.length) : f_G_leftAhead F (zI (j : Int)) tot kd wh o (zI (n : Int)) = some (zI (lft (snd0 n nv) (L.take j) : Int)) := by
  have es : f_J_soundBits F o (zI (n : Int)) = some (zI (snd0 n nv : Int)) := sound_z (F := F) hn (by omega) hv ho
  have h32 : snd0 n nv < 32 := msk_32 _ hn
  have loop := iter_for (body := un2 (fb_G_leftAhead_10 (zI (j : Int)) tot kd wh)) (F := F) (s := (zI (snd0 n nv : Int), (0 : Int32))) (fun k z => z = (zI (lft (snd0 n nv) (L.take k) : Int), zI (k : Int))) (fun r => r = zI (lft (snd0 n nv) (L.take j) : Int)) j (by omega) rfl ?_ ?_
  · obtain ⟨r, e, rfl⟩ := loop
    unfold f_G_leftAhead
    rw [es, Option.bind_some, e, Option.bind_some]
  · rintro k z hk rfl
    obtain ⟨e, he⟩ := getElem_of_lt (L := L) (i := k) (by omega)
    obtain ⟨z1, z2, z3, z4⟩ := hE.2 k e he
    have hm := hall e (List.mem_of_getElem? he)
    have hb := (lft_bit (L.take k) (snd0 n nv) h32 (fun x hx => by have := (hall x (List.mem_of_mem_take hx)).2.1; omega)).1
    have ts : lft (snd0 n nv) (L.take (k + 1)) = if e.1 = 2 then clr (lft (snd0 n nv) (L.take k)) e.2.1 else lft (snd0 n nv) (L.take k) := by
      rw [take_s he, lft_app]; rfl
    dsimp only [un2]
    unfold fb_G_leftAhead_10
    rw [hE.1, if_neg (by rw [zI_le (by omega) (by omega) (by omega) (by omega)]; omega), if_neg (by rw [zI_le (by omega) (by omega) (by omega) (by omega)]; omega), ldA_z (f := kd) (by omega) (by omega), Option.bind_some, z1]
    by_cases w : e.1 = 2
    · rw [if_pos (show zI e.1 = (2 : Int32) by rw [w]; rfl), ldA_z (f := wh) (by omega) (by omega), Option.bind_some, z2, bit_clr0 _ hb _ (by omega)]
      simp only [fj_G_leftAhead_46, nm, zI_1]
      exact ⟨_, rfl, by rw [ts, if_pos w]⟩
    · rw [if_neg (show ¬ zI e.1 = (2 : Int32) from fun y => w ((zI_eq (a := e.1) (b := 2) (by omega) (by omega) (by omega) (by omega)).mp y))]
      simp only [fj_G_leftAhead_46, nm, zI_1]
      exact ⟨_, rfl, by rw [ts, if_neg w]⟩
  · rintro z rfl
    dsimp only [un2]
    unfold fb_G_leftAhead_10
    rw [if_pos (Int32.le_refl _)]
    exact ⟨_, rfl, rfl⟩
end OPS30
