/-! THE CLASS GROWS: breakOn, run -/
abbrev T17 : Type := (Nat → Int64) × (Nat → Int64) × Int64 × Int64 × (Nat → Int32) × (Nat → Int64) × (Nat → Int64) × (Nat → Int64) × (Nat → Int64) × (Nat → Int64) × Int64 × (Nat → Int64) × (Nat → Int64) × (Nat → Int64) × (Nat → Int64) × Int64 × Int64
theorem cp_z (f g : Nat → Int32) : ∃ h, cpI f g 5 5 (0 : Int32) (0 : Int32) (5 : Int32) = some h ∧ ∀ j, j < 5 → h j = f j := by
  have c0 : (0 : Int32).toNatClampNeg = 0 := by decide
  have c5 : (5 : Int32).toNatClampNeg = 5 := by decide
  refine ⟨_, if_pos ⟨by decide, by decide, by decide, by rw [c0, c5]; omega, by rw [c0, c5]; omega⟩, fun j hj => ?_⟩
  rw [c0, c5]
  unfold va_cpy
  rw [if_pos ⟨by omega, by omega⟩]
  congr 1
  omega
section RUN
variable {n : Nat} {nv : Nat → Nat → Int} {A B : Int} {F : Nat} {g c y s u pit o : Nat → Int32}
theorem zI_ne0 {m : Nat} (hm : m < 32) : zI (m : Int) = (0 : Int32) ↔ m = 0 := by
  rw [i0, zI_eq (by omega) (by omega) (by omega) (by omega)]; omega
theorem breakOn_z (hn : n ≤ 5) (hF : 20 < F) (hv : NvOk n nv) (hA : 0 ≤ A ∧ A ≤ 2) (hB : 0 ≤ B ∧ B ≤ 2) (J : JOk n nv g c y s u pit) (ho : ∀ i, i < n → o i = zI (nv i 5)) {P Q : Int} {m : Nat} {md : Nat → Int} {L : List (Int × Nat × Int × Int)} {b : Int}
    (h : BOk n nv A B m md P Q L) (hb : b = -1 ∨ (0 < P ∧ KOk P Q ∧ 0 ≤ b ∧ b.toNat < n ∧ md b.toNat = 2)) {way wb : Nat → Int32} {tot : Int32} {kd wh : Nat → Int32} {ov un : Nat → Int64} (hw : ∀ i, i < n → way i = zI (md i)) (hE : EvZ L tot kd wh ov un) (r : T17) :
    ∃ (way' wb' : Nat → Int32) (tot' : Int32) (kd' wh' : Nat → Int32) (ov' un' : Nat → Int64) (r' : T17),
      f_G_breakOn F (zI b) (zI (m : Int)) way wb tot kd wh ov un (zL P) (zL Q) r.1 r.2.1 r.2.2.1 r.2.2.2.1 r.2.2.2.2.1 r.2.2.2.2.2.1 r.2.2.2.2.2.2.1 r.2.2.2.2.2.2.2.1 r.2.2.2.2.2.2.2.2.1 r.2.2.2.2.2.2.2.2.2.1 r.2.2.2.2.2.2.2.2.2.2.1 r.2.2.2.2.2.2.2.2.2.2.2.1 r.2.2.2.2.2.2.2.2.2.2.2.2.1 r.2.2.2.2.2.2.2.2.2.2.2.2.2.1 r.2.2.2.2.2.2.2.2.2.2.2.2.2.2.1 r.2.2.2.2.2.2.2.2.2.2.2.2.2.2.2.1 r.2.2.2.2.2.2.2.2.2.2.2.2.2.2.2.2 g c y s u o pit (zI (n : Int)) (zI A) (zI B) = some (zI ((brk n nv A B P Q 5 b m md L).1 : Int), way', wb', tot', kd', wh', ov', un', r') ∧
      EvZ (brk n nv A B P Q 5 b m md L).2.2 tot' kd' wh' ov' un' ∧ (¬ (brk n nv A B P Q 5 b m md L).1 = 0 → ∀ i, i < n → way' i = zI ((brk n nv A B P Q 5 b m md L).2.1 i)) := by
  generalize hR : brk n nv A B P Q 5 b m md L = R at *
  have loop := iter_dn (body := un27 (fb_G_breakOn_8 F (zL P) (zL Q) g c y s u o pit (zI (n : Int)) (zI A) (zI B)))
    (fun M z => ∃ (b : Int) (m : Nat) (md : Nat → Int) (L : List (Int × Nat × Int × Int)) (way wb : Nat → Int32) (tot : Int32) (kd wh : Nat → Int32) (ov un : Nat → Int64) (r : T17),
      z = (zI (m : Int), zI b, zI (5 - (M : Int)), way, wb, tot, kd, wh, ov, un, r) ∧ M ≤ 5 ∧ BOk n nv A B m md P Q L ∧ (b = -1 ∨ (0 < P ∧ KOk P Q ∧ 0 ≤ b ∧ b.toNat < n ∧ md b.toNat = 2)) ∧ (∀ i, i < n → way i = zI (md i)) ∧ EvZ L tot kd wh ov un ∧ brk n nv A B P Q M b m md L = R)
    (fun q => ∃ (k : Nat) (l3 : Int32) (way wb : Nat → Int32) (tot : Int32) (kd wh : Nat → Int32) (ov un : Nat → Int64) (r : T17), q = (k, l3, way, wb, tot, kd, wh, ov, un, r) ∧ (k = 0 → R.1 = 0) ∧ (¬ k = 0 → l3 = zI (R.1 : Int)) ∧ EvZ R.2.2 tot kd wh ov un ∧ (¬ R.1 = 0 → ∀ i, i < n → way i = zI (R.2.1 i)))
    ?_ F 5 (zI (m : Int), zI b, (0 : Int32), way, wb, tot, kd, wh, ov, un, r) (by omega) ⟨b, m, md, L, way, wb, tot, kd, wh, ov, un, r, rfl, by omega, h, hb, hw, hE, hR⟩
  · obtain ⟨q, e, k, l3, way', wb', tot', kd', wh', ov', un', r', rfl, h1, h2, h3, h4⟩ := loop
    unfold f_G_breakOn
    rw [e]
    by_cases hk : k = 0
    · refine ⟨way', wb', tot', kd', wh', ov', un', r', ?_, h3, h4⟩
      rw [h1 hk]
      simp only [bd26, Option.bind_some, if_pos hk]
      rfl
    · refine ⟨way', wb', tot', kd', wh', ov', un', r', ?_, h3, h4⟩
      rw [← h2 hk]
      simp only [bd26, Option.bind_some, if_neg hk]
  · rintro M z ⟨b, m, md, L, way, wb, tot, kd, wh, ov, un, ⟨dO, dU, sO, sU, st, re, fr, fs, dr, ds, unn, bf, bl, ba, sc, fR, fS⟩, rfl, hM, h, hb, hw, hE, hR⟩
    dsimp only [un27]
    unfold fb_G_breakOn_8
    cases M with
    | zero =>
      left
      rw [if_pos (by rw [i5, zI_le (by omega) (by omega) (by omega) (by omega)]; omega)]
      simp only [brk] at hR
      subst hR
      exact ⟨_, rfl, 1, zI (m : Int), way, wb, tot, kd, wh, ov, un, _, rfl, fun w => absurd w (by omega), fun _ => rfl, hE, fun _ => hw⟩
    | succ M =>
      rw [if_neg (by rw [i5, zI_le (by omega) (by omega) (by omega) (by omega)]; omega)]
      simp only [brk] at hR
      by_cases hneg : b < 0
      · left
        rw [if_pos hneg] at hR
        subst hR
        rw [if_pos (by rw [i0, zI_lt (by omega) (by omega) (by omega) (by omega)]; exact hneg)]
        exact ⟨_, rfl, 1, zI (m : Int), way, wb, tot, kd, wh, ov, un, _, rfl, fun w => absurd w (by omega), fun _ => rfl, hE, fun _ => hw⟩
      · obtain ⟨hP, hK, b0, b1, b2⟩ := hb.resolve_left (by omega)
        rw [if_neg hneg] at hR
        rw [if_neg (by rw [i0, zI_lt (by omega) (by omega) (by omega) (by omega)]; exact hneg)]
        have eb : b = ((b.toNat : Nat) : Int) := by omega
        obtain ⟨g1, g2, g3, g4⟩ := h.gone hn hv hA hB hP hK b1 b2
        generalize b.toNat = a at *
        subst eb
        obtain ⟨tot1, kd1, wh1, ov1, un1, e1, hE1⟩ := note_z hE g2 2 a P Q
        have h32 := h.1.2.2.1
        have h32' := clr_lt m h32 a (by omega)
        rw [show (2 : Int32) = zI 2 from rfl, e1]
        simp only [bd5, Option.bind_some, nm]
        rw [bit_clr m h32 a (by omega) g1]
        by_cases hz : clr m a = 0
        · left
          rw [if_pos hz] at hR
          subst hR
          rw [if_pos ((zI_ne0 h32').mpr hz)]
          refine ⟨_, rfl, 0, _, way, wb, tot1, kd1, wh1, ov1, un1, _, rfl, fun _ => rfl, fun w => absurd rfl w, hE1, fun w => absurd rfl w⟩
        · right
          rw [if_neg hz] at hR
          rw [if_neg (fun w => hz ((zI_ne0 h32').mp w))]
          obtain ⟨g5, ⟨D0, fr0, fs0, dr0, ds0, hat0⟩, g7⟩ := g4 hz
          obtain ⟨hP0, hP2, hQ0, hQ2, hg⟩ := h.1.1
          obtain ⟨wbn, ec, hwb⟩ := cp_z way wb
          obtain ⟨j, hj⟩ := some_bit hz
          obtain ⟨way', dO', dU', sO', sU', st', re', fr', fs', dr', ds', un', bf', bl', ba', sc', fR', fS', mdc, D, fr2, fs2, dr2, ds2, es, hat, hway, hun, hfr, hfs, hdr, hds⟩ :=
            settle_z (F := F) (m := clr m a) (lO := P) (lU := Q) hn hF hv hA hB J ho h32' ⟨j, (g3.2.1 j hj).1, hj⟩ hP0 (by omega) hQ0 (by omega) way dO dU sO sU st re fr fs dr ds unn bf bl ba sc fR fS
          obtain ⟨hst, hat'⟩ := stw_at hv hA hB hP hQ0 hat
          generalize hmw : stw n nv A B (clr m a) P Q = mw at *
          have hmb := g5.2.1.bd
          have hway' : ∀ i, i < n → way' i = zI (mw i) := fun i hi => by rw [hway i hi, hst i hi]
          have hb8 := fun i hi => sol_bounds hn hv hA hB hat'.1 i hi
          have hlen := g5.1.2.2.2.2.1
          simp only [List.length_append, evs_len, List.length_cons, List.length_nil] at hlen
          unfold rsd at hlen
          obtain ⟨tot2, kd2, wh2, ov2, un2, e2, hE2⟩ := noteRaised_z (F := F) (md := mw) (mb := md) (way := way') (wb := wbn) (w := 0) (a := 0) (P := P) (Q := Q) hn (by omega) (fun i hi => ⟨hway' i hi, hmb i hi⟩) (fun i hi => ⟨by rw [hwb i (by omega), hw i hi], h.2.1.bd i hi⟩) (by omega) hE1 (by
            simp only [List.length_append, List.length_cons, List.length_nil]
            omega)
          obtain ⟨tot3, kd3, wh3, ov3, un3, e3, hE3⟩ := noteRaised_z (F := F) (md := mw) (mb := md) (way := way') (wb := wbn) (w := 1) (a := 1) (P := P) (Q := Q) hn (by omega) (fun i hi => ⟨hway' i hi, hmb i hi⟩) (fun i hi => ⟨by rw [hwb i (by omega), hw i hi], h.2.1.bd i hi⟩) (by omega) hE2 (by
            simp only [List.length_append, List.length_cons, List.length_nil, evs_len]
            omega)
          have e4 := mostOver_z (F := F) (md := mw) (D := D) (fr := fr2) (fs := fs2) (P := P) (Q := Q) (way := way') (uu := u) (fr' := fr') (fs' := fs') hn (by omega) hv (fun i hi => by have := hb8 i hi; exact ⟨this.1, this.2.1, this.2.2.2.2.1, this.2.2.2.2.2.1⟩) hat'.1.1 hat'.2.1 ⟨hP0, hP2⟩ ⟨hQ0, hQ2⟩ (fun i hi => ⟨hway' i hi, hmb i hi⟩) J.2.2.2.2.1 hfr hfs
          rw [wors_eq hv hA hB hat'.1] at e4
          rw [ec, Option.bind_some, es]
          simp only [bd18, Option.bind_some]
          rw [show (0 : Int32) = zI 0 from rfl, e2]
          simp only [Option.bind_some]
          rw [show (1 : Int32) = zI 1 from rfl, e3]
          simp only [Option.bind_some]
          rw [hun, e4, Option.bind_some]
          refine ⟨M, _, by omega, rfl, wors n nv A B mw P Q, clr m a, mw, _, way', wbn, tot3, kd3, wh3, ov3, un3, (dO', dU', sO', sU', st', re', fr', fs', dr', ds', zL D, bf', bl', ba', sc', fR', fS'), ?_, by omega, g5, ?_, hway', hE3, hR⟩
          · rw [zI_add, show (5 : Int) - ((M + 1 : Nat) : Int) + 1 = 5 - (M : Int) by omega]
          · rcases wors_cs (n := n) (nv := nv) (A := A) (B := B) mw P Q with q | q
            · exact Or.inl q
            · exact Or.inr ⟨hP, hK, q⟩
/-- the events at no load -/
theorem begin_z (hn : n ≤ 5) (hF : 10 < F) {way : Nat → Int32} {md : Nat → Int} (hw : ∀ i, i < n → way i = zI (md i) ∧ 0 ≤ md i ∧ md i ≤ 4) (kd wh : Nat → Int32) (ov un : Nat → Int64) :
    ∃ tot' kd' wh' ov' un', iter (un6 (fb_G_run_43 way (0 : Int64) (1 : Int64) (zI (n : Int)))) F ((0 : Int32), (0 : Int32), kd, wh, ov, un) = some (tot', kd', wh', ov', un') ∧ EvZ (evs 0 0 1 (sel (fun i => decide (md i = 1)) n)) tot' kd' wh' ov' un' := by
  generalize hp : (fun i => decide (md i = 1)) = p at *
  have loop := iter_for (body := un6 (fb_G_run_43 way (0 : Int64) (1 : Int64) (zI (n : Int)))) (F := F) (s := ((0 : Int32), (0 : Int32), kd, wh, ov, un))
    (fun i z => ∃ tot' kd' wh' ov' un', z = (zI (i : Int), tot', kd', wh', ov', un') ∧ EvZ (evs 0 0 1 (sel p i)) tot' kd' wh' ov' un')
    (fun q => ∃ tot' kd' wh' ov' un', q = (tot', kd', wh', ov', un') ∧ EvZ (evs 0 0 1 (sel p n)) tot' kd' wh' ov' un') n (by omega) ⟨0, kd, wh, ov, un, rfl, rfl, fun k e hk => by simp [sel, evs] at hk⟩ ?_ ?_
  · obtain ⟨q, e, tot', kd', wh', ov', un', rfl, h⟩ := loop
    exact ⟨tot', kd', wh', ov', un', e, h⟩
  · rintro i z hi ⟨tot', kd', wh', ov', un', rfl, hE'⟩
    obtain ⟨w1, w2, w3⟩ := hw i hi
    dsimp only [un6]
    unfold fb_G_run_43
    rw [if_neg (by rw [zI_le (by omega) (by omega) (by omega) (by omega)]; omega), ldA_z (by omega) (by omega), Option.bind_some, w1]
    have pe : p i = decide (md i = 1) := by rw [← hp]
    by_cases q : md i = 1
    · have pt : p i = true := by rw [pe]; simp [q]
      have e : sel p (i + 1) = sel p i ++ [i] := if_pos pt
      have hl := sel_le p (show i + 1 ≤ n by omega)
      rw [e, List.length_append] at hl
      have hl2 : [i].length = 1 := rfl
      have hl3 : (sel p n).length ≤ n := by
        have : ∀ k, (sel p k).length ≤ k := fun k => by
          induction k with
          | zero => exact Nat.le_refl _
          | succ k ih =>
            rw [sel_s]; unfold c1
            by_cases w : p k = true
            · rw [if_pos w]; omega
            · rw [if_neg w]; omega
        exact this n
      obtain ⟨t', k', b', o', u', e1, e2⟩ := note_z hE' (by rw [evs_len]; omega) 0 i 0 1
      rw [if_pos (by rw [q]; rfl), show (0 : Int32) = zI 0 from rfl, l0z, l1z, e1]
      refine ⟨(zI ((i + 1 : Nat) : Int), t', k', b', o', u'), by simp only [bd5, Option.bind_some, fj_G_run_70, nm, zI_1], t', k', b', o', u', rfl, ?_⟩
      rw [e, evs_snoc]
      exact e2
    · rw [if_neg (by rw [i1, zI_eq (by omega) (by omega) (by omega) (by omega)]; exact q)]
      have e : sel p (i + 1) = sel p i := if_neg (by rw [pe]; simp [q])
      exact ⟨_, by simp only [fj_G_run_70, nm, zI_1], tot', kd', wh', ov', un', rfl, by rw [e]; exact hE'⟩
  · rintro z ⟨tot', kd', wh', ov', un', rfl, hE'⟩
    refine ⟨_, ?_, tot', kd', wh', ov', un', rfl, hE'⟩
    dsimp only [un6]
    unfold fb_G_run_43
    rw [if_pos (by rw [zI_le (by omega) (by omega) (by omega) (by omega)]; omega)]
end RUN
