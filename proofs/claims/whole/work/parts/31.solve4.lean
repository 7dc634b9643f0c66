section MS4
variable {n : Nat} {now mode : Nat → Int32} {nv : Nat → Nat → Int} {md : Nat → Int} {F : Nat} {A B : Int} {off : Nat → Int64} {rr : Nat → Int}
theorem zero2_z (hn : n ≤ 5) (hF : 10 < F) (s0 b0 : Nat → Int64) : ∃ s' b', iter (un3 (fb_M_solveBy_53 (zI (n : Int)))) F ((0 : Int32), s0, b0) = some (s', b') ∧ ∀ i, i < n → s' i = zL 0 ∧ b' i = zL 0 := by
  have loop := iter_for (body := un3 (fb_M_solveBy_53 (zI (n : Int)))) (F := F) (s := ((0 : Int32), s0, b0)) (fun i s => ∃ f g, s = (zI (i : Int), f, g) ∧ (∀ j, j < i → f j = zL 0) ∧ ∀ j, j < i → g j = zL 0) (fun q => ∃ f g, q = (f, g) ∧ (∀ j, j < n → f j = zL 0) ∧ ∀ j, j < n → g j = zL 0) n (by omega) ⟨s0, b0, rfl, fun j hj => absurd hj (by omega), fun j hj => absurd hj (by omega)⟩ ?_ ?_
  · obtain ⟨q, e, f, g, rfl, hf, hg⟩ := loop
    exact ⟨f, g, e, fun i hi => ⟨hf i hi, hg i hi⟩⟩
  · rintro i s hi ⟨f, g, rfl, hf, hg⟩
    simp only [un3, fb_M_solveBy_53]
    rw [if_neg (by rw [zI_le (by omega) (by omega) (by omega) (by omega)]; omega), stL_z (by omega) (by omega), Option.bind_some, stL_z (by omega) (by omega), Option.bind_some]
    simp only [nm, zI_1]
    exact ⟨_, rfl, _, _, rfl, upL_of (g := fun _ => 0) hf, upL_of (g := fun _ => 0) hg⟩
  · rintro s ⟨f, g, rfl, hf, hg⟩
    simp only [un3, fb_M_solveBy_53]
    rw [if_pos (Int32.le_refl _)]
    exact ⟨_, rfl, f, g, rfl, hf, hg⟩
theorem mask_z : ∀ b : Nat, b ≤ 5 → ((1 : Int32) <<< (zI (b : Int) &&& 31)) - (1 : Int32) = zI ((2 ^ b - 1 : Nat) : Int) := by decide +kernel
/-- slips from slopes -/
theorem laySlips_z (hn : n ≤ 5) (hF : 20 < F) (hA : 0 ≤ A ∧ A ≤ 2) (hB : 0 ≤ B ∧ B ≤ 2) (hv : NvOk n nv) (h : ∀ i, i < n → ∀ q, q < 7 → now (7 * i + q) = zI (nv i q)) (hm : ∀ i, i < n → mode i = zI (md i) ∧ 0 ≤ md i ∧ md i ≤ 3) (ho : ∀ i, i < n → off i = zL (rr i))
    {b0 : Nat} (hb : b0 < n) (hk : md b0 = 1 ∨ md b0 = 2) {bea : Nat → Int32} (hbea : bea 0 = zI (b0 : Int)) {fr fs : Nat → Int} {D : Int} {sl ba : Nat → Int64} (hsl : ∀ i, i < n → sl i = zL (fr i)) (hba : ∀ i, i < n → ba i = zL (fs i)) (ss0 sb0 : Nat → Int64) (hz : ∀ i, i < b0 → fr i = 0 ∧ fs i = 0) :
    ∃ (ss sb : Nat → Int64) (dr ds : Nat → Int), f_M_laySlips F now (zI (n : Int)) (zI A) (zI B) mode (zL D) sl ba ss0 sb0 off bea = some (ss, sb) ∧ (∀ i, i < n → ss i = zL (dr i)) ∧ (∀ i, i < n → sb i = zL (ds i)) ∧
      dr b0 = kM nv md b0 * fr b0 ∧ ds b0 = kM nv md b0 * fs b0 + rr b0 * D ∧
      (∀ i, i + 1 < n → dr (i + 1) = dr i + nv i 6 * ((A + B) * sm fr (i + 1) - A * D)) ∧ ∀ i, i + 1 < n → ds (i + 1) = ds i + nv i 6 * ((A + B) * sm fs (i + 1)) := by
  -- the slips themselves, by the row's law
  have hk1 := kM_bd (md := md) hv b0 hb
  have hg := give_z (md := md) hn h hm hb hk
  let up : Nat → Int := fun i => sm (fun i => nv i 6 * ((A + B) * sm fr (i + 1) - A * D)) i
  let us : Nat → Int := fun i => sm (fun i => nv i 6 * ((A + B) * sm fs (i + 1))) i
  let dr : Nat → Int := fun i => kM nv md b0 * fr b0 + (up i - up b0)
  let ds : Nat → Int := fun i => (kM nv md b0 * fs b0 + rr b0 * D) + (us i - us b0)
  have hdr : ∀ i, dr (i + 1) = dr i + nv i 6 * ((A + B) * sm fr (i + 1) - A * D) := fun i => by
    show kM nv md b0 * fr b0 + (up (i + 1) - up b0) = kM nv md b0 * fr b0 + (up i - up b0) + _
    have : up (i + 1) = up i + nv i 6 * ((A + B) * sm fr (i + 1) - A * D) := rfl
    rw [this]; omega
  have hds : ∀ i, ds (i + 1) = ds i + nv i 6 * ((A + B) * sm fs (i + 1)) := fun i => by
    show (kM nv md b0 * fs b0 + rr b0 * D) + (us (i + 1) - us b0) = (kM nv md b0 * fs b0 + rr b0 * D) + (us i - us b0) + _
    have : us (i + 1) = us i + nv i 6 * ((A + B) * sm fs (i + 1)) := rfl
    rw [this]; omega
  have hdr0 : dr b0 = kM nv md b0 * fr b0 := by show _ + (up b0 - up b0) = _; omega
  have hds0 : ds b0 = kM nv md b0 * fs b0 + rr b0 * D := by show _ + (us b0 - us b0) = _; omega
  have e5 : (zI (kM nv md b0)).toInt64 = zL (kM nv md b0) := zI_l (by omega) (by omega)
  have eA : (zI A).toInt64 = zL A := zI_l (by omega) (by omega)
  have eB : (zI B).toInt64 = zL B := zI_l (by omega) (by omega)
  have eAB : (zI A + zI B).toInt64 = zL (A + B) := by rw [zI_add]; exact zI_l (by omega) (by omega)
  have e6 : ∀ i, i < n → (zI (nv i 6)).toInt64 = zL (nv i 6) := fun i hi => by have := hv i hi; exact zI_l (by omega) (by omega)
  have of6 : ∀ i, i < n → f_M_of (zI (i : Int)) (6 : Int32) now = some (zI (nv i 6)) := fun i hi => of_z hn h hi (show 6 < 7 by omega)
  -- down from the first bearer
  have down : ∀ (j : Nat) (F : Nat) (ss sb : Nat → Int64), j ≤ b0 → j < F → (∀ i, j ≤ i → i ≤ b0 → ss i = zL (dr i) ∧ sb i = zL (ds i)) → ∃ ss' sb', iter (un3 (fb_M_laySlips_61 now (zI A) (zL D))) F (zI ((j : Int) - 1), ss, sb) = some (ss', sb') ∧ ∀ i, i ≤ b0 → ss' i = zL (dr i) ∧ sb' i = zL (ds i) := by
    intro j
    induction j with
    | zero =>
      intro F ss sb _ hF hs
      obtain ⟨F, rfl⟩ : ∃ k, F = k + 1 := ⟨F - 1, by omega⟩
      refine ⟨ss, sb, ?_, fun i hi => hs i (by omega) hi⟩
      unfold iter
      simp only [un3, fb_M_laySlips_61]
      rw [if_pos (by rw [i0, zI_lt (by omega) (by omega) (by omega) (by omega)]; omega)]
    | succ j ih =>
      intro F ss sb hj hF hs
      obtain ⟨F, rfl⟩ : ∃ k, F = k + 1 := ⟨F - 1, by omega⟩
      have ej : zI (((j + 1 : Nat) : Int) - 1) = zI (j : Int) := by congr 1; omega
      have s1 := hs (j + 1) (by omega) hj
      obtain ⟨ss', sb', e, hh⟩ := ih F (vp_updL ss j (zL (dr j))) (vp_updL sb j (zL (ds j))) (by omega) (by omega) (fun i h1 h2 => by
        rw [updL_at, updL_at]
        by_cases q : i = j
        · rw [if_pos q, if_pos q, q]; exact ⟨rfl, rfl⟩
        · rw [if_neg q, if_neg q]; exact hs i (by omega) h2)
      refine ⟨ss', sb', ?_, hh⟩
      unfold iter
      simp only [un3, fb_M_laySlips_61]
      rw [ej, if_neg (by rw [i0, zI_lt (by omega) (by omega) (by omega) (by omega)]; omega), zI_1, ldA_z (by omega) (by omega), Option.bind_some, of6 j (by omega), Option.bind_some, stL_z (by omega) (by omega), Option.bind_some, ldA_z (by omega) (by omega), Option.bind_some, stL_z (by omega) (by omega), Option.bind_some, s1.1, s1.2, eA, e6 j (by omega), zL_mul, zL_mul, zL_add]
      simp only [nm]
      have a1 : sm fr (j + 1) = 0 := sm_zero fun i hi => (hz i (by omega)).1
      have a2 : sm fs (j + 1) = 0 := sm_zero fun i hi => (hz i (by omega)).2
      have b1 := hdr j
      have b2 := hds j
      rw [a1, Int.mul_zero, Int.zero_sub] at b1
      rw [a2, Int.mul_zero, Int.mul_zero, Int.add_zero] at b2
      have c1 : dr (j + 1) + A * nv j 6 * D = dr j := by rw [b1]; grind
      rw [c1, b2, im1, zI_add]
      exact e
  -- up from it
  have upw := fun (ss sb : Nat → Int64) (hs : ∀ i, i ≤ b0 → ss i = zL (dr i) ∧ sb i = zL (ds i)) => iter_for (body := un5 (fb_M_laySlips_127 (zI (b0 : Int)) now (zI (n : Int)) (zI A) (zI B) (zL D) sl ba)) (F := F) (s := ((0 : Int64), (0 : Int64), (0 : Int32), ss, sb))
    (fun i s => ∃ f g, s = (zL (sm fr i), zL (sm fs i), zI (i : Int), f, g) ∧ ∀ j, (j ≤ b0 ∨ j ≤ i) → j < n → f j = zL (dr j) ∧ g j = zL (ds j))
    (fun q => ∃ f g, q = (f, g) ∧ ∀ j, j < n → f j = zL (dr j) ∧ g j = zL (ds j)) (n - 1) (by omega) ⟨ss, sb, rfl, fun j hj _ => hs j (by omega)⟩ (by
      rintro i s hi ⟨f, g, rfl, hf⟩
      simp only [un5, fb_M_laySlips_127]
      rw [i1, zI_sub, if_neg (by rw [zI_le (by omega) (by omega) (by omega) (by omega)]; omega), ldA_z (by omega) (by omega), Option.bind_some]
      simp only [nm]
      rw [ldA_z (by omega) (by omega), Option.bind_some, hsl i (by omega), hba i (by omega), zL_add, zL_add, ← sm_s, ← sm_s]
      by_cases hge : b0 ≤ i
      · rw [if_pos (by rw [zI_le (by omega) (by omega) (by omega) (by omega)]; omega), of6 i (by omega), Option.bind_some, ldA_z (by omega) (by omega), Option.bind_some, ← i1, zI_1, stL_z (by omega) (by omega), Option.bind_some, ldA_z (by omega) (by omega), Option.bind_some, stL_z (by omega) (by omega), Option.bind_some, (hf i (by omega) (by omega)).1, (hf i (by omega) (by omega)).2, eA, eB, eAB, e6 i (by omega)]
        simp only [zL_mul, zL_sub, zL_add, fj_M_laySlips_253, nm, zI_1]
        refine ⟨_, rfl, _, _, rfl, fun j hj hjn => ?_⟩
        rw [updL_at, updL_at]
        by_cases q : j = i + 1
        · rw [if_pos q, if_pos q, q, hdr i, hds i]
          refine ⟨?_, ?_⟩
          · congr 1; grind
          · congr 1; grind
        · rw [if_neg q, if_neg q]; exact hf j (by omega) hjn
      · rw [if_neg (by rw [zI_le (by omega) (by omega) (by omega) (by omega)]; omega)]
        simp only [fj_M_laySlips_253, nm]
        rw [zI_1]
        exact ⟨_, rfl, _, _, rfl, fun j hj hjn => hf j (by omega) hjn⟩) (by
      rintro s ⟨f, g, rfl, hf⟩
      simp only [un5, fb_M_laySlips_127]
      rw [i1, zI_sub, if_pos (by rw [zI_le (by omega) (by omega) (by omega) (by omega)]; omega)]
      exact ⟨_, rfl, f, g, rfl, fun j hj => hf j (by omega) hj⟩)
  obtain ⟨s1, b1, ed, hd1⟩ := down b0 F (vp_updL ss0 b0 (zL (dr b0))) (vp_updL sb0 b0 (zL (ds b0))) (Nat.le_refl _) (by omega) (fun i h1 h2 => by
    have : i = b0 := by omega
    rw [updL_at, updL_at, if_pos this, if_pos this, this]; exact ⟨rfl, rfl⟩)
  obtain ⟨q, eu, f, g, rfl, hu⟩ := upw s1 b1 hd1
  refine ⟨f, g, dr, ds, ?_, fun i hi => (hu i hi).1, fun i hi => (hu i hi).2, hdr0, hds0, fun i _ => hdr i, fun i _ => hds i⟩
  unfold f_M_laySlips
  rw [show (0 : Int32) = zI ((0 : Nat) : Int) from rfl, ldA_z (show 0 < 5 by omega) (by omega), Option.bind_some, hbea, hg, Option.bind_some, ldA_z (by omega) (by omega), Option.bind_some, stL_z (by omega) (by omega), Option.bind_some, Option.bind_some, ldA_z (by omega) (by omega), Option.bind_some, ldA_z (by omega) (by omega), Option.bind_some, stL_z (by omega) (by omega), Option.bind_some, hsl b0 hb, hba b0 hb, ho b0 hb, e5, zL_mul, zL_mul, zL_mul, zL_add, ← hdr0, ← hds0]
  simp only [nm, bd2]
  rw [i1, zI_sub, ed, Option.bind_some]
  rw [show (zI ((0 : Nat) : Int)) = (0 : Int32) from rfl, eu]
  rfl
end MS4
