theorem be_idx {k : Nat → Int} {n i : Nat} (hi : i < n) (hk : 0 < k i) : (bl k i).length < (bl k n).length ∧ be k n (bl k i).length = i := by
  obtain ⟨j, hj, e⟩ := be_all hi hk
  have := bl_at hj
  rw [e] at this
  rw [this]
  exact ⟨hj, e⟩
section MS5
variable {n : Nat} {now mode : Nat → Int32} {nv : Nat → Nat → Int} {md : Nat → Int} {F : Nat} {A B : Int} {off : Nat → Int64} {rr : Nat → Int}
theorem slopes_z (hn : n ≤ 5) (hF : 20 < F) {k : Nat → Int} {bea : Nat → Int32} {mat : Nat → Int64} {P Q : Nat → Int} {l1 : Int32} (hbe : ∀ j, j < (bl k n).length → bea j = zI (be k n j : Int))
    (hP : ∀ j, j < (bl k n).length → f_M_determinant F 6 (zI ((bl k n).length : Int)) mat (0 : Int32) l1 (zI (j : Int)) (5 : Int32) = some (zL (P j))) (hQ : ∀ j, j < (bl k n).length → f_M_determinant F 6 (zI ((bl k n).length : Int)) mat (0 : Int32) l1 (zI (j : Int)) (6 : Int32) = some (zL (Q j)))
    (s0 b0 : Nat → Int64) (hz : ∀ i, i < n → s0 i = zL 0 ∧ b0 i = zL 0) :
    ∃ s' b', iter (un3 (fb_M_solveBy_83 F l1 (1 : Int32) bea (zI ((bl k n).length : Int)) mat)) F ((0 : Int32), s0, b0) = some (s', b') ∧ ∀ i, i < n → s' i = zL (spr k P i) ∧ b' i = zL (spr k Q i) := by
  have hbn := bl_len k n
  have loop := iter_for (body := un3 (fb_M_solveBy_83 F l1 (1 : Int32) bea (zI ((bl k n).length : Int)) mat)) (F := F) (s := ((0 : Int32), s0, b0))
    (fun j s => ∃ f g, s = (zI (j : Int), f, g) ∧ ∀ i, i < n → f i = zL (if 0 < k i ∧ (bl k i).length < j then P (bl k i).length else 0) ∧ g i = zL (if 0 < k i ∧ (bl k i).length < j then Q (bl k i).length else 0))
    (fun q => ∃ f g, q = (f, g) ∧ ∀ i, i < n → f i = zL (spr k P i) ∧ g i = zL (spr k Q i)) (bl k n).length (by omega) ⟨s0, b0, rfl, fun i hi => by rw [if_neg (by omega), if_neg (by omega)]; exact hz i hi⟩ ?_ ?_
  · obtain ⟨q, e, f, g, rfl, hq⟩ := loop
    exact ⟨f, g, e, hq⟩
  · rintro j s hj ⟨f, g, rfl, hf⟩
    have hm := be_mem hj
    simp only [un3, fb_M_solveBy_83]
    rw [if_neg (by rw [zI_le (by omega) (by omega) (by omega) (by omega)]; omega), ldA_z (by omega) (by omega), Option.bind_some, hP j hj, Option.bind_some, hbe j hj, stL_z (by omega) (by omega), Option.bind_some, Option.bind_some, hQ j hj, Option.bind_some, stL_z (by omega) (by omega), Option.bind_some, show (Int32.toInt64 1) = zL 1 from rfl, zL_mul, zL_mul, Int.one_mul, Int.one_mul]
    simp only [nm, zI_1]
    refine ⟨_, rfl, _, _, rfl, fun i hi => ?_⟩
    rw [updL_at, updL_at]
    by_cases q : i = be k n j
    · rw [if_pos q, if_pos q, q, bl_at hj, if_pos ⟨hm.2, by omega⟩, if_pos ⟨hm.2, by omega⟩]
      exact ⟨rfl, rfl⟩
    · rw [if_neg q, if_neg q]
      have e : (0 < k i ∧ (bl k i).length < j + 1) ↔ (0 < k i ∧ (bl k i).length < j) := by
        constructor
        · rintro ⟨p1, p2⟩
          refine ⟨p1, Nat.lt_of_le_of_ne (by omega) fun p3 => q ?_⟩
          rw [← p3]; exact (be_idx hi p1).2.symm
        · rintro ⟨p1, p2⟩; exact ⟨p1, by omega⟩
      have h1 := hf i hi
      by_cases p : 0 < k i ∧ (bl k i).length < j
      · rw [if_pos p] at h1; rw [if_pos (e.mpr p)]
        rw [if_pos p] at h1; rw [if_pos (e.mpr p)]; exact h1
      · rw [if_neg p] at h1; rw [if_neg (fun x => p (e.mp x))]
        rw [if_neg p] at h1; rw [if_neg (fun x => p (e.mp x))]; exact h1
  · rintro s ⟨f, g, rfl, hf⟩
    simp only [un3, fb_M_solveBy_83]
    rw [if_pos (Int32.le_refl _)]
    refine ⟨_, rfl, f, g, rfl, fun i hi => ?_⟩
    have h1 := hf i hi
    unfold spr
    by_cases p : 0 < k i
    · have := (be_idx hi p).1
      rw [if_pos ⟨p, this⟩] at h1; rw [if_pos p]
      rw [if_pos ⟨p, this⟩] at h1; rw [if_pos p]; exact h1
    · rw [if_neg (fun x => p x.1)] at h1; rw [if_neg p]
      rw [if_neg (fun x => p x.1)] at h1; rw [if_neg p]; exact h1
set_option maxHeartbeats 4000000 in
theorem solveBy_z (hn : n ≤ 5) (hF : 40 < F) (hG : Geo n (fun i => nv i 6) A B) (hv : NvOk n nv) (h : ∀ i, i < n → ∀ q, q < 7 → now (7 * i + q) = zI (nv i q)) (hm : ∀ i, i < n → mode i = zI (md i) ∧ 0 ≤ md i ∧ md i ≤ 3) (ho : ∀ i, i < n → off i = zL (rr i)) (hr : ∀ i, i < n → -268435456 ≤ rr i ∧ rr i ≤ 268435456) (hs : ∃ i, i < n ∧ 0 < kM nv md i)
    (un0 : Int64) (s0 b0 ss0 sb0 : Nat → Int64) (be0 : Nat → Int32) (bs0 : Int32) (mat0 : Nat → Int64) :
    ∃ (D : Int) (fr fs dr ds : Nat → Int) (s1 b1 ss1 sb1 : Nat → Int64) (be1 : Nat → Int32) (bs1 : Int32) (mat1 : Nat → Int64), f_M_solveBy F now (zI (n : Int)) (zI A) (zI B) mode un0 s0 b0 ss0 sb0 off be0 bs0 mat0 = some (zL D, s1, b1, ss1, sb1, be1, bs1, mat1) ∧
      Sol n (fun i => nv i 6) A B (kM nv md) rr D fr fs dr ds ∧ D ≤ 299269 ∧ (∀ i, i < n → s1 i = zL (fr i)) ∧ (∀ i, i < n → b1 i = zL (fs i)) ∧ (∀ i, i < n → ss1 i = zL (dr i)) ∧ ∀ i, i < n → sb1 i = zL (ds i) := by
  have hA : 0 ≤ A ∧ A ≤ 2 := ⟨hG.1, hG.2.1⟩
  have hB : 0 ≤ B ∧ B ≤ 2 := ⟨hG.2.2.1, hG.2.2.2.1⟩
  obtain ⟨i0', hi0, hk0⟩ := hs
  have hpos : 0 < (bl (kM nv md) n).length := by
    have := (be_idx hi0 hk0).1
    omega
  have hbn := bl_len (kM nv md) n
  obtain ⟨be1, eb, hbe⟩ := bearers_z (F := F) hn (by omega) hv hm be0
  obtain ⟨mz, ez, hz⟩ := zeros_z hF mat0
  obtain ⟨mat1, em, hrow⟩ := matrix_z (A := A) (B := B) hn hF hA hB hv h hm ho hpos hbe mz hz
  have hm0 := be_mem (k := kM nv md) (n := n) (j := 0) hpos
  have hbe0 := hbe 0 hpos
  generalize hbb : (bl (kM nv md) n).length = b at *
  have hTb : ∀ r, r + 1 < b → 0 ≤ gT nv (kM nv md) n A B r ∧ gT nv (kM nv md) n A B r ≤ 8 * (6 - (b : Int)) := by
    intro r hr'
    have h1 := gW_bd (md := md) hv (r := r) (by omega)
    have h2 := be_near (k := kM nv md) (n := n) (r := r) (by omega)
    rw [hbb] at h2
    have h3 := mul_bd (show 0 ≤ A + B by omega) h1.1 (show A + B ≤ 4 by omega) (show gW nv (kM nv md) n r ≤ 2 * (6 - (b : Int)) by omega)
    unfold gT
    omega
  have hgb : ∀ r, r < b → 1 ≤ gg (kM nv md) n r ∧ gg (kM nv md) n r ≤ 9 := by
    intro r hr'
    have m := be_mem (k := kM nv md) (n := n) (j := r) (by omega)
    have := kM_bd (md := md) hv _ m.1
    have := m.2
    unfold gg
    omega
  have hvb : ∀ r, r < b → -1000 ≤ gv nv (kM nv md) n A r ∧ gv nv (kM nv md) n A r ≤ 1000 := by
    intro r hr'
    unfold gv
    by_cases q : r + 1 = (bl (kM nv md) n).length
    · rw [if_pos q]; omega
    · rw [if_neg q]
      have h1 := gW_bd (md := md) hv (r := r) (by omega)
      have h2 := be_near (k := kM nv md) (n := n) (r := r) (by omega)
      have h3 := mul_bd hA.1 h1.1 hA.2 (show gW nv (kM nv md) n r ≤ 12 by omega)
      omega
  have hub : ∀ r, r < b → -536870912 ≤ gu rr (kM nv md) n r ∧ gu rr (kM nv md) n r ≤ 536870912 := by
    intro r hr'
    unfold gu
    by_cases q : r + 1 = (bl (kM nv md) n).length
    · rw [if_pos q]; omega
    · rw [if_neg q]
      have m1 := hr _ (be_mem (k := kM nv md) (n := n) (j := r) (by omega)).1
      have m2 := hr _ (be_mem (k := kM nv md) (n := n) (j := r + 1) (by omega)).1
      omega
  have hHb : ∀ r, r < b → ∀ c, c < b → -1000 ≤ Hm b (gT nv (kM nv md) n A B) (gg (kM nv md) n) r c ∧ Hm b (gT nv (kM nv md) n A B) (gg (kM nv md) n) r c ≤ 1000 := by
    intro r hr' c hc
    unfold Hm
    by_cases q : r + 1 = b
    · rw [if_pos q]; omega
    · rw [if_neg q]
      have t1 := hTb r (by omega)
      have g1 := hgb r hr'
      have g2 := hgb (r + 1) (by omega)
      by_cases c1 : c ≤ r
      · rw [if_pos c1, if_neg (show ¬ c = r + 1 by omega)]
        by_cases c2 : c = r
        · rw [if_pos c2]; omega
        · rw [if_neg c2]; omega
      · rw [if_neg c1, if_neg (show ¬ c = r by omega)]
        by_cases c2 : c = r + 1
        · rw [if_pos c2]; omega
        · rw [if_neg c2]; omega
  have hDb := dD_bd (b := b) (by omega) (by omega) hTb hgb
  have det0 : f_M_determinant F 6 (zI (b : Int)) mat1 (0 : Int32) (zI ((2 ^ b - 1 : Nat) : Int)) (-1 : Int32) (0 : Int32) = some (zL (dD b (gT nv (kM nv md) n A B) (gg (kM nv md) n))) := by
    refine det_spec (F := F) (b := b) (by omega) (by omega) (rep := -1) (byc := 0) (by omega) (by omega) (X := Hm b (gT nv (kM nv md) n A B) (gg (kM nv md) n)) (fun r hr' c hc => ?_) 6 0 (2 ^ b - 1) (by omega) (by omega) ?_
    · have := hHb r hr' c hc
      rw [if_neg (by omega)]
      exact ⟨(hrow r hr').1 c hc, by omega, by omega⟩
    · have : b = 1 ∨ b = 2 ∨ b = 3 ∨ b = 4 ∨ b = 5 := by omega
      rcases this with q | q | q | q | q <;> rw [q] <;> decide
  have detj : ∀ (v : Nat → Int) (byc : Nat), byc ≤ 6 → (∀ r, r < b → mat1 (7 * r + byc) = zL (v r) ∧ -536870912 ≤ v r ∧ v r ≤ 536870912) → ∀ j, j < b → f_M_determinant F 6 (zI (b : Int)) mat1 (0 : Int32) (zI ((2 ^ b - 1 : Nat) : Int)) (zI (j : Int)) (zI (byc : Int)) = some (zL (dN b (gT nv (kM nv md) n A B) (gg (kM nv md) n) v j)) := by
    intro v byc hby hv' j hj
    refine det_spec (F := F) (b := b) (by omega) (by omega) (rep := (j : Int)) (byc := (byc : Int)) (by omega) (by omega) (X := Hr b (gT nv (kM nv md) n A B) (gg (kM nv md) n) v j) (fun r hr' c hc => ?_) 6 0 (2 ^ b - 1) (by omega) (by omega) ?_
    · have h1 := hHb r hr' c hc
      have h2 := hv' r hr'
      unfold Hr
      by_cases q : c = j
      · rw [if_pos (by omega), if_pos q]
        exact ⟨h2.1, by omega, by omega⟩
      · rw [if_neg (by omega), if_neg q]
        exact ⟨(hrow r hr').1 c hc, by omega, by omega⟩
    · have : b = 1 ∨ b = 2 ∨ b = 3 ∨ b = 4 ∨ b = 5 := by omega
      rcases this with q | q | q | q | q <;> rw [q] <;> decide
  have hN := detj (gv nv (kM nv md) n A) 5 (by omega) (fun r hr' => ⟨(hrow r hr').2.1, by have := hvb r hr'; omega, by have := hvb r hr'; omega⟩)
  have hM := detj (gu rr (kM nv md) n) 6 (by omega) (fun r hr' => ⟨(hrow r hr').2.2, (hub r hr').1, (hub r hr').2⟩)
  obtain ⟨rw1, rw2⟩ := cr_rows (b := b) (by omega) (by omega) (gT nv (kM nv md) n A B) (gg (kM nv md) n) (gv nv (kM nv md) n A)
  obtain ⟨ru1, ru2⟩ := cr_rows (b := b) (by omega) (by omega) (gT nv (kM nv md) n A B) (gg (kM nv md) n) (gu rr (kM nv md) n)
  generalize hDD : dD b (gT nv (kM nv md) n A B) (gg (kM nv md) n) = D at *
  generalize hNN : dN b (gT nv (kM nv md) n A B) (gg (kM nv md) n) (gv nv (kM nv md) n A) = N at *
  generalize hMM : dN b (gT nv (kM nv md) n A B) (gg (kM nv md) n) (gu rr (kM nv md) n) = M at *
  obtain ⟨sz, bz, e53, hz2⟩ := zero2_z (F := F) hn (by omega) s0 b0
  have hsl := slopes_z (n := n) (F := F) hn (by omega) (k := kM nv md) (bea := be1) (mat := mat1) (P := N) (Q := M) (l1 := zI ((2 ^ b - 1 : Nat) : Int)) (by rw [hbb]; exact hbe) (by rw [hbb]; exact hN) (by rw [hbb]; exact hM) sz bz hz2
  rw [hbb] at hsl
  obtain ⟨s1, b1, e83, hs1⟩ := hsl
  have hblz : ∀ i, i < be (kM nv md) n 0 → spr (kM nv md) N i = 0 ∧ spr (kM nv md) M i = 0 := by
    intro i hi
    have hno : ¬ 0 < kM nv md i := fun p => by
      have h1 := be_idx (n := n) (show i < n by omega) p
      rcases Nat.eq_zero_or_pos (bl (kM nv md) i).length with q | q
      · rw [q] at h1; omega
      · have := be_lt (k := kM nv md) (n := n) (i := 0) (j := (bl (kM nv md) i).length) h1.1 q
        omega
    unfold spr
    rw [if_neg hno, if_neg hno]
    exact ⟨rfl, rfl⟩
  obtain ⟨ss1, sb1, dr, ds, els, hss, hsb, hdr0, hds0, hdr, hds⟩ := laySlips_z (F := F) (A := A) (B := B) hn (by omega) hA hB hv h hm ho hm0.1 ((kM_pos hv hm0.1).mp hm0.2) (bea := be1) hbe0 (fr := spr (kM nv md) N) (fs := spr (kM nv md) M) (D := D) (sl := s1) (ba := b1) (fun i hi => (hs1 i hi).1) (fun i hi => (hs1 i hi).2) ss0 sb0 hblz
  refine ⟨D, spr (kM nv md) N, spr (kM nv md) M, dr, ds, s1, b1, ss1, sb1, be1, zI (b : Int), mat1, ?_, ?_, hDb.2, fun i hi => (hs1 i hi).1, fun i hi => (hs1 i hi).2, hss, hsb⟩
  · unfold f_M_solveBy f_M_layMatrix
    rw [eb]
    simp only [bd2, bd3, Option.bind_some]
    rw [ez, Option.bind_some, em, Option.bind_some, Option.bind_some]
    simp only [nm]
    rw [mask_z b (by omega), det0, Option.bind_some, if_pos (by rw [l0z, zL_le (by omega) (by omega) (by omega) (by omega)]; omega)]
    unfold fj_M_solveBy_39
    simp only [nm, bd2]
    rw [e53, Option.bind_some, e83, Option.bind_some, show (Int32.toInt64 1) = zL 1 from rfl, zL_mul, Int.mul_one, els]
    rfl
  · have at0 : spr (kM nv md) N (be (kM nv md) n 0) = N 0 := spr_at (by omega)
    have at1 : spr (kM nv md) M (be (kM nv md) n 0) = M 0 := spr_at (by omega)
    have c1 := chain (n := n) (k := kM nv md) (w := fun i => nv i 6) (d := dr) (N := N) (v := N) (A := A) (B := B) (D := D) (rD := 0) (c := fun _ => 0) (by omega) (by rw [hdr0, at0]; simp) hdr (fun r hr' => by
      have := rw1 r (by omega)
      rw [show gv nv (kM nv md) n A r = A * gW nv (kM nv md) n r from if_neg (by omega)] at this
      simp only [gT, gg, gW] at this
      rw [this]; simp)
    have c2 := chain (n := n) (k := kM nv md) (w := fun i => nv i 6) (d := ds) (N := M) (v := M) (A := A) (B := B) (D := 0) (rD := D) (c := rr) (by omega) (by rw [hds0, at1]) (fun i hi => by rw [hds i hi]; simp) (fun r hr' => by
      have := ru1 r (by omega)
      rw [show gu rr (kM nv md) n r = rr (be (kM nv md) n (r + 1)) - rr (be (kM nv md) n r) from if_neg (by omega)] at this
      simp only [gT, gg, gW] at this
      rw [this]; simp)
    refine ⟨hDb.1, fun i hi hk => ?_, fun i hi hk => ?_, ?_, ?_, hdr, hds⟩
    · unfold spr
      rw [if_neg (by omega), if_neg (by omega)]; exact ⟨rfl, rfl⟩
    · obtain ⟨j, hj, e⟩ := be_all hi hk
      have a1 := c1 j hj
      have a2 := c2 j hj
      have a3 := spr_at (k := kM nv md) (N := N) hj
      have a4 := spr_at (k := kM nv md) (N := M) hj
      rw [e] at a1 a2 a3 a4
      rw [a1, a2, a3, a4]
      simp
    · rw [sm_spr, hbb, rw2, show gv nv (kM nv md) n A (b - 1) = 1 from if_pos (by omega)]
      omega
    · rw [sm_spr, hbb, ru2, show gu rr (kM nv md) n (b - 1) = 0 from if_pos (by omega)]
      omega
end MS5
