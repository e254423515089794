/-! calls that act on the goods -/
def Sim (fc fm : mv_H → Option (Int32 × mv_H)) : Prop := ∀ h, Inv h → ∃ r h1 h2, fc h = some (r, h1) ∧ fm h1 = some (r, h2) ∧ Inv h2
theorem pe_count2 {h : mv_H} {n : Nat} (hn : n < 64) (e : h 2 2 = nI n) : fX7_count_2 h = some (nI (pc n)) := by unfold fX7_count_2; rw [e, pe_bitCount n hn]; rfl
theorem pe_count4 {h : mv_H} {n : Nat} (hn : n < 64) (e : h 4 2 = nI n) : fX7_count_4 h = some (nI (pc n)) := by unfold fX7_count_4; rw [e, pe_bitCount n hn]; rfl
theorem pe_count6 {h : mv_H} {n : Nat} (hn : n < 64) (e : h 6 2 = nI n) : fX7_count_6 h = some (nI (pc n)) := by unfold fX7_count_6; rw [e, pe_bitCount n hn]; rfl
theorem rd_b {h : mv_H} {N : Nat → Nat → Nat} (r : rdG h 1 N) : h 2 2 = nI (N 0 0) ∧ h 4 2 = nI (N 0 1) ∧ h 6 2 = nI (N 0 2) := ⟨r 0 0 (by unfold vld; omega), r 0 1 (by unfold vld; omega), r 0 2 (by unfold vld; omega)⟩
theorem rd_mb {h : mv_H} {N : Nat → Nat → Nat} (r : rdM h N) : h 55 0 = nI (N 0 0) ∧ h 55 1 = nI (N 0 1) ∧ h 55 2 = nI (N 0 2) := ⟨r 0 0 (by unfold vld; omega), r 0 1 (by unfold vld; omega), r 0 2 (by unfold vld; omega)⟩
theorem rd_s {h : mv_H} {N : Nat → Nat → Nat} (r : rdG h 1 N) : h 1 5 = nI (N 0 3) ∧ h 1 6 = nI (N 0 4) ∧ h 1 7 = nI (N 0 5) ∧ h 1 8 = nI (N 0 6) := ⟨r 0 3 (by unfold vld; omega), r 0 4 (by unfold vld; omega), r 0 5 (by unfold vld; omega), r 0 6 (by unfold vld; omega)⟩
theorem rd_ms {h : mv_H} {N : Nat → Nat → Nat} (r : rdM h N) : h 55 7 = nI (N 0 3) ∧ h 55 8 = nI (N 0 4) ∧ h 55 9 = nI (N 0 5) ∧ h 55 10 = nI (N 0 6) := ⟨r 0 3 (by unfold vld; omega), r 0 4 (by unfold vld; omega), r 0 5 (by unfold vld; omega), r 0 6 (by unfold vld; omega)⟩
theorem rd_f {h : mv_H} {N : Nat → Nat → Nat} (r : rdG h 1 N) : h 8 2 = nI (N 0 7) ∧ h 10 2 = nI (N 0 8) := ⟨r 0 7 (by unfold vld; omega), r 0 8 (by unfold vld; omega)⟩
theorem rd_mf {h : mv_H} {N : Nat → Nat → Nat} (r : rdM h N) : h 55 12 = nI (N 0 7) ∧ h 55 14 = nI (N 0 8) := ⟨r 0 7 (by unfold vld; omega), r 0 8 (by unfold vld; omega)⟩
theorem rd_1 {h : mv_H} {N : Nat → Nat → Nat} (r : rdG h 1 N) {i : Nat} (hi : i < 18) : h 3 i = nI (N 1 i) := r 1 i (by unfold vld; omega)
theorem rd_2 {h : mv_H} {N : Nat → Nat → Nat} (r : rdG h 1 N) {i : Nat} (hi : i < 18) : h 5 i = nI (N 2 i) := r 2 i (by unfold vld; omega)
theorem rd_3 {h : mv_H} {N : Nat → Nat → Nat} (r : rdG h 1 N) {i : Nat} (hi : i < 6) : h 7 (3 * i) = nI (N 3 i) := r 3 i (by unfold vld; omega)
theorem rd_4 {h : mv_H} {N : Nat → Nat → Nat} (r : rdG h 1 N) {i : Nat} (hi : i < 6) : h 7 (3 * i + 1) = nI (N 4 i) := r 4 i (by unfold vld; omega)
theorem rd_5 {h : mv_H} {N : Nat → Nat → Nat} (r : rdG h 1 N) {i : Nat} (hi : i < 6) : h 9 i = nI (N 5 i) := r 5 i (by unfold vld; omega)
theorem rd_6 {h : mv_H} {N : Nat → Nat → Nat} (r : rdG h 1 N) {i : Nat} (hi : i < 6) : h 11 i = nI (N 6 i) := r 6 i (by unfold vld; omega)
theorem rd_m {h : mv_H} {N : Nat → Nat → Nat} (r : rdM h N) {a i : Nat} (ha : 1 ≤ a) (hv : vld a i) : h (55 + a) i = nI (N a i) := by
  have := r a i hv
  unfold pv_mw at this
  rwa [if_neg (by omega)] at this
set_option maxRecDepth 10000 in
theorem st_box (p0 p1 p2 p3 : Int32) : Sim (fX9_box_0 p0 p1 p2 p3) (fX10_box_55 p0 p1 p2 p3) := by
  intro h H
  obtain ⟨N, hG, hM, hN⟩ := H.1
  unfold fX9_box_0 fX9_putSolid_0_2 fX10_box_55
  simp only [pe_isNumber, pe_mNumber, pe_isSide, pe_areSides, Option.bind_some, pz_i0]
  by_cases h0 : 0 ≤ p0.toInt ∧ p0.toInt < 6
  · by_cases h1 : (1 ≤ p1.toInt ∧ p1.toInt ≤ 20) ∧ (1 ≤ p2.toInt ∧ p2.toInt ≤ 20) ∧ (1 ≤ p3.toInt ∧ p3.toInt ≤ 20)
    · obtain ⟨i, hi, rfl⟩ := pz_six h0
      obtain ⟨x, hx, rfl⟩ := pz_nat (n := 20) (by decide) (v := p1) (by omega)
      obtain ⟨y, hy, rfl⟩ := pz_nat (n := 20) (by decide) (v := p2) (by omega)
      obtain ⟨z, hz, rfl⟩ := pz_nat (n := 20) (by decide) (v := p3) (by omega)
      have ex : (nI x).toInt = x := nI_toInt (by omega)
      have ey : (nI y).toInt = y := nI_toInt (by omega)
      have ez : (nI z).toInt = z := nI_toInt (by omega)
      rw [ex, ey, ez] at h1
      simp only [ex, ey, ez, h0, h1, not_true_eq_false, if_false, and_self]
      have hb := pz_or (N 0 0) hN.1.1 i hi
      have hnew := pv_putB hi hG hM hN (x := x) (y := y) (z := z) (by omega)
      obtain ⟨g1, g2, g3⟩ := hnew
      have c1 : pv_put h 3 2 2 i (nI x) (nI y) (nI z) 2 2 = nI (N 0 0 ||| 2 ^ i) := by
        rw [pv_put_at (by decide), if_pos ⟨rfl, rfl⟩]
        rw [(rd_b hG).1, hb.1]
      have c2 : pv_put (pv_put h 3 2 2 i (nI x) (nI y) (nI z)) 56 55 0 i (nI x) (nI y) (nI z) 55 0 = nI (N 0 0 ||| 2 ^ i) := by
        rw [pv_put_at (by decide), if_pos ⟨rfl, rfl⟩, pv_put_at (by decide), if_neg (by decide), if_neg (by simp), if_neg (by simp), if_neg (by simp), (rd_mb hM).1, hb.1]
      refine ⟨nI (pc (N 0 0 ||| 2 ^ i)), pv_put h 3 2 2 i (nI x) (nI y) (nI z), pv_put (pv_put h 3 2 2 i (nI x) (nI y) (nI z)) 56 55 0 i (nI x) (nI y) (nI z), ?_, ?_, ?_⟩
      · rw [pe_put2 hi, Option.bind_some, pe_count2 hb.2 c1]; rfl
      · rw [pe_putBox hi, Option.bind_some, c2, pe_ones _ hb.2]; rfl
      · refine Keep.inv (h := h) ?_ H ⟨_, g1, g2, g3⟩
        refine Keep.tr (b := pv_put h 3 2 2 i (nI x) (nI y) (nI z)) ?_ ?_
        · exact (((Keep.u (by unfold kp; omega)).tr (Keep.u (by unfold kp; omega))).tr (Keep.u (by unfold kp; omega))).tr (Keep.u (by unfold kp; omega))
        · exact (((Keep.u (by unfold kp; omega)).tr (Keep.u (by unfold kp; omega))).tr (Keep.u (by unfold kp; omega))).tr (Keep.u (by unfold kp; omega))
    · refine ⟨-2, h, h, ?_, ?_, H⟩
      · simp only [h0, not_true_eq_false, if_false, and_self]
        by_cases q1 : 1 ≤ p1.toInt ∧ p1.toInt ≤ 20
        · by_cases q2 : 1 ≤ p2.toInt ∧ p2.toInt ≤ 20
          · have q3 : ¬ (1 ≤ p3.toInt ∧ p3.toInt ≤ 20) := fun q => h1 ⟨q1, q2, q⟩
            simp [q1, q2, q3]
          · simp [q1, q2]
        · simp [q1]
      · rw [if_neg (fun q => q h0), if_pos h1]
  · exact ⟨-1, h, h, by simp [h0], by simp [h0], H⟩
set_option maxRecDepth 10000 in
theorem st_thing (p0 p1 p2 p3 : Int32) : Sim (fX9_thing_0 p0 p1 p2 p3) (fX10_thing_55 p0 p1 p2 p3) := by
  intro h H
  obtain ⟨N, hG, hM, hN⟩ := H.1
  unfold fX9_thing_0 fX9_putSolid_0_4 fX10_thing_55
  simp only [pe_isNumber, pe_mNumber, pe_isSide, pe_areSides, Option.bind_some, pz_i0]
  by_cases h0 : 0 ≤ p0.toInt ∧ p0.toInt < 6
  · by_cases h1 : (1 ≤ p1.toInt ∧ p1.toInt ≤ 20) ∧ (1 ≤ p2.toInt ∧ p2.toInt ≤ 20) ∧ (1 ≤ p3.toInt ∧ p3.toInt ≤ 20)
    · obtain ⟨i, hi, rfl⟩ := pz_six h0
      obtain ⟨x, hx, rfl⟩ := pz_nat (n := 20) (by decide) (v := p1) (by omega)
      obtain ⟨y, hy, rfl⟩ := pz_nat (n := 20) (by decide) (v := p2) (by omega)
      obtain ⟨z, hz, rfl⟩ := pz_nat (n := 20) (by decide) (v := p3) (by omega)
      have ex : (nI x).toInt = x := nI_toInt (by omega)
      have ey : (nI y).toInt = y := nI_toInt (by omega)
      have ez : (nI z).toInt = z := nI_toInt (by omega)
      rw [ex, ey, ez] at h1
      simp only [ex, ey, ez, h0, h1, not_true_eq_false, if_false, and_self]
      have hb := pz_or (N 0 1) hN.1.2.1 i hi
      have hnew := pv_putT hi hG hM hN (x := x) (y := y) (z := z) (by omega)
      obtain ⟨g1, g2, g3⟩ := hnew
      have c1 : pv_put h 5 4 2 i (nI x) (nI y) (nI z) 4 2 = nI (N 0 1 ||| 2 ^ i) := by
        rw [pv_put_at (by decide), if_pos ⟨rfl, rfl⟩]
        rw [(rd_b hG).2.1, hb.1]
      have c2 : pv_put (pv_put h 5 4 2 i (nI x) (nI y) (nI z)) 57 55 1 i (nI x) (nI y) (nI z) 55 1 = nI (N 0 1 ||| 2 ^ i) := by
        rw [pv_put_at (by decide), if_pos ⟨rfl, rfl⟩, pv_put_at (by decide), if_neg (by decide), if_neg (by simp), if_neg (by simp), if_neg (by simp), (rd_mb hM).2.1, hb.1]
      refine ⟨nI (pc (N 0 1 ||| 2 ^ i)), pv_put h 5 4 2 i (nI x) (nI y) (nI z), pv_put (pv_put h 5 4 2 i (nI x) (nI y) (nI z)) 57 55 1 i (nI x) (nI y) (nI z), ?_, ?_, ?_⟩
      · rw [pe_put4 hi, Option.bind_some, pe_count4 hb.2 c1]; rfl
      · rw [pe_putThing hi, Option.bind_some, c2, pe_ones _ hb.2]; rfl
      · refine Keep.inv (h := h) ?_ H ⟨_, g1, g2, g3⟩
        refine Keep.tr (b := pv_put h 5 4 2 i (nI x) (nI y) (nI z)) ?_ ?_
        · exact (((Keep.u (by unfold kp; omega)).tr (Keep.u (by unfold kp; omega))).tr (Keep.u (by unfold kp; omega))).tr (Keep.u (by unfold kp; omega))
        · exact (((Keep.u (by unfold kp; omega)).tr (Keep.u (by unfold kp; omega))).tr (Keep.u (by unfold kp; omega))).tr (Keep.u (by unfold kp; omega))
    · refine ⟨-2, h, h, ?_, ?_, H⟩
      · simp only [h0, not_true_eq_false, if_false, and_self]
        by_cases q1 : 1 ≤ p1.toInt ∧ p1.toInt ≤ 20
        · by_cases q2 : 1 ≤ p2.toInt ∧ p2.toInt ≤ 20
          · have q3 : ¬ (1 ≤ p3.toInt ∧ p3.toInt ≤ 20) := fun q => h1 ⟨q1, q2, q⟩
            simp [q1, q2, q3]
          · simp [q1, q2]
        · simp [q1]
      · rw [if_neg (fun q => q h0), if_pos h1]
  · exact ⟨-1, h, h, by simp [h0], by simp [h0], H⟩
set_option maxRecDepth 10000 in
theorem st_sheet (p0 p1 p2 : Int32) : Sim (fX9_sheet_0 p0 p1 p2) (fX10_sheet_55 p0 p1 p2) := by
  intro h H
  obtain ⟨N, hG, hM, hN⟩ := H.1
  unfold fX9_sheet_0 fX10_sheet_55
  have e1 : (1 : Int64).toInt = 1 := rfl
  have e2 : (150 : Int64).toInt = 150 := rfl
  have e3 : (1 : Int32).toInt = 1 := rfl
  have e4 : (150 : Int32).toInt = 150 := rfl
  simp only [pe_isNumber, pe_mNumber, pe_isWithin, pe_in, Int32.toInt_toInt64, e1, e2, e3, e4, Option.bind_some, pz_i0]
  by_cases h0 : 0 ≤ p0.toInt ∧ p0.toInt < 6
  · by_cases h1 : (1 ≤ p1.toInt ∧ p1.toInt ≤ 150)
    · by_cases h2 : (1 ≤ p2.toInt ∧ p2.toInt ≤ 150)
      · obtain ⟨i, hi, rfl⟩ := pz_six h0
        obtain ⟨x, hx, rfl⟩ := pz_nat (n := 150) (by decide) (v := p1) (by omega)
        obtain ⟨y, hy, rfl⟩ := pz_nat (n := 150) (by decide) (v := p2) (by omega)
        have ex : (nI x).toInt = x := nI_toInt (by omega)
        have ey : (nI y).toInt = y := nI_toInt (by omega)
        simp only [h0, h1, h2, not_true_eq_false, if_false, and_self]
        rw [ex] at h1
        rw [ey] at h2
        have hb := pz_or (N 0 2) hN.1.2.2 i hi
        obtain ⟨g1, g2, g3⟩ := pv_putSh hi hG hM hN (x := x) (y := y) (by omega)
        have c1 : pv_put h 7 6 2 i (nI x) (nI y) 0 6 2 = nI (N 0 2 ||| 2 ^ i) := by
          rw [pv_put_at (by decide), if_pos ⟨rfl, rfl⟩, (rd_b hG).2.2, hb.1]
        have c2 : pv_putS (pv_put h 7 6 2 i (nI x) (nI y) 0) i (nI x) (nI y) 55 2 = nI (N 0 2 ||| 2 ^ i) := by
          rw [pv_putS_at, if_pos ⟨rfl, rfl⟩, pv_put_at (by decide), if_neg (by decide), if_neg (by simp), if_neg (by simp), if_neg (by simp), (rd_mb hM).2.2, hb.1]
        refine ⟨nI (pc (N 0 2 ||| 2 ^ i)), pv_put h 7 6 2 i (nI x) (nI y) 0, pv_putS (pv_put h 7 6 2 i (nI x) (nI y) 0) i (nI x) (nI y), ?_, ?_, ?_⟩
        · rw [pe_put6 hi, Option.bind_some, pe_count6 hb.2 c1]; rfl
        · rw [pe_putSheet hi, Option.bind_some, c2, pe_ones _ hb.2]; rfl
        · refine Keep.inv (h := h) ?_ H ⟨_, g1, g2, g3⟩
          refine Keep.tr (b := pv_put h 7 6 2 i (nI x) (nI y) 0) ?_ ?_
          · exact (((Keep.u (by unfold kp; omega)).tr (Keep.u (by unfold kp; omega))).tr (Keep.u (by unfold kp; omega))).tr (Keep.u (by unfold kp; omega))
          · exact ((Keep.u (by unfold kp; omega)).tr (Keep.u (by unfold kp; omega))).tr (Keep.u (by unfold kp; omega))
      · exact ⟨-2, h, h, by simp [h0, h1, h2], by simp [h0, h1, h2], H⟩
    · exact ⟨-2, h, h, by simp [h0, h1], by simp [h0, h1], H⟩
  · exact ⟨-1, h, h, by simp [h0], by simp [h0], H⟩
