/-! told -/
theorem pz_in {n M : Nat} (h : n < M) (hM : M < 2 ^ 31) : mv_in (nI n) M ∧ (nI n).toNatClampNeg = n := ⟨⟨nI_pos' (by omega), by rw [pz_clN (by omega)]; exact h⟩, pz_clN (by omega)⟩
def tS (N : Nat → Nat → Nat) (i s c : Nat) : Int32 :=
  if s = 0 ∧ c < 3 ∧ pbx (nI i) (N 0 0) = true then nI (N 1 (3 * i + c))
  else if s = 1 ∧ c < 3 ∧ pbx (nI i) (N 0 1) = true then nI (N 2 (3 * i + c))
  else if s = 2 ∧ c = 0 ∧ pbx (nI i) (N 0 2) = true then nI (N 3 i)
  else if s = 2 ∧ c = 1 ∧ pbx (nI i) (N 0 2) = true then nI (N 4 i) else -2
theorem pbx_lt {i n : Nat} (hn : n < 64) (hi : i < 2 ^ 31) (h : pbx (nI i) n = true) : i < 6 := by
  obtain ⟨j, hj, e, -⟩ := pbx_i hn h
  have := (nI_eq hi (by omega)).mp e
  omega
theorem pe_toldC {h : mv_H} {N : Nat → Nat → Nat} (hG : rdG h 1 N) (hN : okN N) (hc : pv_c h) {i k : Nat} (hi : i < 2 ^ 31) (hk : k < 100) : fX9_toldSide_0 (nI i) (nI k) h = some (tS N i (k / 10) (k % 10)) := by
  obtain ⟨c2, c4, c6, -, -⟩ := hc
  have d : nI k / 10 = nI (k / 10) := pk_div (d := 10) (by omega) (by decide) (by decide)
  have r : nI k - nI k / 10 * 10 = nI (k % 10) := pk_rem (d := 10) (by omega) (by decide) (by decide)
  unfold fX9_toldSide_0
  simp only [mv_let]
  rw [r, d]
  obtain ⟨s, es⟩ : ∃ s, s = k / 10 := ⟨_, rfl⟩
  obtain ⟨c, ec⟩ : ∃ c, c = k % 10 := ⟨_, rfl⟩
  rw [← es, ← ec]
  have hs : s < 10 := by omega
  have hc10 : c < 10 := by omega
  rw [pe_isWithin, Option.bind_some, nI_toInt (show s < 2 ^ 31 by omega)]
  simp only [pz_32, pz_i0]
  have z3 : (nI c < 3) = (c < 3) := pz_lt3 (y := 3) (show c < 2 ^ 31 by omega) (by decide)
  have z2 : (nI c < 2) = (c < 2) := pz_lt3 (y := 2) (show c < 2 ^ 31 by omega) (by decide)
  rcases (show s = 0 ∨ s = 1 ∨ s = 2 ∨ 3 ≤ s by omega) with rfl | rfl | rfl | h3
  · rw [if_neg (by omega)]
    simp only [fX1_shelf_1, pz_lit, if_true, Option.bind_some, pe_hb (rd_b hG).1, fX7_columns_2, c2, z3, pz_i0]
    by_cases p : pbx (nI i) (N 0 0) = true
    · have hi6 := pbx_lt hN.1.1 hi p
      by_cases q : c < 3
      · rw [if_neg (fun z => z p), if_pos q, pe_side2 hi6 q, rd_1 hG (by omega)]
        simp [tS, p, q]
      · rw [if_neg (fun z => z p), if_neg q]
        simp [tS, q]
    · simp [tS, p]
  · rw [if_neg (by omega)]
    simp only [fX1_shelf_1, pz_lit, Option.bind_some]
    simp only [show ¬ ((1 : Int32) = 0) by decide, if_false, if_true, Option.bind_some, show ¬ (4 = 2) by decide, pe_ht (rd_b hG).2.1, fX7_columns_4, c4, z3, pz_i0]
    by_cases p : pbx (nI i) (N 0 1) = true
    · have hi6 := pbx_lt hN.1.2.1 hi p
      by_cases q : c < 3
      · rw [if_neg (fun z => z p), if_pos q, pe_side4 hi6 q, rd_2 hG (by omega)]
        simp [tS, p, q]
      · rw [if_neg (fun z => z p), if_neg q]
        simp [tS, q]
    · simp [tS, p]
  · rw [if_neg (by omega)]
    simp only [fX1_shelf_1, pz_lit, Option.bind_some]
    simp only [show ¬ ((2 : Int32) = 0) by decide, show ¬ ((2 : Int32) = 1) by decide, if_false, if_true, Option.bind_some, show ¬ (6 = 2) by decide, show ¬ (6 = 4) by decide, pe_hs (rd_b hG).2.2, fX7_columns_6, c6, z2, pz_i0]
    by_cases p : pbx (nI i) (N 0 2) = true
    · have hi6 := pbx_lt hN.1.2.2 hi p
      by_cases q : c < 2
      · rw [if_neg (fun z => z p), if_pos q, pe_side6 hi6 (by omega)]
        rcases (show c = 0 ∨ c = 1 by omega) with rfl | rfl
        · rw [show 3 * i + 0 = 3 * i from rfl, rd_3 hG hi6]; simp [tS, p]
        · rw [rd_4 hG hi6]; simp [tS, p]
      · rw [if_neg (fun z => z p), if_neg q]
        have q0 : ¬ c = 0 := by omega
        have q1 : ¬ c = 1 := by omega
        simp [tS, q0, q1]
    · simp [tS, p]
  · rw [if_pos (by omega)]
    have q0 : ¬ s = 0 := by omega
    have q1 : ¬ s = 1 := by omega
    have q2 : ¬ s = 2 := by omega
    simp [tS, q0, q1, q2]
theorem pz_tl : (10 : Int64).toInt = 10 ∧ (12 : Int64).toInt = 12 ∧ (20 : Int64).toInt = 20 ∧ (21 : Int64).toInt = 21 ∧ (100 : Int64).toInt = 100 ∧ (699 : Int64).toInt = 699 := ⟨rfl, rfl, rfl, rfl, rfl, rfl⟩
theorem pe_toldM {h : mv_H} {N : Nat → Nat → Nat} (hM : rdM h N) (hN : okN N) {i k : Nat} (hi : i < 6) (hk : k < 100) : fX10_toldOf_55 (nI i) (nI k) h = some (tS N i (k / 10) (k % 10)) := by
  unfold fX10_toldOf_55
  simp only [pe_in, Int32.toInt_toInt64, nI_toInt (show k < 2 ^ 31 by omega), pz_64, pz_tl, Option.bind_some, pz_i0, pe_mb (rd_mb hM).1, pe_mt (rd_mb hM).2.1, pe_ms (rd_mb hM).2.2]
  have e1 : 3 * nI i + nI k = nI (3 * i + k) := by rw [show (3 : Int32) = nI 3 from rfl, pk_mul, nI_add]
  by_cases q0 : k < 3
  · have s0 : k / 10 = 0 := by omega
    have c0 : k % 10 = k := by omega
    obtain ⟨a1, a2⟩ := pz_in (n := 3 * i + k) (M := 18) (by omega) (by decide)
    have eb : h 56 (3 * i + k) = nI (N 1 (3 * i + k)) := rd_m hM (a := 1) (by decide) (by unfold vld; omega)
    rw [if_neg (by omega), e1, if_pos a1, a2, eb, s0, c0]
    by_cases p : pbx (nI i) (N 0 0) = true <;> simp [tS, p, q0]
  · rw [if_pos (by omega)]
    by_cases q1 : 10 ≤ k ∧ k < 13
    · have s0 : k / 10 = 1 := by omega
      have c0 : k % 10 = k - 10 := by omega
      have c3 : k - 10 < 3 := by omega
      obtain ⟨a1, a2⟩ := pz_in (n := 3 * i + k - 10) (M := 18) (by omega) (by decide)
      have e2 : nI (3 * i + k) - 10 = nI (3 * i + k - 10) := pk_sub (b := 10) (by omega)
      have eb : h 57 (3 * i + k - 10) = nI (N 2 (3 * i + (k - 10))) := by
        rw [show 3 * i + k - 10 = 3 * i + (k - 10) by omega]
        exact rd_m hM (a := 2) (by decide) (by unfold vld; omega)
      rw [if_neg (by omega), e1, e2, if_pos a1, a2, eb, s0, c0]
      by_cases p : pbx (nI i) (N 0 1) = true <;> simp [tS, p, c3]
    · rw [if_pos (by omega)]
      by_cases q2 : k = 20 ∨ k = 21
      · rw [if_neg (by omega)]
        obtain ⟨a1, a2, -⟩ := pz_i6 i hi
        simp only [if_pos a1, a2, (rd_m3 hM hi).1, (rd_m3 hM hi).2]
        rcases q2 with rfl | rfl
        · by_cases p : pbx (nI i) (N 0 2) = true <;> simp [tS, p, show nI 20 = 20 from rfl]
        · by_cases p : pbx (nI i) (N 0 2) = true <;> simp [tS, p, show ¬ nI 21 = 20 by decide]
      · rw [if_pos (by omega)]
        unfold tS
        rw [if_neg (by omega), if_neg (by omega), if_neg (by omega), if_neg (by omega)]
set_option maxRecDepth 10000 in
theorem st_told (p0 : Int32) : SimP (fX9_told_0 p0) (fX10_told_55 p0) := by
  intro h H
  obtain ⟨N, hG, hM, hN⟩ := H.1
  obtain ⟨n, s, hn, g1, g2, hs⟩ := H.2.2.1
  have e100 : (100 : Int32).toInt = 100 := rfl
  by_cases hl : p0 < 100
  · have hl' := hl
    rw [pz_lt, e100] at hl'
    have hin : ¬ (100 ≤ p0.toInt ∧ p0.toInt ≤ 699) := by omega
    have C : fX9_told_0 p0 h = some (if p0 = 0 then nI n else if p0 = 1 then nI (N 0 0) else if p0 = 2 then nI (N 0 1) else if p0 = 3 then nI (N 0 2) else if p0 = 4 then nI (N 0 3) else if p0 = 5 then nI (N 0 4) else if p0 = 6 then nI (N 0 5) else if p0 = 7 then nI (N 0 6) else if p0 = 8 then nI (N 0 7) else if p0 = 9 then nI (N 0 8) else -2) := by
      unfold fX9_told_0
      rw [if_pos hl]
      simp only [fX4_count_34, fX7_bits_2, fX7_bits_4, fX7_bits_6, fX1_setting_1, fX2_count_8, fX2_count_10, Option.bind_some, if_true, show ¬ ((1 : Int32) = 0) by decide, show ¬ ((2 : Int32) = 0) by decide, show ¬ ((2 : Int32) = 1) by decide, show ¬ ((3 : Int32) = 0) by decide, show ¬ ((3 : Int32) = 1) by decide, show ¬ ((3 : Int32) = 2) by decide, if_false, g1, (rd_b hG).1, (rd_b hG).2.1, (rd_b hG).2.2, (rd_s hG).1, (rd_s hG).2.1, (rd_s hG).2.2.1, (rd_s hG).2.2.2, (rd_f hG).1, (rd_f hG).2]
      simp only [apply_ite some]
    have M : fX10_told_55 p0 h = some (if p0 = 0 then nI n else if p0 = 1 then nI (N 0 0) else if p0 = 2 then nI (N 0 1) else if p0 = 3 then nI (N 0 2) else if p0 = 4 then nI (N 0 3) else if p0 = 5 then nI (N 0 4) else if p0 = 6 then nI (N 0 5) else if p0 = 7 then nI (N 0 6) else if p0 = 8 then nI (N 0 7) else if p0 = 9 then nI (N 0 8) else -2) := by
      unfold fX10_told_55
      rw [pe_in, Int32.toInt_toInt64, Option.bind_some]
      simp only [pz_tl, pz_i0]
      rw [if_pos hin]
      simp only [g2, (rd_mb hM).1, (rd_mb hM).2.1, (rd_mb hM).2.2, (rd_ms hM).1, (rd_ms hM).2.1, (rd_ms hM).2.2.1, (rd_ms hM).2.2.2, (rd_mf hM).1, (rd_mf hM).2]
      simp only [apply_ite some]
    exact ⟨_, C, M⟩
  · have hl' := hl
    rw [pz_lt, e100] at hl'
    obtain ⟨w, hw, rfl⟩ := nI_of (x := p0) (by rw [pz_lt]; show ¬ p0.toInt < 0; omega)
    rw [nI_toInt hw] at hl'
    have hw1 : 100 ≤ w := by omega
    have d : nI w / 100 = nI (w / 100) := pk_div (d := 100) hw (by decide) (by decide)
    have r : nI w - nI w / 100 * 100 = nI (w % 100) := pk_rem (d := 100) hw (by decide) (by decide)
    have d1 : nI (w / 100) - 1 = nI (w / 100 - 1) := pk_sub (b := 1) (by omega)
    have C : fX9_told_0 (nI w) h = some (tS N (w / 100 - 1) (w % 100 / 10) (w % 100 % 10)) := by
      unfold fX9_told_0
      rw [if_neg hl, r, d, d1, pe_toldC hG hN H.2.1 (by omega) (by omega)]; rfl
    refine ⟨_, C, ?_⟩
    unfold fX10_told_55
    rw [pe_in, Int32.toInt_toInt64, Option.bind_some, nI_toInt hw]
    simp only [pz_tl, pz_i0]
    by_cases q : w ≤ 699
    · rw [if_neg (by omega), r, d, d1, pe_toldM hM hN (by omega) (by omega)]; rfl
    · rw [if_pos (by omega)]
      have hp : ∀ n, n < 64 → ¬ pbx (nI (w / 100 - 1)) n = true := fun n hn z => by have := pbx_lt hn (by omega) z; omega
      have t : tS N (w / 100 - 1) (w % 100 / 10) (w % 100 % 10) = -2 := by
        unfold tS
        rw [if_neg (fun z => hp _ hN.1.1 z.2.2), if_neg (fun z => hp _ hN.1.2.1 z.2.2), if_neg (fun z => hp _ hN.1.2.2 z.2.2), if_neg (fun z => hp _ hN.1.2.2 z.2.2)]
      rw [t]
      have ne : ∀ j, j < 10 → ¬ nI w = nI j := fun j hj z => by have := (nI_eq hw (by omega)).mp z; omega
      rw [if_neg (show ¬ nI w = 0 from ne 0 (by decide)), if_neg (show ¬ nI w = 1 from ne 1 (by decide)), if_neg (show ¬ nI w = 2 from ne 2 (by decide)), if_neg (show ¬ nI w = 3 from ne 3 (by decide)), if_neg (show ¬ nI w = 4 from ne 4 (by decide)), if_neg (show ¬ nI w = 5 from ne 5 (by decide)), if_neg (show ¬ nI w = 6 from ne 6 (by decide)), if_neg (show ¬ nI w = 7 from ne 7 (by decide)), if_neg (show ¬ nI w = 8 from ne 8 (by decide)), if_neg (show ¬ nI w = 9 from ne 9 (by decide))]
