/-! calls: drop, set, say, wipe, mark, iron -/
theorem mv_u_self (h : mv_H) (o k : Nat) : mv_u h o k (h o k) = h := by
  funext o' k'
  rw [mv_u_at]
  by_cases e : o' = o ∧ k' = k
  · rw [if_pos e, e.1, e.2]
  · rw [if_neg e]
theorem mv_u_id {h : mv_H} {o k : Nat} {v : Int32} (e : h o k = v) : mv_u h o k v = h := by rw [← e]; exact mv_u_self h o k
theorem pz_and1 (x : Int32) : x &&& (-1) = x := by
  apply Int32.toBitVec_inj.mp
  simp
theorem okN_up {N : Nat → Nat → Nat} (hN : okN N) {j n : Nat} (hj : 3 ≤ j ∧ j < 9) (hb : (j = 3 → n ≤ 9) ∧ (j = 4 → n ≤ 9) ∧ (j = 5 → 1 ≤ n ∧ n ≤ 40) ∧ (j = 6 → n ≤ 60) ∧ (j = 7 → n ≤ 6) ∧ (j = 8 → n ≤ 6)) : okN (upN N 0 j n) := by
  obtain ⟨⟨b1, b2, b3⟩, ⟨s1, s2, s3, s4, s5⟩, ⟨m1, m2⟩, x1, x2, x3, pb, ps⟩ := hN
  rcases (show j = 3 ∨ j = 4 ∨ j = 5 ∨ j = 6 ∨ j = 7 ∨ j = 8 by omega) with rfl | rfl | rfl | rfl | rfl | rfl <;> simp at hb <;> simp [okN, upN] <;> (refine ⟨?_, ?_, ?_, x1, x2, x3, pb, ps⟩ <;> omega)
theorem okN_del {N : Nat → Nat → Nat} (hN : okN N) {j i : Nat} (hj : j < 3) (hi : i < 6) : okN (upN N 0 j (N 0 j - (N 0 j &&& 2 ^ i))) := by
  obtain ⟨⟨b1, b2, b3⟩, s, m, x1, x2, x3, pb, ps⟩ := hN
  rcases (show j = 0 ∨ j = 1 ∨ j = 2 by omega) with rfl | rfl | rfl
  · have hd := pz_del (N 0 0) b1 i hi
    have ht := pz_delT (N 0 0) b1 i hi
    simp [okN, upN]
    refine ⟨⟨hd.2, b2, b3⟩, s, m, x1, x2, x3, fun k hk hb j hj => ?_, ps⟩
    rw [ht k hk] at hb
    exact pb k hk (by simp at hb; exact hb.1) j hj
  · have hd := pz_del (N 0 1) b2 i hi
    simp [okN, upN]
    exact ⟨⟨b1, hd.2, b3⟩, s, m, x1, x2, x3, pb, ps⟩
  · have hd := pz_del (N 0 2) b3 i hi
    have ht := pz_delT (N 0 2) b3 i hi
    simp [okN, upN]
    refine ⟨⟨b1, b2, hd.2⟩, s, m, x1, x2, x3, pb, fun k hk hb => ?_⟩
    rw [ht k hk] at hb
    exact ps k hk (by simp at hb; exact hb.1)
theorem okN_F {N : Nat → Nat → Nat} (hN : okN N) {a i n : Nat} (ha : a = 5 ∨ a = 6) (hn : n ≤ 150) (hn6 : a = 6 → n ≤ 90) : okN (upN N a i n) := by
  obtain ⟨b, s, m, x1, x2, ⟨f1, f2⟩, pb, ps⟩ := hN
  rcases ha with rfl | rfl
  · simp [okN, upN]
    refine ⟨b, s, m, x1, x2, ⟨fun k hk => ?_, f2⟩, pb, ps⟩
    have := f1 k hk
    split <;> omega
  · simp [okN, upN]
    refine ⟨b, s, m, x1, x2, ⟨f1, fun k hk => ?_⟩, pb, ps⟩
    have := f2 k hk
    have := hn6 rfl
    split <;> omega
theorem pe_rm2 {i : Nat} (hi : i < 6) (h : mv_H) : fX7_remove_2 (nI i) h = some (mv_u h 2 2 (h 2 2 &&& (1 <<< (nI i &&& 31) ^^^ (-1)))) := by
  unfold fX7_remove_2
  rw [pe_isNumber, Option.bind_some, if_neg (by rw [pz_i0, (pz_i6 i hi).2.2]; omega)]; rfl
theorem pe_rm4 {i : Nat} (hi : i < 6) (h : mv_H) : fX7_remove_4 (nI i) h = some (mv_u h 4 2 (h 4 2 &&& (1 <<< (nI i &&& 31) ^^^ (-1)))) := by
  unfold fX7_remove_4
  rw [pe_isNumber, Option.bind_some, if_neg (by rw [pz_i0, (pz_i6 i hi).2.2]; omega)]; rfl
theorem pe_rm6 {i : Nat} (hi : i < 6) (h : mv_H) : fX7_remove_6 (nI i) h = some (mv_u h 6 2 (h 6 2 &&& (1 <<< (nI i &&& 31) ^^^ (-1)))) := by
  unfold fX7_remove_6
  rw [pe_isNumber, Option.bind_some, if_neg (by rw [pz_i0, (pz_i6 i hi).2.2]; omega)]; rfl
theorem pz_three {v : Int32} (h : 0 ≤ v.toInt ∧ v.toInt ≤ 2) : v = 0 ∨ v = 1 ∨ v = 2 := by
  obtain ⟨i, hi, rfl⟩ := pz_nat (n := 2) (by decide) h
  rcases (show i = 0 ∨ i = 1 ∨ i = 2 by omega) with rfl | rfl | rfl
  · exact Or.inl rfl
  · exact Or.inr (Or.inl rfl)
  · exact Or.inr (Or.inr rfl)
theorem pz_32 : (0 : Int32).toInt = 0 ∧ (1 : Int32).toInt = 1 ∧ (2 : Int32).toInt = 2 ∧ (3 : Int32).toInt = 3 := ⟨rfl, rfl, rfl, rfl⟩
theorem pz_64 : (0 : Int64).toInt = 0 ∧ (1 : Int64).toInt = 1 ∧ (2 : Int64).toInt = 2 ∧ (3 : Int64).toInt = 3 := ⟨rfl, rfl, rfl, rfl⟩
set_option maxHeartbeats 400000 in
set_option maxRecDepth 10000 in
theorem st_drop (p0 p1 : Int32) : Sim (fX9_drop_0 p0 p1) (fX10_drop_55 p0 p1) := by
  intro h H
  obtain ⟨N, hG, hM, hN⟩ := H.1
  by_cases h0 : 0 ≤ p0.toInt ∧ p0.toInt ≤ 2
  · rcases pz_three h0 with rfl | rfl | rfl
    · by_cases h1 : (0 ≤ p1.toInt ∧ p1.toInt < 6) ∧ (nI (N 0 0) >>> (p1 &&& 31)) &&& 1 = 1
      · obtain ⟨i, hi, rfl⟩ := pz_six h1.1
        have hd := pz_del (N 0 0) hN.1.1 i hi
        have hd' := hd.1
        simp at hd'
        refine ⟨nI (pc (N 0 0 - (N 0 0 &&& 2 ^ i))), mv_u h 2 2 (nI (N 0 0 - (N 0 0 &&& 2 ^ i))), mv_u (mv_u h 2 2 (nI (N 0 0 - (N 0 0 &&& 2 ^ i)))) 55 0 (nI (N 0 0 - (N 0 0 &&& 2 ^ i))), ?_, ?_, ?_⟩
        · have hc := pe_count2 (h := mv_u h 2 2 (nI (N 0 0 - (N 0 0 &&& 2 ^ i)))) hd.2 (by rw [mv_u_at, if_pos ⟨rfl, rfl⟩])
          simp [fX9_drop_0, pe_isWithin, pz_32, fX1_shelf_1, pe_has2, (rd_b hG).1, h1, pe_rm2 hi, hd', hc]
        · have eM : mv_u h 2 2 (nI (N 0 0 - (N 0 0 &&& 2 ^ i))) 55 0 = nI (N 0 0) := by rw [mv_u_at, if_neg (by decide), (rd_mb hM).1]
          simp only [fX10_drop_55, fX10_drop_55_b45, fX10_drop_55_b70, fX10_drop_55_b93, fX10_drop_55_b116, fX10_drop_55_b147, mv_let, pz_and1, mv_u_self]
          simp [pe_in, pz_64, pz_32, pe_isBox, eM, h1, hd', mv_u_at, pe_ones _ hd.2]
        · have hs := pv_set1 (j := 0) (n := N 0 0 - (N 0 0 &&& 2 ^ i)) (by decide) hG hM
          exact Keep.inv (h := h) ((Keep.u (by unfold kp; omega)).tr (Keep.u (by unfold kp; omega))) H ⟨_, hs.1, hs.2, okN_del hN (by decide) hi⟩
      · refine ⟨-1, h, h, ?_, ?_, H⟩
        · simp [fX9_drop_0, pe_isWithin, pz_32, fX1_shelf_1, pe_has2, (rd_b hG).1, h1]
        · simp [fX10_drop_55, pe_in, pz_64, pz_32, pe_isBox, (rd_mb hM).1, h1, fX10_drop_55_b45]
    · by_cases h1 : (0 ≤ p1.toInt ∧ p1.toInt < 6) ∧ (nI (N 0 1) >>> (p1 &&& 31)) &&& 1 = 1
      · obtain ⟨i, hi, rfl⟩ := pz_six h1.1
        have hd := pz_del (N 0 1) hN.1.2.1 i hi
        have hd' := hd.1
        simp at hd'
        refine ⟨nI (pc (N 0 1 - (N 0 1 &&& 2 ^ i))), mv_u h 4 2 (nI (N 0 1 - (N 0 1 &&& 2 ^ i))), mv_u (mv_u h 4 2 (nI (N 0 1 - (N 0 1 &&& 2 ^ i)))) 55 1 (nI (N 0 1 - (N 0 1 &&& 2 ^ i))), ?_, ?_, ?_⟩
        · have hc := pe_count4 (h := mv_u h 4 2 (nI (N 0 1 - (N 0 1 &&& 2 ^ i)))) hd.2 (by rw [mv_u_at, if_pos ⟨rfl, rfl⟩])
          simp [fX9_drop_0, pe_isWithin, pz_32, fX1_shelf_1, pe_has4, (rd_b hG).2.1, h1, pe_rm4 hi, hd', hc]
        · have eM : mv_u h 4 2 (nI (N 0 1 - (N 0 1 &&& 2 ^ i))) 55 1 = nI (N 0 1) := by rw [mv_u_at, if_neg (by decide), (rd_mb hM).2.1]
          simp only [fX10_drop_55, fX10_drop_55_b45, fX10_drop_55_b70, fX10_drop_55_b93, fX10_drop_55_b116, fX10_drop_55_b147, mv_let, pz_and1, mv_u_self]
          simp [pe_in, pz_64, pz_32, pe_isThing, eM, h1, hd', mv_u_at, pe_ones _ hd.2]
        · have hs := pv_set1 (j := 1) (n := N 0 1 - (N 0 1 &&& 2 ^ i)) (by decide) hG hM
          exact Keep.inv (h := h) ((Keep.u (by unfold kp; omega)).tr (Keep.u (by unfold kp; omega))) H ⟨_, hs.1, hs.2, okN_del hN (by decide) hi⟩
      · refine ⟨-1, h, h, ?_, ?_, H⟩
        · simp [fX9_drop_0, pe_isWithin, pz_32, fX1_shelf_1, pe_has4, (rd_b hG).2.1, h1]
        · simp [fX10_drop_55, pe_in, pz_64, pz_32, pe_isThing, (rd_mb hM).2.1, h1, fX10_drop_55_b45]
    · by_cases h1 : (0 ≤ p1.toInt ∧ p1.toInt < 6) ∧ (nI (N 0 2) >>> (p1 &&& 31)) &&& 1 = 1
      · obtain ⟨i, hi, rfl⟩ := pz_six h1.1
        have hd := pz_del (N 0 2) hN.1.2.2 i hi
        have hd' := hd.1
        simp at hd'
        refine ⟨nI (pc (N 0 2 - (N 0 2 &&& 2 ^ i))), mv_u h 6 2 (nI (N 0 2 - (N 0 2 &&& 2 ^ i))), mv_u (mv_u h 6 2 (nI (N 0 2 - (N 0 2 &&& 2 ^ i)))) 55 2 (nI (N 0 2 - (N 0 2 &&& 2 ^ i))), ?_, ?_, ?_⟩
        · have hc := pe_count6 (h := mv_u h 6 2 (nI (N 0 2 - (N 0 2 &&& 2 ^ i)))) hd.2 (by rw [mv_u_at, if_pos ⟨rfl, rfl⟩])
          simp [fX9_drop_0, pe_isWithin, pz_32, fX1_shelf_1, pe_has6, (rd_b hG).2.2, h1, pe_rm6 hi, hd', hc]
        · have eM : mv_u h 6 2 (nI (N 0 2 - (N 0 2 &&& 2 ^ i))) 55 2 = nI (N 0 2) := by rw [mv_u_at, if_neg (by decide), (rd_mb hM).2.2]
          simp only [fX10_drop_55, fX10_drop_55_b45, fX10_drop_55_b70, fX10_drop_55_b93, fX10_drop_55_b116, fX10_drop_55_b147, mv_let, pz_and1, mv_u_self]
          simp [pe_in, pz_64, pz_32, pe_isSheet, eM, h1, hd', mv_u_at, pe_ones _ hd.2]
        · have hs := pv_set1 (j := 2) (n := N 0 2 - (N 0 2 &&& 2 ^ i)) (by decide) hG hM
          exact Keep.inv (h := h) ((Keep.u (by unfold kp; omega)).tr (Keep.u (by unfold kp; omega))) H ⟨_, hs.1, hs.2, okN_del hN (by decide) hi⟩
      · refine ⟨-1, h, h, ?_, ?_, H⟩
        · simp [fX9_drop_0, pe_isWithin, pz_32, fX1_shelf_1, pe_has6, (rd_b hG).2.2, h1]
        · simp [fX10_drop_55, pe_in, pz_64, pz_32, pe_isSheet, (rd_mb hM).2.2, h1, fX10_drop_55_b45]
  · refine ⟨-2, h, h, ?_, ?_, H⟩
    · unfold fX9_drop_0
      rw [pe_isWithin, Option.bind_some, if_pos (by rw [pz_i0]; exact h0)]
    · unfold fX10_drop_55
      rw [pe_in, Option.bind_some, if_pos (by rw [pz_i0, Int32.toInt_toInt64]; exact h0)]
