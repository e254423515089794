/-! calls: set, say, wipe, mark, iron -/
theorem pz_four {v : Int32} (h : 0 ≤ v.toInt ∧ v.toInt ≤ 3) : v = 0 ∨ v = 1 ∨ v = 2 ∨ v = 3 := by
  obtain ⟨i, hi, rfl⟩ := pz_nat (n := 3) (by decide) h
  rcases (show i = 0 ∨ i = 1 ∨ i = 2 ∨ i = 3 by omega) with rfl | rfl | rfl | rfl
  · exact Or.inl rfl
  · exact Or.inr (Or.inl rfl)
  · exact Or.inr (Or.inr (Or.inl rfl))
  · exact Or.inr (Or.inr (Or.inr rfl))
theorem pz_c : (0 : Int32).toNatClampNeg = 0 ∧ (1 : Int32).toNatClampNeg = 1 ∧ (2 : Int32).toNatClampNeg = 2 ∧ (3 : Int32).toNatClampNeg = 3 := ⟨rfl, rfl, rfl, rfl⟩
theorem pz_big : (9 : Int32).toInt = 9 ∧ (40 : Int32).toInt = 40 ∧ (60 : Int32).toInt = 60 ∧ (33 : Int32).toInt = 33 ∧ (126 : Int32).toInt = 126 ∧ (150 : Int32).toInt = 150 ∧ (90 : Int32).toInt = 90 ∧ (6 : Int32).toInt = 6 := ⟨rfl, rfl, rfl, rfl, rfl, rfl, rfl, rfl⟩
theorem pz_big64 : (33 : Int64).toInt = 33 ∧ (126 : Int64).toInt = 126 ∧ (150 : Int64).toInt = 150 ∧ (90 : Int64).toInt = 90 := ⟨rfl, rfl, rfl, rfl⟩
set_option maxRecDepth 10000 in
theorem st_set (p0 p1 : Int32) : Sim (fX9_set_0 p0 p1) (fX10_set_55 p0 p1) := by
  intro h H
  obtain ⟨N, hG, hM, hN⟩ := H.1
  by_cases h0 : 0 ≤ p0.toInt ∧ p0.toInt ≤ 3
  · rcases pz_four h0 with rfl | rfl | rfl | rfl
    · by_cases h1 : 0 ≤ p1.toInt ∧ p1.toInt ≤ 9
      · obtain ⟨n, hn, rfl⟩ := pz_nat (n := 9) (by decide) (v := p1) (by omega)
        have en : (nI n).toInt = n := nI_toInt (by omega)
        refine ⟨nI (N 0 3), mv_u h 1 5 (nI n), mv_u (mv_u h 1 5 (nI n)) 55 7 (nI n), ?_, ?_, ?_⟩
        · simp [fX9_set_0, pe_isWithin, pz_32, pz_c, pz_big, mv_in, mv_least, mv_most, h1, fX1_setting_1, fX1_change_1, mv_let, (rd_s hG).1]
        · have eM : mv_u h 1 5 (nI n) 55 7 = nI (N 0 3) := by rw [mv_u_at, if_neg (by decide), (rd_ms hM).1]
          simp only [fX10_set_55, fX10_set_55_b22, fX10_set_55_b47, fX10_set_55_b97, fX10_set_55_b112, fX10_set_55_b129, fX10_set_55_b146, fX10_set_55_b163, mv_let, mv_u_self]
          simp [pe_in, pz_64, pz_32, pz_big, h1, eM]
        · have hs := pv_set1 (j := 3) (n := n) (by decide) hG hM
          exact Keep.inv (h := h) ((Keep.u (by unfold kp; omega)).tr (Keep.u (by unfold kp; omega))) H ⟨_, hs.1, hs.2, okN_up hN (by decide) (by omega)⟩
      · refine ⟨-2, h, h, ?_, ?_, H⟩
        · simp [fX9_set_0, pe_isWithin, pz_32, pz_c, pz_big, mv_in, mv_least, mv_most, h1]
        · simp only [fX10_set_55, fX10_set_55_b22, fX10_set_55_b47, fX10_set_55_b97, fX10_set_55_b112, fX10_set_55_b129, fX10_set_55_b146, fX10_set_55_b163, mv_let, mv_u_self]
          simp [pe_in, pz_64, pz_32, pz_big, h1]
    · by_cases h1 : 0 ≤ p1.toInt ∧ p1.toInt ≤ 9
      · obtain ⟨n, hn, rfl⟩ := pz_nat (n := 9) (by decide) (v := p1) (by omega)
        have en : (nI n).toInt = n := nI_toInt (by omega)
        refine ⟨nI (N 0 4), mv_u h 1 6 (nI n), mv_u (mv_u h 1 6 (nI n)) 55 8 (nI n), ?_, ?_, ?_⟩
        · simp [fX9_set_0, pe_isWithin, pz_32, pz_c, pz_big, mv_in, mv_least, mv_most, h1, fX1_setting_1, fX1_change_1, mv_let, (rd_s hG).2.1]
        · have eM : mv_u h 1 6 (nI n) 55 8 = nI (N 0 4) := by rw [mv_u_at, if_neg (by decide), (rd_ms hM).2.1]
          simp only [fX10_set_55, fX10_set_55_b22, fX10_set_55_b47, fX10_set_55_b97, fX10_set_55_b112, fX10_set_55_b129, fX10_set_55_b146, fX10_set_55_b163, mv_let, mv_u_self]
          simp [pe_in, pz_64, pz_32, pz_big, h1, eM]
        · have hs := pv_set1 (j := 4) (n := n) (by decide) hG hM
          exact Keep.inv (h := h) ((Keep.u (by unfold kp; omega)).tr (Keep.u (by unfold kp; omega))) H ⟨_, hs.1, hs.2, okN_up hN (by decide) (by omega)⟩
      · refine ⟨-2, h, h, ?_, ?_, H⟩
        · simp [fX9_set_0, pe_isWithin, pz_32, pz_c, pz_big, mv_in, mv_least, mv_most, h1]
        · simp only [fX10_set_55, fX10_set_55_b22, fX10_set_55_b47, fX10_set_55_b97, fX10_set_55_b112, fX10_set_55_b129, fX10_set_55_b146, fX10_set_55_b163, mv_let, mv_u_self]
          simp [pe_in, pz_64, pz_32, pz_big, h1]
    · by_cases h1 : 1 ≤ p1.toInt ∧ p1.toInt ≤ 40
      · obtain ⟨n, hn, rfl⟩ := pz_nat (n := 40) (by decide) (v := p1) (by omega)
        have en : (nI n).toInt = n := nI_toInt (by omega)
        refine ⟨nI (N 0 5), mv_u h 1 7 (nI n), mv_u (mv_u h 1 7 (nI n)) 55 9 (nI n), ?_, ?_, ?_⟩
        · simp [fX9_set_0, pe_isWithin, pz_32, pz_c, pz_big, mv_in, mv_least, mv_most, h1, fX1_setting_1, fX1_change_1, mv_let, (rd_s hG).2.2.1]
        · have eM : mv_u h 1 7 (nI n) 55 9 = nI (N 0 5) := by rw [mv_u_at, if_neg (by decide), (rd_ms hM).2.2.1]
          simp only [fX10_set_55, fX10_set_55_b22, fX10_set_55_b47, fX10_set_55_b97, fX10_set_55_b112, fX10_set_55_b129, fX10_set_55_b146, fX10_set_55_b163, mv_let, mv_u_self]
          simp [pe_in, pz_64, pz_32, pz_big, h1, eM]
        · have hs := pv_set1 (j := 5) (n := n) (by decide) hG hM
          exact Keep.inv (h := h) ((Keep.u (by unfold kp; omega)).tr (Keep.u (by unfold kp; omega))) H ⟨_, hs.1, hs.2, okN_up hN (by decide) (by omega)⟩
      · refine ⟨-2, h, h, ?_, ?_, H⟩
        · simp [fX9_set_0, pe_isWithin, pz_32, pz_c, pz_big, mv_in, mv_least, mv_most, h1]
        · simp only [fX10_set_55, fX10_set_55_b22, fX10_set_55_b47, fX10_set_55_b97, fX10_set_55_b112, fX10_set_55_b129, fX10_set_55_b146, fX10_set_55_b163, mv_let, mv_u_self]
          simp [pe_in, pz_64, pz_32, pz_big, h1]
    · by_cases h1 : 0 ≤ p1.toInt ∧ p1.toInt ≤ 60
      · obtain ⟨n, hn, rfl⟩ := pz_nat (n := 60) (by decide) (v := p1) (by omega)
        have en : (nI n).toInt = n := nI_toInt (by omega)
        refine ⟨nI (N 0 6), mv_u h 1 8 (nI n), mv_u (mv_u h 1 8 (nI n)) 55 10 (nI n), ?_, ?_, ?_⟩
        · simp [fX9_set_0, pe_isWithin, pz_32, pz_c, pz_big, mv_in, mv_least, mv_most, h1, fX1_setting_1, fX1_change_1, mv_let, (rd_s hG).2.2.2]
        · have eM : mv_u h 1 8 (nI n) 55 10 = nI (N 0 6) := by rw [mv_u_at, if_neg (by decide), (rd_ms hM).2.2.2]
          simp only [fX10_set_55, fX10_set_55_b22, fX10_set_55_b47, fX10_set_55_b97, fX10_set_55_b112, fX10_set_55_b129, fX10_set_55_b146, fX10_set_55_b163, mv_let, mv_u_self]
          simp [pe_in, pz_64, pz_32, pz_big, h1, eM]
        · have hs := pv_set1 (j := 6) (n := n) (by decide) hG hM
          exact Keep.inv (h := h) ((Keep.u (by unfold kp; omega)).tr (Keep.u (by unfold kp; omega))) H ⟨_, hs.1, hs.2, okN_up hN (by decide) (by omega)⟩
      · refine ⟨-2, h, h, ?_, ?_, H⟩
        · simp [fX9_set_0, pe_isWithin, pz_32, pz_c, pz_big, mv_in, mv_least, mv_most, h1]
        · simp only [fX10_set_55, fX10_set_55_b22, fX10_set_55_b47, fX10_set_55_b97, fX10_set_55_b112, fX10_set_55_b129, fX10_set_55_b146, fX10_set_55_b163, mv_let, mv_u_self]
          simp [pe_in, pz_64, pz_32, pz_big, h1]
  · refine ⟨-2, h, h, ?_, ?_, H⟩
    · unfold fX9_set_0
      rw [pe_isWithin, Option.bind_some, if_pos (by rw [pz_i0]; exact h0)]
    · have e : ∀ s0, fX10_set_55_b22 p0 p1 s0 h = some (-2, h) := fun s0 => by
        unfold fX10_set_55_b22
        rw [pe_in, Option.bind_some, if_pos (by rw [pz_i0, Int32.toInt_toInt64]; exact h0)]
      unfold fX10_set_55
      rw [e, e, e]
      simp
theorem pz_clN {n : Nat} (h : n < 2 ^ 31) : (nI n).toNatClampNeg = n := nI_clamp h
set_option maxRecDepth 10000 in
theorem st_say (p0 : Int32) : Sim (fX9_say_0 p0) (fX10_say_55 p0) := by
  intro h H
  obtain ⟨n, s, hn, h1, h2, hs⟩ := H.2.2.1
  by_cases h0 : 33 ≤ p0.toInt ∧ p0.toInt ≤ 126
  · by_cases hf : n = 60
    · subst hf
      refine ⟨-4, h, h, ?_, ?_, H⟩
      · simp [fX9_say_0, pe_isWithin, pz_big, h0, fX4_add_34, h1, show ¬ nI 60 < 0 by decide, show ¬ nI 60 < 60 by decide]
      · simp [fX10_say_55, pe_in, pz_big64, h0, h2, show nI 60 = 60 from rfl]
    · obtain ⟨v, hv, rfl⟩ := pz_nat (n := 126) (by decide) (v := p0) (by omega)
      have ev : (nI v).toInt = v := nI_toInt (by omega)
      have hl : n < 60 := by omega
      have g1 : ¬ nI n < 0 := nI_pos (by omega)
      have g2 : nI n < 60 := nI_lt hl (by decide)
      have g3 : mv_in (nI n) 60 := ⟨nI_pos' (by omega), by rw [pz_clN (by omega)]; exact hl⟩
      have g4 : ¬ nI n = 60 := fun q => hf ((nI_eq (by omega) (by decide)).mp q)
      have g5 : nI n + 1 = nI (n + 1) := nI_1 n
      have g6 : ¬ nI (n + 1) = 0 := nI_ne0 (by omega) (by omega)
      refine ⟨nI (n + 1), mv_u (mv_u h 35 n (nI v)) 34 1 (nI (n + 1)), mv_u (mv_u (mv_u (mv_u h 35 n (nI v)) 34 1 (nI (n + 1))) 62 n (nI v)) 55 16 (nI (n + 1)), ?_, ?_, ?_⟩
      · simp [fX9_say_0, pe_isWithin, pz_big, h0, fX4_add_34, h1, g1, g2, mv_let, pz_clN (show n < 2 ^ 31 by omega), mv_u_at, g5, fX4_count_34]
        rw [if_pos g3]
        simp [mv_u_at]
      · have eM : mv_u (mv_u h 35 n (nI v)) 34 1 (nI (n + 1)) 55 16 = nI n := by rw [mv_u_at, if_neg (by decide), mv_u_at, if_neg (by omega), h2]
        simp [fX10_say_55, pe_in, pz_big64, h0, eM, g4, g3, hl, mv_let, pz_clN (show n < 2 ^ 31 by omega), mv_u_at, h2, g5]
      · refine pv_padinv (h := h) (fun o k q1 q2 => ?_) H ⟨n + 1, fun i => if i = n then v else s i, by omega, ?_, ?_, fun i hi => ?_⟩
        · unfold pd at q2
          rw [mv_u_at, if_neg (by omega), mv_u_at, if_neg (by omega), mv_u_at, if_neg (by omega), mv_u_at, if_neg (by omega)]
        · rw [mv_u_at, if_neg (by omega), mv_u_at, if_neg (by omega), mv_u_at, if_pos ⟨rfl, rfl⟩]
        · rw [mv_u_at, if_pos ⟨rfl, rfl⟩]
        · rw [ev] at h0
          by_cases e : i = n
          · subst e
            simp only [mv_u_at]
            simp
            omega
          · have hi' := hs i (by omega)
            simp only [mv_u_at]
            simp [e]
            exact hi'
  · refine ⟨-2, h, h, ?_, ?_, H⟩
    · simp [fX9_say_0, pe_isWithin, pz_big, h0]
    · simp [fX10_say_55, pe_in, pz_big64, h0]
set_option maxRecDepth 10000 in
theorem st_wipe : Sim fX9_wipe_0 fX10_wipe_55 := by
  intro h H
  obtain ⟨n, s, hn, h1, h2, hs⟩ := H.2.2.1
  refine ⟨nI n, mv_u h 34 1 0, mv_u (mv_u h 34 1 0) 55 16 0, ?_, ?_, ?_⟩
  · simp [fX9_wipe_0, fX4_count_34, fX4_clear_34, mv_let, h1]
  · simp [fX10_wipe_55, mv_let, mv_u_at, h2]
  · refine pv_padinv (h := h) (fun o k q1 q2 => ?_) H ⟨0, s, by omega, ?_, ?_, fun i hi => absurd hi (by omega)⟩
    · unfold pd at q2
      rw [mv_u_at, if_neg (by omega), mv_u_at, if_neg (by omega)]
    · rw [mv_u_at, if_neg (by omega), mv_u_at, if_pos ⟨rfl, rfl⟩]; rfl
    · rw [mv_u_at, if_pos ⟨rfl, rfl⟩]; rfl
theorem pz_two {v : Int32} (h : 0 ≤ v.toInt ∧ v.toInt ≤ 1) : v = 0 ∨ v = 1 := by
  obtain ⟨i, hi, rfl⟩ := pz_nat (n := 1) (by decide) h
  rcases (show i = 0 ∨ i = 1 by omega) with rfl | rfl
  · exact Or.inl rfl
  · exact Or.inr rfl
set_option maxRecDepth 10000 in
theorem st_mark (p0 p1 : Int32) : Sim (fX9_mark_0 p0 p1) (fX10_mark_55 p0 p1) := by
  intro h H
  obtain ⟨N, hG, hM, hN⟩ := H.1
  obtain ⟨-, -, -, cf, cc⟩ := H.2.1
  by_cases h0 : 0 ≤ p0.toInt ∧ p0.toInt ≤ 1
  · rcases pz_two h0 with rfl | rfl
    · by_cases h1 : 0 ≤ p1.toInt ∧ p1.toInt ≤ 150
      · by_cases hf : N 0 7 = 6
        · refine ⟨-4, h, h, ?_, ?_, H⟩
          · simp [fX9_mark_0, pe_isWithin, pz_32, pz_big, fX1_marks_1, fX2_farthest_8, cf, h1, fX2_add_8, (rd_f hG).1, hf, show ¬ nI 6 < 0 by decide, show ¬ nI 6 < 6 by decide]
          · simp only [fX10_mark_55, fX10_mark_55_b26, fX10_mark_55_b50, mv_let]
            simp [pe_in, pz_64, pz_32, pz_big64, h1, (rd_mf hM).1, hf, show nI 6 = 6 from rfl]
        · obtain ⟨v, hv, rfl⟩ := pz_nat (n := 150) (by decide) (v := p1) (by omega)
          obtain ⟨n, en⟩ : ∃ n, n = N 0 7 := ⟨_, rfl⟩
          have hl : n < 6 := by have := hN.2.2.1.1; omega
          have g1 : ¬ nI n < 0 := nI_pos (by omega)
          have g2 : nI n < 6 := nI_lt hl (by decide)
          have g3 : mv_in (nI n) 6 := (pz_i6 n hl).1
          have g4 : ¬ nI n = 6 := fun q => hf (en ▸ (nI_eq (by omega) (by decide)).mp q)
          have g5 : nI n + 1 = nI (n + 1) := nI_1 n
          have c1 : h 8 2 = nI n := by rw [(rd_f hG).1, en]
          have c2 : h 55 12 = nI n := by rw [(rd_mf hM).1, en]
          refine ⟨nI (n + 1), mv_u (mv_u h 9 n (nI v)) 8 2 (nI (n + 1)), mv_u (mv_u (mv_u (mv_u h 9 n (nI v)) 8 2 (nI (n + 1))) 60 n (nI v)) 55 12 (nI (n + 1)), ?_, ?_, ?_⟩
          · simp [fX9_mark_0, pe_isWithin, pz_32, pz_big, fX1_marks_1, fX2_farthest_8, cf, h1, fX2_add_8, c1, g1, g2, mv_let, pz_clN (show n < 2 ^ 31 by omega), mv_u_at, g5, fX2_count_8]
            rw [if_pos g3]
            simp [mv_u_at]
            intro q
            exact absurd q (by omega)
          · have eM : mv_u (mv_u h 9 n (nI v)) 8 2 (nI (n + 1)) 55 12 = nI n := by rw [mv_u_at, if_neg (by decide), mv_u_at, if_neg (by omega), c2]
            simp only [fX10_mark_55, fX10_mark_55_b26, fX10_mark_55_b50, mv_let]
            simp [pe_in, pz_64, pz_32, pz_big64, h1, eM, g4, g3, hl, pz_clN (show n < 2 ^ 31 by omega), mv_u_at, c2, g5]
          · have hs := pv_setF (a := 5) (i := n) (n := v) (by decide) hl hG hM
            have hk := okN_F hN (a := 5) (i := n) (n := v) (by decide) (by omega) (by omega)
            have ht := pv_set1 (j := 7) (n := n + 1) (by decide) hs.1 hs.2
            have e9 : mv_u (mv_u (mv_u (mv_u h 9 n (nI v)) 8 2 (nI (n + 1))) 60 n (nI v)) 55 12 (nI (n + 1)) = mv_u (mv_u (mv_u (mv_u h 9 n (nI v)) 60 n (nI v)) 8 2 (nI (n + 1))) 55 12 (nI (n + 1)) := by
              funext o k
              simp only [mv_u_at]
              by_cases q1 : o = 55 ∧ k = 12
              · simp [q1]
              · by_cases q2 : o = 60 ∧ k = n
                · simp [q2]
                · simp [q1, q2]
            rw [e9]
            exact Keep.inv (h := h) ((((Keep.u (by unfold kp; omega)).tr (Keep.u (by unfold kp; omega))).tr (Keep.u (by unfold kp; omega))).tr (Keep.u (by unfold kp; omega))) H ⟨_, ht.1, ht.2, okN_up hk (by decide) (by omega)⟩
      · refine ⟨-2, h, h, ?_, ?_, H⟩
        · simp [fX9_mark_0, pe_isWithin, pz_32, pz_big, fX1_marks_1, fX2_farthest_8, cf, h1]
        · simp only [fX10_mark_55, fX10_mark_55_b26, fX10_mark_55_b50, mv_let]
          simp [pe_in, pz_64, pz_32, pz_big64, h1]
    · by_cases h1 : 0 ≤ p1.toInt ∧ p1.toInt ≤ 90
      · by_cases hf : N 0 8 = 6
        · refine ⟨-4, h, h, ?_, ?_, H⟩
          · simp [fX9_mark_0, pe_isWithin, pz_32, pz_big, fX1_marks_1, fX2_farthest_10, cc, h1, fX2_add_10, (rd_f hG).2, hf, show ¬ nI 6 < 0 by decide, show ¬ nI 6 < 6 by decide]
          · simp only [fX10_mark_55, fX10_mark_55_b26, fX10_mark_55_b50, mv_let]
            simp [pe_in, pz_64, pz_32, pz_big64, h1, (rd_mf hM).2, hf, show nI 6 = 6 from rfl]
        · obtain ⟨v, hv, rfl⟩ := pz_nat (n := 90) (by decide) (v := p1) (by omega)
          obtain ⟨n, en⟩ : ∃ n, n = N 0 8 := ⟨_, rfl⟩
          have hl : n < 6 := by have := hN.2.2.1.2; omega
          have g1 : ¬ nI n < 0 := nI_pos (by omega)
          have g2 : nI n < 6 := nI_lt hl (by decide)
          have g3 : mv_in (nI n) 6 := (pz_i6 n hl).1
          have g4 : ¬ nI n = 6 := fun q => hf (en ▸ (nI_eq (by omega) (by decide)).mp q)
          have g5 : nI n + 1 = nI (n + 1) := nI_1 n
          have c1 : h 10 2 = nI n := by rw [(rd_f hG).2, en]
          have c2 : h 55 14 = nI n := by rw [(rd_mf hM).2, en]
          refine ⟨nI (n + 1), mv_u (mv_u h 11 n (nI v)) 10 2 (nI (n + 1)), mv_u (mv_u (mv_u (mv_u h 11 n (nI v)) 10 2 (nI (n + 1))) 61 n (nI v)) 55 14 (nI (n + 1)), ?_, ?_, ?_⟩
          · simp [fX9_mark_0, pe_isWithin, pz_32, pz_big, fX1_marks_1, fX2_farthest_10, cc, h1, fX2_add_10, c1, g1, g2, mv_let, pz_clN (show n < 2 ^ 31 by omega), mv_u_at, g5, fX2_count_10]
            rw [if_pos g3]
            simp [mv_u_at]
            intro q
            exact absurd q (by omega)
          · have eM : mv_u (mv_u h 11 n (nI v)) 10 2 (nI (n + 1)) 55 14 = nI n := by rw [mv_u_at, if_neg (by decide), mv_u_at, if_neg (by omega), c2]
            simp only [fX10_mark_55, fX10_mark_55_b26, fX10_mark_55_b50, mv_let]
            simp [pe_in, pz_64, pz_32, pz_big64, h1, eM, g4, g3, hl, pz_clN (show n < 2 ^ 31 by omega), mv_u_at, c2, g5]
          · have hs := pv_setF (a := 6) (i := n) (n := v) (by decide) hl hG hM
            have hk := okN_F hN (a := 6) (i := n) (n := v) (by decide) (by omega) (by omega)
            have ht := pv_set1 (j := 8) (n := n + 1) (by decide) hs.1 hs.2
            have e9 : mv_u (mv_u (mv_u (mv_u h 11 n (nI v)) 10 2 (nI (n + 1))) 61 n (nI v)) 55 14 (nI (n + 1)) = mv_u (mv_u (mv_u (mv_u h 11 n (nI v)) 61 n (nI v)) 10 2 (nI (n + 1))) 55 14 (nI (n + 1)) := by
              funext o k
              simp only [mv_u_at]
              by_cases q1 : o = 55 ∧ k = 14
              · simp [q1]
              · by_cases q2 : o = 61 ∧ k = n
                · simp [q2]
                · simp [q1, q2]
            rw [e9]
            exact Keep.inv (h := h) ((((Keep.u (by unfold kp; omega)).tr (Keep.u (by unfold kp; omega))).tr (Keep.u (by unfold kp; omega))).tr (Keep.u (by unfold kp; omega))) H ⟨_, ht.1, ht.2, okN_up hk (by decide) (by omega)⟩
      · refine ⟨-2, h, h, ?_, ?_, H⟩
        · simp [fX9_mark_0, pe_isWithin, pz_32, pz_big, fX1_marks_1, fX2_farthest_10, cc, h1]
        · simp only [fX10_mark_55, fX10_mark_55_b26, fX10_mark_55_b50, mv_let]
          simp [pe_in, pz_64, pz_32, pz_big64, h1]
  · refine ⟨-2, h, h, ?_, ?_, H⟩
    · unfold fX9_mark_0
      rw [pe_isWithin, Option.bind_some, if_pos (by rw [pz_i0]; exact h0)]
    · unfold fX10_mark_55
      rw [pe_in, Option.bind_some, if_pos (by rw [pz_i0, Int32.toInt_toInt64]; exact h0)]
set_option maxRecDepth 10000 in
theorem st_iron (p0 : Int32) : Sim (fX9_iron_0 p0) (fX10_iron_55 p0) := by
  intro h H
  obtain ⟨N, hG, hM, hN⟩ := H.1
  by_cases h0 : 0 ≤ p0.toInt ∧ p0.toInt ≤ 1
  · rcases pz_two h0 with rfl | rfl
    · refine ⟨nI (N 0 7), mv_u h 8 2 0, mv_u (mv_u h 8 2 0) 55 12 0, ?_, ?_, ?_⟩
      · simp [fX9_iron_0, pe_isWithin, pz_32, fX1_marks_1, fX2_count_8, fX2_clear_8, mv_let, (rd_f hG).1]
      · simp only [fX10_iron_55, fX10_iron_55_b28, fX10_iron_55_b42, fX10_iron_55_b59, mv_let, mv_u_self]
        simp [pe_in, pz_64, pz_32, mv_u_at, (rd_mf hM).1]
      · have hs := pv_set1 (j := 7) (n := 0) (by decide) hG hM
        exact Keep.inv (h := h) ((Keep.u (by unfold kp; omega)).tr (Keep.u (by unfold kp; omega))) H ⟨_, hs.1, hs.2, okN_up hN (by decide) (by omega)⟩
    · refine ⟨nI (N 0 8), mv_u h 10 2 0, mv_u (mv_u h 10 2 0) 55 14 0, ?_, ?_, ?_⟩
      · simp [fX9_iron_0, pe_isWithin, pz_32, fX1_marks_1, fX2_count_10, fX2_clear_10, mv_let, (rd_f hG).2]
      · simp only [fX10_iron_55, fX10_iron_55_b28, fX10_iron_55_b42, fX10_iron_55_b59, mv_let, mv_u_self]
        simp [pe_in, pz_64, pz_32, mv_u_at, (rd_mf hM).2]
        
      · have hs := pv_set1 (j := 8) (n := 0) (by decide) hG hM
        exact Keep.inv (h := h) ((Keep.u (by unfold kp; omega)).tr (Keep.u (by unfold kp; omega))) H ⟨_, hs.1, hs.2, okN_up hN (by decide) (by omega)⟩
  · refine ⟨-2, h, h, ?_, ?_, H⟩
    · unfold fX9_iron_0
      rw [pe_isWithin, Option.bind_some, if_pos (by rw [pz_i0]; exact h0)]
    · unfold fX10_iron_55
      rw [pe_in, Option.bind_some, if_pos (by rw [pz_i0, Int32.toInt_toInt64]; exact h0)]
