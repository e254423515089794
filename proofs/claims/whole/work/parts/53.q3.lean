/-! does, shortBy, match, taken -/
def sWay (N : Nat → Nat → Nat) (i s : Nat) : Option Nat := wfd (wP (N 1 (3 * i)) (N 1 (3 * i + 1)) (N 1 (3 * i + 2)) (N 0 3) (N 0 4) (N 3 s) (N 4 s)) (fun k => sP (N 1 (3 * i)) (N 1 (3 * i + 1)) (N 1 (3 * i + 2)) (N 0 3) (N 0 4) (k / 2)) 6 0 none
theorem sWay_bel (N : Nat → Nat → Nat) (i s : Nat) : bel 6 (sWay N i s) := wfd_bel 6 0 none (bel_none 0)
theorem okN.s {N : Nat → Nat → Nat} (hN : okN N) {s : Nat} (hs : s < 6) : N 3 s ≤ 150 ∧ N 4 s ≤ 150 := ⟨hN.2.2.2.2.1.1 s hs, hN.2.2.2.2.1.2 s hs⟩
theorem pe_s0 {h : mv_H} {N : Nat → Nat → Nat} (hG : rdG h 1 N) {s : Nat} (hs : s < 6) : fX7_side_6 (nI s) 0 h = some (nI (N 3 s)) ∧ fX7_side_6 (nI s) 1 h = some (nI (N 4 s)) := by
  refine ⟨?_, ?_⟩
  · rw [← pz_lit.1, pe_side6 hs (by decide)]; exact congrArg some (rd_3 hG hs)
  · rw [← pz_lit.2.1, pe_side6 hs (by decide)]; exact congrArg some (rd_4 hG hs)
theorem pe_area {h : mv_H} {N : Nat → Nat → Nat} (hG : rdG h 1 N) {s : Nat} (hs : s < 6) : fX7_area_6 (nI s) h = some (nI (N 3 s * N 4 s)) := by
  unfold fX7_area_6
  rw [(pe_s0 hG hs).1, Option.bind_some, (pe_s0 hG hs).2, Option.bind_some, pk_mul]
theorem rd_m3 {h : mv_H} {N : Nat → Nat → Nat} (r : rdM h N) {s : Nat} (hs : s < 6) : h 58 s = nI (N 3 s) ∧ h 59 s = nI (N 4 s) := ⟨rd_m r (a := 3) (by decide) (by unfold vld; omega), rd_m r (a := 4) (by decide) (by unfold vld; omega)⟩
theorem pe_marea {h : mv_H} {N : Nat → Nat → Nat} (hM : rdM h N) {s : Nat} (hs : s < 6) : fX10_areaOf_55 (nI s) h = some (nI (N 3 s * N 4 s)) := by
  obtain ⟨c1, c2, -⟩ := pz_i6 s hs
  unfold fX10_areaOf_55
  rw [if_pos c1, if_pos c1, c2, (rd_m3 hM hs).1, (rd_m3 hM hs).2, pk_mul]
theorem pe_wayN {h : mv_H} {N : Nat → Nat → Nat} {i s : Nat} (w : WrapIs h (N 1 (3 * i)) (N 1 (3 * i + 1)) (N 1 (3 * i + 2)) (N 0 3) (N 0 4)) (hN : okN N) (hi : i < 6) (hs : s < 6) : fX8_wayOnSheet_38 (nI (N 3 s)) (nI (N 4 s)) h = some (enc (sWay N i s)) := pe_way w (hN.b hi) hN.2.1.1 hN.2.1.2.1 (hN.s hs).1 (hN.s hs).2
theorem pe_doesN {h : mv_H} {N : Nat → Nat → Nat} {i s : Nat} (w : LayIs h (N 1 (3 * i)) (N 1 (3 * i + 1)) (N 1 (3 * i + 2)) (N 0 3) (N 0 4)) (hN : okN N) (hM : rdM h N) (hi : i < 6) (hs : s < 6) : fX10_doesBy_55 (nI s) h = some (enc (sWay N i s)) := pe_does w (hN.b hi) hN.2.1.1 hN.2.1.2.1 (hN.s hs).1 (hN.s hs).2 hs (rd_m3 hM hs).1 (rd_m3 hM hs).2
set_option maxRecDepth 10000 in
theorem st_does (p0 p1 p2 : Int32) : Sim (fX9_does_0 p0 p1 p2) (fX10_does_55 p0 p1 p2) := by
  intro h H
  obtain ⟨N, hG, hM, hN⟩ := H.1
  by_cases hb : pbx p0 (N 0 0) = true
  · by_cases hc : pbx p1 (N 0 2) = true
    · by_cases hw : 0 ≤ p2.toInt ∧ p2.toInt ≤ 2
      · obtain ⟨i, hi, rfl, -⟩ := pbx_i hN.1.1 hb
        obtain ⟨s, hs, rfl, -⟩ := pbx_i hN.1.2.2 hc
        obtain ⟨h1, h2, e1, w1, s1, e2, w2, s2, s12⟩ := q_look hi hG hM hN
        have m1 := rd_mb (s1.rdM hM)
        have g1 := s1.rdG (Or.inl rfl) hG
        have n2 := s2.rdM hM
        have k1 := pe_wayN w1 hN hi hs
        have k2 := pe_doesN w2 hN n2 hi hs
        have hbl := sWay_bel N i s
        have hk := hN.b hi
        have CC : ∀ z, fX9_does_0 (nI i) (nI s) z h = (if ¬ (0 ≤ z.toInt ∧ z.toInt ≤ 2) then some (-2, h) else if enc (sWay N i s) = -6 then some (-6, h1) else if z = 0 then some (enc (sWay N i s) / 2, h1) else if z = 1 then some (enc (sWay N i s) - enc (sWay N i s) / 2 * 2, h1) else (fX8_paper_38 (enc (sWay N i s) / 2) h1).bind fun r => some (nI (N 3 s * N 4 s) - r, h1)) := fun z => by
          simp only [fX9_does_0, pe_hb (rd_b hG).1, hb, pe_hs (rd_b hG).2.2, hc, pe_isWithin, pz_32, e1, (pe_s0 g1 hs).1, (pe_s0 g1 hs).2, k1, Option.bind_some, fX9_axisOf, fX9_turnOf, pe_area g1 hs, pz_i0]
          simp
        have MM : ∀ z, fX10_does_55 (nI i) (nI s) z h1 = (if ¬ (0 ≤ z.toInt ∧ z.toInt ≤ 2) then some (-2, h1) else if enc (sWay N i s) < 0 then some (-6, h2) else if z = 0 then some (enc (sWay N i s) / 2, h2) else if z = 1 then some (enc (sWay N i s) - enc (sWay N i s) / 2 * 2, h2) else (fX10_paper_55 (enc (sWay N i s) / 2) h2).bind fun r => some (nI (N 3 s * N 4 s) - r, h2)) := fun z => by
          simp only [fX10_does_55, pe_mb m1.1, hb, pe_ms m1.2.2, hc, pe_in, pz_64, Int32.toInt_toInt64, e2, k2, Option.bind_some, pe_marea n2 hs, pz_i0]
          simp
        simp only [enc_eq hbl (by decide)] at CC
        simp only [enc_lt hbl (by decide)] at MM
        cases hq : sWay N i s with
        | none =>
          rw [hq] at CC MM
          exact ⟨-6, h1, h2, by rw [CC]; simp [hw], by rw [MM]; simp [hw], s2.inv H⟩
        | some k =>
          have hk6 := hbl k hq
          rw [hq] at CC MM
          simp only [enc_some, pz_half (show k < 2 ^ 31 by omega), pe_paper w1 (show k / 2 < 3 by omega) hk, pe_mpaper w2 (show k / 2 < 3 by omega)] at CC MM
          rcases pz_three hw with rfl | rfl | rfl
          · exact ⟨nI (k / 2), h1, h2, by rw [CC]; simp [pz_32], by rw [MM]; simp [pz_32], s2.inv H⟩
          · exact ⟨nI k - nI (k / 2) * 2, h1, h2, by rw [CC]; simp [pz_32], by rw [MM]; simp [pz_32], s2.inv H⟩
          · exact ⟨nI (N 3 s * N 4 s) - nI (sP (N 1 (3 * i)) (N 1 (3 * i + 1)) (N 1 (3 * i + 2)) (N 0 3) (N 0 4) (k / 2)), h1, h2, by rw [CC]; simp [pz_32], by rw [MM]; simp [pz_32], s2.inv H⟩
      · refine ⟨-2, h, h, ?_, ?_, H⟩
        · simp [fX9_does_0, pe_hb (rd_b hG).1, hb, pe_hs (rd_b hG).2.2, hc, pe_isWithin, pz_32, hw]
        · simp [fX10_does_55, pe_mb (rd_mb hM).1, hb, pe_ms (rd_mb hM).2.2, hc, pe_in, pz_64, hw]
    · refine ⟨-1, h, h, ?_, ?_, H⟩
      · simp [fX9_does_0, pe_hb (rd_b hG).1, hb, pe_hs (rd_b hG).2.2, hc]
      · simp [fX10_does_55, pe_mb (rd_mb hM).1, hb, pe_ms (rd_mb hM).2.2, hc]
  · refine ⟨-1, h, h, ?_, ?_, H⟩
    · simp [fX9_does_0, pe_hb (rd_b hG).1, hb]
    · simp [fX10_does_55, pe_mb (rd_mb hM).1, hb]
set_option maxRecDepth 10000 in
theorem st_shortBy (p0 p1 p2 p3 : Int32) : Sim (fX9_shortBy_0 p0 p1 p2 p3) (fX10_shortBy_55 p0 p1 p2 p3) := by
  intro h H
  obtain ⟨N, hG, hM, hN⟩ := H.1
  by_cases hb : pbx p0 (N 0 0) = true
  · by_cases hc : pbx p1 (N 0 2) = true
    · by_cases ha : 0 ≤ p2.toInt ∧ p2.toInt ≤ 2
      · by_cases hw : 0 ≤ p3.toInt ∧ p3.toInt ≤ 1
        · obtain ⟨i, hi, rfl, -⟩ := pbx_i hN.1.1 hb
          obtain ⟨s, hs, rfl, -⟩ := pbx_i hN.1.2.2 hc
          obtain ⟨x, hx, rfl⟩ := pz_axis ha
          obtain ⟨h1, h2, e1, w1, s1, e2, w2, s2, s12⟩ := q_look hi hG hM hN
          have m1 := rd_mb (s1.rdM hM)
          have g1 := s1.rdG (Or.inl rfl) hG
          have n2 := rd_m3 (s2.rdM hM) hs
          have hk := hN.b hi
          obtain ⟨c1, c2, -⟩ := pz_ax3 x hx
          obtain ⟨d1, d2, -⟩ := pz_i6 s hs
          obtain ⟨i1, i2, -⟩ := w2 x hx
          obtain ⟨b1, b2, -⟩ := sP_lt (x := x) hk hN.2.1.1 hN.2.1.2.1
          have l1 := (hN.s hs).1
          have l2 := (hN.s hs).2
          rcases pz_two hw with rfl | rfl
          · have kl := pe_lack w1 hk hN.2.1.1 hN.2.1.2.1 hx (show 0 < 2 by decide) l1 l2
            rw [if_pos rfl, pz_lit.1] at kl
            refine ⟨nI (sR (N 1 (3 * i)) (N 1 (3 * i + 1)) (N 1 (3 * i + 2)) (N 0 3) x - N 3 s + (sL (N 1 (3 * i)) (N 1 (3 * i + 1)) (N 1 (3 * i + 2)) (N 0 4) x - N 4 s)), h1, h2, by simp [fX9_shortBy_0, pe_bba _ _ (rd_b hG).1, hb, ha, pe_hs (rd_b hG).2.2, hc, pe_isWithin, pz_32, e1, (pe_s0 g1 hs).1, (pe_s0 g1 hs).2, kl], ?_, s2.inv H⟩
            simp only [fX10_shortBy_55, pe_mb m1.1, hb, pe_ms m1.2.2, hc, pe_isAxis, ha, pe_in, pz_64, Int32.toInt_toInt64, pz_32, e2, Option.bind_some, fX10_shortBy_55_b64, fX10_shortBy_55_b86, if_pos c1, if_pos d1, c2, d2, i1, i2, n2.1, n2.2, pe_above (show sR (N 1 (3 * i)) (N 1 (3 * i + 1)) (N 1 (3 * i + 2)) (N 0 3) x < 2 ^ 30 by omega) (show N 3 s < 2 ^ 30 by omega), pe_above (show sL (N 1 (3 * i)) (N 1 (3 * i + 1)) (N 1 (3 * i + 2)) (N 0 4) x < 2 ^ 30 by omega) (show N 4 s < 2 ^ 30 by omega)]
            simp [nI_add]
          · have kl := pe_lack w1 hk hN.2.1.1 hN.2.1.2.1 hx (show 1 < 2 by decide) l1 l2
            rw [if_neg (by decide), pz_lit.2.1] at kl
            refine ⟨nI (sR (N 1 (3 * i)) (N 1 (3 * i + 1)) (N 1 (3 * i + 2)) (N 0 3) x - N 4 s + (sL (N 1 (3 * i)) (N 1 (3 * i + 1)) (N 1 (3 * i + 2)) (N 0 4) x - N 3 s)), h1, h2, by simp [fX9_shortBy_0, pe_bba _ _ (rd_b hG).1, hb, ha, pe_hs (rd_b hG).2.2, hc, pe_isWithin, pz_32, e1, (pe_s0 g1 hs).1, (pe_s0 g1 hs).2, kl], ?_, s2.inv H⟩
            simp only [fX10_shortBy_55, pe_mb m1.1, hb, pe_ms m1.2.2, hc, pe_isAxis, ha, pe_in, pz_64, Int32.toInt_toInt64, pz_32, e2, Option.bind_some, fX10_shortBy_55_b64, fX10_shortBy_55_b86, if_pos c1, if_pos d1, c2, d2, i1, i2, n2.1, n2.2, pe_above (show sR (N 1 (3 * i)) (N 1 (3 * i + 1)) (N 1 (3 * i + 2)) (N 0 3) x < 2 ^ 30 by omega) (show N 4 s < 2 ^ 30 by omega), pe_above (show sL (N 1 (3 * i)) (N 1 (3 * i + 1)) (N 1 (3 * i + 2)) (N 0 4) x < 2 ^ 30 by omega) (show N 3 s < 2 ^ 30 by omega)]
            simp [nI_add]
        · refine ⟨-2, h, h, ?_, ?_, H⟩
          · simp [fX9_shortBy_0, pe_bba _ _ (rd_b hG).1, hb, ha, pe_hs (rd_b hG).2.2, hc, pe_isWithin, pz_32, hw]
          · simp [fX10_shortBy_55, pe_mb (rd_mb hM).1, hb, pe_ms (rd_mb hM).2.2, hc, pe_isAxis, ha, pe_in, pz_64, hw]
      · refine ⟨-1, h, h, ?_, ?_, H⟩
        · simp [fX9_shortBy_0, pe_bba _ _ (rd_b hG).1, ha]
        · simp [fX10_shortBy_55, pe_mb (rd_mb hM).1, hb, pe_ms (rd_mb hM).2.2, hc, pe_isAxis, ha]
    · refine ⟨-1, h, h, ?_, ?_, H⟩
      · simp only [fX9_shortBy_0, pe_bba _ _ (rd_b hG).1, pe_hs (rd_b hG).2.2, hc, Option.bind_some, pz_i0]
        simp
      · simp [fX10_shortBy_55, pe_mb (rd_mb hM).1, hb, pe_ms (rd_mb hM).2.2, hc]
  · refine ⟨-1, h, h, ?_, ?_, H⟩
    · simp [fX9_shortBy_0, pe_bba _ _ (rd_b hG).1, hb]
    · simp [fX10_shortBy_55, pe_mb (rd_mb hM).1, hb]
/-- bits gathered one by one -/
def gb (Q : Nat → Bool) : Nat → Nat → Nat → Nat
  | 0, _, a => a
  | n + 1, k, a => gb Q n (k + 1) (if Q k = true then a ||| 2 ^ k else a)
theorem gb_lt {Q : Nat → Bool} : ∀ (n k a : Nat), n + k ≤ 6 → a < 64 → gb Q n k a < 64
  | 0, _, _, _, h => h
  | n + 1, k, a, hn, h => by
    unfold gb
    refine gb_lt n (k + 1) _ (by omega) ?_
    split
    · exact (pz_or a h k (by omega)).2
    · exact h
theorem gb_bit {Q : Nat → Bool} : ∀ (n k a j : Nat), (gb Q n k a).testBit j = (a.testBit j || (decide (k ≤ j ∧ j < k + n) && Q j))
  | 0, k, a, j => by
    have : ¬ (k ≤ j ∧ j < k + 0) := by omega
    rw [gb, decide_eq_false this]; simp
  | n + 1, k, a, j => by
    unfold gb
    rw [gb_bit n (k + 1)]
    by_cases q : Q k = true
    · rw [if_pos q, pz_orT]
      by_cases e : k = j
      · subst e; simp [q]
      · by_cases h1 : k + 1 ≤ j ∧ j < k + 1 + n
        · have h2 : k ≤ j ∧ j < k + (n + 1) := by omega
          simp [h1, h2, e]
        · have h2 : ¬ (k ≤ j ∧ j < k + (n + 1)) := by omega
          simp [h1, h2, e]
    · rw [if_neg q]
      by_cases e : k = j
      · subst e; simp [q]
      · by_cases h1 : k + 1 ≤ j ∧ j < k + 1 + n
        · have h2 : k ≤ j ∧ j < k + (n + 1) := by omega
          simp [h1, h2]
        · have h2 : ¬ (k ≤ j ∧ j < k + (n + 1)) := by omega
          simp [h1, h2]
theorem wfd_congr {P P' : Nat → Bool} {M M' : Nat → Nat} : ∀ (n k : Nat) (o : Option Nat), bel k o → (∀ j, k ≤ j → j < k + n → P j = P' j) → (∀ j, j < k + n → M j = M' j) → wfd P M n k o = wfd P' M' n k o
  | 0, _, _, _, _, _ => rfl
  | n + 1, k, o, ho, hP, hM => by
    have e : wst P M k o = wst P' M' k o := by
      unfold wst
      rw [hP k (by omega) (by omega)]
      cases o with
      | none => rfl
      | some j =>
        have := ho j rfl
        simp only [hM k (by omega), hM j (by omega)]
    unfold wfd
    rw [e]
    exact wfd_congr n (k + 1) _ (wst_bel ho) (fun j h1 h2 => hP j (by omega) (by omega)) (fun j h2 => hM j (by omega))
theorem pz_isIn {n k : Nat} (hn : n < 64) (hk : k < 6) : fX9_isIn (nI n) (nI k) = some (if n.testBit k = true then 1 else 0) := by
  rw [pe_isIn]; exact congrArg some (pz_if (pz_bit n hn k hk))
theorem pe_sdLoop {h : mv_H} {N : Nat → Nat → Nat} {i : Nat} (w : WrapIs h (N 1 (3 * i)) (N 1 (3 * i + 1)) (N 1 (3 * i + 2)) (N 0 3) (N 0 4)) (hG : rdG h 1 N) (hN : okN N) (hi : i < 6) : ∀ (n k m a : Nat), n + k = 6 → n < m → a < 64 → fX9_sheetsDoingFor_0_b11 m (nI a) (nI k) h = some (nI (gb (fun s => (N 0 2).testBit s && (sWay N i s).isSome) n k a), h)
  | n, k, 0, a, _, hm, _ => absurd hm (by omega)
  | 0, k, m + 1, a, hn, _, _ => by
    rw [show k = 6 by omega, fX9_sheetsDoingFor_0_b11, if_neg (by decide)]; rfl
  | n + 1, k, m + 1, a, hn, hm, ha => by
    have hk : k < 6 := by omega
    have ho := pz_or a ha k hk
    have ih := fun a' (ha' : a' < 64) => pe_sdLoop w hG hN hi n (k + 1) m a' (by omega) (by omega) ha'
    rw [fX9_sheetsDoingFor_0_b11, if_pos (pz_l6 hk)]
    have hh : fX7_has_6 (nI k) h = some (if (N 0 2).testBit k = true then 1 else 0) := by
      rw [pe_has6, (rd_b hG).2.2]
      exact congrArg some (pz_if (by rw [(pz_i6 k hk).2.2, pz_bit _ hN.1.2.2 k hk]; exact ⟨fun q => q.2, fun q => ⟨by omega, q⟩⟩))
    simp only [hh, Option.bind_some, pz_i0, (pe_s0 hG hk).1, (pe_s0 hG hk).2, pe_wayN w hN hi hk, enc_eq (sWay_bel N i k) (by decide), mv_let, fX9_sheetsDoingFor_0_b75, nI_1, ho.1]
    unfold gb
    by_cases q : (N 0 2).testBit k = true
    · cases hq : sWay N i k with
      | none => simp [q, hq, ih a ha]
      | some j => simp [q, hq, ih _ ho.2]
    · simp [q, ih a ha]
theorem pe_sd {h : mv_H} {N : Nat → Nat → Nat} {i : Nat} (hG : rdG h 1 N) (hN : okN N) (hi : i < 6) : ∃ h1, fX9_sheetsDoingFor_0 (nI i) h = some (nI (gb (fun s => (N 0 2).testBit s && (sWay N i s).isSome) 6 0 0), h1) ∧ Same h h1 := by
  refine ⟨wr h (nI (N 1 (3 * i))) (nI (N 1 (3 * i + 1))) (nI (N 1 (3 * i + 2))) (nI (N 0 3)) (nI (N 0 4)), ?_, wr_same⟩
  unfold fX9_sheetsDoingFor_0
  rw [pe_wrapOf hi hG, Option.bind_some, ← pz_lit.1]
  exact pe_sdLoop wr_is (wr_same.rdG (Or.inl rfl) hG) hN hi 6 0 mv_F 0 rfl (by rw [mv_F_eq]; decide) (by decide)
theorem pe_laLoop {h : mv_H} {N : Nat → Nat → Nat} {t : Nat} (ht : t < 64) (hG : rdG h 1 N) (hN : okN N) : ∀ (n k m : Nat) (o : Option Nat), n + k = 6 → n < m → bel k o → fX7_leastAreaOf_6_b5 m (nI t) (enc o) (nI k) h = some (enc (wfd (fun s => t.testBit s) (fun s => N 3 s * N 4 s) n k o))
  | n, k, 0, o, _, hm, _ => absurd hm (by omega)
  | 0, k, m + 1, o, hn, _, _ => by
    rw [show k = 6 by omega, fX7_leastAreaOf_6_b5, if_neg (by decide)]; rfl
  | n + 1, k, m + 1, o, hn, hm, ho => by
    have hk : k < 6 := by omega
    have ih := pe_laLoop ht hG hN n (k + 1) m (wst (fun s => t.testBit s) (fun s => N 3 s * N 4 s) k o) (by omega) (by omega) (wst_bel ho)
    have bk : N 3 k * N 4 k ≤ 150 * 150 := Nat.mul_le_mul (hN.s hk).1 (hN.s hk).2
    rw [fX7_leastAreaOf_6_b5, if_pos (pz_l6 hk)]
    simp only [pz_isIn ht hk, Option.bind_some, pz_i0, enc_eq ho (by omega), fX7_leastAreaOf_6_b38, fX7_leastAreaOf_6_b40, nI_1, pe_area hG hk]
    rw [wfd, ← ih]
    by_cases q : t.testBit k = true
    · cases o with
      | none => simp [wst, q, enc]
      | some j =>
        have hj := ho j rfl
        have bj : N 3 j * N 4 j ≤ 150 * 150 := Nat.mul_le_mul (hN.s (show j < 6 by omega)).1 (hN.s (show j < 6 by omega)).2
        simp only [enc_some, pe_area hG (show j < 6 by omega), Option.bind_some, reduceCtorEq, if_false, pz_lt3 (show N 3 k * N 4 k < 2 ^ 31 by omega) (show N 3 j * N 4 j < 2 ^ 31 by omega)]
        by_cases q2 : N 3 k * N 4 k < N 3 j * N 4 j <;> simp [wst, q, q2, enc]
    · simp [wst, q]
theorem pe_la {h : mv_H} {N : Nat → Nat → Nat} {t : Nat} (ht : t < 64) (hG : rdG h 1 N) (hN : okN N) : fX7_leastAreaOf_6 (nI t) h = some (enc (wfd (fun s => t.testBit s) (fun s => N 3 s * N 4 s) 6 0 none)) := by
  unfold fX7_leastAreaOf_6
  exact pe_laLoop ht hG hN 6 0 mv_F none rfl (by rw [mv_F_eq]; decide) (bel_none 0)
theorem pe_tkLoop {h : mv_H} {N : Nat → Nat → Nat} {t i : Nat} (ht : t < 64) (w : LayIs h (N 1 (3 * i)) (N 1 (3 * i + 1)) (N 1 (3 * i + 2)) (N 0 3) (N 0 4)) (hM : rdM h N) (hN : okN N) (hi : i < 6) : ∀ (n k m : Nat) (o : Option Nat), n + k = 6 → n < m → bel k o → fX10_takenOf_55_b5 m (nI t) (enc o) (nI k) h = some (enc (wfd (fun s => t.testBit s && (sWay N i s).isSome) (fun s => N 3 s * N 4 s) n k o))
  | n, k, 0, o, _, hm, _ => absurd hm (by omega)
  | 0, k, m + 1, o, hn, _, _ => by
    rw [show k = 6 by omega, fX10_takenOf_55_b5, if_neg (by decide)]; rfl
  | n + 1, k, m + 1, o, hn, hm, ho => by
    have hk : k < 6 := by omega
    have ih := pe_tkLoop ht w hM hN hi n (k + 1) m (wst (fun s => t.testBit s && (sWay N i s).isSome) (fun s => N 3 s * N 4 s) k o) (by omega) (by omega) (wst_bel ho)
    have bk : N 3 k * N 4 k ≤ 150 * 150 := Nat.mul_le_mul (hN.s hk).1 (hN.s hk).2
    rw [fX10_takenOf_55_b5, if_pos (pz_l6 hk)]
    simp only [pz_bit t ht k hk, pe_doesN w hN hM hi hk, Option.bind_some, enc_lt (sWay_bel N i k) (by decide), enc_lt ho (by omega), fX10_takenOf_55_b49, fX10_takenOf_55_b45, fX10_takenOf_55_b50, fX10_takenOf_55_b62, nI_1, pe_marea hM hk]
    rw [wfd, ← ih]
    by_cases q : t.testBit k = true
    · cases hq : sWay N i k with
      | none => simp [wst, q, hq]
      | some z =>
        cases o with
        | none => simp [wst, q, hq, enc]
        | some j =>
          have hj := ho j rfl
          have bj : N 3 j * N 4 j ≤ 150 * 150 := Nat.mul_le_mul (hN.s (show j < 6 by omega)).1 (hN.s (show j < 6 by omega)).2
          simp only [enc_some, pe_marea hM (show j < 6 by omega), Option.bind_some, reduceCtorEq, if_false, pz_lt3 (show N 3 k * N 4 k < 2 ^ 31 by omega) (show N 3 j * N 4 j < 2 ^ 31 by omega)]
          by_cases q2 : N 3 k * N 4 k < N 3 j * N 4 j <;> simp [wst, q, hq, q2, enc]
    · simp [wst, q]
theorem pe_tk {h : mv_H} {N : Nat → Nat → Nat} {t i : Nat} (ht : t < 64) (w : LayIs h (N 1 (3 * i)) (N 1 (3 * i + 1)) (N 1 (3 * i + 2)) (N 0 3) (N 0 4)) (hM : rdM h N) (hN : okN N) (hi : i < 6) : fX10_takenOf_55 (nI t) h = some (enc (wfd (fun s => t.testBit s && (sWay N i s).isSome) (fun s => N 3 s * N 4 s) 6 0 none)) := by
  unfold fX10_takenOf_55
  exact pe_tkLoop ht w hM hN hi 6 0 mv_F none rfl (by rw [mv_F_eq]; decide) (bel_none 0)
set_option maxRecDepth 10000 in
theorem st_taken (p0 : Int32) : Sim (fX9_taken_0 p0) (fX10_taken_55 p0) := by
  intro h H
  obtain ⟨N, hG, hM, hN⟩ := H.1
  by_cases hb : pbx p0 (N 0 0) = true
  · obtain ⟨i, hi, rfl, -⟩ := pbx_i hN.1.1 hb
    obtain ⟨h1, e1, s1⟩ := pe_sd hG hN hi
    obtain ⟨h2, e2, w2, s2⟩ := pe_look hi (s1.rdM hM) hN
    have g1 := s1.rdG (Or.inl rfl) hG
    have n2 := (s1.tr s2).rdM hM
    have hl : gb (fun s => (N 0 2).testBit s && (sWay N i s).isSome) 6 0 0 < 64 := gb_lt 6 0 0 (by decide) (by decide)
    have hcg : wfd (fun s => (gb (fun s => (N 0 2).testBit s && (sWay N i s).isSome) 6 0 0).testBit s) (fun s => N 3 s * N 4 s) 6 0 none = wfd (fun s => (N 0 2).testBit s && (sWay N i s).isSome) (fun s => N 3 s * N 4 s) 6 0 none := by
      refine wfd_congr 6 0 none (bel_none 0) (fun j _ hj => ?_) (fun j _ => rfl)
      have h6 : 0 ≤ j ∧ j < 0 + 6 := by omega
      rw [gb_bit, decide_eq_true h6]
      simp
    refine ⟨enc (wfd (fun s => (N 0 2).testBit s && (sWay N i s).isSome) (fun s => N 3 s * N 4 s) 6 0 none), h1, h2, ?_, ?_, (s1.tr s2).inv H⟩
    · simp only [fX9_taken_0, pe_hb (rd_b hG).1, hb, e1, Option.bind_some, pe_la hl g1 hN]
      rw [hcg]
      simp
    · simp [fX10_taken_55, pe_mb (rd_mb (s1.rdM hM)).1, hb, e2, (rd_mb n2).2.2, pe_tk hN.1.2.2 w2 n2 hN hi]
  · refine ⟨-1, h, h, ?_, ?_, H⟩
    · simp [fX9_taken_0, pe_hb (rd_b hG).1, hb]
    · simp [fX10_taken_55, pe_mb (rd_mb hM).1, hb]
