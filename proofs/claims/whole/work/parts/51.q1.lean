/-! questions about one box: need, least, shortBy, pleat, match, ribbon -/
def pbx (v : Int32) (n : Nat) : Bool := decide ((0 ≤ v.toInt ∧ v.toInt < 6) ∧ (nI n >>> (v &&& 31)) &&& 1 = 1)
theorem pbx_iff (v : Int32) (n : Nat) : ((0 ≤ v.toInt ∧ v.toInt < 6) ∧ (nI n >>> (v &&& 31)) &&& 1 = 1) ↔ pbx v n = true := by simp [pbx]
theorem pbx_i {v : Int32} {n : Nat} (hn : n < 64) (h : pbx v n = true) : ∃ i, i < 6 ∧ v = nI i ∧ n.testBit i = true := by
  have h := (pbx_iff v n).mpr h
  obtain ⟨i, hi, rfl⟩ := pz_six h.1
  exact ⟨i, hi, rfl, (pz_bit n hn i hi).mp h.2⟩
theorem pe_isAxis (v : Int32) : fX10_isAxis v = some (if 0 ≤ v.toInt ∧ v.toInt ≤ 2 then 1 else 0) := by
  unfold fX10_isAxis
  rw [pe_in, Option.bind_some, if_pos pz_01, Int32.toInt_toInt64]; rfl
theorem pe_bba (v x : Int32) {h : mv_H} {n : Nat} (e : h 2 2 = nI n) : fX9_isBoxByAxis_0 v x h = some (if pbx v n ∧ (0 ≤ x.toInt ∧ x.toInt ≤ 2) then 1 else 0) := by
  unfold fX9_isBoxByAxis_0
  simp only [pe_has2, e, pe_isWithin, pz_32, Option.bind_some, pz_i0, pbx_iff]
  by_cases h0 : pbx v n = true
  · by_cases h1 : 0 ≤ x.toInt ∧ x.toInt ≤ 2 <;> simp [h0, h1]
  · simp [h0]
theorem pe_hb {v : Int32} {h : mv_H} {n : Nat} (e : h 2 2 = nI n) : fX7_has_2 v h = some (if pbx v n then 1 else 0) := by rw [pe_has2, e]; exact congrArg some (pz_if (pbx_iff v n))
theorem pe_ht {v : Int32} {h : mv_H} {n : Nat} (e : h 4 2 = nI n) : fX7_has_4 v h = some (if pbx v n then 1 else 0) := by rw [pe_has4, e]; exact congrArg some (pz_if (pbx_iff v n))
theorem pe_hs {v : Int32} {h : mv_H} {n : Nat} (e : h 6 2 = nI n) : fX7_has_6 v h = some (if pbx v n then 1 else 0) := by rw [pe_has6, e]; exact congrArg some (pz_if (pbx_iff v n))
theorem pe_mb {v : Int32} {h : mv_H} {n : Nat} (e : h 55 0 = nI n) : fX10_isBox_55 v h = some (if pbx v n then 1 else 0) := by rw [pe_isBox, e]; exact congrArg some (pz_if (pbx_iff v n))
theorem pe_mt {v : Int32} {h : mv_H} {n : Nat} (e : h 55 1 = nI n) : fX10_isThing_55 v h = some (if pbx v n then 1 else 0) := by rw [pe_isThing, e]; exact congrArg some (pz_if (pbx_iff v n))
theorem pe_ms {v : Int32} {h : mv_H} {n : Nat} (e : h 55 2 = nI n) : fX10_isSheet_55 v h = some (if pbx v n then 1 else 0) := by rw [pe_isSheet, e]; exact congrArg some (pz_if (pbx_iff v n))
theorem pz_axis {v : Int32} (h : 0 ≤ v.toInt ∧ v.toInt ≤ 2) : ∃ x, x < 3 ∧ v = nI x := by
  obtain ⟨i, hi, e⟩ := pz_nat (n := 2) (by decide) h
  exact ⟨i, by omega, e⟩
theorem pz_ax3 : ∀ x, x < 3 → mv_in (nI x) 3 ∧ (nI x).toNatClampNeg = x ∧ (nI x).toInt = x := by decide
/-- the measures as the reference has laid them out, and the box both speak of -/
theorem q_look {h : mv_H} {N : Nat → Nat → Nat} {i : Nat} (hi : i < 6) (hG : rdG h 1 N) (hM : rdM h N) (hN : okN N) : ∃ h1 h2, fX9_wrapOf_0 (nI i) h = some h1 ∧ WrapIs h1 (N 1 (3 * i)) (N 1 (3 * i + 1)) (N 1 (3 * i + 2)) (N 0 3) (N 0 4) ∧ Same h h1 ∧ fX10_look_55 (nI i) h1 = some h2 ∧ LayIs h2 (N 1 (3 * i)) (N 1 (3 * i + 1)) (N 1 (3 * i + 2)) (N 0 3) (N 0 4) ∧ Same h h2 ∧ Same h1 h2 := by
  obtain ⟨h2, a, b, c⟩ := pe_look hi (wr_same.rdM hM) hN
  exact ⟨_, h2, pe_wrapOf hi hG, wr_is, wr_same, a, b, wr_same.tr c, c⟩
theorem okN.b {N : Nat → Nat → Nat} (hN : okN N) {i : Nat} (hi : i < 6) : N 1 (3 * i) ≤ 20 ∧ N 1 (3 * i + 1) ≤ 20 ∧ N 1 (3 * i + 2) ≤ 20 := ⟨hN.2.2.2.1.1 _ (by omega), hN.2.2.2.1.1 _ (by omega), hN.2.2.2.1.1 _ (by omega)⟩
theorem pe_mpaper {h : mv_H} {a b c l e x : Nat} (w : LayIs h a b c l e) (hx : x < 3) : fX10_paper_55 (nI x) h = some (nI (sP a b c l e x)) := by
  obtain ⟨c1, c2, -⟩ := pz_ax3 x hx
  unfold fX10_paper_55
  rw [if_pos c1, if_pos c1, c2, (w x hx).1, (w x hx).2.1, pk_mul]; rfl
theorem sP_lt {a b c l e x : Nat} (hb : a ≤ 20 ∧ b ≤ 20 ∧ c ≤ 20) (hl : l ≤ 9) (he : e ≤ 9) : sR a b c l x ≤ 89 ∧ sL a b c e x ≤ 58 ∧ sP a b c l e x ≤ 5162 := by
  have hu := sU_le (c := c) (x := x) hb.1 hb.2.1
  have hv := sV_le (a := a) (x := x) hb.2.1 hb.2.2
  have ha := sA_le (x := x) hb.1 hb.2.1 hb.2.2
  have h1 : sR a b c l x ≤ 89 := by unfold sR; omega
  have h2 : sL a b c e x ≤ 58 := by unfold sL; omega
  exact ⟨h1, h2, Nat.mul_le_mul h1 h2⟩
def sLeast (a b c l e : Nat) : Nat := if sP a b c l e 2 < sP a b c l e (if sP a b c l e 1 < sP a b c l e 0 then 1 else 0) then 2 else if sP a b c l e 1 < sP a b c l e 0 then 1 else 0
theorem sLeast_lt (a b c l e : Nat) : sLeast a b c l e < 3 := by unfold sLeast; split <;> (try split) <;> omega
theorem pe_leastStep {n x y : Nat} {h : mv_H} {a b c l e : Nat} (w : WrapIs h a b c l e) (hb : a ≤ 20 ∧ b ≤ 20 ∧ c ≤ 20) (hl : l ≤ 9) (he : e ≤ 9) (hx : x < 3) (hy : y < 3) : fX8_leastAxis_38_b4 (n + 1) (nI x) (nI y) h = fX8_leastAxis_38_b4 n (nI (if sP a b c l e y < sP a b c l e x then y else x)) (nI (y + 1)) h := by
  rw [fX8_leastAxis_38_b4, if_pos (show nI y < 3 from nI_lt hy (by decide)), pe_paper w hy hb, Option.bind_some, pe_paper w hx hb, Option.bind_some]
  have b1 := (sP_lt (x := x) hb hl he).2.2
  have b2 := (sP_lt (x := y) hb hl he).2.2
  simp only [pz_lt3 (x := sP a b c l e y) (y := sP a b c l e x) (by omega) (by omega)]
  unfold fX8_leastAxis_38_b24
  rw [nI_1]
  by_cases q : sP a b c l e y < sP a b c l e x <;> simp [q]
theorem pe_leastAxis {h : mv_H} {a b c l e : Nat} (w : WrapIs h a b c l e) (hb : a ≤ 20 ∧ b ≤ 20 ∧ c ≤ 20) (hl : l ≤ 9) (he : e ≤ 9) : fX8_leastAxis_38 h = some (nI (sLeast a b c l e)) := by
  obtain ⟨m, hm⟩ : ∃ m, mv_F = m + 1 + 1 + 1 := ⟨999997, mv_F_eq⟩
  unfold fX8_leastAxis_38
  rw [hm, ← pz_lit.1, ← pz_lit.2.1, pe_leastStep w hb hl he (by decide) (by decide), pe_leastStep w hb hl he (by split <;> omega) (by decide), fX8_leastAxis_38_b4, if_neg (by decide)]
  rfl
theorem pe_leastPaper {h : mv_H} {a b c l e : Nat} (w : WrapIs h a b c l e) (hb : a ≤ 20 ∧ b ≤ 20 ∧ c ≤ 20) (hl : l ≤ 9) (he : e ≤ 9) : fX8_leastPaper_38 h = some (nI (sP a b c l e (sLeast a b c l e))) := by
  unfold fX8_leastPaper_38
  rw [pe_leastAxis w hb hl he, Option.bind_some, pe_paper w (sLeast_lt a b c l e) hb]; rfl
theorem pe_mleastAxis {h : mv_H} {a b c l e : Nat} (w : LayIs h a b c l e) (hb : a ≤ 20 ∧ b ≤ 20 ∧ c ≤ 20) (hl : l ≤ 9) (he : e ≤ 9) : fX10_leastAxis_55 h = some (nI (sLeast a b c l e)) := by
  have b0 := (sP_lt (x := 0) hb hl he).2.2
  have b1 := (sP_lt (x := 1) hb hl he).2.2
  have b2 := (sP_lt (x := 2) hb hl he).2.2
  unfold fX10_leastAxis_55 fX10_leastAxis_55_b18
  rw [← pz_lit.1, ← pz_lit.2.1, ← pz_lit.2.2]
  simp only [pe_mpaper w (show 0 < 3 by decide), pe_mpaper w (show 1 < 3 by decide), pe_mpaper w (show 2 < 3 by decide), Option.bind_some]
  simp only [pz_lt3 (x := sP a b c l e 1) (y := sP a b c l e 0) (by omega) (by omega), pz_lt3 (x := sP a b c l e 2) (y := sP a b c l e 0) (by omega) (by omega), pz_lt3 (x := sP a b c l e 2) (y := sP a b c l e 1) (by omega) (by omega)]
  unfold sLeast
  by_cases q : sP a b c l e 1 < sP a b c l e 0
  · by_cases q2 : sP a b c l e 2 < sP a b c l e 1 <;> simp [q, q2]
  · by_cases q2 : sP a b c l e 2 < sP a b c l e 0 <;> simp [q, q2]
set_option maxRecDepth 10000 in
theorem st_need (p0 p1 p2 : Int32) : Sim (fX9_need_0 p0 p1 p2) (fX10_need_55 p0 p1 p2) := by
  intro h H
  obtain ⟨N, hG, hM, hN⟩ := H.1
  by_cases hb : pbx p0 (N 0 0) = true
  · by_cases ha : 0 ≤ p1.toInt ∧ p1.toInt ≤ 2
    · by_cases hw : 0 ≤ p2.toInt ∧ p2.toInt ≤ 2
      · obtain ⟨i, hi, rfl, -⟩ := pbx_i hN.1.1 hb
        obtain ⟨x, hx, rfl⟩ := pz_axis ha
        obtain ⟨h1, h2, e1, w1, s1, e2, w2, s2, s12⟩ := q_look hi hG hM hN
        obtain ⟨c1, c2, -⟩ := pz_ax3 x hx
        have hk := hN.b hi
        have m1 := (rd_mb (s1.rdM hM)).1
        rcases pz_three hw with rfl | rfl | rfl
        · refine ⟨nI (sR (N 1 (3 * i)) (N 1 (3 * i + 1)) (N 1 (3 * i + 2)) (N 0 3) x), h1, h2, ?_, ?_, s2.inv H⟩
          · simp [fX9_need_0, pe_bba _ _ (rd_b hG).1, hb, ha, pe_isWithin, pz_32, e1, pe_round w1 hx]
          · simp [fX10_need_55, pe_mb m1, hb, pe_isAxis, ha, pe_in, pz_64, pz_32, e2, c2, (w2 x hx).1]
            exact ⟨c1.1, hx⟩
        · refine ⟨nI (sL (N 1 (3 * i)) (N 1 (3 * i + 1)) (N 1 (3 * i + 2)) (N 0 4) x), h1, h2, ?_, ?_, s2.inv H⟩
          · simp [fX9_need_0, pe_bba _ _ (rd_b hG).1, hb, ha, pe_isWithin, pz_32, e1, pe_reach w1 hx hk]
          · simp [fX10_need_55, pe_mb m1, hb, pe_isAxis, ha, pe_in, pz_64, pz_32, e2, c2, (w2 x hx).2.1]
            exact ⟨c1.1, hx⟩
        · refine ⟨nI (sP (N 1 (3 * i)) (N 1 (3 * i + 1)) (N 1 (3 * i + 2)) (N 0 3) (N 0 4) x), h1, h2, ?_, ?_, s2.inv H⟩
          · simp [fX9_need_0, pe_bba _ _ (rd_b hG).1, hb, ha, pe_isWithin, pz_32, e1, pe_paper w1 hx hk]
          · simp [fX10_need_55, pe_mb m1, hb, pe_isAxis, ha, pe_in, pz_64, pz_32, e2, pe_mpaper w2 hx]
      · refine ⟨-2, h, h, ?_, ?_, H⟩
        · simp [fX9_need_0, pe_bba _ _ (rd_b hG).1, hb, ha, pe_isWithin, pz_32, hw]
        · simp [fX10_need_55, pe_mb (rd_mb hM).1, hb, pe_isAxis, ha, pe_in, pz_64, pz_32, hw]
    · refine ⟨-1, h, h, ?_, ?_, H⟩
      · simp [fX9_need_0, pe_bba _ _ (rd_b hG).1, hb, ha]
      · simp [fX10_need_55, pe_mb (rd_mb hM).1, hb, pe_isAxis, ha]
  · refine ⟨-1, h, h, ?_, ?_, H⟩
    · simp [fX9_need_0, pe_bba _ _ (rd_b hG).1, hb]
    · simp [fX10_need_55, pe_mb (rd_mb hM).1, hb]
set_option maxRecDepth 10000 in
theorem st_least (p0 p1 : Int32) : Sim (fX9_least_0 p0 p1) (fX10_least_55 p0 p1) := by
  intro h H
  obtain ⟨N, hG, hM, hN⟩ := H.1
  by_cases hb : pbx p0 (N 0 0) = true
  · by_cases hw : 0 ≤ p1.toInt ∧ p1.toInt ≤ 1
    · obtain ⟨i, hi, rfl, -⟩ := pbx_i hN.1.1 hb
      obtain ⟨h1, h2, e1, w1, s1, e2, w2, s2, s12⟩ := q_look hi hG hM hN
      have hk := hN.b hi
      have hl := hN.2.1.1
      have he := hN.2.1.2.1
      have m1 := (rd_mb (s1.rdM hM)).1
      rcases pz_two hw with rfl | rfl
      · refine ⟨nI (sLeast (N 1 (3 * i)) (N 1 (3 * i + 1)) (N 1 (3 * i + 2)) (N 0 3) (N 0 4)), h1, h2, ?_, ?_, s2.inv H⟩
        · simp [fX9_least_0, pe_hb (rd_b hG).1, hb, pe_isWithin, pz_32, e1, pe_leastAxis w1 hk hl he]
        · simp [fX10_least_55, pe_mb m1, hb, pe_in, pz_64, pz_32, e2, pe_mleastAxis w2 hk hl he]
      · refine ⟨nI (sP (N 1 (3 * i)) (N 1 (3 * i + 1)) (N 1 (3 * i + 2)) (N 0 3) (N 0 4) (sLeast (N 1 (3 * i)) (N 1 (3 * i + 1)) (N 1 (3 * i + 2)) (N 0 3) (N 0 4))), h1, h2, ?_, ?_, s2.inv H⟩
        · simp [fX9_least_0, pe_hb (rd_b hG).1, hb, pe_isWithin, pz_32, e1, pe_leastPaper w1 hk hl he]
        · simp [fX10_least_55, pe_mb m1, hb, pe_in, pz_64, pz_32, e2, pe_mleastAxis w2 hk hl he, pe_mpaper w2 (sLeast_lt _ _ _ _ _)]
    · refine ⟨-2, h, h, ?_, ?_, H⟩
      · simp [fX9_least_0, pe_hb (rd_b hG).1, hb, pe_isWithin, pz_32, hw]
      · simp [fX10_least_55, pe_mb (rd_mb hM).1, hb, pe_in, pz_64, pz_32, hw]
  · refine ⟨-1, h, h, ?_, ?_, H⟩
    · simp [fX9_least_0, pe_hb (rd_b hG).1, hb]
    · simp [fX10_least_55, pe_mb (rd_mb hM).1, hb]
theorem pz_rem {a d : Nat} (ha : a < 2 ^ 31) (h0 : 0 < d) (hd : d < 2 ^ 31) : nI a - nI a / nI d * nI d = nI (a % d) := pk_rem ha h0 hd
theorem pe_pleatOf {h : mv_H} {g p : Nat} (hg : g < 2 ^ 31) (hp : 1 ≤ p ∧ p ≤ 40) (e : h 1 7 = nI p) : fX9_pleatOf_0 (nI g) h = some (nI (if g % p = 0 then 0 else p - g % p)) := by
  have g1 : ¬ nI p < 1 := show ¬ nI p < nI 1 from nI_nlt (by omega) (by omega)
  have g2 : ¬ nI p = 0 := nI_ne0 (by omega) (by omega)
  have hm : g % p < p := Nat.mod_lt _ (by omega)
  have g3 : (nI (g % p) = 0) = (g % p = 0) := propext (nI_eq (by omega) (by decide))
  simp only [fX9_pleatOf_0, fX1_setting_1]
  simp [e, g1, g2, mv_let, pz_rem hg (show 0 < p by omega) (show p < 2 ^ 31 by omega), g3]
  by_cases q : g % p = 0
  · simp [q, pz_lit]
  · simp [q, pk_sub (show g % p ≤ p by omega)]
theorem pe_pleatBy {h : mv_H} {a b c l e p x : Nat} (w : LayIs h a b c l e) (hx : x < 3) (hb : a ≤ 20 ∧ b ≤ 20 ∧ c ≤ 20) (hp : 1 ≤ p ∧ p ≤ 40) (e9 : h 55 9 = nI p) : fX10_pleatBy_55 (nI x) h = some (nI (if 2 * (sU a b c x + sV a b c x) % p = 0 then 0 else p - 2 * (sU a b c x + sV a b c x) % p)) := by
  have hu := sU_le (c := c) (x := x) hb.1 hb.2.1
  have hv := sV_le (a := a) (x := x) hb.2.1 hb.2.2
  obtain ⟨c1, c2, -⟩ := pz_ax3 x hx
  obtain ⟨g, eg⟩ : ∃ g, g = 2 * (sU a b c x + sV a b c x) := ⟨_, rfl⟩
  have g2 : ¬ nI p = 0 := nI_ne0 (by omega) (by omega)
  have hm : g % p < p := Nat.mod_lt _ (by omega)
  have g3 : (nI (g % p) = 0) = (g % p = 0) := propext (nI_eq (by omega) (by decide))
  have g4 : 2 * (nI (sU a b c x) + nI (sV a b c x)) = nI g := by rw [nI_add, show (2 : Int32) = nI 2 from rfl, pk_mul, eg]
  unfold fX10_pleatBy_55
  rw [if_pos c1, if_pos c1, c2, (w x hx).2.2.1, (w x hx).2.2.2.1, g4, e9, if_pos g2, ← eg]
  simp only [mv_let, pz_rem (show g < 2 ^ 31 by omega) (show 0 < p by omega) (show p < 2 ^ 31 by omega), g3]
  by_cases q : g % p = 0
  · simp [q, pz_lit]
  · simp [q, pk_sub (show g % p ≤ p by omega)]
set_option maxRecDepth 10000 in
theorem st_pleat (p0 p1 : Int32) : Sim (fX9_pleat_0 p0 p1) (fX10_pleat_55 p0 p1) := by
  intro h H
  obtain ⟨N, hG, hM, hN⟩ := H.1
  by_cases hb : pbx p0 (N 0 0) = true
  · by_cases ha : 0 ≤ p1.toInt ∧ p1.toInt ≤ 2
    · obtain ⟨i, hi, rfl, -⟩ := pbx_i hN.1.1 hb
      obtain ⟨x, hx, rfl⟩ := pz_axis ha
      obtain ⟨h1, h2, e1, w1, s1, e2, w2, s2, s12⟩ := q_look hi hG hM hN
      have hk := hN.b hi
      have hu := sU_le (c := N 1 (3 * i + 2)) (x := x) hk.1 hk.2.1
      have hv := sV_le (a := N 1 (3 * i)) (x := x) hk.2.1 hk.2.2
      have hp := hN.2.1.2.2
      have m1 := (rd_mb (s1.rdM hM)).1
      obtain ⟨g, eg⟩ : ∃ g, g = 2 * (sU (N 1 (3 * i)) (N 1 (3 * i + 1)) (N 1 (3 * i + 2)) x + sV (N 1 (3 * i)) (N 1 (3 * i + 1)) (N 1 (3 * i + 2)) x) := ⟨_, rfl⟩
      have k1 := pe_pleatOf (h := h1) (g := g) (p := N 0 5) (by omega) ⟨hp.1, hp.2.1⟩ (rd_s (s1.rdG (Or.inl rfl) hG)).2.2.1
      have k2 := pe_pleatBy w2 hx hk ⟨hp.1, hp.2.1⟩ (rd_ms (s2.rdM hM)).2.2.1
      have k3 := pe_girth w1 hx
      rw [← eg] at k2 k3
      refine ⟨nI (if g % N 0 5 = 0 then 0 else N 0 5 - g % N 0 5), h1, h2, ?_, ?_, s2.inv H⟩
      · simp [fX9_pleat_0, pe_bba _ _ (rd_b hG).1, hb, ha, e1, k3, k1]
      · simp [fX10_pleat_55, pe_mb m1, hb, pe_isAxis, ha, e2, k2]
    · refine ⟨-1, h, h, ?_, ?_, H⟩
      · simp [fX9_pleat_0, pe_bba _ _ (rd_b hG).1, hb, ha]
      · simp [fX10_pleat_55, pe_mb (rd_mb hM).1, hb, pe_isAxis, ha]
  · refine ⟨-1, h, h, ?_, ?_, H⟩
    · simp [fX9_pleat_0, pe_bba _ _ (rd_b hG).1, hb]
    · simp [fX10_pleat_55, pe_mb (rd_mb hM).1, hb]
set_option maxRecDepth 10000 in
theorem st_ribbon (p0 p1 : Int32) : Sim (fX9_ribbon_0 p0 p1) (fX10_ribbon_55 p0 p1) := by
  intro h H
  obtain ⟨N, hG, hM, hN⟩ := H.1
  by_cases hb : pbx p0 (N 0 0) = true
  · by_cases ha : 0 ≤ p1.toInt ∧ p1.toInt ≤ 2
    · obtain ⟨i, hi, rfl, -⟩ := pbx_i hN.1.1 hb
      obtain ⟨x, hx, rfl⟩ := pz_axis ha
      obtain ⟨h1, h2, e1, w1, s1, e2, w2, s2, s12⟩ := q_look hi hG hM hN
      obtain ⟨c1, c2, -⟩ := pz_ax3 x hx
      have m1 := (rd_mb (s1.rdM hM)).1
      have k1 := (rd_s (s1.rdG (Or.inl rfl) hG)).2.2.2
      have k2 := (rd_ms (s2.rdM hM)).2.2.2
      obtain ⟨u, eu⟩ : ∃ u, u = sU (N 1 (3 * i)) (N 1 (3 * i + 1)) (N 1 (3 * i + 2)) x := ⟨_, rfl⟩
      obtain ⟨v, ev⟩ : ∃ v, v = sV (N 1 (3 * i)) (N 1 (3 * i + 1)) (N 1 (3 * i + 2)) x := ⟨_, rfl⟩
      obtain ⟨a, ea⟩ : ∃ a, a = sA (N 1 (3 * i)) (N 1 (3 * i + 1)) (N 1 (3 * i + 2)) x := ⟨_, rfl⟩
      refine ⟨nI (2 * (u + v) + 4 * a + N 0 6), h1, h2, ?_, ?_, s2.inv H⟩
      · have z4 : (4 : Int32) = nI 4 := rfl
        simp [fX9_ribbon_0, pe_bba _ _ (rd_b hG).1, hb, ha, e1, pe_girth w1 hx, pe_along w1 hx, fX1_setting_1, k1, ← eu, ← ev, ← ea, z4, pk_mul, nI_add]
      · obtain ⟨-, -, q1, q2, q3⟩ := w2 x hx
        have z2 : (2 : Int32) = nI 2 := rfl
        simp only [fX10_ribbon_55, pe_mb m1, hb, pe_isAxis, ha, e2, Option.bind_some, if_true, and_self, if_pos c1, c2, q1, q2, q3, k2, ← eu, ← ev, ← ea]
        simp [z2, pk_mul, nI_add]
        congr 1
        omega
    · refine ⟨-1, h, h, ?_, ?_, H⟩
      · simp [fX9_ribbon_0, pe_bba _ _ (rd_b hG).1, hb, ha]
      · simp [fX10_ribbon_55, pe_mb (rd_mb hM).1, hb, pe_isAxis, ha]
  · refine ⟨-1, h, h, ?_, ?_, H⟩
    · simp [fX9_ribbon_0, pe_bba _ _ (rd_b hG).1, hb]
    · simp [fX10_ribbon_55, pe_mb (rd_mb hM).1, hb]
