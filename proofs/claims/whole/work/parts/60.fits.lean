/-! fits, tight -/
theorem pz_max {p q : Nat} (hp : p < 2 ^ 31) (hq : q < 2 ^ 31) : mv_max (nI p) (nI q) = nI (max p q) := by
  unfold mv_max
  by_cases h : p < q
  · rw [if_pos (nI_lt h hq), Nat.max_eq_right (by omega)]
  · rw [if_neg (nI_nlt (by omega) hp), Nat.max_eq_left (by omega)]
def sLo (a b c : Nat) : Nat := min a (min b c)
def sHi (a b c : Nat) : Nat := max a (max b c)
def sMd (a b c : Nat) : Nat := a + b + c - sLo a b c - sHi a b c
def sB (N : Nat → Nat → Nat) (f : Nat → Nat → Nat → Nat) (b : Nat) : Nat := f (N 1 (3 * b)) (N 1 (3 * b + 1)) (N 1 (3 * b + 2))
def sT (N : Nat → Nat → Nat) (f : Nat → Nat → Nat → Nat) (t : Nat) : Nat := f (N 2 (3 * t)) (N 2 (3 * t + 1)) (N 2 (3 * t + 2))
def sFit (N : Nat → Nat → Nat) (t b : Nat) : Bool := decide (¬ sB N sLo b < sT N sLo t ∧ ¬ sB N sMd b < sT N sMd t ∧ ¬ sB N sHi b < sT N sHi t)
theorem sLMH {a b c : Nat} (ha : a ≤ 20) (hb : b ≤ 20) (hc : c ≤ 20) : sLo a b c ≤ 60 ∧ sMd a b c ≤ 60 ∧ sHi a b c ≤ 60 ∧ sLo a b c + sHi a b c ≤ a + b + c := by
  unfold sMd sLo sHi; omega
theorem okN.t {N : Nat → Nat → Nat} (hN : okN N) {i : Nat} (hi : i < 6) : N 2 (3 * i) ≤ 20 ∧ N 2 (3 * i + 1) ≤ 20 ∧ N 2 (3 * i + 2) ≤ 20 := ⟨hN.2.2.2.1.2 _ (by omega), hN.2.2.2.1.2 _ (by omega), hN.2.2.2.1.2 _ (by omega)⟩
theorem pe_side4 {i j : Nat} (hi : i < 6) (hj : j < 3) (h : mv_H) : fX7_side_4 (nI i) (nI j) h = some (h 5 (3 * i + j)) := by
  obtain ⟨⟨x1, y1⟩, ⟨x2, y2⟩, x3, y3⟩ := pz_ix i hi
  have g1 : ¬ nI i < 0 := nI_pos (by omega)
  have g2 : nI i < 6 := nI_lt hi (by decide)
  unfold fX7_side_4
  rcases (show j = 0 ∨ j = 1 ∨ j = 2 by omega) with rfl | rfl | rfl
  · have e : nI i * 3 + nI 0 = nI i * 3 := by simp [pz_lit]
    rw [if_neg g1, if_pos g2, if_neg (by decide), if_pos (by decide), e, if_pos x1, y1]
    rfl
  · rw [if_neg g1, if_pos g2, if_neg (by decide), if_pos (by decide), pz_lit.2.1, if_pos x2, y2]
  · rw [if_neg g1, if_pos g2, if_neg (by decide), if_pos (by decide), pz_lit.2.2, if_pos x3, y3]
theorem pe_ls4 {h : mv_H} {N : Nat → Nat → Nat} {t : Nat} (hG : rdG h 1 N) (hN : okN N) (ht : t < 6) : fX7_lesserSide_4 (nI t) h = some (nI (sT N sLo t)) ∧ fX7_greaterSide_4 (nI t) h = some (nI (sT N sHi t)) ∧ fX7_middleSide_4 (nI t) h = some (nI (sT N sMd t)) := by
  obtain ⟨k1, k2, k3⟩ := hN.t ht
  have e1 : fX7_side_4 (nI t) 0 h = some (nI (N 2 (3 * t))) := by rw [← pz_lit.1, pe_side4 ht (by decide)]; exact congrArg some (rd_2 hG (by omega))
  have e2 : fX7_side_4 (nI t) 1 h = some (nI (N 2 (3 * t + 1))) := by rw [← pz_lit.2.1, pe_side4 ht (by decide)]; exact congrArg some (rd_2 hG (by omega))
  have e3 : fX7_side_4 (nI t) 2 h = some (nI (N 2 (3 * t + 2))) := by rw [← pz_lit.2.2, pe_side4 ht (by decide)]; exact congrArg some (rd_2 hG (by omega))
  have l : fX7_lesserSide_4 (nI t) h = some (nI (sT N sLo t)) := by
    unfold fX7_lesserSide_4
    rw [e1, Option.bind_some, e2, Option.bind_some, e3, Option.bind_some, pz_min (by omega) (by omega), pz_min (by omega) (by omega)]; rfl
  have g : fX7_greaterSide_4 (nI t) h = some (nI (sT N sHi t)) := by
    unfold fX7_greaterSide_4
    rw [e1, Option.bind_some, e2, Option.bind_some, e3, Option.bind_some, pz_max (by omega) (by omega), pz_max (by omega) (by omega)]; rfl
  refine ⟨l, g, ?_⟩
  obtain ⟨b1, b2, b3, b4⟩ := sLMH k1 k2 k3
  unfold fX7_middleSide_4
  simp only [e1, e2, e3, l, g, Option.bind_some, mv_let, nI_add]
  unfold sT
  rw [pk_sub (by omega), pk_sub (by omega)]; rfl
theorem pe_ls2 {h : mv_H} {N : Nat → Nat → Nat} {t : Nat} (hG : rdG h 1 N) (hN : okN N) (ht : t < 6) : fX7_lesserSide_2 (nI t) h = some (nI (sB N sLo t)) ∧ fX7_greaterSide_2 (nI t) h = some (nI (sB N sHi t)) ∧ fX7_middleSide_2 (nI t) h = some (nI (sB N sMd t)) := by
  obtain ⟨k1, k2, k3⟩ := hN.b ht
  have e1 : fX7_side_2 (nI t) 0 h = some (nI (N 1 (3 * t))) := by rw [← pz_lit.1, pe_side2 ht (by decide)]; exact congrArg some (rd_1 hG (by omega))
  have e2 : fX7_side_2 (nI t) 1 h = some (nI (N 1 (3 * t + 1))) := by rw [← pz_lit.2.1, pe_side2 ht (by decide)]; exact congrArg some (rd_1 hG (by omega))
  have e3 : fX7_side_2 (nI t) 2 h = some (nI (N 1 (3 * t + 2))) := by rw [← pz_lit.2.2, pe_side2 ht (by decide)]; exact congrArg some (rd_1 hG (by omega))
  have l : fX7_lesserSide_2 (nI t) h = some (nI (sB N sLo t)) := by
    unfold fX7_lesserSide_2
    rw [e1, Option.bind_some, e2, Option.bind_some, e3, Option.bind_some, pz_min (by omega) (by omega), pz_min (by omega) (by omega)]; rfl
  have g : fX7_greaterSide_2 (nI t) h = some (nI (sB N sHi t)) := by
    unfold fX7_greaterSide_2
    rw [e1, Option.bind_some, e2, Option.bind_some, e3, Option.bind_some, pz_max (by omega) (by omega), pz_max (by omega) (by omega)]; rfl
  refine ⟨l, g, ?_⟩
  obtain ⟨b1, b2, b3, b4⟩ := sLMH k1 k2 k3
  unfold fX7_middleSide_2
  simp only [e1, e2, e3, l, g, Option.bind_some, mv_let, nI_add]
  unfold sB
  rw [pk_sub (by omega), pk_sub (by omega)]; rfl
theorem sBT_le {N : Nat → Nat → Nat} (hN : okN N) {t b : Nat} (ht : t < 6) (hb : b < 6) : (sT N sLo t ≤ 60 ∧ sT N sMd t ≤ 60 ∧ sT N sHi t ≤ 60) ∧ (sB N sLo b ≤ 60 ∧ sB N sMd b ≤ 60 ∧ sB N sHi b ≤ 60) := by
  obtain ⟨k1, k2, k3⟩ := hN.t ht
  obtain ⟨j1, j2, j3⟩ := hN.b hb
  obtain ⟨a1, a2, a3, -⟩ := sLMH k1 k2 k3
  obtain ⟨b1, b2, b3, -⟩ := sLMH j1 j2 j3
  exact ⟨⟨a1, a2, a3⟩, b1, b2, b3⟩
theorem pe_room {h : mv_H} {N : Nat → Nat → Nat} {t b : Nat} (hG : rdG h 1 N) (hN : okN N) (ht : t < 6) (hb : b < 6) : fX9_isRoomFor_0 (nI t) (nI b) h = some (if sFit N t b = true then 1 else 0) := by
  obtain ⟨l4, g4, m4⟩ := pe_ls4 hG hN ht
  obtain ⟨l2, g2, m2⟩ := pe_ls2 hG hN hb
  obtain ⟨⟨a1, a2, a3⟩, b1, b2, b3⟩ := sBT_le hN ht hb
  unfold fX9_isRoomFor_0
  simp only [l4, l2, m4, m2, g4, g2, Option.bind_some, pz_lt3 (show sB N sLo b < 2 ^ 31 by omega) (show sT N sLo t < 2 ^ 31 by omega), pz_lt3 (show sB N sMd b < 2 ^ 31 by omega) (show sT N sMd t < 2 ^ 31 by omega), pz_lt3 (show sB N sHi b < 2 ^ 31 by omega) (show sT N sHi t < 2 ^ 31 by omega)]
  by_cases q1 : sB N sLo b < sT N sLo t
  · rw [if_pos q1, if_neg (by simp only [sFit, decide_eq_true_eq]; omega)]
  · rw [if_neg q1]
    by_cases q2 : sB N sMd b < sT N sMd t
    · rw [if_pos q2, if_neg (by simp only [sFit, decide_eq_true_eq]; omega)]
    · rw [if_neg q2]
      by_cases q3 : sB N sHi b < sT N sHi t
      · rw [if_pos q3, if_neg (by simp only [sFit, decide_eq_true_eq]; omega)]
      · rw [if_neg q3, if_pos (by simp only [sFit, decide_eq_true_eq]; omega)]
def srt (h : mv_H) (f a b c : Nat) : mv_H := mv_u (mv_u (mv_u h 79 f (nI (sLo a b c))) 79 (f + 2) (nI (sHi a b c))) 79 (f + 1) (nI (sMd a b c))
theorem srt_same {h : mv_H} {f a b c : Nat} : Same h (srt h f a b c) := ((Same.u (by unfold scr; omega)).tr (Same.u (by unfold scr; omega))).tr (Same.u (by unfold scr; omega))
theorem pe_s43 {f a b c lo hi : Nat} (hf : f = 0 ∨ f = 3) (hc : c < 2 ^ 31) (hh : hi < 2 ^ 31) (hl : lo + max hi c ≤ a + b + c) (h : mv_H) : fX10_sortSides_55_b43 (nI f) (nI a) (nI b) (nI c) (nI hi) (nI lo) (nI f) h = some (mv_u (mv_u (mv_u h 79 f (nI lo)) 79 (f + 2) (nI (max hi c))) 79 (f + 1) (nI (a + b + c - lo - max hi c))) := by
  have key : ∀ x : Nat, x = max hi c → fX10_sortSides_55_b65 (nI f) (nI a) (nI b) (nI c) (nI x) (nI f + 2) (mv_u h 79 f (nI lo)) = some (mv_u (mv_u (mv_u h 79 f (nI lo)) 79 (f + 2) (nI (max hi c))) 79 (f + 1) (nI (a + b + c - lo - max hi c))) := by
    intro x ex
    rw [← ex] at hl ⊢
    unfold fX10_sortSides_55_b65
    rcases hf with rfl | rfl
    · have e2 : (nI 0 + 2).toNatClampNeg = 2 := by decide
      have e1 : (nI 0 + 1).toNatClampNeg = 1 := by decide
      have e0 : (nI 0).toNatClampNeg = 0 := by decide
      rw [if_pos (by decide)]
      simp only [mv_let]
      rw [if_pos (by decide), if_pos (by decide), if_pos (by decide)]
      simp only [e2, e1, e0, mv_u_at, nI_add]
      simp
      rw [pk_sub (by omega), pk_sub (by omega)]
    · have e2 : (nI 3 + 2).toNatClampNeg = 5 := by decide
      have e1 : (nI 3 + 1).toNatClampNeg = 4 := by decide
      have e0 : (nI 3).toNatClampNeg = 3 := by decide
      rw [if_pos (by decide)]
      simp only [mv_let]
      rw [if_pos (by decide), if_pos (by decide), if_pos (by decide)]
      simp only [e2, e1, e0, mv_u_at, nI_add]
      simp
      rw [pk_sub (by omega), pk_sub (by omega)]
  have ef : mv_in (nI f) 6 ∧ (nI f).toNatClampNeg = f := by rcases hf with rfl | rfl <;> decide
  unfold fX10_sortSides_55_b43
  rw [if_pos ef.1, ef.2]
  simp only [mv_let, pz_lt3 hc hh]
  by_cases q : c < hi
  · rw [if_pos q]; exact key hi (by omega)
  · rw [if_neg q]; exact key c (by omega)
theorem pe_sort {f a b c : Nat} (hf : f = 0 ∨ f = 3) (ha : a ≤ 20) (hb : b ≤ 20) (hc : c ≤ 20) (h : mv_H) : fX10_sortSides_55 (nI f) (nI a) (nI b) (nI c) h = some (srt h f a b c) := by
  unfold fX10_sortSides_55 fX10_sortSides_55_b10 fX10_sortSides_55_b22
  simp only [pz_lt3 (show a < 2 ^ 31 by omega) (show b < 2 ^ 31 by omega), pz_lt3 (show a < 2 ^ 31 by omega) (show c < 2 ^ 31 by omega), pz_lt3 (show b < 2 ^ 31 by omega) (show c < 2 ^ 31 by omega)]
  by_cases q1 : a < b
  · simp only [q1, if_true]
    by_cases q2 : a < c
    · simp only [q2, if_true]
      rw [pe_s43 hf (by omega) (by omega) (by omega)]
      simp only [srt, sMd, show sLo a b c = a by unfold sLo; omega, show sHi a b c = max b c by unfold sHi; omega]
    · simp only [q2, if_false]
      rw [pe_s43 hf (by omega) (by omega) (by omega)]
      simp only [srt, sMd, show sLo a b c = c by unfold sLo; omega, show sHi a b c = max b c by unfold sHi; omega]
  · simp only [q1, if_false]
    by_cases q2 : b < c
    · simp only [q2, if_true]
      rw [pe_s43 hf (by omega) (by omega) (by omega)]
      simp only [srt, sMd, show sLo a b c = b by unfold sLo; omega, show sHi a b c = max a c by unfold sHi; omega]
    · simp only [q2, if_false]
      rw [pe_s43 hf (by omega) (by omega) (by omega)]
      simp only [srt, sMd, show sLo a b c = c by unfold sLo; omega, show sHi a b c = max a c by unfold sHi; omega]
theorem pz_c5 : (4 : Int32).toNatClampNeg = 4 ∧ (5 : Int32).toNatClampNeg = 5 := ⟨rfl, rfl⟩
theorem pe_mfits {h : mv_H} {N : Nat → Nat → Nat} {t b : Nat} (hM : rdM h N) (hN : okN N) (ht : t < 6) (hb : b < 6) : ∃ h1, fX10_fitsIn_55 (nI t) (nI b) h = some (if sFit N t b = true then 1 else 0, h1) ∧ Same h h1 := by
  obtain ⟨k1, k2, k3⟩ := hN.t ht
  obtain ⟨j1, j2, j3⟩ := hN.b hb
  obtain ⟨⟨a1, a2, a3⟩, b1, b2, b3⟩ := sBT_le hN ht hb
  obtain ⟨⟨x1, y1⟩, ⟨x2, y2⟩, x3, y3⟩ := pz_iy t ht
  obtain ⟨⟨u1, v1⟩, ⟨u2, v2⟩, u3, v3⟩ := pz_iy b hb
  obtain ⟨g, eg⟩ : ∃ g, g = srt h 0 (N 2 (3 * t)) (N 2 (3 * t + 1)) (N 2 (3 * t + 2)) := ⟨_, rfl⟩
  obtain ⟨g2, eg2⟩ : ∃ g2, g2 = srt g 3 (N 1 (3 * b)) (N 1 (3 * b + 1)) (N 1 (3 * b + 2)) := ⟨_, rfl⟩
  have s1 : Same h g := eg ▸ srt_same
  have s2 : Same g g2 := eg2 ▸ srt_same
  have hM1 := s1.rdM hM
  have d1 : h 57 (3 * t) = nI (N 2 (3 * t)) := rd_m hM (a := 2) (by decide) (by unfold vld; omega)
  have d2 : h 57 (3 * t + 1) = nI (N 2 (3 * t + 1)) := rd_m hM (a := 2) (by decide) (by unfold vld; omega)
  have d3 : h 57 (3 * t + 2) = nI (N 2 (3 * t + 2)) := rd_m hM (a := 2) (by decide) (by unfold vld; omega)
  have c1 : g 56 (3 * b) = nI (N 1 (3 * b)) := rd_m hM1 (a := 1) (by decide) (by unfold vld; omega)
  have c2 : g 56 (3 * b + 1) = nI (N 1 (3 * b + 1)) := rd_m hM1 (a := 1) (by decide) (by unfold vld; omega)
  have c3 : g 56 (3 * b + 2) = nI (N 1 (3 * b + 2)) := rd_m hM1 (a := 1) (by decide) (by unfold vld; omega)
  have p1 : fX10_sortSides_55 0 (nI (N 2 (3 * t))) (nI (N 2 (3 * t + 1))) (nI (N 2 (3 * t + 2))) h = _ := pe_sort (f := 0) (Or.inl rfl) k1 k2 k3 h
  have p2 : fX10_sortSides_55 3 (nI (N 1 (3 * b))) (nI (N 1 (3 * b + 1))) (nI (N 1 (3 * b + 2))) g = _ := pe_sort (f := 3) (Or.inr rfl) j1 j2 j3 g
  rw [← eg] at p1
  rw [← eg2] at p2
  have r0 : g2 79 0 = nI (sT N sLo t) := by simp [eg2, eg, srt, mv_u_at, sT]
  have r1 : g2 79 1 = nI (sT N sMd t) := by simp [eg2, eg, srt, mv_u_at, sT]
  have r2 : g2 79 2 = nI (sT N sHi t) := by simp [eg2, eg, srt, mv_u_at, sT]
  have r3 : g2 79 3 = nI (sB N sLo b) := by simp [eg2, srt, mv_u_at, sB]
  have r4 : g2 79 4 = nI (sB N sMd b) := by simp [eg2, srt, mv_u_at, sB]
  have r5 : g2 79 5 = nI (sB N sHi b) := by simp [eg2, srt, mv_u_at, sB]
  refine ⟨g2, ?_, s1.tr s2⟩
  unfold fX10_fitsIn_55
  rw [if_pos x1, if_pos x2, if_pos x3, y1, y2, y3, d1, d2, d3, p1, Option.bind_some, if_pos u1, if_pos u2, if_pos u3, v1, v2, v3, c1, c2, c3, p2, Option.bind_some]
  simp only [if_pos (show mv_in 0 6 by decide), if_pos (show mv_in 1 6 by decide), if_pos (show mv_in 2 6 by decide), if_pos (show mv_in 3 6 by decide), if_pos (show mv_in 4 6 by decide), if_pos (show mv_in 5 6 by decide)]
  simp only [pz_c, pz_c5, r0, r1, r2, r3, r4, r5, pz_lt3 (show sB N sLo b < 2 ^ 31 by omega) (show sT N sLo t < 2 ^ 31 by omega), pz_lt3 (show sB N sMd b < 2 ^ 31 by omega) (show sT N sMd t < 2 ^ 31 by omega), pz_lt3 (show sB N sHi b < 2 ^ 31 by omega) (show sT N sHi t < 2 ^ 31 by omega)]
  by_cases q1 : sB N sLo b < sT N sLo t
  · rw [if_pos q1, if_neg (by simp only [sFit, decide_eq_true_eq]; omega)]
  · rw [if_neg q1]
    by_cases q2 : sB N sMd b < sT N sMd t
    · rw [if_pos q2, if_neg (by simp only [sFit, decide_eq_true_eq]; omega)]
    · rw [if_neg q2]
      by_cases q3 : sB N sHi b < sT N sHi t
      · rw [if_pos q3, if_neg (by simp only [sFit, decide_eq_true_eq]; omega)]
      · rw [if_neg q3, if_pos (by simp only [sFit, decide_eq_true_eq]; omega)]
/-- a question that scribbles on one side only, or on none -/
def SimC (fc : mv_H → Option Int32) (fm : mv_H → Option (Int32 × mv_H)) : Prop := ∀ h, Inv h → ∃ r h2, fc h = some r ∧ fm h = some (r, h2) ∧ Inv h2
def SimP (fc fm : mv_H → Option Int32) : Prop := ∀ h, Inv h → ∃ r, fc h = some r ∧ fm h = some r
set_option maxRecDepth 10000 in
theorem st_fits (p0 p1 : Int32) : SimC (fX9_fits_0 p0 p1) (fX10_fits_55 p0 p1) := by
  intro h H
  obtain ⟨N, hG, hM, hN⟩ := H.1
  by_cases hb : pbx p0 (N 0 1) = true
  · by_cases hc : pbx p1 (N 0 0) = true
    · obtain ⟨t, ht, rfl, -⟩ := pbx_i hN.1.2.1 hb
      obtain ⟨b, hb6, rfl, -⟩ := pbx_i hN.1.1 hc
      have k1 := pe_room hG hN ht hb6
      obtain ⟨h1, k2, s1⟩ := pe_mfits hM hN ht hb6
      refine ⟨if sFit N t b = true then 1 else 0, h1, ?_, ?_, s1.inv H⟩
      · simp only [fX9_fits_0, pe_ht (rd_b hG).2.1, hb, pe_hb (rd_b hG).1, hc, k1, Option.bind_some, pz_i0]
        by_cases q : sFit N t b = true <;> simp [q]
      · simp only [fX10_fits_55, pe_mt (rd_mb hM).2.1, hb, pe_mb (rd_mb hM).1, hc, k2, Option.bind_some, pz_i0]
        by_cases q : sFit N t b = true <;> simp [q]
    · refine ⟨-1, h, ?_, ?_, H⟩
      · simp [fX9_fits_0, pe_ht (rd_b hG).2.1, hb, pe_hb (rd_b hG).1, hc]
      · simp [fX10_fits_55, pe_mt (rd_mb hM).2.1, hb, pe_mb (rd_mb hM).1, hc]
  · refine ⟨-1, h, ?_, ?_, H⟩
    · simp [fX9_fits_0, pe_ht (rd_b hG).2.1, hb]
    · simp [fX10_fits_55, pe_mt (rd_mb hM).2.1, hb]
theorem pe_has2k {h : mv_H} {N : Nat → Nat → Nat} (hG : rdG h 1 N) (hN : okN N) {k : Nat} (hk : k < 6) : fX7_has_2 (nI k) h = some (if (N 0 0).testBit k = true then 1 else 0) := by
  rw [pe_has2, (rd_b hG).1]
  exact congrArg some (pz_if (by rw [(pz_i6 k hk).2.2, pz_bit _ hN.1.1 k hk]; exact ⟨fun q => q.2, fun q => ⟨by omega, q⟩⟩))
theorem pe_mbk {h : mv_H} {N : Nat → Nat → Nat} (hM : rdM h N) (hN : okN N) {k : Nat} (hk : k < 6) : fX10_isBox_55 (nI k) h = some (if (N 0 0).testBit k = true then 1 else 0) := by
  rw [pe_isBox, (rd_mb hM).1]
  exact congrArg some (pz_if (by rw [(pz_i6 k hk).2.2, pz_bit _ hN.1.1 k hk]; exact ⟨fun q => q.2, fun q => ⟨by omega, q⟩⟩))
def roomB (N : Nat → Nat → Nat) (t : Nat) : Nat → Bool := fun b => (N 0 0).testBit b && sFit N t b
theorem pe_rmLoop {h : mv_H} {N : Nat → Nat → Nat} {t : Nat} (hG : rdG h 1 N) (hN : okN N) (ht : t < 6) : ∀ (n k m a : Nat), n + k = 6 → n < m → a < 64 → fX9_boxesWithRoomFor_0_b4 m (nI t) (nI a) (nI k) h = some (nI (gb (roomB N t) n k a))
  | n, k, 0, a, _, hm, _ => absurd hm (by omega)
  | 0, k, m + 1, a, hn, _, _ => by
    rw [show k = 6 by omega, fX9_boxesWithRoomFor_0_b4, if_neg (by decide)]; rfl
  | n + 1, k, m + 1, a, hn, hm, ha => by
    have hk : k < 6 := by omega
    have ho := pz_or a ha k hk
    have ih := fun a' (ha' : a' < 64) => pe_rmLoop hG hN ht n (k + 1) m a' (by omega) (by omega) ha'
    rw [fX9_boxesWithRoomFor_0_b4, if_pos (pz_l6 hk)]
    simp only [pe_has2k hG hN hk, pe_room hG hN ht hk, Option.bind_some, pz_i0, mv_let, fX9_boxesWithRoomFor_0_b39, nI_1, ho.1]
    unfold gb
    by_cases q : (N 0 0).testBit k = true
    · by_cases q2 : sFit N t k = true
      · simp [roomB, q, q2]; exact ih _ ho.2
      · simp [roomB, q, q2]; exact ih a ha
    · simp [roomB, q]; exact ih a ha
theorem pe_rm {h : mv_H} {N : Nat → Nat → Nat} {t : Nat} (hG : rdG h 1 N) (hN : okN N) (ht : t < 6) : fX9_boxesWithRoomFor_0 (nI t) h = some (nI (gb (roomB N t) 6 0 0)) := by
  unfold fX9_boxesWithRoomFor_0
  rw [← pz_lit.1]
  exact pe_rmLoop hG hN ht 6 0 mv_F 0 rfl (by rw [mv_F_eq]; decide) (by decide)
def sPap (N : Nat → Nat → Nat) (b : Nat) : Nat := sP (N 1 (3 * b)) (N 1 (3 * b + 1)) (N 1 (3 * b + 2)) (N 0 3) (N 0 4) (sLeast (N 1 (3 * b)) (N 1 (3 * b + 1)) (N 1 (3 * b + 2)) (N 0 3) (N 0 4))
theorem sPap_le {N : Nat → Nat → Nat} (hN : okN N) {b : Nat} (hb : b < 6) : sPap N b ≤ 5162 := (sP_lt (hN.b hb) hN.2.1.1 hN.2.1.2.1).2.2
theorem pe_clp {h : mv_H} {N : Nat → Nat → Nat} {b : Nat} (hG : rdG h 1 N) (hN : okN N) (hb : b < 6) : ∃ h1, fX9_wrapOf_0 (nI b) h = some h1 ∧ fX8_leastPaper_38 h1 = some (nI (sPap N b)) ∧ Same h h1 :=
  ⟨_, pe_wrapOf hb hG, pe_leastPaper wr_is (hN.b hb) hN.2.1.1 hN.2.1.2.1, wr_same⟩
theorem pe_mlp {h : mv_H} {N : Nat → Nat → Nat} {b : Nat} (hM : rdM h N) (hN : okN N) (hb : b < 6) : ∃ h1, fX10_leastPaper_55 (nI b) h = some (nI (sPap N b), h1) ∧ Same h h1 := by
  obtain ⟨h2, e2, w2, s2⟩ := pe_look hb hM hN
  refine ⟨h2, ?_, s2⟩
  unfold fX10_leastPaper_55
  rw [e2, Option.bind_some, pe_mleastAxis w2 (hN.b hb) hN.2.1.1 hN.2.1.2.1, Option.bind_some, pe_mpaper w2 (sLeast_lt _ _ _ _ _)]; rfl
def bp (N : Nat → Nat → Nat) (o : Option Nat) : Int32 := match o with
  | none => 0
  | some j => nI (sPap N j)
theorem pe_tiLoop {N : Nat → Nat → Nat} {T : Nat} (hN : okN N) (hT : T < 64) : ∀ (n k m : Nat) (o : Option Nat) (h : mv_H), n + k = 6 → n < m → bel k o → rdG h 1 N → ∃ h', fX9_tight_0_b31 m (nI T) (enc o) (bp N o) (nI k) h = some (enc (wfd (fun b => T.testBit b) (sPap N) n k o), h') ∧ Same h h'
  | n, k, 0, o, h, _, hm, _, _ => absurd hm (by omega)
  | 0, k, m + 1, o, h, hn, _, _, _ => by
    refine ⟨h, ?_, Same.rf h⟩
    rw [show k = 6 by omega, fX9_tight_0_b31, if_neg (by decide)]; rfl
  | n + 1, k, m + 1, o, h, hn, hm, ho, hG => by
    have hk : k < 6 := by omega
    have ih := fun h' hG' => pe_tiLoop hN hT n (k + 1) m (wst (fun b => T.testBit b) (sPap N) k o) h' (by omega) (by omega) (wst_bel ho) hG'
    have bk := sPap_le hN hk
    rw [fX9_tight_0_b31, if_pos (pz_l6 hk)]
    simp only [pz_isIn hT hk, Option.bind_some, pz_i0, fX9_tight_0_b60, fX9_tight_0_b84, fX9_tight_0_b91, nI_1, enc_eq ho (by omega)]
    rw [wfd]
    by_cases q : T.testBit k = true
    · obtain ⟨h1, e1, e2, s1⟩ := pe_clp hG hN hk
      obtain ⟨h', e', s'⟩ := ih h1 (s1.rdG (Or.inl rfl) hG)
      refine ⟨h', ?_, s1.tr s'⟩
      rw [← e']
      simp only [q, not_true_eq_false, if_false, e1, e2, Option.bind_some]
      cases o with
      | none => simp [wst, q, enc, bp]
      | some j =>
        have bj := sPap_le hN (show j < 6 by have := ho j rfl; omega)
        simp only [bp, pz_lt3 (show sPap N k < 2 ^ 31 by omega) (show sPap N j < 2 ^ 31 by omega)]
        by_cases q2 : sPap N k < sPap N j <;> simp [wst, q, q2, enc, bp]
    · obtain ⟨h', e', s'⟩ := ih h hG
      refine ⟨h', ?_, s'⟩
      rw [← e']
      simp [wst, q]
theorem pe_mtiLoop {N : Nat → Nat → Nat} {t : Nat} (hN : okN N) (ht : t < 6) : ∀ (n k m : Nat) (o : Option Nat) (h : mv_H), n + k = 6 → n < m → bel k o → rdM h N → ∃ h', fX10_tight_55_b15 m (nI t) (enc o) (nI k) h = some (enc (wfd (roomB N t) (sPap N) n k o), h') ∧ Same h h'
  | n, k, 0, o, h, _, hm, _, _ => absurd hm (by omega)
  | 0, k, m + 1, o, h, hn, _, _, _ => by
    refine ⟨h, ?_, Same.rf h⟩
    rw [show k = 6 by omega, fX10_tight_55_b15, if_neg (by decide)]; rfl
  | n + 1, k, m + 1, o, h, hn, hm, ho, hM => by
    have hk : k < 6 := by omega
    have ih := fun h' hM' => pe_mtiLoop hN ht n (k + 1) m (wst (roomB N t) (sPap N) k o) h' (by omega) (by omega) (wst_bel ho) hM'
    have bk := sPap_le hN hk
    rw [fX10_tight_55_b15, if_pos (pz_l6 hk)]
    simp only [pe_mbk hM hN hk, Option.bind_some, pz_i0, fX10_tight_55_b72, fX10_tight_55_b60, fX10_tight_55_b59, fX10_tight_55_b55, nI_1]
    rw [wfd]
    by_cases q : (N 0 0).testBit k = true
    · obtain ⟨h1, e1, s1⟩ := pe_mfits hM hN ht hk
      have hM1 := s1.rdM hM
      simp only [q, not_true_eq_false, if_false, e1, Option.bind_some, pz_i0]
      by_cases q1 : sFit N t k = true
      · simp only [q1, not_true_eq_false, if_false, enc_lt ho (show k ≤ 2 ^ 31 by omega)]
        cases o with
        | none =>
          obtain ⟨h', e', s'⟩ := ih h1 hM1
          refine ⟨h', ?_, s1.tr s'⟩
          rw [← e']
          simp [wst, roomB, q, q1, enc]
        | some j =>
          have hj : j < 6 := by have := ho j rfl; omega
          have bj := sPap_le hN hj
          obtain ⟨h2, e2, s2⟩ := pe_mlp hM1 hN hk
          obtain ⟨h3, e3, s3⟩ := pe_mlp (s2.rdM hM1) hN hj
          obtain ⟨h', e', s'⟩ := ih h3 (s3.rdM (s2.rdM hM1))
          refine ⟨h', ?_, ((s1.tr s2).tr s3).tr s'⟩
          rw [← e']
          simp only [enc_some, e2, e3, Option.bind_some, reduceCtorEq, if_false, pz_lt3 (show sPap N k < 2 ^ 31 by omega) (show sPap N j < 2 ^ 31 by omega)]
          by_cases q2 : sPap N k < sPap N j <;> simp [wst, roomB, q, q1, q2, enc]
      · obtain ⟨h', e', s'⟩ := ih h1 hM1
        refine ⟨h', ?_, s1.tr s'⟩
        rw [← e']
        simp [wst, roomB, q, q1]
    · obtain ⟨h', e', s'⟩ := ih h hM
      refine ⟨h', ?_, s'⟩
      rw [← e']
      simp [wst, roomB, q]
set_option maxRecDepth 10000 in
theorem st_tight (p0 : Int32) : Sim (fX9_tight_0 p0) (fX10_tight_55 p0) := by
  intro h H
  obtain ⟨N, hG, hM, hN⟩ := H.1
  by_cases hb : pbx p0 (N 0 1) = true
  · obtain ⟨t, ht, rfl, -⟩ := pbx_i hN.1.2.1 hb
    have hl : gb (roomB N t) 6 0 0 < 64 := gb_lt 6 0 0 (by decide) (by decide)
    obtain ⟨h1, e1, s1⟩ := pe_tiLoop hN hl 6 0 mv_F none h rfl (by rw [mv_F_eq]; decide) (bel_none 0) hG
    obtain ⟨h2, e2, s2⟩ := pe_mtiLoop hN ht 6 0 mv_F none h1 rfl (by rw [mv_F_eq]; decide) (bel_none 0) (s1.rdM hM)
    have hcg : wfd (fun b => (gb (roomB N t) 6 0 0).testBit b) (sPap N) 6 0 none = wfd (roomB N t) (sPap N) 6 0 none := by
      refine wfd_congr 6 0 none (bel_none 0) (fun j _ hj => ?_) (fun j _ => rfl)
      have h6 : 0 ≤ j ∧ j < 0 + 6 := by omega
      rw [gb_bit, decide_eq_true h6]
      simp
    rw [hcg] at e1
    refine ⟨enc (wfd (roomB N t) (sPap N) 6 0 none), h1, h2, ?_, ?_, (s1.tr s2).inv H⟩
    · simp only [fX9_tight_0, pe_ht (rd_b hG).2.1, hb, pe_rm hG hN ht, Option.bind_some, if_true]
      exact e1
    · simp only [fX10_tight_55, pe_mt (rd_mb (s1.rdM hM)).2.1, hb, Option.bind_some, if_true]
      exact e2
  · refine ⟨-1, h, h, ?_, ?_, H⟩
    · simp [fX9_tight_0, pe_ht (rd_b hG).2.1, hb]
    · simp [fX10_tight_55, pe_mt (rd_mb hM).2.1, hb]
