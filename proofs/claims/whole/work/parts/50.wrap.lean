/-! one solid measured, on both sides -/
def sA (a b c x : Nat) : Nat := if x = 0 then a else if x = 1 then b else c
def sU (a b _c x : Nat) : Nat := if x = 0 then b else a
def sV (_a b c x : Nat) : Nat := if x = 2 then b else c
def sR (a b c l x : Nat) : Nat := 2 * (sU a b c x + sV a b c x) + l
def sL (a b c e x : Nat) : Nat := sA a b c x + min (sU a b c x) (sV a b c x) + 2 * e
def sP (a b c l e x : Nat) : Nat := sR a b c l x * sL a b c e x
def WrapIs (h : mv_H) (a b c l e : Nat) : Prop := h 38 0 = nI a ∧ h 38 1 = nI b ∧ h 38 2 = nI c ∧ h 38 3 = nI l ∧ h 38 4 = nI e
def LayIs (h : mv_H) (a b c l e : Nat) : Prop := ∀ x, x < 3 → h 65 x = nI (sR a b c l x) ∧ h 66 x = nI (sL a b c e x) ∧ h 67 x = nI (sU a b c x) ∧ h 68 x = nI (sV a b c x) ∧ h 69 x = nI (sA a b c x)
theorem pz_min {p q : Nat} (hp : p < 2 ^ 31) (hq : q < 2 ^ 31) : mv_min (nI p) (nI q) = nI (min p q) := by
  unfold mv_min
  by_cases h : q < p
  · rw [if_pos (nI_lt h hp), Nat.min_eq_right (by omega)]
  · rw [if_neg (nI_nlt (by omega) hq), Nat.min_eq_left (by omega)]
theorem pz_lit : nI 0 = 0 ∧ nI 1 = 1 ∧ nI 2 = 2 := ⟨rfl, rfl, rfl⟩
theorem pe_u {h : mv_H} {a b c l e x : Nat} (w : WrapIs h a b c l e) (hx : x < 3) : fX8_u_38 (nI x) h = some (nI (sU a b c x)) := by
  obtain ⟨h0, h1, h2, h3, h4⟩ := w
  rcases (show x = 0 ∨ x = 1 ∨ x = 2 by omega) with rfl | rfl | rfl <;> simp [fX8_u_38, sU, pz_lit, h0, h1]
theorem pe_v {h : mv_H} {a b c l e x : Nat} (w : WrapIs h a b c l e) (hx : x < 3) : fX8_v_38 (nI x) h = some (nI (sV a b c x)) := by
  obtain ⟨h0, h1, h2, h3, h4⟩ := w
  rcases (show x = 0 ∨ x = 1 ∨ x = 2 by omega) with rfl | rfl | rfl <;> simp [fX8_v_38, sV, pz_lit, h1, h2]
theorem pe_along {h : mv_H} {a b c l e x : Nat} (w : WrapIs h a b c l e) (hx : x < 3) : fX8_along_38 (nI x) h = some (nI (sA a b c x)) := by
  obtain ⟨h0, h1, h2, h3, h4⟩ := w
  rcases (show x = 0 ∨ x = 1 ∨ x = 2 by omega) with rfl | rfl | rfl <;> simp [fX8_along_38, sA, pz_lit, h0, h1, h2]
theorem pe_round {h : mv_H} {a b c l e x : Nat} (w : WrapIs h a b c l e) (hx : x < 3) : fX8_round_38 (nI x) h = some (nI (sR a b c l x)) := by
  unfold fX8_round_38
  rw [pe_u w hx, Option.bind_some, pe_v w hx, Option.bind_some, w.2.2.2.1, sR]
  rw [nI_add, show (2 : Int32) = nI 2 from rfl, pk_mul, nI_add]
theorem pe_girth {h : mv_H} {a b c l e x : Nat} (w : WrapIs h a b c l e) (hx : x < 3) : fX8_girth_38 (nI x) h = some (nI (2 * (sU a b c x + sV a b c x))) := by
  unfold fX8_girth_38
  rw [pe_u w hx, Option.bind_some, pe_v w hx, Option.bind_some]
  rw [nI_add, show (2 : Int32) = nI 2 from rfl, pk_mul]
theorem sU_le {a b c x n : Nat} (ha : a ≤ n) (hb : b ≤ n) : sU a b c x ≤ n := by unfold sU; split <;> assumption
theorem sV_le {a b c x n : Nat} (hb : b ≤ n) (hc : c ≤ n) : sV a b c x ≤ n := by unfold sV; split <;> assumption
theorem sA_le {a b c x n : Nat} (ha : a ≤ n) (hb : b ≤ n) (hc : c ≤ n) : sA a b c x ≤ n := by unfold sA; split <;> (try split) <;> assumption
theorem pe_reach {h : mv_H} {a b c l e x : Nat} (w : WrapIs h a b c l e) (hx : x < 3) (hb : a ≤ 20 ∧ b ≤ 20 ∧ c ≤ 20) : fX8_reach_38 (nI x) h = some (nI (sL a b c e x)) := by
  have hu := sU_le (c := c) (x := x) hb.1 hb.2.1
  have hv := sV_le (a := a) (x := x) hb.2.1 hb.2.2
  unfold fX8_reach_38
  rw [pe_along w hx, Option.bind_some, pe_u w hx, Option.bind_some, pe_v w hx, Option.bind_some, w.2.2.2.2, sL, pz_min (by omega) (by omega)]
  rw [nI_add, show (2 : Int32) = nI 2 from rfl, pk_mul, nI_add]
theorem pe_paper {h : mv_H} {a b c l e x : Nat} (w : WrapIs h a b c l e) (hx : x < 3) (hb : a ≤ 20 ∧ b ≤ 20 ∧ c ≤ 20) : fX8_paper_38 (nI x) h = some (nI (sP a b c l e x)) := by
  unfold fX8_paper_38
  rw [pe_round w hx, Option.bind_some, pe_reach w hx hb, Option.bind_some, pk_mul]
  rfl
theorem mv_F_s : ∃ m, mv_F = m + 100 := ⟨999900, mv_F_eq⟩
def wr (h : mv_H) (a b c l e : Int32) : mv_H := mv_u (mv_u (mv_u (mv_u (mv_u h 38 0 a) 38 1 b) 38 2 c) 38 3 l) 38 4 e
theorem wr_is {h : mv_H} {a b c l e : Nat} : WrapIs (wr h (nI a) (nI b) (nI c) (nI l) (nI e)) a b c l e := by
  simp [WrapIs, wr, mv_u_at]
theorem wr_same {h : mv_H} {a b c l e : Int32} : Same h (wr h a b c l e) :=
  ((((Same.u (by unfold scr; omega)).tr (Same.u (by unfold scr; omega))).tr (Same.u (by unfold scr; omega))).tr (Same.u (by unfold scr; omega))).tr (Same.u (by unfold scr; omega))
theorem pe_measure (a b c : Int32) (h : mv_H) : fX9_measure_0 a b c h = some (wr h a b c (h 1 5) (h 1 6)) := by
  simp [fX9_measure_0, fX1_setting_1, fX8_measure_38, mv_let, wr]
theorem pe_side2 {i j : Nat} (hi : i < 6) (hj : j < 3) (h : mv_H) : fX7_side_2 (nI i) (nI j) h = some (h 3 (3 * i + j)) := by
  obtain ⟨⟨x1, y1⟩, ⟨x2, y2⟩, x3, y3⟩ := pz_ix i hi
  have g1 : ¬ nI i < 0 := nI_pos (by omega)
  have g2 : nI i < 6 := nI_lt hi (by decide)
  unfold fX7_side_2
  rcases (show j = 0 ∨ j = 1 ∨ j = 2 by omega) with rfl | rfl | rfl
  · have e : nI i * 3 + nI 0 = nI i * 3 := by simp [pz_lit]
    rw [if_neg g1, if_pos g2, if_neg (by decide), if_pos (by decide), e, if_pos x1, y1]
    rfl
  · rw [if_neg g1, if_pos g2, if_neg (by decide), if_pos (by decide), pz_lit.2.1, if_pos x2, y2]
  · rw [if_neg g1, if_pos g2, if_neg (by decide), if_pos (by decide), pz_lit.2.2, if_pos x3, y3]
theorem pe_side6 {i j : Nat} (hi : i < 6) (hj : j < 3) (h : mv_H) : fX7_side_6 (nI i) (nI j) h = some (h 7 (3 * i + j)) := by
  obtain ⟨⟨x1, y1⟩, ⟨x2, y2⟩, x3, y3⟩ := pz_ix i hi
  have g1 : ¬ nI i < 0 := nI_pos (by omega)
  have g2 : nI i < 6 := nI_lt hi (by decide)
  unfold fX7_side_6
  rcases (show j = 0 ∨ j = 1 ∨ j = 2 by omega) with rfl | rfl | rfl
  · have e : nI i * 3 + nI 0 = nI i * 3 := by simp [pz_lit]
    rw [if_neg g1, if_pos g2, if_neg (by decide), if_pos (by decide), e, if_pos x1, y1]
    rfl
  · rw [if_neg g1, if_pos g2, if_neg (by decide), if_pos (by decide), pz_lit.2.1, if_pos x2, y2]
  · rw [if_neg g1, if_pos g2, if_neg (by decide), if_pos (by decide), pz_lit.2.2, if_pos x3, y3]
/-- box i of a state, as the class measures it -/
theorem pe_wrapOf {i : Nat} (hi : i < 6) {h : mv_H} {N : Nat → Nat → Nat} (hG : rdG h 1 N) : fX9_wrapOf_0 (nI i) h = some (wr h (nI (N 1 (3 * i))) (nI (N 1 (3 * i + 1))) (nI (N 1 (3 * i + 2))) (nI (N 0 3)) (nI (N 0 4))) := by
  unfold fX9_wrapOf_0
  rw [← pz_lit.1, ← pz_lit.2.1, ← pz_lit.2.2, pe_side2 hi (by decide), Option.bind_some, pe_side2 hi (by decide), Option.bind_some, pe_side2 hi (by decide), Option.bind_some, pe_measure, Option.bind_some, (rd_s hG).1, (rd_s hG).2.1, rd_1 hG (by omega), rd_1 hG (by omega), rd_1 hG (by omega)]
  rfl
def lay1 (h : mv_H) (a b c l e x : Nat) : mv_H := mv_u (mv_u (mv_u (mv_u h 67 x (nI (sU a b c x))) 68 x (nI (sV a b c x))) 65 x (nI (sR a b c l x))) 66 x (nI (sL a b c e x))
theorem pz_lt3 {x y : Nat} (hx : x < 2 ^ 31) (hy : y < 2 ^ 31) : (nI x < nI y) = (x < y) := propext (nI_ltI hx hy)
theorem pz_R {u v l : Nat} : 2 * (nI u + nI v) + nI l = nI (2 * (u + v) + l) := by
  rw [nI_add, show (2 : Int32) = nI 2 from rfl, pk_mul, nI_add]
theorem pz_L {u v e : Nat} : nI u + nI v + 2 * nI e = nI (u + v + 2 * e) := by
  rw [nI_add, show (2 : Int32) = nI 2 from rfl, pk_mul, nI_add]
theorem pe_lay1 {n x : Nat} (hx : x < 3) {h : mv_H} {a b c l e : Nat} (hb : a ≤ 20 ∧ b ≤ 20 ∧ c ≤ 20) (hl : h 55 7 = nI l) (he : h 55 8 = nI e) (hs : h 69 x = nI (sA a b c x)) : fX10_layBox_55_b24 (n + 1) (nI a) (nI b) (nI c) (nI x) h = fX10_layBox_55_b24 n (nI a) (nI b) (nI c) (nI (x + 1)) (lay1 h a b c l e x) := by
  have hu := sU_le (c := c) (x := x) hb.1 hb.2.1
  have hv := sV_le (a := a) (x := x) hb.2.1 hb.2.2
  have c3 : mv_in (nI x) 3 ∧ (nI x).toNatClampNeg = x := (show ∀ x, x < 3 → mv_in (nI x) 3 ∧ (nI x).toNatClampNeg = x by decide) x hx
  have e46 : ∀ k U, U = nI (sU a b c x) → fX10_layBox_55_b46 k (nI a) (nI b) (nI c) (nI x) U (nI x) h = k (nI a) (nI b) (nI c) (nI (x + 1)) (lay1 h a b c l e x) := by
    intro k U hU
    have e64 : ∀ V, V = nI (sV a b c x) → fX10_layBox_55_b64 k (nI a) (nI b) (nI c) (nI x) V (nI x) (mv_u h 67 x U) = k (nI a) (nI b) (nI c) (nI (x + 1)) (lay1 h a b c l e x) := by
      intro V hV
      subst hU
      subst hV
      unfold fX10_layBox_55_b64 fX10_layBox_55_b141
      simp only [if_pos c3.1, c3.2, mv_let]
      have hlt := pz_lt3 (x := sU a b c x) (y := sV a b c x) (by omega) (by omega)
      simp only [mv_u_at]
      by_cases q : sU a b c x < sV a b c x
      · simp [hl, he, hs, hlt, q, pz_R, pz_L, nI_1, lay1, sR, sL, Nat.min_eq_left (Nat.le_of_lt q)]
      · simp [hl, he, hs, hlt, q, pz_R, pz_L, nI_1, lay1, sR, sL, Nat.min_eq_right (Nat.le_of_not_lt q)]
    unfold fX10_layBox_55_b46
    simp only [if_pos c3.1, c3.2, mv_let]
    by_cases q : nI x = 2
    · rw [if_pos q]
      exact e64 _ (by have : x = 2 := (nI_eq (by omega) (by decide)).mp q
                      rw [this]; rfl)
    · rw [if_neg q]
      exact e64 _ (by have : x ≠ 2 := fun z => q (by rw [z]; rfl)
                      simp [sV, this])
  rw [fX10_layBox_55_b24, if_pos (show nI x < 3 from nI_lt hx (by decide))]
  by_cases q : nI x = 0
  · rw [if_pos q]
    exact e46 _ _ (by have : x = 0 := (nI_eq (by omega) (by decide)).mp q
                      rw [this]; rfl)
  · rw [if_neg q]
    exact e46 _ _ (by have : x ≠ 0 := fun z => q (by rw [z]; rfl)
                      simp [sU, this])
theorem pe_layBox {h : mv_H} {a b c l e : Nat} (hb : a ≤ 20 ∧ b ≤ 20 ∧ c ≤ 20) (hl : h 55 7 = nI l) (he : h 55 8 = nI e) : ∃ h1, fX10_layBox_55 (nI a) (nI b) (nI c) h = some h1 ∧ LayIs h1 a b c l e ∧ Same h h1 := by
  obtain ⟨m, hm⟩ : ∃ m, mv_F = m + 1 + 1 + 1 + 1 := ⟨999996, mv_F_eq⟩
  obtain ⟨h0, e0⟩ : ∃ h0, h0 = mv_u (mv_u (mv_u h 69 0 (nI a)) 69 1 (nI b)) 69 2 (nI c) := ⟨_, rfl⟩
  have s0 : h0 69 0 = nI (sA a b c 0) ∧ h0 69 1 = nI (sA a b c 1) ∧ h0 69 2 = nI (sA a b c 2) ∧ h0 55 7 = nI l ∧ h0 55 8 = nI e := by
    rw [e0]; simp [mv_u_at, sA, hl, he]
  have hrun : fX10_layBox_55 (nI a) (nI b) (nI c) h = some (lay1 (lay1 (lay1 h0 a b c l e 0) a b c l e 1) a b c l e 2) := by
    unfold fX10_layBox_55
    rw [if_pos (by decide)]
    simp only [mv_let]
    rw [if_pos (by decide), if_pos (by decide), pz_c.1, pz_c.2.1, pz_c.2.2.1, ← e0, hm, ← pz_lit.1]
    rw [pe_lay1 (by decide) hb s0.2.2.2.1 s0.2.2.2.2 s0.1]
    rw [pe_lay1 (by decide) hb (l := l) (e := e) (by simp [lay1, mv_u_at, s0]) (by simp [lay1, mv_u_at, s0]) (by simp [lay1, mv_u_at, s0])]
    rw [pe_lay1 (by decide) hb (l := l) (e := e) (by simp [lay1, mv_u_at, s0]) (by simp [lay1, mv_u_at, s0]) (by simp [lay1, mv_u_at, s0])]
    rw [fX10_layBox_55_b24, if_neg (by decide)]
  refine ⟨_, hrun, ?_, ?_⟩
  · intro x hx
    rcases (show x = 0 ∨ x = 1 ∨ x = 2 by omega) with rfl | rfl | rfl <;> simp [lay1, mv_u_at, s0]
  · have u1 : ∀ (g : mv_H) (x : Nat), Same g (lay1 g a b c l e x) := fun g x => (((Same.u (by unfold scr; omega)).tr (Same.u (by unfold scr; omega))).tr (Same.u (by unfold scr; omega))).tr (Same.u (by unfold scr; omega))
    have u0 : Same h h0 := by
      rw [e0]
      exact ((Same.u (by unfold scr; omega)).tr (Same.u (by unfold scr; omega))).tr (Same.u (by unfold scr; omega))
    exact ((u0.tr (u1 _ 0)).tr (u1 _ 1)).tr (u1 _ 2)
theorem pe_look {i : Nat} (hi : i < 6) {h : mv_H} {N : Nat → Nat → Nat} (hM : rdM h N) (hN : okN N) : ∃ h1, fX10_look_55 (nI i) h = some h1 ∧ LayIs h1 (N 1 (3 * i)) (N 1 (3 * i + 1)) (N 1 (3 * i + 2)) (N 0 3) (N 0 4) ∧ Same h h1 := by
  obtain ⟨⟨x1, y1⟩, ⟨x2, y2⟩, x3, y3⟩ := pz_iy i hi
  have hr : ∀ j, j < 18 → h 56 j = nI (N 1 j) := fun j hj => rd_m hM (a := 1) (by decide) (by unfold vld; omega)
  obtain ⟨h1, e1, e2, e3⟩ := pe_layBox (h := h) (a := N 1 (3 * i)) (b := N 1 (3 * i + 1)) (c := N 1 (3 * i + 2)) ⟨hN.2.2.2.1.1 _ (by omega), hN.2.2.2.1.1 _ (by omega), hN.2.2.2.1.1 _ (by omega)⟩ (rd_ms hM).1 (rd_ms hM).2.1
  refine ⟨h1, ?_, e2, e3⟩
  unfold fX10_look_55
  rw [if_pos x1, if_pos x2, if_pos x3, y1, y2, y3, hr _ (by omega), hr _ (by omega), hr _ (by omega), e1]
  rfl
