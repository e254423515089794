/-! cut -/
theorem pz_shl4 : ∀ m, m ≤ 4 → (1 : Int32) <<< (nI m &&& 31) = nI (2 ^ m) := by decide +kernel
theorem pz_ixm : ∀ m, m ≤ 4 → ∀ σ, σ < 16 → (1 ≤ σ ∧ σ < 2 ^ m ∧ σ = lb σ) → pc (σ - 1) < m := by decide +kernel
theorem lb_lt : ∀ σ, σ < 16 → lb σ < 16 := by decide +kernel
def PZ (h : mv_H) (Y : Nat → Sz) (m : Nat) : Prop := h 55 30 = nI m ∧ ∀ j, j < m → h 70 j = nI (Y j).1 ∧ h 71 j = nI (Y j).2
def Qv (h h' : mv_H) : Prop := ∀ o k, ¬ (o = 55 ∧ k = 35) → ¬ (72 ≤ o ∧ o ≤ 75) → h' o k = h o k
theorem Qv.tr {a b c : mv_H} (h1 : Qv a b) (h2 : Qv b c) : Qv a c := fun o k q1 q2 => (h2 o k q1 q2).trans (h1 o k q1 q2)
theorem Pv.qv {a b : mv_H} {σ : Nat} (h1 : Pv a b σ) : Qv a b := fun o k q1 q2 => h1 o k q1 (by omega) (by omega)
theorem Qv.pz {h h' : mv_H} {Y : Nat → Sz} {m : Nat} (q : Qv h h') (p : PZ h Y m) : PZ h' Y m := ⟨(q 55 30 (by omega) (by omega)).trans p.1, fun j hj => ⟨(q 70 j (by omega) (by omega)).trans (p.2 j hj).1, (q 71 j (by omega) (by omega)).trans (p.2 j hj).2⟩⟩
theorem pe_fs7 {Y : Nat → Sz} {m : Nat} (hY : ∀ k, (Y k).1 ≤ 150 ∧ (Y k).2 ≤ 150) (hm : m ≤ 4) : ∀ (n σ fuel : Nat) (h : mv_H), n + σ = 2 ^ m → 1 ≤ σ → n < fuel → PZ h Y m → OT h Y σ → h 55 35 = nI (fr σ) → ∃ h', fX10_findShapes_55_b7 fuel (nI σ) h = some h' ∧ Qv h h' ∧ OT h' Y (2 ^ m) ∧ h' 55 35 = nI (fr (2 ^ m))
  | n, σ, 0, h, _, _, hf, _, _, _ => absurd hf (by omega)
  | 0, σ, fuel + 1, h, hn, h1, _, P, O, e35 => by
    have m16 : 2 ^ m ≤ 16 := Nat.le_trans (Nat.pow_le_pow_right (by decide) hm) (by decide)
    obtain rfl : σ = 2 ^ m := by omega
    refine ⟨h, ?_, fun _ _ _ _ => rfl, O, e35⟩
    rw [fX10_findShapes_55_b7, P.1, pz_shl4 m hm, if_neg (nI_nlt (Nat.le_refl _) (by omega))]
  | n + 1, σ, fuel + 1, h, hn, h1, hf, P, O, e35 => by
    have m16 : 2 ^ m ≤ 16 := Nat.le_trans (Nat.pow_le_pow_right (by decide) hm) (by decide)
    have hσ : σ < 16 := by omega
    obtain ⟨i1, i2⟩ := pz_in (n := σ) (M := 16) hσ (by decide)
    have fl := fr_le σ hσ
    obtain ⟨g, eg⟩ : ∃ g, g = mv_u (mv_u h 72 σ (nI (fr σ))) 73 σ 0 := ⟨_, rfl⟩
    have ug : ∀ o k, ¬ ((o = 72 ∨ o = 73) ∧ k = σ) → g o k = h o k := fun o k q => by
      rw [eg, mv_u_at, if_neg (by omega), mv_u_at, if_neg (by omega)]
    have qg : Qv h g := fun o k q1 q2 => ug o k (by omega)
    have Pg := qg.pz P
    have Og : OT g Y σ := fun x x1 x2 => by
      obtain ⟨a, b, c⟩ := O x x1 x2
      refine ⟨(ug 72 x (by omega)).trans a, (ug 73 x (by omega)).trans b, fun i hi => ?_⟩
      obtain ⟨c1, c2⟩ := c i hi
      exact ⟨(ug 74 _ (by omega)).trans c1, (ug 75 _ (by omega)).trans c2⟩
    have Ag : AC g σ [] := ⟨by rw [eg, mv_u_at, if_neg (by omega), mv_u_at, if_pos ⟨rfl, rfl⟩], by rw [eg, mv_u_at, if_pos ⟨rfl, rfl⟩]; rfl, by rw [ug 55 35 (by omega)]; exact e35, fun i hi => absurd hi (by simp)⟩
    have sl : (SS Y σ).length = LF 4 σ := SS_len Y σ
    have se := SS_eq (Y := Y) h1 hσ
    have ll := lb_lt σ hσ
    have go : ∀ (g2 : mv_H), Pv g g2 σ → AC g2 σ (bas Y σ) → ∃ h', fX10_findShapes_55_b85 (fX10_findShapes_55_b7 fuel) (nI σ) (nI (lb σ)) g2 = some h' ∧ Qv h h' ∧ OT h' Y (2 ^ m) ∧ h' 55 35 = nI (fr (2 ^ m)) := by
      intro g2 Pg2 A2
      have O2 := Og.pv (by omega) Pg2
      obtain ⟨h3, e3, P3, A3⟩ := pe_al89 hY h1 hσ (fX10_findShapes_55_b7 fuel) (σ - 1) mv_F g2 (bas Y σ) (by omega) (by rw [mv_F_eq]; omega) O2 A2 (by rw [se, List.length_append] at sl; omega)
      rw [← se] at A3
      have q3 : Qv h h3 := (qg.tr Pg2.qv).tr P3.qv
      have O3 : OT h3 Y (σ + 1) := fun x x1 x2 => by
        by_cases z : x = σ
        · subst z
          exact ⟨A3.1, by rw [A3.2.1, sl], A3.2.2.2⟩
        · exact O2.pv (by omega) P3 x x1 (by omega)
      obtain ⟨h', e', q', O', f'⟩ := pe_fs7 hY hm n (σ + 1) fuel h3 (by omega) (by omega) (by omega) (q3.pz P) O3 (by rw [A3.2.2.1, sl, fr_s h1])
      refine ⟨h', ?_, q3.tr q', O', f'⟩
      unfold fX10_findShapes_55_b85
      simp only [mv_let]
      rw [show nI σ - 1 = nI (σ - 1) from pk_sub (b := 1) h1, e3]; exact e'
    rw [fX10_findShapes_55_b7, P.1, pz_shl4 m hm, if_pos (nI_lt (by omega) (by omega)), if_pos i1, e35]
    simp only [mv_let, i2, if_pos i1, ← eg, pz_lb σ hσ (by omega), show (nI σ = nI (lb σ)) = (σ = lb σ) from pz_e (by omega) (by omega)]
    by_cases q : σ = lb σ
    · have kx := pz_ixm m hm σ hσ ⟨h1, by omega, q⟩
      obtain ⟨k, ek⟩ : ∃ k, k = pc (σ - 1) := ⟨_, rfl⟩
      rw [← ek] at kx
      obtain ⟨j1, j2⟩ := pz_in (n := k) (M := 4) (by omega) (by decide)
      obtain ⟨y1, y2⟩ := Pg.2 k kx
      obtain ⟨g1, e1, A1, P1⟩ := pe_ps (w := (Y k).1) (v := (Y k).2) hσ Ag (by simp; omega)
      obtain ⟨z1, z2⟩ := (P1.qv.pz Pg).2 k kx
      obtain ⟨g2, e2, A2, P2⟩ := pe_ps (w := (Y k).2) (v := (Y k).1) hσ A1 (by simp; omega)
      have eb : bas Y σ = [] ++ [((Y k).1, (Y k).2)] ++ [((Y k).2, (Y k).1)] := by
        unfold bas sg
        rw [if_pos q, ← ek]; rfl
      rw [← eb] at A2
      obtain ⟨h', e', r'⟩ := go g2 (P1.tr P2) A2
      refine ⟨h', ?_, r'⟩
      rw [if_pos q, show nI σ - 1 = nI (σ - 1) from pk_sub (b := 1) h1, pe_ones (σ - 1) (by omega), Option.bind_some, ← ek]
      simp only [if_pos j1, j2, y1, y2, e1, Option.bind_some, z1, z2, e2]
      exact e'
    · have eb : bas Y σ = [] := by unfold bas; rw [if_neg q]
      obtain ⟨h', e', r'⟩ := go g (fun _ _ _ _ _ => rfl) (by rw [eb]; exact Ag)
      refine ⟨h', ?_, r'⟩
      rw [if_neg q]; exact e'
theorem pe_fs {Y : Nat → Sz} {m : Nat} (hY : ∀ k, (Y k).1 ≤ 150 ∧ (Y k).2 ≤ 150) (hm : m ≤ 4) {h : mv_H} (P : PZ h Y m) : ∃ h', fX10_findShapes_55 h = some h' ∧ Qv h h' ∧ OT h' Y (2 ^ m) ∧ h' 55 35 = nI (fr (2 ^ m)) := by
  obtain ⟨g, eg⟩ : ∃ g, g = mv_u h 55 35 0 := ⟨_, rfl⟩
  have qg : Qv h g := fun o k q1 q2 => by rw [eg, mv_u_at, if_neg q1]
  have m16 : 2 ^ m ≤ 16 := Nat.le_trans (Nat.pow_le_pow_right (by decide) hm) (by decide)
  have m1 : 1 ≤ 2 ^ m := Nat.two_pow_pos m
  obtain ⟨h', e', q', r'⟩ := pe_fs7 hY hm (2 ^ m - 1) 1 mv_F g (by omega) (Nat.le_refl _) (by rw [mv_F_eq]; omega) (qg.pz P) (fun x x1 x2 => absurd x2 (by omega)) (by rw [eg, mv_u_at, if_pos ⟨rfl, rfl⟩]; rfl)
  refine ⟨h', ?_, qg.tr q', r'⟩
  unfold fX10_findShapes_55
  simp only [mv_let]
  rw [← eg]; exact e'
theorem mb_lt6 {t : Nat} (ht : t < 64) (k : Nat) : mb t k < 6 := by
  by_cases q : k < pc t
  · exact (mb_p t ht k (by have := pc_le t; omega) q).1
  · unfold mb
    rw [List.getD_eq_getElem?_getD, List.getElem?_eq_none (by rw [mems_len t ht]; omega)]
    decide
theorem pe_lpLoop {N : Nat → Nat → Nat} {t : Nat} (ht : t < 64) (h4 : pc t ≤ 4) (hN : okN N) : ∀ (n k fuel : Nat) (h : mv_H) (pre : List Nat), n + k = 6 → n < fuel → rdM h N → mems t = pre ++ ml t n k → h 55 30 = nI pre.length → (∀ j, j < pre.length → h 70 j = nI (szB N (pre.getD j 0)).1 ∧ h 71 j = nI (szB N (pre.getD j 0)).2) → ∃ h', fX10_layPieces_55_b7 fuel (nI t) (nI k) h = some h' ∧ PZ h' (fun j => szB N (mb t j)) (pc t) ∧ (∀ o j, ¬ (65 ≤ o ∧ o ≤ 71) → ¬ (o = 55 ∧ j = 30) → h' o j = h o j)
  | n, k, 0, h, pre, _, hf, _, _, _, _ => absurd hf (by omega)
  | 0, k, fuel + 1, h, pre, hn, _, _, e, h1, h2 => by
    have e' : mems t = pre := by rw [e]; simp [ml]
    have hl := mems_len t ht
    rw [e'] at hl
    refine ⟨h, ?_, ⟨by rw [← hl]; exact h1, fun j hj => ?_⟩, fun _ _ _ _ => rfl⟩
    · rw [show k = 6 by omega, fX10_layPieces_55_b7, if_neg (by decide)]
    · have := h2 j (by omega)
      show h 70 j = nI (szB N (mb t j)).1 ∧ h 71 j = nI (szB N (mb t j)).2
      unfold mb
      rw [e']; exact this
  | n + 1, k, fuel + 1, h, pre, hn, hf, hM, e, h1, h2 => by
    have hk : k < 6 := by omega
    rw [fX10_layPieces_55_b7, if_pos (pz_l6 hk)]
    simp only [pz_bit t ht k hk, fX10_layPieces_55_b72, nI_1]
    by_cases q : t.testBit k = true
    · have pl : pre.length < 4 := by
        have hl := mems_len t ht
        rw [e, ml_s, if_pos q] at hl
        simp at hl
        omega
      obtain ⟨c1, c2⟩ := pz_in (n := pre.length) (M := 4) pl (by decide)
      obtain ⟨g, e1, w, ug⟩ := pe_look2 hk hM hN
      have sl := sLeast_lt (N 1 (3 * k)) (N 1 (3 * k + 1)) (N 1 (3 * k + 2)) (N 0 3) (N 0 4)
      obtain ⟨a1, a2, -⟩ := pz_ax3 _ sl
      have g30 : g 55 30 = nI pre.length := (ug 55 30 (by omega)).trans h1
      obtain ⟨g2, eg2⟩ : ∃ g2, g2 = mv_u (mv_u (mv_u g 70 pre.length (nI (szB N k).1)) 71 pre.length (nI (szB N k).2)) 55 30 (nI (pre.length + 1)) := ⟨_, rfl⟩
      have ug2 : ∀ o j, ¬ (65 ≤ o ∧ o ≤ 71) → ¬ (o = 55 ∧ j = 30) → g2 o j = h o j := fun o j q1 q2 => by
        rw [eg2, mv_u_at, if_neg q2, mv_u_at, if_neg (by omega), mv_u_at, if_neg (by omega)]; exact ug o j (by omega)
      have s2 : Same h g2 := fun o j z => ug2 o j (by unfold scr at z; omega) (by unfold scr at z; omega)
      have w1 := (w _ sl).1
      have w2 := (w _ sl).2.1
      obtain ⟨h', a, b, c⟩ := pe_lpLoop ht h4 hN n (k + 1) fuel g2 (pre ++ [k]) (by omega) (by omega) (s2.rdM hM) (by rw [e, ml_s, if_pos q]; simp) (by rw [eg2, mv_u_at, if_pos ⟨rfl, rfl⟩]; simp) (fun j hj => by
        by_cases z : j = pre.length
        · subst z
          rw [show (pre ++ [k]).getD pre.length 0 = k by simp]
          refine ⟨?_, ?_⟩
          · rw [eg2, mv_u_at, if_neg (by omega), mv_u_at, if_neg (by omega), mv_u_at, if_pos ⟨rfl, rfl⟩]
          · rw [eg2, mv_u_at, if_neg (by omega), mv_u_at, if_pos ⟨rfl, rfl⟩]
        · simp at hj
          have hj' : j < pre.length := by omega
          rw [show (pre ++ [k]).getD j 0 = pre.getD j 0 by simp [List.getElem?_append_left hj']]
          obtain ⟨b1, b2⟩ := h2 j hj'
          refine ⟨?_, ?_⟩
          · rw [eg2, mv_u_at, if_neg (by omega), mv_u_at, if_neg (by omega), mv_u_at, if_neg (by omega), ug 70 j (by omega)]; exact b1
          · rw [eg2, mv_u_at, if_neg (by omega), mv_u_at, if_neg (by omega), mv_u_at, if_neg (by omega), ug 71 j (by omega)]; exact b2)
      refine ⟨h', ?_, b, fun o j q1 q2 => by rw [c o j q1 q2, ug2 o j q1 q2]⟩
      rw [if_pos q, e1, Option.bind_some, pe_mleastAxis w (hN.b hk) hN.2.1.1 hN.2.1.2.1, Option.bind_some, if_pos a1, g30, if_pos c1]
      simp only [mv_let, c2, a2, w1, if_pos a1]
      rw [show mv_u g 70 pre.length (nI (sR (N 1 (3 * k)) (N 1 (3 * k + 1)) (N 1 (3 * k + 2)) (N 0 3) (sLeast (N 1 (3 * k)) (N 1 (3 * k + 1)) (N 1 (3 * k + 2)) (N 0 3) (N 0 4)))) 55 30 = nI pre.length from by rw [mv_u_at, if_neg (by omega)]; exact g30, if_pos c1, c2]
      rw [show mv_u g 70 pre.length (nI (sR (N 1 (3 * k)) (N 1 (3 * k + 1)) (N 1 (3 * k + 2)) (N 0 3) (sLeast (N 1 (3 * k)) (N 1 (3 * k + 1)) (N 1 (3 * k + 2)) (N 0 3) (N 0 4)))) 66 (sLeast (N 1 (3 * k)) (N 1 (3 * k + 1)) (N 1 (3 * k + 2)) (N 0 3) (N 0 4)) = nI (szB N k).2 from by rw [mv_u_at, if_neg (by omega)]; exact w2]
      show fX10_layPieces_55_b7 fuel (nI t) (nI (k + 1)) (mv_u (mv_u (mv_u g 70 pre.length (nI (szB N k).1)) 71 pre.length (nI (szB N k).2)) 55 30 (mv_u (mv_u g 70 pre.length (nI (szB N k).1)) 71 pre.length (nI (szB N k).2) 55 30 + 1)) = some h'
      rw [show mv_u (mv_u g 70 pre.length (nI (szB N k).1)) 71 pre.length (nI (szB N k).2) 55 30 = nI pre.length from by rw [mv_u_at, if_neg (by omega), mv_u_at, if_neg (by omega)]; exact g30, nI_1, ← eg2]
      exact a
    · rw [if_neg q]
      exact pe_lpLoop ht h4 hN n (k + 1) fuel h pre (by omega) (by omega) hM (by rw [e, ml_s, if_neg q]) h1 h2
theorem pe_lp {N : Nat → Nat → Nat} {t : Nat} (ht : t < 64) (h4 : pc t ≤ 4) (hN : okN N) {h : mv_H} (hM : rdM h N) : ∃ h', fX10_layPieces_55 (nI t) h = some h' ∧ PZ h' (fun j => szB N (mb t j)) (pc t) ∧ (∀ o j, ¬ (65 ≤ o ∧ o ≤ 71) → ¬ (o = 55 ∧ j = 30) → h' o j = h o j) := by
  have s0 : Same h (mv_u h 55 30 0) := Same.u (by unfold scr; omega)
  obtain ⟨h', a, b, c⟩ := pe_lpLoop ht h4 hN 6 0 mv_F (mv_u h 55 30 0) [] rfl (by rw [mv_F_eq]; decide) (s0.rdM hM) rfl (by rw [mv_u_at, if_pos ⟨rfl, rfl⟩]; rfl) (fun j hj => absurd hj (by simp))
  refine ⟨h', ?_, b, fun o j q1 q2 => by rw [c o j q1 q2, mv_u_at, if_neg q2]⟩
  unfold fX10_layPieces_55
  simp only [mv_let]
  exact a
def okl (W H : Nat) (p : Sz) : Bool := decide (p.1 ≤ W) && decide (p.2 ≤ H)
theorem pe_ccLoop {h : mv_H} {l : List Sz} {f s W H : Nat} (hs : s < 6) (hW : W ≤ 150) (hH : H ≤ 150) (ew : h 58 s = nI W) (eh : h 59 s = nI H) (E : EL h f l) (hf4 : f + l.length < 4000) (hb : ∀ p, p ∈ l → p.1 ≤ 600 ∧ p.2 ≤ 600) (e35 : h 55 35 = nI (f + l.length)) : ∀ (n i fuel : Nat) (z : Bool), n + i = l.length → n < fuel → fX10_canCut_55_b35 fuel (nI s) (if z = true then 1 else 0) (nI (f + i)) h = some (if (z || (l.drop i).any (okl W H)) = true then 1 else 0, h)
  | n, i, 0, z, _, hf => absurd hf (by omega)
  | 0, i, fuel + 1, z, hn, _ => by
    rw [fX10_canCut_55_b35, e35, show f + i = f + l.length by omega, if_neg (nI_nlt (Nat.le_refl _) (by omega)), if_pos pz_01, List.drop_eq_nil_of_le (by omega)]
    simp
  | n + 1, i, fuel + 1, z, hn, hf => by
    have hi : i < l.length := by omega
    obtain ⟨a1, a2⟩ := E i hi
    have hbb := hb _ (getD_mem hi)
    obtain ⟨p, ep⟩ : ∃ p, p = l.getD i (0, 0) := ⟨_, rfl⟩
    rw [← ep] at a1 a2 hbb
    obtain ⟨u1, u2⟩ := pz_in (n := f + i) (M := 4000) (by omega) (by decide)
    obtain ⟨v1, v2, -⟩ := pz_i6 s hs
    have iht := pe_ccLoop hs hW hH ew eh E hf4 hb e35 n (i + 1) fuel true (by omega) (by omega)
    have ihf := pe_ccLoop hs hW hH ew eh E hf4 hb e35 n (i + 1) fuel false (by omega) (by omega)
    simp only [if_true, Bool.true_or, Bool.false_or, Bool.false_eq_true, if_false] at iht ihf
    rw [fX10_canCut_55_b35, e35, if_pos (nI_lt (by omega) (by omega)), drop_getD hi, ← ep]
    simp only [fX10_canCut_55_b85, fX10_canCut_55_b81, fX10_canCut_55_b86, if_pos u1, if_pos v1, u2, v2, ew, eh, a1, a2, nI_1, pz_i0, pz_lt3 (show W < 2 ^ 31 by omega) (show p.1 < 2 ^ 31 by omega), pz_lt3 (show H < 2 ^ 31 by omega) (show p.2 < 2 ^ 31 by omega), List.any_cons]
    have e1 : f + (i + 1) = f + i + 1 := by omega
    rw [e1] at iht ihf
    rw [iht, ihf]
    cases z with
    | true => simp
    | false =>
      by_cases q1 : W < p.1
      · have o : okl W H p = false := by unfold okl; rw [decide_eq_false (by omega)]; rfl
        simp [q1, o]
        exact pz_if (by rw [o]; simp)
      · by_cases q2 : H < p.2
        · have o : okl W H p = false := by unfold okl; rw [decide_eq_false (show ¬ p.2 ≤ H by omega), Bool.and_false]
          simp [q1, q2, o]
          exact pz_if (by rw [o]; simp)
        · have o : okl W H p = true := by unfold okl; rw [decide_eq_true (show p.1 ≤ W by omega), decide_eq_true (show p.2 ≤ H by omega)]; rfl
          simp [q1, q2, o]
theorem any_Exl {l : List Sz} {W H : Nat} : l.any (okl W H) = true ↔ Exl l W H := by
  rw [List.any_eq_true]
  constructor
  · rintro ⟨p, hp, h⟩
    unfold okl at h
    simp at h
    exact ⟨p, hp, h⟩
  · rintro ⟨p, hp, h1, h2⟩
    exact ⟨p, hp, by unfold okl; simp [h1, h2]⟩
theorem all_el {N : Nat → Nat → Nat} {t : Nat} (ht : t < 64) (h1 : 1 ≤ pc t) (h4 : pc t ≤ 4) (W H : Nat) : Exl (SS (fun j => szB N (mb t j)) (2 ^ pc t - 1)) W H ↔ el ((mems t).map (szB N)) W H := by
  rcases (show pc t = 1 ∨ pc t = 2 ∨ pc t = 3 ∨ pc t = 4 by omega) with h | h | h | h
  · rw [h, (mm_1 t ht h).1]; exact ex_1 _ W H
  · rw [h, (mm_2 t ht h).1]; exact ex_3 _ W H
  · rw [h, mm_3 t ht h]; exact ex_7 _ W H
  · rw [h, mm_4 t ht h]; exact ex_15 _ W H
theorem pe_canCut {N : Nat → Nat → Nat} {t s : Nat} (ht : t < 64) (h4 : pc t ≤ 4) (hs : s < 6) (hN : okN N) {h : mv_H} (hM : rdM h N) : ∃ (z : Bool) (h' : mv_H), fX10_canCut_55 (nI t) (nI s) h = some (if z = true then 1 else 0, h') ∧ Same h h' ∧ (z = true ↔ el ((mems t).map (szB N)) (N 3 s) (N 4 s)) := by
  have e0 : (nI t = 0) = (t = 0) := pz_e (n := 0) (by omega) (by decide)
  unfold fX10_canCut_55
  simp only [e0]
  by_cases q : t = 0
  · refine ⟨true, h, by rw [if_pos q]; rfl, Same.rf h, ⟨fun _ => ?_, fun _ => rfl⟩⟩
    rw [q]; exact trivial
  · have p1 : 1 ≤ pc t := by
      by_cases z : pc t = 0
      · exact absurd ((show ∀ S, S < 64 → pc S = 0 → S = 0 by decide +kernel) t ht z) q
      · omega
    have hY : ∀ k, (szB N (mb t k)).1 ≤ 150 ∧ (szB N (mb t k)).2 ≤ 150 := fun k => by
      have := szB_le hN (mb_lt6 ht k)
      omega
    obtain ⟨g1, e1, P1, u1⟩ := pe_lp ht h4 hN hM
    obtain ⟨g2, e2, q2, O2, f2⟩ := pe_fs hY h4 P1
    have m16 : 2 ^ pc t ≤ 16 := Nat.le_trans (Nat.pow_le_pow_right (by decide) h4) (by decide)
    have m2 : 2 ≤ 2 ^ pc t := Nat.le_trans (show 2 ≤ 2 ^ 1 by decide) (Nat.pow_le_pow_right (by decide) p1)
    obtain ⟨A, eA⟩ : ∃ A, A = 2 ^ pc t - 1 := ⟨_, rfl⟩
    obtain ⟨o1, o2, o3⟩ := O2 A (by omega) (by omega)
    have fl := fr_le A (by omega)
    have s1 : Same h g1 := fun o k z => u1 o k (by unfold scr at z; omega) (by unfold scr at z; omega)
    have s2 : Same g1 g2 := fun o k z => q2 o k (by unfold scr at z; omega) (by unfold scr at z; omega)
    have M2 := (s1.tr s2).rdM hM
    have P2 := q2.pz P1
    obtain ⟨i1, i2⟩ := pz_in (n := A) (M := 16) (by omega) (by decide)
    have sl : (SS (fun j => szB N (mb t j)) A).length = LF 4 A := SS_len _ A
    have fe : fr (2 ^ pc t) = fr A + (SS (fun j => szB N (mb t j)) A).length := by
      rw [sl, show 2 ^ pc t = A + 1 by omega, fr_s (by omega)]
    have cc := pe_ccLoop (l := SS (fun j => szB N (mb t j)) A) (f := fr A) hs (hN.s hs).1 (hN.s hs).2 (rd_m3 M2 hs).1 (rd_m3 M2 hs).2 o3 (by omega) (fun p hp => by
      have := SF_le hY 4 A p (by omega) (by omega) hp
      have := pc4 A (by omega)
      omega) (by rw [f2, fe]) (LF 4 A) 0 mv_F false (by omega) (by rw [mv_F_eq]; omega)
    rw [List.drop_zero, Bool.false_or, Nat.add_zero] at cc
    refine ⟨(SS (fun j => szB N (mb t j)) A).any (okl (N 3 s) (N 4 s)), g2, ?_, s1.tr s2, ?_⟩
    · rw [if_neg q, e1, Option.bind_some, e2, Option.bind_some, P2.1, pz_shl4 _ h4, show nI (2 ^ pc t) - 1 = nI A from by rw [eA]; exact pk_sub (b := 1) (by omega)]
      simp only [mv_let, if_pos i1, i2, o1]
      exact cc
    · rw [any_Exl, eA]; exact all_el ht p1 h4 _ _
set_option maxRecDepth 10000 in
theorem st_cut (p0 p1 : Int32) : Sim (fX9_cut_0 p0 p1) (fX10_cut_55 p0 p1) := by
  intro h H
  obtain ⟨N, hG, hM, hN⟩ := H.1
  by_cases hc : pbx p1 (N 0 2) = true
  · by_cases hb : p0 &&& (nI (N 0 0) ^^^ (-1)) = 0
    · obtain ⟨t, ht, rfl, hsub⟩ := pz_holds hN.1.1 hb
      obtain ⟨s, hs, rfl, -⟩ := pbx_i hN.1.2.2 hc
      have hp := pc_le t
      have e4 : (4 < nI (pc t)) = (4 < pc t) := pz_lt3 (x := 4) (by decide) (by omega)
      by_cases h4 : 4 < pc t
      · refine ⟨-4, h, h, ?_, ?_, H⟩
        · simp only [fX9_cut_0, pe_hs (rd_b hG).2.2, hc, if_true, Option.bind_some, pe_holds2 (rd_b hG).1, if_pos hb, pe_bitCount t ht, e4, if_pos h4, show ¬ ((1 : Int32) = 0) by decide, if_false]
        · simp only [fX10_cut_55, pe_ms (rd_mb hM).2.2, hc, if_true, Option.bind_some, pe_areBoxes hN.1.1 (rd_mb hM).1, if_pos hb, pe_ones t ht, e4, if_pos h4, show ¬ ((1 : Int32) = 0) by decide, if_false]
      · obtain ⟨h1, e1, C1, s1⟩ := pe_startC hG hN ht hs
        obtain ⟨z, h2, e2, C2, x2, i2⟩ := pe_gives C1 (hN.s hs).1 (hN.s hs).2 ht ht (Nat.and_self t) (by omega)
        have M2 := (s1.tr x2.same).rdM hM
        obtain ⟨z', h3, e3, s3, i3⟩ := pe_canCut ht (show pc t ≤ 4 by omega) hs hN M2
        have ez : z = z' := by
          cases z <;> cases z' <;> simp_all
        refine ⟨if z = true then 1 else 0, h2, h3, ?_, ?_, ((s1.tr x2.same).tr s3).inv H⟩
        · simp only [fX9_cut_0, pe_hs (rd_b hG).2.2, hc, if_true, Option.bind_some, pe_holds2 (rd_b hG).1, if_pos hb, pe_bitCount t ht, e4, if_neg h4, show ¬ ((1 : Int32) = 0) by decide, if_false, e1, e2]
          cases z <;> simp
        · simp only [fX10_cut_55, pe_ms (rd_mb M2).2.2, hc, if_true, Option.bind_some, pe_areBoxes hN.1.1 (rd_mb M2).1, if_pos hb, pe_ones t ht, e4, if_neg h4, show ¬ ((1 : Int32) = 0) by decide, if_false, e3]
          rw [ez]
          cases z' <;> simp
    · refine ⟨-2, h, h, ?_, ?_, H⟩
      · simp only [fX9_cut_0, pe_hs (rd_b hG).2.2, hc, if_true, Option.bind_some, pe_holds2 (rd_b hG).1, if_neg hb, show ¬ ((1 : Int32) = 0) by decide, if_false]
      · simp only [fX10_cut_55, pe_ms (rd_mb hM).2.2, hc, if_true, Option.bind_some, pe_areBoxes hN.1.1 (rd_mb hM).1, if_neg hb, show ¬ ((1 : Int32) = 0) by decide, if_false]
  · refine ⟨-1, h, h, ?_, ?_, H⟩
    · simp [fX9_cut_0, pe_hs (rd_b hG).2.2, hc]
    · simp [fX10_cut_55, pe_ms (rd_mb hM).2.2, hc]
