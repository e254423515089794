/-! year -/
theorem pz_bm {x : Int} (h1 : -1000000000000 ≤ x) (h2 : x ≤ 1000000000000) : Int.bmod x (2 ^ 64) = x := Int.bmod_eq_of_le (by omega) (by omega)
theorem pz_y64 {v : Nat} (hv : v < 65537) : Int64.toInt32 (((75 * (Int32.toInt64 (nI v))) + 74) - ((75 * (Int32.toInt64 (nI v))) + 74) / 65537 * 65537) = nI ((75 * v + 74) % 65537) := by
  have t : (Int32.toInt64 (nI v)).toInt = v := by rw [Int32.toInt_toInt64, nI_toInt (by omega)]
  have a : (75 * Int32.toInt64 (nI v) + 74).toInt = ((75 * v + 74 : Nat) : Int) := by
    rw [Int64.toInt_add, Int64.toInt_mul, t, show (75 : Int64).toInt = 75 from rfl, show (74 : Int64).toInt = 74 from rfl, pz_bm (x := 75 * (v : Int)) (by omega) (by omega), pz_bm (by omega) (by omega)]
    omega
  have hm : (75 * v + 74) % 65537 < 65537 := Nat.mod_lt _ (by decide)
  have hn : 75 * v + 74 ≤ 5000000 := by omega
  generalize 75 * v + 74 = n at a hm hn
  generalize 75 * Int32.toInt64 (nI v) + 74 = y at a
  have d : (y / 65537).toInt = ((n / 65537 : Nat) : Int) := by
    rw [Int64.toInt_div, a, show (65537 : Int64).toInt = ((65537 : Nat) : Int) from rfl, ← Int.ofNat_tdiv, pz_bm (by omega) (by omega)]
  have m : (y / 65537 * 65537).toInt = ((n / 65537 * 65537 : Nat) : Int) := by
    rw [Int64.toInt_mul, d, show (65537 : Int64).toInt = 65537 from rfl, pz_bm (by omega) (by omega)]
    omega
  have s : (y - y / 65537 * 65537).toInt = ((n % 65537 : Nat) : Int) := by
    rw [Int64.toInt_sub, m, a, pz_bm (by omega) (by omega)]
    omega
  apply Int32.toInt_inj.mp
  rw [Int64.toInt_toInt32, s, nI_toInt (by omega), Int.bmod_eq_of_le (by omega) (by omega)]
theorem wfd_P {P : Nat → Bool} {M : Nat → Nat} : ∀ (n k : Nat) (o : Option Nat), (∀ j, o = some j → P j = true) → ∀ j, wfd P M n k o = some j → P j = true
  | 0, _, o, h, j, hj => h j hj
  | n + 1, k, o, h, j, hj => by
    refine wfd_P n (k + 1) (wst P M k o) (fun i hi => ?_) j hj
    unfold wst at hi
    by_cases q : P k = true
    · rw [if_pos q] at hi
      cases o with
      | none => cases hi; exact q
      | some z =>
        simp only at hi
        split at hi
        · cases hi; exact q
        · cases hi; exact h _ rfl
    · rw [if_neg q] at hi
      exact h i hi
def sWy (a b c l e w g : Nat) : Option Nat := wfd (wP a b c l e w g) (fun k => sP a b c l e (k / 2)) 6 0 none
theorem sWy_bel (a b c l e w g : Nat) : bel 6 (sWy a b c l e w g) := wfd_bel 6 0 none (bel_none 0)
theorem sWy_le {a b c l e w g k : Nat} (h : sWy a b c l e w g = some k) : sP a b c l e (k / 2) ≤ w * g := by
  have := wfd_P 6 0 none (fun j hj => by cases hj) k h
  unfold wP at this
  unfold sP
  by_cases q : k % 2 = 0
  · rw [if_pos q] at this
    have := of_decide_eq_true this
    exact Nat.mul_le_mul this.1 this.2
  · rw [if_neg q] at this
    have := of_decide_eq_true this
    rw [Nat.mul_comm w g]
    exact Nat.mul_le_mul this.1 this.2
def oMax (o : Option Nat) (d : Nat) : Nat := match o with
  | none => d
  | some v => if v < d then d else v
theorem pe_omax {o : Option Nat} {d : Nat} (ho : bel 30000 o) (hd : d < 30000) : mv_max (enc o) (nI d) = enc (some (oMax o d)) := by
  unfold mv_max
  cases o with
  | none =>
    have : (-6 : Int32) < nI d := by rw [pz_lt, nI_toInt (by omega)]; show (-6 : Int) < d; omega
    simp [enc, oMax, this]
  | some v =>
    have hv := ho v rfl
    simp only [enc_some, pz_lt3 (show v < 2 ^ 31 by omega) (show d < 2 ^ 31 by omega)]
    unfold oMax
    by_cases q : v < d <;> simp [q]
theorem omax_bel {o : Option Nat} {d : Nat} (ho : bel 30000 o) (hd : d < 30000) : bel 30000 (some (oMax o d)) := by
  intro j hj
  cases hj
  unfold oMax
  cases o with
  | none => exact hd
  | some v =>
    have hv := ho v rfl
    simp only
    split <;> omega
def yX (x : Nat) : Nat := (75 * x + 74) % 65537
def yrun (l e w g : Nat) : Nat → Nat → Nat → Option Nat → Int32 → Nat × Option Nat × Int32
  | 0, _, c, o, q => (c, o, q)
  | n + 1, x, c, o, q => match sWy (1 + yX x % 20) (1 + yX x / 20 % 20) (1 + yX x / 400 % 20) l e w g with
    | none => yrun l e w g n (yX x) c o (q + nI (sP (1 + yX x % 20) (1 + yX x / 20 % 20) (1 + yX x / 400 % 20) l e (sLeast (1 + yX x % 20) (1 + yX x / 20 % 20) (1 + yX x / 400 % 20) l e)))
    | some k => yrun l e w g n (yX x) (c + 1) (some (oMax o (w * g - sP (1 + yX x % 20) (1 + yX x / 20 % 20) (1 + yX x / 400 % 20) l e (k / 2)))) (q + nI (sP (1 + yX x % 20) (1 + yX x / 20 % 20) (1 + yX x / 400 % 20) l e (sLeast (1 + yX x % 20) (1 + yX x / 20 % 20) (1 + yX x / 400 % 20) l e)))
def yres (z : Int32) (t : Nat × Option Nat × Int32) : Int32 := if z = 0 then nI t.1 else if z = 1 then enc t.2.1 else t.2.2
theorem pz_sides {x : Nat} (hx : x < 65537) : 1 + (nI x - nI x / 20 * 20) = nI (1 + x % 20) ∧ 1 + ((nI x / 20) - (nI x / 20) / 20 * 20) = nI (1 + x / 20 % 20) ∧ 1 + ((nI x / 400) - (nI x / 400) / 20 * 20) = nI (1 + x / 400 % 20) := by
  have r : ∀ y, y < 65537 → 1 + (nI y - nI y / 20 * 20) = nI (1 + y % 20) := fun y hy => by
    rw [show nI y - nI y / 20 * 20 = nI (y % 20) from pk_rem (d := 20) (by omega) (by decide) (by decide), show (1 : Int32) = nI 1 from rfl, nI_add]
  rw [show nI x / 20 = nI (x / 20) from pk_div (d := 20) (by omega) (by decide) (by decide), show nI x / 400 = nI (x / 400) from pk_div (d := 400) (by omega) (by decide) (by decide)]
  have := r x hx
  rw [show nI x / 20 = nI (x / 20) from pk_div (d := 20) (by omega) (by decide) (by decide)] at this
  exact ⟨this, r _ (by omega), r _ (by omega)⟩
theorem yX_lt (x : Nat) : yX x < 65537 := Nat.mod_lt _ (by decide)
theorem pe_yLoop {N : Nat → Nat → Nat} {K s : Nat} {z : Int32} (hN : okN N) (hs : s < 6) (hK : K ≤ 99) : ∀ (n k m x c : Nat) (o : Option Nat) (q : Int32) (h : mv_H), n + k = K → n < m → x < 65537 → bel 30000 o → rdG h 1 N → ∃ h1, fX9_year_0_b66 m (nI K) (nI s) z (nI x) (nI c) (enc o) q (nI k) h = some (yres z (yrun (N 0 3) (N 0 4) (N 3 s) (N 4 s) n x c o q), h1) ∧ Same h h1
  | n, k, 0, x, c, o, q, h, _, hm, _, _, _ => absurd hm (by omega)
  | 0, k, m + 1, x, c, o, q, h, hn, _, _, _, _ => by
    refine ⟨h, ?_, Same.rf h⟩
    rw [fX9_year_0_b66, if_neg (nI_nlt (by omega) (by omega))]
    unfold yrun yres
    by_cases z0 : z = 0
    · simp [z0]
    · by_cases z1 : z = 1 <;> simp [z0, z1]
  | n + 1, k, m + 1, x, c, o, q, h, hn, hm, hx, ho, hG => by
    have hx' := yX_lt x
    have e5 : ((75 * nI x) + 74) - ((75 * nI x) + 74) / 65537 * 65537 = nI (yX x) := by
      rw [show (75 : Int32) = nI 75 from rfl, pk_mul, show (74 : Int32) = nI 74 from rfl, nI_add]
      exact pk_rem (d := 65537) (by omega) (by decide) (by decide)
    obtain ⟨a1, a2, a3⟩ := pz_sides hx'
    rw [fX9_year_0_b66, if_pos (nI_lt (by omega) (by omega))]
    simp only [mv_let, e5, a1, a2, a3, pe_measure, Option.bind_some, (rd_s hG).1, (rd_s hG).2.1]
    rw [yrun]
    have hb : 1 + yX x % 20 ≤ 20 ∧ 1 + yX x / 20 % 20 ≤ 20 ∧ 1 + yX x / 400 % 20 ≤ 20 := by omega
    generalize 1 + yX x % 20 = a at hb
    generalize 1 + yX x / 20 % 20 = b at hb
    generalize 1 + yX x / 400 % 20 = d at hb
    obtain ⟨h', eh⟩ : ∃ h', h' = wr h (nI a) (nI b) (nI d) (nI (N 0 3)) (nI (N 0 4)) := ⟨_, rfl⟩
    have w1 : WrapIs h' a b d (N 0 3) (N 0 4) := by rw [eh]; exact wr_is
    have s1 : Same h h' := by rw [eh]; exact wr_same
    have g1 := s1.rdG (Or.inl rfl) hG
    rw [← eh]
    have k1 : fX8_wayOnSheet_38 (nI (N 3 s)) (nI (N 4 s)) h' = some (enc (sWy a b d (N 0 3) (N 0 4) (N 3 s) (N 4 s))) := pe_way w1 hb hN.2.1.1 hN.2.1.2.1 (hN.s hs).1 (hN.s hs).2
    have hbl := sWy_bel a b d (N 0 3) (N 0 4) (N 3 s) (N 4 s)
    have har : N 3 s * N 4 s ≤ 150 * 150 := Nat.mul_le_mul (hN.s hs).1 (hN.s hs).2
    have k2 := pe_leastPaper w1 hb hN.2.1.1 hN.2.1.2.1
    simp only [k2, Option.bind_some, (pe_s0 g1 hs).1, (pe_s0 g1 hs).2, k1, enc_eq hbl (by decide), fX9_axisOf, pe_area g1 hs, fX9_year_0_b204, nI_1]
    cases hq : sWy a b d (N 0 3) (N 0 4) (N 3 s) (N 4 s) with
    | none =>
      obtain ⟨h2, f2, t2⟩ := pe_yLoop (z := z) hN hs hK n (k + 1) m (yX x) c o (q + nI (sP a b d (N 0 3) (N 0 4) (sLeast a b d (N 0 3) (N 0 4)))) h' (by omega) (by omega) hx' ho g1
      exact ⟨h2, by simp [f2], s1.tr t2⟩
    | some j =>
      have hj := hbl j hq
      have hle := sWy_le hq
      have hp := pe_paper w1 (show j / 2 < 3 by omega) hb
      have hmx := pe_omax (o := o) (d := N 3 s * N 4 s - sP a b d (N 0 3) (N 0 4) (j / 2)) ho (by omega)
      obtain ⟨h2, f2, t2⟩ := pe_yLoop (z := z) hN hs hK n (k + 1) m (yX x) (c + 1) (some (oMax o (N 3 s * N 4 s - sP a b d (N 0 3) (N 0 4) (j / 2)))) (q + nI (sP a b d (N 0 3) (N 0 4) (sLeast a b d (N 0 3) (N 0 4)))) h' (by omega) (by omega) hx' (omax_bel ho (by omega)) g1
      refine ⟨h2, ?_, s1.tr t2⟩
      simp only [reduceCtorEq, if_false, enc_some, pz_half (show j < 2 ^ 31 by omega), hp, Option.bind_some, pk_sub hle, hmx]
      exact f2
theorem pe_myLoop {N : Nat → Nat → Nat} {K s : Nat} {z : Int32} (hN : okN N) (hs : s < 6) (hK : K ≤ 99) : ∀ (n k m x c : Nat) (o : Option Nat) (q : Int32) (h : mv_H), n + k = K → n < m → x < 65537 → bel 30000 o → c ≤ k → (c = 0 ↔ o = none) → rdM h N → ∃ h1, fX10_year_55_b66 m (nI K) (nI s) z (nI x) (nI c) (enc o) q (nI k) h = some (yres z (yrun (N 0 3) (N 0 4) (N 3 s) (N 4 s) n x c o q), h1) ∧ Same h h1
  | n, k, 0, x, c, o, q, h, _, hm, _, _, _, _, _ => absurd hm (by omega)
  | 0, k, m + 1, x, c, o, q, h, hn, _, _, _, _, _, _ => by
    refine ⟨h, ?_, Same.rf h⟩
    rw [fX10_year_55_b66, if_neg (nI_nlt (by omega) (by omega))]
    unfold yrun yres
    by_cases z0 : z = 0
    · simp [z0]
    · by_cases z1 : z = 1 <;> simp [z0, z1]
  | n + 1, k, m + 1, x, c, o, q, h, hn, hm, hx, ho, hc, hc0, hM => by
    have hx' := yX_lt x
    have e5 := pz_y64 hx
    rw [show (75 * x + 74) % 65537 = yX x from rfl] at e5
    obtain ⟨a1, a2, a3⟩ := pz_sides hx'
    rw [fX10_year_55_b66, if_pos (nI_lt (by omega) (by omega))]
    simp only [mv_let, e5, a1, a2, a3]
    rw [yrun]
    have hb : 1 + yX x % 20 ≤ 20 ∧ 1 + yX x / 20 % 20 ≤ 20 ∧ 1 + yX x / 400 % 20 ≤ 20 := by omega
    generalize 1 + yX x % 20 = a at hb
    generalize 1 + yX x / 20 % 20 = b at hb
    generalize 1 + yX x / 400 % 20 = d at hb
    obtain ⟨h', eh, w1, s1⟩ := pe_layBox hb (rd_ms hM).1 (rd_ms hM).2.1
    have g1 := s1.rdM hM
    have k1 : fX10_doesBy_55 (nI s) h' = some (enc (sWy a b d (N 0 3) (N 0 4) (N 3 s) (N 4 s))) := pe_does w1 hb hN.2.1.1 hN.2.1.2.1 (hN.s hs).1 (hN.s hs).2 hs (rd_m3 g1 hs).1 (rd_m3 g1 hs).2
    have hbl := sWy_bel a b d (N 0 3) (N 0 4) (N 3 s) (N 4 s)
    have har : N 3 s * N 4 s ≤ 150 * 150 := Nat.mul_le_mul (hN.s hs).1 (hN.s hs).2
    have k2 := pe_mleastAxis w1 hb hN.2.1.1 hN.2.1.2.1
    have k3 := pe_mpaper w1 (sLeast_lt a b d (N 0 3) (N 0 4))
    simp only [eh, k2, k3, Option.bind_some, k1, enc_lt hbl (by decide), pe_marea g1 hs, fX10_year_55_b187, fX10_year_55_b182, fX10_year_55_b175, nI_1]
    cases hq : sWy a b d (N 0 3) (N 0 4) (N 3 s) (N 4 s) with
    | none =>
      obtain ⟨h2, f2, t2⟩ := pe_myLoop (z := z) hN hs hK n (k + 1) m (yX x) c o (q + nI (sP a b d (N 0 3) (N 0 4) (sLeast a b d (N 0 3) (N 0 4)))) h' (by omega) (by omega) hx' ho (by omega) hc0 g1
      exact ⟨h2, by simp [f2], s1.tr t2⟩
    | some j =>
      have hj := hbl j hq
      have hle := sWy_le hq
      have hp := pe_mpaper w1 (show j / 2 < 3 by omega)
      obtain ⟨h2, f2, t2⟩ := pe_myLoop (z := z) hN hs hK n (k + 1) m (yX x) (c + 1) (some (oMax o (N 3 s * N 4 s - sP a b d (N 0 3) (N 0 4) (j / 2)))) (q + nI (sP a b d (N 0 3) (N 0 4) (sLeast a b d (N 0 3) (N 0 4)))) h' (by omega) (by omega) hx' (omax_bel ho (by omega)) (by omega) (by simp) g1
      refine ⟨h2, ?_, s1.tr t2⟩
      have hz : (nI c = 0) = (c = 0) := propext (nI_eq (by omega) (by decide))
      simp only [reduceCtorEq, if_false, enc_some, pz_half (show j < 2 ^ 31 by omega), hp, Option.bind_some, pk_sub hle, hz]
      rw [enc_some] at f2
      cases o with
      | none =>
        rw [if_pos (hc0.mpr rfl)]
        exact f2
      | some v =>
        have hv := ho v rfl
        rw [if_neg (fun y => by cases hc0.mp y)]
        simp only [enc_some, pz_lt3 (show v < 2 ^ 31 by omega) (show N 3 s * N 4 s - sP a b d (N 0 3) (N 0 4) (j / 2) < 2 ^ 31 by omega)]
        unfold oMax at f2 ⊢
        by_cases q3 : v < N 3 s * N 4 s - sP a b d (N 0 3) (N 0 4) (j / 2)
        · simp only [q3, if_true] at f2 ⊢
          exact f2
        · simp only [q3, if_false] at f2 ⊢
          exact f2
theorem pz_9999 : (9999 : Int32).toInt = 9999 ∧ (9999 : Int64).toInt = 9999 := ⟨rfl, rfl⟩
set_option maxRecDepth 10000 in
theorem st_year (p0 p1 p2 p3 : Int32) : Sim (fX9_year_0 p0 p1 p2 p3) (fX10_year_55 p0 p1 p2 p3) := by
  intro h H
  obtain ⟨N, hG, hM, hN⟩ := H.1
  by_cases hb : pbx p2 (N 0 2) = true
  · by_cases hc : 0 ≤ p0.toInt ∧ p0.toInt ≤ 9999
    · by_cases hd : 1 ≤ p1.toInt ∧ p1.toInt ≤ 99
      · by_cases hw : 0 ≤ p3.toInt ∧ p3.toInt ≤ 2
        · obtain ⟨s, hs, rfl, -⟩ := pbx_i hN.1.2.2 hb
          obtain ⟨x, hx, rfl⟩ := pz_nat (n := 9999) (by decide) (v := p0) (by omega)
          obtain ⟨K, hK, rfl⟩ := pz_nat (n := 99) (by decide) (v := p1) (by omega)
          obtain ⟨h1, f1, t1⟩ := pe_yLoop (z := p3) hN hs hK K 0 mv_F x 0 none 0 h (by omega) (by rw [mv_F_eq]; omega) (by omega) (bel_none _) hG
          obtain ⟨h2, f2, t2⟩ := pe_myLoop (z := p3) hN hs hK K 0 mv_F x 0 none 0 h1 (by omega) (by rw [mv_F_eq]; omega) (by omega) (bel_none _) (by omega) (by simp) (t1.rdM hM)
          rw [pz_lit.1] at f1 f2
          refine ⟨yres p3 (yrun (N 0 3) (N 0 4) (N 3 s) (N 4 s) K x 0 none 0), h1, h2, ?_, ?_, (t1.tr t2).inv H⟩
          · simp only [fX9_year_0, pe_hs (rd_b hG).2.2, hb, pe_isWithin, pz_32, pz_9999, pz_99, hc, hd, hw, Option.bind_some]
            simp only [if_true, and_self]
            exact f1
          · simp only [fX10_year_55, pe_ms (rd_mb (t1.rdM hM)).2.2, hb, pe_in, pz_64, pz_9999, pz_99, hc, hd, hw, Int32.toInt_toInt64, Option.bind_some]
            simp only [if_true, and_self]
            exact f2
        · refine ⟨-2, h, h, ?_, ?_, H⟩
          · simp [fX9_year_0, pe_hs (rd_b hG).2.2, hb, pe_isWithin, pz_32, pz_9999, pz_99, hc, hd, hw]
          · simp [fX10_year_55, pe_ms (rd_mb hM).2.2, hb, pe_in, pz_64, pz_9999, pz_99, hc, hd, hw]
      · refine ⟨-2, h, h, ?_, ?_, H⟩
        · simp [fX9_year_0, pe_hs (rd_b hG).2.2, hb, pe_isWithin, pz_32, pz_9999, pz_99, hc, hd]
        · simp [fX10_year_55, pe_ms (rd_mb hM).2.2, hb, pe_in, pz_64, pz_9999, pz_99, hc, hd]
    · refine ⟨-2, h, h, ?_, ?_, H⟩
      · simp [fX9_year_0, pe_hs (rd_b hG).2.2, hb, pe_isWithin, pz_32, pz_9999, hc]
      · simp [fX10_year_55, pe_ms (rd_mb hM).2.2, hb, pe_in, pz_64, pz_9999, hc]
  · refine ⟨-1, h, h, ?_, ?_, H⟩
    · simp [fX9_year_0, pe_hs (rd_b hG).2.2, hb]
    · simp [fX10_year_55, pe_ms (rd_mb hM).2.2, hb]
