/-! narrow: the least of values -/
def vst (P : Nat → Bool) (M : Nat → Nat) (k : Nat) (o : Option Nat) : Option Nat := if P k = true then (match o with
  | none => some (M k)
  | some v => if M k < v then some (M k) else some v) else o
def vfd (P : Nat → Bool) (M : Nat → Nat) : Nat → Nat → Option Nat → Option Nat
  | 0, _, o => o
  | n + 1, k, o => vfd P M n (k + 1) (vst P M k o)
theorem vst_bel {P : Nat → Bool} {M : Nat → Nat} {k m : Nat} {o : Option Nat} (h : bel m o) (hm : M k < m) : bel m (vst P M k o) := by
  intro j hj
  unfold vst at hj
  by_cases q : P k = true
  · rw [if_pos q] at hj
    cases o with
    | none => cases hj; exact hm
    | some i =>
      have := h i rfl
      simp only at hj
      split at hj <;> cases hj <;> omega
  · rw [if_neg q] at hj
    exact h j hj
theorem vfd_bel {P : Nat → Bool} {M : Nat → Nat} {m : Nat} (hm : ∀ k, M k < m) : ∀ (n k : Nat) (o : Option Nat), bel m o → bel m (vfd P M n k o)
  | 0, k, o, h => h
  | n + 1, k, o, h => vfd_bel hm n (k + 1) _ (vst_bel h (hm k))
def far (o : Option Nat) : Int32 := match o with
  | none => 1000000000
  | some j => nI j
def sNar (a b c l e q : Nat) : Nat → Nat → Option Nat → Option Nat := vfd (fun k => decide (lenW a b c l e k ≤ q)) (acrW a b c l e)
theorem pe_narLoop {h : mv_H} {a b c l e q : Nat} (i : WrapIs h a b c l e) (hb : a ≤ 20 ∧ b ≤ 20 ∧ c ≤ 20) (hl : l ≤ 9) (he : e ≤ 9) (hq : q ≤ 300) : ∀ (n k m : Nat) (o : Option Nat), n + k = 6 → n < m → bel 90 o → fX8_leastAcross_38_b5 m (nI q) (enc o) (nI k) h = some (enc (sNar a b c l e q n k o))
  | n, k, 0, o, _, hm, _ => absurd hm (by omega)
  | 0, k, m + 1, o, hn, _, _ => by
    rw [show k = 6 by omega, fX8_leastAcross_38_b5, if_neg (by decide)]; rfl
  | n + 1, k, m + 1, o, hn, hm, ho => by
    have hk : k < 6 := by omega
    have lk := lenW_le (k := k) hb hl he
    have ih := pe_narLoop i hb hl he hq n (k + 1) m (vst (fun k => decide (lenW a b c l e k ≤ q)) (acrW a b c l e) k o) (by omega) (by omega) (vst_bel ho (by omega))
    rw [fX8_leastAcross_38_b5, if_pos (pz_l6 hk)]
    have z : ¬ (150 : Int32) < nI (acrW a b c l e k) := show ¬ nI 150 < nI (acrW a b c l e k) from nI_nlt (by omega) (by omega)
    simp only [(pe_len i hb hk).1, (pe_len i hb hk).2, Option.bind_some, enc_eq ho (by decide), fX8_leastAcross_38_b47, fX8_leastAcross_38_b50, nI_1, pz_lt3 (show q < 2 ^ 31 by omega) (show lenW a b c l e k < 2 ^ 31 by omega), z, if_false]
    rw [sNar, vfd, ← sNar, ← ih]
    by_cases q1 : q < lenW a b c l e k
    · have q' : ¬ lenW a b c l e k ≤ q := by omega
      simp [vst, q1, q']
    · have q' : lenW a b c l e k ≤ q := by omega
      cases o with
      | none => simp [vst, q1, q', enc]
      | some j =>
        have hj := ho j rfl
        simp only [enc_some, reduceCtorEq, if_false, pz_lt3 (show acrW a b c l e k < 2 ^ 31 by omega) (show j < 2 ^ 31 by omega), q1]
        by_cases q2 : acrW a b c l e k < j <;> simp [vst, q', q2, enc]
theorem pe_mnarLoop {h : mv_H} {a b c l e q : Nat} (i : LayIs h a b c l e) (hb : a ≤ 20 ∧ b ≤ 20 ∧ c ≤ 20) (hl : l ≤ 9) (he : e ≤ 9) (hq : q ≤ 300) : ∀ (n k m : Nat) (o : Option Nat), n + k = 6 → n < m → bel 90 o → fX10_narrow_55_b36 m (nI q) (far o) (nI k) h = some (enc (sNar a b c l e q n k o), h)
  | n, k, 0, o, _, hm, _ => absurd hm (by omega)
  | 0, k, m + 1, o, hn, _, ho => by
    rw [show k = 6 by omega, fX10_narrow_55_b36, if_neg (by decide)]
    cases o with
    | none => rfl
    | some j =>
      have hj := ho j rfl
      rw [far, if_neg (show ¬ (150 : Int32) < nI j from (nI_nlt (by omega) (by omega) : ¬ nI 150 < nI j))]
      rfl
  | n + 1, k, m + 1, o, hn, hm, ho => by
    have hk : k < 6 := by omega
    have lk := lenW_le (k := k) hb hl he
    have ih := pe_mnarLoop i hb hl he hq n (k + 1) m (vst (fun k => decide (lenW a b c l e k ≤ q)) (acrW a b c l e) k o) (by omega) (by omega) (vst_bel ho (by omega))
    rw [fX10_narrow_55_b36, if_pos (pz_l6 hk)]
    simp only [(pe_mlen i hk).1, (pe_mlen i hk).2, Option.bind_some, fX10_narrow_55_b72, fX10_narrow_55_b73, nI_1, pz_lt3 (show q < 2 ^ 31 by omega) (show lenW a b c l e k < 2 ^ 31 by omega)]
    rw [sNar, vfd, ← sNar, ← ih]
    by_cases q1 : q < lenW a b c l e k
    · have q' : ¬ lenW a b c l e k ≤ q := by omega
      simp [vst, q1, q']
    · have q' : lenW a b c l e k ≤ q := by omega
      cases o with
      | none =>
        have z : nI (acrW a b c l e k) < (1000000000 : Int32) := show nI (acrW a b c l e k) < nI 1000000000 from nI_lt (by omega) (by decide)
        simp [vst, q1, q', far, z]
      | some j =>
        have hj := ho j rfl
        simp only [far, if_false, pz_lt3 (show acrW a b c l e k < 2 ^ 31 by omega) (show j < 2 ^ 31 by omega), q1]
        by_cases q2 : acrW a b c l e k < j <;> simp [vst, q', q2, far]
theorem pz_300 : (300 : Int32).toInt = 300 ∧ (300 : Int64).toInt = 300 := ⟨rfl, rfl⟩
set_option maxRecDepth 10000 in
theorem st_narrow (p0 p1 : Int32) : Sim (fX9_narrow_0 p0 p1) (fX10_narrow_55 p0 p1) := by
  intro h H
  obtain ⟨N, hG, hM, hN⟩ := H.1
  by_cases hb : pbx p0 (N 0 0) = true
  · by_cases hc : 1 ≤ p1.toInt ∧ p1.toInt ≤ 300
    · obtain ⟨i, hi, rfl, -⟩ := pbx_i hN.1.1 hb
      obtain ⟨w, hw1, rfl⟩ := pz_nat (n := 300) (by decide) (v := p1) (by omega)
      obtain ⟨h1, h2, e1, w1, s1, e2, w2, s2, s12⟩ := q_look hi hG hM hN
      have m1 := rd_mb (s1.rdM hM)
      have hk := hN.b hi
      have k1 := pe_narLoop w1 hk hN.2.1.1 hN.2.1.2.1 hw1 6 0 mv_F none rfl (by rw [mv_F_eq]; decide) (bel_none 90)
      have k2 := pe_mnarLoop w2 hk hN.2.1.1 hN.2.1.2.1 hw1 6 0 mv_F none rfl (by rw [mv_F_eq]; decide) (bel_none 90)
      refine ⟨enc (sNar (N 1 (3 * i)) (N 1 (3 * i + 1)) (N 1 (3 * i + 2)) (N 0 3) (N 0 4) w 6 0 none), h1, h2, ?_, ?_, s2.inv H⟩
      · simp only [fX9_narrow_0, pe_hb (rd_b hG).1, hb, pe_isWithin, pz_32, pz_300, hc, e1, Option.bind_some, fX8_leastAcross_38]
        rw [show fX8_leastAcross_38_b5 mv_F (nI w) (-6) 0 h1 = _ from k1]
        simp
      · simp only [fX10_narrow_55, pe_mb m1.1, hb, pe_in, pz_64, pz_300, hc, Int32.toInt_toInt64, e2, Option.bind_some]
        rw [show fX10_narrow_55_b36 mv_F (nI w) 1000000000 0 h2 = _ from k2]
        simp
    · refine ⟨-2, h, h, ?_, ?_, H⟩
      · simp [fX9_narrow_0, pe_hb (rd_b hG).1, hb, pe_isWithin, pz_32, pz_300, hc]
      · simp [fX10_narrow_55, pe_mb (rd_mb hM).1, hb, pe_in, pz_64, pz_300, hc]
  · refine ⟨-1, h, h, ?_, ?_, H⟩
    · simp [fX9_narrow_0, pe_hb (rd_b hG).1, hb]
    · simp [fX10_narrow_55, pe_mb (rd_mb hM).1, hb]
