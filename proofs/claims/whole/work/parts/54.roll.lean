/-! rolls: roll, narrow -/
def lenW (a b c l e k : Nat) : Nat := if k % 2 = 0 then sR a b c l (k / 2) else sL a b c e (k / 2)
def acrW (a b c l e k : Nat) : Nat := if k % 2 = 0 then sL a b c e (k / 2) else sR a b c l (k / 2)
theorem lenW_le {a b c l e k : Nat} (hb : a ≤ 20 ∧ b ≤ 20 ∧ c ≤ 20) (hl : l ≤ 9) (he : e ≤ 9) : lenW a b c l e k ≤ 89 ∧ acrW a b c l e k ≤ 89 := by
  obtain ⟨b1, b2, -⟩ := sP_lt (x := k / 2) hb hl he
  unfold lenW acrW
  constructor <;> split <;> omega
theorem pe_len {h : mv_H} {a b c l e k : Nat} (i : WrapIs h a b c l e) (hb : a ≤ 20 ∧ b ≤ 20 ∧ c ≤ 20) (hk : k < 6) : fX8_lengthOff_38 (nI k) h = some (nI (lenW a b c l e k)) ∧ fX8_acrossOff_38 (nI k) h = some (nI (acrW a b c l e k)) := by
  have hz : (nI (k % 2) = 0) = (k % 2 = 0) := propext (nI_eq (by omega) (by decide))
  have hx : k / 2 < 3 := by omega
  unfold fX8_lengthOff_38 fX8_acrossOff_38 lenW acrW
  simp only [fX9_axisOf, fX9_turnOf, pz_half (show k < 2 ^ 31 by omega), pz_mod2' (show k < 2 ^ 31 by omega), Option.bind_some, pe_round i hx, pe_reach i hx hb, hz]
  by_cases q : k % 2 = 0 <;> simp [q]
theorem pe_mlen {h : mv_H} {a b c l e k : Nat} (i : LayIs h a b c l e) (hk : k < 6) : fX10_lengthBy_55 (nI k) h = some (nI (lenW a b c l e k)) ∧ fX10_acrossBy_55 (nI k) h = some (nI (acrW a b c l e k)) := by
  have hz : (nI (k % 2) = 0) = (k % 2 = 0) := propext (nI_eq (by omega) (by decide))
  have hx : k / 2 < 3 := by omega
  obtain ⟨c1, c2, -⟩ := pz_ax3 (k / 2) hx
  obtain ⟨i1, i2, -⟩ := i (k / 2) hx
  unfold fX10_lengthBy_55 fX10_acrossBy_55 lenW acrW
  simp only [pz_half (show k < 2 ^ 31 by omega), pz_mod2' (show k < 2 ^ 31 by omega), if_pos c1, c2, i1, i2, hz]
  by_cases q : k % 2 = 0 <;> simp [q]
def sRoll (a b c l e w : Nat) : Option Nat := wfd (fun k => decide (acrW a b c l e k ≤ w)) (lenW a b c l e) 6 0 none
theorem sRoll_bel (a b c l e w : Nat) : bel 6 (sRoll a b c l e w) := wfd_bel 6 0 none (bel_none 0)
theorem pe_rollLoop {h : mv_H} {a b c l e w : Nat} (i : WrapIs h a b c l e) (hb : a ≤ 20 ∧ b ≤ 20 ∧ c ≤ 20) (hl : l ≤ 9) (he : e ≤ 9) (hw : w ≤ 150) : ∀ (n k m : Nat) (o : Option Nat), n + k = 6 → n < m → bel k o → fX8_wayOffRoll_38_b5 m (nI w) (enc o) (nI k) h = some (enc (wfd (fun k => decide (acrW a b c l e k ≤ w)) (lenW a b c l e) n k o))
  | n, k, 0, o, _, hm, _ => absurd hm (by omega)
  | 0, k, m + 1, o, hn, _, _ => by
    rw [show k = 6 by omega, fX8_wayOffRoll_38_b5, if_neg (by decide)]; rfl
  | n + 1, k, m + 1, o, hn, hm, ho => by
    have hk : k < 6 := by omega
    have ih := pe_rollLoop i hb hl he hw n (k + 1) m (wst (fun k => decide (acrW a b c l e k ≤ w)) (lenW a b c l e) k o) (by omega) (by omega) (wst_bel ho)
    have lk := lenW_le (k := k) hb hl he
    rw [fX8_wayOffRoll_38_b5, if_pos (pz_l6 hk)]
    simp only [(pe_len i hb hk).1, (pe_len i hb hk).2, Option.bind_some, enc_eq ho (by omega), fX8_wayOffRoll_38_b39, fX8_wayOffRoll_38_b41, nI_1, pz_lt3 (show w < 2 ^ 31 by omega) (show acrW a b c l e k < 2 ^ 31 by omega)]
    rw [wfd, ← ih]
    by_cases q : w < acrW a b c l e k
    · have q' : ¬ acrW a b c l e k ≤ w := by omega
      simp [wst, q, q']
    · have q' : acrW a b c l e k ≤ w := by omega
      cases o with
      | none => simp [wst, q, q', enc]
      | some j =>
        have hj := ho j rfl
        have lj := lenW_le (k := j) hb hl he
        simp only [enc_some, (pe_len i hb (show j < 6 by omega)).1, Option.bind_some, reduceCtorEq, if_false, pz_lt3 (show lenW a b c l e k < 2 ^ 31 by omega) (show lenW a b c l e j < 2 ^ 31 by omega), q]
        by_cases q2 : lenW a b c l e k < lenW a b c l e j <;> simp [wst, q', q2, enc]
theorem pe_roll {h : mv_H} {a b c l e w : Nat} (i : WrapIs h a b c l e) (hb : a ≤ 20 ∧ b ≤ 20 ∧ c ≤ 20) (hl : l ≤ 9) (he : e ≤ 9) (hw : w ≤ 150) : fX8_wayOffRoll_38 (nI w) h = some (enc (sRoll a b c l e w)) :=
  pe_rollLoop i hb hl he hw 6 0 mv_F none rfl (by rw [mv_F_eq]; decide) (bel_none 0)
theorem pe_mrollLoop {h : mv_H} {a b c l e w : Nat} (i : LayIs h a b c l e) (hb : a ≤ 20 ∧ b ≤ 20 ∧ c ≤ 20) (hl : l ≤ 9) (he : e ≤ 9) (hw : w ≤ 150) : ∀ (n k m : Nat) (o : Option Nat), n + k = 6 → n < m → bel k o → fX10_rollBy_55_b5 m (nI w) (enc o) (nI k) h = some (enc (wfd (fun k => decide (acrW a b c l e k ≤ w)) (lenW a b c l e) n k o))
  | n, k, 0, o, _, hm, _ => absurd hm (by omega)
  | 0, k, m + 1, o, hn, _, _ => by
    rw [show k = 6 by omega, fX10_rollBy_55_b5, if_neg (by decide)]; rfl
  | n + 1, k, m + 1, o, hn, hm, ho => by
    have hk : k < 6 := by omega
    have ih := pe_mrollLoop i hb hl he hw n (k + 1) m (wst (fun k => decide (acrW a b c l e k ≤ w)) (lenW a b c l e) k o) (by omega) (by omega) (wst_bel ho)
    have lk := lenW_le (k := k) hb hl he
    rw [fX10_rollBy_55_b5, if_pos (pz_l6 hk)]
    simp only [(pe_mlen i hk).1, (pe_mlen i hk).2, Option.bind_some, enc_lt ho (by omega), fX10_rollBy_55_b37, fX10_rollBy_55_b41, fX10_rollBy_55_b42, fX10_rollBy_55_b54, nI_1, pz_lt3 (show w < 2 ^ 31 by omega) (show acrW a b c l e k < 2 ^ 31 by omega)]
    rw [wfd, ← ih]
    by_cases q : w < acrW a b c l e k
    · have q' : ¬ acrW a b c l e k ≤ w := by omega
      simp [wst, q, q']
    · have q' : acrW a b c l e k ≤ w := by omega
      cases o with
      | none => simp [wst, q, q', enc]
      | some j =>
        have hj := ho j rfl
        have lj := lenW_le (k := j) hb hl he
        simp only [enc_some, (pe_mlen i (show j < 6 by omega)).1, Option.bind_some, reduceCtorEq, if_false, pz_lt3 (show lenW a b c l e k < 2 ^ 31 by omega) (show lenW a b c l e j < 2 ^ 31 by omega), q]
        by_cases q2 : lenW a b c l e k < lenW a b c l e j <;> simp [wst, q', q2, enc]
theorem pe_mroll {h : mv_H} {a b c l e w : Nat} (i : LayIs h a b c l e) (hb : a ≤ 20 ∧ b ≤ 20 ∧ c ≤ 20) (hl : l ≤ 9) (he : e ≤ 9) (hw : w ≤ 150) : fX10_rollBy_55 (nI w) h = some (enc (sRoll a b c l e w)) :=
  pe_mrollLoop i hb hl he hw 6 0 mv_F none rfl (by rw [mv_F_eq]; decide) (bel_none 0)
theorem pe_isWide (v : Int32) : fX10_isWide v = some (if 1 ≤ v.toInt ∧ v.toInt ≤ 150 then 1 else 0) := by
  unfold fX10_isWide
  rw [pe_in, Option.bind_some, if_pos pz_01, Int32.toInt_toInt64]; rfl
set_option maxRecDepth 10000 in
theorem st_roll (p0 p1 p2 : Int32) : Sim (fX9_roll_0 p0 p1 p2) (fX10_roll_55 p0 p1 p2) := by
  intro h H
  obtain ⟨N, hG, hM, hN⟩ := H.1
  by_cases hb : pbx p0 (N 0 0) = true
  · by_cases hc : 1 ≤ p1.toInt ∧ p1.toInt ≤ 150
    · by_cases hw : 0 ≤ p2.toInt ∧ p2.toInt ≤ 2
      · obtain ⟨i, hi, rfl, -⟩ := pbx_i hN.1.1 hb
        obtain ⟨w, hw1, rfl⟩ := pz_nat (n := 150) (by decide) (v := p1) (by omega)
        obtain ⟨h1, h2, e1, w1, s1, e2, w2, s2, s12⟩ := q_look hi hG hM hN
        have m1 := rd_mb (s1.rdM hM)
        have hk := hN.b hi
        obtain ⟨o, eo⟩ : ∃ o, o = sRoll (N 1 (3 * i)) (N 1 (3 * i + 1)) (N 1 (3 * i + 2)) (N 0 3) (N 0 4) w := ⟨_, rfl⟩
        have k1 := pe_roll w1 hk hN.2.1.1 hN.2.1.2.1 hw1
        have k2 := pe_mroll w2 hk hN.2.1.1 hN.2.1.2.1 hw1
        have hbl := sRoll_bel (N 1 (3 * i)) (N 1 (3 * i + 1)) (N 1 (3 * i + 2)) (N 0 3) (N 0 4) w
        rw [← eo] at k1 k2 hbl
        cases o with
        | none =>
          refine ⟨-6, h1, h2, ?_, ?_, s2.inv H⟩
          · simp [fX9_roll_0, pe_hb (rd_b hG).1, hb, pe_isWithin, pz_32, pz_big, hc, hw, e1, k1, enc]
          · simp [fX10_roll_55, pe_mb m1.1, hb, pe_isWide, hc, pe_in, pz_64, hw, e2, k2, enc]
        | some k =>
          have hk6 := hbl k rfl
          have n1 : ¬ nI k = -6 := fun q => by have := enc_eq hbl (by decide); simp [enc, q] at this
          have n2 : ¬ nI k < 0 := nI_pos (by omega)
          rw [enc_some] at k1 k2
          have CC : ∀ z, 0 ≤ z.toInt ∧ z.toInt ≤ 2 → fX9_roll_0 (nI i) (nI w) z h = (if z = 0 then some (nI (lenW (N 1 (3 * i)) (N 1 (3 * i + 1)) (N 1 (3 * i + 2)) (N 0 3) (N 0 4) k), h1) else if z = 1 then some (nI k / 2, h1) else some (nI k - nI k / 2 * 2, h1)) := fun z hz => by
            simp [fX9_roll_0, pe_hb (rd_b hG).1, hb, pe_isWithin, pz_32, pz_big, hc, hz, e1, k1, n1, (pe_len w1 hk hk6).1, fX9_axisOf, fX9_turnOf]
          have MM : ∀ z, 0 ≤ z.toInt ∧ z.toInt ≤ 2 → fX10_roll_55 (nI i) (nI w) z h1 = (if z = 0 then some (nI (lenW (N 1 (3 * i)) (N 1 (3 * i + 1)) (N 1 (3 * i + 2)) (N 0 3) (N 0 4) k), h2) else if z = 1 then some (nI k / 2, h2) else some (nI k - nI k / 2 * 2, h2)) := fun z hz => by
            simp [fX10_roll_55, pe_mb m1.1, hb, pe_isWide, hc, pe_in, pz_64, hz, e2, k2, n2, (pe_mlen w2 hk6).1]
          rcases pz_three hw with rfl | rfl | rfl
          · exact ⟨nI (lenW (N 1 (3 * i)) (N 1 (3 * i + 1)) (N 1 (3 * i + 2)) (N 0 3) (N 0 4) k), h1, h2, by rw [CC _ hw]; simp, by rw [MM _ hw]; simp, s2.inv H⟩
          · exact ⟨nI k / 2, h1, h2, by rw [CC _ hw]; simp, by rw [MM _ hw]; simp, s2.inv H⟩
          · exact ⟨nI k - nI k / 2 * 2, h1, h2, by rw [CC _ hw]; simp, by rw [MM _ hw]; simp, s2.inv H⟩
      · refine ⟨-2, h, h, ?_, ?_, H⟩
        · simp [fX9_roll_0, pe_hb (rd_b hG).1, hb, pe_isWithin, pz_32, pz_big, hc, hw]
        · simp [fX10_roll_55, pe_mb (rd_mb hM).1, hb, pe_isWide, hc, pe_in, pz_64, hw]
    · refine ⟨-2, h, h, ?_, ?_, H⟩
      · simp [fX9_roll_0, pe_hb (rd_b hG).1, hb, pe_isWithin, pz_32, pz_big, hc]
      · simp [fX10_roll_55, pe_mb (rd_mb hM).1, hb, pe_isWide, hc]
  · refine ⟨-1, h, h, ?_, ?_, H⟩
    · simp [fX9_roll_0, pe_hb (rd_b hG).1, hb]
    · simp [fX10_roll_55, pe_mb (rd_mb hM).1, hb]
