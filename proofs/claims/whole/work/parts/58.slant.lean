/-! slant, slants, saved, corners -/
def sSq (a b c x : Nat) : Option Nat := if sU a b c x = sV a b c x then some (ar (2 * (sU a b c x + sA a b c x) * (sU a b c x + sA a b c x))) else none
theorem sSq_b {a b c x : Nat} (hb : a ≤ 20 ∧ b ≤ 20 ∧ c ≤ 20) : 2 * (sU a b c x + sA a b c x) * (sU a b c x + sA a b c x) ≤ 3200 := by
  have hu := sU_le (c := c) (x := x) hb.1 hb.2.1
  have ha := sA_le (x := x) hb.1 hb.2.1 hb.2.2
  have := Nat.mul_le_mul (show 2 * (sU a b c x + sA a b c x) ≤ 80 by omega) (show sU a b c x + sA a b c x ≤ 40 by omega)
  omega
theorem sSq_bel {a b c x : Nat} (hb : a ≤ 20 ∧ b ≤ 20 ∧ c ≤ 20) : bel 58 (sSq a b c x) := by
  intro j hj
  have h0 := sSq_b (x := x) hb
  have := ar_le (n := 2 * (sU a b c x + sA a b c x) * (sU a b c x + sA a b c x)) (m := 57) (by omega)
  unfold sSq at hj
  split at hj
  · cases hj; omega
  · cases hj
theorem pe_sq {h : mv_H} {a b c l e x : Nat} (w : WrapIs h a b c l e) (hx : x < 3) (hb : a ≤ 20 ∧ b ≤ 20 ∧ c ≤ 20) : fX8_squareFor_38 (nI x) h = some (enc (sSq a b c x)) := by
  have h0 := sSq_b (x := x) hb
  have hu := sU_le (c := c) (x := x) hb.1 hb.2.1
  have hv := sV_le (a := a) (x := x) hb.2.1 hb.2.2
  have hz : (nI (sU a b c x) = nI (sV a b c x)) = (sU a b c x = sV a b c x) := propext (nI_eq (by omega) (by omega))
  have z2 : (2 : Int32) = nI 2 := rfl
  unfold fX8_squareFor_38
  simp only [pe_u w hx, pe_v w hx, pe_along w hx, Option.bind_some, mv_let, nI_add, z2, pk_mul, hz, pe_rootAbove (show 2 * (sU a b c x + sA a b c x) * (sU a b c x + sA a b c x) < 2 ^ 30 by omega)]
  unfold sSq
  by_cases q : sU a b c x = sV a b c x <;> simp [q, enc]
theorem pe_msq {h : mv_H} {a b c l e x : Nat} (w : LayIs h a b c l e) (hx : x < 3) (hb : a ≤ 20 ∧ b ≤ 20 ∧ c ≤ 20) : fX10_slantBy_55 (nI x) h = some (enc (sSq a b c x)) := by
  have h0 := sSq_b (x := x) hb
  have hu := sU_le (c := c) (x := x) hb.1 hb.2.1
  have hv := sV_le (a := a) (x := x) hb.2.1 hb.2.2
  have hz : (nI (sU a b c x) = nI (sV a b c x)) = (sU a b c x = sV a b c x) := propext (nI_eq (by omega) (by omega))
  have z2 : (2 : Int32) = nI 2 := rfl
  obtain ⟨c1, c2, -⟩ := pz_ax3 x hx
  obtain ⟨-, -, i1, i2, i3⟩ := w x hx
  unfold fX10_slantBy_55
  simp only [if_pos c1, c2, i1, i2, i3, mv_let, nI_add, z2, pk_mul, hz, pe_rootOf (show 2 * (sU a b c x + sA a b c x) * (sU a b c x + sA a b c x) < 2 ^ 30 by omega)]
  unfold sSq
  by_cases q : sU a b c x = sV a b c x <;> simp [q, enc]
set_option maxRecDepth 10000 in
theorem st_slant (p0 p1 : Int32) : Sim (fX9_slant_0 p0 p1) (fX10_slant_55 p0 p1) := by
  intro h H
  obtain ⟨N, hG, hM, hN⟩ := H.1
  by_cases hb : pbx p0 (N 0 0) = true
  · by_cases ha : 0 ≤ p1.toInt ∧ p1.toInt ≤ 2
    · obtain ⟨i, hi, rfl, -⟩ := pbx_i hN.1.1 hb
      obtain ⟨x, hx, rfl⟩ := pz_axis ha
      obtain ⟨h1, h2, e1, w1, s1, e2, w2, s2, s12⟩ := q_look hi hG hM hN
      have hk := hN.b hi
      have m1 := (rd_mb (s1.rdM hM)).1
      refine ⟨enc (sSq (N 1 (3 * i)) (N 1 (3 * i + 1)) (N 1 (3 * i + 2)) x), h1, h2, ?_, ?_, s2.inv H⟩
      · simp [fX9_slant_0, pe_bba _ _ (rd_b hG).1, hb, ha, e1, pe_sq w1 hx hk]
      · simp [fX10_slant_55, pe_mb m1, hb, pe_isAxis, ha, e2, pe_msq w2 hx hk]
    · refine ⟨-1, h, h, ?_, ?_, H⟩
      · simp [fX9_slant_0, pe_bba _ _ (rd_b hG).1, hb, ha]
      · simp [fX10_slant_55, pe_mb (rd_mb hM).1, hb, pe_isAxis, ha]
  · refine ⟨-1, h, h, ?_, ?_, H⟩
    · simp [fX9_slant_0, pe_bba _ _ (rd_b hG).1, hb]
    · simp [fX10_slant_55, pe_mb (rd_mb hM).1, hb]
def sLs (a b c : Nat) : Nat → Nat → Option Nat → Option Nat := vfd (fun x => (sSq a b c x).isSome) (fun x => (sSq a b c x).getD 0)
theorem pe_lsLoop {h : mv_H} {a b c l e : Nat} (w : WrapIs h a b c l e) (hb : a ≤ 20 ∧ b ≤ 20 ∧ c ≤ 20) : ∀ (n k m : Nat) (o : Option Nat), n + k = 3 → n < m → bel 58 o → fX8_leastSquare_38_b5 m (enc o) (nI k) h = some (enc (sLs a b c n k o))
  | n, k, 0, o, _, hm, _ => absurd hm (by omega)
  | 0, k, m + 1, o, hn, _, _ => by
    rw [show k = 3 by omega, fX8_leastSquare_38_b5, if_neg (by decide)]; rfl
  | n + 1, k, m + 1, o, hn, hm, ho => by
    have hk : k < 3 := by omega
    have hbl := sSq_bel (x := k) hb
    have hM : (sSq a b c k).getD 0 < 58 := by
      cases q : sSq a b c k with
      | none => decide
      | some j => exact hbl j q
    have ih := pe_lsLoop w hb n (k + 1) m (vst (fun x => (sSq a b c x).isSome) (fun x => (sSq a b c x).getD 0) k o) (by omega) (by omega) (vst_bel ho hM)
    rw [fX8_leastSquare_38_b5, if_pos (pz_l3 hk)]
    simp only [pe_sq w hk hb, Option.bind_some, enc_eq hbl (by decide), enc_eq ho (by decide), fX8_leastSquare_38_b33, fX8_leastSquare_38_b35, nI_1]
    rw [sLs, vfd, ← sLs, ← ih]
    cases q : sSq a b c k with
    | none => simp [vst, q]
    | some y =>
      have hy := hbl y q
      cases o with
      | none => simp [vst, q, enc]
      | some j =>
        have hj := ho j rfl
        simp only [enc_some, reduceCtorEq, if_false, pz_lt3 (show y < 2 ^ 31 by omega) (show j < 2 ^ 31 by omega)]
        by_cases q2 : y < j <;> simp [vst, q, q2, enc]
theorem pe_mlsLoop {h : mv_H} {a b c l e : Nat} (w : LayIs h a b c l e) (hb : a ≤ 20 ∧ b ≤ 20 ∧ c ≤ 20) : ∀ (n k m : Nat) (o : Option Nat), n + k = 3 → n < m → bel 58 o → fX10_leastSlant_55_b5 m (enc o) (nI k) h = some (enc (sLs a b c n k o))
  | n, k, 0, o, _, hm, _ => absurd hm (by omega)
  | 0, k, m + 1, o, hn, _, _ => by
    rw [show k = 3 by omega, fX10_leastSlant_55_b5, if_neg (by decide)]; rfl
  | n + 1, k, m + 1, o, hn, hm, ho => by
    have hk : k < 3 := by omega
    have hbl := sSq_bel (x := k) hb
    have hM : (sSq a b c k).getD 0 < 58 := by
      cases q : sSq a b c k with
      | none => decide
      | some j => exact hbl j q
    have ih := pe_mlsLoop w hb n (k + 1) m (vst (fun x => (sSq a b c x).isSome) (fun x => (sSq a b c x).getD 0) k o) (by omega) (by omega) (vst_bel ho hM)
    rw [fX10_leastSlant_55_b5, if_pos (pz_l3 hk)]
    simp only [pe_msq w hk hb, Option.bind_some, enc_lt hbl (by decide), enc_lt ho (by decide), fX10_leastSlant_55_b33, fX10_leastSlant_55_b34, fX10_leastSlant_55_b29, nI_1]
    rw [sLs, vfd, ← sLs, ← ih]
    cases q : sSq a b c k with
    | none => simp [vst, q]
    | some y =>
      have hy := hbl y q
      cases o with
      | none => simp [vst, q, enc]
      | some j =>
        have hj := ho j rfl
        simp only [enc_some, reduceCtorEq, if_false, pz_lt3 (show y < 2 ^ 31 by omega) (show j < 2 ^ 31 by omega)]
        by_cases q2 : y < j <;> simp [vst, q, q2, enc]
theorem sLs_bel {a b c : Nat} (hb : a ≤ 20 ∧ b ≤ 20 ∧ c ≤ 20) : bel 58 (sLs a b c 3 0 none) := by
  refine vfd_bel (fun k => ?_) 3 0 none (bel_none _)
  have hbl := sSq_bel (x := k) hb
  cases q : sSq a b c k with
  | none => decide
  | some j => exact hbl j q
theorem pe_ls {h : mv_H} {a b c l e : Nat} (w : WrapIs h a b c l e) (hb : a ≤ 20 ∧ b ≤ 20 ∧ c ≤ 20) : fX8_leastSquare_38 h = some (enc (sLs a b c 3 0 none)) := pe_lsLoop w hb 3 0 mv_F none rfl (by rw [mv_F_eq]; decide) (bel_none _)
theorem pe_mls {h : mv_H} {a b c l e : Nat} (w : LayIs h a b c l e) (hb : a ≤ 20 ∧ b ≤ 20 ∧ c ≤ 20) : fX10_leastSlant_55 h = some (enc (sLs a b c 3 0 none)) := pe_mlsLoop w hb 3 0 mv_F none rfl (by rw [mv_F_eq]; decide) (bel_none _)
set_option maxRecDepth 10000 in
theorem st_slants (p0 p1 : Int32) : Sim (fX9_slants_0 p0 p1) (fX10_slants_55 p0 p1) := by
  intro h H
  obtain ⟨N, hG, hM, hN⟩ := H.1
  by_cases hb : pbx p0 (N 0 0) = true
  · by_cases hc : pbx p1 (N 0 2) = true
    · obtain ⟨i, hi, rfl, -⟩ := pbx_i hN.1.1 hb
      obtain ⟨s, hs, rfl, -⟩ := pbx_i hN.1.2.2 hc
      obtain ⟨h1, h2, e1, w1, s1, e2, w2, s2, s12⟩ := q_look hi hG hM hN
      have hk := hN.b hi
      have m1 := rd_mb (s1.rdM hM)
      have g1 := s1.rdG (Or.inl rfl) hG
      have n2 := rd_m3 (s2.rdM hM) hs
      obtain ⟨d1, d2, -⟩ := pz_i6 s hs
      have l1 := (hN.s hs).1
      have l2 := (hN.s hs).2
      have k1 := pe_ls w1 hk
      have k2 := pe_mls w2 hk
      have hbl := sLs_bel hk
      generalize sLs (N 1 (3 * i)) (N 1 (3 * i + 1)) (N 1 (3 * i + 2)) 3 0 none = o at k1 k2 hbl
      have CC : fX9_slants_0 (nI i) (nI s) h = (if o = none then some (0, h1) else if nI (min (N 3 s) (N 4 s)) < enc o then some (0, h1) else some (1, h1)) := by
        simp only [fX9_slants_0, pe_hb (rd_b hG).1, hb, pe_hs (rd_b hG).2.2, hc, e1, k1, (pe_s0 g1 hs).1, (pe_s0 g1 hs).2, Option.bind_some, mv_let, pz_min (show N 3 s < 2 ^ 31 by omega) (show N 4 s < 2 ^ 31 by omega), enc_eq hbl (by decide)]
        simp
      have MM : fX10_slants_55 (nI i) (nI s) h1 = (if o = none then some (0, h2) else if nI (N 3 s) < enc o then some (0, h2) else if nI (N 4 s) < enc o then some (0, h2) else some (1, h2)) := by
        simp only [fX10_slants_55, pe_mb m1.1, hb, pe_ms m1.2.2, hc, e2, k2, Option.bind_some, enc_lt hbl (by decide), if_pos d1, d2, n2.1, n2.2]
        simp
      cases o with
      | none => exact ⟨0, h1, h2, by rw [CC]; simp, by rw [MM]; simp, s2.inv H⟩
      | some y =>
        have hy := hbl y rfl
        simp only [enc_some, pz_lt3 (show min (N 3 s) (N 4 s) < 2 ^ 31 by omega) (show y < 2 ^ 31 by omega), pz_lt3 (show N 3 s < 2 ^ 31 by omega) (show y < 2 ^ 31 by omega), pz_lt3 (show N 4 s < 2 ^ 31 by omega) (show y < 2 ^ 31 by omega), reduceCtorEq, if_false] at CC MM
        by_cases q : min (N 3 s) (N 4 s) < y
        · refine ⟨0, h1, h2, by rw [CC]; simp [q], ?_, s2.inv H⟩
          rw [MM]
          by_cases q1 : N 3 s < y
          · simp [q1]
          · have q2 : N 4 s < y := by omega
            simp [q2]
        · refine ⟨1, h1, h2, by rw [CC]; simp [q], ?_, s2.inv H⟩
          have q1 : ¬ N 3 s < y := by omega
          have q2 : ¬ N 4 s < y := by omega
          rw [MM]; simp [q1, q2]
    · refine ⟨-1, h, h, ?_, ?_, H⟩
      · simp [fX9_slants_0, pe_hb (rd_b hG).1, hb, pe_hs (rd_b hG).2.2, hc]
      · simp [fX10_slants_55, pe_mb (rd_mb hM).1, hb, pe_ms (rd_mb hM).2.2, hc]
  · refine ⟨-1, h, h, ?_, ?_, H⟩
    · simp [fX9_slants_0, pe_hb (rd_b hG).1, hb]
    · simp [fX10_slants_55, pe_mb (rd_mb hM).1, hb]
set_option maxRecDepth 10000 in
theorem st_saved (p0 : Int32) : Sim (fX9_saved_0 p0) (fX10_saved_55 p0) := by
  intro h H
  obtain ⟨N, hG, hM, hN⟩ := H.1
  by_cases hb : pbx p0 (N 0 0) = true
  · obtain ⟨i, hi, rfl, -⟩ := pbx_i hN.1.1 hb
    obtain ⟨h1, h2, e1, w1, s1, e2, w2, s2, s12⟩ := q_look hi hG hM hN
    have hk := hN.b hi
    have m1 := rd_mb (s1.rdM hM)
    have k1 := pe_ls w1 hk
    have k2 := pe_mls w2 hk
    have hbl := sLs_bel hk
    have k3 := pe_leastPaper w1 hk hN.2.1.1 hN.2.1.2.1
    have k4 := pe_mleastAxis w2 hk hN.2.1.1 hN.2.1.2.1
    have k5 := pe_mpaper w2 (sLeast_lt (N 1 (3 * i)) (N 1 (3 * i + 1)) (N 1 (3 * i + 2)) (N 0 3) (N 0 4))
    generalize sLs (N 1 (3 * i)) (N 1 (3 * i + 1)) (N 1 (3 * i + 2)) 3 0 none = o at k1 k2 hbl
    generalize sP (N 1 (3 * i)) (N 1 (3 * i + 1)) (N 1 (3 * i + 2)) (N 0 3) (N 0 4) (sLeast (N 1 (3 * i)) (N 1 (3 * i + 1)) (N 1 (3 * i + 2)) (N 0 3) (N 0 4)) = q at k3 k5
    cases o with
    | none =>
      refine ⟨-6, h1, h2, ?_, ?_, s2.inv H⟩
      · simp [fX9_saved_0, pe_hb (rd_b hG).1, hb, e1, k1, enc]
      · simp [fX10_saved_55, pe_mb m1.1, hb, e2, k2, enc]
    | some y =>
      have hy := hbl y rfl
      have n1 := pe_n6 hy (by decide)
      have n2 : ¬ nI y < 0 := nI_pos (by omega)
      refine ⟨(100000 + nI q) - nI y * nI y, h1, h2, ?_, ?_, s2.inv H⟩
      · simp [fX9_saved_0, pe_hb (rd_b hG).1, hb, e1, k1, enc, n1, k3]
      · simp [fX10_saved_55, pe_mb m1.1, hb, e2, k2, enc, n2, k4, k5]
        rw [Int32.sub_eq_add_neg, Int32.sub_eq_add_neg, Int32.add_comm 100000, Int32.add_assoc, Int32.add_assoc, Int32.add_comm 100000]
  · refine ⟨-1, h, h, ?_, ?_, H⟩
    · simp [fX9_saved_0, pe_hb (rd_b hG).1, hb]
    · simp [fX10_saved_55, pe_mb (rd_mb hM).1, hb]
set_option maxRecDepth 10000 in
theorem st_corners (p0 p1 p2 : Int32) : Sim (fX9_corners_0 p0 p1 p2) (fX10_corners_55 p0 p1 p2) := by
  intro h H
  obtain ⟨N, hG, hM, hN⟩ := H.1
  by_cases hb : pbx p0 (N 0 0) = true
  · by_cases ha : 0 ≤ p1.toInt ∧ p1.toInt ≤ 2
    · by_cases hw : 0 ≤ p2.toInt ∧ p2.toInt ≤ 1
      · obtain ⟨i, hi, rfl, -⟩ := pbx_i hN.1.1 hb
        obtain ⟨x, hx, rfl⟩ := pz_axis ha
        obtain ⟨h1, h2, e1, w1, s1, e2, w2, s2, s12⟩ := q_look hi hG hM hN
        have hk := hN.b hi
        have m1 := (rd_mb (s1.rdM hM)).1
        obtain ⟨c1, c2, -⟩ := pz_ax3 x hx
        obtain ⟨-, -, i1, i2, i3⟩ := w2 x hx
        have f1 := pe_u w1 hx
        have f2 := pe_v w1 hx
        have f3 := pe_along w1 hx
        have hu := sU_le (c := N 1 (3 * i + 2)) (x := x) hk.1 hk.2.1
        have hv := sV_le (a := N 1 (3 * i)) (x := x) hk.2.1 hk.2.2
        have hA := sA_le (x := x) hk.1 hk.2.1 hk.2.2
        generalize sU (N 1 (3 * i)) (N 1 (3 * i + 1)) (N 1 (3 * i + 2)) x = u at i1 f1 hu
        generalize sV (N 1 (3 * i)) (N 1 (3 * i + 1)) (N 1 (3 * i + 2)) x = v at i2 f2 hv
        generalize sA (N 1 (3 * i)) (N 1 (3 * i + 1)) (N 1 (3 * i + 2)) x = a at i3 f3 hA
        have k1 := (rd_s (s1.rdG (Or.inl rfl) hG)).2.2.2
        have k2 := (rd_ms (s2.rdM hM)).2.2.2
        have z4 : (4 : Int32) = nI 4 := rfl
        have z10 : (10000 : Int32) = nI 10000 := rfl
        obtain ⟨q, hq⟩ : ∃ q, q = 4 * ((u + a) * (u + a) + (v + a) * (v + a)) := ⟨_, rfl⟩
        have b1 := Nat.mul_le_mul (show u + a ≤ 40 by omega) (show u + a ≤ 40 by omega)
        have b2 := Nat.mul_le_mul (show v + a ≤ 40 by omega) (show v + a ≤ 40 by omega)
        have hqb : q ≤ 12800 := by omega
        have g1 : fX8_cornerSquare_38 (nI x) h1 = some (nI q) := by
          simp only [fX8_cornerSquare_38, f1, f2, f3, Option.bind_some, mv_let, nI_add, z4, pk_mul, hq]
        have MM : ∀ z, 0 ≤ z.toInt ∧ z.toInt ≤ 1 → fX10_corners_55 (nI i) (nI x) z h1 = (if z = 0 then some (nI (ar q + N 0 6), h2) else some (nI (br (10000 * q)), h2)) := fun z hz => by
          simp only [fX10_corners_55, pe_mb m1, hb, pe_isAxis, ha, pe_in, pz_64, hz, Int32.toInt_toInt64, e2, Option.bind_some, if_pos c1, c2, i1, i2, i3, mv_let, nI_add, z4, z10, pk_mul, ← hq, pe_rootOf (show q < 2 ^ 30 by omega), pe_rootOf (show 10000 * q < 2 ^ 30 by omega), k2]
          have y1 := br_is (10000 * q)
          have y2 : ar (10000 * q) * ar (10000 * q) < 2 ^ 31 := by
            have := Nat.mul_le_mul (ar_le (n := 10000 * q) (m := 12000) (by omega)) (ar_le (n := 10000 * q) (m := 12000) (by omega))
            omega
          simp only [pz_lt3 (show 10000 * q < 2 ^ 31 by omega) y2]
          by_cases z0 : z = 0
          · simp [z0]
          · unfold ar
            by_cases y : br (10000 * q) * br (10000 * q) < 10000 * q
            · have e1 : nI (br (10000 * q) + 1) - 1 = nI (br (10000 * q)) := pk_sub (a := br (10000 * q) + 1) (b := 1) (by omega)
              simp [z0, y, y1.2, e1]
            · have : ¬ 10000 * q < br (10000 * q) * br (10000 * q) := by omega
              simp [z0, y, this]
        rcases pz_two hw with rfl | rfl
        · refine ⟨nI (ar q + N 0 6), h1, h2, ?_, by rw [MM _ hw]; simp, s2.inv H⟩
          simp [fX9_corners_0, pe_bba _ _ (rd_b hG).1, hb, ha, pe_isWithin, pz_32, e1, g1, pe_rootAbove (show q < 2 ^ 30 by omega), fX1_setting_1, k1, nI_add]
        · refine ⟨nI (br (10000 * q)), h1, h2, ?_, by rw [MM _ hw]; simp, s2.inv H⟩
          simp [fX9_corners_0, pe_bba _ _ (rd_b hG).1, hb, ha, pe_isWithin, pz_32, e1, g1, z10, pk_mul, pe_rootBelow (show 10000 * q < 2 ^ 30 by omega)]
      · refine ⟨-2, h, h, ?_, ?_, H⟩
        · simp [fX9_corners_0, pe_bba _ _ (rd_b hG).1, hb, ha, pe_isWithin, pz_32, hw]
        · simp [fX10_corners_55, pe_mb (rd_mb hM).1, hb, pe_isAxis, ha, pe_in, pz_64, hw]
    · refine ⟨-1, h, h, ?_, ?_, H⟩
      · simp [fX9_corners_0, pe_bba _ _ (rd_b hG).1, hb, ha]
      · simp [fX10_corners_55, pe_mb (rd_mb hM).1, hb, pe_isAxis, ha]
  · refine ⟨-1, h, h, ?_, ?_, H⟩
    · simp [fX9_corners_0, pe_bba _ _ (rd_b hG).1, hb]
    · simp [fX10_corners_55, pe_mb (rd_mb hM).1, hb]
