/-! cheaper -/
def sPri (a b c l e w p : Nat) : Option Nat := (sRoll a b c l e w).map (fun k => lenW a b c l e k * p)
theorem sPri_bel {a b c l e w p : Nat} (hb : a ≤ 20 ∧ b ≤ 20 ∧ c ≤ 20) (hl : l ≤ 9) (he : e ≤ 9) (hp : p ≤ 99) : bel 10000 (sPri a b c l e w p) := by
  intro j hj
  unfold sPri at hj
  cases q : sRoll a b c l e w with
  | none => rw [q] at hj; cases hj
  | some k =>
    rw [q] at hj
    have := (lenW_le (k := k) hb hl he).1
    have : lenW a b c l e k * p ≤ 89 * 99 := Nat.mul_le_mul this hp
    cases hj
    show lenW a b c l e k * p < 10000
    omega
theorem pe_price {h : mv_H} {N : Nat → Nat → Nat} {i w p : Nat} (hi : i < 6) (hG : rdG h 1 N) (hN : okN N) (hw : w ≤ 150) : ∃ h1, fX9_priceOff_0 (nI i) (nI w) (nI p) h = some (enc (sPri (N 1 (3 * i)) (N 1 (3 * i + 1)) (N 1 (3 * i + 2)) (N 0 3) (N 0 4) w p), h1) ∧ Same h h1 := by
  refine ⟨wr h (nI (N 1 (3 * i))) (nI (N 1 (3 * i + 1))) (nI (N 1 (3 * i + 2))) (nI (N 0 3)) (nI (N 0 4)), ?_, wr_same⟩
  have hk := hN.b hi
  have hbl := sRoll_bel (N 1 (3 * i)) (N 1 (3 * i + 1)) (N 1 (3 * i + 2)) (N 0 3) (N 0 4) w
  unfold fX9_priceOff_0 sPri
  rw [pe_wrapOf hi hG, Option.bind_some, pe_roll wr_is hk hN.2.1.1 hN.2.1.2.1 hw, Option.bind_some]
  simp only [enc_eq hbl (by decide)]
  cases q : sRoll (N 1 (3 * i)) (N 1 (3 * i + 1)) (N 1 (3 * i + 2)) (N 0 3) (N 0 4) w with
  | none => simp [enc]
  | some k =>
    have hk6 := hbl k q
    simp [enc, (pe_len wr_is hk hk6).1, pk_mul]
theorem pe_isRoll (v w : Int32) : fX9_isRoll v w = some (if (1 ≤ v.toInt ∧ v.toInt ≤ 150) ∧ (0 ≤ w.toInt ∧ w.toInt ≤ 99) then 1 else 0) := by
  unfold fX9_isRoll
  have e99 : (99 : Int32).toInt = 99 := rfl
  by_cases h1 : 1 ≤ v.toInt ∧ v.toInt ≤ 150
  · by_cases h2 : 0 ≤ w.toInt ∧ w.toInt ≤ 99 <;> simp [pe_isWithin, pz_32, pz_big, e99, h1, h2]
  · simp [pe_isWithin, pz_32, pz_big, e99, h1]
/-- which of two is cheaper, and its price -/
def sCh (o1 o2 : Option Nat) (z : Int32) : Int32 := match o1, o2 with
  | none, none => -6
  | none, some y => if z = 0 then 1 else nI y
  | some x, none => if z = 0 then 0 else nI x
  | some x, some y => if y < x then (if z = 0 then 1 else nI y) else (if z = 0 then 0 else nI x)
theorem pz_99 : (99 : Int32).toInt = 99 ∧ (99 : Int64).toInt = 99 := ⟨rfl, rfl⟩
theorem pe_n6 {x n : Nat} (hx : x < n) (hn : n ≤ 2 ^ 31) : ¬ nI x = -6 := fun q => by
  have := enc_eq (o := some x) (n := n) (fun j hj => by cases hj; exact hx) hn
  simp [enc, q] at this
set_option maxRecDepth 10000 in
theorem st_cheaper (p0 p1 p2 p3 p4 p5 : Int32) : Sim (fX9_cheaper_0 p0 p1 p2 p3 p4 p5) (fX10_cheaper_55 p0 p1 p2 p3 p4 p5) := by
  intro h H
  obtain ⟨N, hG, hM, hN⟩ := H.1
  by_cases hb : pbx p0 (N 0 0) = true
  · by_cases hc1 : 1 ≤ p1.toInt ∧ p1.toInt ≤ 150
    · by_cases hc2 : 0 ≤ p2.toInt ∧ p2.toInt ≤ 99
      · by_cases hc3 : 1 ≤ p3.toInt ∧ p3.toInt ≤ 150
        · by_cases hc4 : 0 ≤ p4.toInt ∧ p4.toInt ≤ 99
          · by_cases hc5 : 0 ≤ p5.toInt ∧ p5.toInt ≤ 1
            · obtain ⟨i, hi, rfl, -⟩ := pbx_i hN.1.1 hb
              obtain ⟨w, hw, rfl⟩ := pz_nat (n := 150) (by decide) (v := p1) (by omega)
              obtain ⟨p, hp, rfl⟩ := pz_nat (n := 99) (by decide) (v := p2) (by omega)
              obtain ⟨w', hw', rfl⟩ := pz_nat (n := 150) (by decide) (v := p3) (by omega)
              obtain ⟨p', hp', rfl⟩ := pz_nat (n := 99) (by decide) (v := p4) (by omega)
              have hk := hN.b hi
              obtain ⟨h1, e1, s1⟩ := pe_price (p := p) hi hG hN hw
              obtain ⟨h2, e2, s2⟩ := pe_price (p := p') hi (s1.rdG (Or.inl rfl) hG) hN hw'
              have m2 := (s1.tr s2).rdM hM
              obtain ⟨h3, e3, w3, s3⟩ := pe_look hi m2 hN
              have k1 := pe_mroll w3 hk hN.2.1.1 hN.2.1.2.1 hw
              have k2 := pe_mroll w3 hk hN.2.1.1 hN.2.1.2.1 hw'
              have l1 := sRoll_bel (N 1 (3 * i)) (N 1 (3 * i + 1)) (N 1 (3 * i + 2)) (N 0 3) (N 0 4) w
              have l2 := sRoll_bel (N 1 (3 * i)) (N 1 (3 * i + 1)) (N 1 (3 * i + 2)) (N 0 3) (N 0 4) w'
              have b1 := sPri_bel (w := w) hk hN.2.1.1 hN.2.1.2.1 hp
              have b2 := sPri_bel (w := w') hk hN.2.1.1 hN.2.1.2.1 hp'
              refine ⟨sCh (sPri (N 1 (3 * i)) (N 1 (3 * i + 1)) (N 1 (3 * i + 2)) (N 0 3) (N 0 4) w p) (sPri (N 1 (3 * i)) (N 1 (3 * i + 1)) (N 1 (3 * i + 2)) (N 0 3) (N 0 4) w' p') p5, h2, h3, ?_, ?_, ((s1.tr s2).tr s3).inv H⟩
              · simp only [fX9_cheaper_0, pe_hb (rd_b hG).1, hb, pe_isRoll, hc1, hc2, hc3, hc4, pe_isWithin, pz_32, hc5, e1, e2, Option.bind_some, enc_eq b1 (by decide), enc_eq b2 (by decide)]
                generalize sPri (N 1 (3 * i)) (N 1 (3 * i + 1)) (N 1 (3 * i + 2)) (N 0 3) (N 0 4) w p = o1 at b1
                generalize sPri (N 1 (3 * i)) (N 1 (3 * i + 1)) (N 1 (3 * i + 2)) (N 0 3) (N 0 4) w' p' = o2 at b2
                cases o1 with
                | none =>
                  cases o2 with
                  | none => simp [sCh]
                  | some y =>
                    have := b2 y rfl
                    by_cases q5 : p5 = 0 <;> simp [fX9_cheaper_0_b84, fX9_cheaper_0_b105, fX9_cheaper_0_b110, enc, sCh, q5]
                | some x =>
                  have hx := b1 x rfl
                  have nx := pe_n6 hx (by decide)
                  cases o2 with
                  | none => by_cases q5 : p5 = 0 <;> simp [fX9_cheaper_0_b84, fX9_cheaper_0_b109, fX9_cheaper_0_b110, enc, sCh, nx, q5]
                  | some y =>
                    have hy := b2 y rfl
                    have ny := pe_n6 hy (by decide)
                    have hl := pz_lt3 (x := y) (y := x) (by omega) (by omega)
                    by_cases q5 : p5 = 0 <;> by_cases q : y < x <;> simp [fX9_cheaper_0_b84, fX9_cheaper_0_b105, fX9_cheaper_0_b109, fX9_cheaper_0_b110, enc, sCh, nx, ny, hl, q, q5]
              · simp only [fX10_cheaper_55, pe_mb (rd_mb m2).1, hb, pe_isWide, hc1, hc2, hc3, hc4, pe_in, pz_64, pz_99, hc5, Int32.toInt_toInt64, e3, k1, k2, Option.bind_some, enc_lt l1 (by decide), enc_lt l2 (by decide), fX10_cheaper_55_b102, fX10_cheaper_55_b123]
                unfold sPri at b1 b2 ⊢
                generalize sRoll (N 1 (3 * i)) (N 1 (3 * i + 1)) (N 1 (3 * i + 2)) (N 0 3) (N 0 4) w = o1 at b1 l1
                generalize sRoll (N 1 (3 * i)) (N 1 (3 * i + 1)) (N 1 (3 * i + 2)) (N 0 3) (N 0 4) w' = o2 at b2 l2
                cases o1 with
                | none =>
                  cases o2 with
                  | none => simp [sCh]
                  | some y =>
                    have hy : lenW (N 1 (3 * i)) (N 1 (3 * i + 1)) (N 1 (3 * i + 2)) (N 0 3) (N 0 4) y * p' < 10000 := b2 _ rfl
                    have z : nI (lenW (N 1 (3 * i)) (N 1 (3 * i + 1)) (N 1 (3 * i + 2)) (N 0 3) (N 0 4) y * p') < 1000000000 := show _ < nI 1000000000 from nI_lt (by omega) (by decide)
                    by_cases q5 : p5 = 0 <;> simp [fX10_cheaper_55_b138, fX10_cheaper_55_b150, enc, (pe_mlen w3 (l2 y rfl)).1, pk_mul, z, sCh, q5]
                | some x =>
                  have hx : lenW (N 1 (3 * i)) (N 1 (3 * i + 1)) (N 1 (3 * i + 2)) (N 0 3) (N 0 4) x * p < 10000 := b1 _ rfl
                  cases o2 with
                  | none =>
                    have z : ¬ 1000000000 < nI (lenW (N 1 (3 * i)) (N 1 (3 * i + 1)) (N 1 (3 * i + 2)) (N 0 3) (N 0 4) x * p) := show ¬ nI 1000000000 < _ from nI_nlt (by omega) (by decide)
                    by_cases q5 : p5 = 0 <;> simp [fX10_cheaper_55_b138, fX10_cheaper_55_b150, enc, (pe_mlen w3 (l1 x rfl)).1, pk_mul, z, sCh, q5]
                  | some y =>
                    have hy : lenW (N 1 (3 * i)) (N 1 (3 * i + 1)) (N 1 (3 * i + 2)) (N 0 3) (N 0 4) y * p' < 10000 := b2 _ rfl
                    have hl := pz_lt3 (x := lenW (N 1 (3 * i)) (N 1 (3 * i + 1)) (N 1 (3 * i + 2)) (N 0 3) (N 0 4) y * p') (y := lenW (N 1 (3 * i)) (N 1 (3 * i + 1)) (N 1 (3 * i + 2)) (N 0 3) (N 0 4) x * p) (by omega) (by omega)
                    by_cases q5 : p5 = 0 <;> by_cases q : lenW (N 1 (3 * i)) (N 1 (3 * i + 1)) (N 1 (3 * i + 2)) (N 0 3) (N 0 4) y * p' < lenW (N 1 (3 * i)) (N 1 (3 * i + 1)) (N 1 (3 * i + 2)) (N 0 3) (N 0 4) x * p <;> simp [fX10_cheaper_55_b138, fX10_cheaper_55_b150, enc, (pe_mlen w3 (l1 x rfl)).1, (pe_mlen w3 (l2 y rfl)).1, pk_mul, sCh, hl, q, q5]
            · refine ⟨-2, h, h, ?_, ?_, H⟩
              · simp [fX9_cheaper_0, pe_hb (rd_b hG).1, hb, pe_isRoll, hc1, hc2, hc3, hc4, pe_isWithin, pz_32, hc5]
              · simp [fX10_cheaper_55, pe_mb (rd_mb hM).1, hb, pe_isWide, hc1, hc2, hc3, hc4, pe_in, pz_64, pz_99, hc5]
          · refine ⟨-2, h, h, ?_, ?_, H⟩
            · simp [fX9_cheaper_0, pe_hb (rd_b hG).1, hb, pe_isRoll, hc1, hc2, hc3, hc4]
            · simp [fX10_cheaper_55, pe_mb (rd_mb hM).1, hb, pe_isWide, hc1, hc2, hc3, hc4, pe_in, pz_64, pz_99]
        · refine ⟨-2, h, h, ?_, ?_, H⟩
          · simp [fX9_cheaper_0, pe_hb (rd_b hG).1, hb, pe_isRoll, hc1, hc2, hc3]
          · simp [fX10_cheaper_55, pe_mb (rd_mb hM).1, hb, pe_isWide, hc1, hc3]
      · refine ⟨-2, h, h, ?_, ?_, H⟩
        · simp [fX9_cheaper_0, pe_hb (rd_b hG).1, hb, pe_isRoll, hc1, hc2]
        · by_cases hc3 : 1 ≤ p3.toInt ∧ p3.toInt ≤ 150 <;> simp [fX10_cheaper_55, pe_mb (rd_mb hM).1, hb, pe_isWide, hc1, hc2, hc3, pe_in, pz_64, pz_99]
    · refine ⟨-2, h, h, ?_, ?_, H⟩
      · simp [fX9_cheaper_0, pe_hb (rd_b hG).1, hb, pe_isRoll, hc1]
      · simp [fX10_cheaper_55, pe_mb (rd_mb hM).1, hb, pe_isWide, hc1]
  · refine ⟨-1, h, h, ?_, ?_, H⟩
    · simp [fX9_cheaper_0, pe_hb (rd_b hG).1, hb]
    · simp [fX10_cheaper_55, pe_mb (rd_mb hM).1, hb]
