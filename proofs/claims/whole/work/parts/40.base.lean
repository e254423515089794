/-! pure rows: numbers, small functions of class and reference in closed form -/
theorem pz_i0 {c : Prop} {d : Decidable c} : ((@ite _ c d (1 : Int32) 0) = 0) ↔ ¬ c := by
  by_cases h : c <;> simp [h]
theorem pz_i1 {c : Prop} {d : Decidable c} : ((@ite _ c d (1 : Int32) 0) = 1) ↔ c := by
  by_cases h : c <;> simp [h]
theorem pz_01 {c : Prop} {d : Decidable c} : mv_01 (@ite _ c d (1 : Int32) 0) := by
  by_cases h : c
  · rw [if_pos h]; exact Or.inr rfl
  · rw [if_neg h]; exact Or.inl rfl
theorem pz_lt {x y : Int32} : x < y ↔ x.toInt < y.toInt := Int32.lt_iff_toInt_lt
theorem pz_le {x y : Int32} : x ≤ y ↔ x.toInt ≤ y.toInt := Int32.le_iff_toInt_le
theorem pz_eq {x y : Int32} : x = y ↔ x.toInt = y.toInt := Int32.toInt_inj.symm
theorem pe_isWithin (v a b : Int32) : fX9_isWithin v a b = some (if a.toInt ≤ v.toInt ∧ v.toInt ≤ b.toInt then 1 else 0) := by
  unfold fX9_isWithin
  simp only [pz_lt]
  by_cases h1 : v.toInt < a.toInt
  · rw [if_pos h1, if_neg (by omega)]
  · rw [if_neg h1]
    by_cases h2 : b.toInt < v.toInt
    · rw [if_pos h2, if_neg (by omega)]
    · rw [if_neg h2, if_pos (by omega)]
theorem pe_isNumber (v : Int32) : fX9_isNumber v = some (if 0 ≤ v.toInt ∧ v.toInt < 6 then 1 else 0) := by
  unfold fX9_isNumber
  simp only [pz_lt]
  have e0 : (0 : Int32).toInt = 0 := rfl
  have e6 : (6 : Int32).toInt = 6 := rfl
  rw [e0, e6]
  by_cases h1 : v.toInt < 0
  · rw [if_pos h1, if_neg (by omega)]
  · rw [if_neg h1]
    by_cases h2 : v.toInt < 6
    · rw [if_pos h2, if_pos (by omega)]
    · rw [if_neg h2, if_neg (by omega)]
theorem pe_isIn (b v : Int32) : fX9_isIn b v = some (if (b >>> (v &&& 31)) &&& 1 = 1 then 1 else 0) := by
  unfold fX9_isIn
  by_cases h : (b >>> (v &&& 31)) &&& 1 = 1 <;> simp [h]
theorem pz_if {α : Type} {c c' : Prop} {d : Decidable c} {d' : Decidable c'} {a b : α} (h : c ↔ c') : @ite _ c d a b = @ite _ c' d' a b := by
  by_cases q : c
  · rw [if_pos q, if_pos (h.mp q)]
  · rw [if_neg q, if_neg (fun z => q (h.mpr z))]
theorem pz_cmp_lt (x y : Int64) : lg_cmp x y < 0 ↔ x < y := by
  unfold lg_cmp
  by_cases h : x > y
  · have : ¬ x < y := by rw [gt_iff_lt, Int64.lt_iff_toInt_lt] at h; rw [Int64.lt_iff_toInt_lt]; omega
    rw [if_pos h]; simp [this]
  · rw [if_neg h]
    by_cases h2 : x = y
    · subst h2; simp
    · have : x < y := by
        rw [gt_iff_lt, Int64.lt_iff_toInt_lt] at h
        rw [Int64.lt_iff_toInt_lt]
        have : x.toInt ≠ y.toInt := fun e => h2 (Int64.toInt_inj.mp e)
        omega
      rw [if_neg h2]; simp [this]
theorem pz_cmp_gt (x y : Int64) : 0 < lg_cmp x y ↔ y < x := by
  unfold lg_cmp
  by_cases h : x > y
  · rw [if_pos h]; simp; exact h
  · rw [if_neg h]
    have h' : ¬ y < x := h
    by_cases h2 : x = y
    · subst h2; simp
    · rw [if_neg h2]; simp [h']
theorem pe_in (p a b : Int64) : fX10_in p a b = some (if a.toInt ≤ p.toInt ∧ p.toInt ≤ b.toInt then 1 else 0) := by
  unfold fX10_in
  simp only [pz_cmp_lt, pz_cmp_gt, Int64.lt_iff_toInt_lt]
  by_cases h1 : p.toInt < a.toInt
  · rw [if_pos h1, if_neg (by omega)]
  · rw [if_neg h1]
    by_cases h2 : b.toInt < p.toInt
    · rw [if_pos h2, if_neg (by omega)]
    · rw [if_neg h2, if_pos (by omega)]
theorem pe_mNumber (v : Int32) : fX10_isNumber v = some (if 0 ≤ v.toInt ∧ v.toInt < 6 then 1 else 0) := by
  unfold fX10_isNumber
  rw [pe_in, Option.bind_some, if_pos pz_01, Int32.toInt_toInt64]
  have e0 : (0 : Int64).toInt = 0 := rfl
  have e5 : (5 : Int64).toInt = 5 := rfl
  rw [e0, e5]
  congr 1
  exact pz_if (by omega)
/-- a place: 0 to 5 -/
theorem pz_six {v : Int32} (h : 0 ≤ v.toInt ∧ v.toInt < 6) : ∃ i : Nat, i < 6 ∧ v = nI i := by
  obtain ⟨j, hj, e⟩ := nI_of2 (x := v) (M := 5) (n := 5) rfl (by rw [pz_lt]; show ¬ v.toInt < 0; omega) (by rw [pz_le]; show v.toInt ≤ 5; omega)
  exact ⟨j, by omega, e⟩
theorem pz_nat {v : Int32} {n : Nat} (hn : n < 2 ^ 31) (h : 0 ≤ v.toInt ∧ v.toInt ≤ n) : ∃ i : Nat, i ≤ n ∧ v = nI i := by
  have hm : (nI n).toInt = n := nI_toInt hn
  obtain ⟨j, hj, e⟩ := nI_of2 (x := v) (M := nI n) (n := n) hm (by rw [pz_lt]; show ¬ v.toInt < 0; omega) (by rw [pz_le, hm]; omega)
  exact ⟨j, hj, e⟩
/-- how many bits of six -/
def pc (n : Nat) : Nat := (if n.testBit 0 then 1 else 0) + (if n.testBit 1 then 1 else 0) + (if n.testBit 2 then 1 else 0) + (if n.testBit 3 then 1 else 0) + (if n.testBit 4 then 1 else 0) + (if n.testBit 5 then 1 else 0)
theorem pe_bitCount : ∀ n, n < 64 → fJ6_bitCount_0f7a4 (nI n) = some (nI (pc n)) := by decide +kernel
theorem pm_ones : ∀ (a b : Nat) (x y r : Int32), a ≤ b → fX10_ones_b4 a x y = some r → fX10_ones_b4 b x y = some r
  | 0, _, _, _, _, _, h => by simp [fX10_ones_b4] at h
  | a + 1, 0, _, _, _, hl, _ => absurd hl (by omega)
  | a + 1, b + 1, x, y, r, hl, h => by
    simp only [fX10_ones_b4, mv_let] at h ⊢
    by_cases e : y = 0
    · simpa [e] using h
    · rw [if_neg e] at h ⊢
      exact pm_ones a b _ _ r (by omega) h
theorem pe_ones8 : ∀ n, n < 64 → fX10_ones_b4 8 0 (nI n) = some (nI (pc n)) := by decide +kernel
theorem pe_ones (n : Nat) (hn : n < 64) : fX10_ones (nI n) = some (nI (pc n)) := pm_ones 8 mv_F _ _ _ (by rw [mv_F_eq]; decide) (pe_ones8 n hn)
