/-! undone, told -/
def cre (f : Nat → Int32) (l u v : Int32) : Nat → Nat → Bool
  | 0, _ => true
  | n + 1, k => decide (f k - l = 0 ∨ f k - l = u ∨ f k - l = u + v ∨ f k - l = 2 * u + v) && cre f l u v n (k + 1)
theorem pe_creLoop {h : mv_H} {N : Nat → Nat → Nat} (hG : rdG h 1 N) (hN : okN N) (l u v : Int32) : ∀ (n k m : Nat), n + k = N 0 8 → n < m → fX2_areOf_10_b3 m l u v (nI k) h = some (if cre (fun j => nI (N 6 j)) l u v n k = true then 1 else 0)
  | n, k, 0, _, hm => absurd hm (by omega)
  | 0, k, m + 1, hn, _ => by
    have h6 := hN.2.2.1.2
    rw [fX2_areOf_10_b3, (rd_f hG).2, if_neg (nI_nlt (by omega) (by omega))]; rfl
  | n + 1, k, m + 1, hn, hm => by
    have h6 := hN.2.2.1.2
    have hk : k < 6 := by omega
    have ih := pe_creLoop hG hN l u v n (k + 1) m (by omega) (by omega)
    obtain ⟨c1, c2, -⟩ := pz_i6 k hk
    rw [fX2_areOf_10_b3, (rd_f hG).2, if_pos (nI_lt (by omega) (by omega)), if_pos (pz_l6 hk), if_pos c1, c2, rd_6 hG hk]
    simp only [mv_let, fX2_areOf_10_b61, nI_1, ih, cre]
    by_cases q1 : nI (N 6 k) - l = 0
    · simp only [q1, if_true, true_or, decide_true, Bool.true_and]
    · by_cases q2 : nI (N 6 k) - l = u
      · simp only [q1, q2, if_true, if_false, true_or, or_true, decide_true, Bool.true_and]
        by_cases q : u = 0 <;> simp [q]
      · by_cases q3 : nI (N 6 k) - l = u + v
        · have q1' : ¬ u + v = 0 := q3 ▸ q1
          have q2' : ¬ u + v = u := fun z => q2 (q3.trans z)
          simp only [q3, q1', q2', if_true, if_false, true_or, or_true, decide_true, Bool.true_and]
        · by_cases q4 : nI (N 6 k) - l = 2 * u + v
          · have q1' : ¬ 2 * u + v = 0 := q4 ▸ q1
            have q2' : ¬ 2 * u + v = u := fun z => q2 (q4.trans z)
            have q3' : ¬ 2 * u + v = u + v := fun z => q3 (q4.trans z)
            simp only [q4, q1', q2', q3', if_true, if_false, or_true, decide_true, Bool.true_and]
          · simp only [q1, q2, q3, q4, if_false, or_self, decide_false, Bool.false_and, Bool.false_eq_true]
theorem pe_mcreLoop {h : mv_H} {N : Nat → Nat → Nat} (hM : rdM h N) (hN : okN N) (u v : Int32) : ∀ (n k m : Nat) (z : Bool), n + k = N 0 8 → n < m → fX10_areCreasesOf_55_b5 m u v (if z = true then 1 else 0) (nI k) h = some (if (z && cre (fun j => nI (N 6 j)) (nI (N 0 3)) u v n k) = true then 1 else 0)
  | n, k, 0, z, _, hm => absurd hm (by omega)
  | 0, k, m + 1, z, hn, _ => by
    have h6 := hN.2.2.1.2
    rw [fX10_areCreasesOf_55_b5, (rd_mf hM).2, if_neg (nI_nlt (by omega) (by omega)), if_pos pz_01]
    simp [cre]
  | n + 1, k, m + 1, z, hn, hm => by
    have h6 := hN.2.2.1.2
    have hk : k < 6 := by omega
    have iht := pe_mcreLoop hM hN u v n (k + 1) m true (by omega) (by omega)
    have ihf := pe_mcreLoop hM hN u v n (k + 1) m false (by omega) (by omega)
    obtain ⟨c1, c2, -⟩ := pz_i6 k hk
    have e61 : h 61 k = nI (N 6 k) := rd_m hM (a := 6) (by decide) (by unfold vld; omega)
    simp only [if_true, Bool.false_eq_true, if_false, Bool.true_and, Bool.false_and] at iht ihf
    rw [fX10_areCreasesOf_55_b5, (rd_mf hM).2, if_pos (nI_lt (by omega) (by omega)), if_pos c1, c2, e61, (rd_ms hM).1]
    simp only [mv_let, fX10_areCreasesOf_55_b61, fX10_areCreasesOf_55_b65, fX10_areCreasesOf_55_b66, nI_1, iht, ihf, pz_i0]
    obtain ⟨y, ey⟩ : ∃ y, y = nI (N 6 k) - nI (N 0 3) := ⟨_, rfl⟩
    have eB : cre (fun j => nI (N 6 j)) (nI (N 0 3)) u v (n + 1) k = (decide (y = 0 ∨ y = u ∨ y = u + v ∨ y = 2 * u + v) && cre (fun j => nI (N 6 j)) (nI (N 0 3)) u v n (k + 1)) := by rw [ey]; rfl
    rw [eB, ← ey]
    cases z with
    | false => simp
    | true =>
      simp only [not_true_eq_false, if_false, Bool.true_and]
      by_cases q1 : y = 0
      · rw [if_pos q1, decide_eq_true (Or.inl q1), Bool.true_and]
      · rw [if_neg q1]
        by_cases q2 : y = u
        · rw [if_pos q2, decide_eq_true (Or.inr (Or.inl q2)), Bool.true_and]
        · rw [if_neg q2]
          by_cases q3 : y = u + v
          · rw [if_pos q3, decide_eq_true (Or.inr (Or.inr (Or.inl q3))), Bool.true_and]
          · rw [if_neg q3]
            by_cases q4 : y = 2 * u + v
            · rw [if_pos q4, decide_eq_true (Or.inr (Or.inr (Or.inr q4))), Bool.true_and]
            · rw [if_neg q4, decide_eq_false (fun z => by rcases z with z | z | z | z <;> contradiction), Bool.false_and]
              simp
def uP (N : Nat → Nat → Nat) (r u v : Nat) : Bool := (decide (r = 0) || decide (2 * (u + v) + N 0 3 = r)) && cre (fun j => nI (N 6 j)) (nI (N 0 3)) (nI u) (nI v) (N 0 8) 0
def ufd (N : Nat → Nat → Nat) (r : Nat) : Nat → Nat → Nat × Option Nat → Nat × Option Nat
  | 0, _, s => s
  | n + 1, u, s => ufd N r n (u + 1) (hfd (uP N r u) (fun v => 100 * u + v) 20 1 s)
theorem pe_unIn {h : mv_H} {N : Nat → Nat → Nat} {r u : Nat} {z : Int32} (hG : rdG h 1 N) (hN : okN N) (hr : r ≤ 89) (hu : u ≤ 20) (K : Int32 → Int32 → Int32 → Int32 → Int32 → Int32 → mv_H → Option (Int32)) : ∀ (n v m M : Nat) (s : Nat × Option Nat), n + v = 21 → n < m → hok M 3000 s → fX9_undone_0_b51 K m (nI r) z (nI (N 0 3)) (nI s.1) (enc s.2) (nI u) (nI v) h = K (nI r) z (nI (N 0 3)) (nI (hfd (uP N r u) (fun v => 100 * u + v) n v s).1) (enc (hfd (uP N r u) (fun v => 100 * u + v) n v s).2) (nI (u + 1)) h
  | n, v, 0, M, s, _, hm, _ => absurd hm (by omega)
  | 0, v, m + 1, M, s, hn, _, _ => by
    rw [fX9_undone_0_b51, show v = 21 by omega, if_pos (by decide), nI_1]; rfl
  | n + 1, v, m + 1, M, s, hn, hm, hs => by
    have hl := hN.2.1.1
    have ho := hst_ok (P := uP N r u) (V := fun v => 100 * u + v) (x := v) hs (show 100 * u + v < 3000 by omega)
    have ih := pe_unIn (z := z) hG hN hr hu K n (v + 1) m (M + 1) (hst (uP N r u) (fun v => 100 * u + v) v s) (by omega) (by omega) ho
    have hc := pe_creLoop hG hN (nI (N 0 3)) (nI u) (nI v) (N 0 8) 0 mv_F rfl (by have := hN.2.2.1.2; rw [mv_F_eq]; omega)
    rw [pz_lit.1] at hc
    have v20 : ¬ (20 : Int32) < nI v := show ¬ nI 20 < nI v from nI_nlt (by omega) (by omega)
    have e0 : (nI r = 0) = (r = 0) := propext (nI_eq (by omega) (by decide))
    have eR : (2 * (nI u + nI v) + nI (N 0 3) = nI r) = (2 * (u + v) + N 0 3 = r) := by
      rw [pz_R]; exact propext (nI_eq (by omega) (by omega))
    have e100 : (100 : Int32) * nI u + nI v = nI (100 * u + v) := by rw [show (100 : Int32) = nI 100 from rfl, pk_mul, nI_add]
    rw [fX9_undone_0_b51, if_neg v20]
    simp only [e0, eR, fX9_undone_0_b75, fX9_undone_0_b80, fX9_undone_0_b128, fX9_undone_0_b130, fX2_areOf_10, hc, Option.bind_some, pz_i0, nI_1, e100, enc_eq hs.2.2 (show 3000 ≤ 2 ^ 31 by decide), hfd]
    rw [← ih]
    by_cases qc : cre (fun j => nI (N 6 j)) (nI (N 0 3)) (nI u) (nI v) (N 0 8) 0 = true
    · by_cases q0 : r = 0
      · subst q0
        have hu : uP N 0 u v = true := by simp [uP, qc]
        cases e : s.2 with
        | none => simp [hst, hu, qc, e, enc]
        | some i => simp [hst, hu, qc, e, enc]
      · by_cases q1 : 2 * (u + v) + N 0 3 = r
        · have hu : uP N r u v = true := by simp [uP, q1, qc]
          cases e : s.2 with
          | none => simp [hst, hu, q0, q1, qc, e, enc]
          | some i => simp [hst, hu, q0, q1, qc, e, enc]
        · have hu : ¬ uP N r u v = true := by simp [uP, q0, q1]
          simp [hst, hu, q0, q1]
    · have hu : ¬ uP N r u v = true := by simp [uP, qc]
      by_cases q0 : r = 0
      · subst q0; simp [hst, hu, qc]
      · by_cases q1 : 2 * (u + v) + N 0 3 = r <;> simp [hst, hu, q0, q1, qc]
theorem pe_munIn {h : mv_H} {N : Nat → Nat → Nat} {r u : Nat} {z : Int32} (hM : rdM h N) (hN : okN N) (hr : r ≤ 89) (hu : u ≤ 20) (K : Int32 → Int32 → Int32 → Int32 → Int32 → mv_H → Option (Int32)) : ∀ (n v m M : Nat) (s : Nat × Option Nat), n + v = 21 → n < m → hok M 3000 s → M + n ≤ 1000 → fX10_undone_55_b44 K m (nI r) z (nI s.1) (enc s.2) (nI u) (nI v) h = K (nI r) z (nI (hfd (uP N r u) (fun v => 100 * u + v) n v s).1) (enc (hfd (uP N r u) (fun v => 100 * u + v) n v s).2) (nI (u + 1)) h
  | n, v, 0, M, s, _, hm, _, _ => absurd hm (by omega)
  | 0, v, m + 1, M, s, hn, _, _, _ => by
    rw [fX10_undone_55_b44, show v = 21 by omega, if_pos (by decide), nI_1]; rfl
  | n + 1, v, m + 1, M, s, hn, hm, hs, hB => by
    have hl := hN.2.1.1
    have ho := hst_ok (P := uP N r u) (V := fun v => 100 * u + v) (x := v) hs (show 100 * u + v < 3000 by omega)
    have ih := pe_munIn (z := z) hM hN hr hu K n (v + 1) m (M + 1) (hst (uP N r u) (fun v => 100 * u + v) v s) (by omega) (by omega) ho (by omega)
    have hc := pe_mcreLoop hM hN (nI u) (nI v) (N 0 8) 0 mv_F true rfl (by have := hN.2.2.1.2; rw [mv_F_eq]; omega)
    simp only [if_true, Bool.true_and, pz_lit.1] at hc
    have v20 : ¬ (20 : Int32) < nI v := show ¬ nI 20 < nI v from nI_nlt (by omega) (by omega)
    have e0 : (nI r = 0) = (r = 0) := propext (nI_eq (by omega) (by decide))
    have eR : (nI r = 2 * (nI u + nI v) + nI (N 0 3)) = (2 * (u + v) + N 0 3 = r) := by
      rw [pz_R]; exact propext ((nI_eq (by omega) (by omega)).trans eq_comm)
    have e100 : (100 : Int32) * nI u + nI v = nI (100 * u + v) := by rw [show (100 : Int32) = nI 100 from rfl, pk_mul, nI_add]
    have eS : (nI s.1 = 0) = (s.2 = none) := propext ((nI_eq (by have := hs.2.1; omega) (by decide)).trans hs.1.symm)
    rw [fX10_undone_55_b44, if_neg v20]
    simp only [e0, eR, fX10_undone_55_b86, fX10_undone_55_b82, fX10_undone_55_b87, fX10_undone_55_b109, fX10_undone_55_b111, fX10_undone_55_b124, fX10_areCreasesOf_55, hc, Option.bind_some, pz_i0, nI_1, e100, eS, (rd_ms hM).1, mv_let, hfd]
    rw [← ih]
    by_cases qc : cre (fun j => nI (N 6 j)) (nI (N 0 3)) (nI u) (nI v) (N 0 8) 0 = true
    · by_cases q0 : r = 0
      · subst q0
        have hu : uP N 0 u v = true := by simp [uP, qc]
        cases e : s.2 with
        | none => simp [hst, hu, qc, e, enc]
        | some i => simp [hst, hu, qc, e, enc]
      · by_cases q1 : 2 * (u + v) + N 0 3 = r
        · have hu : uP N r u v = true := by simp [uP, q1, qc]
          cases e : s.2 with
          | none => simp [hst, hu, q0, q1, qc, e, enc]
          | some i => simp [hst, hu, q0, q1, qc, e, enc]
        · have hu : ¬ uP N r u v = true := by simp [uP, q0, q1]
          simp [hst, hu, q0, q1, qc]
    · have hu : ¬ uP N r u v = true := by simp [uP, qc]
      simp [hst, hu, qc]
theorem pe_unOut {h : mv_H} {N : Nat → Nat → Nat} {r : Nat} {z : Int32} (hG : rdG h 1 N) (hN : okN N) (hr : r ≤ 89) : ∀ (n u m M : Nat) (s : Nat × Option Nat), n + u = 21 → n < m → hok M 3000 s → fX9_undone_0_b41 m (nI r) z (nI (N 0 3)) (nI s.1) (enc s.2) (nI u) h = some (if z = 0 then nI (ufd N r n u s).1 else enc (ufd N r n u s).2)
  | n, u, 0, M, s, _, hm, _ => absurd hm (by omega)
  | 0, u, m + 1, M, s, hn, _, _ => by
    rw [fX9_undone_0_b41, show u = 21 by omega, if_pos (by decide)]
    by_cases q : z = 0 <;> simp [q, ufd]
  | n + 1, u, m + 1, M, s, hn, hm, hs => by
    have ih := pe_unOut (z := z) hG hN hr n (u + 1) m (M + 20) _ (by omega) (by omega) (hfd_ok (P := uP N r u) (V := fun v => 100 * u + v) 20 1 M s hs (fun j h1 h2 => by show 100 * u + j < 3000; omega))
    have u20 : ¬ (20 : Int32) < nI u := show ¬ nI 20 < nI u from nI_nlt (by omega) (by omega)
    rw [fX9_undone_0_b41, if_neg u20, ← pz_lit.2.1, pe_unIn hG hN hr (show u ≤ 20 by omega) (fX9_undone_0_b41 m) 20 1 mv_F M s rfl (by rw [mv_F_eq]; decide) hs, ih]
    rfl
theorem pe_munOut {h : mv_H} {N : Nat → Nat → Nat} {r : Nat} {z : Int32} (hM : rdM h N) (hN : okN N) (hr : r ≤ 89) : ∀ (n u m M : Nat) (s : Nat × Option Nat), n + u = 21 → n < m → hok M 3000 s → M + 20 * n ≤ 1000 → fX10_undone_55_b34 m (nI r) z (nI s.1) (enc s.2) (nI u) h = some (if z = 0 then nI (ufd N r n u s).1 else enc (ufd N r n u s).2)
  | n, u, 0, M, s, _, hm, _, _ => absurd hm (by omega)
  | 0, u, m + 1, M, s, hn, _, _, _ => by
    rw [fX10_undone_55_b34, show u = 21 by omega, if_pos (by decide)]
    by_cases q : z = 0 <;> simp [q, ufd]
  | n + 1, u, m + 1, M, s, hn, hm, hs, hB => by
    have ih := pe_munOut (z := z) hM hN hr n (u + 1) m (M + 20) _ (by omega) (by omega) (hfd_ok (P := uP N r u) (V := fun v => 100 * u + v) 20 1 M s hs (fun j h1 h2 => by show 100 * u + j < 3000; omega)) (by omega)
    have u20 : ¬ (20 : Int32) < nI u := show ¬ nI 20 < nI u from nI_nlt (by omega) (by omega)
    rw [fX10_undone_55_b34, if_neg u20, ← pz_lit.2.1, pe_munIn hM hN hr (show u ≤ 20 by omega) (fX10_undone_55_b34 m) 20 1 mv_F M s rfl (by rw [mv_F_eq]; decide) hs (by omega), ih]
    rfl
theorem pz_89 : (89 : Int32).toInt = 89 ∧ (89 : Int64).toInt = 89 := ⟨rfl, rfl⟩
set_option maxRecDepth 10000 in
theorem st_undone (p0 p1 : Int32) : SimP (fX9_undone_0 p0 p1) (fX10_undone_55 p0 p1) := by
  intro h H
  obtain ⟨N, hG, hM, hN⟩ := H.1
  by_cases hb : 0 ≤ p0.toInt ∧ p0.toInt ≤ 89
  · by_cases hw : 0 ≤ p1.toInt ∧ p1.toInt ≤ 1
    · obtain ⟨r, hr, rfl⟩ := pz_nat (n := 89) (by decide) (v := p0) (by omega)
      have k1 := pe_unOut (z := p1) hG hN hr 20 1 mv_F 0 (0, none) rfl (by rw [mv_F_eq]; decide) (hok_0 _ _)
      have k2 := pe_munOut (z := p1) hM hN hr 20 1 mv_F 0 (0, none) rfl (by rw [mv_F_eq]; decide) (hok_0 _ _) (by decide)
      refine ⟨if p1 = 0 then nI (ufd N r 20 1 (0, none)).1 else enc (ufd N r 20 1 (0, none)).2, ?_, ?_⟩
      rotate_left
      · simp only [fX10_undone_55, pe_in, Int32.toInt_toInt64, pz_64, pz_89, hb, hw, Option.bind_some, if_true, and_self]
        exact k2
      · simp only [fX9_undone_0, pe_isWithin, pz_32, pz_89, hb, hw, fX1_setting_1, (rd_s hG).1, Option.bind_some, if_true, and_self]
        exact k1
    · refine ⟨-2, ?_, ?_⟩
      · simp [fX9_undone_0, pe_isWithin, pz_32, pz_89, hb, hw]
      · simp [fX10_undone_55, pe_in, pz_64, pz_89, hb, hw]
  · refine ⟨-2, ?_, ?_⟩
    · simp [fX9_undone_0, pe_isWithin, pz_32, pz_89, hb]
    · simp [fX10_undone_55, pe_in, pz_64, pz_89, hb]
