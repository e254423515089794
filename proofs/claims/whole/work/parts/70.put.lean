/-! a solid or a sheet put, each side by itself; the first free number -/
theorem pv_putB_G {h : mv_H} {N : Nat → Nat → Nat} {i x y z : Nat} (hi : i < 6) (hG : rdG h 1 N) (hN : okN N) : rdG (pv_put h 3 2 2 i (nI x) (nI y) (nI z)) 1 (pv_Nb N 1 i x y z) := by
  have hb := pz_or (N 0 0) hN.1.1 i hi
  intro a j hv
  have e := hG a j hv
  revert e
  revert a j hv
  refine vld_0 (fun j hj => ?_) (fun j hj => ?_) (fun j hj => ?_) (fun j hj => ?_) (fun j hj => ?_) (fun j hj => ?_) (fun j hj => ?_)
  · rcases (show j = 0 ∨ j = 1 ∨ j = 2 ∨ j = 3 ∨ j = 4 ∨ j = 5 ∨ j = 6 ∨ j = 7 ∨ j = 8 by omega) with rfl | rfl | rfl | rfl | rfl | rfl | rfl | rfl | rfl <;> intro e <;> simp [pv_gv] at e <;> simp [pv_gv, pv_put_at, pv_Nb, e, hb.1]
  all_goals (intro e; simp [pv_gv] at e; simp [pv_gv, pv_put_at, pv_Nb, e] <;> (try split) <;> (try split) <;> (try split) <;> rfl)
theorem pv_putB_M {h : mv_H} {N : Nat → Nat → Nat} {i x y z : Nat} (hi : i < 6) (hM : rdM h N) (hN : okN N) : rdM (pv_put h 56 55 0 i (nI x) (nI y) (nI z)) (pv_Nb N 1 i x y z) := by
  have hb := pz_or (N 0 0) hN.1.1 i hi
  intro a j hv
  have e := hM a j hv
  revert e
  revert a j hv
  refine vld_0 (fun j hj => ?_) (fun j hj => ?_) (fun j hj => ?_) (fun j hj => ?_) (fun j hj => ?_) (fun j hj => ?_) (fun j hj => ?_)
  · rcases (show j = 0 ∨ j = 1 ∨ j = 2 ∨ j = 3 ∨ j = 4 ∨ j = 5 ∨ j = 6 ∨ j = 7 ∨ j = 8 by omega) with rfl | rfl | rfl | rfl | rfl | rfl | rfl | rfl | rfl <;> intro e <;> simp [pv_mw] at e <;> simp [pv_mw, pv_put_at, pv_Nb, e, hb.1]
  all_goals (intro e; simp [pv_mw] at e; simp [pv_mw, pv_put_at, pv_Nb, e] <;> (try split) <;> (try split) <;> (try split) <;> rfl)
theorem pv_putB_N {N : Nat → Nat → Nat} {i x y z : Nat} (hi : i < 6) (hN : okN N) (hx : (1 ≤ x ∧ x ≤ 20) ∧ (1 ≤ y ∧ y ≤ 20) ∧ (1 ≤ z ∧ z ≤ 20)) : okN (pv_Nb N 1 i x y z) := by
  have hb := pz_or (N 0 0) hN.1.1 i hi
  obtain ⟨⟨b1, b2, b3⟩, st, mk, ⟨s1, s2⟩, ⟨w1, w2⟩, fc, pb, ps⟩ := hN
  refine ⟨⟨?_, ?_, ?_⟩, ?_, ?_, ⟨fun j hj => ?_, fun j hj => ?_⟩, ⟨fun j hj => ?_, fun j hj => ?_⟩, ⟨fun j hj => ?_, fun j hj => ?_⟩, fun k hk hbit j hj => ?_, fun k hk hbit => ?_⟩
  · simp [pv_Nb, hb.2]
  · simp [pv_Nb]; exact b2
  · simp [pv_Nb]; exact b3
  · simp [pv_Nb]; exact st
  · simp [pv_Nb]; exact mk
  · have := s1 j hj; simp only [pv_Nb]; split <;> (try omega); split <;> (try omega); split <;> (try omega); split <;> omega
  · simp [pv_Nb]; exact s2 j hj
  · simp [pv_Nb]; exact w1 j hj
  · simp [pv_Nb]; exact w2 j hj
  · simp [pv_Nb]; exact fc.1 j hj
  · simp [pv_Nb]; exact fc.2 j hj
  · by_cases e : k = i
    · subst e
      rcases (show j = 0 ∨ j = 1 ∨ j = 2 by omega) with rfl | rfl | rfl <;> simp [pv_Nb] <;> omega
    · have hb1 : (N 0 0).testBit k = true := by
        simp only [pv_Nb] at hbit
        rw [if_pos ⟨trivial, trivial⟩, pz_orT] at hbit
        have : ¬ i = k := fun q => e q.symm
        simpa [this] using hbit
      have := pb k hk hb1 j hj
      simp only [pv_Nb]
      rw [if_neg (by omega), if_neg (by omega), if_neg (by omega), if_neg (by omega)]
      exact this
  · simp [pv_Nb] at hbit ⊢; exact ps k hk hbit
theorem pv_putT_G {h : mv_H} {N : Nat → Nat → Nat} {i x y z : Nat} (hi : i < 6) (hG : rdG h 1 N) (hN : okN N) : rdG (pv_put h 5 4 2 i (nI x) (nI y) (nI z)) 1 (pv_Nb N 2 i x y z) := by
  have hb := pz_or (N 0 1) hN.1.2.1 i hi
  intro a j hv
  have e := hG a j hv
  revert e
  revert a j hv
  refine vld_0 (fun j hj => ?_) (fun j hj => ?_) (fun j hj => ?_) (fun j hj => ?_) (fun j hj => ?_) (fun j hj => ?_) (fun j hj => ?_)
  · rcases (show j = 0 ∨ j = 1 ∨ j = 2 ∨ j = 3 ∨ j = 4 ∨ j = 5 ∨ j = 6 ∨ j = 7 ∨ j = 8 by omega) with rfl | rfl | rfl | rfl | rfl | rfl | rfl | rfl | rfl <;> intro e <;> simp [pv_gv] at e <;> simp [pv_gv, pv_put_at, pv_Nb, e, hb.1]
  all_goals (intro e; simp [pv_gv] at e; simp [pv_gv, pv_put_at, pv_Nb, e] <;> (try split) <;> (try split) <;> (try split) <;> rfl)
theorem pv_putT_M {h : mv_H} {N : Nat → Nat → Nat} {i x y z : Nat} (hi : i < 6) (hM : rdM h N) (hN : okN N) : rdM (pv_put h 57 55 1 i (nI x) (nI y) (nI z)) (pv_Nb N 2 i x y z) := by
  have hb := pz_or (N 0 1) hN.1.2.1 i hi
  intro a j hv
  have e := hM a j hv
  revert e
  revert a j hv
  refine vld_0 (fun j hj => ?_) (fun j hj => ?_) (fun j hj => ?_) (fun j hj => ?_) (fun j hj => ?_) (fun j hj => ?_) (fun j hj => ?_)
  · rcases (show j = 0 ∨ j = 1 ∨ j = 2 ∨ j = 3 ∨ j = 4 ∨ j = 5 ∨ j = 6 ∨ j = 7 ∨ j = 8 by omega) with rfl | rfl | rfl | rfl | rfl | rfl | rfl | rfl | rfl <;> intro e <;> simp [pv_mw] at e <;> simp [pv_mw, pv_put_at, pv_Nb, e, hb.1]
  all_goals (intro e; simp [pv_mw] at e; simp [pv_mw, pv_put_at, pv_Nb, e] <;> (try split) <;> (try split) <;> (try split) <;> rfl)
theorem pv_putT_N {N : Nat → Nat → Nat} {i x y z : Nat} (hi : i < 6) (hN : okN N) (hx : (1 ≤ x ∧ x ≤ 20) ∧ (1 ≤ y ∧ y ≤ 20) ∧ (1 ≤ z ∧ z ≤ 20)) : okN (pv_Nb N 2 i x y z) := by
  have hb := pz_or (N 0 1) hN.1.2.1 i hi
  obtain ⟨⟨b1, b2, b3⟩, st, mk, ⟨s1, s2⟩, ⟨w1, w2⟩, fc, pb, ps⟩ := hN
  refine ⟨⟨?_, ?_, ?_⟩, ?_, ?_, ⟨fun j hj => ?_, fun j hj => ?_⟩, ⟨fun j hj => ?_, fun j hj => ?_⟩, ⟨fun j hj => ?_, fun j hj => ?_⟩, fun k hk hbit j hj => ?_, fun k hk hbit => ?_⟩
  · simp [pv_Nb]; exact b1
  · simp [pv_Nb, hb.2]
  · simp [pv_Nb]; exact b3
  · simp [pv_Nb]; exact st
  · simp [pv_Nb]; exact mk
  · simp [pv_Nb]; exact s1 j hj
  · have := s2 j hj; simp only [pv_Nb]; split <;> (try omega); split <;> (try omega); split <;> (try omega); split <;> omega
  · simp [pv_Nb]; exact w1 j hj
  · simp [pv_Nb]; exact w2 j hj
  · simp [pv_Nb]; exact fc.1 j hj
  · simp [pv_Nb]; exact fc.2 j hj
  · simp [pv_Nb] at hbit ⊢; exact pb k hk hbit j hj
  · simp [pv_Nb] at hbit ⊢; exact ps k hk hbit
theorem pv_putSh_G {h : mv_H} {N : Nat → Nat → Nat} {i x y : Nat} (hi : i < 6) (hG : rdG h 1 N) (hN : okN N) : rdG (pv_put h 7 6 2 i (nI x) (nI y) 0) 1 (pv_Ns N i x y) := by
  have hb := pz_or (N 0 2) hN.1.2.2 i hi
  intro a j hv
  have e := hG a j hv
  revert e
  revert a j hv
  refine vld_0 (fun j hj => ?_) (fun j hj => ?_) (fun j hj => ?_) (fun j hj => ?_) (fun j hj => ?_) (fun j hj => ?_) (fun j hj => ?_)
  · rcases (show j = 0 ∨ j = 1 ∨ j = 2 ∨ j = 3 ∨ j = 4 ∨ j = 5 ∨ j = 6 ∨ j = 7 ∨ j = 8 by omega) with rfl | rfl | rfl | rfl | rfl | rfl | rfl | rfl | rfl <;> intro e <;> simp [pv_gv] at e <;> simp [pv_gv, pv_put_at, pv_putS_at, pv_Ns, e, hb.1]
  case refine_4 =>
    intro e
    simp [pv_gv] at e
    simp only [pv_gv, pv_put_at (show (7 : Nat) ≠ 6 by decide), pv_putS_at, pv_Ns]
    by_cases q : j = i
    · subst q; simp
    · have q1 : ¬ 3 * j = 3 * i := by omega
      have q2 : ¬ 3 * j = 3 * i + 1 := by omega
      have q3 : ¬ 3 * j = 3 * i + 2 := by omega
      simp [q, q1, q2, q3, e]
  case refine_5 =>
    intro e
    simp [pv_gv] at e
    simp only [pv_gv, pv_put_at (show (7 : Nat) ≠ 6 by decide), pv_putS_at, pv_Ns]
    by_cases q : j = i
    · subst q; simp
    · have q1 : ¬ 3 * j + 1 = 3 * i := by omega
      have q2 : ¬ 3 * j + 1 = 3 * i + 1 := by omega
      have q3 : ¬ 3 * j + 1 = 3 * i + 2 := by omega
      have q4 : ¬ 3 * j = 3 * i + 1 := by omega
      have q5 : ¬ 3 * j = 3 * i := by omega
      simp [q, q1, q2, q3, q4, q5, e]
  all_goals (intro e; simp [pv_gv] at e; simp [pv_gv, pv_put_at, pv_putS_at, pv_Ns, e] <;> (try split) <;> (try split) <;> (try split) <;> rfl)
theorem pv_putSh_M {h : mv_H} {N : Nat → Nat → Nat} {i x y : Nat} (hi : i < 6) (hM : rdM h N) (hN : okN N) : rdM (pv_putS h i (nI x) (nI y)) (pv_Ns N i x y) := by
  have hb := pz_or (N 0 2) hN.1.2.2 i hi
  intro a j hv
  have e := hM a j hv
  revert e
  revert a j hv
  refine vld_0 (fun j hj => ?_) (fun j hj => ?_) (fun j hj => ?_) (fun j hj => ?_) (fun j hj => ?_) (fun j hj => ?_) (fun j hj => ?_)
  · rcases (show j = 0 ∨ j = 1 ∨ j = 2 ∨ j = 3 ∨ j = 4 ∨ j = 5 ∨ j = 6 ∨ j = 7 ∨ j = 8 by omega) with rfl | rfl | rfl | rfl | rfl | rfl | rfl | rfl | rfl <;> intro e <;> simp [pv_mw] at e <;> simp [pv_mw, pv_put_at, pv_putS_at, pv_Ns, e, hb.1]
  all_goals (intro e; simp [pv_mw] at e; simp [pv_mw, pv_put_at, pv_putS_at, pv_Ns, e] <;> (try split) <;> (try split) <;> (try split) <;> rfl)
theorem pv_putSh_N {N : Nat → Nat → Nat} {i x y : Nat} (hi : i < 6) (hN : okN N) (hx : (1 ≤ x ∧ x ≤ 150) ∧ (1 ≤ y ∧ y ≤ 150)) : okN (pv_Ns N i x y) := by
  have hb := pz_or (N 0 2) hN.1.2.2 i hi
  obtain ⟨⟨b1, b2, b3⟩, st, mk, ⟨s1, s2⟩, ⟨w1, w2⟩, fc, pb, ps⟩ := hN
  refine ⟨⟨?_, ?_, ?_⟩, ?_, ?_, ⟨fun j hj => ?_, fun j hj => ?_⟩, ⟨fun j hj => ?_, fun j hj => ?_⟩, ⟨fun j hj => ?_, fun j hj => ?_⟩, fun k hk hbit j hj => ?_, fun k hk hbit => ?_⟩
  · simp [pv_Ns]; exact b1
  · simp [pv_Ns]; exact b2
  · simp [pv_Ns, hb.2]
  · simp [pv_Ns]; exact st
  · simp [pv_Ns]; exact mk
  · simp [pv_Ns]; exact s1 j hj
  · simp [pv_Ns]; exact s2 j hj
  · have := w1 j hj; simp only [pv_Ns]; split <;> (try omega); split <;> (try omega); split <;> omega
  · have := w2 j hj; simp only [pv_Ns]; split <;> (try omega); split <;> (try omega); split <;> omega
  · simp [pv_Ns]; exact fc.1 j hj
  · simp [pv_Ns]; exact fc.2 j hj
  · simp [pv_Ns] at hbit ⊢; exact pb k hk hbit j hj
  · by_cases e : k = i
    · subst e
      simp [pv_Ns]; omega
    · have hb1 : (N 0 2).testBit k = true := by
        simp only [pv_Ns] at hbit
        rw [if_pos ⟨trivial, trivial⟩, pz_orT] at hbit
        have : ¬ i = k := fun q => e q.symm
        simpa [this] using hbit
      have := ps k hk hb1
      simp [pv_Ns, e]
      exact this
