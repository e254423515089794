/-! the start: nothing is there -/
theorem mv_z_at (h : mv_H) (o o' k' : Nat) : mv_z h o o' k' = if o' = o then 0 else h o' k' := by
  by_cases e : o' = o
  · subst e; rw [mv_z_s]; simp
  · rw [mv_z_n e]; simp [e]
def NS (a i : Nat) : Nat := if a = 0 then (if i = 3 then 1 else if i = 5 then 1 else if i = 6 then 10 else 0) else 0
theorem okN_S : okN NS := by
  refine ⟨⟨by decide, by decide, by decide⟩, ⟨by decide, by decide, by decide, by decide, by decide⟩, ⟨by decide, by decide⟩, ⟨fun i _ => by simp [NS], fun i _ => by simp [NS]⟩, ⟨fun i _ => by simp [NS], fun i _ => by simp [NS]⟩, ⟨fun i _ => by simp [NS], fun i _ => by simp [NS]⟩, fun i _ h => ?_, fun i _ h => ?_⟩
  · simp [NS] at h
  · simp [NS] at h
theorem zz_id {h : mv_H} {o : Nat} (z : ∀ k, h o k = 0) : mv_z h o = h := by
  funext o' k'
  rw [mv_z_at]
  by_cases e : o' = o
  · rw [if_pos e, e, z]
  · rw [if_neg e]
set_option maxRecDepth 20000 in
set_option maxHeartbeats 8000000 in
theorem in_0 : ∃ h1 h2, fX9_init_at0 (mv_z (fun _ _ => 0) 0) = some h1 ∧ fX10_init_at55 (mv_z h1 55) = some h2 ∧ Inv h2 := by
  have e0 : mv_z (fun _ _ => (0 : Int32)) 0 = fun _ _ => 0 := zz_id (fun _ => rfl)
  have C : ∃ h1, fX9_init_at0 (fun _ _ => 0) = some h1 ∧ ∀ o k, h1 o k = (if (o = 2 ∨ o = 4 ∨ o = 13 ∨ o = 15 ∨ o = 24 ∨ o = 26) ∧ k = 0 then 3 else if (o = 6 ∨ o = 17 ∨ o = 28) ∧ k = 0 then 2 else if (o = 8 ∨ o = 19 ∨ o = 30) ∧ k = 0 then 150 else if (o = 10 ∨ o = 21 ∨ o = 32) ∧ k = 0 then 90 else if (o = 1 ∨ o = 12 ∨ o = 23) ∧ (k = 5 ∨ k = 7) then 1 else if (o = 1 ∨ o = 12 ∨ o = 23) ∧ k = 8 then 10 else if o = 34 ∧ k = 2 then -1 else 0) := by
    simp only [fX9_init_at0, fX1_init_at1, fX1_init_at12, fX1_init_at23, fX4_init_at34, fX8_init_at38, fX6_init_at39, fX0_init_at41, fX3_init_at46, fX5_init_at50, fX7_init_at2, fX7_init_at4, fX7_init_at6, fX2_init_at8, fX2_init_at10, fX7_init_at13, fX7_init_at15, fX7_init_at17, fX2_init_at19, fX2_init_at21, fX7_init_at24, fX7_init_at26, fX7_init_at28, fX2_init_at30, fX2_init_at32, mv_let, Option.bind_some]
    refine ⟨_, rfl, fun o k => ?_⟩
    simp only [mv_z_at, mv_u_at]
    by_cases ho : o < 55
    · have : o = 0 ∨ o = 1 ∨ o = 2 ∨ o = 3 ∨ o = 4 ∨ o = 5 ∨ o = 6 ∨ o = 7 ∨ o = 8 ∨ o = 9 ∨ o = 10 ∨ o = 11 ∨ o = 12 ∨ o = 13 ∨ o = 14 ∨ o = 15 ∨ o = 16 ∨ o = 17 ∨ o = 18 ∨ o = 19 ∨ o = 20 ∨ o = 21 ∨ o = 22 ∨ o = 23 ∨ o = 24 ∨ o = 25 ∨ o = 26 ∨ o = 27 ∨ o = 28 ∨ o = 29 ∨ o = 30 ∨ o = 31 ∨ o = 32 ∨ o = 33 ∨ o = 34 ∨ (35 ≤ o ∧ o < 55) := by omega
      rcases this with rfl | rfl | rfl | rfl | rfl | rfl | rfl | rfl | rfl | rfl | rfl | rfl | rfl | rfl | rfl | rfl | rfl | rfl | rfl | rfl | rfl | rfl | rfl | rfl | rfl | rfl | rfl | rfl | rfl | rfl | rfl | rfl | rfl | rfl | rfl | h
      case inr.inr.inr.inr.inr.inr.inr.inr.inr.inr.inr.inr.inr.inr.inr.inr.inr.inr.inr.inr.inr.inr.inr.inr.inr.inr.inr.inr.inr.inr.inr.inr.inr.inr.inr =>
        have : ∀ n, n < 35 → ¬ o = n := fun n hn z => by omega
        simp [this 0 (by decide), this 1 (by decide), this 2 (by decide), this 3 (by decide), this 4 (by decide), this 5 (by decide), this 6 (by decide), this 7 (by decide), this 8 (by decide), this 9 (by decide), this 10 (by decide), this 11 (by decide), this 12 (by decide), this 13 (by decide), this 14 (by decide), this 15 (by decide), this 16 (by decide), this 17 (by decide), this 18 (by decide), this 19 (by decide), this 20 (by decide), this 21 (by decide), this 22 (by decide), this 23 (by decide), this 24 (by decide), this 25 (by decide), this 26 (by decide), this 27 (by decide), this 28 (by decide), this 29 (by decide), this 30 (by decide), this 31 (by decide), this 32 (by decide), this 33 (by decide), this 34 (by decide)]
      all_goals simp
      all_goals (by_cases q5 : k = 5 <;> by_cases q6 : k = 6 <;> by_cases q7 : k = 7 <;> by_cases q8 : k = 8 <;> simp_all)
    · have : ∀ n, n < 55 → ¬ o = n := fun n hn z => by omega
      simp [this 0 (by decide), this 1 (by decide), this 2 (by decide), this 3 (by decide), this 4 (by decide), this 5 (by decide), this 6 (by decide), this 7 (by decide), this 8 (by decide), this 9 (by decide), this 10 (by decide), this 11 (by decide), this 12 (by decide), this 13 (by decide), this 14 (by decide), this 15 (by decide), this 16 (by decide), this 17 (by decide), this 18 (by decide), this 19 (by decide), this 20 (by decide), this 21 (by decide), this 22 (by decide), this 23 (by decide), this 24 (by decide), this 25 (by decide), this 26 (by decide), this 27 (by decide), this 28 (by decide), this 29 (by decide), this 30 (by decide), this 31 (by decide), this 32 (by decide), this 33 (by decide), this 34 (by decide)]
  obtain ⟨h1, e1, c1⟩ := C
  have M : ∃ h2, fX10_init_at55 (mv_z h1 55) = some h2 ∧ ∀ o k, h2 o k = (if o = 55 ∧ (k = 7 ∨ k = 9) then 1 else if o = 55 ∧ k = 10 then 10 else if 55 ≤ o ∧ o ≤ 82 then 0 else h1 o k) := by
    simp only [fX10_init_at55, mv_let]
    refine ⟨_, rfl, fun o k => ?_⟩
    simp only [mv_z_at, mv_u_at]
    by_cases ho : 55 ≤ o ∧ o ≤ 82
    · have hz : ∀ n, n < 55 → ¬ o = n := fun n hn z => by omega
      by_cases h5 : o = 55
      · subst h5
        by_cases q7 : k = 7 <;> by_cases q9 : k = 9 <;> by_cases q10 : k = 10 <;> simp_all
      · have : o = 56 ∨ o = 57 ∨ o = 58 ∨ o = 59 ∨ o = 60 ∨ o = 61 ∨ o = 62 ∨ o = 63 ∨ o = 64 ∨ o = 65 ∨ o = 66 ∨ o = 67 ∨ o = 68 ∨ o = 69 ∨ o = 70 ∨ o = 71 ∨ o = 72 ∨ o = 73 ∨ o = 74 ∨ o = 75 ∨ o = 76 ∨ o = 77 ∨ o = 78 ∨ o = 79 ∨ o = 80 ∨ o = 81 ∨ o = 82 := by omega
        rcases this with rfl | rfl | rfl | rfl | rfl | rfl | rfl | rfl | rfl | rfl | rfl | rfl | rfl | rfl | rfl | rfl | rfl | rfl | rfl | rfl | rfl | rfl | rfl | rfl | rfl | rfl | rfl <;> simp
    · have : ∀ n, 55 ≤ n → n ≤ 82 → ¬ o = n := fun n h1 h2 z => by omega
      simp [ho, this 55 (by decide) (by decide), this 56 (by decide) (by decide), this 57 (by decide) (by decide), this 58 (by decide) (by decide), this 59 (by decide) (by decide), this 60 (by decide) (by decide), this 61 (by decide) (by decide), this 62 (by decide) (by decide), this 63 (by decide) (by decide), this 64 (by decide) (by decide), this 65 (by decide) (by decide), this 66 (by decide) (by decide), this 67 (by decide) (by decide), this 68 (by decide) (by decide), this 69 (by decide) (by decide), this 70 (by decide) (by decide), this 71 (by decide) (by decide), this 72 (by decide) (by decide), this 73 (by decide) (by decide), this 74 (by decide) (by decide), this 75 (by decide) (by decide), this 76 (by decide) (by decide), this 77 (by decide) (by decide), this 78 (by decide) (by decide), this 79 (by decide) (by decide), this 80 (by decide) (by decide), this 81 (by decide) (by decide), this 82 (by decide) (by decide)]
  obtain ⟨h2, e2, c2⟩ := M
  refine ⟨h1, h2, by rw [e0]; exact e1, e2, ⟨NS, ?_, ?_, okN_S⟩, ?_, ⟨0, fun _ => 0, by decide, ?_, ?_, fun i hi => absurd hi (by omega)⟩, false, false, ?_, ?_, ?_, fun z => (by cases z), fun z => (by cases z)⟩
  · refine vld_0 (fun j hj => ?_) (fun j hj => ?_) (fun j hj => ?_) (fun j hj => ?_) (fun j hj => ?_) (fun j hj => ?_) (fun j hj => ?_)
    · rcases (show j = 0 ∨ j = 1 ∨ j = 2 ∨ j = 3 ∨ j = 4 ∨ j = 5 ∨ j = 6 ∨ j = 7 ∨ j = 8 by omega) with rfl | rfl | rfl | rfl | rfl | rfl | rfl | rfl | rfl <;> simp [pv_gv, c2, c1, NS] <;> rfl
    all_goals (simp [pv_gv, c2, c1, NS]; rfl)
  · refine vld_0 (fun j hj => ?_) (fun j hj => ?_) (fun j hj => ?_) (fun j hj => ?_) (fun j hj => ?_) (fun j hj => ?_) (fun j hj => ?_)
    · rcases (show j = 0 ∨ j = 1 ∨ j = 2 ∨ j = 3 ∨ j = 4 ∨ j = 5 ∨ j = 6 ∨ j = 7 ∨ j = 8 by omega) with rfl | rfl | rfl | rfl | rfl | rfl | rfl | rfl | rfl <;> simp [pv_mw, c2, NS] <;> rfl
    all_goals (simp [pv_mw, c2, NS]; rfl)
  · exact ⟨by simp [c2, c1], by simp [c2, c1], by simp [c2, c1], by simp [c2, c1], by simp [c2, c1]⟩
  · simp [c2, c1]; rfl
  · simp [c2]; rfl
  · simp [c2, c1]; rfl
  · simp [c2]; rfl
  · simp [c2]; rfl
