/-! cuts: what the shapes of each set say (printed by program) -/
theorem ex_1 (Y : Nat → Sz) (W H : Nat) : Exl (SS Y 1) W H ↔ e1 (Y 0) W H := by
  have e : SS Y 1 = sg (Y 0) := by rw [SS_eq (by decide) (by decide)]; rfl
  rw [e]; exact Exl_sg
theorem ex_2 (Y : Nat → Sz) (W H : Nat) : Exl (SS Y 2) W H ↔ e1 (Y 1) W H := by
  have e : SS Y 2 = sg (Y 1) := by rw [SS_eq (by decide) (by decide)]; rfl
  rw [e]; exact Exl_sg
theorem eq_3 (Y : Nat → Sz) : SS Y 3 = pdd (SS Y 1) (SS Y 2) := by
  rw [SS_eq (by decide) (by decide)]
  show [] ++ prs (SS Y) 3 2 = _
  simp [prs, show ∀ a, cnd 3 a = (decide (a &&& 3 = a) && decide (a &&& lb 3 ≠ 0)) from fun _ => rfl, show lb 3 = 1 from rfl]
theorem dj_3 (Y : Nat → Sz) (W H : Nat) : Exl (SS Y 3) W H ↔ cb (e1 (Y 0)) (e1 (Y 1)) W H := by
  rw [eq_3]
  simp only [Exl_app, Exl_pdd]
  rw [cb_iff (ex_1 Y) (ex_2 Y)]
theorem ex_3 (Y : Nat → Sz) (W H : Nat) : Exl (SS Y 3) W H ↔ e2 (Y 0) (Y 1) W H := by
  rw [dj_3]
  exact Iff.rfl
theorem ex_4 (Y : Nat → Sz) (W H : Nat) : Exl (SS Y 4) W H ↔ e1 (Y 2) W H := by
  have e : SS Y 4 = sg (Y 2) := by rw [SS_eq (by decide) (by decide)]; rfl
  rw [e]; exact Exl_sg
theorem eq_5 (Y : Nat → Sz) : SS Y 5 = pdd (SS Y 1) (SS Y 4) := by
  rw [SS_eq (by decide) (by decide)]
  show [] ++ prs (SS Y) 5 4 = _
  simp [prs, show ∀ a, cnd 5 a = (decide (a &&& 5 = a) && decide (a &&& lb 5 ≠ 0)) from fun _ => rfl, show lb 5 = 1 from rfl]
theorem dj_5 (Y : Nat → Sz) (W H : Nat) : Exl (SS Y 5) W H ↔ cb (e1 (Y 0)) (e1 (Y 2)) W H := by
  rw [eq_5]
  simp only [Exl_app, Exl_pdd]
  rw [cb_iff (ex_1 Y) (ex_4 Y)]
theorem ex_5 (Y : Nat → Sz) (W H : Nat) : Exl (SS Y 5) W H ↔ e2 (Y 0) (Y 2) W H := by
  rw [dj_5]
  exact Iff.rfl
theorem eq_6 (Y : Nat → Sz) : SS Y 6 = pdd (SS Y 2) (SS Y 4) := by
  rw [SS_eq (by decide) (by decide)]
  show [] ++ prs (SS Y) 6 5 = _
  simp [prs, show ∀ a, cnd 6 a = (decide (a &&& 6 = a) && decide (a &&& lb 6 ≠ 0)) from fun _ => rfl, show lb 6 = 2 from rfl]
theorem dj_6 (Y : Nat → Sz) (W H : Nat) : Exl (SS Y 6) W H ↔ cb (e1 (Y 1)) (e1 (Y 2)) W H := by
  rw [eq_6]
  simp only [Exl_app, Exl_pdd]
  rw [cb_iff (ex_2 Y) (ex_4 Y)]
theorem ex_6 (Y : Nat → Sz) (W H : Nat) : Exl (SS Y 6) W H ↔ e2 (Y 1) (Y 2) W H := by
  rw [dj_6]
  exact Iff.rfl
theorem eq_7 (Y : Nat → Sz) : SS Y 7 = pdd (SS Y 5) (SS Y 2) ++ (pdd (SS Y 3) (SS Y 4) ++ (pdd (SS Y 1) (SS Y 6))) := by
  rw [SS_eq (by decide) (by decide)]
  show [] ++ prs (SS Y) 7 6 = _
  simp [prs, show ∀ a, cnd 7 a = (decide (a &&& 7 = a) && decide (a &&& lb 7 ≠ 0)) from fun _ => rfl, show lb 7 = 1 from rfl]
theorem dj_7 (Y : Nat → Sz) (W H : Nat) : Exl (SS Y 7) W H ↔ cb (e2 (Y 0) (Y 2)) (e1 (Y 1)) W H ∨ cb (e2 (Y 0) (Y 1)) (e1 (Y 2)) W H ∨ cb (e1 (Y 0)) (e2 (Y 1) (Y 2)) W H := by
  rw [eq_7]
  simp only [Exl_app, Exl_pdd]
  rw [cb_iff (ex_5 Y) (ex_2 Y), cb_iff (ex_3 Y) (ex_4 Y), cb_iff (ex_1 Y) (ex_6 Y)]
theorem ex_7 (Y : Nat → Sz) (W H : Nat) : Exl (SS Y 7) W H ↔ e3 (Y 0) (Y 1) (Y 2) W H := by
  rw [dj_7]
  constructor
  · intro h
    rcases h with h | h | h
    · exact Or.inr (Or.inl (cb_sym h))
    · exact Or.inr (Or.inr (cb_sym h))
    · exact Or.inl (h)
  · intro h
    rcases h with h | h | h
    · exact Or.inr (Or.inr (h))
    · exact Or.inl (cb_sym h)
    · exact Or.inr (Or.inl (cb_sym h))
theorem ex_8 (Y : Nat → Sz) (W H : Nat) : Exl (SS Y 8) W H ↔ e1 (Y 3) W H := by
  have e : SS Y 8 = sg (Y 3) := by rw [SS_eq (by decide) (by decide)]; rfl
  rw [e]; exact Exl_sg
theorem eq_9 (Y : Nat → Sz) : SS Y 9 = pdd (SS Y 1) (SS Y 8) := by
  rw [SS_eq (by decide) (by decide)]
  show [] ++ prs (SS Y) 9 8 = _
  simp [prs, show ∀ a, cnd 9 a = (decide (a &&& 9 = a) && decide (a &&& lb 9 ≠ 0)) from fun _ => rfl, show lb 9 = 1 from rfl]
theorem dj_9 (Y : Nat → Sz) (W H : Nat) : Exl (SS Y 9) W H ↔ cb (e1 (Y 0)) (e1 (Y 3)) W H := by
  rw [eq_9]
  simp only [Exl_app, Exl_pdd]
  rw [cb_iff (ex_1 Y) (ex_8 Y)]
theorem ex_9 (Y : Nat → Sz) (W H : Nat) : Exl (SS Y 9) W H ↔ e2 (Y 0) (Y 3) W H := by
  rw [dj_9]
  exact Iff.rfl
theorem eq_10 (Y : Nat → Sz) : SS Y 10 = pdd (SS Y 2) (SS Y 8) := by
  rw [SS_eq (by decide) (by decide)]
  show [] ++ prs (SS Y) 10 9 = _
  simp [prs, show ∀ a, cnd 10 a = (decide (a &&& 10 = a) && decide (a &&& lb 10 ≠ 0)) from fun _ => rfl, show lb 10 = 2 from rfl]
theorem dj_10 (Y : Nat → Sz) (W H : Nat) : Exl (SS Y 10) W H ↔ cb (e1 (Y 1)) (e1 (Y 3)) W H := by
  rw [eq_10]
  simp only [Exl_app, Exl_pdd]
  rw [cb_iff (ex_2 Y) (ex_8 Y)]
theorem ex_10 (Y : Nat → Sz) (W H : Nat) : Exl (SS Y 10) W H ↔ e2 (Y 1) (Y 3) W H := by
  rw [dj_10]
  exact Iff.rfl
theorem eq_11 (Y : Nat → Sz) : SS Y 11 = pdd (SS Y 9) (SS Y 2) ++ (pdd (SS Y 3) (SS Y 8) ++ (pdd (SS Y 1) (SS Y 10))) := by
  rw [SS_eq (by decide) (by decide)]
  show [] ++ prs (SS Y) 11 10 = _
  simp [prs, show ∀ a, cnd 11 a = (decide (a &&& 11 = a) && decide (a &&& lb 11 ≠ 0)) from fun _ => rfl, show lb 11 = 1 from rfl]
theorem dj_11 (Y : Nat → Sz) (W H : Nat) : Exl (SS Y 11) W H ↔ cb (e2 (Y 0) (Y 3)) (e1 (Y 1)) W H ∨ cb (e2 (Y 0) (Y 1)) (e1 (Y 3)) W H ∨ cb (e1 (Y 0)) (e2 (Y 1) (Y 3)) W H := by
  rw [eq_11]
  simp only [Exl_app, Exl_pdd]
  rw [cb_iff (ex_9 Y) (ex_2 Y), cb_iff (ex_3 Y) (ex_8 Y), cb_iff (ex_1 Y) (ex_10 Y)]
theorem ex_11 (Y : Nat → Sz) (W H : Nat) : Exl (SS Y 11) W H ↔ e3 (Y 0) (Y 1) (Y 3) W H := by
  rw [dj_11]
  constructor
  · intro h
    rcases h with h | h | h
    · exact Or.inr (Or.inl (cb_sym h))
    · exact Or.inr (Or.inr (cb_sym h))
    · exact Or.inl (h)
  · intro h
    rcases h with h | h | h
    · exact Or.inr (Or.inr (h))
    · exact Or.inl (cb_sym h)
    · exact Or.inr (Or.inl (cb_sym h))
theorem eq_12 (Y : Nat → Sz) : SS Y 12 = pdd (SS Y 4) (SS Y 8) := by
  rw [SS_eq (by decide) (by decide)]
  show [] ++ prs (SS Y) 12 11 = _
  simp [prs, show ∀ a, cnd 12 a = (decide (a &&& 12 = a) && decide (a &&& lb 12 ≠ 0)) from fun _ => rfl, show lb 12 = 4 from rfl]
theorem dj_12 (Y : Nat → Sz) (W H : Nat) : Exl (SS Y 12) W H ↔ cb (e1 (Y 2)) (e1 (Y 3)) W H := by
  rw [eq_12]
  simp only [Exl_app, Exl_pdd]
  rw [cb_iff (ex_4 Y) (ex_8 Y)]
theorem ex_12 (Y : Nat → Sz) (W H : Nat) : Exl (SS Y 12) W H ↔ e2 (Y 2) (Y 3) W H := by
  rw [dj_12]
  exact Iff.rfl
theorem eq_13 (Y : Nat → Sz) : SS Y 13 = pdd (SS Y 9) (SS Y 4) ++ (pdd (SS Y 5) (SS Y 8) ++ (pdd (SS Y 1) (SS Y 12))) := by
  rw [SS_eq (by decide) (by decide)]
  show [] ++ prs (SS Y) 13 12 = _
  simp [prs, show ∀ a, cnd 13 a = (decide (a &&& 13 = a) && decide (a &&& lb 13 ≠ 0)) from fun _ => rfl, show lb 13 = 1 from rfl]
theorem dj_13 (Y : Nat → Sz) (W H : Nat) : Exl (SS Y 13) W H ↔ cb (e2 (Y 0) (Y 3)) (e1 (Y 2)) W H ∨ cb (e2 (Y 0) (Y 2)) (e1 (Y 3)) W H ∨ cb (e1 (Y 0)) (e2 (Y 2) (Y 3)) W H := by
  rw [eq_13]
  simp only [Exl_app, Exl_pdd]
  rw [cb_iff (ex_9 Y) (ex_4 Y), cb_iff (ex_5 Y) (ex_8 Y), cb_iff (ex_1 Y) (ex_12 Y)]
theorem ex_13 (Y : Nat → Sz) (W H : Nat) : Exl (SS Y 13) W H ↔ e3 (Y 0) (Y 2) (Y 3) W H := by
  rw [dj_13]
  constructor
  · intro h
    rcases h with h | h | h
    · exact Or.inr (Or.inl (cb_sym h))
    · exact Or.inr (Or.inr (cb_sym h))
    · exact Or.inl (h)
  · intro h
    rcases h with h | h | h
    · exact Or.inr (Or.inr (h))
    · exact Or.inl (cb_sym h)
    · exact Or.inr (Or.inl (cb_sym h))
theorem eq_14 (Y : Nat → Sz) : SS Y 14 = pdd (SS Y 10) (SS Y 4) ++ (pdd (SS Y 6) (SS Y 8) ++ (pdd (SS Y 2) (SS Y 12))) := by
  rw [SS_eq (by decide) (by decide)]
  show [] ++ prs (SS Y) 14 13 = _
  simp [prs, show ∀ a, cnd 14 a = (decide (a &&& 14 = a) && decide (a &&& lb 14 ≠ 0)) from fun _ => rfl, show lb 14 = 2 from rfl]
theorem dj_14 (Y : Nat → Sz) (W H : Nat) : Exl (SS Y 14) W H ↔ cb (e2 (Y 1) (Y 3)) (e1 (Y 2)) W H ∨ cb (e2 (Y 1) (Y 2)) (e1 (Y 3)) W H ∨ cb (e1 (Y 1)) (e2 (Y 2) (Y 3)) W H := by
  rw [eq_14]
  simp only [Exl_app, Exl_pdd]
  rw [cb_iff (ex_10 Y) (ex_4 Y), cb_iff (ex_6 Y) (ex_8 Y), cb_iff (ex_2 Y) (ex_12 Y)]
theorem ex_14 (Y : Nat → Sz) (W H : Nat) : Exl (SS Y 14) W H ↔ e3 (Y 1) (Y 2) (Y 3) W H := by
  rw [dj_14]
  constructor
  · intro h
    rcases h with h | h | h
    · exact Or.inr (Or.inl (cb_sym h))
    · exact Or.inr (Or.inr (cb_sym h))
    · exact Or.inl (h)
  · intro h
    rcases h with h | h | h
    · exact Or.inr (Or.inr (h))
    · exact Or.inl (cb_sym h)
    · exact Or.inr (Or.inl (cb_sym h))
theorem eq_15 (Y : Nat → Sz) : SS Y 15 = pdd (SS Y 13) (SS Y 2) ++ (pdd (SS Y 11) (SS Y 4) ++ (pdd (SS Y 9) (SS Y 6) ++ (pdd (SS Y 7) (SS Y 8) ++ (pdd (SS Y 5) (SS Y 10) ++ (pdd (SS Y 3) (SS Y 12) ++ (pdd (SS Y 1) (SS Y 14))))))) := by
  rw [SS_eq (by decide) (by decide)]
  show [] ++ prs (SS Y) 15 14 = _
  simp [prs, show ∀ a, cnd 15 a = (decide (a &&& 15 = a) && decide (a &&& lb 15 ≠ 0)) from fun _ => rfl, show lb 15 = 1 from rfl]
theorem dj_15 (Y : Nat → Sz) (W H : Nat) : Exl (SS Y 15) W H ↔ cb (e3 (Y 0) (Y 2) (Y 3)) (e1 (Y 1)) W H ∨ cb (e3 (Y 0) (Y 1) (Y 3)) (e1 (Y 2)) W H ∨ cb (e2 (Y 0) (Y 3)) (e2 (Y 1) (Y 2)) W H ∨ cb (e3 (Y 0) (Y 1) (Y 2)) (e1 (Y 3)) W H ∨ cb (e2 (Y 0) (Y 2)) (e2 (Y 1) (Y 3)) W H ∨ cb (e2 (Y 0) (Y 1)) (e2 (Y 2) (Y 3)) W H ∨ cb (e1 (Y 0)) (e3 (Y 1) (Y 2) (Y 3)) W H := by
  rw [eq_15]
  simp only [Exl_app, Exl_pdd]
  rw [cb_iff (ex_13 Y) (ex_2 Y), cb_iff (ex_11 Y) (ex_4 Y), cb_iff (ex_9 Y) (ex_6 Y), cb_iff (ex_7 Y) (ex_8 Y), cb_iff (ex_5 Y) (ex_10 Y), cb_iff (ex_3 Y) (ex_12 Y), cb_iff (ex_1 Y) (ex_14 Y)]
theorem ex_15 (Y : Nat → Sz) (W H : Nat) : Exl (SS Y 15) W H ↔ e4 (Y 0) (Y 1) (Y 2) (Y 3) W H := by
  rw [dj_15]
  constructor
  · intro h
    rcases h with h | h | h | h | h | h | h
    · exact Or.inr (Or.inl (cb_sym h))
    · exact Or.inr (Or.inr (Or.inl (cb_sym h)))
    · exact Or.inr (Or.inr (Or.inr (Or.inr (Or.inr (Or.inr (h))))))
    · exact Or.inr (Or.inr (Or.inr (Or.inl (cb_sym h))))
    · exact Or.inr (Or.inr (Or.inr (Or.inr (Or.inr (Or.inl (h))))))
    · exact Or.inr (Or.inr (Or.inr (Or.inr (Or.inl (h)))))
    · exact Or.inl (h)
  · intro h
    rcases h with h | h | h | h | h | h | h
    · exact Or.inr (Or.inr (Or.inr (Or.inr (Or.inr (Or.inr (h))))))
    · exact Or.inl (cb_sym h)
    · exact Or.inr (Or.inl (cb_sym h))
    · exact Or.inr (Or.inr (Or.inr (Or.inl (cb_sym h))))
    · exact Or.inr (Or.inr (Or.inr (Or.inr (Or.inr (Or.inl (h))))))
    · exact Or.inr (Or.inr (Or.inr (Or.inr (Or.inl (h)))))
    · exact Or.inr (Or.inr (Or.inl (h)))
