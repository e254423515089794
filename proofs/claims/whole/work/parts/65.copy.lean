/-! image, restore: the class's side -/
def cpA (h : mv_H) (d s n : Nat) : mv_H := fun o k => if o = d ∧ k < n then h s k else h o k
theorem cpA_0 (h : mv_H) (d s : Nat) : cpA h d s 0 = h := by funext o k; simp [cpA]
theorem cpA_s {h : mv_H} {d s k : Nat} (hd : s ≠ d) : mv_u (cpA h d s k) d k (cpA h d s k s k) = cpA h d s (k + 1) := by
  funext o j
  simp only [mv_u_at, cpA]
  by_cases q : o = d
  · subst q
    by_cases q2 : j = k
    · subst q2; simp [hd]
    · by_cases q3 : j < k
      · have q4 : j < k + 1 := by omega
        simp [q2, q3, q4]
      · have q4 : ¬ j < k + 1 := by omega
        simp [q2, q3, q4]
  · simp [q]
def sf (h : mv_H) (d s : Nat) : mv_H := mv_u (cpA h (d + 1) (s + 1) 18) d 2 (h s 2)
def mk6 (h : mv_H) (d s : Nat) : mv_H := mv_u (cpA h (d + 1) (s + 1) 6) d 2 (h s 2)
def s1c (h : mv_H) (d s k : Nat) : mv_H := mv_u h d k (h s k)
def cpG (h : mv_H) (D S : Nat) : mv_H := s1c (s1c (s1c (s1c (mk6 (mk6 (sf (sf (sf h (D + 1) (S + 1)) (D + 3) (S + 3)) (D + 5) (S + 5)) (D + 7) (S + 7)) (D + 9) (S + 9)) D S 5) D S 6) D S 7) D S 8
theorem cp_13_2 (h : mv_H) : ∀ (n k m : Nat), n + k = 18 → n < m → fX7_copyFrom_13_2_b2 m (nI k) (cpA h 14 3 k) = some (sf h 13 2)
  | n, k, 0, _, hm => absurd hm (by omega)
  | 0, k, m + 1, hn, _ => by
    rw [show k = 18 by omega, fX7_copyFrom_13_2_b2, if_neg (by decide)]; rfl
  | n + 1, k, m + 1, hn, hm => by
    obtain ⟨c1, c2⟩ := pz_in (n := k) (M := 18) (by omega) (by decide)
    rw [fX7_copyFrom_13_2_b2, if_pos (show nI k < 18 from nI_lt (b := 18) (by omega) (by decide)), if_pos c1, if_pos c1, c2]
    simp only [mv_let]
    rw [cpA_s (by decide), nI_1]
    exact cp_13_2 h n (k + 1) m (by omega) (by omega)
theorem cq_13_2 (h : mv_H) : fX7_copyFrom_13_2 h = some (sf h 13 2) := by
  have := cp_13_2 h 18 0 mv_F rfl (by rw [mv_F_eq]; decide)
  rw [cpA_0] at this
  exact this
theorem cp_15_4 (h : mv_H) : ∀ (n k m : Nat), n + k = 18 → n < m → fX7_copyFrom_15_4_b2 m (nI k) (cpA h 16 5 k) = some (sf h 15 4)
  | n, k, 0, _, hm => absurd hm (by omega)
  | 0, k, m + 1, hn, _ => by
    rw [show k = 18 by omega, fX7_copyFrom_15_4_b2, if_neg (by decide)]; rfl
  | n + 1, k, m + 1, hn, hm => by
    obtain ⟨c1, c2⟩ := pz_in (n := k) (M := 18) (by omega) (by decide)
    rw [fX7_copyFrom_15_4_b2, if_pos (show nI k < 18 from nI_lt (b := 18) (by omega) (by decide)), if_pos c1, if_pos c1, c2]
    simp only [mv_let]
    rw [cpA_s (by decide), nI_1]
    exact cp_15_4 h n (k + 1) m (by omega) (by omega)
theorem cq_15_4 (h : mv_H) : fX7_copyFrom_15_4 h = some (sf h 15 4) := by
  have := cp_15_4 h 18 0 mv_F rfl (by rw [mv_F_eq]; decide)
  rw [cpA_0] at this
  exact this
theorem cp_17_6 (h : mv_H) : ∀ (n k m : Nat), n + k = 18 → n < m → fX7_copyFrom_17_6_b2 m (nI k) (cpA h 18 7 k) = some (sf h 17 6)
  | n, k, 0, _, hm => absurd hm (by omega)
  | 0, k, m + 1, hn, _ => by
    rw [show k = 18 by omega, fX7_copyFrom_17_6_b2, if_neg (by decide)]; rfl
  | n + 1, k, m + 1, hn, hm => by
    obtain ⟨c1, c2⟩ := pz_in (n := k) (M := 18) (by omega) (by decide)
    rw [fX7_copyFrom_17_6_b2, if_pos (show nI k < 18 from nI_lt (b := 18) (by omega) (by decide)), if_pos c1, if_pos c1, c2]
    simp only [mv_let]
    rw [cpA_s (by decide), nI_1]
    exact cp_17_6 h n (k + 1) m (by omega) (by omega)
theorem cq_17_6 (h : mv_H) : fX7_copyFrom_17_6 h = some (sf h 17 6) := by
  have := cp_17_6 h 18 0 mv_F rfl (by rw [mv_F_eq]; decide)
  rw [cpA_0] at this
  exact this
theorem cp_19_8 (h : mv_H) : ∀ (n k m : Nat), n + k = 6 → n < m → fX2_copyFrom_19_8_b2 m (nI k) (cpA h 20 9 k) = some (mk6 h 19 8)
  | n, k, 0, _, hm => absurd hm (by omega)
  | 0, k, m + 1, hn, _ => by
    rw [show k = 6 by omega, fX2_copyFrom_19_8_b2, if_neg (by decide)]; rfl
  | n + 1, k, m + 1, hn, hm => by
    obtain ⟨c1, c2⟩ := pz_in (n := k) (M := 6) (by omega) (by decide)
    rw [fX2_copyFrom_19_8_b2, if_pos (show nI k < 6 from nI_lt (b := 6) (by omega) (by decide)), if_pos c1, if_pos c1, c2]
    simp only [mv_let]
    rw [cpA_s (by decide), nI_1]
    exact cp_19_8 h n (k + 1) m (by omega) (by omega)
theorem cq_19_8 (h : mv_H) : fX2_copyFrom_19_8 h = some (mk6 h 19 8) := by
  have := cp_19_8 h 6 0 mv_F rfl (by rw [mv_F_eq]; decide)
  rw [cpA_0] at this
  exact this
theorem cp_21_10 (h : mv_H) : ∀ (n k m : Nat), n + k = 6 → n < m → fX2_copyFrom_21_10_b2 m (nI k) (cpA h 22 11 k) = some (mk6 h 21 10)
  | n, k, 0, _, hm => absurd hm (by omega)
  | 0, k, m + 1, hn, _ => by
    rw [show k = 6 by omega, fX2_copyFrom_21_10_b2, if_neg (by decide)]; rfl
  | n + 1, k, m + 1, hn, hm => by
    obtain ⟨c1, c2⟩ := pz_in (n := k) (M := 6) (by omega) (by decide)
    rw [fX2_copyFrom_21_10_b2, if_pos (show nI k < 6 from nI_lt (b := 6) (by omega) (by decide)), if_pos c1, if_pos c1, c2]
    simp only [mv_let]
    rw [cpA_s (by decide), nI_1]
    exact cp_21_10 h n (k + 1) m (by omega) (by omega)
theorem cq_21_10 (h : mv_H) : fX2_copyFrom_21_10 h = some (mk6 h 21 10) := by
  have := cp_21_10 h 6 0 mv_F rfl (by rw [mv_F_eq]; decide)
  rw [cpA_0] at this
  exact this
theorem cg_12_1 (h : mv_H) : fX1_copyFrom_12_1 h = some (cpG h 12 1) := by
  unfold fX1_copyFrom_12_1
  simp only [cq_13_2, cq_15_4, cq_17_6, cq_19_8, cq_21_10, Option.bind_some, mv_let]
  rfl
theorem co_12_1 (h : mv_H) {o k : Nat} (ho : ¬ (12 ≤ o ∧ o ≤ 22)) : cpG h 12 1 o k = h o k := by
  simp [cpG, s1c, sf, mk6, cpA, mv_u_at, show o ≠ 12 by omega, show o ≠ 13 by omega, show o ≠ 14 by omega, show o ≠ 15 by omega, show o ≠ 16 by omega, show o ≠ 17 by omega, show o ≠ 18 by omega, show o ≠ 19 by omega, show o ≠ 20 by omega, show o ≠ 21 by omega, show o ≠ 22 by omega]
set_option maxHeartbeats 1000000 in
theorem cr_12_1 {h : mv_H} {N : Nat → Nat → Nat} (hG : rdG h 1 N) : rdG (cpG h 12 1) 12 N := by
  intro a j hv
  have e := hG a j hv
  revert e
  revert a j hv
  refine vld_0 (fun j hj => ?_) (fun j hj => ?_) (fun j hj => ?_) (fun j hj => ?_) (fun j hj => ?_) (fun j hj => ?_) (fun j hj => ?_)
  · rcases (show j = 0 ∨ j = 1 ∨ j = 2 ∨ j = 3 ∨ j = 4 ∨ j = 5 ∨ j = 6 ∨ j = 7 ∨ j = 8 by omega) with rfl | rfl | rfl | rfl | rfl | rfl | rfl | rfl | rfl <;> intro e <;> simp [pv_gv] at e <;> simp [pv_gv, cpG, s1c, sf, mk6, cpA, mv_u_at, e]
  · intro e; simp [pv_gv] at e; simp [pv_gv, cpG, s1c, sf, mk6, cpA, mv_u_at, e, hj]
  · intro e; simp [pv_gv] at e; simp [pv_gv, cpG, s1c, sf, mk6, cpA, mv_u_at, e, hj]
  · intro e; simp [pv_gv] at e; simp [pv_gv, cpG, s1c, sf, mk6, cpA, mv_u_at, e, show 3 * j < 18 by omega]
  · intro e; simp [pv_gv] at e; simp [pv_gv, cpG, s1c, sf, mk6, cpA, mv_u_at, e, show 3 * j + 1 < 18 by omega]
  · intro e; simp [pv_gv] at e; simp [pv_gv, cpG, s1c, sf, mk6, cpA, mv_u_at, e, hj]
  · intro e; simp [pv_gv] at e; simp [pv_gv, cpG, s1c, sf, mk6, cpA, mv_u_at, e, hj]
theorem cp_24_2 (h : mv_H) : ∀ (n k m : Nat), n + k = 18 → n < m → fX7_copyFrom_24_2_b2 m (nI k) (cpA h 25 3 k) = some (sf h 24 2)
  | n, k, 0, _, hm => absurd hm (by omega)
  | 0, k, m + 1, hn, _ => by
    rw [show k = 18 by omega, fX7_copyFrom_24_2_b2, if_neg (by decide)]; rfl
  | n + 1, k, m + 1, hn, hm => by
    obtain ⟨c1, c2⟩ := pz_in (n := k) (M := 18) (by omega) (by decide)
    rw [fX7_copyFrom_24_2_b2, if_pos (show nI k < 18 from nI_lt (b := 18) (by omega) (by decide)), if_pos c1, if_pos c1, c2]
    simp only [mv_let]
    rw [cpA_s (by decide), nI_1]
    exact cp_24_2 h n (k + 1) m (by omega) (by omega)
theorem cq_24_2 (h : mv_H) : fX7_copyFrom_24_2 h = some (sf h 24 2) := by
  have := cp_24_2 h 18 0 mv_F rfl (by rw [mv_F_eq]; decide)
  rw [cpA_0] at this
  exact this
theorem cp_26_4 (h : mv_H) : ∀ (n k m : Nat), n + k = 18 → n < m → fX7_copyFrom_26_4_b2 m (nI k) (cpA h 27 5 k) = some (sf h 26 4)
  | n, k, 0, _, hm => absurd hm (by omega)
  | 0, k, m + 1, hn, _ => by
    rw [show k = 18 by omega, fX7_copyFrom_26_4_b2, if_neg (by decide)]; rfl
  | n + 1, k, m + 1, hn, hm => by
    obtain ⟨c1, c2⟩ := pz_in (n := k) (M := 18) (by omega) (by decide)
    rw [fX7_copyFrom_26_4_b2, if_pos (show nI k < 18 from nI_lt (b := 18) (by omega) (by decide)), if_pos c1, if_pos c1, c2]
    simp only [mv_let]
    rw [cpA_s (by decide), nI_1]
    exact cp_26_4 h n (k + 1) m (by omega) (by omega)
theorem cq_26_4 (h : mv_H) : fX7_copyFrom_26_4 h = some (sf h 26 4) := by
  have := cp_26_4 h 18 0 mv_F rfl (by rw [mv_F_eq]; decide)
  rw [cpA_0] at this
  exact this
theorem cp_28_6 (h : mv_H) : ∀ (n k m : Nat), n + k = 18 → n < m → fX7_copyFrom_28_6_b2 m (nI k) (cpA h 29 7 k) = some (sf h 28 6)
  | n, k, 0, _, hm => absurd hm (by omega)
  | 0, k, m + 1, hn, _ => by
    rw [show k = 18 by omega, fX7_copyFrom_28_6_b2, if_neg (by decide)]; rfl
  | n + 1, k, m + 1, hn, hm => by
    obtain ⟨c1, c2⟩ := pz_in (n := k) (M := 18) (by omega) (by decide)
    rw [fX7_copyFrom_28_6_b2, if_pos (show nI k < 18 from nI_lt (b := 18) (by omega) (by decide)), if_pos c1, if_pos c1, c2]
    simp only [mv_let]
    rw [cpA_s (by decide), nI_1]
    exact cp_28_6 h n (k + 1) m (by omega) (by omega)
theorem cq_28_6 (h : mv_H) : fX7_copyFrom_28_6 h = some (sf h 28 6) := by
  have := cp_28_6 h 18 0 mv_F rfl (by rw [mv_F_eq]; decide)
  rw [cpA_0] at this
  exact this
theorem cp_30_8 (h : mv_H) : ∀ (n k m : Nat), n + k = 6 → n < m → fX2_copyFrom_30_8_b2 m (nI k) (cpA h 31 9 k) = some (mk6 h 30 8)
  | n, k, 0, _, hm => absurd hm (by omega)
  | 0, k, m + 1, hn, _ => by
    rw [show k = 6 by omega, fX2_copyFrom_30_8_b2, if_neg (by decide)]; rfl
  | n + 1, k, m + 1, hn, hm => by
    obtain ⟨c1, c2⟩ := pz_in (n := k) (M := 6) (by omega) (by decide)
    rw [fX2_copyFrom_30_8_b2, if_pos (show nI k < 6 from nI_lt (b := 6) (by omega) (by decide)), if_pos c1, if_pos c1, c2]
    simp only [mv_let]
    rw [cpA_s (by decide), nI_1]
    exact cp_30_8 h n (k + 1) m (by omega) (by omega)
theorem cq_30_8 (h : mv_H) : fX2_copyFrom_30_8 h = some (mk6 h 30 8) := by
  have := cp_30_8 h 6 0 mv_F rfl (by rw [mv_F_eq]; decide)
  rw [cpA_0] at this
  exact this
theorem cp_32_10 (h : mv_H) : ∀ (n k m : Nat), n + k = 6 → n < m → fX2_copyFrom_32_10_b2 m (nI k) (cpA h 33 11 k) = some (mk6 h 32 10)
  | n, k, 0, _, hm => absurd hm (by omega)
  | 0, k, m + 1, hn, _ => by
    rw [show k = 6 by omega, fX2_copyFrom_32_10_b2, if_neg (by decide)]; rfl
  | n + 1, k, m + 1, hn, hm => by
    obtain ⟨c1, c2⟩ := pz_in (n := k) (M := 6) (by omega) (by decide)
    rw [fX2_copyFrom_32_10_b2, if_pos (show nI k < 6 from nI_lt (b := 6) (by omega) (by decide)), if_pos c1, if_pos c1, c2]
    simp only [mv_let]
    rw [cpA_s (by decide), nI_1]
    exact cp_32_10 h n (k + 1) m (by omega) (by omega)
theorem cq_32_10 (h : mv_H) : fX2_copyFrom_32_10 h = some (mk6 h 32 10) := by
  have := cp_32_10 h 6 0 mv_F rfl (by rw [mv_F_eq]; decide)
  rw [cpA_0] at this
  exact this
theorem cg_23_1 (h : mv_H) : fX1_copyFrom_23_1 h = some (cpG h 23 1) := by
  unfold fX1_copyFrom_23_1
  simp only [cq_24_2, cq_26_4, cq_28_6, cq_30_8, cq_32_10, Option.bind_some, mv_let]
  rfl
theorem co_23_1 (h : mv_H) {o k : Nat} (ho : ¬ (23 ≤ o ∧ o ≤ 33)) : cpG h 23 1 o k = h o k := by
  simp [cpG, s1c, sf, mk6, cpA, mv_u_at, show o ≠ 23 by omega, show o ≠ 24 by omega, show o ≠ 25 by omega, show o ≠ 26 by omega, show o ≠ 27 by omega, show o ≠ 28 by omega, show o ≠ 29 by omega, show o ≠ 30 by omega, show o ≠ 31 by omega, show o ≠ 32 by omega, show o ≠ 33 by omega]
set_option maxHeartbeats 1000000 in
theorem cr_23_1 {h : mv_H} {N : Nat → Nat → Nat} (hG : rdG h 1 N) : rdG (cpG h 23 1) 23 N := by
  intro a j hv
  have e := hG a j hv
  revert e
  revert a j hv
  refine vld_0 (fun j hj => ?_) (fun j hj => ?_) (fun j hj => ?_) (fun j hj => ?_) (fun j hj => ?_) (fun j hj => ?_) (fun j hj => ?_)
  · rcases (show j = 0 ∨ j = 1 ∨ j = 2 ∨ j = 3 ∨ j = 4 ∨ j = 5 ∨ j = 6 ∨ j = 7 ∨ j = 8 by omega) with rfl | rfl | rfl | rfl | rfl | rfl | rfl | rfl | rfl <;> intro e <;> simp [pv_gv] at e <;> simp [pv_gv, cpG, s1c, sf, mk6, cpA, mv_u_at, e]
  · intro e; simp [pv_gv] at e; simp [pv_gv, cpG, s1c, sf, mk6, cpA, mv_u_at, e, hj]
  · intro e; simp [pv_gv] at e; simp [pv_gv, cpG, s1c, sf, mk6, cpA, mv_u_at, e, hj]
  · intro e; simp [pv_gv] at e; simp [pv_gv, cpG, s1c, sf, mk6, cpA, mv_u_at, e, show 3 * j < 18 by omega]
  · intro e; simp [pv_gv] at e; simp [pv_gv, cpG, s1c, sf, mk6, cpA, mv_u_at, e, show 3 * j + 1 < 18 by omega]
  · intro e; simp [pv_gv] at e; simp [pv_gv, cpG, s1c, sf, mk6, cpA, mv_u_at, e, hj]
  · intro e; simp [pv_gv] at e; simp [pv_gv, cpG, s1c, sf, mk6, cpA, mv_u_at, e, hj]
theorem cp_2_13 (h : mv_H) : ∀ (n k m : Nat), n + k = 18 → n < m → fX7_copyFrom_2_13_b2 m (nI k) (cpA h 3 14 k) = some (sf h 2 13)
  | n, k, 0, _, hm => absurd hm (by omega)
  | 0, k, m + 1, hn, _ => by
    rw [show k = 18 by omega, fX7_copyFrom_2_13_b2, if_neg (by decide)]; rfl
  | n + 1, k, m + 1, hn, hm => by
    obtain ⟨c1, c2⟩ := pz_in (n := k) (M := 18) (by omega) (by decide)
    rw [fX7_copyFrom_2_13_b2, if_pos (show nI k < 18 from nI_lt (b := 18) (by omega) (by decide)), if_pos c1, if_pos c1, c2]
    simp only [mv_let]
    rw [cpA_s (by decide), nI_1]
    exact cp_2_13 h n (k + 1) m (by omega) (by omega)
theorem cq_2_13 (h : mv_H) : fX7_copyFrom_2_13 h = some (sf h 2 13) := by
  have := cp_2_13 h 18 0 mv_F rfl (by rw [mv_F_eq]; decide)
  rw [cpA_0] at this
  exact this
theorem cp_4_15 (h : mv_H) : ∀ (n k m : Nat), n + k = 18 → n < m → fX7_copyFrom_4_15_b2 m (nI k) (cpA h 5 16 k) = some (sf h 4 15)
  | n, k, 0, _, hm => absurd hm (by omega)
  | 0, k, m + 1, hn, _ => by
    rw [show k = 18 by omega, fX7_copyFrom_4_15_b2, if_neg (by decide)]; rfl
  | n + 1, k, m + 1, hn, hm => by
    obtain ⟨c1, c2⟩ := pz_in (n := k) (M := 18) (by omega) (by decide)
    rw [fX7_copyFrom_4_15_b2, if_pos (show nI k < 18 from nI_lt (b := 18) (by omega) (by decide)), if_pos c1, if_pos c1, c2]
    simp only [mv_let]
    rw [cpA_s (by decide), nI_1]
    exact cp_4_15 h n (k + 1) m (by omega) (by omega)
theorem cq_4_15 (h : mv_H) : fX7_copyFrom_4_15 h = some (sf h 4 15) := by
  have := cp_4_15 h 18 0 mv_F rfl (by rw [mv_F_eq]; decide)
  rw [cpA_0] at this
  exact this
theorem cp_6_17 (h : mv_H) : ∀ (n k m : Nat), n + k = 18 → n < m → fX7_copyFrom_6_17_b2 m (nI k) (cpA h 7 18 k) = some (sf h 6 17)
  | n, k, 0, _, hm => absurd hm (by omega)
  | 0, k, m + 1, hn, _ => by
    rw [show k = 18 by omega, fX7_copyFrom_6_17_b2, if_neg (by decide)]; rfl
  | n + 1, k, m + 1, hn, hm => by
    obtain ⟨c1, c2⟩ := pz_in (n := k) (M := 18) (by omega) (by decide)
    rw [fX7_copyFrom_6_17_b2, if_pos (show nI k < 18 from nI_lt (b := 18) (by omega) (by decide)), if_pos c1, if_pos c1, c2]
    simp only [mv_let]
    rw [cpA_s (by decide), nI_1]
    exact cp_6_17 h n (k + 1) m (by omega) (by omega)
theorem cq_6_17 (h : mv_H) : fX7_copyFrom_6_17 h = some (sf h 6 17) := by
  have := cp_6_17 h 18 0 mv_F rfl (by rw [mv_F_eq]; decide)
  rw [cpA_0] at this
  exact this
theorem cp_8_19 (h : mv_H) : ∀ (n k m : Nat), n + k = 6 → n < m → fX2_copyFrom_8_19_b2 m (nI k) (cpA h 9 20 k) = some (mk6 h 8 19)
  | n, k, 0, _, hm => absurd hm (by omega)
  | 0, k, m + 1, hn, _ => by
    rw [show k = 6 by omega, fX2_copyFrom_8_19_b2, if_neg (by decide)]; rfl
  | n + 1, k, m + 1, hn, hm => by
    obtain ⟨c1, c2⟩ := pz_in (n := k) (M := 6) (by omega) (by decide)
    rw [fX2_copyFrom_8_19_b2, if_pos (show nI k < 6 from nI_lt (b := 6) (by omega) (by decide)), if_pos c1, if_pos c1, c2]
    simp only [mv_let]
    rw [cpA_s (by decide), nI_1]
    exact cp_8_19 h n (k + 1) m (by omega) (by omega)
theorem cq_8_19 (h : mv_H) : fX2_copyFrom_8_19 h = some (mk6 h 8 19) := by
  have := cp_8_19 h 6 0 mv_F rfl (by rw [mv_F_eq]; decide)
  rw [cpA_0] at this
  exact this
theorem cp_10_21 (h : mv_H) : ∀ (n k m : Nat), n + k = 6 → n < m → fX2_copyFrom_10_21_b2 m (nI k) (cpA h 11 22 k) = some (mk6 h 10 21)
  | n, k, 0, _, hm => absurd hm (by omega)
  | 0, k, m + 1, hn, _ => by
    rw [show k = 6 by omega, fX2_copyFrom_10_21_b2, if_neg (by decide)]; rfl
  | n + 1, k, m + 1, hn, hm => by
    obtain ⟨c1, c2⟩ := pz_in (n := k) (M := 6) (by omega) (by decide)
    rw [fX2_copyFrom_10_21_b2, if_pos (show nI k < 6 from nI_lt (b := 6) (by omega) (by decide)), if_pos c1, if_pos c1, c2]
    simp only [mv_let]
    rw [cpA_s (by decide), nI_1]
    exact cp_10_21 h n (k + 1) m (by omega) (by omega)
theorem cq_10_21 (h : mv_H) : fX2_copyFrom_10_21 h = some (mk6 h 10 21) := by
  have := cp_10_21 h 6 0 mv_F rfl (by rw [mv_F_eq]; decide)
  rw [cpA_0] at this
  exact this
theorem cg_1_12 (h : mv_H) : fX1_copyFrom_1_12 h = some (cpG h 1 12) := by
  unfold fX1_copyFrom_1_12
  simp only [cq_2_13, cq_4_15, cq_6_17, cq_8_19, cq_10_21, Option.bind_some, mv_let]
  rfl
theorem co_1_12 (h : mv_H) {o k : Nat} (ho : ¬ (1 ≤ o ∧ o ≤ 11)) : cpG h 1 12 o k = h o k := by
  simp [cpG, s1c, sf, mk6, cpA, mv_u_at, show o ≠ 1 by omega, show o ≠ 2 by omega, show o ≠ 3 by omega, show o ≠ 4 by omega, show o ≠ 5 by omega, show o ≠ 6 by omega, show o ≠ 7 by omega, show o ≠ 8 by omega, show o ≠ 9 by omega, show o ≠ 10 by omega, show o ≠ 11 by omega]
set_option maxHeartbeats 1000000 in
theorem cr_1_12 {h : mv_H} {N : Nat → Nat → Nat} (hG : rdG h 12 N) : rdG (cpG h 1 12) 1 N := by
  intro a j hv
  have e := hG a j hv
  revert e
  revert a j hv
  refine vld_0 (fun j hj => ?_) (fun j hj => ?_) (fun j hj => ?_) (fun j hj => ?_) (fun j hj => ?_) (fun j hj => ?_) (fun j hj => ?_)
  · rcases (show j = 0 ∨ j = 1 ∨ j = 2 ∨ j = 3 ∨ j = 4 ∨ j = 5 ∨ j = 6 ∨ j = 7 ∨ j = 8 by omega) with rfl | rfl | rfl | rfl | rfl | rfl | rfl | rfl | rfl <;> intro e <;> simp [pv_gv] at e <;> simp [pv_gv, cpG, s1c, sf, mk6, cpA, mv_u_at, e]
  · intro e; simp [pv_gv] at e; simp [pv_gv, cpG, s1c, sf, mk6, cpA, mv_u_at, e, hj]
  · intro e; simp [pv_gv] at e; simp [pv_gv, cpG, s1c, sf, mk6, cpA, mv_u_at, e, hj]
  · intro e; simp [pv_gv] at e; simp [pv_gv, cpG, s1c, sf, mk6, cpA, mv_u_at, e, show 3 * j < 18 by omega]
  · intro e; simp [pv_gv] at e; simp [pv_gv, cpG, s1c, sf, mk6, cpA, mv_u_at, e, show 3 * j + 1 < 18 by omega]
  · intro e; simp [pv_gv] at e; simp [pv_gv, cpG, s1c, sf, mk6, cpA, mv_u_at, e, hj]
  · intro e; simp [pv_gv] at e; simp [pv_gv, cpG, s1c, sf, mk6, cpA, mv_u_at, e, hj]
theorem cp_2_24 (h : mv_H) : ∀ (n k m : Nat), n + k = 18 → n < m → fX7_copyFrom_2_24_b2 m (nI k) (cpA h 3 25 k) = some (sf h 2 24)
  | n, k, 0, _, hm => absurd hm (by omega)
  | 0, k, m + 1, hn, _ => by
    rw [show k = 18 by omega, fX7_copyFrom_2_24_b2, if_neg (by decide)]; rfl
  | n + 1, k, m + 1, hn, hm => by
    obtain ⟨c1, c2⟩ := pz_in (n := k) (M := 18) (by omega) (by decide)
    rw [fX7_copyFrom_2_24_b2, if_pos (show nI k < 18 from nI_lt (b := 18) (by omega) (by decide)), if_pos c1, if_pos c1, c2]
    simp only [mv_let]
    rw [cpA_s (by decide), nI_1]
    exact cp_2_24 h n (k + 1) m (by omega) (by omega)
theorem cq_2_24 (h : mv_H) : fX7_copyFrom_2_24 h = some (sf h 2 24) := by
  have := cp_2_24 h 18 0 mv_F rfl (by rw [mv_F_eq]; decide)
  rw [cpA_0] at this
  exact this
theorem cp_4_26 (h : mv_H) : ∀ (n k m : Nat), n + k = 18 → n < m → fX7_copyFrom_4_26_b2 m (nI k) (cpA h 5 27 k) = some (sf h 4 26)
  | n, k, 0, _, hm => absurd hm (by omega)
  | 0, k, m + 1, hn, _ => by
    rw [show k = 18 by omega, fX7_copyFrom_4_26_b2, if_neg (by decide)]; rfl
  | n + 1, k, m + 1, hn, hm => by
    obtain ⟨c1, c2⟩ := pz_in (n := k) (M := 18) (by omega) (by decide)
    rw [fX7_copyFrom_4_26_b2, if_pos (show nI k < 18 from nI_lt (b := 18) (by omega) (by decide)), if_pos c1, if_pos c1, c2]
    simp only [mv_let]
    rw [cpA_s (by decide), nI_1]
    exact cp_4_26 h n (k + 1) m (by omega) (by omega)
theorem cq_4_26 (h : mv_H) : fX7_copyFrom_4_26 h = some (sf h 4 26) := by
  have := cp_4_26 h 18 0 mv_F rfl (by rw [mv_F_eq]; decide)
  rw [cpA_0] at this
  exact this
theorem cp_6_28 (h : mv_H) : ∀ (n k m : Nat), n + k = 18 → n < m → fX7_copyFrom_6_28_b2 m (nI k) (cpA h 7 29 k) = some (sf h 6 28)
  | n, k, 0, _, hm => absurd hm (by omega)
  | 0, k, m + 1, hn, _ => by
    rw [show k = 18 by omega, fX7_copyFrom_6_28_b2, if_neg (by decide)]; rfl
  | n + 1, k, m + 1, hn, hm => by
    obtain ⟨c1, c2⟩ := pz_in (n := k) (M := 18) (by omega) (by decide)
    rw [fX7_copyFrom_6_28_b2, if_pos (show nI k < 18 from nI_lt (b := 18) (by omega) (by decide)), if_pos c1, if_pos c1, c2]
    simp only [mv_let]
    rw [cpA_s (by decide), nI_1]
    exact cp_6_28 h n (k + 1) m (by omega) (by omega)
theorem cq_6_28 (h : mv_H) : fX7_copyFrom_6_28 h = some (sf h 6 28) := by
  have := cp_6_28 h 18 0 mv_F rfl (by rw [mv_F_eq]; decide)
  rw [cpA_0] at this
  exact this
theorem cp_8_30 (h : mv_H) : ∀ (n k m : Nat), n + k = 6 → n < m → fX2_copyFrom_8_30_b2 m (nI k) (cpA h 9 31 k) = some (mk6 h 8 30)
  | n, k, 0, _, hm => absurd hm (by omega)
  | 0, k, m + 1, hn, _ => by
    rw [show k = 6 by omega, fX2_copyFrom_8_30_b2, if_neg (by decide)]; rfl
  | n + 1, k, m + 1, hn, hm => by
    obtain ⟨c1, c2⟩ := pz_in (n := k) (M := 6) (by omega) (by decide)
    rw [fX2_copyFrom_8_30_b2, if_pos (show nI k < 6 from nI_lt (b := 6) (by omega) (by decide)), if_pos c1, if_pos c1, c2]
    simp only [mv_let]
    rw [cpA_s (by decide), nI_1]
    exact cp_8_30 h n (k + 1) m (by omega) (by omega)
theorem cq_8_30 (h : mv_H) : fX2_copyFrom_8_30 h = some (mk6 h 8 30) := by
  have := cp_8_30 h 6 0 mv_F rfl (by rw [mv_F_eq]; decide)
  rw [cpA_0] at this
  exact this
theorem cp_10_32 (h : mv_H) : ∀ (n k m : Nat), n + k = 6 → n < m → fX2_copyFrom_10_32_b2 m (nI k) (cpA h 11 33 k) = some (mk6 h 10 32)
  | n, k, 0, _, hm => absurd hm (by omega)
  | 0, k, m + 1, hn, _ => by
    rw [show k = 6 by omega, fX2_copyFrom_10_32_b2, if_neg (by decide)]; rfl
  | n + 1, k, m + 1, hn, hm => by
    obtain ⟨c1, c2⟩ := pz_in (n := k) (M := 6) (by omega) (by decide)
    rw [fX2_copyFrom_10_32_b2, if_pos (show nI k < 6 from nI_lt (b := 6) (by omega) (by decide)), if_pos c1, if_pos c1, c2]
    simp only [mv_let]
    rw [cpA_s (by decide), nI_1]
    exact cp_10_32 h n (k + 1) m (by omega) (by omega)
theorem cq_10_32 (h : mv_H) : fX2_copyFrom_10_32 h = some (mk6 h 10 32) := by
  have := cp_10_32 h 6 0 mv_F rfl (by rw [mv_F_eq]; decide)
  rw [cpA_0] at this
  exact this
theorem cg_1_23 (h : mv_H) : fX1_copyFrom_1_23 h = some (cpG h 1 23) := by
  unfold fX1_copyFrom_1_23
  simp only [cq_2_24, cq_4_26, cq_6_28, cq_8_30, cq_10_32, Option.bind_some, mv_let]
  rfl
theorem co_1_23 (h : mv_H) {o k : Nat} (ho : ¬ (1 ≤ o ∧ o ≤ 11)) : cpG h 1 23 o k = h o k := by
  simp [cpG, s1c, sf, mk6, cpA, mv_u_at, show o ≠ 1 by omega, show o ≠ 2 by omega, show o ≠ 3 by omega, show o ≠ 4 by omega, show o ≠ 5 by omega, show o ≠ 6 by omega, show o ≠ 7 by omega, show o ≠ 8 by omega, show o ≠ 9 by omega, show o ≠ 10 by omega, show o ≠ 11 by omega]
set_option maxHeartbeats 1000000 in
theorem cr_1_23 {h : mv_H} {N : Nat → Nat → Nat} (hG : rdG h 23 N) : rdG (cpG h 1 23) 1 N := by
  intro a j hv
  have e := hG a j hv
  revert e
  revert a j hv
  refine vld_0 (fun j hj => ?_) (fun j hj => ?_) (fun j hj => ?_) (fun j hj => ?_) (fun j hj => ?_) (fun j hj => ?_) (fun j hj => ?_)
  · rcases (show j = 0 ∨ j = 1 ∨ j = 2 ∨ j = 3 ∨ j = 4 ∨ j = 5 ∨ j = 6 ∨ j = 7 ∨ j = 8 by omega) with rfl | rfl | rfl | rfl | rfl | rfl | rfl | rfl | rfl <;> intro e <;> simp [pv_gv] at e <;> simp [pv_gv, cpG, s1c, sf, mk6, cpA, mv_u_at, e]
  · intro e; simp [pv_gv] at e; simp [pv_gv, cpG, s1c, sf, mk6, cpA, mv_u_at, e, hj]
  · intro e; simp [pv_gv] at e; simp [pv_gv, cpG, s1c, sf, mk6, cpA, mv_u_at, e, hj]
  · intro e; simp [pv_gv] at e; simp [pv_gv, cpG, s1c, sf, mk6, cpA, mv_u_at, e, show 3 * j < 18 by omega]
  · intro e; simp [pv_gv] at e; simp [pv_gv, cpG, s1c, sf, mk6, cpA, mv_u_at, e, show 3 * j + 1 < 18 by omega]
  · intro e; simp [pv_gv] at e; simp [pv_gv, cpG, s1c, sf, mk6, cpA, mv_u_at, e, hj]
  · intro e; simp [pv_gv] at e; simp [pv_gv, cpG, s1c, sf, mk6, cpA, mv_u_at, e, hj]
theorem cc_12 {h : mv_H} (hc : pv_c h) : pv_c (cpG h 1 12) := by
  obtain ⟨c1, c2, c3, c4, c5⟩ := hc
  refine ⟨?_, ?_, ?_, ?_, ?_⟩
  · simp [cpG, s1c, sf, mk6, cpA, mv_u_at, c1]
  · simp [cpG, s1c, sf, mk6, cpA, mv_u_at, c2]
  · simp [cpG, s1c, sf, mk6, cpA, mv_u_at, c3]
  · simp [cpG, s1c, sf, mk6, cpA, mv_u_at, c4]
  · simp [cpG, s1c, sf, mk6, cpA, mv_u_at, c5]
theorem cc_23 {h : mv_H} (hc : pv_c h) : pv_c (cpG h 1 23) := by
  obtain ⟨c1, c2, c3, c4, c5⟩ := hc
  refine ⟨?_, ?_, ?_, ?_, ?_⟩
  · simp [cpG, s1c, sf, mk6, cpA, mv_u_at, c1]
  · simp [cpG, s1c, sf, mk6, cpA, mv_u_at, c2]
  · simp [cpG, s1c, sf, mk6, cpA, mv_u_at, c3]
  · simp [cpG, s1c, sf, mk6, cpA, mv_u_at, c4]
  · simp [cpG, s1c, sf, mk6, cpA, mv_u_at, c5]
