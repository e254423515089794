/-! image, restore: the reference's side, and both -/
def lo (j : Nat) : Nat := if j < 9 then 55 else if j < 45 then 56 + (j - 9) % 2 else 58 + (j - 45) % 4
def lk (j : Nat) : Nat := if j < 9 then cm j else if j < 45 then (j - 9) / 2 else (j - 45) / 4
def vN (N : Nat → Nat → Nat) (j : Nat) : Nat := if j < 9 then N 0 j else if j < 45 then N (1 + (j - 9) % 2) ((j - 9) / 2) else N (3 + (j - 45) % 4) ((j - 45) / 4)
theorem lo_a : ∀ j, j < 69 → lo j ≠ 81 ∧ lo j ≠ 82 ∧ 55 ≤ lo j ∧ lo j ≤ 61 ∧ ¬ (lo j = 55 ∧ (lk j = 44 ∨ lk j = 45 ∨ lk j = 16)) := by decide +kernel
theorem lo_inj : ∀ i, i < 69 → ∀ j, j < 69 → i ≠ j → ¬ (lo i = lo j ∧ lk i = lk j) := by decide +kernel
theorem lo_1 : ∀ k, k < 18 → lo (9 + 2 * k) = 56 ∧ lk (9 + 2 * k) = k ∧ lo (10 + 2 * k) = 57 ∧ lk (10 + 2 * k) = k := by decide +kernel
theorem lo_3 : ∀ k, k < 6 → lo (45 + 4 * k) = 58 ∧ lk (45 + 4 * k) = k ∧ lo (46 + 4 * k) = 59 ∧ lk (46 + 4 * k) = k ∧ lo (47 + 4 * k) = 60 ∧ lk (47 + 4 * k) = k ∧ lo (48 + 4 * k) = 61 ∧ lk (48 + 4 * k) = k := by decide +kernel
theorem vN_1 {N : Nat → Nat → Nat} {k : Nat} (hk : k < 18) : vN N (9 + 2 * k) = N 1 k ∧ vN N (10 + 2 * k) = N 2 k := by
  unfold vN
  refine ⟨?_, ?_⟩
  · rw [if_neg (by omega), if_pos (by omega), show (9 + 2 * k - 9) % 2 = 0 by omega, show (9 + 2 * k - 9) / 2 = k by omega]
  · rw [if_neg (by omega), if_pos (by omega), show (10 + 2 * k - 9) % 2 = 1 by omega, show (10 + 2 * k - 9) / 2 = k by omega]
theorem vN_3 {N : Nat → Nat → Nat} {k : Nat} (hk : k < 6) : vN N (45 + 4 * k) = N 3 k ∧ vN N (46 + 4 * k) = N 4 k ∧ vN N (47 + 4 * k) = N 5 k ∧ vN N (48 + 4 * k) = N 6 k := by
  unfold vN
  refine ⟨?_, ?_, ?_, ?_⟩
  · rw [if_neg (by omega), if_neg (by omega), show (45 + 4 * k - 45) % 4 = 0 by omega, show (45 + 4 * k - 45) / 4 = k by omega]
  · rw [if_neg (by omega), if_neg (by omega), show (46 + 4 * k - 45) % 4 = 1 by omega, show (46 + 4 * k - 45) / 4 = k by omega]
  · rw [if_neg (by omega), if_neg (by omega), show (47 + 4 * k - 45) % 4 = 2 by omega, show (47 + 4 * k - 45) / 4 = k by omega]
  · rw [if_neg (by omega), if_neg (by omega), show (48 + 4 * k - 45) % 4 = 3 by omega, show (48 + 4 * k - 45) / 4 = k by omega]
def tch (b o k : Nat) : Prop := (o = 55 ∧ k = 44) ∨ (o = 81 ∧ b ≤ k ∧ k < b + 69) ∨ (∃ j, j < 69 ∧ o = lo j ∧ k = lk j)
def Ps (w : Bool) (b : Nat) (N : Nat → Nat → Nat) (h g : mv_H) (j : Nat) : Prop :=
  g 55 44 = nI (b + j) ∧ g 55 45 = (if w = true then 1 else 0) ∧ (∀ i, i < 69 → (w = true ∨ i < j) → g (lo i) (lk i) = nI (vN N i)) ∧ (∀ i, i < 69 → (w = false ∨ i < j) → g 81 (b + i) = nI (vN N i)) ∧ (∀ o k, ¬ tch b o k → g o k = h o k)
theorem Ps.step {w : Bool} {b : Nat} {N : Nat → Nat → Nat} {h g : mv_H} {j : Nat} (hb : b ≤ 100) (hj : j < 69) (P : Ps w b N h g j) : ∃ g1, fX10_pass_55 (g (lo j) (lk j)) g = some (nI (vN N j), g1) ∧ Ps w b N h (mv_u g1 (lo j) (lk j) (nI (vN N j))) (j + 1) := by
  obtain ⟨P1, P2, P3, P4, P5⟩ := P
  obtain ⟨c1, c2⟩ := pz_in (n := b + j) (M := 200) (by omega) (by decide)
  obtain ⟨a1, -, -, -, a2⟩ := lo_a j hj
  refine ⟨mv_u (mv_u g 81 (b + j) (nI (vN N j))) 55 44 (nI (b + j + 1)), ?_, ?_, ?_, ?_, ?_, ?_⟩
  · have B : fX10_pass_55_b20 (nI (vN N j)) g = some (nI (vN N j), mv_u (mv_u g 81 (b + j) (nI (vN N j))) 55 44 (nI (b + j + 1))) := by
      unfold fX10_pass_55_b20
      rw [P1, if_pos c1, c2]
      simp only [mv_let]
      rw [show mv_u g 81 (b + j) (nI (vN N j)) 55 44 = nI (b + j) from by rw [mv_u_at, if_neg (by omega), P1], nI_1]
    unfold fX10_pass_55
    cases w with
    | true =>
      rw [if_neg (by rw [P2]; decide), P3 j hj (Or.inl rfl), B]
    | false =>
      rw [if_pos (by rw [P2]; decide), P1, if_pos c1, c2, P4 j hj (Or.inl rfl), B]
  · rw [mv_u_at, if_neg (fun z => a2 ⟨z.1.symm, Or.inl z.2.symm⟩), mv_u_at, if_pos ⟨rfl, rfl⟩]; rfl
  · rw [mv_u_at, if_neg (fun z => a2 ⟨z.1.symm, Or.inr (Or.inl z.2.symm)⟩), mv_u_at, if_neg (by omega), mv_u_at, if_neg (by omega), P2]
  · intro i hi q
    obtain ⟨b1, -, -, -, b2⟩ := lo_a i hi
    by_cases e : i = j
    · subst e; rw [mv_u_at, if_pos ⟨rfl, rfl⟩]
    · rw [mv_u_at, if_neg (lo_inj i hi j hj e), mv_u_at, if_neg (fun z => b2 ⟨z.1, Or.inl z.2⟩), mv_u_at, if_neg (fun z => b1 z.1)]
      exact P3 i hi (by rcases q with q | q; · exact Or.inl q
                        · exact Or.inr (by omega))
  · intro i hi q
    rw [mv_u_at, if_neg (fun z => a1 z.1.symm), mv_u_at, if_neg (by omega), mv_u_at]
    by_cases e : i = j
    · subst e; rw [if_pos ⟨rfl, rfl⟩]
    · rw [if_neg (by omega)]
      exact P4 i hi (by rcases q with q | q; · exact Or.inl q
                        · exact Or.inr (by omega))
  · intro o k q
    unfold tch at q
    rw [mv_u_at, if_neg (fun z => q (Or.inr (Or.inr ⟨j, hj, z.1, z.2⟩))), mv_u_at, if_neg (fun z => q (Or.inl z)), mv_u_at, if_neg (fun z => q (Or.inr (Or.inl ⟨z.1, by omega, by omega⟩)))]
    exact P5 o k q
theorem pe_pa156 {w : Bool} {b : Nat} {N : Nat → Nat → Nat} {h : mv_H} (hb : b ≤ 100) : ∀ (n k m : Nat) (g : mv_H), n + k = 6 → n < m → Ps w b N h g (45 + 4 * k) → ∃ g', fX10_passAll_55_b156 m (nI k) g = some g' ∧ Ps w b N h g' 69
  | n, k, 0, g, _, hm, _ => absurd hm (by omega)
  | 0, k, m + 1, g, hn, _, P => by
    obtain rfl : k = 6 := by omega
    exact ⟨g, by rw [fX10_passAll_55_b156, if_neg (by decide)], P⟩
  | n + 1, k, m + 1, g, hn, hm, P => by
    have hk : k < 6 := by omega
    obtain ⟨c1, c2, -⟩ := pz_i6 k hk
    obtain ⟨l1, l2, l3, l4, l5, l6, l7, l8⟩ := lo_3 k hk
    obtain ⟨g1, e1, P1⟩ := P.step hb (by omega)
    rw [l1, l2] at e1 P1
    rw [show 45 + 4 * k + 1 = 46 + 4 * k by omega] at P1
    obtain ⟨g2, e2, P2⟩ := P1.step hb (by omega)
    rw [l3, l4] at e2 P2
    rw [show 46 + 4 * k + 1 = 47 + 4 * k by omega] at P2
    obtain ⟨g3, e3, P3⟩ := P2.step hb (by omega)
    rw [l5, l6] at e3 P3
    rw [show 47 + 4 * k + 1 = 48 + 4 * k by omega] at P3
    obtain ⟨g4, e4, P4⟩ := P3.step hb (by omega)
    rw [l7, l8] at e4 P4
    rw [show 48 + 4 * k + 1 = 45 + 4 * (k + 1) by omega] at P4
    obtain ⟨g', e', P'⟩ := pe_pa156 hb n (k + 1) m _ (by omega) (by omega) P4
    refine ⟨g', ?_, P'⟩
    rw [fX10_passAll_55_b156, if_pos (pz_l6 hk)]
    simp only [if_pos c1, c2, e1, Option.bind_some, mv_let, e2, e3, e4, nI_1]
    exact e'
theorem pe_pa110 {w : Bool} {b : Nat} {N : Nat → Nat → Nat} {h : mv_H} (hb : b ≤ 100) : ∀ (n k m : Nat) (g : mv_H), n + k = 18 → n < m → Ps w b N h g (9 + 2 * k) → ∃ g', fX10_passAll_55_b110 m (nI k) g = some g' ∧ Ps w b N h g' 69
  | n, k, 0, g, _, hm, _ => absurd hm (by omega)
  | 0, k, m + 1, g, hn, _, P => by
    obtain rfl : k = 18 := by omega
    obtain ⟨g', e', P'⟩ := pe_pa156 hb 6 0 mv_F g rfl (by rw [mv_F_eq]; decide) P
    exact ⟨g', by rw [fX10_passAll_55_b110, if_neg (by decide)]; exact e', P'⟩
  | n + 1, k, m + 1, g, hn, hm, P => by
    have hk : k < 18 := by omega
    obtain ⟨c1, c2⟩ := pz_in (n := k) (M := 18) hk (by decide)
    obtain ⟨l1, l2, l3, l4⟩ := lo_1 k hk
    obtain ⟨g1, e1, P1⟩ := P.step hb (by omega)
    rw [l1, l2] at e1 P1
    rw [show 9 + 2 * k + 1 = 10 + 2 * k by omega] at P1
    obtain ⟨g2, e2, P2⟩ := P1.step hb (by omega)
    rw [l3, l4] at e2 P2
    rw [show 10 + 2 * k + 1 = 9 + 2 * (k + 1) by omega] at P2
    obtain ⟨g', e', P'⟩ := pe_pa110 hb n (k + 1) m _ (by omega) (by omega) P2
    refine ⟨g', ?_, P'⟩
    rw [fX10_passAll_55_b110, if_pos (show nI k < 18 from nI_lt (b := 18) hk (by decide))]
    simp only [if_pos c1, c2, e1, Option.bind_some, mv_let, e2, nI_1]
    exact e'
theorem pe_pa {w : Bool} {b : Nat} {N : Nat → Nat → Nat} {h g : mv_H} (hb : b ≤ 100) (P : Ps w b N h g 0) : ∃ g', fX10_passAll_55 g = some g' ∧ Ps w b N h g' 69 := by
  obtain ⟨g1, e1, P1⟩ := P.step hb (by decide)
  obtain ⟨g2, e2, P2⟩ := P1.step hb (by decide)
  obtain ⟨g3, e3, P3⟩ := P2.step hb (by decide)
  obtain ⟨g4, e4, P4⟩ := P3.step hb (by decide)
  obtain ⟨g5, e5, P5⟩ := P4.step hb (by decide)
  obtain ⟨g6, e6, P6⟩ := P5.step hb (by decide)
  obtain ⟨g7, e7, P7⟩ := P6.step hb (by decide)
  obtain ⟨g8, e8, P8⟩ := P7.step hb (by decide)
  obtain ⟨g9, e9, P9⟩ := P8.step hb (by decide)
  obtain ⟨g', e', P'⟩ := pe_pa110 hb 18 0 mv_F _ rfl (by rw [mv_F_eq]; decide) P9
  refine ⟨g', ?_, P'⟩
  simp only [show lo 0 = 55 from rfl, show lk 0 = 0 from rfl] at e1 e2
  simp only [show lo (0 + 1) = 55 from rfl, show lk (0 + 1) = 1 from rfl] at e2 e3
  simp only [show lo (0 + 1 + 1) = 55 from rfl, show lk (0 + 1 + 1) = 2 from rfl] at e3 e4
  simp only [show lo (0 + 1 + 1 + 1) = 55 from rfl, show lk (0 + 1 + 1 + 1) = 7 from rfl] at e4 e5
  simp only [show lo (0 + 1 + 1 + 1 + 1) = 55 from rfl, show lk (0 + 1 + 1 + 1 + 1) = 8 from rfl] at e5 e6
  simp only [show lo (0 + 1 + 1 + 1 + 1 + 1) = 55 from rfl, show lk (0 + 1 + 1 + 1 + 1 + 1) = 9 from rfl] at e6 e7
  simp only [show lo (0 + 1 + 1 + 1 + 1 + 1 + 1) = 55 from rfl, show lk (0 + 1 + 1 + 1 + 1 + 1 + 1) = 10 from rfl] at e7 e8
  simp only [show lo (0 + 1 + 1 + 1 + 1 + 1 + 1 + 1) = 55 from rfl, show lk (0 + 1 + 1 + 1 + 1 + 1 + 1 + 1) = 12 from rfl] at e8 e9
  simp only [show lo (0 + 1 + 1 + 1 + 1 + 1 + 1 + 1 + 1) = 55 from rfl, show lk (0 + 1 + 1 + 1 + 1 + 1 + 1 + 1 + 1) = 14 from rfl] at e9 e'
  unfold fX10_passAll_55
  rw [e1, Option.bind_some]
  simp only [mv_let]
  rw [e2, Option.bind_some, e3, Option.bind_some, e4, Option.bind_some, e5, Option.bind_some, e6, Option.bind_some, e7, Option.bind_some, e8, Option.bind_some, e9, Option.bind_some]
  exact e'
theorem Ps.rdM {w : Bool} {b : Nat} {N : Nat → Nat → Nat} {h g : mv_H} (P : Ps w b N h g 69) : rdM g N := by
  obtain ⟨-, -, P3, -, -⟩ := P
  refine vld_0 (fun j hj => ?_) (fun j hj => ?_) (fun j hj => ?_) (fun j hj => ?_) (fun j hj => ?_) (fun j hj => ?_) (fun j hj => ?_)
  · have := P3 j (by omega) (Or.inr (by omega))
    rcases (show j = 0 ∨ j = 1 ∨ j = 2 ∨ j = 3 ∨ j = 4 ∨ j = 5 ∨ j = 6 ∨ j = 7 ∨ j = 8 by omega) with rfl | rfl | rfl | rfl | rfl | rfl | rfl | rfl | rfl <;> exact this
  · have := P3 (9 + 2 * j) (by omega) (Or.inr (by omega))
    rw [(lo_1 j hj).1, (lo_1 j hj).2.1, (vN_1 hj).1] at this
    exact this
  · have := P3 (10 + 2 * j) (by omega) (Or.inr (by omega))
    rw [(lo_1 j hj).2.2.1, (lo_1 j hj).2.2.2, (vN_1 hj).2] at this
    exact this
  · have := P3 (45 + 4 * j) (by omega) (Or.inr (by omega))
    rw [(lo_3 j hj).1, (lo_3 j hj).2.1, (vN_3 hj).1] at this
    exact this
  · have := P3 (46 + 4 * j) (by omega) (Or.inr (by omega))
    rw [(lo_3 j hj).2.2.1, (lo_3 j hj).2.2.2.1, (vN_3 hj).2.1] at this
    exact this
  · have := P3 (47 + 4 * j) (by omega) (Or.inr (by omega))
    rw [(lo_3 j hj).2.2.2.2.1, (lo_3 j hj).2.2.2.2.2.1, (vN_3 hj).2.2.1] at this
    exact this
  · have := P3 (48 + 4 * j) (by omega) (Or.inr (by omega))
    rw [(lo_3 j hj).2.2.2.2.2.2.1, (lo_3 j hj).2.2.2.2.2.2.2, (vN_3 hj).2.2.2] at this
    exact this
theorem rdK_v {n : Nat} {N : Nat → Nat → Nat} {g : mv_H} (P : ∀ i, i < 69 → g 81 (100 * n + i) = nI (vN N i)) : rdK g n N := by
  refine vld_0 (fun j hj => ?_) (fun j hj => ?_) (fun j hj => ?_) (fun j hj => ?_) (fun j hj => ?_) (fun j hj => ?_) (fun j hj => ?_)
  · have := P j (by omega)
    simp only [kw, if_true]
    rw [this]
    unfold vN
    rw [if_pos hj]
  · have := P (9 + 2 * j) (by omega)
    rw [(vN_1 hj).1] at this
    exact this
  · have := P (10 + 2 * j) (by omega)
    rw [(vN_1 hj).2] at this
    exact this
  · have := P (45 + 4 * j) (by omega)
    rw [(vN_3 hj).1] at this
    exact this
  · have := P (46 + 4 * j) (by omega)
    rw [(vN_3 hj).2.1] at this
    exact this
  · have := P (47 + 4 * j) (by omega)
    rw [(vN_3 hj).2.2.1] at this
    exact this
  · have := P (48 + 4 * j) (by omega)
    rw [(vN_3 hj).2.2.2] at this
    exact this
theorem idx69 {i : Nat} (hi : i < 69) : i < 9 ∨ (∃ k, k < 18 ∧ (i = 9 + 2 * k ∨ i = 10 + 2 * k)) ∨ (∃ k, k < 6 ∧ (i = 45 + 4 * k ∨ i = 46 + 4 * k ∨ i = 47 + 4 * k ∨ i = 48 + 4 * k)) := by
  by_cases h1 : i < 9
  · exact Or.inl h1
  · by_cases h2 : i < 45
    · exact Or.inr (Or.inl ⟨(i - 9) / 2, by omega, by omega⟩)
    · exact Or.inr (Or.inr ⟨(i - 45) / 4, by omega, by omega⟩)
theorem rdK_i {n : Nat} {N : Nat → Nat → Nat} {g : mv_H} (r : rdK g n N) : ∀ i, i < 69 → g 81 (100 * n + i) = nI (vN N i) := by
  intro i hi
  rcases idx69 hi with h1 | ⟨k, hk, rfl | rfl⟩ | ⟨k, hk, rfl | rfl | rfl | rfl⟩
  · have := r 0 i (by unfold vld; omega)
    simp only [kw, if_true] at this
    rw [this]; unfold vN; rw [if_pos h1]
  · rw [(vN_1 hk).1]; exact r 1 k (by unfold vld; omega)
  · rw [(vN_1 hk).2]; exact r 2 k (by unfold vld; omega)
  · rw [(vN_3 hk).1]; exact r 3 k (by unfold vld; omega)
  · rw [(vN_3 hk).2.1]; exact r 4 k (by unfold vld; omega)
  · rw [(vN_3 hk).2.2.1]; exact r 5 k (by unfold vld; omega)
  · rw [(vN_3 hk).2.2.2]; exact r 6 k (by unfold vld; omega)
theorem rdM_i {N : Nat → Nat → Nat} {g : mv_H} (r : rdM g N) : ∀ i, i < 69 → g (lo i) (lk i) = nI (vN N i) := by
  intro i hi
  rcases idx69 hi with h1 | ⟨k, hk, rfl | rfl⟩ | ⟨k, hk, rfl | rfl | rfl | rfl⟩
  · have := r 0 i (by unfold vld; omega)
    rcases (show i = 0 ∨ i = 1 ∨ i = 2 ∨ i = 3 ∨ i = 4 ∨ i = 5 ∨ i = 6 ∨ i = 7 ∨ i = 8 by omega) with rfl | rfl | rfl | rfl | rfl | rfl | rfl | rfl | rfl <;> exact this
  · rw [(vN_1 hk).1, (lo_1 k hk).1, (lo_1 k hk).2.1]; exact r 1 k (by unfold vld; omega)
  · rw [(vN_1 hk).2, (lo_1 k hk).2.2.1, (lo_1 k hk).2.2.2]; exact r 2 k (by unfold vld; omega)
  · rw [(vN_3 hk).1, (lo_3 k hk).1, (lo_3 k hk).2.1]; exact r 3 k (by unfold vld; omega)
  · rw [(vN_3 hk).2.1, (lo_3 k hk).2.2.1, (lo_3 k hk).2.2.2.1]; exact r 4 k (by unfold vld; omega)
  · rw [(vN_3 hk).2.2.1, (lo_3 k hk).2.2.2.2.1, (lo_3 k hk).2.2.2.2.2.1]; exact r 5 k (by unfold vld; omega)
  · rw [(vN_3 hk).2.2.2, (lo_3 k hk).2.2.2.2.2.2.1, (lo_3 k hk).2.2.2.2.2.2.2]; exact r 6 k (by unfold vld; omega)
theorem rdG_cong {h h' : mv_H} {g : Nat} {N : Nat → Nat → Nat} (key : ∀ o k, g ≤ o → o ≤ g + 10 → h' o k = h o k) (r : rdG h g N) : rdG h' g N := by
  intro a i hv
  rw [← r a i hv]
  simp only [pv_gv]
  rw [key (g + 1) 2 (by omega) (by omega), key (g + 3) 2 (by omega) (by omega), key (g + 5) 2 (by omega) (by omega), key (g + 7) 2 (by omega) (by omega), key (g + 9) 2 (by omega) (by omega), key g (i + 2) (by omega) (by omega), key (g + 2) i (by omega) (by omega), key (g + 4) i (by omega) (by omega), key (g + 6) (3 * i) (by omega) (by omega), key (g + 6) (3 * i + 1) (by omega) (by omega), key (g + 8) i (by omega) (by omega), key (g + 10) i (by omega) (by omega)]
theorem rdK_cong {h h' : mv_H} {n : Nat} {N : Nat → Nat → Nat} (key : ∀ i, i < 69 → h' 81 (100 * n + i) = h 81 (100 * n + i)) (r : rdK h n N) : rdK h' n N := rdK_v (fun i hi => by rw [key i hi]; exact rdK_i r i hi)
theorem rdM_cong {h h' : mv_H} {N : Nat → Nat → Nat} (key : ∀ o k, 55 ≤ o → o ≤ 61 → ¬ (o = 55 ∧ (k = 44 ∨ k = 45)) → h' o k = h o k) (r : rdM h N) : rdM h' N := by
  refine vld_0 (fun j hj => ?_) (fun j hj => ?_) (fun j hj => ?_) (fun j hj => ?_) (fun j hj => ?_) (fun j hj => ?_) (fun j hj => ?_)
  · rw [← r 0 j (by unfold vld; omega)]
    rcases (show j = 0 ∨ j = 1 ∨ j = 2 ∨ j = 3 ∨ j = 4 ∨ j = 5 ∨ j = 6 ∨ j = 7 ∨ j = 8 by omega) with rfl | rfl | rfl | rfl | rfl | rfl | rfl | rfl | rfl <;> exact key _ _ (by decide) (by decide) (by decide)
  · exact (key 56 j (by decide) (by decide) (by omega)).trans (r 1 j (by unfold vld; omega))
  · exact (key 57 j (by decide) (by decide) (by omega)).trans (r 2 j (by unfold vld; omega))
  · exact (key 58 j (by decide) (by decide) (by omega)).trans (r 3 j (by unfold vld; omega))
  · exact (key 59 j (by decide) (by decide) (by omega)).trans (r 4 j (by unfold vld; omega))
  · exact (key 60 j (by decide) (by decide) (by omega)).trans (r 5 j (by unfold vld; omega))
  · exact (key 61 j (by decide) (by decide) (by omega)).trans (r 6 j (by unfold vld; omega))
theorem nt_o {b o k : Nat} (h : o < 55 ∨ (61 < o ∧ o ≠ 81) ∨ (o = 55 ∧ (k = 16 ∨ k = 45))) : ¬ tch b o k := by
  rintro (⟨h1, h2⟩ | ⟨h1, h2⟩ | ⟨j, hj, h1, h2⟩)
  · omega
  · omega
  · have := lo_a j hj
    omega
