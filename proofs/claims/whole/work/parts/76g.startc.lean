/-! cuts: the class's start -/
def szB (N : Nat → Nat → Nat) (b : Nat) : Sz := (sR (N 1 (3 * b)) (N 1 (3 * b + 1)) (N 1 (3 * b + 2)) (N 0 3) (sLeast (N 1 (3 * b)) (N 1 (3 * b + 1)) (N 1 (3 * b + 2)) (N 0 3) (N 0 4)), sL (N 1 (3 * b)) (N 1 (3 * b + 1)) (N 1 (3 * b + 2)) (N 0 4) (sLeast (N 1 (3 * b)) (N 1 (3 * b + 1)) (N 1 (3 * b + 2)) (N 0 3) (N 0 4)))
theorem szB_le {N : Nat → Nat → Nat} (hN : okN N) {b : Nat} (hb : b < 6) : (szB N b).1 ≤ 89 ∧ (szB N b).2 ≤ 58 := by
  obtain ⟨a, c, -⟩ := sP_lt (x := sLeast (N 1 (3 * b)) (N 1 (3 * b + 1)) (N 1 (3 * b + 2)) (N 0 3) (N 0 4)) (hN.b hb) hN.2.1.1 hN.2.1.2.1
  exact ⟨a, c⟩
theorem pe_sc12 : ∀ (n k fuel : Nat) (h : mv_H), n + k = 64 → n < fuel → (∀ T, T < k → h 44 T = -1 ∧ h 45 T = -1) → ∃ h', fX0_start_41_b12 fuel (nI k) h = some h' ∧ (∀ T, T < 64 → h' 44 T = -1 ∧ h' 45 T = -1) ∧ Cx h h'
  | n, k, 0, h, _, hf, _ => absurd hf (by omega)
  | 0, k, fuel + 1, h, hn, _, hk => by
    refine ⟨h, ?_, fun T hT => hk T (by omega), Cx.rf h⟩
    rw [show k = 64 by omega, fX0_start_41_b12, if_neg (by decide)]
  | n + 1, k, fuel + 1, h, hn, hf, hk => by
    obtain ⟨i1, i2⟩ := pz_in (n := k) (M := 64) (by omega) (by decide)
    obtain ⟨h', e', t', x'⟩ := pe_sc12 n (k + 1) fuel (mv_u (mv_u h 44 k (-1)) 45 k (-1)) (by omega) (by omega) (fun T hT => by
      by_cases z : T = k
      · subst z
        refine ⟨?_, ?_⟩
        · rw [mv_u_at, if_neg (by omega), mv_u_at, if_pos ⟨rfl, rfl⟩]
        · rw [mv_u_at, if_pos ⟨rfl, rfl⟩]
      · have := hk T (by omega)
        refine ⟨?_, ?_⟩
        · rw [mv_u_at, if_neg (by omega), mv_u_at, if_neg (by omega)]; exact this.1
        · rw [mv_u_at, if_neg (by omega), mv_u_at, if_neg (by omega)]; exact this.2)
    refine ⟨h', ?_, t', fun o j q1 q2 => by rw [x' o j q1 q2, mv_u_at, if_neg (fun z => q2 z.1), mv_u_at, if_neg (fun z => q1 z.1)]⟩
    rw [fX0_start_41_b12, if_pos (show nI k < 64 from nI_lt (b := 64) (by omega) (by decide)), if_pos i1]
    simp only [mv_let, i2, if_pos i1, nI_1]; exact e'
theorem pe_sc33 {N : Nat → Nat → Nat} {B : Nat} (hB : B < 64) (hN : okN N) : ∀ (n k fuel : Nat) (h : mv_H), n + k = 6 → n < fuel → rdG h 1 N → (∀ b, b < k → B.testBit b = true → h 42 b = nI (szB N b).1 ∧ h 43 b = nI (szB N b).2) → ∃ h', fX9_startCuts_0_b33 fuel (nI B) (nI k) h = some h' ∧ (∀ b, b < 6 → B.testBit b = true → h' 42 b = nI (szB N b).1 ∧ h' 43 b = nI (szB N b).2) ∧ (∀ o j, o ≠ 38 → o ≠ 42 → o ≠ 43 → h' o j = h o j)
  | n, k, 0, h, _, hf, _, _ => absurd hf (by omega)
  | 0, k, fuel + 1, h, hn, _, _, hk => by
    refine ⟨h, ?_, fun b hb => hk b (by omega), fun _ _ _ _ _ => rfl⟩
    rw [show k = 6 by omega, fX9_startCuts_0_b33, if_neg (by decide)]
  | n + 1, k, fuel + 1, h, hn, hf, hG, hk => by
    have h6 : k < 6 := by omega
    obtain ⟨k1, k2, k3⟩ := pz_i6 k h6
    rw [fX9_startCuts_0_b33, if_pos (pz_l6 h6), pz_isIn hB h6, Option.bind_some]
    simp only [pz_i0, fX9_startCuts_0_b83, nI_1]
    by_cases q : B.testBit k = true
    · obtain ⟨g, eg⟩ : ∃ g, g = wr h (nI (N 1 (3 * k))) (nI (N 1 (3 * k + 1))) (nI (N 1 (3 * k + 2))) (nI (N 0 3)) (nI (N 0 4)) := ⟨_, rfl⟩
      have w : WrapIs g (N 1 (3 * k)) (N 1 (3 * k + 1)) (N 1 (3 * k + 2)) (N 0 3) (N 0 4) := eg ▸ wr_is
      have ug : ∀ o j, o ≠ 38 → g o j = h o j := fun o j ho => by rw [eg]; exact wr_at ho
      have sl := sLeast_lt (N 1 (3 * k)) (N 1 (3 * k + 1)) (N 1 (3 * k + 2)) (N 0 3) (N 0 4)
      obtain ⟨g2, eg2⟩ : ∃ g2, g2 = mv_u (mv_u g 42 k (nI (szB N k).1)) 43 k (nI (szB N k).2) := ⟨_, rfl⟩
      have wa : fX0_want_41 (nI k) (nI (szB N k).1) (nI (szB N k).2) g = some g2 := by
        unfold fX0_want_41
        rw [pe_isNumber, Option.bind_some, if_neg (by rw [pz_i0, k3]; omega), if_pos k1]
        simp only [mv_let, k2, if_pos k1]
        rw [eg2]
      have s2 : Same h g2 := fun o j z => by
        rw [eg2, mv_u_at, if_neg (by unfold scr at z; omega), mv_u_at, if_neg (by unfold scr at z; omega)]
        exact ug o j (by unfold scr at z; omega)
      obtain ⟨h', e', t', x'⟩ := pe_sc33 hB hN n (k + 1) fuel g2 (by omega) (by omega) (s2.rdG (Or.inl rfl) hG) (fun b hb hbt => by
        by_cases z : b = k
        · subst z
          refine ⟨?_, ?_⟩
          · rw [eg2, mv_u_at, if_neg (by omega), mv_u_at, if_pos ⟨rfl, rfl⟩]
          · rw [eg2, mv_u_at, if_pos ⟨rfl, rfl⟩]
        · have := hk b (by omega) hbt
          refine ⟨?_, ?_⟩
          · rw [eg2, mv_u_at, if_neg (by omega), mv_u_at, if_neg (by omega), ug 42 b (by decide)]; exact this.1
          · rw [eg2, mv_u_at, if_neg (by omega), mv_u_at, if_neg (by omega), ug 43 b (by decide)]; exact this.2)
      refine ⟨h', ?_, t', fun o j q1 q2 q3 => by rw [x' o j q1 q2 q3, eg2, mv_u_at, if_neg (fun z => q3 z.1), mv_u_at, if_neg (fun z => q2 z.1), ug o j q1]⟩
      rw [if_neg (fun z => z q), pe_wrapOf h6 hG, ← eg, Option.bind_some, pe_leastAxis w (hN.b h6) hN.2.1.1 hN.2.1.2.1, Option.bind_some, pe_round w sl, Option.bind_some, pe_reach w sl (hN.b h6), Option.bind_some]
      show (fX0_want_41 (nI k) (nI (szB N k).1) (nI (szB N k).2) g).bind _ = _
      rw [wa, Option.bind_some]; exact e'
    · obtain ⟨h', e', t', x'⟩ := pe_sc33 hB hN n (k + 1) fuel h (by omega) (by omega) hG (fun b hb hbt => hk b (by
        by_cases z : b = k
        · rw [z] at hbt; exact absurd hbt q
        · omega) hbt)
      refine ⟨h', ?_, t', x'⟩
      rw [if_pos q]; exact e'
theorem pe_startC {h : mv_H} {N : Nat → Nat → Nat} {B s : Nat} (hG : rdG h 1 N) (hN : okN N) (hB : B < 64) (hs : s < 6) : ∃ h', fX9_startCuts_0 (nI B) (nI s) h = some h' ∧ CI h' (szB N) B (N 3 s) (N 4 s) ∧ Same h h' := by
  obtain ⟨g0, eg0⟩ : ∃ g0, g0 = mv_u (mv_u h 41 4 (nI (N 3 s))) 41 5 (nI (N 4 s)) := ⟨_, rfl⟩
  obtain ⟨g1, e1, t1, x1⟩ := pe_sc12 64 0 mv_F g0 rfl (by rw [mv_F_eq]; decide) (fun T hT => absurd hT (by omega))
  have s1 : Same h g1 := fun o k z => by
    rw [x1 o k (by unfold scr at z; omega) (by unfold scr at z; omega), eg0, mv_u_at, if_neg (by unfold scr at z; omega), mv_u_at, if_neg (by unfold scr at z; omega)]
  obtain ⟨g2, e2, t2, x2⟩ := pe_sc33 hB hN 6 0 mv_F g1 rfl (by rw [mv_F_eq]; decide) (s1.rdG (Or.inl rfl) hG) (fun b hb => absurd hb (by omega))
  have s2 : Same g1 g2 := fun o k z => x2 o k (by unfold scr at z; omega) (by unfold scr at z; omega) (by unfold scr at z; omega)
  refine ⟨g2, ?_, ⟨⟨?_, ?_⟩, fun b hb hbt => ?_, fun T hT _ => ?_⟩, s1.tr s2⟩
  · unfold fX9_startCuts_0
    rw [(pe_s0 hG hs).1, Option.bind_some, (pe_s0 hG hs).2, Option.bind_some]
    unfold fX0_start_41
    simp only [mv_let]
    rw [← eg0, ← pz_lit.1, e1, Option.bind_some]; exact e2
  · rw [x2 41 4 (by decide) (by decide) (by decide), x1 41 4 (by decide) (by decide), eg0, mv_u_at, if_neg (by omega), mv_u_at, if_pos ⟨rfl, rfl⟩]
  · rw [x2 41 5 (by decide) (by decide) (by decide), x1 41 5 (by decide) (by decide), eg0, mv_u_at, if_pos ⟨rfl, rfl⟩]
  · obtain ⟨a, c⟩ := t2 b hb hbt
    have := szB_le hN hb
    exact ⟨a, c, by omega, by omega⟩
  · refine ⟨Or.inl ?_, Or.inl ?_⟩
    · rw [x2 45 T (by decide) (by decide) (by decide)]; exact (t1 T hT).2
    · rw [x2 44 T (by decide) (by decide) (by decide)]; exact (t1 T hT).1
