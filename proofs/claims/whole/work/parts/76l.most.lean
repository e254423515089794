/-! most -/
def mP (N : Nat → Nat → Nat) (W H k : Nat) : Prop := k &&& N 0 0 = k ∧ pc k ≤ 4 ∧ el ((mems k).map (szB N)) W H
def mRes (N : Nat → Nat → Nat) (W H b r : Nat) : Prop := (r = 0 ∧ ∀ k, 1 ≤ k → k < b → ¬ mP N W H k) ∨ (1 ≤ r ∧ r < b ∧ mP N W H r ∧ ∀ k, 1 ≤ k → k < b → mP N W H k → (pc k < pc r ∨ (pc k = pc r ∧ r ≤ k)))
theorem mRes_u {N : Nat → Nat → Nat} {W H b r r' : Nat} (h : mRes N W H b r) (h' : mRes N W H b r') : r = r' := by
  rcases h with ⟨a, b1⟩ | ⟨a, b1, c, d⟩
  · rcases h' with ⟨a', -⟩ | ⟨a', b2, c', -⟩
    · omega
    · exact absurd c' (b1 r' a' b2)
  · rcases h' with ⟨-, b2⟩ | ⟨a', b2, c', d'⟩
    · exact absurd c (b2 r a b1)
    · have h1 := d r' a' b2 c'
      have h2 := d' r a b1 c
      omega
theorem pe_g8 {N : Nat → Nat → Nat} {W H sz : Nat} (hN : N 0 0 < 64) (hW : W ≤ 150) (hH : H ≤ 150) (h4 : sz ≤ 4) (K : Int32 → Int32 → mv_H → Option (Int32 × mv_H)) : ∀ (n k fuel : Nat) (h : mv_H), n + k = 64 → n < fuel → CI h (szB N) (N 0 0) W H → (∃ r h', fX0_greatestOf_41_b8 K fuel (nI (N 0 0)) (nI sz) (nI k) h = some (nI r, h') ∧ CI h' (szB N) (N 0 0) W H ∧ Cx h h' ∧ k ≤ r ∧ r < 64 ∧ mP N W H r ∧ pc r = sz ∧ ∀ j, k ≤ j → j < r → mP N W H j → pc j ≠ sz) ∨ (∃ h', fX0_greatestOf_41_b8 K fuel (nI (N 0 0)) (nI sz) (nI k) h = K (nI (N 0 0)) (nI sz + (-1)) h' ∧ CI h' (szB N) (N 0 0) W H ∧ Cx h h' ∧ ∀ j, k ≤ j → j < 64 → mP N W H j → pc j ≠ sz)
  | n, k, 0, h, _, hf, _ => absurd hf (by omega)
  | 0, k, fuel + 1, h, hn, _, C => by
    right
    refine ⟨h, ?_, C, Cx.rf h, fun j h1 h2 => absurd h2 (by omega)⟩
    rw [show k = 64 by omega, fX0_greatestOf_41_b8, if_neg (by decide)]
  | n + 1, k, fuel + 1, h, hn, hf, C => by
    have hk : k < 64 := by omega
    have hp := pc_le k
    rw [fX0_greatestOf_41_b8, if_pos (show nI k < 64 from nI_lt (b := 64) hk (by decide)), pe_bitCount k hk]
    simp only [pz_subA k hk _ hN, Option.bind_some, fX0_greatestOf_41_b40, nI_1, show (nI (pc k) = nI sz) = (pc k = sz) from pz_e (by omega) (by omega)]
    have next : ∀ g, CI g (szB N) (N 0 0) W H → Cx h g → (mP N W H k → pc k ≠ sz) → (∃ r h', fX0_greatestOf_41_b8 K fuel (nI (N 0 0)) (nI sz) (nI (k + 1)) g = some (nI r, h') ∧ CI h' (szB N) (N 0 0) W H ∧ Cx h h' ∧ k ≤ r ∧ r < 64 ∧ mP N W H r ∧ pc r = sz ∧ ∀ j, k ≤ j → j < r → mP N W H j → pc j ≠ sz) ∨ (∃ h', fX0_greatestOf_41_b8 K fuel (nI (N 0 0)) (nI sz) (nI (k + 1)) g = K (nI (N 0 0)) (nI sz + (-1)) h' ∧ CI h' (szB N) (N 0 0) W H ∧ Cx h h' ∧ ∀ j, k ≤ j → j < 64 → mP N W H j → pc j ≠ sz) := by
      intro g Cg xg nk
      rcases pe_g8 hN hW hH h4 K n (k + 1) fuel g (by omega) (by omega) Cg with ⟨r, h', a1, a2, a3, a4, a5, a6, a7, a8⟩ | ⟨h', a1, a2, a3, a4⟩
      · left
        refine ⟨r, h', a1, a2, xg.tr a3, by omega, a5, a6, a7, fun j h1 h2 => ?_⟩
        by_cases z : j = k
        · rw [z]; exact nk
        · exact a8 j (by omega) h2
      · right
        refine ⟨h', a1, a2, xg.tr a3, fun j h1 h2 => ?_⟩
        by_cases z : j = k
        · rw [z]; exact nk
        · exact a4 j (by omega) h2
    by_cases q : k &&& N 0 0 = k
    · rw [if_pos q]
      by_cases q2 : pc k = sz
      · rw [if_pos q2]
        obtain ⟨z, g, e1, C1, x1, i1⟩ := pe_gives C hW hH hk hN q (by omega)
        rw [e1, Option.bind_some]
        cases z with
        | true =>
          left
          refine ⟨k, g, ?_, C1, x1, Nat.le_refl _, hk, ⟨q, by omega, i1.mp rfl⟩, q2, fun j h1 h2 => absurd h2 (by omega)⟩
          rw [if_pos rfl, if_neg (show ¬ ((1 : Int32) = 0) by decide)]
        | false =>
          simp only [Bool.false_eq_true, if_false, if_true]
          exact next g C1 x1 (fun m => by have := i1.mpr m.2.2; cases this)
      · rw [if_neg q2]
        exact next h C (Cx.rf h) (fun _ => q2)
    · rw [if_neg q]
      exact next h C (Cx.rf h) (fun m => absurd m.1 q)
theorem pe_g2 {N : Nat → Nat → Nat} {W H : Nat} (hN : N 0 0 < 64) (hW : W ≤ 150) (hH : H ≤ 150) : ∀ (sz fuel : Nat) (h : mv_H), sz ≤ 4 → sz < fuel → CI h (szB N) (N 0 0) W H → (∀ j, 1 ≤ j → j < 64 → mP N W H j → pc j ≤ sz) → ∃ r h', fX0_greatestOf_41_b2 fuel (nI (N 0 0)) (nI sz) h = some (nI r, h') ∧ CI h' (szB N) (N 0 0) W H ∧ Cx h h' ∧ r < 64 ∧ mRes N W H 64 r
  | sz, 0, h, _, hf, _, _ => absurd hf (by omega)
  | 0, fuel + 1, h, _, _, C, hj => by
    refine ⟨0, h, ?_, C, Cx.rf h, by decide, Or.inl ⟨rfl, fun k h1 h2 m => ?_⟩⟩
    · rw [fX0_greatestOf_41_b2, if_neg (by decide)]; rfl
    · have := hj k h1 h2 m
      have := (show ∀ S, S < 64 → pc S = 0 → S = 0 by decide +kernel) k h2 (by omega)
      omega
  | sz + 1, fuel + 1, h, h4, hf, C, hj => by
    rw [fX0_greatestOf_41_b2, if_pos (show (0 : Int32) < nI (sz + 1) from nI_lt (a := 0) (by omega) (by omega)), ← pz_lit.2.1]
    rcases pe_g8 hN hW hH h4 (fX0_greatestOf_41_b2 fuel) 63 1 mv_F h rfl (by rw [mv_F_eq]; decide) C with ⟨r, h', a1, a2, a3, a4, a5, a6, a7, a8⟩ | ⟨h', a1, a2, a3, a4⟩
    · refine ⟨r, h', a1, a2, a3, a5, Or.inr ⟨a4, a5, a6, fun k k1 k2 m => ?_⟩⟩
      have p1 := hj k k1 k2 m
      by_cases z : pc k = sz + 1
      · right
        refine ⟨by omega, ?_⟩
        by_cases y : r ≤ k
        · exact y
        · exact absurd z (a8 k k1 (by omega) m)
      · left; omega
    · obtain ⟨r, h2, b1, b2, b3, b4⟩ := pe_g2 hN hW hH sz fuel h' (by omega) (by omega) a2 (fun j j1 j2 m => by
        have := hj j j1 j2 m
        have := a4 j j1 j2 m
        omega)
      refine ⟨r, h2, ?_, b2, a3.tr b3, b4⟩
      rw [a1, pk_m1]; exact b1
theorem pe_mpp {N : Nat → Nat → Nat} {t : Nat} (ht : t < 64) (hN : okN N) : ∀ (n k fuel acc : Nat) (h : mv_H), n + k = 6 → n < fuel → rdM h N → ∃ h', fX10_paperOf_55_b4 fuel (nI t) (nI acc) (nI k) h = some (nI (acc + arl ((ml t n k).map (szB N))), h') ∧ Same h h'
  | n, k, 0, acc, h, _, hf, _ => absurd hf (by omega)
  | 0, k, fuel + 1, acc, h, hn, _, _ => by
    refine ⟨h, ?_, Same.rf h⟩
    rw [show k = 6 by omega, fX10_paperOf_55_b4, if_neg (by decide)]; rfl
  | n + 1, k, fuel + 1, acc, h, hn, hf, hM => by
    have hk : k < 6 := by omega
    rw [fX10_paperOf_55_b4, if_pos (pz_l6 hk), ml_s]
    simp only [pz_bit t ht k hk, fX10_paperOf_55_b35, nI_1, mv_let]
    by_cases q : t.testBit k = true
    · obtain ⟨g, e1, w, s1⟩ := pe_look hk hM hN
      have sl := sLeast_lt (N 1 (3 * k)) (N 1 (3 * k + 1)) (N 1 (3 * k + 2)) (N 0 3) (N 0 4)
      obtain ⟨h', e', s'⟩ := pe_mpp ht hN n (k + 1) fuel (acc + (szB N k).1 * (szB N k).2) g (by omega) (by omega) (s1.rdM hM)
      refine ⟨h', ?_, s1.tr s'⟩
      rw [if_pos q, if_pos q, e1, Option.bind_some, pe_mleastAxis w (hN.b hk) hN.2.1.1 hN.2.1.2.1, Option.bind_some, pe_mpaper w sl, Option.bind_some, nI_add]
      show fX10_paperOf_55_b4 fuel (nI t) (nI (acc + (szB N k).1 * (szB N k).2)) (nI (k + 1)) g = some (nI (acc + ((szB N k).1 * (szB N k).2 + arl ((ml t n (k + 1)).map (szB N)))), h')
      rw [e', Nat.add_assoc]
    · rw [if_neg q, if_neg q]
      exact pe_mpp ht hN n (k + 1) fuel acc h (by omega) (by omega) hM
def mAns (N : Nat → Nat → Nat) (s r : Nat) (z : Int32) : Int32 := if z = 0 then nI (pc r) else if z = 1 then nI r else nI (N 3 s * N 4 s) - nI (arl ((mems r).map (szB N)))
theorem pe_m30 {N : Nat → Nat → Nat} {s : Nat} {z : Int32} (hN : okN N) (hs : s < 6) : ∀ (n k fuel r : Nat) (h : mv_H), n + k = 64 → 1 ≤ k → n < fuel → rdM h N → mRes N (N 3 s) (N 4 s) k r → r < 64 → ∃ r' h', fX10_most_55_b30 fuel (nI s) z (nI r) (nI k) h = some (mAns N s r' z, h') ∧ Same h h' ∧ mRes N (N 3 s) (N 4 s) 64 r'
  | n, k, 0, r, h, _, _, hf, _, _, _ => absurd hf (by omega)
  | 0, k, fuel + 1, r, h, hn, _, _, hM, R, hr => by
    obtain rfl : k = 64 := by omega
    obtain ⟨h', e', s'⟩ := pe_mpp hr hN 6 0 mv_F 0 h rfl (by rw [mv_F_eq]; decide) hM
    rw [Nat.zero_add] at e'
    rw [fX10_most_55_b30, if_neg (by decide)]
    unfold mAns
    by_cases q0 : z = 0
    · refine ⟨r, h, ?_, Same.rf h, R⟩
      rw [if_pos q0, if_pos q0, pe_ones r hr]; rfl
    · by_cases q1 : z = 1
      · refine ⟨r, h, ?_, Same.rf h, R⟩
        rw [if_neg q0, if_neg q0, if_pos q1, if_pos q1]
      · refine ⟨r, h', ?_, s', R⟩
        rw [if_neg q0, if_neg q0, if_neg q1, if_neg q1, pe_marea hM hs, Option.bind_some]
        unfold fX10_paperOf_55
        rw [pz_lit.1] at e'
        rw [e']; rfl
  | n + 1, k, fuel + 1, r, h, hn, hk1, hf, hM, R, hr => by
    have hk : k < 64 := by omega
    have pk := pc_le k
    have pr := pc_le r
    have skip : ∀ g, Same h g → ¬ (mP N (N 3 s) (N 4 s) k ∧ pc r < pc k) → ∃ r' h', fX10_most_55_b30 fuel (nI s) z (nI r) (nI (k + 1)) g = some (mAns N s r' z, h') ∧ Same h h' ∧ mRes N (N 3 s) (N 4 s) 64 r' := by
      intro g sg nk
      have R' : mRes N (N 3 s) (N 4 s) (k + 1) r := by
        rcases R with ⟨a, b⟩ | ⟨a, b, c, d⟩
        · left
          refine ⟨a, fun j j1 j2 m => ?_⟩
          by_cases y : j = k
          · subst y
            have : pc j ≠ 0 := fun w => by
              have := (show ∀ S, S < 64 → pc S = 0 → S = 0 by decide +kernel) j hk w
              omega
            have h0 : pc 0 = 0 := by decide
            have hr0 : pc r = 0 := by rw [a]; exact h0
            exact nk ⟨m, by omega⟩
          · exact b j j1 (by omega) m
        · right
          refine ⟨a, by omega, c, fun j j1 j2 m => ?_⟩
          by_cases y : j = k
          · subst y
            by_cases w : pc r < pc j
            · exact absurd ⟨m, w⟩ nk
            · omega
          · exact d j j1 (by omega) m
      obtain ⟨r', h', a, b, c⟩ := pe_m30 (z := z) hN hs n (k + 1) fuel r g (by omega) (by omega) (by omega) (sg.rdM hM) R' hr
      exact ⟨r', h', a, sg.tr b, c⟩
    rw [fX10_most_55_b30, if_pos (show nI k < 64 from nI_lt (b := 64) hk (by decide)), pe_areBoxes hN.1.1 (rd_mb hM).1, Option.bind_some]
    simp only [pz_i0, pz_subA k hk _ hN.1.1, pe_ones k hk, pe_ones r hr, Option.bind_some, show (4 < nI (pc k)) = (4 < pc k) from pz_lt3 (x := 4) (by decide) (by omega), pz_lt3 (show pc r < 2 ^ 31 by omega) (show pc k < 2 ^ 31 by omega), fX10_most_55_b71, fX10_most_55_b72, fX10_most_55_b94, fX10_most_55_b95, if_true, show ¬ ((1 : Int32) = 0) by decide, if_false, nI_1]
    by_cases q1 : k &&& N 0 0 = k
    · rw [if_neg (fun w => w q1)]
      by_cases q2 : 4 < pc k
      · rw [if_pos q2]
        exact skip h (Same.rf h) (fun w => by have := w.1.2.1; omega)
      · rw [if_neg q2]
        by_cases q3 : pc r < pc k
        · rw [if_pos q3]
          obtain ⟨y, g, e1, s1, i1⟩ := pe_canCut hk (show pc k ≤ 4 by omega) hs hN hM
          rw [e1, Option.bind_some]
          cases y with
          | false =>
            simp only [Bool.false_eq_true, if_false, if_true]
            exact skip g s1 (fun w => by have := i1.mpr w.1.2.2; cases this)
          | true =>
            simp only [if_true, show ¬ ((1 : Int32) = 0) by decide, if_false]
            have m : mP N (N 3 s) (N 4 s) k := ⟨q1, by omega, i1.mp rfl⟩
            have R' : mRes N (N 3 s) (N 4 s) (k + 1) k := by
              right
              refine ⟨hk1, by omega, m, fun j j1 j2 mj => ?_⟩
              by_cases w : j = k
              · right; subst w; exact ⟨rfl, Nat.le_refl _⟩
              · left
                rcases R with ⟨a, b⟩ | ⟨a, b, c, d⟩
                · exact absurd mj (b j j1 (by omega))
                · have := d j j1 (by omega) mj
                  omega
            obtain ⟨r', h', a, b, c⟩ := pe_m30 (z := z) hN hs n (k + 1) fuel k g (by omega) (by omega) (by omega) (s1.rdM hM) R' hk
            exact ⟨r', h', a, s1.tr b, c⟩
        · rw [if_neg q3]
          exact skip h (Same.rf h) (fun w => q3 w.2)
    · rw [if_pos q1]
      exact skip h (Same.rf h) (fun w => q1 w.1.1)
set_option maxRecDepth 10000 in
theorem st_most (p0 p1 : Int32) : Sim (fX9_most_0 p0 p1) (fX10_most_55 p0 p1) := by
  intro h H
  obtain ⟨N, hG, hM, hN⟩ := H.1
  by_cases hc : pbx p0 (N 0 2) = true
  · by_cases hw : 0 ≤ p1.toInt ∧ p1.toInt ≤ 2
    · obtain ⟨s, hs, rfl, -⟩ := pbx_i hN.1.2.2 hc
      obtain ⟨h1, e1, C1, s1⟩ := pe_startC hG hN hN.1.1 hs
      obtain ⟨r, h2, e2, C2, x2, r64, R2⟩ := pe_g2 hN.1.1 (hN.s hs).1 (hN.s hs).2 4 mv_F h1 (Nat.le_refl _) (by rw [mv_F_eq]; decide) C1 (fun j _ _ m => m.2.1)
      have s2 := s1.tr x2.same
      have M2 := s2.rdM hM
      have G2 := s2.rdG (Or.inl rfl) hG
      obtain ⟨r', h3, e3, s3, R3⟩ := pe_m30 (z := p1) hN hs 63 1 mv_F 0 h2 rfl (Nat.le_refl _) (by rw [mv_F_eq]; decide) M2 (Or.inl ⟨rfl, fun k k1 k2 => absurd k2 (by omega)⟩) (by decide)
      have er := mRes_u R2 R3
      subst er
      refine ⟨mAns N s r p1, h2, h3, ?_, ?_, (s2.tr s3).inv H⟩
      · have rs : r &&& N 0 0 = r := by
          rcases R2 with ⟨a, -⟩ | ⟨-, -, c, -⟩
          · rw [a]; exact Nat.zero_and _
          · exact c.1
        have bt : fX7_bits_2 h = some (nI (N 0 0)) := by unfold fX7_bits_2; rw [(rd_b hG).1]
        have gr : fX0_greatestOf_41 (nI (N 0 0)) h1 = some (nI r, h2) := e2
        simp only [fX9_most_0, pe_hs (rd_b hG).2.2, hc, if_true, Option.bind_some, pe_isWithin, pz_32, hw, and_self, show ¬ ((1 : Int32) = 0) by decide, if_false, bt, e1, gr, pe_bitCount r r64, pe_area G2 hs, pe_cpaper C2.2.1 r64 rs]
        unfold mAns
        by_cases q0 : p1 = 0
        · rw [if_pos q0, if_pos q0]
        · rw [if_neg q0, if_neg q0]
          by_cases q1 : p1 = 1
          · rw [if_pos q1, if_pos q1]
          · rw [if_neg q1, if_neg q1]
      · simp only [fX10_most_55, pe_ms (rd_mb M2).2.2, hc, if_true, Option.bind_some, pe_in, Int32.toInt_toInt64, pz_64, hw, and_self, show ¬ ((1 : Int32) = 0) by decide, if_false]
        exact e3
    · refine ⟨-2, h, h, ?_, ?_, H⟩
      · simp [fX9_most_0, pe_hs (rd_b hG).2.2, hc, pe_isWithin, pz_32, hw]
      · simp [fX10_most_55, pe_ms (rd_mb hM).2.2, hc, pe_in, pz_64, hw]
  · refine ⟨-1, h, h, ?_, ?_, H⟩
    · simp [fX9_most_0, pe_hs (rd_b hG).2.2, hc]
    · simp [fX10_most_55, pe_ms (rd_mb hM).2.2, hc]
