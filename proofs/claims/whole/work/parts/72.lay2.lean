/-! lay: both sides -/
theorem pstep_mono {x p : Nat} {so : Nat → Nat} {nu : Nat → Nat → Nat} {r : Option (Nat × Nat × Nat)} {t : pst} (e : pstep x p so nu r = some t) : p ≤ t.1 ∧ ∀ j, j < p → t.2.1 j = so j ∧ ∀ i, t.2.2.1 j i = nu j i := by
  cases r with
  | none =>
    simp only [pstep] at e
    by_cases q1 : x = 66
    · rw [if_pos q1] at e; cases e; exact ⟨Nat.le_refl _, fun j hj => ⟨rfl, fun i => rfl⟩⟩
    · rw [if_neg q1] at e
      by_cases q2 : x = 84
      · rw [if_pos q2] at e; cases e; exact ⟨Nat.le_refl _, fun j hj => ⟨rfl, fun i => rfl⟩⟩
      · rw [if_neg q2] at e
        by_cases q3 : x = 83
        · rw [if_pos q3] at e; cases e; exact ⟨Nat.le_refl _, fun j hj => ⟨rfl, fun i => rfl⟩⟩
        · rw [if_neg q3] at e; cases e
  | some z =>
    obtain ⟨s, c, v⟩ := z
    simp only [pstep] at e
    by_cases q : 48 ≤ x ∧ x ≤ 57
    · rw [if_pos q] at e
      by_cases q2 : 10 * v + (x - 48) = 0 ∨ grt s < 10 * v + (x - 48)
      · rw [if_pos q2] at e; cases e
      · rw [if_neg q2] at e; cases e; exact ⟨Nat.le_refl _, fun j hj => ⟨rfl, fun i => rfl⟩⟩
    · rw [if_neg q] at e
      by_cases q0 : v = 0
      · rw [if_pos q0] at e; cases e
      · rw [if_neg q0] at e
        by_cases q1 : c + 1 = cols s
        · rw [if_pos q1] at e
          by_cases q2 : x = 59
          · rw [if_pos q2] at e; cases e
            exact ⟨Nat.le_succ _, fun j hj => ⟨by simp [up1, show ¬ j = p by omega], fun i => by simp [up2, show ¬ j = p by omega]⟩⟩
          · rw [if_neg q2] at e; cases e
        · rw [if_neg q1] at e
          by_cases q2 : x = 120
          · rw [if_pos q2] at e; cases e
            exact ⟨Nat.le_refl _, fun j hj => ⟨rfl, fun i => by simp [up2, show ¬ j = p by omega]⟩⟩
          · rw [if_neg q2] at e; cases e
theorem prun_mono {s : Nat → Nat} : ∀ (n k : Nat) (t : pst), t.1 ≤ (prun s n k t).2.1 ∧ ∀ j, j < t.1 → (prun s n k t).2.2.1 j = t.2.1 j ∧ ∀ i, (prun s n k t).2.2.2.1 j i = t.2.2.1 j i
  | 0, k, t => ⟨Nat.le_refl _, fun j hj => ⟨rfl, fun i => rfl⟩⟩
  | n + 1, k, t => by
    simp only [prun]
    cases hp : pstep (s k) t.1 t.2.1 t.2.2.1 t.2.2.2 with
    | none => exact ⟨Nat.le_refl _, fun j hj => ⟨rfl, fun i => rfl⟩⟩
    | some t' =>
      have a := pstep_mono hp
      have b := prun_mono (s := s) n (k + 1) t'
      refine ⟨Nat.le_trans a.1 b.1, fun j hj => ?_⟩
      have b2 := b.2 j (by omega)
      have a2 := a.2 j hj
      exact ⟨b2.1.trans a2.1, fun i => (b2.2 i).trans (a2.2 i)⟩
theorem prun_lt {s : Nat → Nat} : ∀ (n k : Nat) (t : pst) (j : Nat), (prun s n k t).1 = some j → j < k + n
  | 0, k, t, j, h => by simp [prun] at h
  | n + 1, k, t, j, h => by
    simp only [prun] at h
    cases hp : pstep (s k) t.1 t.2.1 t.2.2.1 t.2.2.2 with
    | none => rw [hp] at h; simp at h; omega
    | some t' =>
      rw [hp] at h
      have := prun_lt n (k + 1) t' j h
      omega
theorem pans_c {s : Nat → Nat} {L : Nat} (hL : L ≤ 60) : (pans L (prun s L 0 t0) = -6 ∧ (prun s L 0 t0).1 = none ∧ (prun s L 0 t0).2.2.2.2 = none) ∨ ∃ j, j ≤ 60 ∧ pans L (prun s L 0 t0) = nI j := by
  cases h1 : (prun s L 0 t0).1 with
  | some j =>
    have := prun_lt L 0 t0 j h1
    exact Or.inr ⟨j, by omega, by simp [pans, h1]⟩
  | none =>
    cases h2 : (prun s L 0 t0).2.2.2.2 with
    | none => exact Or.inl ⟨by simp [pans, h1, h2], rfl, rfl⟩
    | some z => exact Or.inr ⟨L, hL, by simp [pans, h1, h2]⟩
theorem pe_sc1 {L : Nat} {s : Nat → Nat} {N0 : Nat → Nat → Nat} (hL : L ≤ 60) (hs : ∀ i, i < L → s i ≤ 126) (hN : okN N0) : ∀ (n k m : Nat) (h : mv_H) (t : pst), n + k = L → n < m → h 34 1 = nI L → (∀ i, i < L → h 35 i = nI (s i)) → CS h t.1 t.2.1 t.2.2.1 t.2.2.2 → okP k t.1 t.2.1 t.2.2.1 t.2.2.2 → rdG h 1 (layN N0 t.2.1 t.2.2.1 t.1) → (prun s n k t).1 = none → (∀ i, i < 3 → pc (N0 0 i) + cnt (prun s n k t).2.2.1 (prun s n k t).2.1 i ≤ 6) → ∃ r h', fX4_scan_34_1_b6 m (nI k) h = some (r, h') ∧ Kc h h' ∧ CS h' (prun s n k t).2.1 (prun s n k t).2.2.1 (prun s n k t).2.2.2.1 (prun s n k t).2.2.2.2 ∧ rdG h' 1 (layN N0 (prun s n k t).2.2.1 (prun s n k t).2.2.2.1 (prun s n k t).2.1)
  | n, k, 0, h, t, _, hm, _, _, _, _, _, _, _ => absurd hm (by omega)
  | 0, k, m + 1, h, t, hn, _, h1, h2, C, O, G, _, _ => by
    have E : fX4_scan_34_1_b6 (m + 1) (nI k) h = fX4_scan_34_1_b57 h := by
      rw [fX4_scan_34_1_b6, h1, if_neg (nI_nlt (by omega) (by omega))]
    by_cases q : h 34 2 = -1
    · exact ⟨-6, h, by rw [E]; unfold fX4_scan_34_1_b57; rw [if_pos q], fun _ _ _ _ => rfl, C, G⟩
    · exact ⟨h 34 1, h, by rw [E]; unfold fX4_scan_34_1_b57; rw [if_neg q], fun _ _ _ _ => rfl, C, G⟩
  | n + 1, k, m + 1, h, t, hn, hm, h1, h2, C, O, G, hq, hc => by
    have hk : k < L := by omega
    obtain ⟨i1, i2⟩ := pz_in (n := k) (M := 60) (by omega) (by decide)
    obtain ⟨h', e, a, ce⟩ := pe_acc (hs k hk) C O
    have a1 : h' 34 1 = nI L := (a 34 1 (by omega)).trans h1
    have a2 : ∀ i, i < L → h' 35 i = nI (s i) := fun i hi => (a 35 i (by omega)).trans (h2 i hi)
    have G' := a.same.rdG (Or.inl rfl) G
    rw [fX4_scan_34_1_b6, h1, if_pos (nI_lt hk (by omega)), if_pos (show nI k < 60 from nI_lt (b := 60) (by omega) (by decide)), if_pos i1]
    simp only [i2, h2 k hk, e, Option.bind_some]
    simp only [prun] at hq hc ⊢
    cases hp : pstep (s k) t.1 t.2.1 t.2.2.1 t.2.2.2 with
    | none => rw [hp] at hq; simp at hq
    | some t' =>
      rw [hp] at hq hc
      simp only at hq hc ⊢
      have ce' := ce t' hp
      have O' : okP (k + 1) t'.1 t'.2.1 t'.2.2.1 t'.2.2.2 := pstep_ok O hp
      have mo := pstep_mono hp
      have pm := prun_mono (s := s) n (k + 1) t'
      have cn : ∀ i, cnt t'.2.1 t'.1 i ≤ cnt (prun s n (k + 1) t').2.2.1 (prun s n (k + 1) t').2.1 i := fun i => by
        rw [cnt_congr (so' := (prun s n (k + 1) t').2.2.1) t'.1 (fun j hj => ((pm.2 j hj).1).symm)]
        exact cnt_mono pm.1
      have cp : ∀ i, cnt t.2.1 t.1 i ≤ cnt t'.2.1 t'.1 i := fun i => by
        rw [cnt_congr (so' := t'.2.1) t.1 (fun j hj => ((mo.2 j hj).1).symm)]
        exact cnt_mono mo.1
      have lk0 : layN N0 t'.2.1 t'.2.2.1 t.1 = layN N0 t.2.1 t.2.2.1 t.1 := layN_congr t.1 (fun j hj => ⟨(mo.2 j hj).1, (mo.2 j hj).2⟩)
      simp only [Option.isSome_some, if_true, show ¬ ((1 : Int32) = 0) by decide, if_false, if_pos i1, a2 k hk, fX4_scan_34_1_b51, nI_1]
      have e59 : (nI (s k) = 59) = (s k = 59) := pz_e (n := 59) (by have := hs k hk; omega) (by decide)
      simp only [e59]
      by_cases q : s k = 59
      · rw [q] at ce'
        obtain ⟨LN, Lc⟩ := layN_ok (N := N0) (so := t.2.1) (nu := t.2.2.1) hN t.1 (fun j hj => O.2.1 j hj) (fun i hi => by have := hc i hi; have := cn i; have := cp i; omega)
        have t1 : t'.1 = t.1 + 1 := by
          rcases ce'.2 with ⟨z, -⟩ | ⟨-, -, z, -⟩
          · exact absurd rfl z
          · exact z
        obtain ⟨h3, e3, k3, c3, g3⟩ := pe_end1 ce' G' LN (fun x ex hx => by
          rw [Lc x hx]
          have := hc x hx
          have := cn x
          rw [ex, t1, cnt_end] at this
          simp at this
          omega)
        have G3 : rdG h3 1 (layN N0 t'.2.1 t'.2.2.1 t'.1) := by
          rw [t1]
          show rdG h3 1 (layOne (layN N0 t'.2.1 t'.2.2.1 t.1) (t'.2.1 t.1) (t'.2.2.1 t.1 0) (t'.2.2.1 t.1 1) (t'.2.2.1 t.1 2))
          rw [lk0]; exact g3
        obtain ⟨r, h4, e4, k4, c4, g4⟩ := pe_sc1 hL hs hN n (k + 1) m h3 t' (by omega) (by omega) ((k3 34 1 (by unfold scr; omega) (by omega)).trans a1) (fun i hi => (k3 35 i (by unfold scr; omega) (by omega)).trans (a2 i hi)) c3 O' G3 hq hc
        refine ⟨r, h4, ?_, (a.same.kc.tr k3).tr k4, c4, g4⟩
        rw [if_pos q, e3, Option.bind_some]; exact e4
      · have C' := ce'.cs q
        have t1 : t'.1 = t.1 ∧ t'.2.1 = t.2.1 := by
          rcases ce'.2 with ⟨-, z1, z2, -⟩ | ⟨z, -⟩
          · exact ⟨z1, z2⟩
          · exact absurd z q
        have G3 : rdG h' 1 (layN N0 t'.2.1 t'.2.2.1 t'.1) := by
          rw [t1.1, lk0]; exact G'
        obtain ⟨r, h4, e4, k4, c4, g4⟩ := pe_sc1 hL hs hN n (k + 1) m h' t' (by omega) (by omega) a1 a2 C' O' G3 hq hc
        refine ⟨r, h4, ?_, a.same.kc.tr k4, c4, g4⟩
        rw [if_neg q]; exact e4
theorem pe_hp {h : mv_H} {N : Nat → Nat → Nat} {c : Nat → Nat} (hG : rdG h 1 N) (hN : okN N) (hc : ∀ i, i < 3 → h 37 i = nI (c i)) (hb : ∀ i, i < 3 → c i ≤ 60) : fX4_hasPlaceIn_34_1 h = some (if c 0 + pc (N 0 0) ≤ 6 ∧ c 1 + pc (N 0 1) ≤ 6 ∧ c 2 + pc (N 0 2) ≤ 6 then 1 else 0) := by
  obtain ⟨m, hm⟩ : ∃ m, mv_F = m + 1 + 1 + 1 + 1 := ⟨999996, mv_F_eq⟩
  have b0 := hb 0 (by decide)
  have b1 := hb 1 (by decide)
  have b2 := hb 2 (by decide)
  have p0 := pc_le (N 0 0)
  have p1 := pc_le (N 0 1)
  have p2 := pc_le (N 0 2)
  have z6 : (6 : Int32) = nI 6 := rfl
  unfold fX4_hasPlaceIn_34_1
  rw [hm]
  rw [fX4_hasPlaceIn_34_1_b2, if_pos (by decide), if_pos (by decide)]
  simp only [fX1_shelf_1, if_true, Option.bind_some, pe_count2 hN.1.1 (rd_b hG).1, pz_c, hc 0 (by decide), nI_add, z6, pz_lt3 (show 6 < 2 ^ 31 by decide) (show c 0 + pc (N 0 0) < 2 ^ 31 by omega)]
  by_cases q0 : 6 < c 0 + pc (N 0 0)
  · rw [if_pos q0, if_neg (by omega)]
  · rw [if_neg q0, show (0 : Int32) + 1 = 1 from rfl, fX4_hasPlaceIn_34_1_b2, if_pos (by decide), if_pos (by decide)]
    simp only [fX1_shelf_1, show ¬ ((1 : Int32) = 0) by decide, if_false, if_true, Option.bind_some, show ¬ (4 = 2) by decide, pe_count4 hN.1.2.1 (rd_b hG).2.1, pz_c, hc 1 (by decide), nI_add, z6, pz_lt3 (show 6 < 2 ^ 31 by decide) (show c 1 + pc (N 0 1) < 2 ^ 31 by omega)]
    by_cases q1 : 6 < c 1 + pc (N 0 1)
    · rw [if_pos q1, if_neg (by omega)]
    · rw [if_neg q1, show (1 : Int32) + 1 = 2 from rfl, fX4_hasPlaceIn_34_1_b2, if_pos (by decide), if_pos (by decide)]
      simp only [fX1_shelf_1, show ¬ ((2 : Int32) = 0) by decide, show ¬ ((2 : Int32) = 1) by decide, if_false, if_true, Option.bind_some, show ¬ (6 = 2) by decide, show ¬ (6 = 4) by decide, pe_count6 hN.1.2.2 (rd_b hG).2.2, pz_c, hc 2 (by decide), nI_add, z6, pz_lt3 (show 6 < 2 ^ 31 by decide) (show c 2 + pc (N 0 2) < 2 ^ 31 by omega)]
      by_cases q2 : 6 < c 2 + pc (N 0 2)
      · rw [if_pos q2, if_neg (by omega)]
      · rw [if_neg q2, show (2 : Int32) + 1 = 3 from rfl, fX4_hasPlaceIn_34_1_b2, if_neg (by decide), if_pos (by omega)]
theorem pe_co {h : mv_H} {p i : Nat} {so : Nat → Nat} (hp : p ≤ 60) (hi : i < 3) (hs : ∀ k, k < p → so k < 3) (h19 : h 55 19 = nI p) (h63 : ∀ k, k < p → h 63 k = nI (so k)) : ∀ (n k m : Nat), n + k = p → n < m → fX10_countOf_55_b4 m (nI i) (nI (cnt so k i)) (nI k) h = some (nI (cnt so p i))
  | n, k, 0, _, hm => absurd hm (by omega)
  | 0, k, m + 1, hn, _ => by
    obtain rfl : k = p := by omega
    rw [fX10_countOf_55_b4, h19, if_neg (nI_nlt (Nat.le_refl _) (by omega))]
  | n + 1, k, m + 1, hn, hm => by
    have hk : k < p := by omega
    obtain ⟨i1, i2⟩ := pz_in (n := k) (M := 60) (by omega) (by decide)
    have ih := pe_co hp hi hs h19 h63 n (k + 1) m (by omega) (by omega)
    rw [fX10_countOf_55_b4, h19, if_pos (nI_lt hk (by omega)), if_pos i1]
    simp only [i2, h63 k hk]
    have e : (nI (so k) = nI i) = (so k = i) := pz_e (by have := hs k hk; omega) (by omega)
    simp only [e, fX10_countOf_55_b28, mv_let, nI_1]
    rw [← ih]
    show (if so k = i then fX10_countOf_55_b4 m (nI i) (nI (cnt so k i + 1)) (nI (k + 1)) h else fX10_countOf_55_b4 m (nI i) (nI (cnt so k i) + 0) (nI (k + 1)) h) = fX10_countOf_55_b4 m (nI i) (nI (cnt so k i + (if so k = i then 1 else 0))) (nI (k + 1)) h
    by_cases q : so k = i
    · rw [if_pos q, if_pos q]
    · rw [if_neg q, if_neg q, ← pz_lit.1, nI_add]
theorem cnt_all {so : Nat → Nat} : ∀ p, (∀ k, k < p → so k < 3) → cnt so p 0 + cnt so p 1 + cnt so p 2 = p
  | 0, _ => rfl
  | p + 1, h => by
    have ih := cnt_all p (fun k hk => h k (by omega))
    have hp := h p (by omega)
    show (cnt so p 0 + (if so p = 0 then 1 else 0)) + (cnt so p 1 + (if so p = 1 then 1 else 0)) + (cnt so p 2 + (if so p = 2 then 1 else 0)) = p + 1
    rcases (show so p = 0 ∨ so p = 1 ∨ so p = 2 by omega) with e | e | e <;> simp [e] <;> omega
/-- the reference's goods may change, no more -/
def Km (h h' : mv_H) : Prop := ∀ o j, ¬ (o = 55 ∧ j < 3) → ¬ (56 ≤ o ∧ o ≤ 59) → ¬ (o = 55 ∧ j = 16) → h' o j = h o j
theorem Km.tr {a b c : mv_H} (h1 : Km a b) (h2 : Km b c) : Km a c := fun o j q1 q2 q3 => (h2 o j q1 q2 q3).trans (h1 o j q1 q2 q3)
theorem pe_mlLoop {p : Nat} {so : Nat → Nat} {nu : Nat → Nat → Nat} {N0 : Nat → Nat → Nat} (hp : p ≤ 60) (hN : okN N0) (hs : ∀ k, k < p → so k < 3 ∧ ∀ j, j < cols (so k) → 1 ≤ nu k j ∧ nu k j ≤ grt (so k)) (hc : ∀ i, i < 3 → pc (N0 0 i) + cnt so p i ≤ 6) : ∀ (n k m : Nat) (h : mv_H), n + k = p → n < m → h 55 19 = nI p → (∀ k, k < p → h 63 k = nI (so k) ∧ ∀ j, j < cols (so k) → h 64 (3 * k + j) = nI (nu k j)) → rdM h (layN N0 so nu k) → ∃ h', fX10_lay_55_b69 m (nI k) h = some (nI p, h') ∧ Km h h' ∧ rdM h' (layN N0 so nu p) ∧ h' 55 16 = 0
  | n, k, 0, h, _, hm, _, _, _ => absurd hm (by omega)
  | 0, k, m + 1, h, hn, _, h19, h63, hM => by
    obtain rfl : k = p := by omega
    refine ⟨mv_u h 55 16 0, ?_, fun o j q1 q2 q3 => by rw [mv_u_at, if_neg q3], ?_, by rw [mv_u_at, if_pos ⟨rfl, rfl⟩]⟩
    · rw [fX10_lay_55_b69, h19, if_neg (nI_nlt (Nat.le_refl _) (by omega))]
      simp only [mv_let]
      rw [show mv_u h 55 16 0 55 19 = nI k from by rw [mv_u_at, if_neg (by omega)]; exact h19]
    · intro a i hv
      rw [← hM a i hv]
      revert a i hv
      refine vld_0 (fun j hj => ?_) (fun j hj => ?_) (fun j hj => ?_) (fun j hj => ?_) (fun j hj => ?_) (fun j hj => ?_) (fun j hj => ?_)
      · rcases (show j = 0 ∨ j = 1 ∨ j = 2 ∨ j = 3 ∨ j = 4 ∨ j = 5 ∨ j = 6 ∨ j = 7 ∨ j = 8 by omega) with rfl | rfl | rfl | rfl | rfl | rfl | rfl | rfl | rfl <;> simp [pv_mw, mv_u_at]
      all_goals simp [pv_mw, mv_u_at]
  | n + 1, k, m + 1, h, hn, hm, h19, h63, hM => by
    have hk : k < p := by omega
    obtain ⟨i1, i2⟩ := pz_in (n := k) (M := 60) (by omega) (by decide)
    obtain ⟨j1, j2⟩ := pz_in (n := 3 * k) (M := 180) (by omega) (by decide)
    obtain ⟨k1, k2⟩ := pz_in (n := 3 * k + 1) (M := 180) (by omega) (by decide)
    obtain ⟨l1, l2⟩ := pz_in (n := 3 * k + 2) (M := 180) (by omega) (by decide)
    have e3 : (3 : Int32) * nI k = nI (3 * k) := by rw [show (3 : Int32) = nI 3 from rfl, pk_mul]
    have e4 : nI (3 * k) + 2 = nI (3 * k + 2) := nI_add _ 2
    have hsk := hs k hk
    obtain ⟨LN, Lc⟩ := layN_ok (N := N0) (so := so) (nu := nu) hN k (fun j hj => hs j (by omega)) (fun i hi => by have := hc i hi; have := cnt_mono (so := so) (i := i) (show k ≤ p by omega); omega)
    have room : pc (layN N0 so nu k 0 (so k)) < 6 := by
      rw [Lc _ hsk.1]
      have h1 := hc (so k) hsk.1
      have h2 := cnt_mono (so := so) (i := so k) (show k + 1 ≤ p by omega)
      have h3 : cnt so (k + 1) (so k) = cnt so k (so k) + 1 := by show cnt so k (so k) + (if so k = so k then 1 else 0) = _; simp
      omega
    obtain ⟨f1, -, -, -⟩ := ff_p _ (okN_bits LN hsk.1) room
    have fr := pe_free (okN_bits LN hsk.1) room
    have e0 : (nI (so k) = 0) = (so k = 0) := pz_e (n := 0) (by omega) (by decide)
    have e1 : (nI (so k) = 1) = (so k = 1) := pz_e (n := 1) (by omega) (by decide)
    have go : ∀ h1 : mv_H, Km h h1 → rdM h1 (layN N0 so nu (k + 1)) → ∃ h', fX10_lay_55_b69 m (nI (k + 1)) h1 = some (nI p, h') ∧ Km h h' ∧ rdM h' (layN N0 so nu p) ∧ h' 55 16 = 0 := by
      intro h1 km hM1
      obtain ⟨h', a, b, c, d⟩ := pe_mlLoop hp hN hs hc n (k + 1) m h1 (by omega) (by omega) ((km 55 19 (by omega) (by omega) (by omega)).trans h19) (fun j hj => ⟨(km 63 j (by omega) (by omega) (by omega)).trans (h63 j hj).1, fun i hi => (km 64 _ (by omega) (by omega) (by omega)).trans ((h63 j hj).2 i hi)⟩) hM1
      exact ⟨h', a, km.tr b, c, d⟩
    have u0 := (h63 k hk).2
    rw [fX10_lay_55_b69, h19, if_pos (nI_lt hk (by omega)), e3, if_pos j1, j2]
    simp only [mv_let]
    rw [nI_1, if_pos k1, k2, e4, if_pos l1, l2, if_pos i1, if_pos i1, i2, (h63 k hk).1]
    simp only [e0, e1, fX10_lay_55_b177, nI_1]
    rcases (show so k = 0 ∨ so k = 1 ∨ so k = 2 by omega) with z | z | z
    · rw [z] at fr room f1 u0
      have q0 := u0 0 (by decide)
      have q1 := u0 1 (by decide)
      have q2 := u0 2 (by decide)
      have P := pv_putB_M (x := nu k 0) (y := nu k 1) (z := nu k 2) f1 hM LN
      have km : Km h (pv_put h 56 55 0 (ff (layN N0 so nu k 0 0)) (nI (nu k 0)) (nI (nu k 1)) (nI (nu k 2))) := fun o j z1 z2 z3 => by
        rw [pv_put_at (by decide), if_neg (by omega), if_neg (by omega), if_neg (by omega), if_neg (by omega)]
      obtain ⟨h', a, b⟩ := go _ km (by
        show rdM _ (layOne (layN N0 so nu k) (so k) (nu k 0) (nu k 1) (nu k 2))
        rw [z]; exact P)
      refine ⟨h', ?_, b⟩
      rw [if_pos z, (rd_mb hM).1, fr, Option.bind_some, show h 64 (3 * k) = nI (nu k 0) from q0, q1, q2, pe_putBox f1, Option.bind_some]
      exact a
    · rw [z] at fr room f1 u0
      have q0 := u0 0 (by decide)
      have q1 := u0 1 (by decide)
      have q2 := u0 2 (by decide)
      have P := pv_putT_M (x := nu k 0) (y := nu k 1) (z := nu k 2) f1 hM LN
      have km : Km h (pv_put h 57 55 1 (ff (layN N0 so nu k 0 1)) (nI (nu k 0)) (nI (nu k 1)) (nI (nu k 2))) := fun o j z1 z2 z3 => by
        rw [pv_put_at (by decide), if_neg (by omega), if_neg (by omega), if_neg (by omega), if_neg (by omega)]
      obtain ⟨h', a, b⟩ := go _ km (by
        show rdM _ (layOne (layN N0 so nu k) (so k) (nu k 0) (nu k 1) (nu k 2))
        rw [z]; exact P)
      refine ⟨h', ?_, b⟩
      rw [if_neg (by omega), if_pos z, (rd_mb hM).2.1, fr, Option.bind_some, show h 64 (3 * k) = nI (nu k 0) from q0, q1, q2, pe_putThing f1, Option.bind_some]
      exact a
    · rw [z] at fr room f1 u0
      have q0 := u0 0 (by decide)
      have q1 := u0 1 (by decide)
      have P := pv_putSh_M (x := nu k 0) (y := nu k 1) f1 hM LN
      have km : Km h (pv_putS h (ff (layN N0 so nu k 0 2)) (nI (nu k 0)) (nI (nu k 1))) := fun o j z1 z2 z3 => by
        rw [pv_putS_at, if_neg (by omega), if_neg (by omega), if_neg (by omega)]
      obtain ⟨h', a, b⟩ := go _ km (by
        show rdM _ (layOne (layN N0 so nu k) (so k) (nu k 0) (nu k 1) (nu k 2))
        rw [z]; exact P)
      refine ⟨h', ?_, b⟩
      rw [if_neg (by omega), if_neg (by omega), (rd_mb hM).2.2, fr, Option.bind_some, show h 64 (3 * k) = nI (nu k 0) from q0, q1, pe_putSheet f1, Option.bind_some]
      exact a
set_option maxRecDepth 10000 in
theorem st_lay : Sim fX9_lay_0 fX10_lay_55 := by
  intro h H
  obtain ⟨N, hG, hM, hN⟩ := H.1
  obtain ⟨L, s, hL, h1, h2, hs⟩ := H.2.2.1
  have hs' : ∀ i, i < L → s i ≤ 126 := fun i hi => (hs i hi).2.2.2
  obtain ⟨g, e, sg, cg⟩ := pe_scan (s := s) hL hs' h1 (fun i hi => (hs i hi).1)
  have g1 : g 34 1 = nI L := (sg 34 1 (by unfold scr; omega)).trans h1
  have g35 : ∀ i, i < L → g 35 i = nI (s i) := fun i hi => (sg 35 i (by unfold scr; omega)).trans (hs i hi).1
  have g16 : g 55 16 = nI L := (sg 55 16 (by unfold scr; omega)).trans h2
  have g62 : ∀ i, i < L → g 62 i = nI (s i) := fun i hi => (sg 62 i (by unfold scr; omega)).trans (hs i hi).2.1
  obtain ⟨q, eq⟩ : ∃ q, q = prun s L 0 t0 := ⟨_, rfl⟩
  have gG := sg.rdG (Or.inl rfl) hG
  have gM := sg.rdM hM
  rcases pans_c (s := s) hL with ⟨p1, p2, p3⟩ | ⟨j, hj, p1⟩
  · obtain ⟨CS1, OK1⟩ := cg p2
    rw [← eq] at CS1 OK1 p2 p3
    obtain ⟨q0, p, so, nu, r⟩ := q
    simp only at CS1 OK1 p2 p3
    subst p2
    subst p3
    obtain ⟨OK1, OK2, -⟩ := OK1
    have so3 : ∀ k, k < p → so k < 3 := fun k hk => (OK2 k hk).1
    have cl : ∀ i, cnt so p i ≤ 60 := fun i => Nat.le_trans (cnt_le so i p) (by omega)
    have hpl := pe_hp (c := fun i => cnt so p i) gG hN CS1.1 (fun i _ => cl i)
    rw [p1] at e
    have cnts : ∀ h3 : mv_H, h3 55 19 = nI p → (∀ k, k < p → h3 63 k = nI (so k)) → ∀ i, i < 3 → fX10_countOf_55 (nI i) h3 = some (nI (cnt so p i)) := fun h3 a b i hi => pe_co (by omega) hi so3 a b p 0 mv_F (by omega) (by rw [mv_F_eq]; omega)
    have p60 := pc_le (N 0 0)
    have p61 := pc_le (N 0 1)
    have p62 := pc_le (N 0 2)
    have c0 := cl 0
    have c1 := cl 1
    have c2 := cl 2
    have ML : ∀ h3 h4 : mv_H, MS h4 p so nu none → rdM h4 N → fX10_fault_55 h3 = some (-6, h4) → fX10_lay_55 h3 = if cnt so p 0 + pc (N 0 0) ≤ 6 ∧ cnt so p 1 + pc (N 0 1) ≤ 6 ∧ cnt so p 2 + pc (N 0 2) ≤ 6 then fX10_lay_55_b69 mv_F 0 h4 else some (-4, h4) := by
      intro h3 h4 m4 r4 e4
      have k0 : fX10_countOf_55 0 h4 = some (nI (cnt so p 0)) := cnts h4 m4.1 (fun k hk => (m4.2.1 k hk).1) 0 (by decide)
      have k1 : fX10_countOf_55 1 h4 = some (nI (cnt so p 1)) := cnts h4 m4.1 (fun k hk => (m4.2.1 k hk).1) 1 (by decide)
      have k2 : fX10_countOf_55 2 h4 = some (nI (cnt so p 2)) := cnts h4 m4.1 (fun k hk => (m4.2.1 k hk).1) 2 (by decide)
      unfold fX10_lay_55
      rw [e4, Option.bind_some]
      refine (if_pos (show ((-6 : Int32) < 0) by decide)).trans ?_
      simp only [k0, k1, k2, (rd_mb r4).1, (rd_mb r4).2.1, (rd_mb r4).2.2, pe_ones _ hN.1.1, pe_ones _ hN.1.2.1, pe_ones _ hN.1.2.2, Option.bind_some, nI_add, show (6 : Int32) = nI 6 from rfl, pz_lt3 (show 6 < 2 ^ 31 by decide) (show cnt so p 0 + pc (N 0 0) < 2 ^ 31 by omega), pz_lt3 (show 6 < 2 ^ 31 by decide) (show cnt so p 1 + pc (N 0 1) < 2 ^ 31 by omega), pz_lt3 (show 6 < 2 ^ 31 by decide) (show cnt so p 2 + pc (N 0 2) < 2 ^ 31 by omega)]
      by_cases z0 : 6 < cnt so p 0 + pc (N 0 0)
      · rw [if_pos z0, if_neg (by omega)]
      · rw [if_neg z0]
        by_cases z1 : 6 < cnt so p 1 + pc (N 0 1)
        · rw [if_pos z1, if_neg (by omega)]
        · rw [if_neg z1]
          by_cases z2 : 6 < cnt so p 2 + pc (N 0 2)
          · rw [if_pos z2, if_neg (by omega)]
          · rw [if_neg z2, if_pos (by omega)]
    by_cases z : cnt so p 0 + pc (N 0 0) ≤ 6 ∧ cnt so p 1 + pc (N 0 1) ≤ 6 ∧ cnt so p 2 + pc (N 0 2) ≤ 6
    · rw [if_pos z] at hpl
      have hc : ∀ i, i < 3 → pc (N 0 i) + cnt so p i ≤ 6 := fun i hi => by
        rcases (show i = 0 ∨ i = 1 ∨ i = 2 by omega) with rfl | rfl | rfl <;> omega
      obtain ⟨h0, e0, s0, u0, m0⟩ := pe_start g
      obtain ⟨rr, h3, e3, k3, c3, r3⟩ := pe_sc1 (s := s) (N0 := N) hL hs' hN L 0 mv_F h0 t0 (by omega) (by rw [mv_F_eq]; omega) ((u0 34 1 (Or.inr ⟨rfl, rfl⟩)).trans g1) (fun i hi => (u0 35 i (Or.inl rfl)).trans (g35 i hi)) m0 ok0 (s0.rdG (Or.inl rfl) gG) (by rw [← eq]) (by rw [← eq]; exact hc)
      rw [← eq] at c3 r3
      simp only at c3 r3
      obtain ⟨h4, eh4⟩ : ∃ h4, h4 = mv_u h3 34 1 0 := ⟨_, rfl⟩
      have K4 : ∀ o j, ¬ scr o j → ¬ (2 ≤ o ∧ o ≤ 7 ∧ ¬ (j = 0 ∧ (o = 2 ∨ o = 4 ∨ o = 6))) → ¬ (o = 34 ∧ j = 1) → h4 o j = h o j := fun o j a1 a2 a3 => by
        rw [eh4, mv_u_at, if_neg a3, k3 o j a1 a2, s0 o j a1, sg o j a1]
      have r4 : rdG h4 1 (layN N so nu p) := rdG_cong (fun o j a1 a2 => by rw [eh4, mv_u_at, if_neg (by omega)]) r3
      have M4 : rdM h4 N := by
        intro a i hv
        rw [← hM a i hv]
        revert a i hv
        refine vld_0 (fun j hj => ?_) (fun j hj => ?_) (fun j hj => ?_) (fun j hj => ?_) (fun j hj => ?_) (fun j hj => ?_) (fun j hj => ?_)
        · rcases (show j = 0 ∨ j = 1 ∨ j = 2 ∨ j = 3 ∨ j = 4 ∨ j = 5 ∨ j = 6 ∨ j = 7 ∨ j = 8 by omega) with rfl | rfl | rfl | rfl | rfl | rfl | rfl | rfl | rfl <;> exact K4 55 _ (by unfold scr; omega) (by omega) (by omega)
        · exact K4 56 j (by unfold scr; omega) (by omega) (by omega)
        · exact K4 57 j (by unfold scr; omega) (by omega) (by omega)
        · exact K4 58 j (by unfold scr; omega) (by omega) (by omega)
        · exact K4 59 j (by unfold scr; omega) (by omega) (by omega)
        · exact K4 60 j (by unfold scr; omega) (by omega) (by omega)
        · exact K4 61 j (by unfold scr; omega) (by omega) (by omega)
      obtain ⟨h5, e5, s5, m5⟩ := pe_fault (h := h4) (s := s) hL hs' ((K4 55 16 (by unfold scr; omega) (by omega) (by omega)).trans h2) (fun i hi => (K4 62 i (by unfold scr; omega) (by omega) (by omega)).trans (hs i hi).2.1)
      rw [p1] at e5
      rw [← eq] at m5
      have m5' : MS h5 p so nu none := m5 rfl
      have M5 := s5.rdM M4
      obtain ⟨h6, e6, k6, M6, z6⟩ := pe_mlLoop (so := so) (nu := nu) (N0 := N) (show p ≤ 60 by omega) hN OK2 hc p 0 mv_F h5 (by omega) (by rw [mv_F_eq]; omega) m5'.1 m5'.2.1 M5
      obtain ⟨LN, -⟩ := layN_ok (so := so) (nu := nu) hN p OK2 hc
      refine ⟨nI p, h4, h6, ?_, ?_, ?_⟩
      · have pa : fX4_parts_34 h3 = some (nI p) := by
          unfold fX4_parts_34
          rw [if_pos (by decide), if_pos (by decide), if_pos (by decide)]
          simp only [pz_c, c3.1 0 (by decide), c3.1 1 (by decide), c3.1 2 (by decide), nI_add]
          rw [cnt_all p so3]
        have sc : fX4_scan_34_1 g = some (rr, h3) := by
          unfold fX4_scan_34_1
          rw [e0, Option.bind_some]; exact e3
        simp only [fX9_lay_0, e, Option.bind_some, if_true, hpl, show ¬ ((1 : Int32) = 0) by decide, if_false, sc, pa, fX4_clear_34, mv_let, ← eh4]
      · rw [ML h4 h5 m5' M5 e5, if_pos z]; exact e6
      · -- the state again
        obtain ⟨hK, eK⟩ : ∃ hK, hK = mv_u (mv_u h6 34 1 (h 34 1)) 55 16 (h 55 16) := ⟨_, rfl⟩
        have K6 : ∀ o j, ¬ scr o j → ¬ (2 ≤ o ∧ o ≤ 7 ∧ ¬ (j = 0 ∧ (o = 2 ∨ o = 4 ∨ o = 6))) → ¬ (o = 55 ∧ j < 3) → ¬ (56 ≤ o ∧ o ≤ 59) → hK o j = h o j := fun o j a1 a2 a3 a4 => by
          rw [eK, mv_u_at]
          by_cases w : o = 55 ∧ j = 16
          · rw [if_pos w, w.1, w.2]
          · rw [if_neg w, mv_u_at]
            by_cases w2 : o = 34 ∧ j = 1
            · rw [if_pos w2, w2.1, w2.2]
            · rw [if_neg w2, k6 o j a3 a4 w, s5 o j a1, K4 o j a1 a2 w2]
        have G6 : rdG h6 1 (layN N so nu p) := rdG_cong (fun o j a1 a2 => by rw [k6 o j (by omega) (by omega) (by omega), s5 o j (by unfold scr; omega)]) r4
        have GK : rdG hK 1 (layN N so nu p) := rdG_cong (fun o j a1 a2 => by rw [eK, mv_u_at, if_neg (by omega), mv_u_at, if_neg (by omega)]) G6
        have MK : rdM hK (layN N so nu p) := by
          intro a i hv
          rw [← M6 a i hv]
          revert a i hv
          refine vld_0 (fun j hj => ?_) (fun j hj => ?_) (fun j hj => ?_) (fun j hj => ?_) (fun j hj => ?_) (fun j hj => ?_) (fun j hj => ?_)
          · rcases (show j = 0 ∨ j = 1 ∨ j = 2 ∨ j = 3 ∨ j = 4 ∨ j = 5 ∨ j = 6 ∨ j = 7 ∨ j = 8 by omega) with rfl | rfl | rfl | rfl | rfl | rfl | rfl | rfl | rfl <;> simp [pv_mw, eK, mv_u_at]
          all_goals simp [pv_mw, eK, mv_u_at]
        have IK : Inv hK := Keep.inv (h := h) (fun o j kp' => K6 o j (by unfold kp at kp'; unfold scr; omega) (by unfold kp at kp'; omega) (by unfold kp at kp'; omega) (by unfold kp at kp'; omega)) H ⟨_, GK, MK, LN⟩
        refine pv_padinv (h := hK) (fun o j a1 a2 => ?_) IK ⟨0, s, by omega, ?_, z6, fun i hi => absurd hi (by omega)⟩
        · unfold pd at a2
          rw [eK, mv_u_at, if_neg (by omega), mv_u_at, if_neg (by omega)]
        · rw [k6 34 1 (by omega) (by omega) (by omega), s5 34 1 (by unfold scr; omega), eh4, mv_u_at, if_pos ⟨rfl, rfl⟩]; rfl
    · rw [if_neg z] at hpl
      obtain ⟨h5, e5, s5, m5⟩ := pe_fault (h := g) (s := s) hL hs' g16 g62
      rw [p1] at e5
      rw [← eq] at m5
      have m5' : MS h5 p so nu none := m5 rfl
      have M5 := s5.rdM gM
      refine ⟨-4, g, h5, ?_, ?_, (sg.tr s5).inv H⟩
      · simp only [fX9_lay_0, e, Option.bind_some, if_true, hpl]
      · rw [ML g h5 m5' M5 e5, if_neg z]
  · obtain ⟨h5, e5, s5, -⟩ := pe_fault (h := g) (s := s) hL hs' g16 g62
    rw [p1] at e e5
    have n1 : ¬ nI j = -6 := fun w => by
      have := congrArg Int32.toInt w
      rw [nI_toInt (by omega)] at this
      have e6 : (-6 : Int32).toInt = -6 := rfl
      omega
    have n2 : ¬ nI j < 0 := nI_pos (by omega)
    refine ⟨-5, g, h5, ?_, ?_, (sg.tr s5).inv H⟩
    · simp only [fX9_lay_0, e, Option.bind_some, if_neg n1]
    · simp only [fX10_lay_55, e5, Option.bind_some, if_neg n2]
