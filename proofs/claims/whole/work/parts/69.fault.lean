/-! fault: both sides -/
def prun (s : Nat → Nat) : Nat → Nat → pst → Option Nat × pst
  | 0, _, t => (none, t)
  | n + 1, k, t => match pstep (s k) t.1 t.2.1 t.2.2.1 t.2.2.2 with
    | none => (some k, t)
    | some t' => prun s n (k + 1) t'
def pans (L : Nat) (q : Option Nat × pst) : Int32 := match q.1 with
  | some k => nI k
  | none => if q.2.2.2.2.isNone = true then -6 else nI L
theorem CE.cs {h : mv_H} {x p : Nat} {so : Nat → Nat} {t : pst} (hx : x ≠ 59) (C : CE h x p so t) : CS h t.1 t.2.1 t.2.2.1 t.2.2.2 := by
  obtain ⟨c1, c2⟩ := C
  rcases c2 with ⟨-, e1, e2, -, c⟩ | ⟨q, -⟩
  · rw [e1, e2]; exact ⟨c1, c⟩
  · exact absurd q hx
theorem cnt_end {so : Nat → Nat} {p s i : Nat} : cnt (up1 so p s) (p + 1) i = cnt so p i + (if s = i then 1 else 0) := by
  show cnt (up1 so p s) p i + (if up1 so p s p = i then 1 else 0) = _
  rw [cnt_congr (so' := so) p (fun j hj => by simp [up1, show ¬ j = p by omega])]
  simp [up1]
theorem pe_endN {h : mv_H} {p : Nat} {so : Nat → Nat} {t : pst} (C : CE h 59 p so t) : ∃ h', fX4_endPart_34_N h = some h' ∧ Same h h' ∧ (∀ o j, o = 35 ∨ (o = 34 ∧ j = 1) → h' o j = h o j) ∧ CS h' t.1 t.2.1 t.2.2.1 t.2.2.2 := by
  obtain ⟨c1, c2⟩ := C
  rcases c2 with ⟨q, -⟩ | ⟨-, e1, e2, s, hs, e3, c3, c4⟩
  · exact absurd rfl q
  · obtain ⟨m1, m2, m3⟩ := pz_ax3 s hs
    refine ⟨mv_u (mv_u h 37 s (nI (cnt so p s + 1))) 34 2 (-1), ?_, ?_, ?_, ?_⟩
    · unfold fX4_endPart_34_N
      rw [c3, pe_isWithin, Option.bind_some, if_neg (by rw [pz_i0, m3]; simp only [pz_32]; omega), if_pos m1, if_pos m1, m2, c1 s hs, nI_1]
      rfl
    · exact (Same.u (by unfold scr; omega)).tr (Same.u (by unfold scr; omega))
    · intro o j q
      rw [mv_u_at, if_neg (by omega), mv_u_at, if_neg (by omega)]
    · rw [e1, e2, e3]
      refine ⟨fun i hi => ?_, ?_⟩
      · rw [mv_u_at, if_neg (by omega), mv_u_at, cnt_end]
        by_cases z : i = s
        · subst z; simp
        · rw [if_neg (fun w => z w.2), c1 i hi, if_neg (fun w => z w.symm)]; rfl
      · show mv_u (mv_u h 37 s (nI (cnt so p s + 1))) 34 2 (-1) 34 2 = -1
        rw [mv_u_at, if_pos ⟨rfl, rfl⟩]
theorem An.same {h h' : mv_H} (a : An h h') : Same h h' := fun o k q => a o k (by unfold scr at q; omega)
theorem pe_scN {L : Nat} {s : Nat → Nat} (hL : L ≤ 60) (hs : ∀ i, i < L → s i ≤ 126) : ∀ (n k m : Nat) (h : mv_H) (t : pst), n + k = L → n < m → h 34 1 = nI L → (∀ i, i < L → h 35 i = nI (s i)) → CS h t.1 t.2.1 t.2.2.1 t.2.2.2 → okP k t.1 t.2.1 t.2.2.1 t.2.2.2 → ∃ h', fX4_scan_34_N_b6 m (nI k) h = some (pans L (prun s n k t), h') ∧ Same h h' ∧ ((prun s n k t).1 = none → CS h' (prun s n k t).2.1 (prun s n k t).2.2.1 (prun s n k t).2.2.2.1 (prun s n k t).2.2.2.2 ∧ okP L (prun s n k t).2.1 (prun s n k t).2.2.1 (prun s n k t).2.2.2.1 (prun s n k t).2.2.2.2)
  | n, k, 0, h, t, _, hm, _, _, _, _ => absurd hm (by omega)
  | 0, k, m + 1, h, t, hn, _, h1, h2, C, O => by
    have hkL : k = L := by omega
    refine ⟨h, ?_, Same.rf h, fun _ => ⟨C, hkL ▸ O⟩⟩
    rw [fX4_scan_34_N_b6, h1, if_neg (nI_nlt (by omega) (by omega))]
    unfold fX4_scan_34_N_b57
    simp only [prun, pans]
    obtain ⟨p, so, nu, r⟩ := t
    cases r with
    | none =>
      have : h 34 2 = -1 := C.2
      rw [if_pos this]; simp
    | some z =>
      obtain ⟨a, b, c⟩ := z
      have e : h 34 2 = nI a := C.2.1
      have ha := O.2.2.1
      rw [if_neg (by rw [e]; rcases (show a = 0 ∨ a = 1 ∨ a = 2 by omega) with rfl | rfl | rfl <;> decide), h1]; simp
  | n + 1, k, m + 1, h, t, hn, hm, h1, h2, C, O => by
    have hk : k < L := by omega
    obtain ⟨i1, i2⟩ := pz_in (n := k) (M := 60) (by omega) (by decide)
    obtain ⟨h', e, a, ce⟩ := pe_acc (hs k hk) C O
    have a1 : h' 34 1 = nI L := (a 34 1 (by omega)).trans h1
    have a2 : ∀ i, i < L → h' 35 i = nI (s i) := fun i hi => (a 35 i (by omega)).trans (h2 i hi)
    rw [fX4_scan_34_N_b6, h1, if_pos (nI_lt hk (by omega)), if_pos (show nI k < 60 from nI_lt (b := 60) (by omega) (by decide)), if_pos i1]
    simp only [i2, h2 k hk, e, Option.bind_some]
    simp only [prun]
    cases hp : pstep (s k) t.1 t.2.1 t.2.2.1 t.2.2.2 with
    | none =>
      refine ⟨h', ?_, a.same, fun z => ?_⟩
      · simp [pans]
      · simp at z
    | some t' =>
      have ce' := ce t' hp
      have O' : okP (k + 1) t'.1 t'.2.1 t'.2.2.1 t'.2.2.2 := pstep_ok O hp
      simp only [Option.isSome_some, if_true, show ¬ ((1 : Int32) = 0) by decide, if_false, if_pos i1, a2 k hk, fX4_scan_34_N_b51, nI_1]
      have e59 : (nI (s k) = 59) = (s k = 59) := pz_e (n := 59) (by have := hs k hk; omega) (by decide)
      simp only [e59]
      by_cases q : s k = 59
      · rw [q] at ce'
        obtain ⟨h3, e3, s3, u3, c3⟩ := pe_endN ce'
        obtain ⟨h4, e4, s4, c4⟩ := pe_scN hL hs n (k + 1) m h3 t' (by omega) (by omega) ((u3 34 1 (Or.inr ⟨rfl, rfl⟩)).trans a1) (fun i hi => (u3 35 i (Or.inl rfl)).trans (a2 i hi)) c3 O'
        refine ⟨h4, ?_, (a.same.tr s3).tr s4, c4⟩
        rw [if_pos q, e3, Option.bind_some]; exact e4
      · obtain ⟨h4, e4, s4, c4⟩ := pe_scN hL hs n (k + 1) m h' t' (by omega) (by omega) a1 a2 (ce'.cs q) O'
        refine ⟨h4, ?_, a.same.tr s4, c4⟩
        rw [if_neg q]; exact e4
def t0 : pst := (0, fun _ => 0, fun _ _ => 0, none)
theorem ok0 : okP 0 t0.1 t0.2.1 t0.2.2.1 t0.2.2.2 := ⟨Nat.le_refl 0, fun i hi => absurd hi (by show ¬ i < 0; omega), trivial⟩
theorem pe_start (h : mv_H) : ∃ h', fX4_startList_34 h = some h' ∧ Same h h' ∧ (∀ o j, o = 35 ∨ (o = 34 ∧ j = 1) → h' o j = h o j) ∧ CS h' t0.1 t0.2.1 t0.2.2.1 t0.2.2.2 := by
  obtain ⟨m, hm⟩ : ∃ m, mv_F = m + 1 + 1 + 1 + 1 := ⟨999996, mv_F_eq⟩
  refine ⟨mv_u (mv_u (mv_u (mv_u h 34 2 (-1)) 37 0 0) 37 1 0) 37 2 0, ?_, ?_, ?_, ?_, ?_⟩
  · unfold fX4_startList_34
    rw [hm]
    simp only [mv_let]
    rw [fX4_startList_34_b7, if_pos (by decide), if_pos (by decide)]
    simp only [mv_let]
    rw [fX4_startList_34_b7, if_pos (by decide), if_pos (by decide)]
    simp only [mv_let]
    rw [fX4_startList_34_b7, if_pos (by decide), if_pos (by decide)]
    simp only [mv_let]
    rw [fX4_startList_34_b7, if_neg (by decide)]
    rfl
  · exact (((Same.u (by unfold scr; omega)).tr (Same.u (by unfold scr; omega))).tr (Same.u (by unfold scr; omega))).tr (Same.u (by unfold scr; omega))
  · intro o j q
    rw [mv_u_at, if_neg (by omega), mv_u_at, if_neg (by omega), mv_u_at, if_neg (by omega), mv_u_at, if_neg (by omega)]
  · intro i hi
    rcases (show i = 0 ∨ i = 1 ∨ i = 2 by omega) with rfl | rfl | rfl <;> simp [mv_u_at, t0, cnt, pz_lit]
  · show mv_u (mv_u (mv_u (mv_u h 34 2 (-1)) 37 0 0) 37 1 0) 37 2 0 34 2 = -1
    simp [mv_u_at]
theorem pe_scan {h : mv_H} {L : Nat} {s : Nat → Nat} (hL : L ≤ 60) (hs : ∀ i, i < L → s i ≤ 126) (h1 : h 34 1 = nI L) (h2 : ∀ i, i < L → h 35 i = nI (s i)) : ∃ h', fX4_scan_34_N h = some (pans L (prun s L 0 t0), h') ∧ Same h h' ∧ ((prun s L 0 t0).1 = none → CS h' (prun s L 0 t0).2.1 (prun s L 0 t0).2.2.1 (prun s L 0 t0).2.2.2.1 (prun s L 0 t0).2.2.2.2 ∧ okP L (prun s L 0 t0).2.1 (prun s L 0 t0).2.2.1 (prun s L 0 t0).2.2.2.1 (prun s L 0 t0).2.2.2.2) := by
  obtain ⟨g, e, sg, u, c⟩ := pe_start h
  obtain ⟨h', e', s', c'⟩ := pe_scN hL hs L 0 mv_F g t0 (by omega) (by rw [mv_F_eq]; omega) ((u 34 1 (Or.inr ⟨rfl, rfl⟩)).trans h1) (fun i hi => (u 35 i (Or.inl rfl)).trans (h2 i hi)) c ok0
  refine ⟨h', ?_, sg.tr s', c'⟩
  unfold fX4_scan_34_N
  rw [e, Option.bind_some]; exact e'
def MR (h : mv_H) (nu : Nat → Nat → Nat) (p : Nat) : Option (Nat × Nat × Nat) → Prop
  | none => h 55 21 = 0
  | some (s, c, v) => h 55 21 = 1 ∧ h 55 20 = nI c ∧ h 55 22 = nI v ∧ h 63 p = nI s ∧ ∀ j, j < c → h 64 (3 * p + j) = nI (nu p j)
def MS (h : mv_H) (p : Nat) (so : Nat → Nat) (nu : Nat → Nat → Nat) (r : Option (Nat × Nat × Nat)) : Prop := h 55 19 = nI p ∧ (∀ k, k < p → h 63 k = nI (so k) ∧ ∀ j, j < cols (so k) → h 64 (3 * k + j) = nI (nu k j)) ∧ MR h nu p r
def Bn (h h' : mv_H) : Prop := ∀ o j, ¬ ((o = 55 ∧ 19 ≤ j ∧ j ≤ 22) ∨ o = 63 ∨ o = 64) → h' o j = h o j
theorem Bn.same {h h' : mv_H} (a : Bn h h') : Same h h' := fun o k q => a o k (by unfold scr at q; omega)
theorem pe_rs {h : mv_H} {x p : Nat} {so : Nat → Nat} {nu : Nat → Nat → Nat} (hx : x ≤ 126) (hp : p < 60) (C : MS h p so nu none) : ∃ h', fX10_readSort_55 (nI x) h = some (if (pstep x p so nu none).isSome = true then 1 else 0, h') ∧ Bn h h' ∧ ∀ t, pstep x p so nu none = some t → MS h' t.1 t.2.1 t.2.2.1 t.2.2.2 := by
  obtain ⟨C1, C2, C3⟩ := C
  obtain ⟨i1, i2⟩ := pz_in (n := p) (M := 60) hp (by decide)
  have E : ∀ v : Nat, ∃ h', h' = mv_u (mv_u (mv_u (mv_u h 63 p (nI v)) 55 20 0) 55 22 0) 55 21 1 ∧ fX10_readSort_55_b29 (nI x) (nI v) (nI p) h = (if x = 66 then some (1, h') else if x = 84 then some (1, h') else if x = 83 then some (1, h') else some (0, h')) ∧ Bn h h' ∧ MS h' p so nu (some (v, 0, 0)) := by
    intro v
    obtain ⟨g, eg⟩ : ∃ g, g = mv_u (mv_u (mv_u (mv_u h 63 p (nI v)) 55 20 0) 55 22 0) 55 21 1 := ⟨_, rfl⟩
    refine ⟨g, eg, ?_, fun o j q => ?_, ?_, fun k hk => ?_, ?_, ?_, ?_, ?_, fun j hj => absurd hj (by omega)⟩
    · unfold fX10_readSort_55_b29 fX10_readSort_55_b63
      rw [if_pos i1, i2]
      simp only [mv_let, ← eg, pz_sg, pz_e (show x < 2 ^ 31 by omega) (show 66 < 2 ^ 31 by decide), pz_e (show x < 2 ^ 31 by omega) (show 83 < 2 ^ 31 by decide), pz_e (show x < 2 ^ 31 by omega) (show 84 < 2 ^ 31 by decide)]
    · rw [eg, mv_u_at, if_neg (by omega), mv_u_at, if_neg (by omega), mv_u_at, if_neg (by omega), mv_u_at, if_neg (by omega)]
    · rw [eg, mv_u_at, if_neg (by omega), mv_u_at, if_neg (by omega), mv_u_at, if_neg (by omega), mv_u_at, if_neg (by omega)]; exact C1
    · have z := C2 k hk
      refine ⟨?_, fun j hj => ?_⟩
      · rw [eg, mv_u_at, if_neg (by omega), mv_u_at, if_neg (by omega), mv_u_at, if_neg (by omega), mv_u_at, if_neg (by omega)]; exact z.1
      · rw [eg, mv_u_at, if_neg (by omega), mv_u_at, if_neg (by omega), mv_u_at, if_neg (by omega), mv_u_at, if_neg (by omega)]; exact z.2 j hj
    · rw [eg, mv_u_at, if_pos ⟨rfl, rfl⟩]
    · rw [eg, mv_u_at, if_neg (by omega), mv_u_at, if_neg (by omega), mv_u_at, if_pos ⟨rfl, rfl⟩]; rfl
    · rw [eg, mv_u_at, if_neg (by omega), mv_u_at, if_pos ⟨rfl, rfl⟩]; rfl
    · rw [eg, mv_u_at, if_neg (by omega), mv_u_at, if_neg (by omega), mv_u_at, if_neg (by omega), mv_u_at, if_pos ⟨rfl, rfl⟩]
  unfold fX10_readSort_55
  rw [C1]
  simp only [pz_sg, pz_e (show x < 2 ^ 31 by omega) (show 66 < 2 ^ 31 by decide), pz_e (show x < 2 ^ 31 by omega) (show 84 < 2 ^ 31 by decide), pstep]
  by_cases q1 : x = 66
  · obtain ⟨h', -, e, b, m⟩ := E 0
    refine ⟨h', ?_, b, fun t ht => ?_⟩
    · rw [if_pos q1]; rw [if_pos q1] at e
      rw [show (0 : Int32) = nI 0 from rfl] at *
      rw [e]; simp [q1]
    · rw [if_pos q1] at ht; cases ht; exact m
  · by_cases q2 : x = 84
    · obtain ⟨h', -, e, b, m⟩ := E 1
      refine ⟨h', ?_, b, fun t ht => ?_⟩
      · rw [if_neg q1, if_pos q2]; rw [if_neg q1, if_pos q2] at e
        exact e.trans (by simp [q2])
      · rw [if_neg q1, if_pos q2] at ht; cases ht; exact m
    · obtain ⟨h', -, e, b, m⟩ := E 2
      rw [if_neg q1, if_neg q2] at e
      rw [if_neg q1, if_neg q2]
      by_cases q3 : x = 83
      · refine ⟨h', ?_, b, fun t ht => ?_⟩
        · rw [if_pos q3] at e
          exact e.trans (by simp [q3])
        · rw [if_neg q1, if_neg q2, if_pos q3] at ht; cases ht; exact m
      · refine ⟨h', ?_, b, fun t ht => ?_⟩
        · rw [if_neg q3] at e
          exact e.trans (by simp [q1, q2, q3])
        · rw [if_neg q1, if_neg q2, if_neg q3] at ht; cases ht
theorem pe_rm1 {h : mv_H} {x p s c v k : Nat} {so : Nat → Nat} {nu : Nat → Nat → Nat} (hx : x ≤ 126) (hp : p < 60) (C : MS h p so nu (some (s, c, v))) (O : okP k p so nu (some (s, c, v))) : ∃ h', fX10_readMore_55 (nI x) h = some (if (pstep x p so nu (some (s, c, v))).isSome = true then 1 else 0, h') ∧ Bn h h' ∧ ∀ t, pstep x p so nu (some (s, c, v)) = some t → MS h' t.1 t.2.1 t.2.2.1 t.2.2.2 := by
  obtain ⟨C1, C2, c1, c2, c3, c4, c5⟩ := C
  obtain ⟨O1, O2, O3, O4, O5, O6⟩ := O
  obtain ⟨i1, i2⟩ := pz_in (n := p) (M := 60) hp (by decide)
  have cl := cols_le s
  have gl := grt_le s
  have e2 : (nI s = 2) = (s = 2) := pz_e (n := 2) (by omega) (by decide)
  have R : fX10_readMore_55 (nI x) h = fX10_readMore_55_b18 (nI x) (nI (cols s)) h := by
    unfold fX10_readMore_55
    rw [C1, if_pos i1, i2, c4]
    simp only [e2]
    by_cases q : s = 2
    · rw [if_pos q, show cols s = 2 by simp [cols, q]]; rfl
    · rw [if_neg q, show cols s = 3 by simp [cols, q]]; rfl
  have w : fX10_in (Int32.toInt64 (nI x)) 48 57 = some (if 48 ≤ x ∧ x ≤ 57 then 1 else 0) := by
    rw [pe_in, Int32.toInt_toInt64, nI_toInt (by omega)]
    exact congrArg some (pz_if (by simp only [pz_5748]; omega))
  rw [R]
  unfold fX10_readMore_55_b18
  rw [w, Option.bind_some]
  simp only [pz_i0, pstep]
  by_cases q : 48 ≤ x ∧ x ≤ 57
  · obtain ⟨g, eg⟩ : ∃ g, g = mv_u h 55 22 (nI (10 * v + (x - 48))) := ⟨_, rfl⟩
    have ed : (10 : Int32) * h 55 22 + nI x - 48 = nI (10 * v + (x - 48)) := by
      rw [c3, pz_sg.2.2.2.2.2.2, pk_mul, nI_add, pz_sg.2.2.2.2.2.1, pk_sub (by omega)]
      congr 1; omega
    have gA : Bn h g := fun o j z => by rw [eg, mv_u_at, if_neg (by omega)]
    have g19 : g 55 19 = nI p := by rw [eg, mv_u_at, if_neg (by omega)]; exact C1
    have g63 : g 63 p = nI s := by rw [eg, mv_u_at, if_neg (by omega)]; exact c4
    have g22 : g 55 22 = nI (10 * v + (x - 48)) := by rw [eg, mv_u_at, if_pos ⟨rfl, rfl⟩]
    have I : ∀ M : Int64, M.toInt = grt s → fX10_readMore_55_b77 M 1 (Int32.toInt64 (g 55 22)) g = some (if ¬ (10 * v + (x - 48) = 0 ∨ grt s < 10 * v + (x - 48)) then 1 else 0, g) := by
      intro M hM
      unfold fX10_readMore_55_b77
      rw [pe_in, Option.bind_some, if_pos pz_01, Int32.toInt_toInt64, g22, nI_toInt (by omega), hM]
      exact congrArg some (Prod.ext (pz_if (by simp only [pz_64]; omega)) rfl)
    have J : (mv_let (mv_u h 55 22 (((10 * (h 55 22)) + nI x) - 48)) fun h329 : mv_H => if mv_in (h329 55 19) 60 then (if (h329 63 (h329 55 19).toNatClampNeg) = 2 then fX10_readMore_55_b77 150 1 (Int32.toInt64 (h329 55 22)) h329 else fX10_readMore_55_b77 20 1 (Int32.toInt64 (h329 55 22)) h329) else none) = some (if ¬ (10 * v + (x - 48) = 0 ∨ grt s < 10 * v + (x - 48)) then 1 else 0, g) := by
      rw [ed, ← eg]
      simp only [mv_let]
      rw [g19, if_pos i1, i2, g63]
      simp only [e2]
      by_cases z : s = 2
      · rw [if_pos z, I 150 (by rw [show grt s = 150 by simp [grt, z]]; rfl)]
      · rw [if_neg z, I 20 (by rw [show grt s = 20 by simp [grt, z]]; rfl)]
    refine ⟨g, ?_, gA, fun t ht => ?_⟩
    · rw [if_neg (fun z => z q), J]
      by_cases z : 10 * v + (x - 48) = 0 ∨ grt s < 10 * v + (x - 48)
      · simp only [if_pos q, if_pos z, if_neg (fun y : ¬ (10 * v + (x - 48) = 0 ∨ grt s < 10 * v + (x - 48)) => y z)]; simp
      · simp only [if_pos q, if_neg z, if_pos (show ¬ (10 * v + (x - 48) = 0 ∨ grt s < 10 * v + (x - 48)) from z)]; simp
    · rw [if_pos q] at ht
      by_cases z : 10 * v + (x - 48) = 0 ∨ grt s < 10 * v + (x - 48)
      · rw [if_pos z] at ht; cases ht
      · rw [if_neg z] at ht; cases ht
        refine ⟨g19, fun k hk => ?_, ?_, ?_, g22, g63, fun j hj => ?_⟩
        · have y := C2 k hk
          exact ⟨by rw [eg, mv_u_at, if_neg (by omega)]; exact y.1, fun j hj => by rw [eg, mv_u_at, if_neg (by omega)]; exact y.2 j hj⟩
        · rw [eg, mv_u_at, if_neg (by omega)]; exact c1
        · rw [eg, mv_u_at, if_neg (by omega)]; exact c2
        · rw [eg, mv_u_at, if_neg (by omega)]; exact c5 j hj
  · rw [if_pos q]
    obtain ⟨j1, j2⟩ := pz_in (n := 3 * p + c) (M := 180) (by omega) (by decide)
    obtain ⟨hk, ehk⟩ : ∃ hk, hk = mv_u (mv_u (mv_u h 64 (3 * p + c) (nI v)) 55 20 (nI (c + 1))) 55 22 0 := ⟨_, rfl⟩
    obtain ⟨he, ehe⟩ : ∃ he, he = mv_u (mv_u hk 55 19 (nI (p + 1))) 55 21 0 := ⟨_, rfl⟩
    have ei : (3 : Int32) * h 55 19 + h 55 20 = nI (3 * p + c) := by rw [C1, c2, show (3 : Int32) = nI 3 from rfl, pk_mul, nI_add]
    have e59 : (nI x = 59) = (x = 59) := pz_e (n := 59) (by omega) (by decide)
    have e120 : (nI x = 120) = (x = 120) := pz_e (n := 120) (by omega) (by decide)
    have B : ∀ z : Bool, fX10_readMore_55_b114 (nI x) (if z = true then 1 else 0) h = some (if z = true then 1 else 0, if x = 59 then he else hk) := by
      intro z
      unfold fX10_readMore_55_b114
      rw [ei, if_pos j1, j2, c3]
      simp only [mv_let]
      rw [show mv_u h 64 (3 * p + c) (nI v) 55 20 = nI c from by rw [mv_u_at, if_neg (by omega), c2], nI_1, ← ehk]
      rw [show hk 55 19 = nI p from by rw [ehk, mv_u_at, if_neg (by omega), mv_u_at, if_neg (by omega), mv_u_at, if_neg (by omega)]; exact C1, nI_1, ← ehe, if_pos pz_01, if_pos pz_01]
      simp only [e59]
      by_cases y : x = 59
      · rw [if_pos y, if_pos y]
      · rw [if_neg y, if_neg y]
    have Bt := B true
    have Bf := B false
    simp only [if_true, Bool.false_eq_true, if_false] at Bt Bf
    have hkB : Bn h hk := fun o j z => by rw [ehk, mv_u_at, if_neg (by omega), mv_u_at, if_neg (by omega), mv_u_at, if_neg (by omega)]
    have heB : Bn h he := fun o j z => by rw [ehe, mv_u_at, if_neg (by omega), mv_u_at, if_neg (by omega)]; exact hkB o j z
    have hxB : Bn h (if x = 59 then he else hk) := by
      by_cases y : x = 59
      · rw [if_pos y]; exact heB
      · rw [if_neg y]; exact hkB
    have hk64 : ∀ k j, k ≤ p → j < 3 → ¬ (k = p ∧ j = c) → hk 64 (3 * k + j) = h 64 (3 * k + j) := fun k j h1 h2 h3 => by rw [ehk, mv_u_at, if_neg (by omega), mv_u_at, if_neg (by omega), mv_u_at, if_neg (by omega)]
    have hk64c : hk 64 (3 * p + c) = nI v := by rw [ehk, mv_u_at, if_neg (by omega), mv_u_at, if_neg (by omega), mv_u_at, if_pos ⟨rfl, rfl⟩]
    have hk63 : ∀ k, hk 63 k = h 63 k := fun k => by rw [ehk, mv_u_at, if_neg (by omega), mv_u_at, if_neg (by omega), mv_u_at, if_neg (by omega)]
    have hkc : ∀ j, j < c + 1 → hk 64 (3 * p + j) = nI (up2 nu p c v p j) := fun j hj => by
      by_cases z : j = c
      · subst z; rw [hk64c]; simp [up2]
      · rw [hk64 p j (Nat.le_refl p) (by omega) (fun y => z y.2)]; simp [up2, z]; exact c5 j (by omega)
    have hko : ∀ k, k < p → hk 63 k = nI (so k) ∧ ∀ j, j < cols (so k) → hk 64 (3 * k + j) = nI (up2 nu p c v k j) := fun k hk' => by
      have y := C2 k hk'
      refine ⟨(hk63 k).trans y.1, fun j hj => ?_⟩
      have := cols_le (so k)
      rw [hk64 k j (by omega) (by omega) (by omega)]; simp [up2, show ¬ k = p by omega]; exact y.2 j hj
    have e0 : (0 < h 55 22) = (0 < v) := by rw [c3]; exact pz_lt3 (x := 0) (by decide) (by omega)
    have ec : (h 55 20 + 1 = nI (cols s)) = (c + 1 = cols s) := by rw [c2, nI_1]; exact pz_e (by omega) (by omega)
    simp only [e0, ec, fX10_readMore_55_b106, fX10_readMore_55_b113, e59, e120, Bt, Bf, if_neg q]
    refine ⟨if x = 59 then he else hk, ?_, hxB, fun t ht => ?_⟩
    · by_cases q0 : v = 0
      · simp [q0]
      · have q0' : 0 < v := by omega
        by_cases q1 : c + 1 = cols s
        · by_cases q2 : x = 59
          · simp [q0, q0', q1, q2]
          · simp [q0, q0', q1, q2]
        · by_cases q2 : x = 120
          · simp [q0, q0', q1, q2]
          · simp [q0, q0', q1, q2]
    · by_cases q0 : v = 0
      · rw [if_pos q0] at ht; cases ht
      · rw [if_neg q0] at ht
        by_cases q1 : c + 1 = cols s
        · rw [if_pos q1] at ht
          by_cases q2 : x = 59
          · rw [if_pos q2] at ht; cases ht
            rw [if_pos q2]
            have u63 : ∀ k, he 63 k = hk 63 k := fun k => by rw [ehe, mv_u_at, if_neg (by omega), mv_u_at, if_neg (by omega)]
            have u64 : ∀ k, he 64 k = hk 64 k := fun k => by rw [ehe, mv_u_at, if_neg (by omega), mv_u_at, if_neg (by omega)]
            refine ⟨by rw [ehe, mv_u_at, if_neg (by omega), mv_u_at, if_pos ⟨rfl, rfl⟩], fun k hk' => ?_, ?_⟩
            · by_cases z : k = p
              · subst z
                have e1 : up1 so k s k = s := by simp [up1]
                show he 63 k = nI (up1 so k s k) ∧ ∀ j, j < cols (up1 so k s k) → he 64 (3 * k + j) = nI (up2 nu k c v k j)
                rw [e1]
                exact ⟨(u63 k).trans ((hk63 k).trans c4), fun j hj => (u64 _).trans (hkc j (by omega))⟩
              · have e1 : up1 so p s k = so k := by simp [up1, z]
                have kp : k < p := by
                  have : k < p + 1 := hk'
                  omega
                show he 63 k = nI (up1 so p s k) ∧ ∀ j, j < cols (up1 so p s k) → he 64 (3 * k + j) = nI (up2 nu p c v k j)
                rw [e1]
                exact ⟨(u63 k).trans (hko k kp).1, fun j hj => (u64 _).trans ((hko k kp).2 j hj)⟩
            · show he 55 21 = 0
              rw [ehe, mv_u_at, if_pos ⟨rfl, rfl⟩]
          · rw [if_neg q2] at ht; cases ht
        · rw [if_neg q1] at ht
          by_cases q2 : x = 120
          · rw [if_pos q2] at ht; cases ht
            rw [if_neg (by omega)]
            refine ⟨?_, hko, ?_, ?_, ?_, (hk63 p).trans c4, hkc⟩
            · rw [ehk, mv_u_at, if_neg (by omega), mv_u_at, if_neg (by omega), mv_u_at, if_neg (by omega)]; exact C1
            · rw [ehk, mv_u_at, if_neg (by omega), mv_u_at, if_neg (by omega), mv_u_at, if_neg (by omega)]; exact c1
            · rw [ehk, mv_u_at, if_neg (by omega), mv_u_at, if_pos ⟨rfl, rfl⟩]
            · rw [ehk, mv_u_at, if_pos ⟨rfl, rfl⟩]; rfl
          · rw [if_neg q2] at ht; cases ht
theorem pe_flN {L : Nat} {s : Nat → Nat} (hL : L ≤ 60) (hs : ∀ i, i < L → s i ≤ 126) : ∀ (n k m : Nat) (h : mv_H) (t : pst), n + k = L → n < m → h 55 16 = nI L → (∀ i, i < L → h 62 i = nI (s i)) → MS h t.1 t.2.1 t.2.2.1 t.2.2.2 → okP k t.1 t.2.1 t.2.2.1 t.2.2.2 → ∃ h', fX10_fault_55_b12 m (nI k) h = some (pans L (prun s n k t), h') ∧ Same h h' ∧ ((prun s n k t).1 = none → MS h' (prun s n k t).2.1 (prun s n k t).2.2.1 (prun s n k t).2.2.2.1 (prun s n k t).2.2.2.2)
  | n, k, 0, h, t, _, hm, _, _, _, _ => absurd hm (by omega)
  | 0, k, m + 1, h, t, hn, _, h1, h2, C, O => by
    refine ⟨h, ?_, Same.rf h, fun _ => C⟩
    rw [fX10_fault_55_b12, h1, if_neg (nI_nlt (by omega) (by omega))]
    simp only [prun, pans]
    obtain ⟨p, so, nu, r⟩ := t
    cases r with
    | none =>
      have : h 55 21 = 0 := C.2.2
      rw [if_pos this]; simp
    | some z =>
      obtain ⟨a, b, c⟩ := z
      have e : h 55 21 = 1 := C.2.2.1
      rw [if_neg (by rw [e]; decide)]; simp
  | n + 1, k, m + 1, h, t, hn, hm, h1, h2, C, O => by
    have hk : k < L := by omega
    obtain ⟨i1, i2⟩ := pz_in (n := k) (M := 60) (by omega) (by decide)
    obtain ⟨p, so, nu, r⟩ := t
    have hp : p < 60 := by have := O.1; simp only at this; omega
    have key : ∃ h', fX10_fault_55_b12 (m + 1) (nI k) h = fX10_fault_55_b50 (fX10_fault_55_b12 m) (nI k) (if (pstep (s k) p so nu r).isSome = true then 1 else 0) h' ∧ Bn h h' ∧ ∀ t, pstep (s k) p so nu r = some t → MS h' t.1 t.2.1 t.2.2.1 t.2.2.2 := by
      cases r with
      | none =>
        obtain ⟨h', e, b, c⟩ := pe_rs (hs k hk) hp C
        have z : h 55 21 = 0 := C.2.2
        refine ⟨h', ?_, b, c⟩
        rw [fX10_fault_55_b12, h1, if_pos (nI_lt hk (by omega)), if_pos z, if_pos i1, i2, h2 k hk, e]; rfl
      | some y =>
        obtain ⟨a, b', c'⟩ := y
        obtain ⟨h', e, b, c⟩ := pe_rm1 (hs k hk) hp C O
        have z : h 55 21 = 1 := C.2.2.1
        refine ⟨h', ?_, b, c⟩
        rw [fX10_fault_55_b12, h1, if_pos (nI_lt hk (by omega)), if_neg (by rw [z]; decide), if_pos i1, i2, h2 k hk, e]; rfl
    obtain ⟨h', e, b, c⟩ := key
    rw [e]
    unfold fX10_fault_55_b50
    simp only [prun]
    cases hq : pstep (s k) p so nu r with
    | none =>
      refine ⟨h', ?_, b.same, fun z => ?_⟩
      · simp [pans]
      · simp at z
    | some t' =>
      have O' : okP (k + 1) t'.1 t'.2.1 t'.2.2.1 t'.2.2.2 := pstep_ok O hq
      obtain ⟨h4, e4, s4, c4⟩ := pe_flN hL hs n (k + 1) m h' t' (by omega) (by omega) ((b 55 16 (by omega)).trans h1) (fun i hi => (b 62 i (by omega)).trans (h2 i hi)) (c t' hq) O'
      refine ⟨h4, ?_, b.same.tr s4, c4⟩
      simp only [Option.isSome_some, if_true, show ¬ ((1 : Int32) = 0) by decide, if_false, nI_1]
      exact e4
theorem pe_fault {h : mv_H} {L : Nat} {s : Nat → Nat} (hL : L ≤ 60) (hs : ∀ i, i < L → s i ≤ 126) (h1 : h 55 16 = nI L) (h2 : ∀ i, i < L → h 62 i = nI (s i)) : ∃ h', fX10_fault_55 h = some (pans L (prun s L 0 t0), h') ∧ Same h h' ∧ ((prun s L 0 t0).1 = none → MS h' (prun s L 0 t0).2.1 (prun s L 0 t0).2.2.1 (prun s L 0 t0).2.2.2.1 (prun s L 0 t0).2.2.2.2) := by
  obtain ⟨g, eg⟩ : ∃ g, g = mv_u (mv_u h 55 19 0) 55 21 0 := ⟨_, rfl⟩
  have sg : Same h g := eg ▸ (Same.u (by unfold scr; omega)).tr (Same.u (by unfold scr; omega))
  have m0 : MS g t0.1 t0.2.1 t0.2.2.1 t0.2.2.2 := ⟨by rw [eg, mv_u_at, if_neg (by omega), mv_u_at, if_pos ⟨rfl, rfl⟩]; rfl, fun k hk => absurd hk (by show ¬ k < 0; omega), by show g 55 21 = 0; rw [eg, mv_u_at, if_pos ⟨rfl, rfl⟩]⟩
  obtain ⟨h', e', s', c'⟩ := pe_flN hL hs L 0 mv_F g t0 (by omega) (by rw [mv_F_eq]; omega) ((sg 55 16 (by unfold scr; omega)).trans h1) (fun i hi => (sg 62 i (by unfold scr; omega)).trans (h2 i hi)) m0 ok0
  refine ⟨h', ?_, sg.tr s', c'⟩
  unfold fX10_fault_55
  simp only [mv_let]
  rw [← eg]; exact e'
theorem st_fault : Sim fX9_fault_0 fX10_fault_55 := by
  intro h H
  obtain ⟨n, s, hn, h1, h2, hs⟩ := H.2.2.1
  obtain ⟨g, e, sg, -⟩ := pe_scan (s := s) hn (fun i hi => (hs i hi).2.2.2) h1 (fun i hi => (hs i hi).1)
  obtain ⟨g2, e2, sg2, -⟩ := pe_fault (h := g) (s := s) hn (fun i hi => (hs i hi).2.2.2) ((sg 55 16 (by unfold scr; omega)).trans h2) (fun i hi => (sg 62 i (by unfold scr; omega)).trans (hs i hi).2.1)
  refine ⟨pans n (prun s n 0 t0), g, g2, ?_, e2, (sg.tr sg2).inv H⟩
  unfold fX9_fault_0
  rw [e]; rfl
