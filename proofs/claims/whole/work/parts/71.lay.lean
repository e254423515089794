/-! lay -/
def ff (b : Nat) : Nat := if b.testBit 0 = false then 0 else if b.testBit 1 = false then 1 else if b.testBit 2 = false then 2 else if b.testBit 3 = false then 3 else if b.testBit 4 = false then 4 else if b.testBit 5 = false then 5 else 6
theorem ff_p : ∀ b, b < 64 → pc b < 6 → ff b < 6 ∧ b.testBit (ff b) = false ∧ (∀ j, j < ff b → b.testBit j = true) ∧ pc (b ||| 2 ^ ff b) = pc b + 1 := by decide +kernel
theorem pe_fr {B : Nat} (hB : B < 64) (hp : pc B < 6) : ∀ (n k m : Nat), n + k = ff B → n < m → fX10_freeOf_b2 m (nI B) (nI k) = some (nI (ff B))
  | n, k, 0, _, hm => absurd hm (by omega)
  | 0, k, m + 1, hn, _ => by
    obtain ⟨f1, f2, f3, -⟩ := ff_p B hB hp
    obtain rfl : k = ff B := by omega
    rw [fX10_freeOf_b2, if_neg (by rw [pz_bit B hB _ f1, f2]; decide)]
  | n + 1, k, m + 1, hn, hm => by
    obtain ⟨f1, f2, f3, -⟩ := ff_p B hB hp
    rw [fX10_freeOf_b2, if_pos (by rw [pz_bit B hB k (by omega)]; exact f3 k (by omega)), nI_1]
    exact pe_fr hB hp n (k + 1) m (by omega) (by omega)
theorem pe_free {B : Nat} (hB : B < 64) (hp : pc B < 6) : fX10_freeOf (nI B) = some (nI (ff B)) := pe_fr hB hp (ff B) 0 mv_F (by omega) (by have := (ff_p B hB hp).1; rw [mv_F_eq]; omega)
theorem pe_paf2 {h : mv_H} {B : Nat} {a b c : Int32} (hB : B < 64) (hp : pc B < 6) (e : h 2 2 = nI B) : ∀ (n k m : Nat), n + k = ff B → n < m → fX7_putAtFirstFree_2_b3 m a b c (nI k) h = some (pv_put h 3 2 2 (ff B) a b c)
  | n, k, 0, _, hm => absurd hm (by omega)
  | 0, k, m + 1, hn, _ => by
    obtain ⟨f1, f2, f3, -⟩ := ff_p B hB hp
    obtain rfl : k = ff B := by omega
    rw [fX7_putAtFirstFree_2_b3, if_pos (pz_l6 f1), pe_has2, e, Option.bind_some, if_pos (by rw [pz_i0, pz_bit B hB _ f1, f2]; simp), pe_put2 f1]; rfl
  | n + 1, k, m + 1, hn, hm => by
    obtain ⟨f1, f2, f3, -⟩ := ff_p B hB hp
    have hk : k < 6 := by omega
    rw [fX7_putAtFirstFree_2_b3, if_pos (pz_l6 hk), pe_has2, e, Option.bind_some, if_neg (by rw [pz_i0, pz_bit B hB k hk, f3 k (by omega), (pz_i6 k hk).2.2]; simp; omega), nI_1]
    exact pe_paf2 hB hp e n (k + 1) m (by omega) (by omega)
theorem pe_paf4 {h : mv_H} {B : Nat} {a b c : Int32} (hB : B < 64) (hp : pc B < 6) (e : h 4 2 = nI B) : ∀ (n k m : Nat), n + k = ff B → n < m → fX7_putAtFirstFree_4_b3 m a b c (nI k) h = some (pv_put h 5 4 2 (ff B) a b c)
  | n, k, 0, _, hm => absurd hm (by omega)
  | 0, k, m + 1, hn, _ => by
    obtain ⟨f1, f2, f3, -⟩ := ff_p B hB hp
    obtain rfl : k = ff B := by omega
    rw [fX7_putAtFirstFree_4_b3, if_pos (pz_l6 f1), pe_has4, e, Option.bind_some, if_pos (by rw [pz_i0, pz_bit B hB _ f1, f2]; simp), pe_put4 f1]; rfl
  | n + 1, k, m + 1, hn, hm => by
    obtain ⟨f1, f2, f3, -⟩ := ff_p B hB hp
    have hk : k < 6 := by omega
    rw [fX7_putAtFirstFree_4_b3, if_pos (pz_l6 hk), pe_has4, e, Option.bind_some, if_neg (by rw [pz_i0, pz_bit B hB k hk, f3 k (by omega), (pz_i6 k hk).2.2]; simp; omega), nI_1]
    exact pe_paf4 hB hp e n (k + 1) m (by omega) (by omega)
theorem pe_paf6 {h : mv_H} {B : Nat} {a b c : Int32} (hB : B < 64) (hp : pc B < 6) (e : h 6 2 = nI B) : ∀ (n k m : Nat), n + k = ff B → n < m → fX7_putAtFirstFree_6_b3 m a b c (nI k) h = some (pv_put h 7 6 2 (ff B) a b c)
  | n, k, 0, _, hm => absurd hm (by omega)
  | 0, k, m + 1, hn, _ => by
    obtain ⟨f1, f2, f3, -⟩ := ff_p B hB hp
    obtain rfl : k = ff B := by omega
    rw [fX7_putAtFirstFree_6_b3, if_pos (pz_l6 f1), pe_has6, e, Option.bind_some, if_pos (by rw [pz_i0, pz_bit B hB _ f1, f2]; simp), pe_put6 f1]; rfl
  | n + 1, k, m + 1, hn, hm => by
    obtain ⟨f1, f2, f3, -⟩ := ff_p B hB hp
    have hk : k < 6 := by omega
    rw [fX7_putAtFirstFree_6_b3, if_pos (pz_l6 hk), pe_has6, e, Option.bind_some, if_neg (by rw [pz_i0, pz_bit B hB k hk, f3 k (by omega), (pz_i6 k hk).2.2]; simp; omega), nI_1]
    exact pe_paf6 hB hp e n (k + 1) m (by omega) (by omega)
def layOne (N : Nat → Nat → Nat) (s a b c : Nat) : Nat → Nat → Nat := if s = 0 then pv_Nb N 1 (ff (N 0 0)) a b c else if s = 1 then pv_Nb N 2 (ff (N 0 1)) a b c else pv_Ns N (ff (N 0 2)) a b
def layN (N : Nat → Nat → Nat) (so : Nat → Nat) (nu : Nat → Nat → Nat) : Nat → Nat → Nat → Nat
  | 0 => N
  | k + 1 => layOne (layN N so nu k) (so k) (nu k 0) (nu k 1) (nu k 2)
theorem layN_congr {N : Nat → Nat → Nat} {so so' : Nat → Nat} {nu nu' : Nat → Nat → Nat} : ∀ k, (∀ j, j < k → so j = so' j ∧ ∀ i, nu j i = nu' j i) → layN N so nu k = layN N so' nu' k
  | 0, _ => rfl
  | k + 1, h => by
    unfold layN
    rw [layN_congr k (fun j hj => h j (by omega)), (h k (by omega)).1, (h k (by omega)).2 0, (h k (by omega)).2 1, (h k (by omega)).2 2]
theorem okN_bits {N : Nat → Nat → Nat} (hN : okN N) {i : Nat} (hi : i < 3) : N 0 i < 64 := by
  rcases (show i = 0 ∨ i = 1 ∨ i = 2 by omega) with rfl | rfl | rfl
  · exact hN.1.1
  · exact hN.1.2.1
  · exact hN.1.2.2
theorem layOne_ok {N : Nat → Nat → Nat} {s a b c : Nat} (hN : okN N) (hs : s < 3) (hp : pc (N 0 s) < 6) (h : ∀ j, j < cols s → 1 ≤ (if j = 0 then a else if j = 1 then b else c) ∧ (if j = 0 then a else if j = 1 then b else c) ≤ grt s) : okN (layOne N s a b c) ∧ ∀ i, i < 3 → pc (layOne N s a b c 0 i) = pc (N 0 i) + (if s = i then 1 else 0) := by
  obtain ⟨f1, f2, f3, f4⟩ := ff_p _ (okN_bits hN hs) hp
  rcases (show s = 0 ∨ s = 1 ∨ s = 2 by omega) with rfl | rfl | rfl
  · have k0 := h 0 (by decide)
    have k1 := h 1 (by decide)
    have k2 := h 2 (by decide)
    simp [grt] at k0 k1 k2
    refine ⟨pv_putB_N f1 hN ⟨k0, k1, k2⟩, fun i hi => ?_⟩
    rcases (show i = 0 ∨ i = 1 ∨ i = 2 by omega) with rfl | rfl | rfl
    · simp [layOne, pv_Nb, f4]
    · simp [layOne, pv_Nb]
    · simp [layOne, pv_Nb]
  · have k0 := h 0 (by decide)
    have k1 := h 1 (by decide)
    have k2 := h 2 (by decide)
    simp [grt] at k0 k1 k2
    refine ⟨pv_putT_N f1 hN ⟨k0, k1, k2⟩, fun i hi => ?_⟩
    rcases (show i = 0 ∨ i = 1 ∨ i = 2 by omega) with rfl | rfl | rfl
    · simp [layOne, pv_Nb]
    · simp [layOne, pv_Nb, f4]
    · simp [layOne, pv_Nb]
  · have k0 := h 0 (by decide)
    have k1 := h 1 (by decide)
    simp [grt] at k0 k1
    refine ⟨pv_putSh_N f1 hN ⟨k0, k1⟩, fun i hi => ?_⟩
    rcases (show i = 0 ∨ i = 1 ∨ i = 2 by omega) with rfl | rfl | rfl
    · simp [layOne, pv_Ns]
    · simp [layOne, pv_Ns]
    · simp [layOne, pv_Ns, f4]
theorem cnt_mono {so : Nat → Nat} {i : Nat} : ∀ {k p : Nat}, k ≤ p → cnt so k i ≤ cnt so p i
  | k, 0, h => by rw [show k = 0 by omega]; exact Nat.le_refl _
  | k, p + 1, h => by
    by_cases e : k = p + 1
    · rw [e]; exact Nat.le_refl _
    · have := cnt_mono (so := so) (i := i) (show k ≤ p by omega)
      show cnt so k i ≤ cnt so p i + _
      omega
theorem num_at {nu : Nat → Nat → Nat} {k j : Nat} (hj : j < 3) : (if j = 0 then nu k 0 else if j = 1 then nu k 1 else nu k 2) = nu k j := by
  rcases (show j = 0 ∨ j = 1 ∨ j = 2 by omega) with rfl | rfl | rfl <;> simp
theorem layN_ok {N : Nat → Nat → Nat} {so : Nat → Nat} {nu : Nat → Nat → Nat} (hN : okN N) : ∀ p, (∀ k, k < p → so k < 3 ∧ ∀ j, j < cols (so k) → 1 ≤ nu k j ∧ nu k j ≤ grt (so k)) → (∀ i, i < 3 → pc (N 0 i) + cnt so p i ≤ 6) → okN (layN N so nu p) ∧ ∀ i, i < 3 → pc (layN N so nu p 0 i) = pc (N 0 i) + cnt so p i
  | 0, _, _ => ⟨hN, fun i hi => rfl⟩
  | p + 1, h, hc => by
    obtain ⟨h1, h2⟩ := layN_ok hN p (fun k hk => h k (by omega)) (fun i hi => by have := hc i hi; have := cnt_mono (so := so) (i := i) (show p ≤ p + 1 by omega); omega)
    have hp := h p (by omega)
    have hcp := hc (so p) hp.1
    have e : cnt so (p + 1) (so p) = cnt so p (so p) + 1 := by show cnt so p (so p) + (if so p = so p then 1 else 0) = _; simp
    obtain ⟨g1, g2⟩ := layOne_ok (a := nu p 0) (b := nu p 1) (c := nu p 2) h1 hp.1 (by rw [h2 _ hp.1]; omega) (fun j hj => by rw [num_at (by have := cols_le (so p); omega)]; exact hp.2 j hj)
    refine ⟨g1, fun i hi => ?_⟩
    show pc (layOne (layN N so nu p) (so p) (nu p 0) (nu p 1) (nu p 2) 0 i) = pc (N 0 i) + (cnt so p i + (if so p = i then 1 else 0))
    rw [g2 i hi, h2 i hi]; omega
/-- goods may change on the class's side, no more -/
def Kc (h h' : mv_H) : Prop := ∀ o j, ¬ scr o j → ¬ (2 ≤ o ∧ o ≤ 7 ∧ ¬ (j = 0 ∧ (o = 2 ∨ o = 4 ∨ o = 6))) → h' o j = h o j
theorem Kc.tr {a b c : mv_H} (h1 : Kc a b) (h2 : Kc b c) : Kc a c := fun o j q1 q2 => (h2 o j q1 q2).trans (h1 o j q1 q2)
theorem Same.kc {a b : mv_H} (h : Same a b) : Kc a b := fun o j q1 _ => h o j q1
theorem pe_end1 {h : mv_H} {p : Nat} {so : Nat → Nat} {t : pst} {N : Nat → Nat → Nat} (C : CE h 59 p so t) (hG : rdG h 1 N) (hN : okN N) (hp : ∀ s, t.2.1 = up1 so p s → s < 3 → pc (N 0 s) < 6) : ∃ h', fX4_endPart_34_1 h = some h' ∧ Kc h h' ∧ CS h' t.1 t.2.1 t.2.2.1 t.2.2.2 ∧ rdG h' 1 (layOne N (t.2.1 p) (t.2.2.1 p 0) (t.2.2.1 p 1) (t.2.2.1 p 2)) := by
  obtain ⟨c1, c2⟩ := C
  rcases c2 with ⟨q, -⟩ | ⟨-, e1, e2, s, hs, e3, c3, c4⟩
  · exact absurd rfl q
  · obtain ⟨m1, m2, m3⟩ := pz_ax3 s hs
    have esp : t.2.1 p = s := by rw [e3]; simp [up1]
    have hps := hp s e3 hs
    obtain ⟨f1, -, -, -⟩ := ff_p _ (okN_bits hN hs) hps
    obtain ⟨g, eg⟩ : ∃ g, g = mv_u h 37 s (nI (cnt so p s + 1)) := ⟨_, rfl⟩
    have sg : Same h g := eg ▸ Same.u (by unfold scr; omega)
    have gG := sg.rdG (Or.inl rfl) hG
    have g2 : g 34 2 = nI s := by rw [eg, mv_u_at, if_neg (by omega)]; exact c3
    have g36 : ∀ j, j < cols s → g 36 j = nI (t.2.2.1 p j) := fun j hj => by rw [eg, mv_u_at, if_neg (by omega)]; exact c4 j hj
    have g37 : ∀ i, i < 3 → g 37 i = nI (cnt (up1 so p s) (p + 1) i) := fun i hi => by
      rw [eg, mv_u_at, cnt_end]
      by_cases z : i = s
      · subst z; simp
      · rw [if_neg (fun w => z w.2), c1 i hi, if_neg (fun w => z w.symm)]; rfl
    have fin : ∀ g' : mv_H, Kc g g' → (∀ i, i < 3 → g' 37 i = g 37 i) → Kc h (mv_u g' 34 2 (-1)) ∧ CS (mv_u g' 34 2 (-1)) t.1 t.2.1 t.2.2.1 t.2.2.2 := by
      intro g' k' k37
      refine ⟨(sg.kc.tr k').tr (Same.kc (Same.u (by unfold scr; omega))), ?_⟩
      rw [e1, e2, e3]
      refine ⟨fun i hi => ?_, ?_⟩
      · rw [mv_u_at, if_neg (by omega), k37 i hi, g37 i hi]
      · show mv_u g' 34 2 (-1) 34 2 = -1
        rw [mv_u_at, if_pos ⟨rfl, rfl⟩]
    have U : fX4_endPart_34_1 h = (fX1_shelf_1 (nI s) g).bind fun r344 => if r344 = 2 then (if s = 2 then fX4_endPart_34_1_b67 0 (g 36 1) (g 36 0) g else fX4_endPart_34_1_b67 (g 36 2) (g 36 1) (g 36 0) g) else if r344 = 4 then (if s = 2 then fX4_endPart_34_1_b67_2 0 (g 36 1) (g 36 0) g else fX4_endPart_34_1_b67_2 (g 36 2) (g 36 1) (g 36 0) g) else if r344 = 6 then (if s = 2 then fX4_endPart_34_1_b67_3 0 (g 36 1) (g 36 0) g else fX4_endPart_34_1_b67_3 (g 36 2) (g 36 1) (g 36 0) g) else none := by
      unfold fX4_endPart_34_1
      rw [c3, pe_isWithin, Option.bind_some, if_neg (by rw [pz_i0, m3]; simp only [pz_32]; omega), if_pos m1, if_pos m1, m2, c1 s hs, nI_1, ← eg]
      simp only [mv_let, g2, if_pos (show mv_in 0 3 by decide), if_pos (show mv_in 1 3 by decide), if_pos (show mv_in 2 3 by decide), pz_c, show (nI s = 2) = (s = 2) from pz_e (n := 2) (by omega) (by decide)]
    have sc : ∀ (a : Nat) (x y z : Int32) (o k : Nat), pv_put g a o k (ff (N 0 s)) x y z 34 2 = pv_put g a o k (ff (N 0 s)) x y z 34 2 := fun _ _ _ _ _ _ => rfl
    rw [U, esp]
    rcases (show s = 0 ∨ s = 1 ∨ s = 2 by omega) with rfl | rfl | rfl
    · have P := pe_paf2 (h := g) (a := g 36 0) (b := g 36 1) (c := g 36 2) hN.1.1 hps (rd_b gG).1 (ff (N 0 0)) 0 mv_F (by omega) (by rw [mv_F_eq]; omega)
      have k' : Kc g (pv_put g 3 2 2 (ff (N 0 0)) (g 36 0) (g 36 1) (g 36 2)) := fun o j q1 q2 => by
        rw [pv_put_at (by decide), if_neg (by omega), if_neg (by omega), if_neg (by omega), if_neg (by omega)]
      have k37 : ∀ i, i < 3 → pv_put g 3 2 2 (ff (N 0 0)) (g 36 0) (g 36 1) (g 36 2) 37 i = g 37 i := fun i hi => by
        rw [pv_put_at (by decide), if_neg (by omega), if_neg (by omega), if_neg (by omega), if_neg (by omega)]
      obtain ⟨F1, F2⟩ := fin _ k' k37
      refine ⟨_, ?_, F1, F2, ?_⟩
      · simp only [fX1_shelf_1, pz_lit, if_true, Option.bind_some]
        rw [if_neg (by decide)]
        unfold fX4_endPart_34_1_b67 fX7_putAtFirstFree_2
        rw [← pz_lit.1, P]; rfl
      · have r := pv_putB_G (x := t.2.2.1 p 0) (y := t.2.2.1 p 1) (z := t.2.2.1 p 2) f1 gG hN
        rw [g36 0 (by decide), g36 1 (by decide), g36 2 (by decide)]
        exact (Same.u (by unfold scr; omega) : Same _ (mv_u _ 34 2 (-1))).rdG (Or.inl rfl) r
    · have P := pe_paf4 (h := g) (a := g 36 0) (b := g 36 1) (c := g 36 2) hN.1.2.1 hps (rd_b gG).2.1 (ff (N 0 1)) 0 mv_F (by omega) (by rw [mv_F_eq]; omega)
      have k' : Kc g (pv_put g 5 4 2 (ff (N 0 1)) (g 36 0) (g 36 1) (g 36 2)) := fun o j q1 q2 => by
        rw [pv_put_at (by decide), if_neg (by omega), if_neg (by omega), if_neg (by omega), if_neg (by omega)]
      have k37 : ∀ i, i < 3 → pv_put g 5 4 2 (ff (N 0 1)) (g 36 0) (g 36 1) (g 36 2) 37 i = g 37 i := fun i hi => by
        rw [pv_put_at (by decide), if_neg (by omega), if_neg (by omega), if_neg (by omega), if_neg (by omega)]
      obtain ⟨F1, F2⟩ := fin _ k' k37
      refine ⟨_, ?_, F1, F2, ?_⟩
      · simp only [fX1_shelf_1, pz_lit, Option.bind_some, show ¬ ((1 : Int32) = 0) by decide, if_false, if_true]
        rw [if_neg (by decide), if_neg (by decide)]
        unfold fX4_endPart_34_1_b67_2 fX7_putAtFirstFree_4
        rw [← pz_lit.1, P]; rfl
      · have r := pv_putT_G (x := t.2.2.1 p 0) (y := t.2.2.1 p 1) (z := t.2.2.1 p 2) f1 gG hN
        rw [g36 0 (by decide), g36 1 (by decide), g36 2 (by decide)]
        exact (Same.u (by unfold scr; omega) : Same _ (mv_u _ 34 2 (-1))).rdG (Or.inl rfl) r
    · have P := pe_paf6 (h := g) (a := g 36 0) (b := g 36 1) (c := 0) hN.1.2.2 hps (rd_b gG).2.2 (ff (N 0 2)) 0 mv_F (by omega) (by rw [mv_F_eq]; omega)
      have k' : Kc g (pv_put g 7 6 2 (ff (N 0 2)) (g 36 0) (g 36 1) 0) := fun o j q1 q2 => by
        rw [pv_put_at (by decide), if_neg (by omega), if_neg (by omega), if_neg (by omega), if_neg (by omega)]
      have k37 : ∀ i, i < 3 → pv_put g 7 6 2 (ff (N 0 2)) (g 36 0) (g 36 1) 0 37 i = g 37 i := fun i hi => by
        rw [pv_put_at (by decide), if_neg (by omega), if_neg (by omega), if_neg (by omega), if_neg (by omega)]
      obtain ⟨F1, F2⟩ := fin _ k' k37
      refine ⟨_, ?_, F1, F2, ?_⟩
      · simp only [fX1_shelf_1, pz_lit, Option.bind_some, show ¬ ((2 : Int32) = 0) by decide, show ¬ ((2 : Int32) = 1) by decide, if_false, if_true]
        rw [if_neg (by decide), if_neg (by decide)]
        unfold fX4_endPart_34_1_b67_3 fX7_putAtFirstFree_6
        rw [pz_lit.1] at P
        rw [P]; rfl
      · have r := pv_putSh_G (x := t.2.2.1 p 0) (y := t.2.2.1 p 1) f1 gG hN
        rw [g36 0 (by decide), g36 1 (by decide)]
        exact (Same.u (by unfold scr; omega) : Same _ (mv_u _ 34 2 (-1))).rdG (Or.inl rfl) r
