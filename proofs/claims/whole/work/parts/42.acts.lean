/-! what calls do that change the state: boxes, things, sheets, settings, signs, marks -/
/-- cells that an act on the goods leaves: constants, the pad, the images -/
def kp (o k : Nat) : Prop := o = 0 ∨ (12 ≤ o ∧ o ≤ 33) ∨ (o = 34 ∧ k = 1) ∨ o = 35 ∨ (o = 55 ∧ k = 16) ∨ o = 62 ∨ o = 81 ∨ o = 82 ∨ ((o = 2 ∨ o = 4 ∨ o = 6 ∨ o = 8 ∨ o = 10) ∧ k = 0)
def Keep (h h' : mv_H) : Prop := ∀ o k, kp o k → h' o k = h o k
theorem Keep.rf (h : mv_H) : Keep h h := fun _ _ _ => rfl
theorem Keep.tr {a b c : mv_H} (h1 : Keep a b) (h2 : Keep b c) : Keep a c := fun o k q => (h2 o k q).trans (h1 o k q)
theorem Keep.u {h : mv_H} {o k : Nat} {v : Int32} (q : ¬ kp o k) : Keep h (mv_u h o k v) := fun o' k' z => by
  by_cases e : o' = o
  · subst e
    by_cases e2 : k' = k
    · subst e2; exact absurd z q
    · rw [mv_u_s]; simp [upd, e2]
  · rw [mv_u_n e]
theorem Same.keep {h h' : mv_H} (s : Same h h') : Keep h h' := fun o k q => s o k (by unfold kp at q; unfold scr; omega)
theorem Keep.gv {h h' : mv_H} (s : Keep h h') {g a i : Nat} (hg : g = 12 ∨ g = 23) : pv_gv h' g a i = pv_gv h g a i := by
  have key : ∀ o k, 12 ≤ o → o ≤ 33 → h' o k = h o k := fun o k h1 h2 => s o k (by unfold kp; omega)
  simp only [pv_gv]
  rw [key (g + 1) 2 (by omega) (by omega), key (g + 3) 2 (by omega) (by omega), key (g + 5) 2 (by omega) (by omega), key (g + 7) 2 (by omega) (by omega), key (g + 9) 2 (by omega) (by omega), key g (i + 2) (by omega) (by omega), key (g + 2) i (by omega) (by omega), key (g + 4) i (by omega) (by omega), key (g + 6) (3 * i) (by omega) (by omega), key (g + 6) (3 * i + 1) (by omega) (by omega), key (g + 8) i (by omega) (by omega), key (g + 10) i (by omega) (by omega)]
theorem Keep.i {h h' : mv_H} (s : Keep h h') (H : pv_i h) : pv_i h' := by
  obtain ⟨b0, b1, i1, i2, i3, i4, i5⟩ := H
  refine ⟨b0, b1, ?_, ?_, ?_, fun q => ?_, fun q => ?_⟩
  · rw [s 0 3 (by unfold kp; omega)]; exact i1
  · rw [s 82 0 (by unfold kp; omega)]; exact i2
  · rw [s 82 1 (by unfold kp; omega)]; exact i3
  · obtain ⟨N, a, b, c⟩ := i4 q
    exact ⟨N, fun x y hv => (s.gv (Or.inl rfl)).trans (a x y hv), fun x y hv => (s 81 _ (by unfold kp; omega)).trans (b x y hv), c⟩
  · obtain ⟨N, a, b, c⟩ := i5 q
    exact ⟨N, fun x y hv => (s.gv (Or.inr rfl)).trans (a x y hv), fun x y hv => (s 81 _ (by unfold kp; omega)).trans (b x y hv), c⟩
theorem Keep.c {h h' : mv_H} (s : Keep h h') (H : pv_c h) : pv_c h' := by
  obtain ⟨c1, c2, c3, c4, c5⟩ := H
  exact ⟨by rw [s 2 0 (by unfold kp; omega)]; exact c1, by rw [s 4 0 (by unfold kp; omega)]; exact c2, by rw [s 6 0 (by unfold kp; omega)]; exact c3, by rw [s 8 0 (by unfold kp; omega)]; exact c4, by rw [s 10 0 (by unfold kp; omega)]; exact c5⟩
theorem Keep.p {h h' : mv_H} (s : Keep h h') (H : pv_p h) : pv_p h' := by
  obtain ⟨n, f, p1, p2, p3, p4⟩ := H
  refine ⟨n, f, p1, ?_, ?_, fun i hi => ⟨?_, ?_, (p4 i hi).2.2⟩⟩
  · rw [s 34 1 (by unfold kp; omega)]; exact p2
  · rw [s 55 16 (by unfold kp; omega)]; exact p3
  · rw [s 35 i (by unfold kp; omega)]; exact (p4 i hi).1
  · rw [s 62 i (by unfold kp; omega)]; exact (p4 i hi).2.1
theorem Keep.inv {h h' : mv_H} (s : Keep h h') (H : Inv h) (n : ∃ N, rdG h' 1 N ∧ rdM h' N ∧ okN N) : Inv h' := ⟨n, s.c H.2.1, s.p H.2.2.1, s.i H.2.2.2⟩
theorem pe_isSide (v : Int32) : fX9_isSide v = some (if 1 ≤ v.toInt ∧ v.toInt ≤ 20 then 1 else 0) := by
  unfold fX9_isSide
  rw [pe_isWithin, Option.bind_some, if_pos pz_01]
  rfl
theorem pe_areSides (a b c : Int32) : fX10_areSides a b c = some (if (1 ≤ a.toInt ∧ a.toInt ≤ 20) ∧ (1 ≤ b.toInt ∧ b.toInt ≤ 20) ∧ (1 ≤ c.toInt ∧ c.toInt ≤ 20) then 1 else 0) := by
  unfold fX10_areSides
  have e1 : (1 : Int64).toInt = 1 := rfl
  have e20 : (20 : Int64).toInt = 20 := rfl
  simp only [pe_in, Int32.toInt_toInt64, Option.bind_some, pz_i0, e1, e20]
  by_cases h1 : 1 ≤ a.toInt ∧ a.toInt ≤ 20
  · by_cases h2 : 1 ≤ b.toInt ∧ b.toInt ≤ 20
    · by_cases h3 : 1 ≤ c.toInt ∧ c.toInt ≤ 20 <;> simp [h1, h2, h3]
    · simp [h1, h2]
  · simp [h1]
theorem pz_ix : ∀ i, i < 6 → (mv_in (nI i * 3) 18 ∧ (nI i * 3).toNatClampNeg = 3 * i) ∧ (mv_in (nI i * 3 + 1) 18 ∧ (nI i * 3 + 1).toNatClampNeg = 3 * i + 1) ∧ (mv_in (nI i * 3 + 2) 18 ∧ (nI i * 3 + 2).toNatClampNeg = 3 * i + 2) := by decide
theorem pz_iy : ∀ i, i < 6 → (mv_in (3 * nI i) 18 ∧ (3 * nI i).toNatClampNeg = 3 * i) ∧ (mv_in (3 * nI i + 1) 18 ∧ (3 * nI i + 1).toNatClampNeg = 3 * i + 1) ∧ (mv_in (3 * nI i + 2) 18 ∧ (3 * nI i + 2).toNatClampNeg = 3 * i + 2) := by decide
theorem pz_i6 : ∀ i, i < 6 → mv_in (nI i) 6 ∧ (nI i).toNatClampNeg = i ∧ (nI i).toInt = i := by decide
def pv_put (h : mv_H) (s o k i : Nat) (a b c : Int32) : mv_H := mv_u (mv_u (mv_u (mv_u h s (3 * i) a) s (3 * i + 1) b) s (3 * i + 2) c) o k (h o k ||| 1 <<< (nI i &&& 31))
theorem pe_put2 {i : Nat} (hi : i < 6) (a b c : Int32) (h : mv_H) : fX7_put_2 (nI i) a b c h = some (pv_put h 3 2 2 i a b c) := by
  obtain ⟨⟨x1, y1⟩, ⟨x2, y2⟩, x3, y3⟩ := pz_ix i hi
  obtain ⟨-, -, z⟩ := pz_i6 i hi
  unfold fX7_put_2
  rw [pe_isNumber, Option.bind_some, if_neg (by rw [pz_i0, z]; omega), if_pos x1, y1]
  simp only [mv_let]
  rw [if_pos x2, y2, if_pos x3, y3]
  simp only [pv_put]
  rw [mv_u_n (by decide), mv_u_n (by decide), mv_u_n (by decide)]
theorem pe_put4 {i : Nat} (hi : i < 6) (a b c : Int32) (h : mv_H) : fX7_put_4 (nI i) a b c h = some (pv_put h 5 4 2 i a b c) := by
  obtain ⟨⟨x1, y1⟩, ⟨x2, y2⟩, x3, y3⟩ := pz_ix i hi
  obtain ⟨-, -, z⟩ := pz_i6 i hi
  unfold fX7_put_4
  rw [pe_isNumber, Option.bind_some, if_neg (by rw [pz_i0, z]; omega), if_pos x1, y1]
  simp only [mv_let]
  rw [if_pos x2, y2, if_pos x3, y3]
  simp only [pv_put]
  rw [mv_u_n (by decide), mv_u_n (by decide), mv_u_n (by decide)]
theorem pe_put6 {i : Nat} (hi : i < 6) (a b c : Int32) (h : mv_H) : fX7_put_6 (nI i) a b c h = some (pv_put h 7 6 2 i a b c) := by
  obtain ⟨⟨x1, y1⟩, ⟨x2, y2⟩, x3, y3⟩ := pz_ix i hi
  obtain ⟨-, -, z⟩ := pz_i6 i hi
  unfold fX7_put_6
  rw [pe_isNumber, Option.bind_some, if_neg (by rw [pz_i0, z]; omega), if_pos x1, y1]
  simp only [mv_let]
  rw [if_pos x2, y2, if_pos x3, y3]
  simp only [pv_put]
  rw [mv_u_n (by decide), mv_u_n (by decide), mv_u_n (by decide)]
theorem pe_putBox {i : Nat} (hi : i < 6) (a b c : Int32) (h : mv_H) : fX10_putBox_55 (nI i) a b c h = some (pv_put h 56 55 0 i a b c) := by
  obtain ⟨⟨x1, y1⟩, ⟨x2, y2⟩, x3, y3⟩ := pz_iy i hi
  unfold fX10_putBox_55
  rw [if_pos x1, y1]
  simp only [mv_let]
  rw [if_pos x2, y2, if_pos x3, y3]
  simp only [pv_put]
  rw [mv_u_n (by decide), mv_u_n (by decide), mv_u_n (by decide)]
theorem pe_putThing {i : Nat} (hi : i < 6) (a b c : Int32) (h : mv_H) : fX10_putThing_55 (nI i) a b c h = some (pv_put h 57 55 1 i a b c) := by
  obtain ⟨⟨x1, y1⟩, ⟨x2, y2⟩, x3, y3⟩ := pz_iy i hi
  unfold fX10_putThing_55
  rw [if_pos x1, y1]
  simp only [mv_let]
  rw [if_pos x2, y2, if_pos x3, y3]
  simp only [pv_put]
  rw [mv_u_n (by decide), mv_u_n (by decide), mv_u_n (by decide)]
def pv_putS (h : mv_H) (i : Nat) (a b : Int32) : mv_H := mv_u (mv_u (mv_u h 58 i a) 59 i b) 55 2 (h 55 2 ||| 1 <<< (nI i &&& 31))
theorem pe_putSheet {i : Nat} (hi : i < 6) (a b : Int32) (h : mv_H) : fX10_putSheet_55 (nI i) a b h = some (pv_putS h i a b) := by
  obtain ⟨x, y, -⟩ := pz_i6 i hi
  unfold fX10_putSheet_55
  rw [if_pos x]
  simp only [mv_let]
  rw [if_pos x, y]
  simp only [pv_putS]
  rw [mv_u_n (by decide), mv_u_n (by decide)]
theorem pz_or : ∀ n, n < 64 → ∀ i, i < 6 → nI n ||| 1 <<< (nI i &&& 31) = nI (n ||| 2 ^ i) ∧ n ||| 2 ^ i < 64 := by decide +kernel
theorem pz_del : ∀ n, n < 64 → ∀ i, i < 6 → nI n &&& (1 <<< (nI i &&& 31) ^^^ (-1)) = nI (n - (n &&& 2 ^ i)) ∧ n - (n &&& 2 ^ i) < 64 := by decide +kernel
theorem pz_delT : ∀ n, n < 64 → ∀ i, i < 6 → ∀ j, j < 6 → (n - (n &&& 2 ^ i)).testBit j = (n.testBit j && !(i == j)) := by decide +kernel
theorem pz_bit : ∀ n, n < 64 → ∀ i, i < 6 → (((nI n >>> (nI i &&& 31)) &&& 1 = 1) ↔ n.testBit i = true) := by decide +kernel
theorem pv_put_at {h : mv_H} {s o k i : Nat} {a b c : Int32} (hso : s ≠ o) (o' k' : Nat) : pv_put h s o k i a b c o' k' = if o' = o ∧ k' = k then h o k ||| 1 <<< (nI i &&& 31) else if o' = s ∧ k' = 3 * i + 2 then c else if o' = s ∧ k' = 3 * i + 1 then b else if o' = s ∧ k' = 3 * i then a else h o' k' := by
  unfold pv_put
  by_cases h1 : o' = o
  · subst h1
    rw [mv_u_s]
    have hn : o' ≠ s := fun e => hso e.symm
    by_cases h2 : k' = k
    · subst h2; simp [upd]
    · simp [upd, h2, hn, mv_u_n hn]
  · rw [mv_u_n h1]
    by_cases h3 : o' = s
    · subst h3
      simp only [mv_u_s, h1, false_and, if_false, true_and]
      simp only [upd]
    · simp [mv_u_n h3, h1, h3]
theorem pv_putS_at {h : mv_H} {i : Nat} {a b : Int32} (o' k' : Nat) : pv_putS h i a b o' k' = if o' = 55 ∧ k' = 2 then h 55 2 ||| 1 <<< (nI i &&& 31) else if o' = 59 ∧ k' = i then b else if o' = 58 ∧ k' = i then a else h o' k' := by
  unfold pv_putS
  by_cases h1 : o' = 55
  · subst h1
    rw [mv_u_s]
    by_cases h2 : k' = 2
    · subst h2; simp [upd]
    · simp [upd, h2, mv_u_n (show (55 : Nat) ≠ 59 by decide), mv_u_n (show (55 : Nat) ≠ 58 by decide)]
  · rw [mv_u_n h1]
    by_cases h3 : o' = 59
    · subst h3
      rw [mv_u_s]
      by_cases h2 : k' = i
      · subst h2; simp [upd]
      · simp [upd, h2, mv_u_n (show (59 : Nat) ≠ 58 by decide)]
    · rw [mv_u_n h3]
      by_cases h4 : o' = 58
      · subst h4
        rw [mv_u_s]
        by_cases h2 : k' = i
        · subst h2; simp [upd]
        · simp [upd, h2]
      · rw [mv_u_n h4]; simp [h1, h3, h4]
def pv_Nb (N : Nat → Nat → Nat) (a i x y z : Nat) : Nat → Nat → Nat := fun b j => if b = 0 ∧ j + 1 = a then N b j ||| 2 ^ i else if b = a ∧ j = 3 * i + 2 then z else if b = a ∧ j = 3 * i + 1 then y else if b = a ∧ j = 3 * i then x else N b j
def pv_Ns (N : Nat → Nat → Nat) (i x y : Nat) : Nat → Nat → Nat := fun b j => if b = 0 ∧ j = 2 then N b j ||| 2 ^ i else if b = 4 ∧ j = i then y else if b = 3 ∧ j = i then x else N b j
/-- the places of a state, one by one -/
theorem vld_0 {P : Nat → Nat → Prop} (h0 : ∀ i, i < 9 → P 0 i) (h1 : ∀ i, i < 18 → P 1 i) (h2 : ∀ i, i < 18 → P 2 i) (h3 : ∀ i, i < 6 → P 3 i) (h4 : ∀ i, i < 6 → P 4 i) (h5 : ∀ i, i < 6 → P 5 i) (h6 : ∀ i, i < 6 → P 6 i) : ∀ a i, vld a i → P a i := by
  intro a i hv
  unfold vld at hv
  rcases (show a = 0 ∨ a = 1 ∨ a = 2 ∨ a = 3 ∨ a = 4 ∨ a = 5 ∨ a = 6 by omega) with rfl | rfl | rfl | rfl | rfl | rfl | rfl
  · exact h0 i (by omega)
  · exact h1 i (by omega)
  · exact h2 i (by omega)
  · exact h3 i (by omega)
  · exact h4 i (by omega)
  · exact h5 i (by omega)
  · exact h6 i (by omega)
theorem pz_orT {n i k : Nat} : (n ||| 2 ^ i).testBit k = (n.testBit k || decide (i = k)) := by
  rw [Nat.testBit_or, Nat.testBit_two_pow]
theorem pv_putB {h : mv_H} {N : Nat → Nat → Nat} {i x y z : Nat} (hi : i < 6) (hG : rdG h 1 N) (hM : rdM h N) (hN : okN N) (hx : (1 ≤ x ∧ x ≤ 20) ∧ (1 ≤ y ∧ y ≤ 20) ∧ (1 ≤ z ∧ z ≤ 20)) : rdG (pv_put (pv_put h 3 2 2 i (nI x) (nI y) (nI z)) 56 55 0 i (nI x) (nI y) (nI z)) 1 (pv_Nb N 1 i x y z) ∧ rdM (pv_put (pv_put h 3 2 2 i (nI x) (nI y) (nI z)) 56 55 0 i (nI x) (nI y) (nI z)) (pv_Nb N 1 i x y z) ∧ okN (pv_Nb N 1 i x y z) := by
  have hb := pz_or (N 0 0) hN.1.1 i hi
  refine ⟨?_, ?_, ?_⟩
  · intro a j hv
    have e := hG a j hv
    revert e
    revert a j hv
    refine vld_0 (fun j hj => ?_) (fun j hj => ?_) (fun j hj => ?_) (fun j hj => ?_) (fun j hj => ?_) (fun j hj => ?_) (fun j hj => ?_)
    · rcases (show j = 0 ∨ j = 1 ∨ j = 2 ∨ j = 3 ∨ j = 4 ∨ j = 5 ∨ j = 6 ∨ j = 7 ∨ j = 8 by omega) with rfl | rfl | rfl | rfl | rfl | rfl | rfl | rfl | rfl <;> intro e <;> simp [pv_gv] at e <;> simp [pv_gv, pv_put_at, pv_Nb, e, hb.1]
    all_goals (intro e; simp [pv_gv] at e; simp [pv_gv, pv_put_at, pv_Nb, e] <;> (try split) <;> (try split) <;> (try split) <;> rfl)
  · intro a j hv
    have e := hM a j hv
    revert e
    revert a j hv
    refine vld_0 (fun j hj => ?_) (fun j hj => ?_) (fun j hj => ?_) (fun j hj => ?_) (fun j hj => ?_) (fun j hj => ?_) (fun j hj => ?_)
    · rcases (show j = 0 ∨ j = 1 ∨ j = 2 ∨ j = 3 ∨ j = 4 ∨ j = 5 ∨ j = 6 ∨ j = 7 ∨ j = 8 by omega) with rfl | rfl | rfl | rfl | rfl | rfl | rfl | rfl | rfl <;> intro e <;> simp [pv_mw] at e <;> simp [pv_mw, pv_put_at, pv_Nb, e, hb.1]
    all_goals (intro e; simp [pv_mw] at e; simp [pv_mw, pv_put_at, pv_Nb, e] <;> (try split) <;> (try split) <;> (try split) <;> rfl)
  · obtain ⟨⟨b1, b2, b3⟩, st, mk, ⟨s1, s2⟩, ⟨w1, w2⟩, fc, pb, ps⟩ := hN
    refine ⟨⟨?_, ?_, ?_⟩, ?_, ?_, ⟨fun j hj => ?_, fun j hj => ?_⟩, ⟨fun j hj => ?_, fun j hj => ?_⟩, ⟨fun j hj => ?_, fun j hj => ?_⟩, fun k hk hbit j hj => ?_, fun k hk hbit => ?_⟩
    · simp [pv_Nb, hb.2]
    · simp [pv_Nb]; exact b2
    · simp [pv_Nb]; exact b3
    · simp [pv_Nb]; exact st
    · simp [pv_Nb]; exact mk
    · have := s1 j hj; simp only [pv_Nb]; split <;> (try omega); split <;> (try omega); split <;> (try omega); split <;> omega
    · simp [pv_Nb]; exact s2 j hj
    · simp [pv_Nb]; exact w1 j hj
    · simp [pv_Nb]; exact w2 j hj
    · simp [pv_Nb]; exact fc.1 j hj
    · simp [pv_Nb]; exact fc.2 j hj
    · by_cases e : k = i
      · subst e
        rcases (show j = 0 ∨ j = 1 ∨ j = 2 by omega) with rfl | rfl | rfl <;> simp [pv_Nb] <;> omega
      · have hb1 : (N 0 0).testBit k = true := by
          simp only [pv_Nb] at hbit
          rw [if_pos ⟨trivial, trivial⟩, pz_orT] at hbit
          have : ¬ i = k := fun q => e q.symm
          simpa [this] using hbit
        have := pb k hk hb1 j hj
        simp only [pv_Nb]
        rw [if_neg (by omega), if_neg (by omega), if_neg (by omega), if_neg (by omega)]
        exact this
    · simp [pv_Nb] at hbit ⊢; exact ps k hk hbit
theorem pv_putT {h : mv_H} {N : Nat → Nat → Nat} {i x y z : Nat} (hi : i < 6) (hG : rdG h 1 N) (hM : rdM h N) (hN : okN N) (hx : (1 ≤ x ∧ x ≤ 20) ∧ (1 ≤ y ∧ y ≤ 20) ∧ (1 ≤ z ∧ z ≤ 20)) : rdG (pv_put (pv_put h 5 4 2 i (nI x) (nI y) (nI z)) 57 55 1 i (nI x) (nI y) (nI z)) 1 (pv_Nb N 2 i x y z) ∧ rdM (pv_put (pv_put h 5 4 2 i (nI x) (nI y) (nI z)) 57 55 1 i (nI x) (nI y) (nI z)) (pv_Nb N 2 i x y z) ∧ okN (pv_Nb N 2 i x y z) := by
  have hb := pz_or (N 0 1) hN.1.2.1 i hi
  refine ⟨?_, ?_, ?_⟩
  · intro a j hv
    have e := hG a j hv
    revert e
    revert a j hv
    refine vld_0 (fun j hj => ?_) (fun j hj => ?_) (fun j hj => ?_) (fun j hj => ?_) (fun j hj => ?_) (fun j hj => ?_) (fun j hj => ?_)
    · rcases (show j = 0 ∨ j = 1 ∨ j = 2 ∨ j = 3 ∨ j = 4 ∨ j = 5 ∨ j = 6 ∨ j = 7 ∨ j = 8 by omega) with rfl | rfl | rfl | rfl | rfl | rfl | rfl | rfl | rfl <;> intro e <;> simp [pv_gv] at e <;> simp [pv_gv, pv_put_at, pv_Nb, e, hb.1]
    all_goals (intro e; simp [pv_gv] at e; simp [pv_gv, pv_put_at, pv_Nb, e] <;> (try split) <;> (try split) <;> (try split) <;> rfl)
  · intro a j hv
    have e := hM a j hv
    revert e
    revert a j hv
    refine vld_0 (fun j hj => ?_) (fun j hj => ?_) (fun j hj => ?_) (fun j hj => ?_) (fun j hj => ?_) (fun j hj => ?_) (fun j hj => ?_)
    · rcases (show j = 0 ∨ j = 1 ∨ j = 2 ∨ j = 3 ∨ j = 4 ∨ j = 5 ∨ j = 6 ∨ j = 7 ∨ j = 8 by omega) with rfl | rfl | rfl | rfl | rfl | rfl | rfl | rfl | rfl <;> intro e <;> simp [pv_mw] at e <;> simp [pv_mw, pv_put_at, pv_Nb, e, hb.1]
    all_goals (intro e; simp [pv_mw] at e; simp [pv_mw, pv_put_at, pv_Nb, e] <;> (try split) <;> (try split) <;> (try split) <;> rfl)
  · obtain ⟨⟨b1, b2, b3⟩, st, mk, ⟨s1, s2⟩, ⟨w1, w2⟩, fc, pb, ps⟩ := hN
    refine ⟨⟨?_, ?_, ?_⟩, ?_, ?_, ⟨fun j hj => ?_, fun j hj => ?_⟩, ⟨fun j hj => ?_, fun j hj => ?_⟩, ⟨fun j hj => ?_, fun j hj => ?_⟩, fun k hk hbit j hj => ?_, fun k hk hbit => ?_⟩
    · simp [pv_Nb]; exact b1
    · simp [pv_Nb, hb.2]
    · simp [pv_Nb]; exact b3
    · simp [pv_Nb]; exact st
    · simp [pv_Nb]; exact mk
    · simp [pv_Nb]; exact s1 j hj
    · have := s2 j hj; simp only [pv_Nb]; split <;> (try omega); split <;> (try omega); split <;> (try omega); split <;> omega
    · simp [pv_Nb]; exact w1 j hj
    · simp [pv_Nb]; exact w2 j hj
    · simp [pv_Nb]; exact fc.1 j hj
    · simp [pv_Nb]; exact fc.2 j hj
    · simp [pv_Nb] at hbit ⊢; exact pb k hk hbit j hj
    · simp [pv_Nb] at hbit ⊢; exact ps k hk hbit
theorem pv_putSh {h : mv_H} {N : Nat → Nat → Nat} {i x y : Nat} (hi : i < 6) (hG : rdG h 1 N) (hM : rdM h N) (hN : okN N) (hx : (1 ≤ x ∧ x ≤ 150) ∧ (1 ≤ y ∧ y ≤ 150)) : rdG (pv_putS (pv_put h 7 6 2 i (nI x) (nI y) 0) i (nI x) (nI y)) 1 (pv_Ns N i x y) ∧ rdM (pv_putS (pv_put h 7 6 2 i (nI x) (nI y) 0) i (nI x) (nI y)) (pv_Ns N i x y) ∧ okN (pv_Ns N i x y) := by
  have hb := pz_or (N 0 2) hN.1.2.2 i hi
  refine ⟨?_, ?_, ?_⟩
  · intro a j hv
    have e := hG a j hv
    revert e
    revert a j hv
    refine vld_0 (fun j hj => ?_) (fun j hj => ?_) (fun j hj => ?_) (fun j hj => ?_) (fun j hj => ?_) (fun j hj => ?_) (fun j hj => ?_)
    · rcases (show j = 0 ∨ j = 1 ∨ j = 2 ∨ j = 3 ∨ j = 4 ∨ j = 5 ∨ j = 6 ∨ j = 7 ∨ j = 8 by omega) with rfl | rfl | rfl | rfl | rfl | rfl | rfl | rfl | rfl <;> intro e <;> simp [pv_gv] at e <;> simp [pv_gv, pv_put_at, pv_putS_at, pv_Ns, e, hb.1]
    case refine_4 =>
      intro e
      simp [pv_gv] at e
      simp only [pv_gv, pv_put_at (show (7 : Nat) ≠ 6 by decide), pv_putS_at, pv_Ns]
      by_cases q : j = i
      · subst q; simp
      · have q1 : ¬ 3 * j = 3 * i := by omega
        have q2 : ¬ 3 * j = 3 * i + 1 := by omega
        have q3 : ¬ 3 * j = 3 * i + 2 := by omega
        simp [q, q1, q2, q3, e]
    case refine_5 =>
      intro e
      simp [pv_gv] at e
      simp only [pv_gv, pv_put_at (show (7 : Nat) ≠ 6 by decide), pv_putS_at, pv_Ns]
      by_cases q : j = i
      · subst q; simp
      · have q1 : ¬ 3 * j + 1 = 3 * i := by omega
        have q2 : ¬ 3 * j + 1 = 3 * i + 1 := by omega
        have q3 : ¬ 3 * j + 1 = 3 * i + 2 := by omega
        have q4 : ¬ 3 * j = 3 * i + 1 := by omega
        have q5 : ¬ 3 * j = 3 * i := by omega
        simp [q, q1, q2, q3, q4, q5, e]
    all_goals (intro e; simp [pv_gv] at e; simp [pv_gv, pv_put_at, pv_putS_at, pv_Ns, e] <;> (try split) <;> (try split) <;> (try split) <;> rfl)
  · intro a j hv
    have e := hM a j hv
    revert e
    revert a j hv
    refine vld_0 (fun j hj => ?_) (fun j hj => ?_) (fun j hj => ?_) (fun j hj => ?_) (fun j hj => ?_) (fun j hj => ?_) (fun j hj => ?_)
    · rcases (show j = 0 ∨ j = 1 ∨ j = 2 ∨ j = 3 ∨ j = 4 ∨ j = 5 ∨ j = 6 ∨ j = 7 ∨ j = 8 by omega) with rfl | rfl | rfl | rfl | rfl | rfl | rfl | rfl | rfl <;> intro e <;> simp [pv_mw] at e <;> simp [pv_mw, pv_put_at, pv_putS_at, pv_Ns, e, hb.1]
    all_goals (intro e; simp [pv_mw] at e; simp [pv_mw, pv_put_at, pv_putS_at, pv_Ns, e] <;> (try split) <;> (try split) <;> (try split) <;> rfl)
  · obtain ⟨⟨b1, b2, b3⟩, st, mk, ⟨s1, s2⟩, ⟨w1, w2⟩, fc, pb, ps⟩ := hN
    refine ⟨⟨?_, ?_, ?_⟩, ?_, ?_, ⟨fun j hj => ?_, fun j hj => ?_⟩, ⟨fun j hj => ?_, fun j hj => ?_⟩, ⟨fun j hj => ?_, fun j hj => ?_⟩, fun k hk hbit j hj => ?_, fun k hk hbit => ?_⟩
    · simp [pv_Ns]; exact b1
    · simp [pv_Ns]; exact b2
    · simp [pv_Ns, hb.2]
    · simp [pv_Ns]; exact st
    · simp [pv_Ns]; exact mk
    · simp [pv_Ns]; exact s1 j hj
    · simp [pv_Ns]; exact s2 j hj
    · have := w1 j hj; simp only [pv_Ns]; split <;> (try omega); split <;> (try omega); split <;> omega
    · have := w2 j hj; simp only [pv_Ns]; split <;> (try omega); split <;> (try omega); split <;> omega
    · simp [pv_Ns]; exact fc.1 j hj
    · simp [pv_Ns]; exact fc.2 j hj
    · simp [pv_Ns] at hbit ⊢; exact pb k hk hbit j hj
    · by_cases e : k = i
      · subst e
        simp [pv_Ns]; omega
      · have hb1 : (N 0 2).testBit k = true := by
          simp only [pv_Ns] at hbit
          rw [if_pos ⟨trivial, trivial⟩, pz_orT] at hbit
          have : ¬ i = k := fun q => e q.symm
          simpa [this] using hbit
        have := ps k hk hb1
        simp [pv_Ns, e]
        exact this
