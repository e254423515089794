/-! one number of the state changes on both sides; the pad; calls: drop, set, say, wipe, mark, iron -/
def co (j : Nat) : Nat := if j = 0 then 2 else if j = 1 then 4 else if j = 2 then 6 else if j = 7 then 8 else if j = 8 then 10 else 1
def ck (j : Nat) : Nat := if j = 3 then 5 else if j = 4 then 6 else if j = 5 then 7 else if j = 6 then 8 else 2
def cm (j : Nat) : Nat := if j < 3 then j else if j = 7 then 12 else if j = 8 then 14 else j + 4
def upN (N : Nat → Nat → Nat) (a j n : Nat) : Nat → Nat → Nat := fun b i => if b = a ∧ i = j then n else N b i
theorem mv_u_at (h : mv_H) (o k : Nat) (v : Int32) (o' k' : Nat) : mv_u h o k v o' k' = if o' = o ∧ k' = k then v else h o' k' := by
  by_cases e : o' = o
  · subst e
    rw [mv_u_s]
    by_cases e2 : k' = k <;> simp [upd, e2]
  · rw [mv_u_n e]; simp [e]
theorem pv_set1 {h : mv_H} {N : Nat → Nat → Nat} {j n : Nat} (hj : j < 9) (hG : rdG h 1 N) (hM : rdM h N) : rdG (mv_u (mv_u h (co j) (ck j) (nI n)) 55 (cm j) (nI n)) 1 (upN N 0 j n) ∧ rdM (mv_u (mv_u h (co j) (ck j) (nI n)) 55 (cm j) (nI n)) (upN N 0 j n) := by
  refine ⟨?_, ?_⟩
  · intro a i hv
    have e := hG a i hv
    revert e
    revert a i hv
    rcases (show j = 0 ∨ j = 1 ∨ j = 2 ∨ j = 3 ∨ j = 4 ∨ j = 5 ∨ j = 6 ∨ j = 7 ∨ j = 8 by omega) with rfl | rfl | rfl | rfl | rfl | rfl | rfl | rfl | rfl <;>
    (refine vld_0 (fun j hj => ?_) (fun j hj => ?_) (fun j hj => ?_) (fun j hj => ?_) (fun j hj => ?_) (fun j hj => ?_) (fun j hj => ?_)
     · rcases (show j = 0 ∨ j = 1 ∨ j = 2 ∨ j = 3 ∨ j = 4 ∨ j = 5 ∨ j = 6 ∨ j = 7 ∨ j = 8 by omega) with rfl | rfl | rfl | rfl | rfl | rfl | rfl | rfl | rfl <;> intro e <;> simp [pv_gv] at e <;> simp [pv_gv, mv_u_at, upN, co, ck, cm, e]
     all_goals (intro e; simp [pv_gv] at e; simp [pv_gv, mv_u_at, upN, co, ck, cm, e]))
  · intro a i hv
    have e := hM a i hv
    revert e
    revert a i hv
    rcases (show j = 0 ∨ j = 1 ∨ j = 2 ∨ j = 3 ∨ j = 4 ∨ j = 5 ∨ j = 6 ∨ j = 7 ∨ j = 8 by omega) with rfl | rfl | rfl | rfl | rfl | rfl | rfl | rfl | rfl <;>
    (refine vld_0 (fun j hj => ?_) (fun j hj => ?_) (fun j hj => ?_) (fun j hj => ?_) (fun j hj => ?_) (fun j hj => ?_) (fun j hj => ?_)
     · rcases (show j = 0 ∨ j = 1 ∨ j = 2 ∨ j = 3 ∨ j = 4 ∨ j = 5 ∨ j = 6 ∨ j = 7 ∨ j = 8 by omega) with rfl | rfl | rfl | rfl | rfl | rfl | rfl | rfl | rfl <;> intro e <;> simp [pv_mw] at e <;> simp [pv_mw, mv_u_at, upN, co, ck, cm, e]
     all_goals (intro e; simp [pv_mw] at e; simp [pv_mw, mv_u_at, upN, co, ck, cm, e]))
theorem pv_setF {h : mv_H} {N : Nat → Nat → Nat} {a i n : Nat} (ha : a = 5 ∨ a = 6) (hi : i < 6) (hG : rdG h 1 N) (hM : rdM h N) : rdG (mv_u (mv_u h (2 * a - 1) i (nI n)) (55 + a) i (nI n)) 1 (upN N a i n) ∧ rdM (mv_u (mv_u h (2 * a - 1) i (nI n)) (55 + a) i (nI n)) (upN N a i n) := by
  refine ⟨?_, ?_⟩
  · intro b j hv
    have e := hG b j hv
    revert e
    revert b j hv
    rcases ha with rfl | rfl <;>
    (refine vld_0 (fun j hj => ?_) (fun j hj => ?_) (fun j hj => ?_) (fun j hj => ?_) (fun j hj => ?_) (fun j hj => ?_) (fun j hj => ?_)
     · rcases (show j = 0 ∨ j = 1 ∨ j = 2 ∨ j = 3 ∨ j = 4 ∨ j = 5 ∨ j = 6 ∨ j = 7 ∨ j = 8 by omega) with rfl | rfl | rfl | rfl | rfl | rfl | rfl | rfl | rfl <;> intro e <;> simp [pv_gv] at e <;> simp [pv_gv, mv_u_at, upN, e]
     all_goals (intro e; simp [pv_gv] at e; simp [pv_gv, mv_u_at, upN, e] <;> (try split) <;> rfl))
  · intro b j hv
    have e := hM b j hv
    revert e
    revert b j hv
    rcases ha with rfl | rfl <;>
    (refine vld_0 (fun j hj => ?_) (fun j hj => ?_) (fun j hj => ?_) (fun j hj => ?_) (fun j hj => ?_) (fun j hj => ?_) (fun j hj => ?_)
     · rcases (show j = 0 ∨ j = 1 ∨ j = 2 ∨ j = 3 ∨ j = 4 ∨ j = 5 ∨ j = 6 ∨ j = 7 ∨ j = 8 by omega) with rfl | rfl | rfl | rfl | rfl | rfl | rfl | rfl | rfl <;> intro e <;> simp [pv_mw] at e <;> simp [pv_mw, mv_u_at, upN, e]
     all_goals (intro e; simp [pv_mw] at e; simp [pv_mw, mv_u_at, upN, e] <;> (try split) <;> rfl))
/-- reading one's has -/
theorem pe_has2 (v : Int32) (h : mv_H) : fX7_has_2 v h = some (if (0 ≤ v.toInt ∧ v.toInt < 6) ∧ (h 2 2 >>> (v &&& 31)) &&& 1 = 1 then 1 else 0) := by
  unfold fX7_has_2
  simp only [pe_isNumber, pe_isIn, Option.bind_some, pz_i0]
  by_cases h0 : 0 ≤ v.toInt ∧ v.toInt < 6
  · by_cases h1 : (h 2 2 >>> (v &&& 31)) &&& 1 = 1 <;> simp [h0, h1]
  · simp [h0]
theorem pe_has4 (v : Int32) (h : mv_H) : fX7_has_4 v h = some (if (0 ≤ v.toInt ∧ v.toInt < 6) ∧ (h 4 2 >>> (v &&& 31)) &&& 1 = 1 then 1 else 0) := by
  unfold fX7_has_4
  simp only [pe_isNumber, pe_isIn, Option.bind_some, pz_i0]
  by_cases h0 : 0 ≤ v.toInt ∧ v.toInt < 6
  · by_cases h1 : (h 4 2 >>> (v &&& 31)) &&& 1 = 1 <;> simp [h0, h1]
  · simp [h0]
theorem pe_has6 (v : Int32) (h : mv_H) : fX7_has_6 v h = some (if (0 ≤ v.toInt ∧ v.toInt < 6) ∧ (h 6 2 >>> (v &&& 31)) &&& 1 = 1 then 1 else 0) := by
  unfold fX7_has_6
  simp only [pe_isNumber, pe_isIn, Option.bind_some, pz_i0]
  by_cases h0 : 0 ≤ v.toInt ∧ v.toInt < 6
  · by_cases h1 : (h 6 2 >>> (v &&& 31)) &&& 1 = 1 <;> simp [h0, h1]
  · simp [h0]
theorem pe_isBox (v : Int32) (h : mv_H) : fX10_isBox_55 v h = some (if (0 ≤ v.toInt ∧ v.toInt < 6) ∧ (h 55 0 >>> (v &&& 31)) &&& 1 = 1 then 1 else 0) := by
  unfold fX10_isBox_55
  simp only [pe_mNumber, Option.bind_some, pz_i0]
  by_cases h0 : 0 ≤ v.toInt ∧ v.toInt < 6
  · by_cases h1 : (h 55 0 >>> (v &&& 31)) &&& 1 = 1 <;> simp [h0, h1]
  · simp [h0]
theorem pe_isThing (v : Int32) (h : mv_H) : fX10_isThing_55 v h = some (if (0 ≤ v.toInt ∧ v.toInt < 6) ∧ (h 55 1 >>> (v &&& 31)) &&& 1 = 1 then 1 else 0) := by
  unfold fX10_isThing_55
  simp only [pe_mNumber, Option.bind_some, pz_i0]
  by_cases h0 : 0 ≤ v.toInt ∧ v.toInt < 6
  · by_cases h1 : (h 55 1 >>> (v &&& 31)) &&& 1 = 1 <;> simp [h0, h1]
  · simp [h0]
theorem pe_isSheet (v : Int32) (h : mv_H) : fX10_isSheet_55 v h = some (if (0 ≤ v.toInt ∧ v.toInt < 6) ∧ (h 55 2 >>> (v &&& 31)) &&& 1 = 1 then 1 else 0) := by
  unfold fX10_isSheet_55
  simp only [pe_mNumber, Option.bind_some, pz_i0]
  by_cases h0 : 0 ≤ v.toInt ∧ v.toInt < 6
  · by_cases h1 : (h 55 2 >>> (v &&& 31)) &&& 1 = 1 <;> simp [h0, h1]
  · simp [h0]
/-- the pad alone changes -/
def pd (o k : Nat) : Prop := (o = 34 ∧ k = 1) ∨ o = 35 ∨ (o = 55 ∧ k = 16) ∨ o = 62
theorem pv_padinv {h h' : mv_H} (s : ∀ o k, ¬ scr o k → ¬ pd o k → h' o k = h o k) (H : Inv h) (hp : pv_p h') : Inv h' := by
  obtain ⟨h'', hd⟩ : ∃ h'' : mv_H, h'' = fun o k => if o = 34 ∧ k = 1 ∨ o = 35 ∨ o = 55 ∧ k = 16 ∨ o = 62 then h o k else h' o k := ⟨_, rfl⟩
  have S1 : Same h h'' := fun o k q => by
    rw [hd]
    show (if o = 34 ∧ k = 1 ∨ o = 35 ∨ o = 55 ∧ k = 16 ∨ o = 62 then h o k else h' o k) = h o k
    by_cases e : o = 34 ∧ k = 1 ∨ o = 35 ∨ o = 55 ∧ k = 16 ∨ o = 62
    · rw [if_pos e]
    · rw [if_neg e]; exact s o k q e
  have I := S1.inv H
  have back : ∀ o k, ¬ pd o k → h' o k = h'' o k := fun o k q => by
    rw [hd]
    show h' o k = (if o = 34 ∧ k = 1 ∨ o = 35 ∨ o = 55 ∧ k = 16 ∨ o = 62 then h o k else h' o k)
    have q' : ¬ (o = 34 ∧ k = 1 ∨ o = 35 ∨ o = 55 ∧ k = 16 ∨ o = 62) := q
    rw [if_neg q']
  obtain ⟨⟨N, hG, hM, hN⟩, ⟨c1, c2, c3, c4, c5⟩, -, b0, b1, i1, i2, i3, i4, i5⟩ := I
  have gvb : ∀ g a i, (g = 1 ∨ g = 12 ∨ g = 23) → pv_gv h' g a i = pv_gv h'' g a i := fun g a i hg => by
    have key : ∀ o k, o ≤ 33 → h' o k = h'' o k := fun o k ho => back o k (by unfold pd; omega)
    simp only [pv_gv]
    rw [key (g + 1) 2 (by omega), key (g + 3) 2 (by omega), key (g + 5) 2 (by omega), key (g + 7) 2 (by omega), key (g + 9) 2 (by omega), key g (i + 2) (by omega), key (g + 2) i (by omega), key (g + 4) i (by omega), key (g + 6) (3 * i) (by omega), key (g + 6) (3 * i + 1) (by omega), key (g + 8) i (by omega), key (g + 10) i (by omega)]
  refine ⟨⟨N, fun a i hv => (gvb 1 a i (Or.inl rfl)).trans (hG a i hv), ?_, hN⟩, ⟨?_, ?_, ?_, ?_, ?_⟩, hp, b0, b1, ?_, ?_, ?_, fun q => ?_, fun q => ?_⟩
  · intro a i hv
    have e := hM a i hv
    rw [← e]
    unfold vld at hv
    simp only [pv_mw]
    by_cases ha : a = 0
    · simp only [ha, if_true]
      by_cases h3 : i < 3
      · simp only [h3, if_true]; exact back _ _ (by unfold pd; omega)
      · simp only [h3, if_false]
        by_cases h7 : i = 7
        · simp only [h7, if_true]; exact back _ _ (by unfold pd; omega)
        · simp only [h7, if_false]
          by_cases h8 : i = 8
          · simp only [h8, if_true]; exact back _ _ (by unfold pd; omega)
          · simp only [h8, if_false]; exact back _ _ (by unfold pd; omega)
    · simp only [ha, if_false]; exact back _ _ (by unfold pd; omega)
  · rw [back 2 0 (by unfold pd; omega)]; exact c1
  · rw [back 4 0 (by unfold pd; omega)]; exact c2
  · rw [back 6 0 (by unfold pd; omega)]; exact c3
  · rw [back 8 0 (by unfold pd; omega)]; exact c4
  · rw [back 10 0 (by unfold pd; omega)]; exact c5
  · rw [back 0 3 (by unfold pd; omega)]; exact i1
  · rw [back 82 0 (by unfold pd; omega)]; exact i2
  · rw [back 82 1 (by unfold pd; omega)]; exact i3
  · obtain ⟨N, a, b, c⟩ := i4 q
    exact ⟨N, fun x y hv => (gvb 12 x y (Or.inr (Or.inl rfl))).trans (a x y hv), fun x y hv => (back 81 _ (by unfold pd; omega)).trans (b x y hv), c⟩
  · obtain ⟨N, a, b, c⟩ := i5 q
    exact ⟨N, fun x y hv => (gvb 23 x y (Or.inr (Or.inr rfl))).trans (a x y hv), fun x y hv => (back 81 _ (by unfold pd; omega)).trans (b x y hv), c⟩
