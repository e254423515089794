/-! the pad read: fault -/
abbrev pst : Type := Nat × (Nat → Nat) × (Nat → Nat → Nat) × Option (Nat × Nat × Nat)
def cols (s : Nat) : Nat := if s = 2 then 2 else 3
def grt (s : Nat) : Nat := if s = 2 then 150 else 20
def up1 (f : Nat → Nat) (p v : Nat) : Nat → Nat := fun k => if k = p then v else f k
def up2 (f : Nat → Nat → Nat) (p c v : Nat) : Nat → Nat → Nat := fun k j => if k = p ∧ j = c then v else f k j
def pstep (x : Nat) (p : Nat) (so : Nat → Nat) (nu : Nat → Nat → Nat) : Option (Nat × Nat × Nat) → Option pst
  | none => if x = 66 then some (p, so, nu, some (0, 0, 0)) else if x = 84 then some (p, so, nu, some (1, 0, 0)) else if x = 83 then some (p, so, nu, some (2, 0, 0)) else none
  | some (s, c, v) => if 48 ≤ x ∧ x ≤ 57 then (if 10 * v + (x - 48) = 0 ∨ grt s < 10 * v + (x - 48) then none else some (p, so, nu, some (s, c, 10 * v + (x - 48))))
      else if v = 0 then none
      else if c + 1 = cols s then (if x = 59 then some (p + 1, up1 so p s, up2 nu p c v, none) else none)
      else (if x = 120 then some (p, so, up2 nu p c v, some (s, c + 1, 0)) else none)
def cnt (so : Nat → Nat) : Nat → Nat → Nat
  | 0, _ => 0
  | k + 1, i => cnt so k i + (if so k = i then 1 else 0)
theorem cnt_le (so : Nat → Nat) (i : Nat) : ∀ k, cnt so k i ≤ k
  | 0 => Nat.le_refl 0
  | k + 1 => by
    have := cnt_le so i k
    unfold cnt
    split <;> omega
theorem cnt_congr {so so' : Nat → Nat} {i : Nat} : ∀ k, (∀ j, j < k → so j = so' j) → cnt so k i = cnt so' k i
  | 0, _ => rfl
  | k + 1, h => by
    unfold cnt
    rw [cnt_congr k (fun j hj => h j (by omega)), h k (by omega)]
def okR (nu : Nat → Nat → Nat) (p : Nat) : Option (Nat × Nat × Nat) → Prop
  | none => True
  | some (s, c, v) => s < 3 ∧ c < cols s ∧ v ≤ grt s ∧ ∀ j, j < c → 1 ≤ nu p j ∧ nu p j ≤ grt s
def okP (k p : Nat) (so : Nat → Nat) (nu : Nat → Nat → Nat) (r : Option (Nat × Nat × Nat)) : Prop := p ≤ k ∧ (∀ i, i < p → so i < 3 ∧ ∀ j, j < cols (so i) → 1 ≤ nu i j ∧ nu i j ≤ grt (so i)) ∧ okR nu p r
theorem pstep_ok {x k p : Nat} {so : Nat → Nat} {nu : Nat → Nat → Nat} {r : Option (Nat × Nat × Nat)} {p' : Nat} {so' : Nat → Nat} {nu' : Nat → Nat → Nat} {r' : Option (Nat × Nat × Nat)} (h : okP k p so nu r) (e : pstep x p so nu r = some (p', so', nu', r')) : okP (k + 1) p' so' nu' r' := by
  obtain ⟨h1, h2, h3⟩ := h
  cases r with
  | none =>
    simp only [pstep] at e
    by_cases q1 : x = 66
    · rw [if_pos q1] at e; cases e
      exact ⟨by omega, h2, by decide, by decide, by decide, fun j hj => absurd hj (by omega)⟩
    · rw [if_neg q1] at e
      by_cases q2 : x = 84
      · rw [if_pos q2] at e; cases e
        exact ⟨by omega, h2, by decide, by decide, by decide, fun j hj => absurd hj (by omega)⟩
      · rw [if_neg q2] at e
        by_cases q3 : x = 83
        · rw [if_pos q3] at e; cases e
          exact ⟨by omega, h2, by decide, by decide, by decide, fun j hj => absurd hj (by omega)⟩
        · rw [if_neg q3] at e; cases e
  | some t =>
    obtain ⟨s, c, v⟩ := t
    obtain ⟨a1, a2, a3, a4⟩ := h3
    simp only [pstep] at e
    by_cases q : 48 ≤ x ∧ x ≤ 57
    · rw [if_pos q] at e
      by_cases q2 : 10 * v + (x - 48) = 0 ∨ grt s < 10 * v + (x - 48)
      · rw [if_pos q2] at e; cases e
      · rw [if_neg q2] at e; cases e
        exact ⟨by omega, h2, a1, a2, by omega, a4⟩
    · rw [if_neg q] at e
      by_cases q0 : v = 0
      · rw [if_pos q0] at e; cases e
      · rw [if_neg q0] at e
        have nn : ∀ j, j < c + 1 → 1 ≤ up2 nu p c v p j ∧ up2 nu p c v p j ≤ grt s := fun j hj => by
          unfold up2
          by_cases z : j = c
          · rw [if_pos ⟨rfl, z⟩]; omega
          · rw [if_neg (fun w => z w.2)]; exact a4 j (by omega)
        by_cases q1 : c + 1 = cols s
        · rw [if_pos q1] at e
          by_cases q2 : x = 59
          · rw [if_pos q2] at e; cases e
            refine ⟨by omega, fun i hi => ?_, trivial⟩
            by_cases z : i = p
            · subst z
              have e1 : up1 so i s i = s := by simp [up1]
              rw [e1]
              exact ⟨a1, fun j hj => nn j (by omega)⟩
            · have e1 : up1 so p s i = so i := by simp [up1, z]
              rw [e1]
              have := h2 i (by omega)
              refine ⟨this.1, fun j hj => ?_⟩
              have e2 : up2 nu p c v i j = nu i j := by simp [up2, z]
              rw [e2]; exact this.2 j hj
          · rw [if_neg q2] at e; cases e
        · rw [if_neg q1] at e
          by_cases q2 : x = 120
          · rw [if_pos q2] at e; cases e
            refine ⟨by omega, fun i hi => ?_, a1, by omega, by omega, nn⟩
            have := h2 i hi
            refine ⟨this.1, fun j hj => ?_⟩
            have e2 : up2 nu p c v i j = nu i j := by simp [up2, show ¬ i = p by omega]
            rw [e2]; exact this.2 j hj
          · rw [if_neg q2] at e; cases e
def CR (h : mv_H) (nu : Nat → Nat → Nat) (p : Nat) : Option (Nat × Nat × Nat) → Prop
  | none => h 34 2 = -1
  | some (s, c, v) => h 34 2 = nI s ∧ h 34 3 = nI (cols s) ∧ h 34 4 = nI (grt s) ∧ h 34 5 = nI c ∧ h 34 6 = nI v ∧ ∀ j, j < c → h 36 j = nI (nu p j)
def CS (h : mv_H) (p : Nat) (so : Nat → Nat) (nu : Nat → Nat → Nat) (r : Option (Nat × Nat × Nat)) : Prop := (∀ i, i < 3 → h 37 i = nI (cnt so p i)) ∧ CR h nu p r
/-- after a sign was taken: as it must be, or at the end of a part -/
def CE (h : mv_H) (x p : Nat) (so : Nat → Nat) (t : pst) : Prop := (∀ i, i < 3 → h 37 i = nI (cnt so p i)) ∧
  ((x ≠ 59 ∧ t.1 = p ∧ t.2.1 = so ∧ t.2.2.2 ≠ none ∧ CR h t.2.2.1 p t.2.2.2) ∨ (x = 59 ∧ t.2.2.2 = none ∧ t.1 = p + 1 ∧ ∃ s, s < 3 ∧ t.2.1 = up1 so p s ∧ h 34 2 = nI s ∧ ∀ j, j < cols s → h 36 j = nI (t.2.2.1 p j)))
def An (h h' : mv_H) : Prop := ∀ o j, ¬ ((o = 34 ∧ 2 ≤ j) ∨ o = 36) → h' o j = h o j
theorem pz_e {x n : Nat} (hx : x < 2 ^ 31) (hn : n < 2 ^ 31) : (nI x = nI n) = (x = n) := propext (nI_eq hx hn)
theorem pz_sg : (66 : Int32) = nI 66 ∧ (83 : Int32) = nI 83 ∧ (84 : Int32) = nI 84 ∧ (59 : Int32) = nI 59 ∧ (120 : Int32) = nI 120 ∧ (48 : Int32) = nI 48 ∧ (10 : Int32) = nI 10 := ⟨rfl, rfl, rfl, rfl, rfl, rfl, rfl⟩
theorem pe_sp {h : mv_H} (a b c : Int32) : ∃ h', fX4_startPart_34 a b c h = some h' ∧ An h h' ∧ h' 34 2 = a ∧ h' 34 3 = b ∧ h' 34 4 = c ∧ h' 34 5 = 0 ∧ h' 34 6 = 0 := by
  refine ⟨_, rfl, ?_, ?_, ?_, ?_, ?_, ?_⟩
  · intro o j q
    rw [mv_u_at, if_neg (by omega), mv_u_at, if_neg (by omega), mv_u_at, if_neg (by omega), mv_u_at, if_neg (by omega), mv_u_at, if_neg (by omega)]
  all_goals simp [mv_let, mv_u_at]
theorem pz_5748 : (48 : Int32).toInt = 48 ∧ (57 : Int32).toInt = 57 ∧ (48 : Int64).toInt = 48 ∧ (57 : Int64).toInt = 57 := ⟨rfl, rfl, rfl, rfl⟩
theorem cols_le (s : Nat) : 2 ≤ cols s ∧ cols s ≤ 3 := by unfold cols; split <;> omega
theorem grt_le (s : Nat) : 20 ≤ grt s ∧ grt s ≤ 150 := by unfold grt; split <;> omega
theorem pe_acc {h : mv_H} {x k p : Nat} {so : Nat → Nat} {nu : Nat → Nat → Nat} {r : Option (Nat × Nat × Nat)} (hx : x ≤ 126) (C : CS h p so nu r) (O : okP k p so nu r) : ∃ h', fX4_accepts_34 (nI x) h = some (if (pstep x p so nu r).isSome = true then 1 else 0, h') ∧ An h h' ∧ ∀ t, pstep x p so nu r = some t → CE h' x p so t := by
  obtain ⟨C1, C2⟩ := C
  cases r with
  | none =>
    have c2 : h 34 2 = -1 := C2
    have L : fX4_accepts_34 (nI x) h = (fX4_acceptsLetter_34 (nI x) h).bind fun r299 => if mv_01 r299.1 then some (r299.1, r299.2) else none := by
      unfold fX4_accepts_34
      rw [if_pos c2]
    rw [L]
    unfold fX4_acceptsLetter_34
    simp only [pz_sg, pz_e (show x < 2 ^ 31 by omega) (show 66 < 2 ^ 31 by decide), pz_e (show x < 2 ^ 31 by omega) (show 83 < 2 ^ 31 by decide), pz_e (show x < 2 ^ 31 by omega) (show 84 < 2 ^ 31 by decide), pstep]
    have ae : ∀ (h' : mv_H), An h h' → ∀ i, i < 3 → h' 37 i = nI (cnt so p i) := fun h' a i hi => by rw [a 37 i (by omega)]; exact C1 i hi
    by_cases q1 : x = 66
    · obtain ⟨h', e, a, d2, d3, d4, d5, d6⟩ := pe_sp (h := h) 0 3 20
      refine ⟨h', ?_, a, fun t ht => ?_⟩
      · simp only [q1, if_true, e, Option.bind_some, Option.isSome_some]
        simp [mv_01]
      · rw [if_pos q1] at ht; cases ht
        exact ⟨ae h' a, Or.inl ⟨by omega, rfl, rfl, by simp, d2, d3, d4, d5, d6, fun j hj => absurd hj (by omega)⟩⟩
    · by_cases q2 : x = 84
      · obtain ⟨h', e, a, d2, d3, d4, d5, d6⟩ := pe_sp (h := h) 1 3 20
        refine ⟨h', ?_, a, fun t ht => ?_⟩
        · simp only [q2, if_true, e, Option.bind_some, Option.isSome_some]
          simp [mv_01, e]
        · rw [if_neg q1, if_pos q2] at ht; cases ht
          exact ⟨ae h' a, Or.inl ⟨by omega, rfl, rfl, by simp, d2, d3, d4, d5, d6, fun j hj => absurd hj (by omega)⟩⟩
      · by_cases q3 : x = 83
        · obtain ⟨h', e, a, d2, d3, d4, d5, d6⟩ := pe_sp (h := h) 2 2 150
          refine ⟨h', ?_, a, fun t ht => ?_⟩
          · simp only [q3, if_true, e, Option.bind_some, Option.isSome_some]
            simp [mv_01, e]
          · rw [if_neg q1, if_neg q2, if_pos q3] at ht; cases ht
            exact ⟨ae h' a, Or.inl ⟨by omega, rfl, rfl, by simp, d2, d3, d4, d5, d6, fun j hj => absurd hj (by omega)⟩⟩
        · refine ⟨h, ?_, fun _ _ _ => rfl, fun t ht => ?_⟩
          · simp [q1, q2, q3, mv_01]
          · rw [if_neg q1, if_neg q2, if_neg q3] at ht; cases ht
  | some t =>
    obtain ⟨s, c, v⟩ := t
    obtain ⟨O1, O2, O3, O4, O5, O6⟩ := O
    obtain ⟨c2, c3, c4, c5, c6, c7⟩ := C2
    have cl := cols_le s
    have gl := grt_le s
    have ns : ¬ h 34 2 = -1 := by
      rw [c2]
      rcases (show s = 0 ∨ s = 1 ∨ s = 2 by omega) with rfl | rfl | rfl <;> decide
    have w : fX9_isWithin (nI x) 48 57 = some (if 48 ≤ x ∧ x ≤ 57 then 1 else 0) := by
      rw [pe_isWithin, nI_toInt (by omega)]
      exact congrArg some (pz_if (by simp only [pz_5748]; omega))
    unfold fX4_accepts_34
    rw [if_neg ns, w, Option.bind_some]
    simp only [pz_i0, pstep]
    by_cases q : 48 ≤ x ∧ x ≤ 57
    · have ed : (10 : Int32) * nI v + (nI x - 48) = nI (10 * v + (x - 48)) := by rw [pz_sg.2.2.2.2.2.1, pk_sub (by omega), pz_sg.2.2.2.2.2.2, pk_mul, nI_add]
      have D : fX4_acceptsDigit_34 (nI x - 48) h = if 10 * v + (x - 48) = 0 ∨ grt s < 10 * v + (x - 48) then some (0, h) else some (1, mv_u h 34 6 (nI (10 * v + (x - 48)))) := by
        unfold fX4_acceptsDigit_34
        simp only [mv_let, c6, c4, ed, show (nI (10 * v + (x - 48)) = 0) = (10 * v + (x - 48) = 0) from pz_e (n := 0) (by omega) (by decide), pz_lt3 (show grt s < 2 ^ 31 by omega) (show 10 * v + (x - 48) < 2 ^ 31 by omega)]
        by_cases z1 : 10 * v + (x - 48) = 0
        · rw [if_pos z1, if_pos (Or.inl z1)]
        · rw [if_neg z1]
          by_cases z2 : grt s < 10 * v + (x - 48)
          · rw [if_pos z2, if_pos (Or.inr z2)]
          · rw [if_neg z2, if_neg (by omega)]
      rw [if_neg (fun z => z q), D]
      by_cases z : 10 * v + (x - 48) = 0 ∨ grt s < 10 * v + (x - 48)
      · refine ⟨h, ?_, fun _ _ _ => rfl, fun t ht => ?_⟩
        · simp only [if_pos z, if_pos q]; simp [mv_01]
        · rw [if_pos q, if_pos z] at ht; cases ht
      · refine ⟨mv_u h 34 6 (nI (10 * v + (x - 48))), ?_, fun o j zz => ?_, fun t ht => ?_⟩
        · simp only [if_neg z, if_pos q]; simp [mv_01]
        · rw [mv_u_at, if_neg (by omega)]
        · rw [if_pos q, if_neg z] at ht; cases ht
          refine ⟨fun i hi => by rw [mv_u_at, if_neg (by omega)]; exact C1 i hi, Or.inl ⟨by omega, rfl, rfl, by simp, ?_, ?_, ?_, ?_, ?_, fun j hj => ?_⟩⟩
          · rw [mv_u_at, if_neg (by omega)]; exact c2
          · rw [mv_u_at, if_neg (by omega)]; exact c3
          · rw [mv_u_at, if_neg (by omega)]; exact c4
          · rw [mv_u_at, if_neg (by omega)]; exact c5
          · rw [mv_u_at, if_pos ⟨rfl, rfl⟩]
          · rw [mv_u_at, if_neg (by omega)]; exact c7 j hj
    · rw [if_pos q]
      have kc : c < 3 := by omega
      obtain ⟨m1, m2, m3⟩ := pz_ax3 c kc
      obtain ⟨hk, ehk⟩ : ∃ hk, hk = mv_u (mv_u (mv_u h 36 c (nI v)) 34 5 (nI (c + 1))) 34 6 0 := ⟨_, rfl⟩
      have K : fX4_keepNumber_34 h = some hk := by
        unfold fX4_keepNumber_34
        rw [c5, c6, pe_isWithin, Option.bind_some, if_neg (by rw [pz_i0, m3]; simp only [pz_32]; omega), if_pos m1, m2]
        simp only [mv_let, fX4_keepNumber_34_b25]
        rw [show mv_u h 36 c (nI v) 34 5 = nI c from by rw [mv_u_at, if_neg (by omega), c5], nI_1, ehk]
      have hkA : An h hk := fun o j z => by rw [ehk, mv_u_at, if_neg (by omega), mv_u_at, if_neg (by omega), mv_u_at, if_neg (by omega)]
      have hk37 : ∀ i, i < 3 → hk 37 i = nI (cnt so p i) := fun i hi => by rw [hkA 37 i (by omega)]; exact C1 i hi
      have hk2 : hk 34 2 = nI s := by rw [ehk, mv_u_at, if_neg (by omega), mv_u_at, if_neg (by omega), mv_u_at, if_neg (by omega)]; exact c2
      have hk36 : ∀ j, j < c + 1 → hk 36 j = nI (up2 nu p c v p j) := fun j hj => by
        rw [ehk, mv_u_at, if_neg (by omega), mv_u_at, if_neg (by omega), mv_u_at]
        by_cases z : j = c
        · rw [if_pos ⟨rfl, z⟩]; simp [up2, z]
        · rw [if_neg (fun w => z w.2)]; simp [up2, z]; exact c7 j (by omega)
      have ec : (nI c = nI (cols s) - 1) = (c + 1 = cols s) := by
        rw [show nI (cols s) - 1 = nI (cols s - 1) from pk_sub (b := 1) (by omega), pz_e (by omega) (by omega)]
        exact propext ⟨fun z => by omega, fun z => by omega⟩
      have ev : (nI v = 0) = (v = 0) := pz_e (n := 0) (by omega) (by decide)
      simp only [c5, c3, ec, fX4_accepts_34_b52, fX4_accepts_34_b72, c6, ev, K, Option.bind_some, pz_sg, pz_e (show x < 2 ^ 31 by omega) (show 59 < 2 ^ 31 by decide), pz_e (show x < 2 ^ 31 by omega) (show 120 < 2 ^ 31 by decide), if_neg q, show ¬ ((1 : Int32) = 0) by decide, if_true, if_false]
      by_cases q0 : v = 0
      · refine ⟨h, ?_, fun _ _ _ => rfl, fun t ht => ?_⟩
        · simp [q0]
        · rw [if_pos q0] at ht; cases ht
      · by_cases q1 : c + 1 = cols s
        · by_cases q2 : x = 59
          · refine ⟨hk, ?_, hkA, fun t ht => ?_⟩
            · simp [q0, q1, q2]
            · rw [if_neg q0, if_pos q1, if_pos q2] at ht; cases ht
              exact ⟨hk37, Or.inr ⟨q2, rfl, rfl, s, O3, rfl, hk2, fun j hj => hk36 j (by omega)⟩⟩
          · refine ⟨h, ?_, fun _ _ _ => rfl, fun t ht => ?_⟩
            · simp [q0, q1, q2]
            · rw [if_neg q0, if_pos q1, if_neg q2] at ht; cases ht
        · by_cases q2 : x = 120
          · refine ⟨hk, ?_, hkA, fun t ht => ?_⟩
            · simp [q0, q1, q2]
            · rw [if_neg q0, if_neg q1, if_pos q2] at ht; cases ht
              refine ⟨hk37, Or.inl ⟨by omega, rfl, rfl, by simp, hk2, ?_, ?_, ?_, ?_, hk36⟩⟩
              · rw [ehk, mv_u_at, if_neg (by omega), mv_u_at, if_neg (by omega), mv_u_at, if_neg (by omega)]; exact c3
              · rw [ehk, mv_u_at, if_neg (by omega), mv_u_at, if_neg (by omega), mv_u_at, if_neg (by omega)]; exact c4
              · rw [ehk, mv_u_at, if_neg (by omega), mv_u_at, if_pos ⟨rfl, rfl⟩]
              · rw [ehk, mv_u_at, if_pos ⟨rfl, rfl⟩]; rfl
          · refine ⟨h, ?_, fun _ _ _ => rfl, fun t ht => ?_⟩
            · simp [q0, q1, q2]
            · rw [if_neg q0, if_neg q1, if_neg q2] at ht; cases ht
