/-! what holds between the class's cells and the reference's: one abstract state of whole numbers -/
def vld (a i : Nat) : Prop := (a = 0 ∧ i < 9) ∨ (1 ≤ a ∧ a ≤ 2 ∧ i < 18) ∨ (3 ≤ a ∧ a ≤ 6 ∧ i < 6)
def pv_gv (h : mv_H) (g a i : Nat) : Int32 :=
  if a = 0 then (if i = 0 then h (g + 1) 2 else if i = 1 then h (g + 3) 2 else if i = 2 then h (g + 5) 2 else if i = 7 then h (g + 7) 2 else if i = 8 then h (g + 9) 2 else h g (i + 2))
  else if a = 1 then h (g + 2) i else if a = 2 then h (g + 4) i else if a = 3 then h (g + 6) (3 * i) else if a = 4 then h (g + 6) (3 * i + 1) else if a = 5 then h (g + 8) i else h (g + 10) i
def pv_mw (h : mv_H) (a i : Nat) : Int32 :=
  if a = 0 then (if i < 3 then h 55 i else if i = 7 then h 55 12 else if i = 8 then h 55 14 else h 55 (i + 4)) else h (55 + a) i
def kw (h : mv_H) (n a i : Nat) : Int32 :=
  h 81 (100 * n + (if a = 0 then i else if a = 1 then 9 + 2 * i else if a = 2 then 10 + 2 * i else if a = 3 then 45 + 4 * i else if a = 4 then 46 + 4 * i else if a = 5 then 47 + 4 * i else 48 + 4 * i))
def okN (N : Nat → Nat → Nat) : Prop :=
  (N 0 0 < 64 ∧ N 0 1 < 64 ∧ N 0 2 < 64) ∧ (N 0 3 ≤ 9 ∧ N 0 4 ≤ 9 ∧ 1 ≤ N 0 5 ∧ N 0 5 ≤ 40 ∧ N 0 6 ≤ 60) ∧ (N 0 7 ≤ 6 ∧ N 0 8 ≤ 6) ∧
  ((∀ i, i < 18 → N 1 i ≤ 20) ∧ (∀ i, i < 18 → N 2 i ≤ 20)) ∧ ((∀ i, i < 6 → N 3 i ≤ 150) ∧ (∀ i, i < 6 → N 4 i ≤ 150)) ∧ ((∀ i, i < 6 → N 5 i ≤ 150) ∧ (∀ i, i < 6 → N 6 i ≤ 90)) ∧
  (∀ i, i < 6 → (N 0 0).testBit i = true → ∀ j, j < 3 → 1 ≤ N 1 (3 * i + j)) ∧ (∀ i, i < 6 → (N 0 2).testBit i = true → 1 ≤ N 3 i ∧ 1 ≤ N 4 i)
def rdG (h : mv_H) (g : Nat) (N : Nat → Nat → Nat) : Prop := ∀ a i, vld a i → pv_gv h g a i = nI (N a i)
def rdM (h : mv_H) (N : Nat → Nat → Nat) : Prop := ∀ a i, vld a i → pv_mw h a i = nI (N a i)
def rdK (h : mv_H) (n : Nat) (N : Nat → Nat → Nat) : Prop := ∀ a i, vld a i → kw h n a i = nI (N a i)
def pv_c (h : mv_H) : Prop := h 2 0 = 3 ∧ h 4 0 = 3 ∧ h 6 0 = 2 ∧ h 8 0 = 150 ∧ h 10 0 = 90
def pv_p (h : mv_H) : Prop := ∃ (n : Nat) (s : Nat → Nat), n ≤ 60 ∧ h 34 1 = nI n ∧ h 55 16 = nI n ∧ ∀ i, i < n → h 35 i = nI (s i) ∧ h 62 i = nI (s i) ∧ 33 ≤ s i ∧ s i ≤ 126
def pv_i (h : mv_H) : Prop := ∃ b0 b1 : Bool, h 0 3 = nI (b0.toNat + 2 * b1.toNat) ∧ h 82 0 = nI b0.toNat ∧ h 82 1 = nI b1.toNat ∧ (b0 = true → ∃ N, rdG h 12 N ∧ rdK h 0 N ∧ okN N) ∧ (b1 = true → ∃ N, rdG h 23 N ∧ rdK h 1 N ∧ okN N)
def Inv (h : mv_H) : Prop := (∃ N, rdG h 1 N ∧ rdM h N ∧ okN N) ∧ pv_c h ∧ pv_p h ∧ pv_i h
/-- cells in which a question may scribble -/
def scr (o k : Nat) : Prop := (o = 34 ∧ 2 ≤ k) ∨ (36 ≤ o ∧ o ≤ 54) ∨ (o = 55 ∧ ((19 ≤ k ∧ k ≤ 22) ∨ k = 30 ∨ k = 35 ∨ k = 37 ∨ 44 ≤ k)) ∨ (63 ≤ o ∧ o ≤ 80)
def Same (h h' : mv_H) : Prop := ∀ o k, ¬ scr o k → h' o k = h o k
theorem Same.rf (h : mv_H) : Same h h := fun _ _ _ => rfl
theorem Same.tr {a b c : mv_H} (h1 : Same a b) (h2 : Same b c) : Same a c := fun o k q => (h2 o k q).trans (h1 o k q)
theorem Same.u {h : mv_H} {o k : Nat} {v : Int32} (q : scr o k) : Same h (mv_u h o k v) := fun o' k' z => by
  by_cases e : o' = o
  · subst e
    by_cases e2 : k' = k
    · subst e2; exact absurd q z
    · rw [mv_u_s]; simp [upd, e2]
  · rw [mv_u_n e]
theorem Same.gv {h h' : mv_H} (s : Same h h') {g a i : Nat} (hg : g = 1 ∨ g = 12 ∨ g = 23) (hv : vld a i) : pv_gv h' g a i = pv_gv h g a i := by
  have key : ∀ o k, o ≤ 33 → h' o k = h o k := fun o k ho => s o k (by unfold scr; omega)
  unfold vld at hv
  have h33 : g + 10 ≤ 33 := by omega
  simp only [pv_gv]
  rw [key (g + 1) 2 (by omega), key (g + 3) 2 (by omega), key (g + 5) 2 (by omega), key (g + 7) 2 (by omega), key (g + 9) 2 (by omega), key g (i + 2) (by omega), key (g + 2) i (by omega), key (g + 4) i (by omega), key (g + 6) (3 * i) (by omega), key (g + 6) (3 * i + 1) (by omega), key (g + 8) i (by omega), key (g + 10) i (by omega)]
theorem Same.mw {h h' : mv_H} (s : Same h h') {a i : Nat} (hv : vld a i) : pv_mw h' a i = pv_mw h a i := by
  unfold vld at hv
  simp only [pv_mw]
  by_cases ha : a = 0
  · have hi : i < 9 := by omega
    simp only [ha, if_true]
    by_cases h3 : i < 3
    · simp only [h3, if_true]; exact s _ _ (by unfold scr; omega)
    · simp only [h3, if_false]
      by_cases h7 : i = 7
      · simp only [h7, if_true]; exact s _ _ (by unfold scr; omega)
      · simp only [h7, if_false]
        by_cases h8 : i = 8
        · simp only [h8, if_true]; exact s _ _ (by unfold scr; omega)
        · simp only [h8, if_false]; exact s _ _ (by unfold scr; omega)
  · simp only [ha, if_false]; exact s _ _ (by unfold scr; omega)
theorem Same.rdG {h h' : mv_H} (s : Same h h') {g : Nat} {N : Nat → Nat → Nat} (hg : g = 1 ∨ g = 12 ∨ g = 23) (r : rdG h g N) : rdG h' g N := fun a i hv => (s.gv hg hv).trans (r a i hv)
theorem Same.rdM {h h' : mv_H} (s : Same h h') {N : Nat → Nat → Nat} (r : rdM h N) : rdM h' N := fun a i hv => (s.mw hv).trans (r a i hv)
theorem Same.rdK {h h' : mv_H} (s : Same h h') {n : Nat} {N : Nat → Nat → Nat} (r : rdK h n N) : rdK h' n N := fun a i hv => (s 81 _ (by unfold scr; omega)).trans (r a i hv)
theorem Same.inv {h h' : mv_H} (s : Same h h') (H : Inv h) : Inv h' := by
  obtain ⟨⟨N, h1, h2, h3⟩, ⟨c1, c2, c3, c4, c5⟩, ⟨n, f, p1, p2, p3, p4⟩, b0, b1, i1, i2, i3, i4, i5⟩ := H
  have ns : ∀ {o k}, ¬ scr o k → h' o k = h o k := fun q => s _ _ q
  refine ⟨⟨N, s.rdG (Or.inl rfl) h1, s.rdM h2, h3⟩, ⟨?_, ?_, ?_, ?_, ?_⟩, ⟨n, f, p1, ?_, ?_, fun i hi => ⟨?_, ?_, (p4 i hi).2.2⟩⟩, b0, b1, ?_, ?_, ?_, fun q => ?_, fun q => ?_⟩
  · rw [ns (by unfold scr; omega)]; exact c1
  · rw [ns (by unfold scr; omega)]; exact c2
  · rw [ns (by unfold scr; omega)]; exact c3
  · rw [ns (by unfold scr; omega)]; exact c4
  · rw [ns (by unfold scr; omega)]; exact c5
  · rw [ns (by unfold scr; omega)]; exact p2
  · rw [ns (by unfold scr; omega)]; exact p3
  · rw [ns (by unfold scr; omega)]; exact (p4 i hi).1
  · rw [ns (by unfold scr; omega)]; exact (p4 i hi).2.1
  · rw [ns (by unfold scr; omega)]; exact i1
  · rw [ns (by unfold scr; omega)]; exact i2
  · rw [ns (by unfold scr; omega)]; exact i3
  · obtain ⟨N, a, b, c⟩ := i4 q
    exact ⟨N, s.rdG (Or.inr (Or.inl rfl)) a, s.rdK b, c⟩
  · obtain ⟨N, a, b, c⟩ := i5 q
    exact ⟨N, s.rdG (Or.inr (Or.inr rfl)) a, s.rdK b, c⟩
