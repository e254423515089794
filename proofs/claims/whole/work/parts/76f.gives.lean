/-! cuts: whether the class gives a set -/
def stv (X : Nat → Sz) (T H : Nat) : Nat := stp X 10 T H
def CI (h : mv_H) (X : Nat → Sz) (B W H : Nat) : Prop := (h 41 4 = nI W ∧ h 41 5 = nI H) ∧ Wn h X B ∧ ∀ T, T < 64 → T &&& B = T → (h 45 T = -1 ∨ h 45 T = nI (stv X T H)) ∧ (h 44 T = -1 ∨ h 44 T = nI (stv X T W))
def Cx (h h' : mv_H) : Prop := ∀ o k, o ≠ 44 → o ≠ 45 → h' o k = h o k
theorem Cx.rf (h : mv_H) : Cx h h := fun _ _ _ _ => rfl
theorem Cx.tr {a b c : mv_H} (h1 : Cx a b) (h2 : Cx b c) : Cx a c := fun o k q1 q2 => (h2 o k q1 q2).trans (h1 o k q1 q2)
theorem Cx.same {a b : mv_H} (h1 : Cx a b) : Same a b := fun o k q => h1 o k (by unfold scr at q; omega) (by unfold scr at q; omega)
theorem nI_n1 {n : Nat} (hn : n < 2 ^ 31) : ¬ nI n = -1 := fun z => by
  have := congrArg Int32.toInt z
  rw [nI_toInt hn] at this
  have e : (-1 : Int32).toInt = -1 := rfl
  omega
theorem pe_byH {h : mv_H} {X : Nat → Sz} {B W H T : Nat} (C : CI h X B W H) (hH : H ≤ 150) (hT : T < 64) (hs : T &&& B = T) : ∃ h', fX0_stripByHeight_41 (nI T) h = some (nI (stv X T H), h') ∧ CI h' X B W H ∧ Cx h h' := by
  obtain ⟨c1, c2, c3⟩ := C
  obtain ⟨i1, i2⟩ := pz_in (n := T) (M := 64) hT (by decide)
  have hl := stp_le (X := X) 10 T H
  have W1 : fX9_isWithin (nI T) 0 63 = some 1 := by
    rw [pe_isWithin, nI_toInt (by omega), if_pos]
    have e : (63 : Int32).toInt = 63 := rfl
    rw [e, pz_32.1]; omega
  have st : fX0_strip_41 mv_R (nI T) (h 41 5) h = some (nI (stv X T H)) := by
    rw [c1.2, mv_R_eq]
    exact pe_strip c2 10 T H (by have := pc_le T; omega) hT hH (fun b _ hb => pz_subC hs hb)
  have U : ∀ g, g 45 T = nI (stv X T H) → fX0_stripByHeight_41_b39 (nI T) g = some (nI (stv X T H), g) := fun g eg => by
    unfold fX0_stripByHeight_41_b39
    rw [if_pos i1, i2, eg]
  by_cases q : h 45 T = -1
  · obtain ⟨g, eg⟩ : ∃ g, g = mv_u h 45 T (nI (stv X T H)) := ⟨_, rfl⟩
    have ug : ∀ o k, ¬ (o = 45 ∧ k = T) → g o k = h o k := fun o k z => by rw [eg, mv_u_at, if_neg z]
    have gT : g 45 T = nI (stv X T H) := by rw [eg, mv_u_at, if_pos ⟨rfl, rfl⟩]
    refine ⟨g, ?_, ⟨⟨(ug 41 4 (by omega)).trans c1.1, (ug 41 5 (by omega)).trans c1.2⟩, fun b hb hbt => ?_, fun S hS hSB => ?_⟩, fun o k z1 z2 => ug o k (fun w => z2 w.1)⟩
    · unfold fX0_stripByHeight_41
      rw [W1, Option.bind_some, if_neg (by decide), if_pos i1]
      simp only [i2]
      rw [if_pos q, st, Option.bind_some, if_pos i1]
      simp only [mv_let]
      rw [← eg]; exact U g gT
    · obtain ⟨a, b', c⟩ := c2 b hb hbt
      exact ⟨(ug 42 b (by omega)).trans a, (ug 43 b (by omega)).trans b', c⟩
    · obtain ⟨a, b'⟩ := c3 S hS hSB
      refine ⟨?_, by rw [ug 44 S (by omega)]; exact b'⟩
      by_cases z : S = T
      · rw [z]; exact Or.inr gT
      · rw [ug 45 S (fun w => z w.2)]; exact a
  · refine ⟨h, ?_, ⟨c1, c2, c3⟩, Cx.rf h⟩
    unfold fX0_stripByHeight_41
    rw [W1, Option.bind_some, if_neg (by decide), if_pos i1]
    simp only [i2]
    rw [if_neg q]
    refine U h ?_
    rcases (c3 T hT hs).1 with z | z
    · exact absurd z q
    · exact z
theorem pe_byW {h : mv_H} {X : Nat → Sz} {B W H T : Nat} (C : CI h X B W H) (hW : W ≤ 150) (hT : T < 64) (hs : T &&& B = T) : ∃ h', fX0_stripByWidth_41 (nI T) h = some (nI (stv X T W), h') ∧ CI h' X B W H ∧ Cx h h' := by
  obtain ⟨c1, c2, c3⟩ := C
  obtain ⟨i1, i2⟩ := pz_in (n := T) (M := 64) hT (by decide)
  have hl := stp_le (X := X) 10 T W
  have W1 : fX9_isWithin (nI T) 0 63 = some 1 := by
    rw [pe_isWithin, nI_toInt (by omega), if_pos]
    have e : (63 : Int32).toInt = 63 := rfl
    rw [e, pz_32.1]; omega
  have st : fX0_strip_41 mv_R (nI T) (h 41 4) h = some (nI (stv X T W)) := by
    rw [c1.1, mv_R_eq]
    exact pe_strip c2 10 T W (by have := pc_le T; omega) hT hW (fun b _ hb => pz_subC hs hb)
  have U : ∀ g, g 44 T = nI (stv X T W) → fX0_stripByWidth_41_b39 (nI T) g = some (nI (stv X T W), g) := fun g eg => by
    unfold fX0_stripByWidth_41_b39
    rw [if_pos i1, i2, eg]
  by_cases q : h 44 T = -1
  · obtain ⟨g, eg⟩ : ∃ g, g = mv_u h 44 T (nI (stv X T W)) := ⟨_, rfl⟩
    have ug : ∀ o k, ¬ (o = 44 ∧ k = T) → g o k = h o k := fun o k z => by rw [eg, mv_u_at, if_neg z]
    have gT : g 44 T = nI (stv X T W) := by rw [eg, mv_u_at, if_pos ⟨rfl, rfl⟩]
    refine ⟨g, ?_, ⟨⟨(ug 41 4 (by omega)).trans c1.1, (ug 41 5 (by omega)).trans c1.2⟩, fun b hb hbt => ?_, fun S hS hSB => ?_⟩, fun o k z1 z2 => ug o k (fun w => z1 w.1)⟩
    · unfold fX0_stripByWidth_41
      rw [W1, Option.bind_some, if_neg (by decide), if_pos i1]
      simp only [i2]
      rw [if_pos q, st, Option.bind_some, if_pos i1]
      simp only [mv_let]
      rw [← eg]; exact U g gT
    · obtain ⟨a, b', c⟩ := c2 b hb hbt
      exact ⟨(ug 42 b (by omega)).trans a, (ug 43 b (by omega)).trans b', c⟩
    · obtain ⟨a, b'⟩ := c3 S hS hSB
      refine ⟨by rw [ug 45 S (by omega)]; exact a, ?_⟩
      by_cases z : S = T
      · rw [z]; exact Or.inr gT
      · rw [ug 44 S (fun w => z w.2)]; exact b'
  · refine ⟨h, ?_, ⟨c1, c2, c3⟩, Cx.rf h⟩
    unfold fX0_stripByWidth_41
    rw [W1, Option.bind_some, if_neg (by decide), if_pos i1]
    simp only [i2]
    rw [if_neg q]
    refine U h ?_
    rcases (c3 T hT hs).2 with z | z
    · exact absurd z q
    · exact z
def bothB (X : Nat → Sz) (W H p r : Nat) : Bool := decide (p ≤ r ∧ (stv X p H + stv X r H ≤ W ∨ stv X p W + stv X r W ≤ H))
theorem pe_both {h : mv_H} {X : Nat → Sz} {B W H p r : Nat} (C : CI h X B W H) (hW : W ≤ 150) (hH : H ≤ 150) (hp : p < 64) (hr : r < 64) (ps : p &&& B = p) (rs : r &&& B = r) : ∃ h', fX0_givesBoth_41 (nI p) (nI r) h = some (if bothB X W H p r = true then 1 else 0, h') ∧ CI h' X B W H ∧ Cx h h' := by
  have l1 : stv X p H ≤ 1000 := stp_le _ _ _
  have l2 : stv X r H ≤ 1000 := stp_le _ _ _
  have l3 : stv X p W ≤ 1000 := stp_le _ _ _
  have l4 : stv X r W ≤ 1000 := stp_le _ _ _
  unfold fX0_givesBoth_41 fX0_givesBoth_41_b43
  simp only [pz_lt3 (show r < 2 ^ 31 by omega) (show p < 2 ^ 31 by omega)]
  by_cases q : r < p
  · refine ⟨h, ?_, C, Cx.rf h⟩
    rw [if_pos q, if_neg (by simp only [bothB, decide_eq_true_eq]; omega)]
  · obtain ⟨h1, e1, C1, x1⟩ := pe_byH C hH hp ps
    obtain ⟨h2, e2, C2, x2⟩ := pe_byH C1 hH hr rs
    rw [if_neg q, e1, Option.bind_some]
    simp only [e2, Option.bind_some, nI_add, C2.1.1, pz_lt3 (show W < 2 ^ 31 by omega) (show stv X p H + stv X r H < 2 ^ 31 by omega)]
    by_cases q1 : W < stv X p H + stv X r H
    · obtain ⟨h3, e3, C3, x3⟩ := pe_byW C2 hW hp ps
      obtain ⟨h4, e4, C4, x4⟩ := pe_byW C3 hW hr rs
      refine ⟨h4, ?_, C4, ((x1.tr x2).tr x3).tr x4⟩
      rw [if_pos q1, e3, Option.bind_some]
      simp only [e4, Option.bind_some, nI_add, C4.1.2, pz_lt3 (show H < 2 ^ 31 by omega) (show stv X p W + stv X r W < 2 ^ 31 by omega)]
      by_cases q2 : H < stv X p W + stv X r W
      · rw [if_pos q2, if_neg (by simp only [bothB, decide_eq_true_eq]; omega)]
      · rw [if_neg q2, if_pos (by simp only [bothB, decide_eq_true_eq]; omega)]
    · refine ⟨h2, ?_, C2, x1.tr x2⟩
      rw [if_neg q1, if_pos (by simp only [bothB, decide_eq_true_eq]; omega)]
theorem pe_ppm {h : mv_H} {X : Nat → Sz} {B T : Nat} (hw : Wn h X B) (hT : T < 64) (hs : T &&& B = T) : ∀ (n k fuel acc : Nat), n + k = 6 → n < fuel → fX0_paperOf_41_b4 fuel (nI T) (nI acc) (nI k) h = some (nI (acc + arl ((ml T n k).map X)))
  | n, k, 0, acc, _, hf => absurd hf (by omega)
  | 0, k, fuel + 1, acc, hn, _ => by
    rw [show k = 6 by omega, fX0_paperOf_41_b4, if_neg (by decide)]; rfl
  | n + 1, k, fuel + 1, acc, hn, hf => by
    have hk : k < 6 := by omega
    obtain ⟨i1, i2, -⟩ := pz_i6 k hk
    rw [fX0_paperOf_41_b4, if_pos (pz_l6 hk), pz_isIn hT hk, Option.bind_some, ml_s]
    simp only [pz_i0, fX0_paperOf_41_b34, nI_1, if_pos i1, i2, mv_let]
    by_cases q : T.testBit k = true
    · obtain ⟨a, b, -⟩ := hw k hk (pz_subC hs q)
      rw [if_neg (fun z => z q), if_pos q, a, b, pk_mul, nI_add, pe_ppm hw hT hs n (k + 1) fuel _ (by omega) (by omega)]
      show some (nI (acc + (X k).1 * (X k).2 + arl ((ml T n (k + 1)).map X))) = some (nI (acc + ((X k).1 * (X k).2 + arl ((ml T n (k + 1)).map X))))
      rw [Nat.add_assoc]
    · rw [if_pos q, if_neg q]
      exact pe_ppm hw hT hs n (k + 1) fuel acc (by omega) (by omega)
theorem pe_cpaper {h : mv_H} {X : Nat → Sz} {B T : Nat} (hw : Wn h X B) (hT : T < 64) (hs : T &&& B = T) : fX0_paperOf_41 (nI T) h = some (nI (arl ((mems T).map X))) := by
  have := pe_ppm hw hT hs 6 0 mv_F 0 rfl (by rw [mv_F_eq]; decide)
  rw [Nat.zero_add] at this
  exact this
theorem arl_le {X : Nat → Sz} : ∀ l : List Nat, (∀ b, b ∈ l → (X b).1 ≤ 150 ∧ (X b).2 ≤ 150) → arl (l.map X) ≤ 22500 * l.length
  | [], _ => Nat.le_refl _
  | b :: r, h => by
    have h1 := arl_le r (fun c hc => h c (List.mem_cons_of_mem _ hc))
    obtain ⟨a1, a2⟩ := h b List.mem_cons_self
    have h2 : (X b).1 * (X b).2 ≤ 150 * 150 := Nat.mul_le_mul a1 a2
    show (X b).1 * (X b).2 + arl (r.map X) ≤ 22500 * (r.length + 1)
    omega
theorem ml_mem {T : Nat} : ∀ n k b, b ∈ ml T n k → k ≤ b ∧ b < k + n ∧ T.testBit b = true
  | 0, k, b, h => by simp [ml] at h
  | n + 1, k, b, h => by
    rw [ml_s] at h
    by_cases q : T.testBit k = true
    · rw [if_pos q] at h
      rcases List.mem_cons.mp h with rfl | h
      · exact ⟨Nat.le_refl _, by omega, q⟩
      · have := ml_mem n (k + 1) b h
        exact ⟨by omega, by omega, this.2.2⟩
    · rw [if_neg q] at h
      have := ml_mem n (k + 1) b h
      exact ⟨by omega, by omega, this.2.2⟩
/-! four: all partings -/
def PL (T : Nat) : List (List Nat × List Nat) := [([mb T 0], [mb T 1, mb T 2, mb T 3]), ([mb T 1], [mb T 0, mb T 2, mb T 3]), ([mb T 2], [mb T 0, mb T 1, mb T 3]), ([mb T 3], [mb T 0, mb T 1, mb T 2]), ([mb T 0, mb T 1], [mb T 2, mb T 3]), ([mb T 0, mb T 2], [mb T 1, mb T 3]), ([mb T 0, mb T 3], [mb T 1, mb T 2])]
def zq_plA (T p : Nat) : Bool := (PL T).contains (mems p, mems (T - (T &&& p))) || (PL T).contains (mems (T - (T &&& p)), mems p)
def zq_plB (T : Nat) (q : List Nat × List Nat) (p : Nat) : Bool := decide (p ≠ 0) && decide (p < T) && decide (p &&& T = p) && decide (p ≤ T - (T &&& p)) && ((mems p, mems (T - (T &&& p))) == q || (mems (T - (T &&& p)), mems p) == q)
theorem zq_pl_A : ∀ T, T < 64 → pc T = 4 → ∀ p, p < 64 → (p ≠ 0 ∧ p &&& T = p ∧ p < T) → zq_plA T p = true := by decide +kernel
theorem zq_pl_B : ∀ T, T < 64 → pc T = 4 → (PL T).all (fun q => (List.range 64).any (fun p => zq_plB T q p)) = true := by decide +kernel
theorem mm_4 : ∀ T, T < 64 → pc T = 4 → mems T = [mb T 0, mb T 1, mb T 2, mb T 3] := by decide +kernel
theorem pz_dif : ∀ T, T < 64 → ∀ p, p < 64 → nI T &&& (nI p ^^^ (-1)) = nI (T - (T &&& p)) := by decide +kernel
theorem zq_pl_C1 : ∀ T, T < 64 → pc T = 4 → ∀ p, p < 64 → (p ≠ 0 ∧ p &&& T = p ∧ p < T) → pc p ≤ 3 := by decide +kernel
theorem zq_pl_C3 : ∀ T, T < 64 → pc T = 4 → ∀ p, p < 64 → (p ≠ 0 ∧ p &&& T = p ∧ p < T) → pc (T - (T &&& p)) ≤ 3 := by decide +kernel
theorem zq_pl_C2 : ∀ T, T < 64 → ∀ p, p < 64 → (T - (T &&& p) < 64 ∧ (T - (T &&& p)) &&& T = T - (T &&& p)) := by decide +kernel
theorem zq_pl_C (T : Nat) (hT : T < 64) (h4 : pc T = 4) (p : Nat) (hp : p < 64) (h : p ≠ 0 ∧ p &&& T = p ∧ p < T) : pc p ≤ 3 ∧ pc (T - (T &&& p)) ≤ 3 ∧ T - (T &&& p) < 64 ∧ (T - (T &&& p)) &&& T = T - (T &&& p) := ⟨zq_pl_C1 T hT h4 p hp h, zq_pl_C3 T hT h4 p hp h, zq_pl_C2 T hT p hp⟩
theorem e4_PL {X : Nat → Sz} {T W H : Nat} : e4 (X (mb T 0)) (X (mb T 1)) (X (mb T 2)) (X (mb T 3)) W H ↔ ∃ q, q ∈ PL T ∧ cb (el (q.1.map X)) (el (q.2.map X)) W H := by
  constructor
  · intro h
    rcases h with h | h | h | h | h | h | h
    · exact ⟨([mb T 0], [mb T 1, mb T 2, mb T 3]), by simp [PL], h⟩
    · exact ⟨([mb T 1], [mb T 0, mb T 2, mb T 3]), by simp [PL], h⟩
    · exact ⟨([mb T 2], [mb T 0, mb T 1, mb T 3]), by simp [PL], h⟩
    · exact ⟨([mb T 3], [mb T 0, mb T 1, mb T 2]), by simp [PL], h⟩
    · exact ⟨([mb T 0, mb T 1], [mb T 2, mb T 3]), by simp [PL], h⟩
    · exact ⟨([mb T 0, mb T 2], [mb T 1, mb T 3]), by simp [PL], h⟩
    · exact ⟨([mb T 0, mb T 3], [mb T 1, mb T 2]), by simp [PL], h⟩
  · rintro ⟨q, hq, h⟩
    unfold PL at hq
    rcases List.mem_cons.mp hq with rfl | hq
    · exact Or.inl h
    rcases List.mem_cons.mp hq with rfl | hq
    · exact Or.inr (Or.inl h)
    rcases List.mem_cons.mp hq with rfl | hq
    · exact Or.inr (Or.inr (Or.inl h))
    rcases List.mem_cons.mp hq with rfl | hq
    · exact Or.inr (Or.inr (Or.inr (Or.inl h)))
    rcases List.mem_cons.mp hq with rfl | hq
    · exact Or.inr (Or.inr (Or.inr (Or.inr (Or.inl h))))
    rcases List.mem_cons.mp hq with rfl | hq
    · exact Or.inr (Or.inr (Or.inr (Or.inr (Or.inr (Or.inl h)))))
    rcases List.mem_cons.mp hq with rfl | hq
    · exact Or.inr (Or.inr (Or.inr (Or.inr (Or.inr (Or.inr h)))))
    · cases hq
theorem both_cb {X : Nat → Sz} {W H p r : Nat} (hW : W ≤ 150) (hH : H ≤ 150) (hp : p < 64) (hr : r < 64) (p3 : pc p ≤ 3) (r3 : pc r ≤ 3) : (stv X p H + stv X r H ≤ W ∨ stv X p W + stv X r W ≤ H) ↔ cb (el ((mems p).map X)) (el ((mems r).map X)) W H := by
  have l1 : ((mems p).map X).length ≤ 3 := by rw [List.length_map, mems_len p hp]; exact p3
  have l2 : ((mems r).map X).length ≤ 3 := by rw [List.length_map, mems_len r hr]; exact r3
  have := Sp_cb (sl_sp _ l1) (sl_sp _ l2) (el_trn _ l1) (el_trn _ l2) (W := W) (H := H) (by omega) (by omega)
  rw [← this]
  unfold stv
  rw [stp_eq 10 p hp (by omega) p3, stp_eq 10 r hr (by omega) r3]
theorem four_iff {X : Nat → Sz} {W H T : Nat} (hW : W ≤ 150) (hH : H ≤ 150) (hT : T < 64) (h4 : pc T = 4) : (∃ p, 1 ≤ p ∧ p < T ∧ p &&& T = p ∧ bothB X W H p (T - (T &&& p)) = true) ↔ el ((mems T).map X) W H := by
  rw [mm_4 T hT h4]
  show _ ↔ e4 (X (mb T 0)) (X (mb T 1)) (X (mb T 2)) (X (mb T 3)) W H
  rw [e4_PL]
  constructor
  · rintro ⟨p, p1, p2, p3, p4⟩
    obtain ⟨c1, c2, c3, c4⟩ := zq_pl_C T hT h4 p (by omega) ⟨by omega, p3, p2⟩
    simp only [bothB, decide_eq_true_eq] at p4
    have k := (both_cb (X := X) hW hH (by omega) c3 c1 c2).mp p4.2
    have a := zq_pl_A T hT h4 p (by omega) ⟨by omega, p3, p2⟩
    unfold zq_plA at a
    rw [Bool.or_eq_true] at a
    rcases a with a | a
    · exact ⟨_, List.contains_iff_mem.mp a, k⟩
    · exact ⟨_, List.contains_iff_mem.mp a, cb_sym k⟩
  · rintro ⟨q, hq, k⟩
    have b := List.all_eq_true.mp (zq_pl_B T hT h4) q hq
    obtain ⟨p, hp, b⟩ := List.any_eq_true.mp b
    unfold zq_plB at b
    simp only [Bool.and_eq_true, Bool.or_eq_true, decide_eq_true_eq, beq_iff_eq] at b
    obtain ⟨⟨⟨⟨b1, b2⟩, b3⟩, b4⟩, b5⟩ := b
    obtain ⟨c1, c2, c3, c4⟩ := zq_pl_C T hT h4 p (by omega) ⟨b1, b3, b2⟩
    refine ⟨p, by omega, b2, b3, ?_⟩
    simp only [bothB, decide_eq_true_eq]
    refine ⟨b4, (both_cb (X := X) hW hH (by omega) c3 c1 c2).mpr ?_⟩
    rcases b5 with b5 | b5
    · rw [← b5] at k; exact k
    · rw [← b5] at k; exact cb_sym k
theorem pe_g47 {X : Nat → Sz} {B W H T : Nat} (hW : W ≤ 150) (hH : H ≤ 150) (hT : T < 64) (hB : B < 64) (hs : T &&& B = T) (h4 : pc T = 4) : ∀ (n k fuel : Nat) (h : mv_H), n + k = T → 1 ≤ k → n < fuel → CI h X B W H → ∃ (z : Bool) (h' : mv_H), fX0_gives_41_b47 fuel (nI T) (nI k) h = some (if z = true then 1 else 0, h') ∧ CI h' X B W H ∧ Cx h h' ∧ (z = true ↔ ∃ p, k ≤ p ∧ p < T ∧ p &&& T = p ∧ bothB X W H p (T - (T &&& p)) = true)
  | n, k, 0, h, _, _, hf, _ => absurd hf (by omega)
  | 0, k, fuel + 1, h, hn, hk1, _, C => by
    refine ⟨false, h, ?_, C, Cx.rf h, ⟨fun z => (by cases z), fun z => (by obtain ⟨p, p1, p2, -⟩ := z; omega)⟩⟩
    rw [show k = T by omega, fX0_gives_41_b47, if_neg (nI_nlt (Nat.le_refl _) (by omega))]; rfl
  | n + 1, k, fuel + 1, h, hn, hk1, hf, C => by
    have hk : k < 64 := by omega
    rw [fX0_gives_41_b47, if_pos (nI_lt (by omega) (by omega)), if_pos (show nI k < 64 from nI_lt (b := 64) hk (by decide)), pz_dif T hT k hk]
    simp only [pz_subA k hk T hT, fX0_gives_41_b81, nI_1]
    by_cases q : k &&& T = k
    · obtain ⟨c1, c2, c3, c4⟩ := zq_pl_C T hT h4 k hk ⟨by omega, q, by omega⟩
      have ks : k &&& B = k := pz_subB k hk B hB (fun j _ hj => pz_subC hs (pz_subC q hj))
      have rs : (T - (T &&& k)) &&& B = T - (T &&& k) := pz_subB _ c3 B hB (fun j _ hj => pz_subC hs (pz_subC c4 hj))
      obtain ⟨h1, e1, C1, x1⟩ := pe_both C hW hH hk c3 ks rs
      rw [if_pos q, e1, Option.bind_some]
      simp only [pz_i0]
      by_cases b : bothB X W H k (T - (T &&& k)) = true
      · refine ⟨true, h1, ?_, C1, x1, ⟨fun _ => ⟨k, Nat.le_refl _, by omega, q, b⟩, fun _ => rfl⟩⟩
        rw [if_neg (fun z => z b)]; rfl
      · obtain ⟨z, h2, e2, C2, x2, i2⟩ := pe_g47 hW hH hT hB hs h4 n (k + 1) fuel h1 (by omega) (by omega) (by omega) C1
        refine ⟨z, h2, ?_, C2, x1.tr x2, i2.trans ⟨fun w => ?_, fun w => ?_⟩⟩
        · rw [if_pos b]; exact e2
        · obtain ⟨p, p1, p2⟩ := w
          exact ⟨p, by omega, p2⟩
        · obtain ⟨p, p1, p2, p3, p4⟩ := w
          by_cases y : p = k
          · rw [y] at p4; exact absurd p4 b
          · exact ⟨p, by omega, p2, p3, p4⟩
    · obtain ⟨z, h2, e2, C2, x2, i2⟩ := pe_g47 hW hH hT hB hs h4 n (k + 1) fuel h (by omega) (by omega) (by omega) C
      refine ⟨z, h2, ?_, C2, x2, i2.trans ⟨fun w => ?_, fun w => ?_⟩⟩
      · rw [if_neg q]; exact e2
      · obtain ⟨p, p1, p2⟩ := w
        exact ⟨p, by omega, p2⟩
      · obtain ⟨p, p1, p2, p3, p4⟩ := w
        by_cases y : p = k
        · rw [y] at p3; exact absurd p3 q
        · exact ⟨p, by omega, p2, p3, p4⟩
theorem pe_gives {h : mv_H} {X : Nat → Sz} {B W H T : Nat} (C : CI h X B W H) (hW : W ≤ 150) (hH : H ≤ 150) (hT : T < 64) (hB : B < 64) (hs : T &&& B = T) (h4 : pc T ≤ 4) : ∃ (z : Bool) (h' : mv_H), fX0_gives_41 (nI T) h = some (if z = true then 1 else 0, h') ∧ CI h' X B W H ∧ Cx h h' ∧ (z = true ↔ el ((mems T).map X) W H) := by
  have hl : arl ((mems T).map X) ≤ 22500 * 4 := by
    have := arl_le (X := X) (mems T) (fun b hb => by
      have hm := ml_mem 6 0 b hb
      exact (C.2.1 b (by omega) (pz_subC hs hm.2.2)).2.2)
    rw [mems_len T hT] at this
    omega
  have hWH : W * H ≤ 150 * 150 := Nat.mul_le_mul hW hH
  have l4 : ((mems T).map X).length ≤ 4 := by rw [List.length_map, mems_len T hT]; exact h4
  unfold fX0_gives_41
  rw [pe_cpaper C.2.1 hT hs, Option.bind_some, C.1.1, C.1.2, pk_mul]
  simp only [pz_lt3 (show W * H < 2 ^ 31 by omega) (show arl ((mems T).map X) < 2 ^ 31 by omega), pe_bitCount T hT, Option.bind_some, show (nI (pc T) < 4) = (pc T < 4) from pz_lt3 (y := 4) (by omega) (by decide)]
  by_cases q : W * H < arl ((mems T).map X)
  · refine ⟨false, h, ?_, C, Cx.rf h, ⟨fun z => (by cases z), fun z => ?_⟩⟩
    · rw [if_pos q]; rfl
    · have := el_are _ l4 W H z
      omega
  · rw [if_neg q]
    by_cases q3 : pc T < 4
    · obtain ⟨h1, e1, C1, x1⟩ := pe_byH C hH hT hs
      have sl1 : stv X T H ≤ 1000 := stp_le _ _ _
      have l3 : ((mems T).map X).length ≤ 3 := by rw [List.length_map, mems_len T hT]; omega
      have sp := sl_sp _ l3 H W (by omega)
      have es : stv X T H = sl ((mems T).map X) H := by unfold stv; rw [stp_eq 10 T hT (by omega) (by omega)]
      rw [← es] at sp
      refine ⟨decide (stv X T H ≤ W), h1, ?_, C1, x1, by rw [decide_eq_true_eq]; exact sp⟩
      rw [if_pos q3, e1, Option.bind_some]
      simp only [C1.1.1, pz_lt3 (show W < 2 ^ 31 by omega) (show stv X T H < 2 ^ 31 by omega), decide_eq_true_eq]
      by_cases q5 : W < stv X T H
      · rw [if_pos q5, if_neg (by omega)]
      · rw [if_neg q5, if_pos (by omega)]
    · have e4 : pc T = 4 := by omega
      have hT1 : 1 ≤ T := by
        by_cases z : T = 0
        · rw [z] at e4; exact absurd e4 (by decide)
        · omega
      obtain ⟨z, h1, e1, C1, x1, i1⟩ := pe_g47 hW hH hT hB hs e4 (T - 1) 1 mv_F h (by omega) (Nat.le_refl _) (by rw [mv_F_eq]; omega) C
      refine ⟨z, h1, ?_, C1, x1, i1.trans (four_iff hW hH hT e4)⟩
      rw [if_neg q3]; exact e1
