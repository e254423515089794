/-! paired: all pairings, as a tree -/
theorem pe_mfits2 {h : mv_H} {N : Nat → Nat → Nat} {t b : Nat} (hM : rdM h N) (hN : okN N) (ht : t < 6) (hb : b < 6) : ∃ h1, fX10_fitsIn_55 (nI t) (nI b) h = some (if sFit N t b = true then 1 else 0, h1) ∧ (∀ o k, o ≠ 79 → h1 o k = h o k) := by
  obtain ⟨k1, k2, k3⟩ := hN.t ht
  obtain ⟨j1, j2, j3⟩ := hN.b hb
  obtain ⟨⟨a1, a2, a3⟩, b1, b2, b3⟩ := sBT_le hN ht hb
  obtain ⟨⟨x1, y1⟩, ⟨x2, y2⟩, x3, y3⟩ := pz_iy t ht
  obtain ⟨⟨u1, v1⟩, ⟨u2, v2⟩, u3, v3⟩ := pz_iy b hb
  obtain ⟨g, eg⟩ : ∃ g, g = srt h 0 (N 2 (3 * t)) (N 2 (3 * t + 1)) (N 2 (3 * t + 2)) := ⟨_, rfl⟩
  obtain ⟨g2, eg2⟩ : ∃ g2, g2 = srt g 3 (N 1 (3 * b)) (N 1 (3 * b + 1)) (N 1 (3 * b + 2)) := ⟨_, rfl⟩
  have s1 : Same h g := eg ▸ srt_same
  have sr : ∀ (h : mv_H) (f a b c o k : Nat), o ≠ 79 → srt h f a b c o k = h o k := fun h f a b c o k q => by unfold srt; rw [mv_u_n q, mv_u_n q, mv_u_n q]
  have hM1 := s1.rdM hM
  have d1 : h 57 (3 * t) = nI (N 2 (3 * t)) := rd_m hM (a := 2) (by decide) (by unfold vld; omega)
  have d2 : h 57 (3 * t + 1) = nI (N 2 (3 * t + 1)) := rd_m hM (a := 2) (by decide) (by unfold vld; omega)
  have d3 : h 57 (3 * t + 2) = nI (N 2 (3 * t + 2)) := rd_m hM (a := 2) (by decide) (by unfold vld; omega)
  have c1 : g 56 (3 * b) = nI (N 1 (3 * b)) := rd_m hM1 (a := 1) (by decide) (by unfold vld; omega)
  have c2 : g 56 (3 * b + 1) = nI (N 1 (3 * b + 1)) := rd_m hM1 (a := 1) (by decide) (by unfold vld; omega)
  have c3 : g 56 (3 * b + 2) = nI (N 1 (3 * b + 2)) := rd_m hM1 (a := 1) (by decide) (by unfold vld; omega)
  have p1 : fX10_sortSides_55 0 (nI (N 2 (3 * t))) (nI (N 2 (3 * t + 1))) (nI (N 2 (3 * t + 2))) h = _ := pe_sort (f := 0) (Or.inl rfl) k1 k2 k3 h
  have p2 : fX10_sortSides_55 3 (nI (N 1 (3 * b))) (nI (N 1 (3 * b + 1))) (nI (N 1 (3 * b + 2))) g = _ := pe_sort (f := 3) (Or.inr rfl) j1 j2 j3 g
  rw [← eg] at p1
  rw [← eg2] at p2
  have r0 : g2 79 0 = nI (sT N sLo t) := by simp [eg2, eg, srt, mv_u_at, sT]
  have r1 : g2 79 1 = nI (sT N sMd t) := by simp [eg2, eg, srt, mv_u_at, sT]
  have r2 : g2 79 2 = nI (sT N sHi t) := by simp [eg2, eg, srt, mv_u_at, sT]
  have r3 : g2 79 3 = nI (sB N sLo b) := by simp [eg2, srt, mv_u_at, sB]
  have r4 : g2 79 4 = nI (sB N sMd b) := by simp [eg2, srt, mv_u_at, sB]
  have r5 : g2 79 5 = nI (sB N sHi b) := by simp [eg2, srt, mv_u_at, sB]
  refine ⟨g2, ?_, fun o k q => by rw [eg2, sr _ _ _ _ _ _ _ q, eg, sr _ _ _ _ _ _ _ q]⟩
  unfold fX10_fitsIn_55
  rw [if_pos x1, if_pos x2, if_pos x3, y1, y2, y3, d1, d2, d3, p1, Option.bind_some, if_pos u1, if_pos u2, if_pos u3, v1, v2, v3, c1, c2, c3, p2, Option.bind_some]
  simp only [if_pos (show mv_in 0 6 by decide), if_pos (show mv_in 1 6 by decide), if_pos (show mv_in 2 6 by decide), if_pos (show mv_in 3 6 by decide), if_pos (show mv_in 4 6 by decide), if_pos (show mv_in 5 6 by decide)]
  simp only [pz_c, pz_c5, r0, r1, r2, r3, r4, r5, pz_lt3 (show sB N sLo b < 2 ^ 31 by omega) (show sT N sLo t < 2 ^ 31 by omega), pz_lt3 (show sB N sMd b < 2 ^ 31 by omega) (show sT N sMd t < 2 ^ 31 by omega), pz_lt3 (show sB N sHi b < 2 ^ 31 by omega) (show sT N sHi t < 2 ^ 31 by omega)]
  by_cases q1 : sB N sLo b < sT N sLo t
  · rw [if_pos q1, if_neg (by simp only [sFit, decide_eq_true_eq]; omega)]
  · rw [if_neg q1]
    by_cases q2 : sB N sMd b < sT N sMd t
    · rw [if_pos q2, if_neg (by simp only [sFit, decide_eq_true_eq]; omega)]
    · rw [if_neg q2]
      by_cases q3 : sB N sHi b < sT N sHi t
      · rw [if_pos q3, if_neg (by simp only [sFit, decide_eq_true_eq]; omega)]
      · rw [if_neg q3, if_pos (by simp only [sFit, decide_eq_true_eq]; omega)]
theorem pe_mlp2 {h : mv_H} {N : Nat → Nat → Nat} {b : Nat} (hM : rdM h N) (hN : okN N) (hb : b < 6) : ∃ h1, fX10_leastPaper_55 (nI b) h = some (nI (sPap N b), h1) ∧ (∀ o k, ¬ (65 ≤ o ∧ o ≤ 69) → h1 o k = h o k) := by
  obtain ⟨h2, e2, w2, s2⟩ := pe_look2 hb hM hN
  refine ⟨h2, ?_, s2⟩
  unfold fX10_leastPaper_55
  rw [e2, Option.bind_some, pe_mleastAxis w2 (hN.b hb) hN.2.1.1 hN.2.1.2.1, Option.bind_some, pe_mpaper w2 (sLeast_lt _ _ _ _ _)]; rfl
def plf (w : Nat) (r : Nat → Nat) (st : St) : St := match st with
  | none => some (w, r)
  | some (B, R) => if w < B then some (w, r) else some (B, R)
def DP (N : Nat → Nat → Nat) : List Nat → Nat → Nat → (Nat → Nat) → St → St
  | [], _, w, r, st => plf w r st
  | x :: xs, L, w, r, st => fo (fun b s => if (L.testBit b && roomB N x b) = true then DP N xs (L - (L &&& 2 ^ b)) (w + sPap N b) (up1 r x b) s else s) 6 0 st
theorem DP_prune {N : Nat → Nat → Nat} : ∀ (l : List Nat) (L w : Nat) (r : Nat → Nat) (B : Nat) (R : Nat → Nat), B ≤ w → DP N l L w r (some (B, R)) = some (B, R)
  | [], L, w, r, B, R, h => by
    show plf w r (some (B, R)) = some (B, R)
    simp only [plf]
    rw [if_neg (by omega)]
  | x :: xs, L, w, r, B, R, h => by
    unfold DP
    refine fo_id 6 0 _ (fun b _ _ => ?_)
    show (if _ then DP N xs _ _ _ _ else _) = _
    split
    · exact DP_prune xs _ _ _ B R (by omega)
    · rfl
/-- one number: digits from the last to the first -/
def bk (N : Nat → Nat → Nat) (t : Nat) (D : Nat → Nat) : Nat → Bool → Nat → Nat → Option Nat
  | 0, z, _, S => if z = true then some S else none
  | c + 1, z, X, S => bk N t D c (z && roomB N (mb t c) (D c) && !X.testBit (D c)) (X ||| 2 ^ D c) (S + sPap N (D c))
def fz (N : Nat → Nat → Nat) (t : Nat) (D : Nat → Nat) : Nat → Bool
  | 0 => true
  | c + 1 => fz N t D c && roomB N (mb t c) (D c)
def sm (N : Nat → Nat → Nat) (D : Nat → Nat) : Nat → Nat
  | 0 => 0
  | c + 1 => sm N D c + sPap N (D c)
def rq (t : Nat) (D : Nat → Nat) : Nat → Nat → Nat
  | 0 => fun _ => 0
  | c + 1 => up1 (rq t D c) (mb t c) (D c)
theorem fz_congr {N : Nat → Nat → Nat} {t : Nat} {D D' : Nat → Nat} : ∀ i, (∀ k, k < i → D k = D' k) → fz N t D i = fz N t D' i ∧ sm N D i = sm N D' i ∧ rq t D i = rq t D' i
  | 0, _ => ⟨rfl, rfl, rfl⟩
  | i + 1, h => by
    obtain ⟨a, b, c⟩ := fz_congr (N := N) (t := t) i (fun k hk => h k (by omega))
    unfold fz sm rq
    rw [a, b, c, h i (by omega)]
    exact ⟨rfl, rfl, rfl⟩
theorem pc_orr {D : Nat → Nat} {X : Nat} (hX : X < 64) : ∀ c, (∀ k, k < c → D k < 6) → X ||| orr D c < 64 ∧ pc (X ||| orr D c) ≤ pc X + c
  | 0, _ => by
    show X ||| 0 < 64 ∧ pc (X ||| 0) ≤ pc X + 0
    rw [Nat.or_zero]; exact ⟨hX, Nat.le_refl _⟩
  | c + 1, h => by
    obtain ⟨a, b⟩ := pc_orr hX c (fun k hk => h k (by omega))
    show X ||| (orr D c ||| 2 ^ D c) < 64 ∧ pc (X ||| (orr D c ||| 2 ^ D c)) ≤ pc X + (c + 1)
    rw [← Nat.or_assoc]
    refine ⟨(pz_or _ a (D c) (h c (by omega))).2, ?_⟩
    rw [pz_pcor _ a _ (h c (by omega))]
    split <;> omega
theorem pz_orid : ∀ X, X < 64 → ∀ d, d < 6 → X.testBit d = true → X ||| 2 ^ d = X := by decide +kernel
theorem bk_eq {N : Nat → Nat → Nat} {t : Nat} {D : Nat → Nat} : ∀ (c : Nat) (z : Bool) (X S : Nat), X < 64 → (∀ k, k < c → D k < 6) → bk N t D c z X S = if (z && fz N t D c && decide (pc (X ||| orr D c) = pc X + c)) = true then some (S + sm N D c) else none
  | 0, z, X, S, hX, _ => by
    show (if z = true then some S else none) = if (z && true && decide (pc (X ||| 0) = pc X + 0)) = true then some (S + 0) else none
    rw [Nat.or_zero]
    cases z <;> simp
  | c + 1, z, X, S, hX, hD => by
    have hd := hD c (by omega)
    have ho := pz_or X hX (D c) hd
    obtain ⟨a, b⟩ := pc_orr hX c (fun k hk => hD k (by omega))
    show bk N t D c (z && roomB N (mb t c) (D c) && !X.testBit (D c)) (X ||| 2 ^ D c) (S + sPap N (D c)) = _
    rw [bk_eq c _ _ _ ho.2 (fun k hk => hD k (by omega))]
    have e1 : X ||| orr D (c + 1) = X ||| 2 ^ D c ||| orr D c := by
      show X ||| (orr D c ||| 2 ^ D c) = _
      rw [Nat.or_assoc, Nat.or_comm (orr D c)]
    have e2 : S + sPap N (D c) + sm N D c = S + sm N D (c + 1) := by
      show _ = S + (sm N D c + sPap N (D c))
      omega
    rw [e1, e2]
    show (if (z && roomB N (mb t c) (D c) && !X.testBit (D c) && fz N t D c && decide (pc (X ||| 2 ^ D c ||| orr D c) = pc (X ||| 2 ^ D c) + c)) = true then _ else none) = if (z && (fz N t D c && roomB N (mb t c) (D c)) && decide (pc (X ||| 2 ^ D c ||| orr D c) = pc X + (c + 1))) = true then _ else none
    congr 1
    rw [pz_pcor X hX _ hd]
    by_cases q : X.testBit (D c) = true
    · have : ¬ pc (X ||| 2 ^ D c ||| orr D c) = pc X + (c + 1) := by rw [pz_orid X hX _ hd q]; omega
      rw [decide_eq_false this]
      simp [q]
    · have q' : X.testBit (D c) = false := by simpa using q
      rw [if_neg q, q', show pc X + 1 + c = pc X + (c + 1) by omega]
      apply propext
      simp only [Bool.and_eq_true]
      constructor
      · rintro ⟨⟨⟨⟨a1, a2⟩, -⟩, a3⟩, a4⟩; exact ⟨⟨a1, a3, a2⟩, a4⟩
      · rintro ⟨⟨a1, a3, a2⟩, a4⟩; exact ⟨⟨⟨⟨a1, a2⟩, rfl⟩, a3⟩, a4⟩
def fP (N : Nat → Nat → Nat) (t m a : Nat) (st : St) : St := match bk N t (dgt 6 m a) m true 0 0 with
  | none => st
  | some S => plf S (rq t (dgt 6 m a) m) st
theorem fP_bad {N : Nat → Nat → Nat} {t m : Nat} : ∀ (j i a : Nat) (st : St), i + j = m → (fz N t (dgt 6 i a) i = false ∨ pc (orr (dgt 6 i a) i) < i) → fo (fP N t m) (6 ^ j) (a * 6 ^ j) st = st
  | 0, i, a, st, hij, hp => by
    obtain rfl : i = m := by omega
    rw [Nat.pow_zero, Nat.mul_one]
    show fP N t i a st = st
    unfold fP
    rw [bk_eq i true 0 0 (by decide) (fun k _ => dgt_b (by decide)), if_neg]
    rw [Nat.zero_or]
    rcases hp with hp | hp
    · rw [hp]; simp
    · have : ¬ pc (orr (dgt 6 i a) i) = pc 0 + i := by
        have h0 : pc 0 = 0 := by decide
        omega
      rw [decide_eq_false this]; simp
  | j + 1, i, a, st, hij, hp => by
    rw [Nat.pow_succ, Nat.mul_comm (6 ^ j) 6, show a * (6 * 6 ^ j) = (a * 6 + 0) * 6 ^ j by rw [Nat.add_zero, Nat.mul_assoc], fo_tree]
    refine fo_id 6 0 st (fun d _ hd => ?_)
    refine fP_bad j (i + 1) (a * 6 + d) st (by omega) ?_
    have h6 : orr (dgt 6 i a) i < 64 := orr_lt (m := 6) i (fun k _ => dgt_b (by decide))
    rcases hp with hp | hp
    · left
      show (fz N t (dgt 6 (i + 1) (a * 6 + d)) i && _) = false
      rw [(fz_congr i (fun k hk => dgt_lt (by omega) hk)).1, hp]; rfl
    · right
      rw [orr_s (by omega), pz_pcor _ h6 d (by omega)]
      split <;> omega
theorem mems_drop {t i : Nat} (ht : t < 64) (hi : i < pc t) : (mems t).drop i = mb t i :: (mems t).drop (i + 1) := by
  have hl := mems_len t ht
  rw [List.drop_eq_getElem_cons (by omega)]
  congr 1
  unfold mb
  rw [List.getD_eq_getElem?_getD, List.getElem?_eq_getElem (by omega)]; rfl
theorem fP_good {N : Nat → Nat → Nat} {t : Nat} (ht : t < 64) : ∀ (j i a L : Nat) (st : St), i + j = pc t → fz N t (dgt 6 i a) i = true → pc (orr (dgt 6 i a) i) = i → L < 64 → (∀ b, b < 6 → L.testBit b = ((N 0 0).testBit b && !(orr (dgt 6 i a) i).testBit b)) → fo (fP N t (pc t)) (6 ^ j) (a * 6 ^ j) st = DP N ((mems t).drop i) L (sm N (dgt 6 i a) i) (rq t (dgt 6 i a) i) st
  | 0, i, a, L, st, hij, hz, hp, hL, hb => by
    obtain rfl : i = pc t := by omega
    rw [Nat.pow_zero, Nat.mul_one]
    show fP N t (pc t) a st = _
    rw [List.drop_eq_nil_of_le (by rw [mems_len t ht]; exact Nat.le_refl _)]
    unfold fP
    rw [bk_eq (pc t) true 0 0 (by decide) (fun k _ => dgt_b (by decide)), if_pos, Nat.zero_add]
    · rfl
    · have e : pc (orr (dgt 6 (pc t) a) (pc t)) = pc 0 + pc t := by rw [hp, show pc 0 = 0 by decide, Nat.zero_add]
      rw [Nat.zero_or, hz, decide_eq_true e]; rfl
  | j + 1, i, a, L, st, hij, hz, hp, hL, hb => by
    have h6 : orr (dgt 6 i a) i < 64 := orr_lt (m := 6) i (fun k _ => dgt_b (by decide))
    rw [Nat.pow_succ, Nat.mul_comm (6 ^ j) 6, show a * (6 * 6 ^ j) = (a * 6 + 0) * 6 ^ j by rw [Nat.add_zero, Nat.mul_assoc], fo_tree, mems_drop ht (by omega)]
    show _ = fo _ 6 0 st
    refine fo_congr 6 0 st (fun d _ hd s => ?_)
    have hd' : d < 6 := by omega
    have cg := fz_congr (N := N) (t := t) (D := dgt 6 (i + 1) (a * 6 + d)) (D' := dgt 6 i a) i (fun k hk => dgt_lt hd' hk)
    show fo (fP N t (pc t)) (6 ^ j) ((a * 6 + d) * 6 ^ j) s = if (L.testBit d && roomB N (mb t i) d) = true then _ else s
    by_cases q : (L.testBit d && roomB N (mb t i) d) = true
    · rw [if_pos q]
      simp at q
      have q1 := q.1
      rw [hb d hd'] at q1
      simp at q1
      have dl := pz_del L hL d hd'
      have ih := fP_good (N := N) ht j (i + 1) (a * 6 + d) (L - (L &&& 2 ^ d)) s (by omega) (by
        show (fz N t (dgt 6 (i + 1) (a * 6 + d)) i && roomB N (mb t i) (dgt 6 (i + 1) (a * 6 + d) i)) = true
        rw [cg.1, hz, dgt_eq hd', q.2]; rfl) (by rw [orr_s hd', pz_pcor _ h6 d hd', if_neg (by rw [q1.2]; decide)]; omega) dl.2 (fun b hb' => by
        rw [pz_delT L hL d hd' b hb', hb b hb', orr_s hd', pz_orT]
        by_cases z : d = b
        · subst z; simp
        · simp [z])
      rw [ih]
      have e1 : sm N (dgt 6 (i + 1) (a * 6 + d)) (i + 1) = sm N (dgt 6 i a) i + sPap N d := by
        show sm N (dgt 6 (i + 1) (a * 6 + d)) i + sPap N (dgt 6 (i + 1) (a * 6 + d) i) = _
        rw [cg.2.1, dgt_eq hd']
      have e2 : rq t (dgt 6 (i + 1) (a * 6 + d)) (i + 1) = up1 (rq t (dgt 6 i a) i) (mb t i) d := by
        show up1 (rq t (dgt 6 (i + 1) (a * 6 + d)) i) (mb t i) (dgt 6 (i + 1) (a * 6 + d) i) = _
        rw [cg.2.2, dgt_eq hd']
      rw [e1, e2]
    · rw [if_neg q]
      refine fP_bad j (i + 1) (a * 6 + d) s (by omega) ?_
      by_cases z : roomB N (mb t i) d = true
      · right
        have zl : ¬ L.testBit d = true := fun w => q (by simp [w, z])
        rw [hb d hd'] at zl
        have zN : (N 0 0).testBit d = true := by
          unfold roomB at z
          simp at z
          exact z.1
        rw [zN] at zl
        have zx : (orr (dgt 6 i a) i).testBit d = true := by
          simpa using zl
        rw [orr_s hd', pz_pcor _ h6 d hd', if_pos zx]; omega
      · left
        show (fz N t (dgt 6 (i + 1) (a * 6 + d)) i && roomB N (mb t i) (dgt 6 (i + 1) (a * 6 + d) i)) = false
        rw [dgt_eq hd']
        have z' : roomB N (mb t i) d = false := by simpa using z
        rw [z', Bool.and_false]
theorem fP_all {N : Nat → Nat → Nat} {t : Nat} (ht : t < 64) (hN : N 0 0 < 64) (st : St) : fo (fP N t (pc t)) (6 ^ pc t) 0 st = DP N (mems t) (N 0 0) 0 (fun _ => 0) st := by
  have := fP_good (N := N) ht (pc t) 0 0 (N 0 0) st (by omega) rfl (by show pc 0 = 0; decide) hN (fun b _ => by
    show (N 0 0).testBit b = ((N 0 0).testBit b && !(0 : Nat).testBit b)
    simp)
  rw [Nat.zero_mul] at this
  rw [this]; rfl
theorem rq_at {t : Nat} {D : Nat → Nat} (ht : t < 64) : ∀ i k, i ≤ pc t → k < i → rq t D i (mb t k) = D k
  | 0, k, _, hk => absurd hk (by omega)
  | i + 1, k, hi, hk => by
    show up1 (rq t D i) (mb t i) (D i) (mb t k) = D k
    unfold up1
    by_cases q : k = i
    · rw [q, if_pos rfl]
    · rw [if_neg (fun z => q (mb_inj ht (by omega) (by omega) z))]
      exact rq_at ht i k (by omega) (by omega)
