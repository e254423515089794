/-! cuts: the class's strips, by sets of boxes -/
def ptm (X : Nat → Sz) (f : Nat → Nat → Nat) (k rest H : Nat) : Nat := if rest = 0 then pt2 (X k) (f rest) H else min (pt2 (X k) (f rest) H) (f (2 ^ k) H + f rest H)
def lpm (X : Nat → Sz) (f : Nat → Nat → Nat) (T H : Nat) : Nat → Nat → Nat → Nat
  | 0, _, acc => acc
  | n + 1, k, acc => if T.testBit k = true then (if pc T = 2 then min acc (ptm X f k (T - (T &&& 2 ^ k)) H) else lpm X f T H n (k + 1) (min acc (ptm X f k (T - (T &&& 2 ^ k)) H))) else lpm X f T H n (k + 1) acc
def stp (X : Nat → Sz) : Nat → Nat → Nat → Nat
  | 0, _, _ => 0
  | n + 1, T, H => if pc T = 0 then 0 else if pc T < 4 then lpm X (stp X n) T H 6 0 1000 else 1000
theorem lpm_le {X : Nat → Sz} {f : Nat → Nat → Nat} {T H : Nat} : ∀ n k acc, lpm X f T H n k acc ≤ acc
  | 0, _, _ => Nat.le_refl _
  | n + 1, k, acc => by
    unfold lpm
    split
    · split
      · omega
      · have := lpm_le (X := X) (f := f) (T := T) (H := H) n (k + 1) (min acc (ptm X f k (T - (T &&& 2 ^ k)) H)); omega
    · exact lpm_le n (k + 1) acc
theorem stp_le {X : Nat → Sz} : ∀ n T H, stp X n T H ≤ 1000
  | 0, _, _ => by simp [stp]
  | n + 1, T, H => by
    unfold stp
    split
    · omega
    · split
      · exact lpm_le _ _ _
      · omega
def lpl (X : Nat → Sz) (f : Nat → Nat → Nat) (T H : Nat) : List Nat → Nat → Nat
  | [], acc => acc
  | k :: r, acc => if pc T = 2 then min acc (ptm X f k (T - (T &&& 2 ^ k)) H) else lpl X f T H r (min acc (ptm X f k (T - (T &&& 2 ^ k)) H))
theorem lpm_ml {X : Nat → Sz} {f : Nat → Nat → Nat} {T H : Nat} : ∀ n k acc, lpm X f T H n k acc = lpl X f T H (ml T n k) acc
  | 0, _, _ => rfl
  | n + 1, k, acc => by
    rw [ml_s]
    show (if T.testBit k = true then _ else _) = _
    by_cases q : T.testBit k = true
    · rw [if_pos q, if_pos q]
      show (if pc T = 2 then _ else lpm X f T H n (k + 1) _) = (if pc T = 2 then _ else lpl X f T H _ _)
      rw [lpm_ml n (k + 1)]
    · rw [if_neg q, if_neg q]
      exact lpm_ml n (k + 1) acc
theorem mm_0 : ∀ T, T < 64 → pc T = 0 → mems T = [] := by decide +kernel
theorem mm_1 : ∀ T, T < 64 → pc T = 1 → mems T = [mb T 0] ∧ T - (T &&& 2 ^ mb T 0) = 0 := by decide +kernel
theorem mm_2 : ∀ T, T < 64 → pc T = 2 → mems T = [mb T 0, mb T 1] ∧ (T - (T &&& 2 ^ mb T 0) ≠ 0 ∧ T - (T &&& 2 ^ mb T 0) < 64 ∧ pc (T - (T &&& 2 ^ mb T 0)) = 1 ∧ mems (T - (T &&& 2 ^ mb T 0)) = [mb T 1]) := by decide +kernel
theorem mm_3 : ∀ T, T < 64 → pc T = 3 → mems T = [mb T 0, mb T 1, mb T 2] := by decide +kernel
theorem mm_30 : ∀ T, T < 64 → pc T = 3 → (T - (T &&& 2 ^ mb T 0) ≠ 0 ∧ T - (T &&& 2 ^ mb T 0) < 64 ∧ pc (T - (T &&& 2 ^ mb T 0)) = 2 ∧ mems (T - (T &&& 2 ^ mb T 0)) = [mb T 1, mb T 2]) := by decide +kernel
theorem mm_31 : ∀ T, T < 64 → pc T = 3 → (T - (T &&& 2 ^ mb T 1) ≠ 0 ∧ T - (T &&& 2 ^ mb T 1) < 64 ∧ pc (T - (T &&& 2 ^ mb T 1)) = 2 ∧ mems (T - (T &&& 2 ^ mb T 1)) = [mb T 0, mb T 2]) := by decide +kernel
theorem mm_32 : ∀ T, T < 64 → pc T = 3 → (T - (T &&& 2 ^ mb T 2) ≠ 0 ∧ T - (T &&& 2 ^ mb T 2) < 64 ∧ pc (T - (T &&& 2 ^ mb T 2)) = 2 ∧ mems (T - (T &&& 2 ^ mb T 2)) = [mb T 0, mb T 1]) := by decide +kernel
theorem mm_s : ∀ k, k < 6 → 2 ^ k < 64 ∧ pc (2 ^ k) = 1 ∧ mems (2 ^ k) = [k] := by decide +kernel
theorem stp_eq {X : Nat → Sz} : ∀ (n T : Nat), T < 64 → pc T < n → pc T ≤ 3 → stp X n T = sl ((mems T).map X)
  | 0, T, _, h, _ => absurd h (by omega)
  | n + 1, T, hT, hn, h3 => by
    funext H
    have ih := fun S (h1 : S < 64) (h2 : pc S < n) (h4 : pc S ≤ 3) => stp_eq (X := X) n S h1 h2 h4
    unfold stp
    rcases (show pc T = 0 ∨ pc T = 1 ∨ pc T = 2 ∨ pc T = 3 by omega) with h | h | h | h
    · rw [if_pos h, mm_0 T hT h]; rfl
    · obtain ⟨m1, m2⟩ := mm_1 T hT h
      rw [if_neg (by omega), if_pos (by omega), lpm_ml]
      show lpl X (stp X n) T H (mems T) 1000 = _
      rw [m1]
      show (if pc T = 2 then _ else min 1000 (ptm X (stp X n) (mb T 0) (T - (T &&& 2 ^ mb T 0)) H)) = s1 (X (mb T 0)) H
      rw [if_neg (by omega), m2]
      unfold ptm
      rw [if_pos rfl, ih 0 (by decide) (by have h0 : pc 0 = 0 := by decide
                                           omega) (by decide)]
      rfl
    · obtain ⟨m1, m2, m3, m4, m5⟩ := mm_2 T hT h
      obtain ⟨b1, -⟩ := mb_p T hT 0 (by decide) (by omega)
      obtain ⟨p1, p2, p3⟩ := mm_s (mb T 0) b1
      rw [if_neg (by omega), if_pos (by omega), lpm_ml]
      show lpl X (stp X n) T H (mems T) 1000 = _
      rw [m1]
      show (if pc T = 2 then min 1000 (ptm X (stp X n) (mb T 0) (T - (T &&& 2 ^ mb T 0)) H) else _) = s2 (X (mb T 0)) (X (mb T 1)) H
      rw [if_pos h]
      unfold ptm
      rw [if_neg m2, ih _ m3 (by omega) (by omega), ih _ p1 (by omega) (by omega), m5, p3]
      rfl
    · have m1 := mm_3 T hT h
      obtain ⟨a2, a3, a4, a5⟩ := mm_30 T hT h
      obtain ⟨c2, c3, c4, c5⟩ := mm_31 T hT h
      obtain ⟨d2, d3, d4, d5⟩ := mm_32 T hT h
      obtain ⟨b0, -⟩ := mb_p T hT 0 (by decide) (by omega)
      obtain ⟨b1, -⟩ := mb_p T hT 1 (by decide) (by omega)
      obtain ⟨b2, -⟩ := mb_p T hT 2 (by decide) (by omega)
      obtain ⟨p1, p2, p3⟩ := mm_s (mb T 0) b0
      obtain ⟨q1, q2, q3⟩ := mm_s (mb T 1) b1
      obtain ⟨r1, r2, r3⟩ := mm_s (mb T 2) b2
      rw [if_neg (by omega), if_pos (by omega), lpm_ml]
      show lpl X (stp X n) T H (mems T) 1000 = _
      rw [m1]
      simp only [lpl]
      rw [if_neg (by omega), if_neg (by omega), if_neg (by omega)]
      unfold ptm
      rw [if_neg a2, if_neg c2, if_neg d2, ih _ a3 (by omega) (by omega), ih _ c3 (by omega) (by omega), ih _ d3 (by omega) (by omega), ih _ p1 (by omega) (by omega), ih _ q1 (by omega) (by omega), ih _ r1 (by omega) (by omega), a5, c5, d5, p3, q3, r3]
      rfl
/-! the class's strips in its cells -/
theorem pz_sh1 : ∀ k, k < 6 → (1 : Int32) <<< (nI k &&& 31) = nI (2 ^ k) := by decide +kernel
theorem pe_spt {X : Nat → Sz} {f : Nat → Nat → Nat} {rc : Int32 → Int32 → mv_H → Option (Int32)} {h : mv_H} {k rest H : Nat} (hk : k < 6) (hr : rest < 64) (hH : H ≤ 150) (hx : (X k).1 ≤ 150 ∧ (X k).2 ≤ 150) (h42 : h 42 k = nI (X k).1) (h43 : h 43 k = nI (X k).2) (hf : ∀ S H, f S H ≤ 1000) (c1 : ∀ H', H' ≤ 150 → rc (nI rest) (nI H') h = some (nI (f rest H'))) (c2 : rest ≠ 0 → rc (nI (2 ^ k)) (nI H) h = some (nI (f (2 ^ k) H))) : fX0_stripParted_41 rc (nI k) (nI rest) (nI H) h = some (nI (ptm X f k rest H)) := by
  obtain ⟨k1, k2, -⟩ := pz_i6 k hk
  obtain ⟨R, eR⟩ : ∃ R, R = (X k).1 := ⟨_, rfl⟩
  obtain ⟨E, eE⟩ : ∃ E, E = (X k).2 := ⟨_, rfl⟩
  rw [← eR, ← eE] at hx
  rw [← eR] at h42
  rw [← eE] at h43
  have e0 : (nI rest = 0) = (rest = 0) := pz_e (n := 0) (by omega) (by decide)
  have B89 : ∀ v : Nat, v ≤ 1000 → fX0_stripParted_41_b89 rc (nI k) (nI rest) (nI H) (nI v) h = some (nI (if rest = 0 then v else min v (f (2 ^ k) H + f rest H))) := by
    intro v hv
    unfold fX0_stripParted_41_b89
    simp only [e0]
    by_cases q : rest = 0
    · rw [if_pos q, if_pos q]
    · have h1 := hf (2 ^ k) H
      have h2 := hf rest H
      rw [if_neg q, if_neg q, pz_sh1 k hk, c2 q, Option.bind_some, c1 H hH, Option.bind_some]
      simp only [mv_let, nI_add]
      rw [pz_min (by omega) (by omega)]
  have B62 : ∀ v : Nat, v ≤ 1000 → fX0_stripParted_41_b62 rc (nI k) (nI rest) (nI H) (nI R) (nI E) (nI v) h = some (nI (if rest = 0 then (if E ≤ H then min v (max R (f rest (H - E))) else v) else min (if E ≤ H then min v (max R (f rest (H - E))) else v) (f (2 ^ k) H + f rest H))) := by
    intro v hv
    unfold fX0_stripParted_41_b62
    simp only [pz_lt3 (show H < 2 ^ 31 by omega) (show E < 2 ^ 31 by omega)]
    by_cases q : E ≤ H
    · have h2 := hf rest (H - E)
      rw [if_neg (by omega), if_pos q, pk_sub q, c1 _ (by omega), Option.bind_some]
      simp only [mv_let]
      rw [pz_max (by omega) (by omega), pz_min (by omega) (by omega), B89 _ (by omega)]
    · rw [if_pos (by omega), if_neg q, B89 v hv]
  unfold fX0_stripParted_41
  rw [if_neg (nI_pos (by omega)), if_pos (pz_l6 hk), if_pos k1]
  simp only [mv_let, k2, h42, h43, if_pos k1, pz_lt3 (show H < 2 ^ 31 by omega) (show R < 2 ^ 31 by omega)]
  unfold ptm pt2
  rw [← eR, ← eE]
  by_cases q : R ≤ H
  · have h2 := hf rest (H - R)
    rw [if_neg (by omega), pk_sub q, c1 _ (by omega), Option.bind_some, pz_max (by omega) (by omega), show (1000 : Int32) = nI 1000 from rfl, pz_min (by omega) (by omega), B62 _ (by omega)]
    simp only [if_pos q]
  · rw [if_pos (by omega), show (1000 : Int32) = nI 1000 from rfl, B62 _ (by omega)]
    simp only [if_neg q]
def Wn (h : mv_H) (X : Nat → Sz) (B : Nat) : Prop := ∀ b, b < 6 → B.testBit b = true → h 42 b = nI (X b).1 ∧ h 43 b = nI (X b).2 ∧ (X b).1 ≤ 150 ∧ (X b).2 ≤ 150
theorem pe_strip {X : Nat → Sz} {h : mv_H} {B : Nat} (hw : Wn h X B) : ∀ (n T H : Nat), pc T < n → T < 64 → H ≤ 150 → (∀ b, b < 6 → T.testBit b = true → B.testBit b = true) → fX0_strip_41 n (nI T) (nI H) h = some (nI (stp X n T H))
  | 0, T, H, hn, _, _, _ => absurd hn (by omega)
  | n + 1, T, H, hn, hT, hH, hs => by
    have hp := pc_le T
    rw [fX0_strip_41, pe_bitCount T hT, Option.bind_some]
    unfold stp
    simp only [show (nI (pc T) = 0) = (pc T = 0) from pz_e (n := 0) (by omega) (by decide), show (nI (pc T) < 4) = (pc T < 4) from pz_lt3 (y := 4) (by omega) (by decide)]
    by_cases q0 : pc T = 0
    · rw [if_pos q0, if_pos q0]; rfl
    · rw [if_neg q0, if_neg q0]
      by_cases q4 : pc T < 4
      · rw [if_pos q4, if_pos q4]
        have loop : ∀ (m k fuel acc : Nat), m + k = 6 → m < fuel → acc ≤ 1000 → fX0_strip_41_b28 (fX0_strip_41 n) fuel (nI T) (nI H) (nI (pc T)) (nI acc) (nI k) h = some (nI (lpm X (stp X n) T H m k acc)) := by
          intro m
          induction m with
          | zero =>
            intro k fuel acc hm hf ha
            cases fuel with
            | zero => omega
            | succ fuel =>
              rw [show k = 6 by omega, fX0_strip_41_b28, if_neg (by decide)]; rfl
          | succ m ih =>
            intro k fuel acc hm hf ha
            cases fuel with
            | zero => omega
            | succ fuel =>
              have hk : k < 6 := by omega
              rw [fX0_strip_41_b28, if_pos (pz_l6 hk), pz_isIn hT hk, Option.bind_some]
              simp only [pz_i0, fX0_strip_41_b74, nI_1, show (nI (pc T) = 2) = (pc T = 2) from pz_e (n := 2) (by omega) (by decide)]
              show _ = some (nI (if T.testBit k = true then _ else _))
              by_cases q : T.testBit k = true
              · obtain ⟨w1, w2, w3, w4⟩ := hw k hk (hs k hk q)
                have dl := pz_del T hT k hk
                have pd := pz_pcd T hT k hk q
                obtain ⟨p1, p2, p3⟩ := mm_s k hk
                have sp := pe_spt (X := X) (f := stp X n) (rc := fX0_strip_41 n) (h := h) (k := k) (rest := T - (T &&& 2 ^ k)) (H := H) hk dl.2 hH ⟨w3, w4⟩ w1 w2 (fun S H => stp_le n S H) (fun H' hH' => pe_strip hw n (T - (T &&& 2 ^ k)) H' (by omega) dl.2 hH' (fun b hb hbt => hs b hb (by
                  rw [pz_delT T hT k hk b hb] at hbt
                  simp at hbt
                  exact hbt.1))) (fun hr => pe_strip hw n (2 ^ k) H (by
                  have : pc (T - (T &&& 2 ^ k)) ≠ 0 := fun z => hr ((show ∀ S, S < 64 → pc S = 0 → S = 0 by decide +kernel) _ dl.2 z)
                  omega) p1 hH (fun b hb hbt => by
                  rw [Nat.testBit_two_pow] at hbt
                  have : k = b := by simpa using hbt
                  subst this; exact hs k hk q))
                have pb : ptm X (stp X n) k (T - (T &&& 2 ^ k)) H ≤ 2000 := by
                  have p2 : pt2 (X k) (stp X n (T - (T &&& 2 ^ k))) H ≤ 1000 := by unfold pt2; split <;> split <;> omega
                  unfold ptm
                  split
                  · omega
                  · omega
                rw [if_neg (fun z => z q), if_pos q, dl.1, sp, Option.bind_some]
                simp only [mv_let]
                rw [pz_min (by omega) (by omega)]
                by_cases q2 : pc T = 2
                · rw [if_pos q2, if_pos q2]
                · rw [if_neg q2, if_neg q2]
                  exact ih (k + 1) fuel _ (by omega) (by omega) (by omega)
              · rw [if_pos q, if_neg q]
                exact ih (k + 1) fuel acc (by omega) (by omega) ha
        exact loop 6 0 mv_F 1000 rfl (by rw [mv_F_eq]; decide) (Nat.le_refl _)
      · rw [if_neg q4, if_neg q4]; rfl
