/-! pieces -/
theorem pz_subA : ∀ t, t < 64 → ∀ b, b < 64 → ((nI t &&& (nI b ^^^ (-1)) = 0) ↔ t &&& b = t) := by decide +kernel
theorem pz_subB : ∀ t, t < 64 → ∀ b, b < 64 → (∀ j, j < 6 → t.testBit j = true → b.testBit j = true) → t &&& b = t := by decide +kernel
theorem pz_subC {t b : Nat} (h : t &&& b = t) {j : Nat} (hj : t.testBit j = true) : b.testBit j = true := by
  rw [← h, Nat.testBit_and] at hj
  simp at hj
  exact hj.2
theorem pc_le (t : Nat) : pc t ≤ 6 := by
  unfold pc
  split <;> split <;> split <;> split <;> split <;> split <;> omega
def gvn (N : Nat → Nat → Nat) (L s : Nat) : Nat := max (if N 4 s < L then 0 else N 3 s) (if N 3 s < L then 0 else N 4 s)
def gft (N : Nat → Nat → Nat) (L s : Nat) : Nat := if (N 0 2).testBit s = true then gvn N L s else 0
theorem gvn_le {N : Nat → Nat → Nat} (hN : okN N) {L s : Nat} (hs : s < 6) : gvn N L s ≤ 150 := by
  have := hN.s hs
  unfold gvn
  split <;> split <;> omega
theorem gft_le {N : Nat → Nat → Nat} (hN : okN N) {L s : Nat} (hs : s < 6) : gft N L s ≤ 150 := by
  unfold gft
  split
  · exact gvn_le hN hs
  · omega
theorem pe_has6k {h : mv_H} {N : Nat → Nat → Nat} (hG : rdG h 1 N) (hN : okN N) {k : Nat} (hk : k < 6) : fX7_has_6 (nI k) h = some (if (N 0 2).testBit k = true then 1 else 0) := by
  rw [pe_has6, (rd_b hG).2.2]
  exact congrArg some (pz_if (by rw [(pz_i6 k hk).2.2, pz_bit _ hN.1.2.2 k hk]; exact ⟨fun q => q.2, fun q => ⟨by omega, q⟩⟩))
theorem pe_gaLoop {N : Nat → Nat → Nat} {L : Nat} (hN : okN N) (hL : L ≤ 58) : ∀ (n k m : Nat) (h : mv_H), n + k = 6 → n < m → rdG h 1 N → (∀ s, s < k → h 40 s = nI (gft N L s)) → ∃ h', fX6_gather_39_6_b2 m (nI L) (nI k) h = some h' ∧ (∀ s, s < 6 → h' 40 s = nI (gft N L s)) ∧ (∀ o j, o ≠ 40 → h' o j = h o j)
  | n, k, 0, h, _, hm, _, _ => absurd hm (by omega)
  | 0, k, m + 1, h, hn, _, _, hg => by
    refine ⟨h, ?_, fun s hs => hg s (by omega), fun _ _ _ => rfl⟩
    rw [show k = 6 by omega, fX6_gather_39_6_b2, if_neg (by decide)]
  | n + 1, k, m + 1, h, hn, hm, hG, hg => by
    have hk : k < 6 := by omega
    have hs := hN.s hk
    obtain ⟨c1, c2, -⟩ := pz_i6 k hk
    have s1 : Same h (mv_u h 40 k (nI (gft N L k))) := Same.u (by unfold scr; omega)
    obtain ⟨h', e', g', o'⟩ := pe_gaLoop hN hL n (k + 1) m (mv_u h 40 k (nI (gft N L k))) (by omega) (by omega) (s1.rdG (Or.inl rfl) hG) (fun s hs => by
      rw [mv_u_at]
      by_cases q : s = k
      · rw [if_pos ⟨rfl, q⟩, q]
      · rw [if_neg (fun z => q z.2)]; exact hg s (by omega))
    refine ⟨h', ?_, g', fun o j ho => by rw [o' o j ho, mv_u_at, if_neg (fun z => ho z.1)]⟩
    rw [← e', fX6_gather_39_6_b2, if_pos (pz_l6 hk)]
    have B : ∀ x y : Nat, x ≤ 150 → y ≤ 150 → max x y = gvn N L k → fX6_gather_39_6_b50 (fX6_gather_39_6_b2 m) (nI L) (nI k) (nI x) (nI y) h = fX6_gather_39_6_b2 m (nI L) (nI (k + 1)) (mv_u h 40 k (nI (gft N L k))) := by
      intro x y hx hy hxy
      simp only [fX6_gather_39_6_b50, pe_has6k hG hN hk, Option.bind_some, pz_i0, fX6_gather_39_6_b76, if_pos c1, c2, mv_let, nI_1, pz_max (show x < 2 ^ 31 by omega) (show y < 2 ^ 31 by omega), hxy]
      by_cases q : (N 0 2).testBit k = true <;> simp [gft, q, pz_lit]
    have z0 : (0 : Int32) = nI 0 := rfl
    simp only [(pe_s0 hG hk).1, (pe_s0 hG hk).2, Option.bind_some, fX6_gather_39_6_b36, pz_lt3 (show N 4 k < 2 ^ 31 by omega) (show L < 2 ^ 31 by omega), pz_lt3 (show N 3 k < 2 ^ 31 by omega) (show L < 2 ^ 31 by omega)]
    by_cases q1 : N 4 k < L
    · by_cases q2 : N 3 k < L
      · rw [if_pos q1, if_pos q2, z0, B 0 0 (by omega) (by omega) (by simp [gvn, q1, q2])]
      · rw [if_pos q1, if_neg q2, z0, B 0 (N 4 k) (by omega) (by omega) (by simp [gvn, q1, q2])]
    · by_cases q2 : N 3 k < L
      · rw [if_neg q1, if_pos q2, z0, B (N 3 k) 0 (by omega) (by omega) (by simp [gvn, q1, q2])]
      · rw [if_neg q1, if_neg q2, B (N 3 k) (N 4 k) (by omega) (by omega) (by simp [gvn, q1, q2])]
/-- what the sheets of a set give, and whether each gives -/
def mS (g : Nat → Nat) (t : Nat) : Nat → Nat → Nat → Bool → Nat × Bool
  | 0, _, a, z => (a, z)
  | n + 1, k, a, z => if t.testBit k = true then mS g t n (k + 1) (a + g k) (z && decide (0 < g k)) else mS g t n (k + 1) a z
theorem mS_z {g : Nat → Nat} {t : Nat} : ∀ (n k a : Nat) (z : Bool), (mS g t n k a z).2 = true → z = true ∧ ∀ j, k ≤ j → j < k + n → t.testBit j = true → 0 < g j
  | 0, k, a, z, h => ⟨h, fun j h1 h2 => absurd h2 (by omega)⟩
  | n + 1, k, a, z, h => by
    unfold mS at h
    by_cases q : t.testBit k = true
    · rw [if_pos q] at h
      obtain ⟨h1, h2⟩ := mS_z n (k + 1) _ _ h
      simp at h1
      refine ⟨h1.1, fun j j1 j2 j3 => ?_⟩
      by_cases e : j = k
      · rw [e]; exact h1.2
      · exact h2 j (by omega) (by omega) j3
    · rw [if_neg q] at h
      obtain ⟨h1, h2⟩ := mS_z n (k + 1) _ _ h
      refine ⟨h1, fun j j1 j2 j3 => ?_⟩
      by_cases e : j = k
      · rw [e] at j3; exact absurd j3 q
      · exact h2 j (by omega) (by omega) j3
theorem mS_congr {g g' : Nat → Nat} {t : Nat} : ∀ (n k a : Nat) (z : Bool), (∀ j, k ≤ j → j < k + n → t.testBit j = true → g j = g' j) → mS g t n k a z = mS g' t n k a z
  | 0, _, _, _, _ => rfl
  | n + 1, k, a, z, h => by
    unfold mS
    by_cases q : t.testBit k = true
    · rw [if_pos q, if_pos q, h k (by omega) (by omega) q]
      exact mS_congr n (k + 1) _ _ (fun j h1 h2 h3 => h j (by omega) (by omega) h3)
    · rw [if_neg q, if_neg q]
      exact mS_congr n (k + 1) _ _ (fun j h1 h2 h3 => h j (by omega) (by omega) h3)
theorem mS_le {g : Nat → Nat} {t : Nat} : ∀ (n k a : Nat) (z : Bool), (∀ j, k ≤ j → j < k + n → g j ≤ 150) → (mS g t n k a z).1 ≤ a + 150 * n
  | 0, _, a, _, _ => by show a ≤ _; omega
  | n + 1, k, a, z, h => by
    have h0 := h k (by omega) (by omega)
    unfold mS
    by_cases q : t.testBit k = true
    · rw [if_pos q]
      have := mS_le (t := t) n (k + 1) (a + g k) (z && decide (0 < g k)) (fun j h1 h2 => h j (by omega) (by omega))
      omega
    · rw [if_neg q]
      have := mS_le (t := t) n (k + 1) a z (fun j h1 h2 => h j (by omega) (by omega))
      omega
theorem pe_suLoop {h : mv_H} {g : Nat → Nat} {t : Nat} (ht : t < 64) (hg : ∀ s, s < 6 → h 40 s = nI (g s)) (hb : ∀ s, s < 6 → g s ≤ 150) : ∀ (n k m a : Nat), n + k = 6 → n < m → fX6_sumOf_39_b4 m (nI t) (nI a) (nI k) h = some (nI (if (mS g t n k a true).2 = true then (mS g t n k a true).1 else 0))
  | n, k, 0, a, _, hm => absurd hm (by omega)
  | 0, k, m + 1, a, hn, _ => by
    rw [show k = 6 by omega, fX6_sumOf_39_b4, if_neg (by decide)]; rfl
  | n + 1, k, m + 1, a, hn, hm => by
    have hk : k < 6 := by omega
    obtain ⟨c1, c2, -⟩ := pz_i6 k hk
    have ih := fun a' => pe_suLoop ht hg hb n (k + 1) m a' (by omega) (by omega)
    have e0 : (nI (g k) = 0) = (g k = 0) := propext (nI_eq (by have := hb k hk; omega) (by decide))
    rw [fX6_sumOf_39_b4, if_pos (pz_l6 hk)]
    simp only [pz_isIn ht hk, Option.bind_some, pz_i0, if_pos c1, c2, hg k hk, e0, mv_let, nI_add, fX6_sumOf_39_b38, nI_1, ih]
    by_cases q : t.testBit k = true
    · rw [if_neg (fun z => z q)]
      by_cases q2 : g k = 0
      · rw [if_pos q2]
        have : ¬ (mS g t (n + 1) k a true).2 = true := fun z => by
          have := (mS_z _ _ _ _ z).2 k (by omega) (by omega) q
          omega
        rw [if_neg this]; rfl
      · rw [if_neg q2]
        have e : mS g t (n + 1) k a true = mS g t n (k + 1) (a + g k) true := by
          rw [mS, if_pos q, decide_eq_true (show 0 < g k by omega)]; rfl
        rw [e]
    · rw [if_pos q]
      have e : mS g t (n + 1) k a true = mS g t n (k + 1) a true := by rw [mS, if_neg q]
      rw [e]
def sPc (g : Nat → Nat) (G l t : Nat) : Bool := (mS g t 6 0 0 true).2 && decide (¬ (mS g t 6 0 0 true).1 < G + l * pc t)
theorem pe_feLoop {h : mv_H} {g : Nat → Nat} {G l : Nat} (hg : ∀ s, s < 6 → h 40 s = nI (g s)) (hb : ∀ s, s < 6 → g s ≤ 150) (hG : 0 < G ∧ G ≤ 80) (hl : l ≤ 9) : ∀ (n k m : Nat) (o : Option Nat), n + k = 64 → n < m → bel k o → fX6_fewest_39_b6 m (nI G) (nI l) (enc o) (nI k) h = some (enc (wfd (sPc g G l) pc n k o))
  | n, k, 0, o, _, hm, _ => absurd hm (by omega)
  | 0, k, m + 1, o, hn, _, _ => by
    rw [show k = 64 by omega, fX6_fewest_39_b6, if_neg (by decide)]; rfl
  | n + 1, k, m + 1, o, hn, hm, ho => by
    have hk : k < 64 := by omega
    have ih := pe_feLoop hg hb hG hl n (k + 1) m (wst (sPc g G l) pc k o) (by omega) (by omega) (wst_bel ho)
    have hs := pe_suLoop hk hg hb 6 0 mv_F 0 rfl (by rw [mv_F_eq]; decide)
    rw [pz_lit.1] at hs
    have hp := pc_le k
    have hlp : l * pc k ≤ 9 * 6 := Nat.mul_le_mul hl hp
    have hml := mS_le (g := g) (t := k) 6 0 0 true (fun j _ h2 => hb j (by omega))
    rw [fX6_fewest_39_b6, if_pos (show nI k < 64 from nI_lt (b := 64) hk (by decide))]
    simp only [pe_bitCount k hk, Option.bind_some, fX6_sumOf_39, hs, pk_mul, nI_add, fX6_fewest_39_b50, fX6_fewest_39_b53, nI_1, enc_eq ho (show k ≤ 2 ^ 31 by omega)]
    rw [wfd, ← ih]
    by_cases q : (mS g k 6 0 0 true).2 = true
    · rw [if_pos q]
      simp only [pz_lt3 (show (mS g k 6 0 0 true).1 < 2 ^ 31 by omega) (show G + l * pc k < 2 ^ 31 by omega)]
      by_cases q2 : (mS g k 6 0 0 true).1 < G + l * pc k
      · have hP : ¬ sPc g G l k = true := by simp only [sPc, q, q2, not_true_eq_false, decide_false, Bool.and_false]; decide
        rw [if_pos q2]
        simp [wst, hP]
      · have hP : sPc g G l k = true := by simp only [sPc, q, q2, not_false_eq_true, decide_true, Bool.and_true]
        rw [if_neg q2]
        cases o with
        | none => simp [wst, hP, enc]
        | some j =>
          have hj : j < 64 := by have := ho j rfl; omega
          have hpj := pc_le j
          simp only [enc_some, pe_bitCount j hj, Option.bind_some, reduceCtorEq, if_false, pz_lt3 (show pc k < 2 ^ 31 by omega) (show pc j < 2 ^ 31 by omega)]
          by_cases q3 : pc k < pc j <;> simp [wst, hP, q3, enc]
    · rw [if_neg q]
      have hP : ¬ sPc g G l k = true := by simp [sPc, q]
      rw [if_pos (nI_lt (by omega) (by omega))]
      simp [wst, hP]
theorem pe_given {h : mv_H} {N : Nat → Nat → Nat} {a b c l e x s : Nat} (hM : rdM h N) (hN : okN N) (w : LayIs h a b c l e) (hx : x < 3) (hs : s < 6) (hL : sL a b c e x ≤ 58) : fX10_givenBy_55 (nI s) (nI x) h = some (nI (gvn N (sL a b c e x) s)) := by
  have hk := hN.s hs
  obtain ⟨c1, c2, -⟩ := pz_i6 s hs
  obtain ⟨d1, d2, -⟩ := pz_ax3 x hx
  have B : ∀ y : Nat, y ≤ 150 → ∀ z : Nat, z ≤ 150 → fX10_givenBy_55_b51 (nI y) (nI z) h = some (nI (max y z)) := by
    intro y hy z hz
    unfold fX10_givenBy_55_b51
    simp only [pz_lt3 (show z < 2 ^ 31 by omega) (show y < 2 ^ 31 by omega)]
    by_cases q : z < y
    · rw [if_pos q, Nat.max_eq_left (by omega)]
    · rw [if_neg q, Nat.max_eq_right (by omega)]
  unfold fX10_givenBy_55 fX10_givenBy_55_b25
  simp only [if_pos c1, if_pos d1, c2, d2, (w x hx).2.1, (rd_m3 hM hs).1, (rd_m3 hM hs).2, pz_lt3 (show N 4 s < 2 ^ 31 by omega) (show sL a b c e x < 2 ^ 31 by omega), pz_lt3 (show N 3 s < 2 ^ 31 by omega) (show sL a b c e x < 2 ^ 31 by omega)]
  have z0 : (0 : Int32) = nI 0 := rfl
  by_cases q1 : N 4 s < sL a b c e x
  · by_cases q2 : N 3 s < sL a b c e x
    · rw [if_pos q1, if_pos q2, z0, B 0 (by omega) 0 (by omega)]; simp [gvn, q1, q2]
    · rw [if_pos q1, if_neg q2, z0, B 0 (by omega) _ (by omega)]; simp [gvn, q1, q2]
  · by_cases q2 : N 3 s < sL a b c e x
    · rw [if_neg q1, if_pos q2, z0, B _ (by omega) 0 (by omega)]; simp [gvn, q1, q2]
    · rw [if_neg q1, if_neg q2, B _ (by omega) _ (by omega)]; simp [gvn, q1, q2]
theorem pe_grLoop {h : mv_H} {N : Nat → Nat → Nat} {a b c l e x t : Nat} (hM : rdM h N) (hN : okN N) (w : LayIs h a b c l e) (hx : x < 3) (hb : a ≤ 20 ∧ b ≤ 20 ∧ c ≤ 20) (hl : l = N 0 3) (he : e ≤ 9) (ht : t < 64) : ∀ (n k m s : Nat) (z : Bool), n + k = 6 → n < m → s ≤ 150 * k → fX10_goRound_55_b8 m (nI t) (nI x) (nI s) (if z = true then 1 else 0) (nI k) h = some (if ((mS (gvn N (sL a b c e x)) t n k s z).2 && decide (¬ t = 0) && decide (¬ (mS (gvn N (sL a b c e x)) t n k s z).1 < 2 * (sU a b c x + sV a b c x) + l * pc t)) = true then 1 else 0)
  | n, k, 0, s, z, _, hm, _ => absurd hm (by omega)
  | 0, k, m + 1, s, z, hn, _, hs => by
    have hu := sU_le (c := c) (x := x) hb.1 hb.2.1
    have hv := sV_le (a := a) (x := x) hb.2.1 hb.2.2
    have hp := pc_le t
    have hl9 := hN.2.1.1
    have hlp : l * pc t ≤ 9 * 6 := Nat.mul_le_mul (by omega) hp
    obtain ⟨d1, d2, -⟩ := pz_ax3 x hx
    have e0 : (nI t = 0) = (t = 0) := propext (nI_eq (by omega) (by decide))
    rw [show k = 6 by omega, fX10_goRound_55_b8, if_neg (by decide)]
    simp only [e0, if_pos d1, d2, pe_ones t ht, Option.bind_some, (w x hx).2.2.1, (w x hx).2.2.2.1, (rd_ms hM).1, ← hl, pk_mul, pz_R, mS, pz_i0, pz_lt3 (show s < 2 ^ 31 by omega) (show 2 * (sU a b c x + sV a b c x) + l * pc t < 2 ^ 31 by omega)]
    cases z with
    | false => simp
    | true =>
      by_cases q1 : t = 0
      · simp [q1]
      · by_cases q2 : s < 2 * (sU a b c x + sV a b c x) + l * pc t
        · have q3 : ¬ (2 * (sU a b c x + sV a b c x) + l * pc t ≤ s) := by omega
          simp [q1, q2, q3]
        · have q3 : 2 * (sU a b c x + sV a b c x) + l * pc t ≤ s := by omega
          simp [q1, q2, q3]
  | n + 1, k, m + 1, s, z, hn, hm, hs => by
    have hk : k < 6 := by omega
    have hL := (sP_lt (x := x) (l := l) hb (by have := hN.2.1.1; omega) he).2.1
    have hg := gvn_le (L := sL a b c e x) hN hk
    have ih := fun s' z' hs' => pe_grLoop hM hN w hx hb hl he ht n (k + 1) m s' z' (by omega) (by omega) hs'
    have iht := fun s' hs' => ih s' true hs'
    have ihf := fun s' hs' => ih s' false hs'
    simp only [if_true, Bool.false_eq_true, if_false] at iht ihf
    have e0 : (0 < nI (gvn N (sL a b c e x) k)) = (0 < gvn N (sL a b c e x) k) := pz_lt3 (x := 0) (by decide) (by omega)
    rw [fX10_goRound_55_b8, if_pos (pz_l6 hk)]
    simp only [pz_bit t ht k hk, pe_given hM hN w hx hk hL, Option.bind_some, e0, fX10_goRound_55_b48, fX10_goRound_55_b49, fX10_goRound_55_b56, mv_let, nI_add, nI_1, pz_i0]
    rw [mS]
    by_cases q : t.testBit k = true
    · rw [if_pos q, if_pos q, iht _ (by omega), ihf _ (by omega)]
      cases z with
      | false => simp
      | true =>
        by_cases q2 : 0 < gvn N (sL a b c e x) k
        · simp [q2]
        · simp [q2]
    · rw [if_neg q, if_neg q, ih _ _ (by omega)]
def sPm (N : Nat → Nat → Nat) (L G l t : Nat) : Bool := decide (t &&& N 0 2 = t) && ((mS (gvn N L) t 6 0 0 true).2 && decide (¬ t = 0) && decide (¬ (mS (gvn N L) t 6 0 0 true).1 < G + l * pc t))
theorem sPm_eq {N : Nat → Nat → Nat} (hN : okN N) {L G l t : Nat} (hG : 0 < G) (ht : t < 64) : sPm N L G l t = sPc (gft N L) G l t := by
  by_cases q : t &&& N 0 2 = t
  · have e : mS (gvn N L) t 6 0 0 true = mS (gft N L) t 6 0 0 true := mS_congr 6 0 0 true (fun j _ _ hj => by simp [gft, pz_subC q hj])
    unfold sPm sPc
    rw [e, decide_eq_true q, Bool.true_and]
    by_cases q0 : t = 0
    · subst q0
      have : (mS (gft N L) 0 6 0 0 true).1 < G + l * pc 0 := by
        have : (mS (gft N L) 0 6 0 0 true).1 = 0 := by simp [mS]
        omega
      simp [this]
    · simp [q0]
  · unfold sPm sPc
    rw [decide_eq_false q, Bool.false_and]
    have : ¬ (mS (gft N L) t 6 0 0 true).2 = true := fun z => q (pz_subB t ht _ hN.1.2.2 (fun j hj hb => by
      have h0 := (mS_z _ _ _ _ z).2 j (by omega) (by omega) hb
      unfold gft at h0
      by_cases r : (N 0 2).testBit j = true
      · exact r
      · rw [if_neg r] at h0; omega))
    simp [this]
theorem pe_mpcLoop {h : mv_H} {N : Nat → Nat → Nat} {a b c l e x : Nat} {z : Int32} (hM : rdM h N) (hN : okN N) (w : LayIs h a b c l e) (hx : x < 3) (hb : a ≤ 20 ∧ b ≤ 20 ∧ c ≤ 20) (hl : l = N 0 3) (he : e ≤ 9) : ∀ (n k m : Nat) (o : Option Nat), n + k = 64 → n < m → bel k o → fX10_pieces_55_b42 m (nI x) z (enc o) (nI k) h = some ((match wfd (sPm N (sL a b c e x) (2 * (sU a b c x + sV a b c x)) l) pc n k o with
      | none => -6
      | some j => if z = 1 then nI j else nI (pc j)), h)
  | n, k, 0, o, _, hm, _ => absurd hm (by omega)
  | 0, k, m + 1, o, hn, _, ho => by
    rw [show k = 64 by omega, fX10_pieces_55_b42, if_neg (by decide)]
    simp only [enc_lt ho (show k ≤ 2 ^ 31 by omega), fX10_pieces_55_b126, wfd]
    cases o with
    | none => simp [enc]
    | some j =>
      have hj : j < 64 := by have := ho j rfl; omega
      simp only [enc_some, pe_ones j hj, Option.bind_some, reduceCtorEq, if_false]
      by_cases q : z = 1 <;> simp [q]
  | n + 1, k, m + 1, o, hn, hm, ho => by
    have hk : k < 64 := by omega
    have ih := pe_mpcLoop (z := z) hM hN w hx hb hl he n (k + 1) m (wst (sPm N (sL a b c e x) (2 * (sU a b c x + sV a b c x)) l) pc k o) (by omega) (by omega) (wst_bel ho)
    have hg := pe_grLoop hM hN w hx hb hl he hk 6 0 mv_F 0 true rfl (by rw [mv_F_eq]; decide) (by omega)
    simp only [if_true, pz_lit.1] at hg
    have hp := pc_le k
    rw [fX10_pieces_55_b42, if_pos (show nI k < 64 from nI_lt (b := 64) hk (by decide))]
    simp only [(rd_mb hM).2.2, pz_subA k hk _ hN.1.2.2, enc_lt ho (show k ≤ 2 ^ 31 by omega), fX10_pieces_55_b79, fX10_pieces_55_b83, fX10_pieces_55_b84, fX10_pieces_55_b106, fX10_pieces_55_b108, fX10_goRound_55, hg, Option.bind_some, nI_1, pz_i0, pe_ones k hk]
    rw [wfd, ← ih]
    by_cases q : k &&& N 0 2 = k
    · rw [if_pos q]
      by_cases q2 : ((mS (gvn N (sL a b c e x)) k 6 0 0 true).2 && decide (¬ k = 0) && decide (¬ (mS (gvn N (sL a b c e x)) k 6 0 0 true).1 < 2 * (sU a b c x + sV a b c x) + l * pc k)) = true
      · have hP : sPm N (sL a b c e x) (2 * (sU a b c x + sV a b c x)) l k = true := by unfold sPm; rw [q2, decide_eq_true q]; rfl
        simp only [q2, not_true_eq_false, if_false]
        cases o with
        | none => simp [wst, hP, enc]
        | some j =>
          have hj : j < 64 := by have := ho j rfl; omega
          have hpj := pc_le j
          simp only [enc_some, pe_ones j hj, Option.bind_some, reduceCtorEq, if_false, pz_lt3 (show pc k < 2 ^ 31 by omega) (show pc j < 2 ^ 31 by omega)]
          by_cases q3 : pc k < pc j <;> simp [wst, hP, q3, enc]
      · have hP : ¬ sPm N (sL a b c e x) (2 * (sU a b c x + sV a b c x)) l k = true := by unfold sPm; rw [decide_eq_true q, Bool.true_and]; exact q2
        simp only [q2, not_false_eq_true, if_true]
        cases o with
        | none => simp [wst, hP, enc]
        | some j =>
          have hj : j < 64 := by have := ho j rfl; omega
          simp only [enc_some, pe_ones j hj, Option.bind_some, reduceCtorEq, if_false]
          simp [wst, hP, enc]
    · have hP : ¬ sPm N (sL a b c e x) (2 * (sU a b c x + sV a b c x)) l k = true := by unfold sPm; rw [decide_eq_false q, Bool.false_and]; decide
      rw [if_neg q]
      simp [wst, hP]
set_option maxRecDepth 10000 in
theorem st_pieces (p0 p1 p2 : Int32) : Sim (fX9_pieces_0 p0 p1 p2) (fX10_pieces_55 p0 p1 p2) := by
  intro h H
  obtain ⟨N, hG, hM, hN⟩ := H.1
  by_cases hb : pbx p0 (N 0 0) = true
  · by_cases ha : 0 ≤ p1.toInt ∧ p1.toInt ≤ 2
    · by_cases hw : 0 ≤ p2.toInt ∧ p2.toInt ≤ 1
      · obtain ⟨i, hi, rfl, hbit⟩ := pbx_i hN.1.1 hb
        obtain ⟨x, hx, rfl⟩ := pz_axis ha
        have hk := hN.b hi
        have hl := hN.2.1.1
        have he := hN.2.1.2.1
        have hpos := hN.2.2.2.2.2.2.1 i hi hbit
        have p0 := hpos 0 (by decide)
        have p1 := hpos 1 (by decide)
        have p2' := hpos 2 (by decide)
        obtain ⟨L, eL⟩ : ∃ L, L = sL (N 1 (3 * i)) (N 1 (3 * i + 1)) (N 1 (3 * i + 2)) (N 0 4) x := ⟨_, rfl⟩
        obtain ⟨G, eG⟩ : ∃ G, G = 2 * (sU (N 1 (3 * i)) (N 1 (3 * i + 1)) (N 1 (3 * i + 2)) x + sV (N 1 (3 * i)) (N 1 (3 * i + 1)) (N 1 (3 * i + 2)) x) := ⟨_, rfl⟩
        have hL : L ≤ 58 := eL ▸ (sP_lt (x := x) (l := N 0 3) hk hl he).2.1
        have hu := sU_le (c := N 1 (3 * i + 2)) (x := x) hk.1 hk.2.1
        have hv := sV_le (a := N 1 (3 * i)) (x := x) hk.2.1 hk.2.2
        have hu1 : 1 ≤ sU (N 1 (3 * i)) (N 1 (3 * i + 1)) (N 1 (3 * i + 2)) x := by
          have p0 : 1 ≤ N 1 (3 * i) := p0
          unfold sU; split <;> omega
        have hGG : 0 < G ∧ G ≤ 80 := by omega
        obtain ⟨h0, h2', e1, w1, s1, -⟩ := q_look hi hG hM hN
        have g1 := s1.rdG (Or.inl rfl) hG
        obtain ⟨h1, e2, gg, ho⟩ := pe_gaLoop hN hL 6 0 mv_F h0 rfl (by rw [mv_F_eq]; decide) g1 (fun s hs => absurd hs (by omega))
        have s2 : Same h0 h1 := fun o k q => by
          by_cases z : o = 40
          · exact absurd (by unfold scr; omega) q
          · exact ho o k z
        have w1' : WrapIs h1 (N 1 (3 * i)) (N 1 (3 * i + 1)) (N 1 (3 * i + 2)) (N 0 3) (N 0 4) := by
          unfold WrapIs
          rw [ho 38 0 (by decide), ho 38 1 (by decide), ho 38 2 (by decide), ho 38 3 (by decide), ho 38 4 (by decide)]
          exact w1
        have sS := s1.tr s2
        obtain ⟨h2, e3, w2, s3⟩ := pe_look hi (sS.rdM hM) hN
        have m1 := rd_mb (sS.rdM hM)
        have n2 := (sS.tr s3).rdM hM
        have k1 := pe_feLoop (h := h1) gg (fun s hs => gft_le hN hs) hGG hl 63 1 mv_F none rfl (by rw [mv_F_eq]; decide) (bel_none 1)
        have k2 := pe_mpcLoop (z := p2) n2 hN w2 hx hk rfl he 64 0 mv_F none rfl (by rw [mv_F_eq]; decide) (bel_none 0)
        rw [← eL, ← eG] at k2
        have c64 : wfd (sPm N L G (N 0 3)) pc 64 0 none = wfd (sPc (gft N L) G (N 0 3)) pc 63 1 none := by
          rw [wfd_congr (P' := sPc (gft N L) G (N 0 3)) (M' := pc) 64 0 none (bel_none 0) (fun j _ hj => sPm_eq hN hGG.1 (by omega)) (fun _ _ => rfl)]
          rw [wfd]
          have : sPc (gft N L) G (N 0 3) 0 = false := by
            have : (mS (gft N L) 0 6 0 0 true).1 = 0 := by simp [mS]
            simp [sPc, this, pc]
            intro _
            have := hGG.1
            omega
          rw [wst, if_neg (by rw [this]; decide)]
        rw [c64] at k2
        have hbl : bel 64 (wfd (sPc (gft N L) G (N 0 3)) pc 63 1 none) := wfd_bel 63 1 none (bel_none 1)
        obtain ⟨o, eo⟩ : ∃ o, o = wfd (sPc (gft N L) G (N 0 3)) pc 63 1 none := ⟨_, rfl⟩
        rw [← eo] at k1 k2 hbl
        have M0 : ∀ r, fX10_pieces_55_b42 mv_F (nI x) p2 (-6) 0 h2 = some (r, h2) → fX10_pieces_55 (nI i) (nI x) p2 h1 = some (r, h2) := fun r hr => by
          simp only [fX10_pieces_55, pe_mb m1.1, hb, pe_isAxis, ha, pe_in, Int32.toInt_toInt64, pz_64, hw, e3, Option.bind_some, if_true, and_self]
          exact hr
        have k1' : fX6_fewest_39 (nI G) (nI (N 0 3)) h1 = some (enc o) := by
          unfold fX6_fewest_39
          exact k1
        have C0 : fX9_pieces_0 (nI i) (nI x) p2 h = (if enc o = -6 then some (-6, h1) else if p2 = 0 then (fJ6_bitCount_0f7a4 (enc o)).bind fun r => some (r, h1) else some (enc o, h1)) := by
          have ga : fX6_gather_39_6 (nI L) h0 = some h1 := e2
          simp only [fX9_pieces_0, pe_bba _ _ (rd_b hG).1, hb, ha, pe_isWithin, pz_32, hw, e1, pe_reach w1 hx hk, ← eL, ga, pe_girth w1' hx, ← eG, fX1_setting_1, (rd_s (sS.rdG (Or.inl rfl) hG)).1, k1', Option.bind_some, if_true, and_self]
          rfl
        cases o with
        | none => exact ⟨-6, h1, h2, by rw [C0]; simp [enc], M0 _ k2, (sS.tr s3).inv H⟩
        | some j =>
          have hj := hbl j rfl
          have n1 : ¬ nI j = -6 := fun q => by have := enc_eq hbl (by decide); simp [enc, q] at this
          rcases pz_two hw with rfl | rfl
          · exact ⟨nI (pc j), h1, h2, by rw [C0]; simp [enc, n1, pe_bitCount j hj], M0 (nI (pc j)) (k2.trans (by simp)), (sS.tr s3).inv H⟩
          · exact ⟨nI j, h1, h2, by rw [C0]; simp [enc, n1], M0 (nI j) (k2.trans (by simp)), (sS.tr s3).inv H⟩
      · refine ⟨-2, h, h, ?_, ?_, H⟩
        · simp [fX9_pieces_0, pe_bba _ _ (rd_b hG).1, hb, ha, pe_isWithin, pz_32, hw]
        · simp [fX10_pieces_55, pe_mb (rd_mb hM).1, hb, pe_isAxis, ha, pe_in, pz_64, hw]
    · refine ⟨-1, h, h, ?_, ?_, H⟩
      · simp [fX9_pieces_0, pe_bba _ _ (rd_b hG).1, hb, ha]
      · simp [fX10_pieces_55, pe_mb (rd_mb hM).1, hb, pe_isAxis, ha]
  · refine ⟨-1, h, h, ?_, ?_, H⟩
    · simp [fX9_pieces_0, pe_bba _ _ (rd_b hG).1, hb]
    · simp [fX10_pieces_55, pe_mb (rd_mb hM).1, hb]
