/-! match; roots: slant, slants, saved, corners -/
theorem pz_l3 {k : Nat} (h : k < 3) : nI k < 3 := (nI_lt h (by decide) : nI k < nI 3)
def plB (a b c p x : Nat) : Bool := decide (2 * (sU a b c x + sV a b c x) % p = 0)
theorem pe_matLoop {h : mv_H} {a b c l e p : Nat} (i : WrapIs h a b c l e) (hb : a ≤ 20 ∧ b ≤ 20 ∧ c ≤ 20) (hp : 1 ≤ p ∧ p ≤ 40) (e7 : h 1 7 = nI p) : ∀ (n k m s : Nat), n + k = 3 → n < m → s < 64 → fX9_match_0_b27 m (nI s) (nI k) h = some (nI (gb (plB a b c p) n k s), h)
  | n, k, 0, s, _, hm, _ => absurd hm (by omega)
  | 0, k, m + 1, s, hn, _, _ => by
    rw [show k = 3 by omega, fX9_match_0_b27, if_neg (by decide)]; rfl
  | n + 1, k, m + 1, s, hn, hm, hs => by
    have hk : k < 3 := by omega
    have ho := pz_or s hs k (by omega)
    have ih := fun s' (hs' : s' < 64) => pe_matLoop i hb hp e7 n (k + 1) m s' (by omega) (by omega) hs'
    have hu := sU_le (c := c) (x := k) hb.1 hb.2.1
    have hv := sV_le (a := a) (x := k) hb.2.1 hb.2.2
    have hmod : 2 * (sU a b c k + sV a b c k) % p < p := Nat.mod_lt _ (by omega)
    have hz : ∀ z : Nat, z < 2 ^ 31 → (nI z = 0) = (z = 0) := fun z hz => propext (nI_eq hz (by decide))
    rw [fX9_match_0_b27, if_pos (pz_l3 hk)]
    simp only [pe_girth i hk, Option.bind_some, pe_pleatOf (h := h) (g := 2 * (sU a b c k + sV a b c k)) (by omega) hp e7, fX9_match_0_b53, mv_let, nI_1, ho.1]
    rw [gb]
    by_cases q : 2 * (sU a b c k + sV a b c k) % p = 0
    · have q' : plB a b c p k = true := by simp [plB, q]
      simp only [q, if_true, pz_lit, q', ih _ ho.2]
    · have q' : plB a b c p k = false := by simp [plB, q]
      have q2 : ¬ nI (p - 2 * (sU a b c k + sV a b c k) % p) = 0 := by rw [hz _ (by omega)]; omega
      simp only [q, if_false, q', q2, Bool.false_eq_true, ih _ hs]
theorem pe_mmatLoop {h : mv_H} {a b c l e p : Nat} (i : LayIs h a b c l e) (hb : a ≤ 20 ∧ b ≤ 20 ∧ c ≤ 20) (hp : 1 ≤ p ∧ p ≤ 40) (e9 : h 55 9 = nI p) : ∀ (n k m s : Nat), n + k = 3 → n < m → s < 64 → fX10_match_55_b19 m (nI s) (nI k) h = some (nI (gb (plB a b c p) n k s), h)
  | n, k, 0, s, _, hm, _ => absurd hm (by omega)
  | 0, k, m + 1, s, hn, _, _ => by
    rw [show k = 3 by omega, fX10_match_55_b19, if_neg (by decide)]; rfl
  | n + 1, k, m + 1, s, hn, hm, hs => by
    have hk : k < 3 := by omega
    have ho := pz_or s hs k (by omega)
    have ih := fun s' (hs' : s' < 64) => pe_mmatLoop i hb hp e9 n (k + 1) m s' (by omega) (by omega) hs'
    have hmod : 2 * (sU a b c k + sV a b c k) % p < p := Nat.mod_lt _ (by omega)
    have hz : ∀ z : Nat, z < 2 ^ 31 → (nI z = 0) = (z = 0) := fun z hz => propext (nI_eq hz (by decide))
    have h0 : nI s ||| 0 = nI s := Int32.or_zero
    rw [fX10_match_55_b19, if_pos (pz_l3 hk)]
    simp only [pe_pleatBy i hk hb hp e9, Option.bind_some, fX10_match_55_b40, mv_let, nI_1, ho.1, h0]
    rw [gb]
    by_cases q : 2 * (sU a b c k + sV a b c k) % p = 0
    · have q' : plB a b c p k = true := by simp [plB, q]
      simp only [q, if_true, pz_lit, q', ih _ ho.2]
    · have q' : plB a b c p k = false := by simp [plB, q]
      have q2 : ¬ nI (p - 2 * (sU a b c k + sV a b c k) % p) = 0 := by rw [hz _ (by omega)]; omega
      simp only [q, if_false, q', q2, Bool.false_eq_true, ih _ hs]
set_option maxRecDepth 10000 in
theorem st_match (p0 : Int32) : Sim (fX9_match_0 p0) (fX10_match_55 p0) := by
  intro h H
  obtain ⟨N, hG, hM, hN⟩ := H.1
  by_cases hb : pbx p0 (N 0 0) = true
  · obtain ⟨i, hi, rfl, -⟩ := pbx_i hN.1.1 hb
    obtain ⟨h1, h2, e1, w1, s1, e2, w2, s2, s12⟩ := q_look hi hG hM hN
    have hk := hN.b hi
    have hp := hN.2.1.2.2
    have k1 := pe_matLoop w1 hk ⟨hp.1, hp.2.1⟩ (rd_s (s1.rdG (Or.inl rfl) hG)).2.2.1 3 0 mv_F 0 rfl (by rw [mv_F_eq]; decide) (by decide)
    have k2 := pe_mmatLoop w2 hk ⟨hp.1, hp.2.1⟩ (rd_ms (s2.rdM hM)).2.2.1 3 0 mv_F 0 rfl (by rw [mv_F_eq]; decide) (by decide)
    rw [pz_lit.1] at k1 k2
    refine ⟨nI (gb (plB (N 1 (3 * i)) (N 1 (3 * i + 1)) (N 1 (3 * i + 2)) (N 0 5)) 3 0 0), h1, h2, ?_, ?_, s2.inv H⟩
    · simp [fX9_match_0, pe_hb (rd_b hG).1, hb, e1, k1]
    · simp [fX10_match_55, pe_mb (rd_mb (s1.rdM hM)).1, hb, e2, k2]
  · refine ⟨-1, h, h, ?_, ?_, H⟩
    · simp [fX9_match_0, pe_hb (rd_b hG).1, hb]
    · simp [fX10_match_55, pe_mb (rd_mb hM).1, hb]
/-- the root below -/
def br : Nat → Nat
  | 0 => 0
  | n + 1 => if (br n + 1) * (br n + 1) ≤ n + 1 then br n + 1 else br n
theorem br_is : ∀ n, br n * br n ≤ n ∧ n < (br n + 1) * (br n + 1)
  | 0 => by simp [br]
  | n + 1 => by
    obtain ⟨h1, h2⟩ := br_is n
    unfold br
    by_cases q : (br n + 1) * (br n + 1) ≤ n + 1
    · rw [if_pos q]
      refine ⟨q, ?_⟩
      have : (br n + 1 + 1) * (br n + 1 + 1) = (br n + 1) * (br n + 1) + 2 * (br n + 1) + 1 := by
        simp only [Nat.add_mul, Nat.mul_add]; omega
      omega
    · rw [if_neg q]; exact ⟨by omega, by omega⟩
theorem br_eq {n r : Nat} (h1 : r * r ≤ n) (h2 : n < (r + 1) * (r + 1)) : r = br n := by
  obtain ⟨k1, k2⟩ := br_is n
  rcases Nat.lt_trichotomy r (br n) with q | q | q
  · have := Nat.mul_le_mul (show r + 1 ≤ br n from q) (show r + 1 ≤ br n from q)
    omega
  · exact q
  · have := Nat.mul_le_mul (show br n + 1 ≤ r from q) (show br n + 1 ≤ r from q)
    omega
theorem br_lt {n m : Nat} (h : n < m * m) : br n < m := by
  rcases Nat.lt_or_ge (br n) m with q | q
  · exact q
  · have := Nat.mul_le_mul q q
    have := (br_is n).1
    omega
/-- the root above -/
def ar (n : Nat) : Nat := if br n * br n < n then br n + 1 else br n
theorem ar_is (n : Nat) : n ≤ ar n * ar n ∧ ∀ j, j < ar n → j * j < n := by
  obtain ⟨h1, h2⟩ := br_is n
  unfold ar
  by_cases q : br n * br n < n
  · rw [if_pos q]
    refine ⟨by omega, fun j hj => ?_⟩
    have := Nat.mul_le_mul (show j ≤ br n by omega) (show j ≤ br n by omega)
    omega
  · rw [if_neg q]
    refine ⟨by omega, fun j hj => ?_⟩
    have := Nat.mul_lt_mul_of_lt_of_le hj (show j ≤ br n by omega) (by omega)
    omega
theorem ar_le {n m : Nat} (h : n < m * m) : ar n ≤ m := by
  have := br_lt h
  unfold ar
  split <;> omega
def pw (j : Nat) : Nat := if j = 0 then 0 else 2 ^ (j - 1)
theorem pz_sh : ∀ j, j < 15 → nI (2 ^ j) >>> (1 &&& 31) = nI (pw j) := by decide +kernel
theorem pe_rbLoop {n : Nat} (hn : n < 2 ^ 30) : ∀ (j r m : Nat), j ≤ 15 → j < m → r * r ≤ n → n < (r + 2 ^ j) * (r + 2 ^ j) → r + 2 ^ j ≤ 32768 → fX9_rootBelow_b6 m (nI n) (nI r) (nI (pw j)) = some (nI (br n))
  | j, r, 0, _, hm, _, _, _ => absurd hm (by omega)
  | 0, r, m + 1, _, _, h1, h2, _ => by
    rw [fX9_rootBelow_b6, if_neg (by decide), br_eq h1 h2]
  | j + 1, r, m + 1, hj, hm, h1, h2, h3 => by
    have hp : pw (j + 1) = 2 ^ j := by simp [pw]
    have hp2 : 2 ^ (j + 1) = 2 ^ j + 2 ^ j := by rw [Nat.pow_succ]; omega
    have hp3 : 0 < 2 ^ j := Nat.two_pow_pos j
    have hsq : (r + 2 ^ j) * (r + 2 ^ j) ≤ 32768 * 32768 := Nat.mul_le_mul (by omega) (by omega)
    rw [fX9_rootBelow_b6, hp, if_pos (show (0 : Int32) < nI (2 ^ j) from nI_lt (a := 0) hp3 (by omega))]
    simp only [mv_let, nI_add, pk_mul, fX9_rootBelow_b23, pz_sh j (by omega), pz_lt3 (show n < 2 ^ 31 by omega) (show (r + 2 ^ j) * (r + 2 ^ j) < 2 ^ 31 by omega)]
    by_cases q : n < (r + 2 ^ j) * (r + 2 ^ j)
    · rw [if_pos q]; exact pe_rbLoop hn j r m (by omega) (by omega) h1 q (by omega)
    · rw [if_neg q]
      exact pe_rbLoop hn j (r + 2 ^ j) m (by omega) (by omega) (by omega) (by rw [show r + 2 ^ j + 2 ^ j = r + 2 ^ (j + 1) by omega]; exact h2) (by omega)
theorem pe_rootBelow {n : Nat} (hn : n < 2 ^ 30) : fX9_rootBelow (nI n) = some (nI (br n)) := by
  have := pe_rbLoop hn 15 0 mv_F (by decide) (by rw [mv_F_eq]; decide) (by omega) (by omega) (by decide)
  exact this
theorem pe_rootAbove {n : Nat} (hn : n < 2 ^ 30) : fX9_rootAbove (nI n) = some (nI (ar n)) := by
  have h1 := (br_is n).1
  unfold fX9_rootAbove
  rw [pe_rootBelow hn, Option.bind_some, pk_mul]
  simp only [pz_lt3 (show br n * br n < 2 ^ 31 by omega) (show n < 2 ^ 31 by omega), nI_1]
  unfold ar
  by_cases q : br n * br n < n <;> simp [q]
theorem pe_roLoop {n : Nat} (hn : n < 2 ^ 30) : ∀ (d k m : Nat), d + k = ar n → d < m → fX10_rootOf_b2 m (nI n) (nI k) = some (nI (ar n))
  | d, k, 0, _, hm => absurd hm (by omega)
  | 0, k, m + 1, hk, _ => by
    obtain ⟨h1, h2⟩ := ar_is n
    have ha : ar n ≤ 32768 := ar_le (by omega)
    have h3 : ar n * ar n ≤ 32768 * 32768 := Nat.mul_le_mul ha ha
    rw [show k = ar n by omega, fX10_rootOf_b2, pk_mul]
    simp only [pz_lt3 (show ar n * ar n < 2 ^ 31 by omega) (show n < 2 ^ 31 by omega)]
    rw [if_neg (by omega)]
  | d + 1, k, m + 1, hk, hm => by
    obtain ⟨h1, h2⟩ := ar_is n
    have h3 := h2 k (by omega)
    rw [fX10_rootOf_b2, pk_mul]
    simp only [pz_lt3 (show k * k < 2 ^ 31 by omega) (show n < 2 ^ 31 by omega)]
    rw [if_pos h3, nI_1]
    exact pe_roLoop hn d (k + 1) m (by omega) (by omega)
theorem pe_rootOf {n : Nat} (hn : n < 2 ^ 30) : fX10_rootOf (nI n) = some (nI (ar n)) := by
  have ha : ar n ≤ 32768 := ar_le (by omega)
  unfold fX10_rootOf
  exact pe_roLoop hn (ar n) 0 mv_F (by omega) (by rw [mv_F_eq]; omega)
