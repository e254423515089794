/-! usedUp: the reference's side, and both -/
theorem pz_shm : ∀ m, m ≤ 6 → ((1 : Int32) <<< (nI m &&& 31)) - 1 = nI (2 ^ m - 1) := by decide +kernel
theorem pz_dec : ∀ c, c ≤ 6 → nI c + (-1) = nI c - 1 := by decide +kernel
theorem pz_mm : ∀ m, m ≤ 6 → m ^ m ≤ 46656 ∧ 6 ^ m ≤ 46656 := by decide +kernel
theorem pe_lr {m a : Nat} (hm : m ≤ 6) (ha : a < 2 ^ 31) : ∀ (c fuel X : Nat) (h : mv_H), c ≤ m → c < fuel → X < 64 → h 55 37 = nI m → (∀ k, c ≤ k → k < m → h 77 k = nI (dgt m m a k)) → ∃ h', fX10_layRow_55_b12 fuel (nI (a / m ^ (m - c))) (nI X) (nI c - 1) h = some (if X ||| orr (dgt m m a) c = 2 ^ m - 1 then 1 else 0, h') ∧ (∀ k, k < m → h' 77 k = nI (dgt m m a k)) ∧ (∀ o k, o ≠ 77 → h' o k = h o k)
  | c, 0, X, h, _, hf, _, _, _ => absurd hf (by omega)
  | 0, fuel + 1, X, h, hc, hf, hX, h37, h77 => by
    refine ⟨h, ?_, fun k hk => h77 k (by omega) hk, fun _ _ _ => rfl⟩
    rw [fX10_layRow_55_b12, if_pos (by decide), h37, pz_shm m hm]
    have e : (nI X = nI (2 ^ m - 1)) = (X = 2 ^ m - 1) := pz_e (by omega) (by have := pow_le6 hm; omega)
    simp only [e, orr, Nat.or_zero]
    by_cases q : X = 2 ^ m - 1
    · rw [if_pos q, if_pos q]
    · rw [if_neg q, if_neg q]
  | c + 1, fuel + 1, X, h, hc, hf, hX, h37, h77 => by
    have h0 : 0 < m := by omega
    have hd := dgt_b (m := m) (i := m) (a := a) (k := c) h0
    obtain ⟨i1, i2, -⟩ := pz_i6 c (by omega)
    obtain ⟨L, eL⟩ : ∃ L, L = a / m ^ (m - (c + 1)) := ⟨_, rfl⟩
    have hL : L < 2 ^ 31 := by rw [eL]; exact Nat.lt_of_le_of_lt (Nat.div_le_self _ _) ha
    have eLd : L % m = dgt m m a c := by rw [eL]; unfold dgt; rw [show m - (c + 1) = m - 1 - c by omega]
    have eLq : L / m = a / m ^ (m - c) := by
      rw [eL, Nat.div_div_eq_div_mul, ← Nat.pow_succ, show (m - (c + 1)).succ = m - c by omega]
    have nm : ¬ nI m = 0 := nI_ne0 h0 (by omega)
    obtain ⟨g, eg⟩ : ∃ g, g = mv_u h 77 c (nI (dgt m m a c)) := ⟨_, rfl⟩
    have g37 : g 55 37 = nI m := by rw [eg, mv_u_at, if_neg (by omega)]; exact h37
    have ho := pz_or X hX (dgt m m a c) (by omega)
    obtain ⟨h', e', a', b'⟩ := pe_lr hm ha c fuel (X ||| 2 ^ dgt m m a c) g (by omega) (by omega) ho.2 g37 (fun k h1 h2 => by
      rw [eg, mv_u_at]
      by_cases z : k = c
      · rw [if_pos ⟨rfl, z⟩, z]
      · rw [if_neg (fun y => z y.2)]; exact h77 k (by omega) h2)
    refine ⟨h', ?_, a', fun o k q => by rw [b' o k q, eg, mv_u_at, if_neg (fun z => q z.1)]⟩
    rw [fX10_layRow_55_b12, nI_pred, if_neg (nI_pos (by omega)), h37, if_pos nm, if_pos i1, ← eL, pk_rem hL h0 (by omega)]
    simp only [mv_let, i2, eLd, ← eg]
    rw [if_pos i1, show g 77 c = nI (dgt m m a c) from by rw [eg, mv_u_at, if_pos ⟨rfl, rfl⟩], ho.1, g37, if_pos nm, pk_div hL h0 (by omega), eLq, pz_dec c (by omega), e']
    have : X ||| 2 ^ dgt m m a c ||| orr (dgt m m a) c = X ||| orr (dgt m m a) (c + 1) := by
      show _ = X ||| (orr (dgt m m a) c ||| 2 ^ dgt m m a c)
      rw [Nat.or_assoc, Nat.or_comm (2 ^ dgt m m a c)]
    rw [this]
theorem pe_layRow {m a : Nat} (hm : m ≤ 6) (ha : a < 2 ^ 31) {h : mv_H} (h37 : h 55 37 = nI m) : ∃ h', fX10_layRow_55 (nI a) h = some (if orr (dgt m m a) m = 2 ^ m - 1 then 1 else 0, h') ∧ (∀ k, k < m → h' 77 k = nI (dgt m m a k)) ∧ (∀ o k, o ≠ 77 → h' o k = h o k) := by
  obtain ⟨h', e, x, y⟩ := pe_lr hm ha m mv_F 0 h (Nat.le_refl m) (by rw [mv_F_eq]; omega) (by decide) h37 (fun k h1 h2 => absurd h2 (by omega))
  refine ⟨h', ?_, x, y⟩
  unfold fX10_layRow_55
  simp only [mv_let]
  rw [Nat.sub_self, Nat.pow_zero, Nat.div_one, Nat.zero_or, pz_lit.1] at e
  rw [h37]; exact e
def MI (N : Nat → Nat → Nat) (t : Nat) (h : mv_H) : Prop := h 55 37 = nI (pc t) ∧ (∀ j, j < pc t → h 76 j = nI (mb t j)) ∧ rdM h N
theorem pe_wb {N : Nat → Nat → Nat} {t : Nat} {ρ R : Nat → Nat} (ht : t < 64) (hN : okN N) (hρ : ∀ k, k < pc t → ρ k < pc t ∧ R k = mb t (ρ k)) : ∀ (n k fuel : Nat) (h : mv_H), n + k = pc t → n < fuel → MI N t h → (∀ k, k < pc t → h 77 k = nI (ρ k)) → ∃ h', fX10_wrappedByRow_55_b9 fuel (nI (uwl N R k).1) (nI (uwl N R k).2) (nI k) h = some (nI (uwl N R (pc t)).2, h') ∧ (∀ o j, ¬ (65 ≤ o ∧ o ≤ 69) → h' o j = h o j)
  | n, k, 0, h, _, hf, _, _ => absurd hf (by omega)
  | 0, k, fuel + 1, h, hn, _, M, h77 => by
    have hm := pc_le t
    refine ⟨h, ?_, fun _ _ _ => rfl⟩
    rw [show k = pc t by omega, fX10_wrappedByRow_55_b9, M.1, if_neg (nI_nlt (Nat.le_refl _) (by omega))]
  | n + 1, k, fuel + 1, h, hn, hf, M, h77 => by
    have hm := pc_le t
    have hk : k < pc t := by omega
    obtain ⟨i1, i2, -⟩ := pz_i6 k (by omega)
    obtain ⟨r1, r2⟩ := hρ k hk
    obtain ⟨j1, j2, -⟩ := pz_i6 (ρ k) (by omega)
    obtain ⟨b1, b2⟩ := mb_p t ht (ρ k) (by omega) r1
    obtain ⟨h1, e1, w1, u1⟩ := pe_look2 b1 M.2.2 hN
    have s1 : Same h h1 := fun o j q => u1 o j (by unfold scr at q; omega)
    have M1 : MI N t h1 := ⟨(u1 55 37 (by omega)).trans M.1, fun j hj => (u1 76 j (by omega)).trans (M.2.1 j hj), s1.rdM M.2.2⟩
    obtain ⟨p1, p2, p3⟩ := uwl_p (N := N) (r := R) hN.1.2.2 k
    obtain ⟨q1, q2, q3⟩ := su_p (N := N) (b := R k) p1
    obtain ⟨h', e', u'⟩ := pe_wb ht hN hρ n (k + 1) fuel h1 (by omega) (by omega) M1 (fun j hj => (u1 77 j (by omega)).trans (h77 j hj))
    refine ⟨h', ?_, fun o j q => by rw [u' o j q, u1 o j q]⟩
    rw [fX10_wrappedByRow_55_b9, M.1, if_pos (nI_lt hk (by omega)), if_pos i1, i2, h77 k hk, if_pos j1, j2, M.2.1 _ r1, e1, Option.bind_some, pe_tk p1 w1 M1.2.2 hN b1, Option.bind_some]
    have et : wfd (fun s => (uwl N R k).1.testBit s && (sWay N (mb t (ρ k)) s).isSome) (fun s => N 3 s * N 4 s) 6 0 none = tkn N (uwl N R k).1 (R k) := by rw [r2]; rfl
    rw [et, ← e']
    simp only [enc_lt (tkn_bel N (uwl N R k).1 (R k)) (show 6 ≤ 2 ^ 31 by decide), fX10_wrappedByRow_55_b55, fX10_wrappedByRow_55_b68, mv_let, pz_and1, nI_1]
    show _ = fX10_wrappedByRow_55_b9 fuel (nI (su N (uwl N R k).1 (R k))) (nI ((uwl N R k).2 + sw N (uwl N R k).1 (R k))) (nI (k + 1)) h1
    unfold su sw
    cases hz : tkn N (uwl N R k).1 (R k) with
    | none => simp
    | some s =>
      have hs6 := (tkn_bit hz).1
      simp only [reduceCtorEq, if_false]
      rw [enc_some, (pz_del _ p1 s hs6).1]
theorem pe_wrapped {N : Nat → Nat → Nat} {t : Nat} {ρ R : Nat → Nat} (ht : t < 64) (hN : okN N) (hρ : ∀ k, k < pc t → ρ k < pc t ∧ R k = mb t (ρ k)) {h : mv_H} (M : MI N t h) (h77 : ∀ k, k < pc t → h 77 k = nI (ρ k)) : ∃ h', fX10_wrappedByRow_55 h = some (nI (uwl N R (pc t)).2, h') ∧ (∀ o j, ¬ (65 ≤ o ∧ o ≤ 69) → h' o j = h o j) := by
  obtain ⟨h', e, u⟩ := pe_wb ht hN hρ (pc t) 0 mv_F h (by omega) (by have := pc_le t; rw [mv_F_eq]; omega) M h77
  refine ⟨h', ?_, u⟩
  unfold fX10_wrappedByRow_55
  simp only [mv_let]
  rw [(rd_mb M.2.2).2.2]
  exact e
theorem pe_cp78 {m : Nat} (hm : m ≤ 6) (K : Int32 → Int32 → Int32 → Int32 → mv_H → Option (Int32 × mv_H)) (v2 v3 v4 v5 : Int32) (h : mv_H) (h37 : h 55 37 = nI m) : ∀ (n k fuel : Nat), n + k = m → n < fuel → fX10_usedUp_55_b88 K fuel v2 v3 v4 v5 (nI k) (cpA h 78 77 k) = K v2 v3 v4 (v5 + 1) (cpA h 78 77 m)
  | n, k, 0, _, hf => absurd hf (by omega)
  | 0, k, fuel + 1, hn, _ => by
    rw [show k = m by omega, fX10_usedUp_55_b88, show cpA h 78 77 m 55 37 = nI m from by unfold cpA; rw [if_neg (by omega)]; exact h37, if_neg (nI_nlt (Nat.le_refl _) (by omega))]; rfl
  | n + 1, k, fuel + 1, hn, hf => by
    obtain ⟨i1, i2, -⟩ := pz_i6 k (by omega)
    rw [fX10_usedUp_55_b88, show cpA h 78 77 k 55 37 = nI m from by unfold cpA; rw [if_neg (by omega)]; exact h37, if_pos (nI_lt (by omega) (by omega)), if_pos i1, if_pos i1, i2]
    simp only [mv_let]
    rw [cpA_s (by decide), nI_1]
    exact pe_cp78 hm K v2 v3 v4 v5 h h37 n (k + 1) fuel (by omega) (by omega)
def ev (st : St) : Int32 := match st with
  | none => -1
  | some (w, _) => nI w
def RB (t : Nat) (h : mv_H) (st : St) : Prop := ∀ w R, st = some (w, R) → w ≤ 6 ∧ ∀ k, k < pc t → ∃ d, d < pc t ∧ h 78 k = nI d ∧ R k = mb t d
theorem pe_nl {N : Nat → Nat → Nat} {t : Nat} {z : Int32} (ht : t < 64) (hN : okN N) : ∀ (n k fuel : Nat) (h : mv_H) (st : St), n + k = pc t ^ pc t → n < fuel → MI N t h → RB t h st → (fo (fU N t (pc t)) n k st).isSome = true → ∃ h', fX10_usedUp_55_b49 fuel z (nI (pc t ^ pc t)) (ev st) (nI k) h = some (uAns (pc t) (fo (fU N t (pc t)) n k st) z, h') ∧ Same h h'
  | n, k, 0, h, st, _, hf, _, _, _ => absurd hf (by omega)
  | 0, k, fuel + 1, h, st, hn, _, M, B, hS => by
    have hm := pc_le t
    have hmm := (pz_mm (pc t) hm).1
    refine ⟨h, ?_, Same.rf h⟩
    rw [fX10_usedUp_55_b49, show k = pc t ^ pc t by omega, if_neg (nI_nlt (Nat.le_refl _) (by omega))]
    cases st with
    | none => cases hS
    | some y =>
      obtain ⟨w, R⟩ := y
      obtain ⟨w6, BR⟩ := B w R rfl
      show (if z = -1 then some (nI w, h) else _) = some (if z = -1 then nI w else if 0 ≤ z.toInt ∧ z.toInt < pc t then nI (R z.toNatClampNeg) else -6, h)
      by_cases q : z = -1
      · rw [if_pos q, if_pos q]
      · rw [if_neg q, if_neg q, M.1, pe_in, Option.bind_some, Int32.toInt_toInt64, Int32.toInt_toInt64]
        have em : (nI (pc t) - 1).toInt = (pc t : Int) - 1 := pk_sub_toInt (b := 1) (by omega) (by decide)
        simp only [pz_64, em, pz_i0]
        by_cases q2 : 0 ≤ z.toInt ∧ z.toInt < pc t
        · obtain ⟨i, hi, rfl⟩ := pz_six (v := z) ⟨q2.1, by omega⟩
          obtain ⟨j1, j2, j3⟩ := pz_i6 i hi
          rw [j3] at q2
          obtain ⟨d, d1, d2, d3⟩ := BR i (by omega)
          obtain ⟨l1, l2, -⟩ := pz_i6 d (by omega)
          rw [if_neg (by rw [j3]; omega), if_pos j1, j2, d2, if_pos l1, l2, M.2.1 d d1, if_pos (by rw [j3]; exact q2), d3]
        · rw [if_pos (by omega), if_neg q2]
  | n + 1, k, fuel + 1, h, st, hn, hf, M, B, hS => by
    have hm := pc_le t
    have hmm := (pz_mm (pc t) hm).1
    obtain ⟨h1, e1, a1, b1⟩ := pe_layRow hm (show k < 2 ^ 31 by omega) M.1
    have s1 : Same h h1 := fun o j q => b1 o j (by unfold scr at q; omega)
    have M1 : MI N t h1 := ⟨(b1 55 37 (by decide)).trans M.1, fun j hj => (b1 76 j (by decide)).trans (M.2.1 j hj), s1.rdM M.2.2⟩
    have B1 : RB t h1 st := fun w R e => ⟨(B w R e).1, fun k hk => by
      obtain ⟨d, d1, d2, d3⟩ := (B w R e).2 k hk
      exact ⟨d, d1, (b1 78 k (by decide)).trans d2, d3⟩⟩
    rw [fX10_usedUp_55_b49, if_pos (nI_lt (by omega) (by omega)), e1, Option.bind_some]
    have hS' : (fo (fU N t (pc t)) n (k + 1) (fU N t (pc t) k st)).isSome = true := hS
    show ∃ h', _ = some (uAns (pc t) (fo (fU N t (pc t)) n (k + 1) (fU N t (pc t) k st)) z, h') ∧ Same h h'
    by_cases v : orr (dgt (pc t) (pc t) k) (pc t) = 2 ^ pc t - 1
    · have hρ : ∀ k', k' < pc t → dgt (pc t) (pc t) k k' < pc t ∧ rn t (pc t) (pc t) k k' = mb t (dgt (pc t) (pc t) k k') := fun k' hk' => ⟨dgt_b (by omega), by unfold rn; rw [if_pos hk']⟩
      obtain ⟨h2, e2, u2⟩ := pe_wrapped ht hN hρ M1 a1
      have s2 : Same h1 h2 := fun o j q => u2 o j (by unfold scr at q; omega)
      have M2 : MI N t h2 := ⟨(u2 55 37 (by omega)).trans M1.1, fun j hj => (u2 76 j (by omega)).trans (M1.2.1 j hj), s2.rdM M1.2.2⟩
      have wl := (uwl_p (N := N) (r := rn t (pc t) (pc t) k) hN.1.2.2 (pc t)).2.1
      obtain ⟨W, eW⟩ : ∃ W, W = (uwl N (rn t (pc t) (pc t) k) (pc t)).2 := ⟨_, rfl⟩
      rw [← eW] at e2 wl
      simp only [if_pos v, show ¬ ((1 : Int32) = 0) by decide, if_false]
      rw [e2, Option.bind_some]
      unfold fX10_usedUp_55_b72
      have fe : fU N t (pc t) k st = lfst W (rn t (pc t) (pc t) k) st := by unfold fU; rw [if_pos v, eW]
      by_cases c : ∃ A R, st = some (A, R) ∧ ¬ A < W
      · obtain ⟨A, R, rfl, hA⟩ := c
        have e3 : fU N t (pc t) k (some (A, R)) = some (A, R) := by rw [fe]; simp only [lfst]; rw [if_neg hA]
        rw [e3] at hS' ⊢
        have B2 : RB t h2 (some (A, R)) := fun w R e => ⟨(B1 w R e).1, fun k hk => by
          obtain ⟨d, d1, d2, d3⟩ := (B1 w R e).2 k hk
          exact ⟨d, d1, (u2 78 k (by omega)).trans d2, d3⟩⟩
        obtain ⟨h', e', s'⟩ := pe_nl (z := z) ht hN n (k + 1) fuel h2 (some (A, R)) (by omega) (by omega) M2 B2 hS'
        refine ⟨h', ?_, (s1.tr s2).tr s'⟩
        rw [if_neg (show ¬ ev (some (A, R)) < nI W from nI_nlt (by omega) (by have := (B A R rfl).1; omega))]
        unfold fX10_usedUp_55_b117
        rw [nI_1]; exact e'
      · have e3 : fU N t (pc t) k st = some (W, rn t (pc t) (pc t) k) := by
          rw [fe]
          cases st with
          | none => rfl
          | some y =>
            obtain ⟨A, R⟩ := y
            simp only [lfst]
            rw [if_pos]
            by_cases q : A < W
            · exact q
            · exact absurd ⟨A, R, rfl, q⟩ c
        have lt : ev st < nI W := by
          cases st with
          | none =>
            show (-1 : Int32) < nI W
            rw [pz_lt, nI_toInt (by omega)]
            have : (-1 : Int32).toInt = -1 := rfl
            omega
          | some y =>
            obtain ⟨A, R⟩ := y
            refine nI_lt (b := W) ?_ (by omega)
            by_cases q : A < W
            · exact q
            · exact absurd ⟨A, R, rfl, q⟩ c
        rw [e3] at hS' ⊢
        have cp := pe_cp78 hm (fX10_usedUp_55_b49 fuel) z (nI (pc t ^ pc t)) (nI W) (nI k) h2 M2.1 (pc t) 0 mv_F (by omega) (by rw [mv_F_eq]; omega)
        rw [cpA_0] at cp
        have s3 : Same h2 (cpA h2 78 77 (pc t)) := fun o j q => by
          unfold cpA
          rw [if_neg (by unfold scr at q; omega)]
        have M3 : MI N t (cpA h2 78 77 (pc t)) := ⟨by unfold cpA; rw [if_neg (by omega)]; exact M2.1, fun j hj => by unfold cpA; rw [if_neg (by omega)]; exact M2.2.1 j hj, s3.rdM M2.2.2⟩
        have B3 : RB t (cpA h2 78 77 (pc t)) (some (W, rn t (pc t) (pc t) k)) := fun w R e => by
          cases e
          refine ⟨by omega, fun k' hk' => ⟨dgt (pc t) (pc t) k k', (hρ k' hk').1, ?_, (hρ k' hk').2⟩⟩
          unfold cpA
          rw [if_pos ⟨rfl, hk'⟩, u2 77 k' (by omega)]; exact a1 k' hk'
        obtain ⟨h', e', s'⟩ := pe_nl (z := z) ht hN n (k + 1) fuel (cpA h2 78 77 (pc t)) (some (W, rn t (pc t) (pc t) k)) (by omega) (by omega) M3 B3 hS'
        refine ⟨h', ?_, ((s1.tr s2).tr s3).tr s'⟩
        rw [if_pos lt]
        rw [pz_lit.1, nI_1] at cp
        rw [cp]; exact e'
    · have e3 : fU N t (pc t) k st = st := by unfold fU; rw [if_neg v]
      rw [e3] at hS' ⊢
      obtain ⟨h', e', s'⟩ := pe_nl (z := z) ht hN n (k + 1) fuel h1 st (by omega) (by omega) M1 B1 hS'
      refine ⟨h', ?_, s1.tr s'⟩
      simp only [if_neg v, if_true]
      unfold fX10_usedUp_55_b72 fX10_usedUp_55_b117
      have nl : ¬ ev st < -1 := by
        have m1 : (-1 : Int32).toInt = -1 := rfl
        cases st with
        | none => show ¬ (-1 : Int32) < -1; decide
        | some y =>
          obtain ⟨A, R⟩ := y
          show ¬ nI A < -1
          rw [pz_lt, nI_toInt (by have := (B A R rfl).1; omega)]
          omega
      rw [if_neg nl, nI_1]; exact e'
theorem pe_al {m : Nat} {z : Int32} (hm : m ≤ 6) {h : mv_H} (h37 : h 55 37 = nI m) : ∀ (n c fuel : Nat), n + c = m → n < fuel → fX10_usedUp_55_b21 fuel z (nI (m ^ c)) (nI c) h = fX10_usedUp_55_b49 mv_F z (nI (m ^ m)) (-1) 0 h
  | n, c, 0, _, hf => absurd hf (by omega)
  | 0, c, fuel + 1, hn, _ => by
    rw [show c = m by omega, fX10_usedUp_55_b21, h37, if_neg (nI_nlt (Nat.le_refl _) (by omega))]
  | n + 1, c, fuel + 1, hn, hf => by
    rw [fX10_usedUp_55_b21, h37, if_pos (nI_lt (by omega) (by omega))]
    simp only [mv_let]
    rw [pk_mul, ← Nat.pow_succ, nI_1]
    exact pe_al hm h37 n (c + 1) fuel (by omega) (by omega)
set_option maxRecDepth 10000 in
theorem st_usedUp (p0 p1 : Int32) : Sim (fX9_usedUp_0 p0 p1) (fX10_usedUp_55 p0 p1) := by
  intro h H
  obtain ⟨N, hG, hM, hN⟩ := H.1
  by_cases hb : p0 &&& (nI (N 0 0) ^^^ (-1)) = 0
  · obtain ⟨t, ht, rfl, -⟩ := pz_holds hN.1.1 hb
    have hm := pc_le t
    obtain ⟨h1, e1, s1⟩ := pe_usedC (z := p1) ht hG hN
    have M1 := s1.rdM hM
    obtain ⟨h2, e2, a2, b2, c2⟩ := pe_lm ht h1
    have s2 : Same h1 h2 := fun o k q => c2 o k (by unfold scr at q; omega) (by unfold scr at q; omega)
    have MM : MI N t h2 := ⟨a2, b2, s2.rdM M1⟩
    have ea := fU_all (N := N) ht hN.1.2.2 none
    have hsm := DF_made (N := N) (pc t) t (N 0 2) 0 (fun _ => 0) 0 none ht rfl
    obtain ⟨h3, e3, s3⟩ := pe_nl (z := p1) ht hN (pc t ^ pc t) 0 mv_F h2 none (by omega) (by have := (pz_mm _ hm).1; rw [mv_F_eq]; omega) MM (fun w R e => by cases e) (by rw [ea]; exact hsm)
    rw [ea] at e3
    refine ⟨uAns (pc t) (DF N (pc t) t (N 0 2) 0 (fun _ => 0) 0 none) p1, h1, h3, ?_, ?_, ((s1.tr s2).tr s3).inv H⟩
    · unfold fX9_usedUp_0
      rw [pe_holds2 (rd_b hG).1, Option.bind_some, if_pos hb, if_neg (by decide)]
      exact e1
    · unfold fX10_usedUp_55
      rw [pe_areBoxes hN.1.1 (rd_mb M1).1, Option.bind_some, if_pos hb, if_neg (by decide), e2, Option.bind_some]
      have al := pe_al (z := p1) hm a2 (pc t) 0 mv_F (by omega) (by rw [mv_F_eq]; omega)
      rw [Nat.pow_zero, pz_lit.1, pz_lit.2.1] at al
      rw [al]
      exact e3
  · refine ⟨-2, h, h, ?_, ?_, H⟩
    · unfold fX9_usedUp_0
      rw [pe_holds2 (rd_b hG).1, Option.bind_some, if_neg hb, if_pos (by decide)]
    · unfold fX10_usedUp_55
      rw [pe_areBoxes hN.1.1 (rd_mb hM).1, Option.bind_some, if_neg hb, if_pos (by decide)]
