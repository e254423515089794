/-! paired: the reference's side, and both -/
def pvv (N : Nat → Nat → Nat) (x b : Nat) : Int32 := if ((N 0 1).testBit x && roomB N x b) = true then nI (sPap N b) else -6
theorem pe_mtk {h : mv_H} {N : Nat → Nat → Nat} (hM : rdM h N) (hN : okN N) {k : Nat} (hk : k < 6) : fX10_isThing_55 (nI k) h = some (if (N 0 1).testBit k = true then 1 else 0) := by
  rw [pe_isThing, (rd_mb hM).2.1]
  exact congrArg some (pz_if (by rw [(pz_i6 k hk).2.2, pz_bit _ hN.1.2.1 k hk]; exact ⟨fun q => q.2, fun q => ⟨by omega, q⟩⟩))
theorem pe_fpIn {N : Nat → Nat → Nat} {x : Nat} (hN : okN N) (hx : x < 6) (K : Int32 → mv_H → Option (mv_H)) : ∀ (n b fuel : Nat) (h : mv_H), n + b = 6 → n < fuel → rdM h N → (∀ y b', b' < 6 → (y < x ∨ (y = x ∧ b' < b)) → h 80 (6 * y + b') = pvv N y b') → ∃ h', fX10_findPairs_55_b10 K fuel (nI x) (nI b) h = K (nI (x + 1)) h' ∧ Same h h' ∧ (∀ y b', b' < 6 → y < x + 1 → h' 80 (6 * y + b') = pvv N y b')
  | n, b, 0, h, _, hf, _, _ => absurd hf (by omega)
  | 0, b, fuel + 1, h, hn, _, hM, h80 => by
    refine ⟨h, ?_, Same.rf h, fun y b' h1 h2 => h80 y b' h1 (by omega)⟩
    rw [show b = 6 by omega, fX10_findPairs_55_b10, if_neg (by decide), nI_1]
  | n + 1, b, fuel + 1, h, hn, hf, hM, h80 => by
    have hb : b < 6 := by omega
    obtain ⟨j1, j2⟩ := pz_in (n := 6 * x + b) (M := 36) (by omega) (by decide)
    have ei : (6 : Int32) * nI x + nI b = nI (6 * x + b) := by rw [show (6 : Int32) = nI 6 from rfl, pk_mul, nI_add]
    have go : ∀ g : mv_H, Same h g → (∀ k, g 80 k = h 80 k) → ∃ h', fX10_findPairs_55_b71 K (fX10_findPairs_55_b10 K fuel) (nI x) (nI b) (pvv N x b) ((6 * nI x) + nI b) g = K (nI (x + 1)) h' ∧ Same h h' ∧ (∀ y b', b' < 6 → y < x + 1 → h' 80 (6 * y + b') = pvv N y b') := by
      intro g sg g80
      have s2 : Same g (mv_u g 80 (6 * x + b) (pvv N x b)) := Same.u (by unfold scr; omega)
      obtain ⟨h', e', s', p'⟩ := pe_fpIn hN hx K n (b + 1) fuel (mv_u g 80 (6 * x + b) (pvv N x b)) (by omega) (by omega) ((sg.tr s2).rdM hM) (fun y b' h1 h2 => by
        rw [mv_u_at]
        by_cases z : y = x ∧ b' = b
        · rw [if_pos ⟨rfl, by omega⟩, z.1, z.2]
        · rw [if_neg (by omega), g80]; exact h80 y b' h1 (by omega))
      refine ⟨h', ?_, (sg.tr s2).tr s', p'⟩
      unfold fX10_findPairs_55_b71
      rw [ei, if_pos j1, j2]
      simp only [mv_let]
      rw [nI_1]; exact e'
    rw [fX10_findPairs_55_b10, if_pos (pz_l6 hb), pe_mtk hM hN hx, Option.bind_some, pe_mbk hM hN hb, Option.bind_some]
    simp only [pz_i0, fX10_findPairs_55_b45, fX10_findPairs_55_b46]
    by_cases q1 : (N 0 1).testBit x = true
    · rw [if_neg (fun z => z q1)]
      by_cases q2 : (N 0 0).testBit b = true
      · rw [if_neg (fun z => z q2)]
        obtain ⟨h1, e1, u1⟩ := pe_mfits2 hM hN hx hb
        have s1 : Same h h1 := fun o j w => u1 o j (by unfold scr at w; omega)
        rw [e1, Option.bind_some]
        simp only [pz_i0]
        by_cases q3 : sFit N x b = true
        · obtain ⟨h2, e2, u2⟩ := pe_mlp2 (s1.rdM hM) hN hb
          have s2 : Same h1 h2 := fun o j w => u2 o j (by unfold scr at w; omega)
          obtain ⟨h', e', r'⟩ := go h2 (s1.tr s2) (fun k => by rw [u2 80 k (by omega), u1 80 k (by decide)])
          refine ⟨h', ?_, r'⟩
          have ev : pvv N x b = nI (sPap N b) := by unfold pvv roomB; rw [q1, q2, q3]; rfl
          rw [ev] at e'
          rw [if_neg (fun z => z q3), if_neg (by decide), e2, Option.bind_some]; exact e'
        · obtain ⟨h', e', r'⟩ := go h1 s1 (fun k => u1 80 k (by decide))
          refine ⟨h', ?_, r'⟩
          have q3' : sFit N x b = false := by simpa using q3
          have ev : pvv N x b = -6 := by unfold pvv roomB; rw [q1, q2, q3']; rfl
          rw [ev] at e'
          rw [if_pos q3]; exact e'
      · obtain ⟨h', e', r'⟩ := go h (Same.rf h) (fun k => rfl)
        refine ⟨h', ?_, r'⟩
        have q2' : (N 0 0).testBit b = false := by simpa using q2
        have ev : pvv N x b = -6 := by unfold pvv roomB; rw [q1, q2']; rfl
        rw [ev] at e'
        rw [if_pos q2]; exact e'
    · obtain ⟨h', e', r'⟩ := go h (Same.rf h) (fun k => rfl)
      refine ⟨h', ?_, r'⟩
      have q1' : (N 0 1).testBit x = false := by simpa using q1
      have ev : pvv N x b = -6 := by unfold pvv; rw [q1']; rfl
      rw [ev] at e'
      rw [if_pos q1]; exact e'
theorem pe_fpOut {N : Nat → Nat → Nat} (hN : okN N) : ∀ (n x fuel : Nat) (h : mv_H), n + x = 6 → n < fuel → rdM h N → (∀ y b', b' < 6 → y < x → h 80 (6 * y + b') = pvv N y b') → ∃ h', fX10_findPairs_55_b2 fuel (nI x) h = some h' ∧ Same h h' ∧ (∀ y b', b' < 6 → y < 6 → h' 80 (6 * y + b') = pvv N y b')
  | n, x, 0, h, _, hf, _, _ => absurd hf (by omega)
  | 0, x, fuel + 1, h, hn, _, hM, h80 => by
    refine ⟨h, ?_, Same.rf h, fun y b' h1 h2 => h80 y b' h1 (by omega)⟩
    rw [show x = 6 by omega, fX10_findPairs_55_b2, if_neg (by decide)]
  | n + 1, x, fuel + 1, h, hn, hf, hM, h80 => by
    obtain ⟨h1, e1, s1, p1⟩ := pe_fpIn hN (show x < 6 by omega) (fX10_findPairs_55_b2 fuel) 6 0 mv_F h rfl (by rw [mv_F_eq]; decide) hM (fun y b' h1 h2 => h80 y b' h1 (by omega))
    obtain ⟨h', e', s', p'⟩ := pe_fpOut hN n (x + 1) fuel h1 (by omega) (by omega) (s1.rdM hM) p1
    refine ⟨h', ?_, s1.tr s', p'⟩
    rw [fX10_findPairs_55_b2, if_pos (pz_l6 (by omega)), ← pz_lit.1, e1, e']
def PM (N : Nat → Nat → Nat) (t : Nat) (h : mv_H) : Prop := h 55 37 = nI (pc t) ∧ (∀ j, j < pc t → h 76 j = nI (mb t j)) ∧ (∀ y b', b' < 6 → y < 6 → h 80 (6 * y + b') = pvv N y b')
theorem PM.cong {N : Nat → Nat → Nat} {t : Nat} {h h' : mv_H} (M : PM N t h) (u : ∀ o k, o ≠ 77 → o ≠ 78 → h' o k = h o k) : PM N t h' :=
  ⟨(u 55 37 (by decide) (by decide)).trans M.1, fun j hj => (u 76 j (by decide) (by decide)).trans (M.2.1 j hj), fun y b' h1 h2 => (u 80 _ (by decide) (by decide)).trans (M.2.2 y b' h1 h2)⟩
theorem pz_bit0 : ∀ n, n < 64 → ∀ i, i < 6 → (((nI n >>> (nI i &&& 31)) &&& 1 = 0) ↔ n.testBit i = false) := by decide +kernel
def penc (o : Option Nat) : Int32 := match o with
  | none => -6
  | some s => nI s
theorem pe_pr {N : Nat → Nat → Nat} {t a : Nat} (ht : t < 64) (hN : okN N) (hs : ∀ x, x < 6 → t.testBit x = true → (N 0 1).testBit x = true) (ha : a < 2 ^ 31) : ∀ (c fuel : Nat) (z : Bool) (X S : Nat) (v4 : Int32) (h : mv_H), c ≤ pc t → c < fuel → X < 64 → (z = true → v4 = nI S) → PM N t h → (∀ k, c ≤ k → k < pc t → h 77 k = nI (dgt 6 (pc t) a k)) → ∃ h', fX10_paperOfRow_55_b18 fuel (nI (a / 6 ^ (pc t - c))) (nI X) v4 (if z = true then 1 else 0) (nI c - 1) h = some (penc (bk N t (dgt 6 (pc t) a) c z X S), h') ∧ (∀ k, k < pc t → h' 77 k = nI (dgt 6 (pc t) a k)) ∧ (∀ o k, o ≠ 77 → h' o k = h o k)
  | c, 0, z, X, S, v4, h, _, hf, _, _, _, _ => absurd hf (by omega)
  | 0, fuel + 1, z, X, S, v4, h, hc, hf, hX, hv, M, h77 => by
    refine ⟨h, ?_, fun k hk => h77 k (by omega) hk, fun _ _ _ => rfl⟩
    rw [fX10_paperOfRow_55_b18, if_pos (by decide)]
    cases z with
    | false => simp [bk, penc]
    | true => rw [hv rfl]; simp [bk, penc]
  | c + 1, fuel + 1, z, X, S, v4, h, hc, hf, hX, hv, M, h77 => by
    have hm := pc_le t
    obtain ⟨d, ed⟩ : ∃ d, d = dgt 6 (pc t) a c := ⟨_, rfl⟩
    have hd : d < 6 := ed ▸ dgt_b (by decide)
    obtain ⟨i1, i2, -⟩ := pz_i6 c (by omega)
    obtain ⟨b1, b2⟩ := mb_p t ht c (by omega) (by omega)
    obtain ⟨x, ex⟩ : ∃ x, x = mb t c := ⟨_, rfl⟩
    rw [← ex] at b1 b2
    obtain ⟨L, eL⟩ : ∃ L, L = a / 6 ^ (pc t - (c + 1)) := ⟨_, rfl⟩
    have hL : L < 2 ^ 31 := by rw [eL]; exact Nat.lt_of_le_of_lt (Nat.div_le_self _ _) ha
    have eLd : L % 6 = d := by rw [eL, ed]; unfold dgt; rw [show pc t - (c + 1) = pc t - 1 - c by omega]
    have eLq : L / 6 = a / 6 ^ (pc t - c) := by
      rw [eL, Nat.div_div_eq_div_mul, ← Nat.pow_succ, show (pc t - (c + 1)).succ = pc t - c by omega]
    have r6 : nI L - nI L / 6 * 6 = nI d := by rw [← eLd]; exact pk_rem (d := 6) hL (by decide) (by decide)
    have q6 : nI L / 6 = nI (a / 6 ^ (pc t - c)) := by rw [← eLq]; exact pk_div (d := 6) hL (by decide) (by decide)
    obtain ⟨g, eg⟩ : ∃ g, g = mv_u h 77 c (nI d) := ⟨_, rfl⟩
    have ug : ∀ o k, o ≠ 77 → g o k = h o k := fun o k q => by rw [eg, mv_u_at, if_neg (fun z => q z.1)]
    have Mg : PM N t g := M.cong (fun o k q _ => ug o k q)
    have g77 : g 77 c = nI d := by rw [eg, mv_u_at, if_pos ⟨rfl, rfl⟩]
    have g76 : g 76 c = nI x := by rw [ex]; exact Mg.2.1 c (by omega)
    obtain ⟨j1, j2⟩ := pz_in (n := 6 * x + d) (M := 36) (by omega) (by decide)
    have ei : (6 : Int32) * nI x + nI d = nI (6 * x + d) := by rw [show (6 : Int32) = nI 6 from rfl, pk_mul, nI_add]
    have ho := pz_or X hX d hd
    have pl := sPap_le hN hd
    have go : ∀ (z' : Bool) (v : Int32), (z' = true → v4 + v = nI (S + sPap N d)) → ∃ h', fX10_paperOfRow_55_b93 (fX10_paperOfRow_55_b18 fuel) (nI (a / 6 ^ (pc t - c))) (nI X) v4 (nI c) v (if z' = true then 1 else 0) g = some (penc (bk N t (dgt 6 (pc t) a) c z' (X ||| 2 ^ d) (S + sPap N d)), h') ∧ (∀ k, k < pc t → h' 77 k = nI (dgt 6 (pc t) a k)) ∧ (∀ o k, o ≠ 77 → h' o k = h o k) := by
      intro z' v hv'
      obtain ⟨h', e', a', b'⟩ := pe_pr ht hN hs ha c fuel z' (X ||| 2 ^ d) (S + sPap N d) (v4 + v) g (by omega) (by omega) ho.2 hv' Mg (fun k h1 h2 => by
        rw [eg, mv_u_at]
        by_cases y : k = c
        · rw [if_pos ⟨rfl, y⟩, y, ed]
        · rw [if_neg (fun w => y w.2)]; exact h77 k (by omega) h2)
      refine ⟨h', ?_, a', fun o k q => by rw [b' o k q, ug o k q]⟩
      unfold fX10_paperOfRow_55_b93
      rw [if_pos i1, i2, g77, ho.1]
      simp only [mv_let]
      rw [pz_dec c (by omega)]; exact e'
    have eb : bk N t (dgt 6 (pc t) a) (c + 1) z X S = bk N t (dgt 6 (pc t) a) c (z && roomB N x d && !X.testBit d) (X ||| 2 ^ d) (S + sPap N d) := by
      rw [ex, ed]; rfl
    rw [eb]
    rw [fX10_paperOfRow_55_b18, nI_pred, if_neg (nI_pos (by omega)), if_pos i1, ← eL, r6, q6]
    simp only [mv_let, i2, ← eg]
    rw [if_pos i1, if_pos i1, g76, g77, ei, if_pos j1, j2, Mg.2.2 x d hd b1]
    unfold fX10_paperOfRow_55_b92
    rw [if_pos i1]
    simp only [pz_bit0 X hX d hd, pz_i0]
    have pv : pvv N x d = if roomB N x d = true then nI (sPap N d) else -6 := by unfold pvv; rw [hs x b1 b2, Bool.true_and]
    cases z with
    | false =>
      have := go false (pvv N x d) (fun w => by cases w)
      simpa using this
    | true =>
      by_cases q1 : roomB N x d = true
      · rw [pv, if_pos q1]
        have n0 : ¬ nI (sPap N d) < 0 := nI_pos (by omega)
        by_cases q2 : X.testBit d = false
        · have := go true (nI (sPap N d)) (fun _ => by rw [hv rfl, nI_add])
          simpa [q1, q2, n0] using this
        · have q2' : X.testBit d = true := by simpa using q2
          have := go false (nI (sPap N d)) (fun w => by cases w)
          simpa [q1, q2', n0] using this
      · rw [pv, if_neg q1]
        have := go false (-6) (fun w => by cases w)
        simpa [q1] using this
theorem pe_por {N : Nat → Nat → Nat} {t a : Nat} (ht : t < 64) (hN : okN N) (hs : ∀ x, x < 6 → t.testBit x = true → (N 0 1).testBit x = true) (ha : a < 2 ^ 31) {h : mv_H} (M : PM N t h) : ∃ h', fX10_paperOfRow_55 (nI a) h = some (penc (bk N t (dgt 6 (pc t) a) (pc t) true 0 0), h') ∧ (∀ k, k < pc t → h' 77 k = nI (dgt 6 (pc t) a k)) ∧ (∀ o k, o ≠ 77 → h' o k = h o k) := by
  have hm := pc_le t
  obtain ⟨h', e, x, y⟩ := pe_pr ht hN hs ha (pc t) mv_F true 0 0 0 h (Nat.le_refl _) (by rw [mv_F_eq]; omega) (by decide) (fun _ => rfl) M (fun k h1 h2 => absurd h2 (by omega))
  refine ⟨h', ?_, x, y⟩
  unfold fX10_paperOfRow_55
  simp only [mv_let]
  rw [Nat.sub_self, Nat.pow_zero, Nat.div_one, pz_lit.1, if_pos rfl] at e
  rw [M.1]; exact e
theorem pe_cp78p {m : Nat} (hm : m ≤ 6) (K : Int32 → Int32 → Int32 → Int32 → mv_H → Option (Int32 × mv_H)) (v2 v3 v4 v5 : Int32) (h : mv_H) (h37 : h 55 37 = nI m) : ∀ (n k fuel : Nat), n + k = m → n < fuel → fX10_paired_55_b122 K fuel v2 v3 v4 v5 (nI k) (cpA h 78 77 k) = K v2 v3 v4 (v5 + 1) (cpA h 78 77 m)
  | n, k, 0, _, hf => absurd hf (by omega)
  | 0, k, fuel + 1, hn, _ => by
    rw [show k = m by omega, fX10_paired_55_b122, show cpA h 78 77 m 55 37 = nI m from by unfold cpA; rw [if_neg (by omega)]; exact h37, if_neg (nI_nlt (Nat.le_refl _) (by omega))]; rfl
  | n + 1, k, fuel + 1, hn, hf => by
    obtain ⟨i1, i2, -⟩ := pz_i6 k (by omega)
    rw [fX10_paired_55_b122, show cpA h 78 77 k 55 37 = nI m from by unfold cpA; rw [if_neg (by omega)]; exact h37, if_pos (nI_lt (by omega) (by omega)), if_pos i1, if_pos i1, i2]
    simp only [mv_let]
    rw [cpA_s (by decide), nI_1]
    exact pe_cp78p hm K v2 v3 v4 v5 h h37 n (k + 1) fuel (by omega) (by omega)
def pev (st : St) : Int32 := match st with
  | none => 1000000000
  | some (w, _) => nI w
def RBp (t : Nat) (h : mv_H) (st : St) : Prop := ∀ w R, st = some (w, R) → w ≤ 40000 ∧ ∀ k, k < pc t → h 78 k = nI (R (mb t k))
theorem pe_find {t k0 : Nat} {h : mv_H} (ht : t < 64) (hk : k0 < pc t) (h76 : ∀ j, j < pc t → h 76 j = nI (mb t j)) : ∀ (n k fuel : Nat), n + k = k0 → n < fuel → fX10_paired_55_b187 fuel (nI (mb t k0)) (nI k) h = some (h 78 k0, h)
  | n, k, 0, _, hf => absurd hf (by omega)
  | 0, k, fuel + 1, hn, _ => by
    have hm := pc_le t
    obtain ⟨i1, i2, -⟩ := pz_i6 k0 (by omega)
    rw [show k = k0 by omega, fX10_paired_55_b187, if_pos i1, if_pos i1, i2, h76 k0 hk, if_pos rfl]
  | n + 1, k, fuel + 1, hn, hf => by
    have hm := pc_le t
    obtain ⟨i1, i2, -⟩ := pz_i6 k (by omega)
    rw [fX10_paired_55_b187, if_pos i1, if_pos i1, i2, h76 k (by omega), if_neg (fun z => by
      have m1 := (mb_p t ht k (by omega) (by omega)).1
      have m2 := (mb_p t ht k0 (by omega) hk).1
      have := mb_inj ht (by omega) hk ((nI_eq (by omega) (by omega)).mp z)
      omega), nI_1]
    exact pe_find ht hk h76 n (k + 1) fuel (by omega) (by omega)
theorem mb_sur : ∀ t, t < 64 → ∀ x, x < 6 → t.testBit x = true → ∃ k, k < 6 ∧ k < pc t ∧ mb t k = x := by decide +kernel
theorem sm_le {N : Nat → Nat → Nat} (hN : okN N) {D : Nat → Nat} (hD : ∀ k, D k < 6) : ∀ c, sm N D c ≤ 5162 * c
  | 0 => Nat.le_refl _
  | c + 1 => by
    have := sm_le hN hD c
    have := sPap_le hN (hD c)
    show sm N D c + sPap N (D c) ≤ _
    omega
theorem pe_pl {N : Nat → Nat → Nat} {t : Nat} {z : Int32} (ht : t < 64) (hN : okN N) (hs : ∀ x, x < 6 → t.testBit x = true → (N 0 1).testBit x = true) (hz : z = -1 ∨ ∃ x, x < 6 ∧ z = nI x ∧ t.testBit x = true) : ∀ (n k fuel : Nat) (h : mv_H) (st : St), n + k = 6 ^ pc t → n < fuel → PM N t h → RBp t h st → ∃ h', fX10_paired_55_b89 fuel z (nI (6 ^ pc t)) (pev st) (nI k) h = some (pAns (fo (fP N t (pc t)) n k st) z, h') ∧ (∀ o k, o ≠ 77 → o ≠ 78 → h' o k = h o k)
  | n, k, 0, h, st, _, hf, _, _ => absurd hf (by omega)
  | 0, k, fuel + 1, h, st, hn, _, M, B => by
    have hm := pc_le t
    have hmm := (pz_mm (pc t) hm).2
    refine ⟨h, ?_, fun _ _ _ _ => rfl⟩
    rw [fX10_paired_55_b89, show k = 6 ^ pc t by omega, if_neg (nI_nlt (Nat.le_refl _) (by omega))]
    unfold fX10_paired_55_b169
    cases st with
    | none =>
      show (if (1000000000 : Int32) = 1000000000 then if (1000000000 : Int32) = 1000000000 then some (-6, h) else _ else _) = some (-6, h)
      rw [if_pos rfl, if_pos rfl]
    | some y =>
      obtain ⟨w, R⟩ := y
      obtain ⟨w6, BR⟩ := B w R rfl
      have nw : ¬ nI w = 1000000000 := fun q => by
        have := (nI_eq (a := w) (b := 1000000000) (by omega) (by decide)).mp q
        omega
      show (if nI w = 1000000000 then _ else if z = -1 then (if nI w = 1000000000 then some (-6, h) else some (nI w, h)) else _) = some (if z = -1 then nI w else nI (R z.toNatClampNeg), h)
      rw [if_neg nw, if_neg nw]
      by_cases q : z = -1
      · rw [if_pos q, if_pos q]
      · rw [if_neg q, if_neg q]
        rcases hz with hz | ⟨x, hx, rfl, hxt⟩
        · exact absurd hz q
        · obtain ⟨k0, k1, k2, k3⟩ := mb_sur t ht x hx hxt
          have := pe_find ht k2 M.2.1 k0 0 mv_F (by omega) (by rw [mv_F_eq]; omega)
          rw [k3, pz_lit.1] at this
          rw [this, BR k0 k2, k3, (pz_i6 x hx).2.1]
  | n + 1, k, fuel + 1, h, st, hn, hf, M, B => by
    have hm := pc_le t
    have hmm := (pz_mm (pc t) hm).2
    obtain ⟨h1, e1, a1, b1⟩ := pe_por ht hN hs (show k < 2 ^ 31 by omega) M
    have M1 := M.cong (h' := h1) (fun o j q _ => b1 o j q)
    have B1 : RBp t h1 st := fun w R e => ⟨(B w R e).1, fun k hk => (b1 78 k (by decide)).trans ((B w R e).2 k hk)⟩
    rw [fX10_paired_55_b89, if_pos (nI_lt (by omega) (by omega)), e1, Option.bind_some]
    show ∃ h', _ = some (pAns (fo (fP N t (pc t)) n (k + 1) (fP N t (pc t) k st)) z, h') ∧ _
    cases hbk : bk N t (dgt 6 (pc t) k) (pc t) true 0 0 with
    | none =>
      have e3 : fP N t (pc t) k st = st := by unfold fP; rw [hbk]
      rw [e3]
      obtain ⟨h', e', u'⟩ := pe_pl (z := z) ht hN hs hz n (k + 1) fuel h1 st (by omega) (by omega) M1 B1
      refine ⟨h', ?_, fun o j q1 q2 => by rw [u' o j q1 q2, b1 o j q1]⟩
      show (if (-6 : Int32) < 0 then _ else _) = _
      rw [if_pos (by decide)]
      unfold fX10_paired_55_b151
      rw [nI_1]; exact e'
    | some S =>
      have hS : S ≤ 40000 := by
        rw [bk_eq (pc t) true 0 0 (by decide) (fun j _ => dgt_b (by decide))] at hbk
        split at hbk
        · cases hbk
          have h5 : sm N (dgt 6 (pc t) k) (pc t) ≤ 5162 * pc t := sm_le hN (fun j => dgt_b (by decide)) (pc t)
          show 0 + sm N (dgt 6 (pc t) k) (pc t) ≤ 40000
          omega
        · cases hbk
      have fe : fP N t (pc t) k st = plf S (rq t (dgt 6 (pc t) k) (pc t)) st := by unfold fP; rw [hbk]
      show ∃ h', (if nI S < 0 then _ else if nI S < pev st then _ else _) = _ ∧ _
      rw [if_neg (nI_pos (by omega))]
      by_cases c : ∃ A R, st = some (A, R) ∧ ¬ S < A
      · obtain ⟨A, R, rfl, hA⟩ := c
        have e3 : fP N t (pc t) k (some (A, R)) = some (A, R) := by rw [fe]; simp only [plf]; rw [if_neg hA]
        rw [e3]
        obtain ⟨h', e', u'⟩ := pe_pl (z := z) ht hN hs hz n (k + 1) fuel h1 (some (A, R)) (by omega) (by omega) M1 B1
        refine ⟨h', ?_, fun o j q1 q2 => by rw [u' o j q1 q2, b1 o j q1]⟩
        rw [if_neg (show ¬ nI S < pev (some (A, R)) from nI_nlt (by omega) (by omega))]
        unfold fX10_paired_55_b151
        rw [nI_1]; exact e'
      · have e3 : fP N t (pc t) k st = some (S, rq t (dgt 6 (pc t) k) (pc t)) := by
          rw [fe]
          cases st with
          | none => rfl
          | some y =>
            obtain ⟨A, R⟩ := y
            simp only [plf]
            rw [if_pos]
            by_cases q : S < A
            · exact q
            · exact absurd ⟨A, R, rfl, q⟩ c
        have lt : nI S < pev st := by
          cases st with
          | none => exact nI_lt (b := 1000000000) (by omega) (by decide)
          | some y =>
            obtain ⟨A, R⟩ := y
            refine nI_lt (b := A) ?_ (by have := (B A R rfl).1; omega)
            by_cases q : S < A
            · exact q
            · exact absurd ⟨A, R, rfl, q⟩ c
        rw [e3]
        have cp := pe_cp78p hm (fX10_paired_55_b89 fuel) z (nI (6 ^ pc t)) (nI S) (nI k) h1 M1.1 (pc t) 0 mv_F (by omega) (by rw [mv_F_eq]; omega)
        rw [cpA_0] at cp
        have u3 : ∀ o j, o ≠ 78 → cpA h1 78 77 (pc t) o j = h1 o j := fun o j q => by
          unfold cpA
          rw [if_neg (fun w => q w.1)]
        have M3 : PM N t (cpA h1 78 77 (pc t)) := M1.cong (fun o j _ q => u3 o j q)
        have B3 : RBp t (cpA h1 78 77 (pc t)) (some (S, rq t (dgt 6 (pc t) k) (pc t))) := fun w R e => by
          cases e
          refine ⟨hS, fun k' hk' => ?_⟩
          unfold cpA
          rw [if_pos ⟨rfl, hk'⟩, a1 k' hk', rq_at ht (pc t) k' (Nat.le_refl _) hk']
        obtain ⟨h', e', u'⟩ := pe_pl (z := z) ht hN hs hz n (k + 1) fuel (cpA h1 78 77 (pc t)) (some (S, rq t (dgt 6 (pc t) k) (pc t))) (by omega) (by omega) M3 B3
        refine ⟨h', ?_, fun o j q1 q2 => by rw [u' o j q1 q2, u3 o j q2, b1 o j q1]⟩
        rw [if_pos lt]
        rw [pz_lit.1, nI_1] at cp
        exact cp.trans e'
theorem pe_pal {m : Nat} {z : Int32} (hm : m ≤ 6) {h : mv_H} (h37 : h 55 37 = nI m) : ∀ (n c fuel : Nat), n + c = m → n < fuel → fX10_paired_55_b62 fuel z (nI (6 ^ c)) (nI c) h = fX10_paired_55_b89 mv_F z (nI (6 ^ m)) 1000000000 0 h
  | n, c, 0, _, hf => absurd hf (by omega)
  | 0, c, fuel + 1, hn, _ => by
    rw [show c = m by omega, fX10_paired_55_b62, h37, if_neg (nI_nlt (Nat.le_refl _) (by omega))]
  | n + 1, c, fuel + 1, hn, hf => by
    rw [fX10_paired_55_b62, h37, if_pos (nI_lt (by omega) (by omega))]
    simp only [mv_let]
    rw [show (6 : Int32) = nI 6 from rfl, pk_mul, ← Nat.pow_succ, nI_1]
    exact pe_pal hm h37 n (c + 1) fuel (by omega) (by omega)
theorem pe_pairM {h : mv_H} {N : Nat → Nat → Nat} {t : Nat} {z : Int32} (ht : t < 64) (hM : rdM h N) (hN : okN N) (hs : ∀ x, x < 6 → t.testBit x = true → (N 0 1).testBit x = true) (hz : z = -1 ∨ ∃ x, x < 6 ∧ z = nI x ∧ t.testBit x = true) : ∃ h', fX10_paired_55_b48 (nI t) z h = some (pAns (DP N (mems t) (N 0 0) 0 (fun _ => 0) none) z, h') ∧ Same h h' := by
  have hm := pc_le t
  obtain ⟨h1, e1, s1, p1⟩ := pe_fpOut hN 6 0 mv_F h rfl (by rw [mv_F_eq]; decide) hM (fun y b' _ hy => absurd hy (by omega))
  obtain ⟨h2, e2, a2, b2, c2⟩ := pe_lm ht h1
  have s2 : Same h1 h2 := fun o k q => c2 o k (by unfold scr at q; omega) (by unfold scr at q; omega)
  have MM : PM N t h2 := ⟨a2, b2, fun y b' h1' h2' => (c2 80 _ (by decide) (by omega)).trans (p1 y b' h1' h2')⟩
  obtain ⟨h3, e3, u3⟩ := pe_pl (z := z) ht hN hs hz (6 ^ pc t) 0 mv_F h2 none (by omega) (by have := (pz_mm _ hm).2; rw [mv_F_eq]; omega) MM (fun w R e => by cases e)
  rw [fP_all ht hN.1.1] at e3
  have s3 : Same h2 h3 := fun o k q => u3 o k (by unfold scr at q; omega) (by unfold scr at q; omega)
  refine ⟨h3, ?_, (s1.tr s2).tr s3⟩
  have fp : fX10_findPairs_55 h = some h1 := e1
  unfold fX10_paired_55_b48
  rw [fp, Option.bind_some, e2, Option.bind_some]
  have al := pe_pal (z := z) hm a2 (pc t) 0 mv_F (by omega) (by rw [mv_F_eq]; omega)
  rw [Nat.pow_zero, pz_lit.1, pz_lit.2.1] at al
  rw [al]
  exact e3
set_option maxRecDepth 10000 in
theorem st_paired (p0 p1 : Int32) : Sim (fX9_paired_0 p0 p1) (fX10_paired_55 p0 p1) := by
  intro h H
  obtain ⟨N, hG, hM, hN⟩ := H.1
  by_cases hb : p0 &&& (nI (N 0 1) ^^^ (-1)) = 0
  · obtain ⟨t, ht, rfl, hsub⟩ := pz_holds hN.1.2.1 hb
    have hs : ∀ x, x < 6 → t.testBit x = true → (N 0 1).testBit x = true := fun x _ hx => pz_subC hsub hx
    have hin : 0 ≤ (nI t).toInt ∧ (nI t).toInt ≤ 63 := by rw [nI_toInt (by omega)]; omega
    have CC : ∀ z, fX9_paired_0 (nI t) z h = if z = (-1) then fX9_paired_0_b39 (nI t) z h else (fX9_isNumber z).bind fun r972 => if r972 = 0 then some ((-1), h) else (fX9_isIn (nI t) z).bind fun r973 => if r973 = 0 then some ((-1), h) else fX9_paired_0_b39 (nI t) z h := fun z => by
      unfold fX9_paired_0
      rw [pe_holds4 (rd_b hG).2.1, Option.bind_some, if_pos hb, if_neg (by decide)]
    have MC : ∀ (g : mv_H) (_ : rdM g N) (z : Int32), fX10_paired_55 (nI t) z g = if z = (-1) then fX10_paired_55_b48 (nI t) z g else (fX10_isNumber z).bind fun r992 => if r992 = 0 then some ((-1), g) else if ((nI t >>> (z &&& 31)) &&& 1) = 0 then some ((-1), g) else fX10_paired_55_b48 (nI t) z g := fun g r z => by
      unfold fX10_paired_55
      rw [pe_in, Option.bind_some, Int32.toInt_toInt64, (rd_mb r).2.1]
      simp only [pz_64, pz_63, pz_i0]
      rw [if_neg (fun w => w hin), if_pos hb]
    have both : ∀ z, (z = -1 ∨ ∃ x, x < 6 ∧ z = nI x ∧ t.testBit x = true) → ∃ r h1 h2, fX9_paired_0_b39 (nI t) z h = some (r, h1) ∧ fX10_paired_55_b48 (nI t) z h1 = some (r, h2) ∧ Inv h2 ∧ rdM h1 N := fun z hz => by
      obtain ⟨h1, e1, s1⟩ := pe_pairC (z := z) ht hG hN hz
      obtain ⟨h2, e2, s2⟩ := pe_pairM (z := z) ht (s1.rdM hM) hN hs hz
      exact ⟨_, h1, h2, e1, e2, (s1.tr s2).inv H, s1.rdM hM⟩
    by_cases q : p1 = -1
    · obtain ⟨r, h1, h2, e1, e2, I, r1⟩ := both p1 (Or.inl q)
      exact ⟨r, h1, h2, by rw [CC, if_pos q]; exact e1, by rw [MC h1 r1, if_pos q]; exact e2, I⟩
    · by_cases q2 : 0 ≤ p1.toInt ∧ p1.toInt < 6
      · obtain ⟨x, hx, rfl⟩ := pz_six q2
        by_cases q3 : t.testBit x = true
        · obtain ⟨r, h1, h2, e1, e2, I, r1⟩ := both (nI x) (Or.inr ⟨x, hx, rfl, q3⟩)
          refine ⟨r, h1, h2, ?_, ?_, I⟩
          · rw [CC, if_neg q, pe_isNumber, Option.bind_some, if_neg (by rw [pz_i0]; exact fun w => w q2), pz_isIn ht hx, Option.bind_some, if_neg (by rw [pz_i0]; exact fun w => w q3)]; exact e1
          · rw [MC h1 r1, if_neg q, pe_mNumber, Option.bind_some, if_neg (by rw [pz_i0]; exact fun w => w q2), if_neg (by rw [pz_bit0 t ht x hx, q3]; decide)]; exact e2
        · have q3' : t.testBit x = false := by simpa using q3
          refine ⟨-1, h, h, ?_, ?_, H⟩
          · rw [CC, if_neg q, pe_isNumber, Option.bind_some, if_neg (by rw [pz_i0]; exact fun w => w q2), pz_isIn ht hx, Option.bind_some, if_pos (by rw [pz_i0]; exact q3)]
          · rw [MC h hM, if_neg q, pe_mNumber, Option.bind_some, if_neg (by rw [pz_i0]; exact fun w => w q2), if_pos (by rw [pz_bit0 t ht x hx]; exact q3')]
      · refine ⟨-1, h, h, ?_, ?_, H⟩
        · rw [CC, if_neg q, pe_isNumber, Option.bind_some, if_pos (by rw [pz_i0]; exact q2)]
        · rw [MC h hM, if_neg q, pe_mNumber, Option.bind_some, if_pos (by rw [pz_i0]; exact q2)]
  · refine ⟨-2, h, h, ?_, ?_, H⟩
    · unfold fX9_paired_0
      rw [pe_holds4 (rd_b hG).2.1, Option.bind_some, if_neg hb, if_pos (by decide)]
    · unfold fX10_paired_55
      rw [pe_in, Option.bind_some, (rd_mb hM).2.1, if_neg hb]
      by_cases w : (if (0 : Int64).toInt ≤ (Int32.toInt64 p0).toInt ∧ (Int32.toInt64 p0).toInt ≤ (63 : Int64).toInt then (1 : Int32) else 0) = 0
      · rw [if_pos w]
      · rw [if_neg w]
