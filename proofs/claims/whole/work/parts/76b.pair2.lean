/-! paired: the class's side -/
def SP (h : mv_H) (t : Nat) : St → Prop
  | none => h 50 4 = -6
  | some (w, R) => h 50 4 = nI w ∧ w ≤ 40000 ∧ ∀ k, k < 6 → t.testBit k = true → h 54 k = nI (R k)
def Ep (h h' : mv_H) : Prop := ∀ o k, ¬ (o = 50 ∧ k = 4) → o ≠ 53 → o ≠ 54 → h' o k = h o k
theorem Ep.tr {a b c : mv_H} (h1 : Ep a b) (h2 : Ep b c) : Ep a c := fun o k q1 q2 q3 => (h2 o k q1 q2 q3).trans (h1 o k q1 q2 q3)
theorem Ep.same {a b : mv_H} (h1 : Ep a b) : Same a b := fun o k q => h1 o k (by unfold scr at q; omega) (by unfold scr at q; omega) (by unfold scr at q; omega)
theorem pe_kp5 (h : mv_H) : ∀ (n k m : Nat), n + k = 6 → n < m → fX5_keep_50_b7 m (nI k) (cpA h 54 53 k) = some (cpA h 54 53 6)
  | n, k, 0, _, hm => absurd hm (by omega)
  | 0, k, m + 1, hn, _ => by
    rw [show k = 6 by omega, fX5_keep_50_b7, if_neg (by decide)]
  | n + 1, k, m + 1, hn, hm => by
    obtain ⟨c1, c2, -⟩ := pz_i6 k (by omega)
    rw [fX5_keep_50_b7, if_pos (pz_l6 (by omega)), if_pos c1, if_pos c1, c2]
    simp only [mv_let]
    rw [cpA_s (by decide), nI_1]
    exact pe_kp5 h n (k + 1) m (by omega) (by omega)
theorem pe_keep5 (h : mv_H) (w : Int32) : fX5_keep_50 w h = some (cpA (mv_u h 50 4 w) 54 53 6) := by
  unfold fX5_keep_50
  simp only [mv_let]
  have := pe_kp5 (mv_u h 50 4 w) 6 0 mv_F rfl (by rw [mv_F_eq]; decide)
  rw [cpA_0] at this
  exact this
def PR (N : Nat → Nat → Nat) (t : Nat) (h : mv_H) : Prop := (∀ b, b < 6 → (N 0 0).testBit b = true → h 51 b = nI (sPap N b)) ∧ (∀ x, x < 6 → t.testBit x = true → h 52 x = nI (gb (roomB N x) 6 0 0))
theorem pe_pext {N : Nat → Nat → Nat} {t : Nat} (hN : okN N) (ht : t < 64) : ∀ (n fuel : Nat) (h : mv_H) (x L w : Nat) (r : Nat → Nat) (st : St), n < fuel → n + x = 6 → L < 64 → w ≤ 5162 * x → PR N t h → (∀ k, k < x → t.testBit k = true → h 53 k = nI (r k)) → SP h t st → ∃ h', fX5_extend_50 fuel (nI x) (nI t) (nI L) (nI w) h = some h' ∧ Ep h h' ∧ (∀ k, k < x → h' 53 k = h 53 k) ∧ SP h' t (DP N (ml t n x) L w r st)
  | n, 0, _, _, _, _, _, _, hf, _, _, _, _, _, _ => absurd hf (by omega)
  | n, fuel + 1, h, x, L, w, r, st, hf, hx, hL, hw, hP, h53, hS => by
    by_cases pr : ∃ B R, st = some (B, R) ∧ B ≤ w
    · obtain ⟨B, R, rfl, hB⟩ := pr
      obtain ⟨s1, s2, s3⟩ := hS
      refine ⟨h, ?_, fun _ _ _ _ _ => rfl, fun _ _ => rfl, ?_⟩
      · rw [fX5_extend_50, s1, if_neg (fun z => by
          have := congrArg Int32.toInt z
          rw [nI_toInt (by omega)] at this
          have e6 : (-6 : Int32).toInt = -6 := rfl
          omega), if_neg (nI_nlt hB (by omega))]
      · rw [DP_prune _ L w r B R hB]; exact ⟨s1, s2, s3⟩
    · have E : fX5_extend_50 (fuel + 1) (nI x) (nI t) (nI L) (nI w) h = fX5_extend_50_b19 (fX5_extend_50 fuel) (nI x) (nI t) (nI L) (nI w) h := by
        rw [fX5_extend_50]
        cases st with
        | none =>
          have : h 50 4 = -6 := hS
          rw [if_pos this]
        | some y =>
          obtain ⟨B, R⟩ := y
          obtain ⟨s1, s2, s3⟩ := hS
          have : w < B := by
            by_cases q : B ≤ w
            · exact absurd ⟨B, R, rfl, q⟩ pr
            · omega
          by_cases q : h 50 4 = -6
          · rw [if_pos q]
          · rw [if_neg q, s1, if_pos (nI_lt this (by omega))]
      rw [E]
      unfold fX5_extend_50_b19
      cases n with
      | zero =>
        obtain rfl : x = 6 := by omega
        rw [pe_isNumber, Option.bind_some, if_pos (by decide), pe_keep5]
        refine ⟨cpA (mv_u h 50 4 (nI w)) 54 53 6, rfl, fun o k q1 q2 q3 => ?_, fun k hk => ?_, ?_⟩
        · unfold cpA
          rw [if_neg (fun z => q3 z.1), mv_u_at, if_neg q1]
        · unfold cpA
          rw [if_neg (by omega), mv_u_at, if_neg (by omega)]
        · have e : DP N (ml t 0 6) L w r st = some (w, r) := by
            show plf w r st = some (w, r)
            cases st with
            | none => rfl
            | some y =>
              obtain ⟨B, R⟩ := y
              simp only [plf]
              rw [if_pos]
              by_cases q : B ≤ w
              · exact absurd ⟨B, R, rfl, q⟩ pr
              · omega
          rw [e]
          refine ⟨?_, by omega, fun k hk hb => ?_⟩
          · unfold cpA
            rw [if_neg (by omega), mv_u_at, if_pos ⟨rfl, rfl⟩]
          · unfold cpA
            rw [if_pos ⟨rfl, hk⟩, mv_u_at, if_neg (by omega)]
            exact h53 k hk hb
      | succ n =>
        have hx6 : x < 6 := by omega
        obtain ⟨i1, i2, i3⟩ := pz_i6 x hx6
        rw [pe_isNumber, Option.bind_some, if_neg (by rw [pz_i0, i3]; omega), pz_isIn ht hx6, Option.bind_some]
        simp only [pz_i0]
        by_cases q : t.testBit x = true
        · rw [if_neg (fun z => z q), ml_s, if_pos q]
          have inner : ∀ (n' b f2 : Nat) (h : mv_H) (st : St), n' + b = 6 → n' < f2 → PR N t h → (∀ k, k < x → t.testBit k = true → h 53 k = nI (r k)) → SP h t st → ∃ h', fX5_extend_50_b56 (fX5_extend_50 fuel) f2 (nI x) (nI t) (nI L) (nI w) (nI b) h = some h' ∧ Ep h h' ∧ (∀ k, k < x → h' 53 k = h 53 k) ∧ SP h' t (fo (fun b s => if (L.testBit b && roomB N x b) = true then DP N (ml t n (x + 1)) (L - (L &&& 2 ^ b)) (w + sPap N b) (up1 r x b) s else s) n' b st) := by
            intro n'
            induction n' with
            | zero =>
              intro b f2 h st hn hf2 hP h53 hS
              cases f2 with
              | zero => omega
              | succ f2 =>
                refine ⟨h, ?_, fun _ _ _ _ _ => rfl, fun _ _ => rfl, hS⟩
                rw [show b = 6 by omega, fX5_extend_50_b56, if_neg (by decide)]
            | succ n' ihn =>
              intro b f2 h st hn hf2 hP h53 hS
              cases f2 with
              | zero => omega
              | succ f2 =>
                have hb : b < 6 := by omega
                obtain ⟨k1, k2, -⟩ := pz_i6 b hb
                have an := pz_and L hL (gb (roomB N x) 6 0 0) (gb_lt 6 0 0 (by decide) (by decide))
                have tb : (L &&& gb (roomB N x) 6 0 0).testBit b = (L.testBit b && roomB N x b) := by
                  have h6 : 0 ≤ b ∧ b < 0 + 6 := by omega
                  rw [Nat.testBit_and, gb_bit, decide_eq_true h6]; simp
                rw [fX5_extend_50_b56, if_pos (pz_l6 hb), if_pos i1]
                simp only [i2, hP.2 x hx6 q, an.1, pz_isIn an.2 hb, Option.bind_some]
                simp only [pz_i0, tb, fX5_extend_50_b113, nI_1]
                by_cases c : (L.testBit b && roomB N x b) = true
                · have hNb : (N 0 0).testBit b = true := by
                    simp [roomB] at c
                    exact c.2.1
                  rw [if_neg (fun z => z c), if_pos i1]
                  obtain ⟨g, eg⟩ : ∃ g, g = mv_u h 53 x (nI b) := ⟨_, rfl⟩
                  simp only [mv_let]
                  rw [← eg, if_pos k1, k2]
                  have exg : Ep h g := fun o k' q1 q2 q3 => by rw [eg, mv_u_at, if_neg (fun z => q2 z.1)]
                  have gP : PR N t g := ⟨fun b' hb' hbb => (exg 51 b' (by omega) (by decide) (by decide)).trans (hP.1 b' hb' hbb), fun y hy hyy => (exg 52 y (by omega) (by decide) (by decide)).trans (hP.2 y hy hyy)⟩
                  have g53 : ∀ k', k' < x + 1 → t.testBit k' = true → g 53 k' = nI (up1 r x b k') := fun k' hk' ht' => by
                    rw [eg, mv_u_at]
                    by_cases z : k' = x
                    · rw [if_pos ⟨rfl, z⟩]; simp [up1, z]
                    · rw [if_neg (fun y => z y.2)]; simp [up1, z]; exact h53 k' (by omega) ht'
                  have gS' : SP g t st := by
                    cases st with
                    | none =>
                      show g 50 4 = -6
                      rw [eg, mv_u_at, if_neg (by omega)]; exact hS
                    | some z =>
                      obtain ⟨B, R⟩ := z
                      refine ⟨?_, hS.2.1, fun k' hk' hb' => ?_⟩
                      · rw [eg, mv_u_at, if_neg (by omega)]; exact hS.1
                      · rw [eg, mv_u_at, if_neg (by omega)]; exact hS.2.2 k' hk' hb'
                  have dl := pz_del L hL b hb
                  have pl := sPap_le hN hb
                  obtain ⟨h1, e1, x1, y1, z1⟩ := pe_pext hN ht n fuel g (x + 1) (L - (L &&& 2 ^ b)) (w + sPap N b) (up1 r x b) st (by omega) (by omega) dl.2 (by omega) gP g53 gS'
                  have ex1 : Ep h h1 := exg.tr x1
                  obtain ⟨h', e', x', y', z'⟩ := ihn (b + 1) f2 h1 (DP N (ml t n (x + 1)) (L - (L &&& 2 ^ b)) (w + sPap N b) (up1 r x b) st) (by omega) (by omega) ⟨fun b' hb' hbb => (ex1 51 b' (by omega) (by decide) (by decide)).trans (hP.1 b' hb' hbb), fun y hy hyy => (ex1 52 y (by omega) (by decide) (by decide)).trans (hP.2 y hy hyy)⟩ (fun k' hk' ht' => by
                    rw [y1 k' (by omega), g53 k' (by omega) ht']; simp [up1, show ¬ k' = x by omega]) z1
                  refine ⟨h', ?_, ex1.tr x', fun k' hk' => ?_, ?_⟩
                  · rw [gP.1 b hb hNb, dl.1, nI_add, e1, Option.bind_some]; exact e'
                  · rw [y' k' hk', y1 k' (by omega), eg, mv_u_at, if_neg (by omega)]
                  · show SP h' t (fo _ n' (b + 1) (if (L.testBit b && roomB N x b) = true then _ else st))
                    rw [if_pos c]; exact z'
                · rw [if_pos c]
                  obtain ⟨h', e', x', y', z'⟩ := ihn (b + 1) f2 h st (by omega) (by omega) hP h53 hS
                  refine ⟨h', e', x', y', ?_⟩
                  show SP h' t (fo _ n' (b + 1) (if (L.testBit b && roomB N x b) = true then _ else st))
                  rw [if_neg c]; exact z'
          exact inner 6 0 mv_F h st rfl (by rw [mv_F_eq]; decide) hP h53 hS
        · rw [if_pos q, ml_s, if_neg q, nI_1]
          obtain ⟨h', e', x', y', z'⟩ := pe_pext hN ht n fuel h (x + 1) L w r st (by omega) (by omega) hL (by omega) hP (fun k hk hb => h53 k (by
            by_cases z : k = x
            · rw [z] at hb; exact absurd hb q
            · omega) hb) hS
          refine ⟨h', ?_, x', fun k hk => y' k (by omega), z'⟩
          rw [e']; rfl
theorem pe_sp50 {N : Nat → Nat → Nat} {t : Nat} (ht : t < 64) (hN : okN N) : ∀ (n k m : Nat) (h : mv_H), n + k = 6 → n < m → rdG h 1 N → (∀ b, b < 6 → (N 0 0).testBit b = true → h 51 b = nI (sPap N b)) → (∀ x, x < k → t.testBit x = true → h 52 x = nI (gb (roomB N x) 6 0 0)) → ∃ h', fX9_startPairs_0_b50 m (nI t) (nI k) h = some h' ∧ Same h h' ∧ PR N t h'
  | n, k, 0, h, _, hm, _, _, _ => absurd hm (by omega)
  | 0, k, m + 1, h, hn, _, hG, h51, h52 => by
    refine ⟨h, ?_, Same.rf h, h51, fun x hx hb => h52 x (by omega) hb⟩
    rw [show k = 6 by omega, fX9_startPairs_0_b50, if_neg (by decide)]
  | n + 1, k, m + 1, h, hn, hm, hG, h51, h52 => by
    have hk : k < 6 := by omega
    obtain ⟨k1, k2, k3⟩ := pz_i6 k hk
    have al : ∀ (v : Int32) (g : mv_H), fX5_allow_50 (nI k) v g = some (mv_u g 52 k v) := fun v g => by
      unfold fX5_allow_50
      rw [pe_isNumber, Option.bind_some, if_neg (by rw [pz_i0, k3]; omega), if_pos k1, k2]; rfl
    rw [fX9_startPairs_0_b50, if_pos (pz_l6 hk), pz_isIn ht hk, Option.bind_some]
    simp only [pz_i0, fX9_startPairs_0_b78, al, Option.bind_some, nI_1]
    have go : ∀ v : Int32, (t.testBit k = true → v = nI (gb (roomB N k) 6 0 0)) → ∃ h', fX9_startPairs_0_b50 m (nI t) (nI (k + 1)) (mv_u h 52 k v) = some h' ∧ Same h h' ∧ PR N t h' := by
      intro v hv
      have s2 : Same h (mv_u h 52 k v) := Same.u (by unfold scr; omega)
      obtain ⟨h', e', s', p'⟩ := pe_sp50 ht hN n (k + 1) m (mv_u h 52 k v) (by omega) (by omega) (s2.rdG (Or.inl rfl) hG) (fun b hb hbb => by rw [mv_u_at, if_neg (by omega)]; exact h51 b hb hbb) (fun x hx hb => by
        rw [mv_u_at]
        by_cases w : x = k
        · rw [if_pos ⟨rfl, w⟩, w]; exact hv (w ▸ hb)
        · rw [if_neg (fun y => w y.2)]; exact h52 x (by omega) hb)
      exact ⟨h', e', s2.tr s', p'⟩
    by_cases q : t.testBit k = true
    · rw [if_neg (fun y => y q), pe_rm hG hN hk, Option.bind_some]
      exact go _ (fun _ => rfl)
    · rw [if_pos q]
      exact go 0 (fun z => absurd z q)
theorem pe_sp2 {N : Nat → Nat → Nat} {t : Nat} (ht : t < 64) (hN : okN N) : ∀ (n k m : Nat) (h : mv_H), n + k = 6 → n < m → rdG h 1 N → (∀ b, b < k → (N 0 0).testBit b = true → h 51 b = nI (sPap N b)) → ∃ h', fX9_startPairs_0_b2 m (nI t) (nI k) h = some h' ∧ Same h h' ∧ PR N t h'
  | n, k, 0, h, _, hm, _, _ => absurd hm (by omega)
  | 0, k, m + 1, h, hn, _, hG, h51 => by
    obtain ⟨h', e', s', p'⟩ := pe_sp50 ht hN 6 0 mv_F h rfl (by rw [mv_F_eq]; decide) hG (fun b hb hbb => h51 b (by omega) hbb) (fun x hx => absurd hx (by omega))
    refine ⟨h', ?_, s', p'⟩
    rw [show k = 6 by omega, fX9_startPairs_0_b2, if_neg (by decide)]
    exact e'
  | n + 1, k, m + 1, h, hn, hm, hG, h51 => by
    have hk : k < 6 := by omega
    obtain ⟨k1, k2, k3⟩ := pz_i6 k hk
    have pr : ∀ (v : Int32) (g : mv_H), fX5_price_50 (nI k) v g = some (mv_u g 51 k v) := fun v g => by
      unfold fX5_price_50
      rw [pe_isNumber, Option.bind_some, if_neg (by rw [pz_i0, k3]; omega), if_pos k1, k2]; rfl
    rw [fX9_startPairs_0_b2, if_pos (pz_l6 hk), pe_has2k hG hN hk, Option.bind_some]
    simp only [pz_i0, fX9_startPairs_0_b39, pr, Option.bind_some, nI_1]
    have go : ∀ (v : Int32) (g : mv_H), (∀ o j, o ≠ 38 → g o j = h o j) → ((N 0 0).testBit k = true → v = nI (sPap N k)) → ∃ h', fX9_startPairs_0_b2 m (nI t) (nI (k + 1)) (mv_u g 51 k v) = some h' ∧ Same h h' ∧ PR N t h' := by
      intro v g hg hv
      have s1 : Same h g := fun o j w => hg o j (by unfold scr at w; omega)
      have s2 : Same g (mv_u g 51 k v) := Same.u (by unfold scr; omega)
      obtain ⟨h', e', s', p'⟩ := pe_sp2 ht hN n (k + 1) m (mv_u g 51 k v) (by omega) (by omega) ((s1.tr s2).rdG (Or.inl rfl) hG) (fun b hb hbb => by
        rw [mv_u_at]
        by_cases w : b = k
        · rw [if_pos ⟨rfl, w⟩, w]; exact hv (w ▸ hbb)
        · rw [if_neg (fun y => w y.2), hg 51 b (by decide)]; exact h51 b (by omega) hbb)
      exact ⟨h', e', (s1.tr s2).tr s', p'⟩
    by_cases q : (N 0 0).testBit k = true
    · have e1 := pe_wrapOf hk hG
      have e2 := pe_leastPaper (h := wr h (nI (N 1 (3 * k))) (nI (N 1 (3 * k + 1))) (nI (N 1 (3 * k + 2))) (nI (N 0 3)) (nI (N 0 4))) wr_is (hN.b hk) hN.2.1.1 hN.2.1.2.1
      rw [if_neg (fun y => y q), e1, Option.bind_some, e2, Option.bind_some]
      exact go _ _ (fun o j ho => wr_at ho) (fun _ => rfl)
    · rw [if_pos q]
      exact go 0 h (fun _ _ _ => rfl) (fun z => absurd z q)
def pAns (st : St) (z : Int32) : Int32 := match st with
  | none => -6
  | some (w, R) => if z = -1 then nI w else nI (R z.toNatClampNeg)
theorem pe_pairC {h : mv_H} {N : Nat → Nat → Nat} {t : Nat} {z : Int32} (ht : t < 64) (hG : rdG h 1 N) (hN : okN N) (hz : z = -1 ∨ ∃ x, x < 6 ∧ z = nI x ∧ t.testBit x = true) : ∃ h', fX9_paired_0_b39 (nI t) z h = some (pAns (DP N (mems t) (N 0 0) 0 (fun _ => 0) none) z, h') ∧ Same h h' := by
  obtain ⟨h1, e1, s1, p1⟩ := pe_sp2 ht hN 6 0 mv_F h rfl (by rw [mv_F_eq]; decide) hG (fun b hb => absurd hb (by omega))
  obtain ⟨h2, eh2⟩ : ∃ h2, h2 = mv_u h1 50 4 (-6) := ⟨_, rfl⟩
  have s2 : Same h1 h2 := eh2 ▸ Same.u (by unfold scr; omega)
  have p2 : PR N t h2 := ⟨fun b hb hbb => by rw [eh2, mv_u_at, if_neg (by omega)]; exact p1.1 b hb hbb, fun x hx hxx => by rw [eh2, mv_u_at, if_neg (by omega)]; exact p1.2 x hx hxx⟩
  obtain ⟨h3, e3, x3, -, c3⟩ := pe_pext (N := N) (t := t) hN ht 6 mv_R h2 0 (N 0 0) 0 (fun _ => 0) none (by rw [mv_R_eq]; decide) rfl hN.1.1 (by omega) p2 (fun k hk => absurd hk (by omega)) (by show h2 50 4 = -6; rw [eh2, mv_u_at, if_pos ⟨rfl, rfl⟩])
  refine ⟨h3, ?_, (s1.tr s2).tr x3.same⟩
  have G1 := s1.rdG (Or.inl rfl) hG
  have sp : fX9_startPairs_0 (nI t) h = some h1 := e1
  have se : fX5_search_50 (nI t) (nI (N 0 0)) h1 = some h3 := by
    unfold fX5_search_50
    simp only [mv_let]
    rw [pz_lit.1] at e3
    rw [← eh2, e3]; rfl
  unfold fX9_paired_0_b39
  rw [sp, Option.bind_some, show fX7_bits_2 h1 = some (nI (N 0 0)) from by unfold fX7_bits_2; rw [(rd_b G1).1], Option.bind_some, se, Option.bind_some]
  obtain ⟨st, est⟩ : ∃ st, st = DP N (mems t) (N 0 0) 0 (fun _ => 0) none := ⟨_, rfl⟩
  have c3' : SP h3 t st := by rw [est]; exact c3
  rw [← est]
  cases st with
  | none =>
    have a1 : h3 50 4 = -6 := c3'
    by_cases q : z = -1
    · rw [if_pos q]; unfold fX5_paper_50; rw [a1]; rfl
    · rw [if_neg q]; unfold fX5_boxOf_50; rw [if_pos a1]; rfl
  | some y =>
    obtain ⟨w, R⟩ := y
    obtain ⟨a1, a2, a3⟩ := c3'
    simp only [pAns]
    by_cases q : z = -1
    · rw [if_pos q, if_pos q]; unfold fX5_paper_50; rw [a1]; rfl
    · rw [if_neg q, if_neg q]
      rcases hz with hz | ⟨x, hx, rfl, hxt⟩
      · exact absurd hz q
      · obtain ⟨i1, i2, i3⟩ := pz_i6 x hx
        unfold fX5_boxOf_50
        rw [if_neg (by
          rw [a1]
          intro zz
          have := congrArg Int32.toInt zz
          rw [nI_toInt (by omega)] at this
          have e6 : (-6 : Int32).toInt = -6 := rfl
          omega), pe_isNumber, Option.bind_some, if_neg (by rw [pz_i0, i3]; omega), if_pos i1, i2, a3 x hx hxt]; rfl
