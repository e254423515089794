/-! usedUp: the class's side -/
def gS (N : Nat → Nat → Nat) (b : Nat) : Nat := gb (fun s => (N 0 2).testBit s && (sWay N b s).isSome) 6 0 0
theorem gS_lt (N : Nat → Nat → Nat) (b : Nat) : gS N b < 64 := gb_lt 6 0 0 (by decide) (by decide)
theorem pz_and : ∀ a, a < 64 → ∀ b, b < 64 → nI a &&& nI b = nI (a &&& b) ∧ a &&& b < 64 := by decide +kernel
theorem wr_at {h : mv_H} {a b c l e : Int32} {o k : Nat} (ho : o ≠ 38) : wr h a b c l e o k = h o k := by
  unfold wr
  rw [mv_u_n ho, mv_u_n ho, mv_u_n ho, mv_u_n ho, mv_u_n ho]
theorem pe_sd2 {h : mv_H} {N : Nat → Nat → Nat} {i : Nat} (hG : rdG h 1 N) (hN : okN N) (hi : i < 6) : ∃ h1, fX9_sheetsDoingFor_0 (nI i) h = some (nI (gS N i), h1) ∧ ∀ o k, o ≠ 38 → h1 o k = h o k := by
  refine ⟨wr h (nI (N 1 (3 * i))) (nI (N 1 (3 * i + 1))) (nI (N 1 (3 * i + 2))) (nI (N 0 3)) (nI (N 0 4)), ?_, fun o k ho => wr_at ho⟩
  unfold fX9_sheetsDoingFor_0
  rw [pe_wrapOf hi hG, Option.bind_some, ← pz_lit.1]
  exact pe_sdLoop wr_is (wr_same.rdG (Or.inl rfl) hG) hN hi 6 0 mv_F 0 rfl (by rw [mv_F_eq]; decide) (by decide)
theorem tkn_cls {N : Nat → Nat → Nat} {u b : Nat} (hs : ∀ j, j < 6 → u.testBit j = true → (N 0 2).testBit j = true) : wfd (fun s => (gS N b &&& u).testBit s) (fun s => N 3 s * N 4 s) 6 0 none = tkn N u b := by
  refine wfd_congr 6 0 none (bel_none 0) (fun j _ hj => ?_) (fun j _ => rfl)
  have h6 : 0 ≤ j ∧ j < 0 + 6 := by omega
  rw [Nat.testBit_and, gS, gb_bit, decide_eq_true h6]
  by_cases q : u.testBit j = true
  · rw [q, hs j (by omega) q]; simp
  · have q' : u.testBit j = false := by simpa using q
    rw [q']; simp
def SC (h : mv_H) (m : Nat) : St → Prop
  | none => h 46 4 = -1
  | some (w, R) => h 46 4 = nI w ∧ w ≤ 6 ∧ ∀ k, k < m → h 49 k = nI (R k)
def Ex (h h' : mv_H) : Prop := ∀ o k, ¬ (o = 46 ∧ k = 4) → o ≠ 48 → o ≠ 49 → h' o k = h o k
theorem Ex.tr {a b c : mv_H} (h1 : Ex a b) (h2 : Ex b c) : Ex a c := fun o k q1 q2 q3 => (h2 o k q1 q2 q3).trans (h1 o k q1 q2 q3)
theorem Ex.same {a b : mv_H} (h1 : Ex a b) : Same a b := fun o k q => h1 o k (by unfold scr at q; omega) (by unfold scr at q; omega) (by unfold scr at q; omega)
theorem pe_kp3 (h : mv_H) : ∀ (n k m : Nat), n + k = 6 → n < m → fX3_keep_46_b7 m (nI k) (cpA h 49 48 k) = some (cpA h 49 48 6)
  | n, k, 0, _, hm => absurd hm (by omega)
  | 0, k, m + 1, hn, _ => by
    rw [show k = 6 by omega, fX3_keep_46_b7, if_neg (by decide)]
  | n + 1, k, m + 1, hn, hm => by
    obtain ⟨c1, c2, -⟩ := pz_i6 k (by omega)
    rw [fX3_keep_46_b7, if_pos (pz_l6 (by omega)), if_pos c1, if_pos c1, c2]
    simp only [mv_let]
    rw [cpA_s (by decide), nI_1]
    exact pe_kp3 h n (k + 1) m (by omega) (by omega)
theorem pe_keep3 (h : mv_H) (w : Int32) : fX3_keep_46 w h = some (cpA (mv_u h 46 4 w) 49 48 6) := by
  unfold fX3_keep_46
  simp only [mv_let]
  have := pe_kp3 (mv_u h 46 4 w) 6 0 mv_F rfl (by rw [mv_F_eq]; decide)
  rw [cpA_0] at this
  exact this
theorem pe_ext {N : Nat → Nat → Nat} {m : Nat} (hN : okN N) (hm : m ≤ 6) : ∀ (j fuel : Nat) (h : mv_H) (T u w : Nat) (r : Nat → Nat) (p : Nat) (st : St), j < fuel → pc T = j → T < 64 → u < 64 → (∀ j, j < 6 → u.testBit j = true → (N 0 2).testBit j = true) → p + j = m → w ≤ p → rdG h 1 N → (∀ b, b < 6 → T.testBit b = true → h 47 b = nI (gS N b)) → (∀ k, k < p → h 48 k = nI (r k)) → SC h m st → ∃ h', fX3_extend_46_6 fuel (nI p) (nI T) (nI u) (nI w) h = some h' ∧ Ex h h' ∧ (∀ k, k < p → h' 48 k = h 48 k) ∧ SC h' m (DF N j T u w r p st)
  | j, 0, _, _, _, _, _, _, _, hf, _, _, _, _, _, _, _, _, _, _ => absurd hf (by omega)
  | j, fuel + 1, h, T, u, w, r, p, st, hf, hj, hT, hu, hus, hpj, hw, hG, h47, h48, hS => by
    have pu := pc_le u
    have pT := pc_le T
    have hmin : mv_min (nI (pc T)) (nI (pc u)) = nI (min (pc T) (pc u)) := pz_min (by omega) (by omega)
    rw [fX3_extend_46_6, pe_bitCount T hT, Option.bind_some, pe_bitCount u hu, Option.bind_some]
    simp only [mv_let, hmin, nI_add]
    have hT0 : (nI T = 0) = (T = 0) := pz_e (n := 0) (by omega) (by decide)
    by_cases pr : ∃ B R, st = some (B, R) ∧ w + min (pc T) (pc u) ≤ B
    · obtain ⟨B, R, rfl, hB⟩ := pr
      obtain ⟨s1, s2, s3⟩ := hS
      refine ⟨h, ?_, fun _ _ _ _ _ => rfl, fun _ _ => rfl, ?_⟩
      · rw [s1, if_neg (nI_nlt hB (by omega))]
      · rw [DF_prune j T u w r p B R hu (by omega)]; exact ⟨s1, s2, s3⟩
    · have hlt : h 46 4 < nI (w + min (pc T) (pc u)) := by
        cases st with
        | none =>
          have : h 46 4 = -1 := hS
          rw [this, pz_lt, nI_toInt (by omega)]
          have : (-1 : Int32).toInt = -1 := rfl
          omega
        | some z =>
          obtain ⟨B, R⟩ := z
          rw [hS.1]
          exact nI_lt (by
            by_cases q : w + min (pc T) (pc u) ≤ B
            · exact absurd ⟨B, R, rfl, q⟩ pr
            · omega) (by omega)
      rw [if_pos hlt]
      simp only [hT0]
      cases j with
      | zero =>
        have T0 : T = 0 := by
          have := (show ∀ T, T < 64 → pc T = 0 → T = 0 by decide +kernel) T hT hj
          exact this
        have hp : p = m := by omega
        rw [if_pos T0]
        unfold fX3_extend_46_6_b38
        rw [pe_keep3]
        refine ⟨cpA (mv_u h 46 4 (nI w)) 49 48 6, rfl, fun o k q1 q2 q3 => ?_, fun k hk => ?_, ?_⟩
        · unfold cpA
          rw [if_neg (fun z => q3 z.1), mv_u_at, if_neg q1]
        · unfold cpA
          rw [if_neg (by omega), mv_u_at, if_neg (by omega)]
        · have e : DF N 0 T u w r p st = some (w, r) := by
            show lfst w r st = some (w, r)
            cases st with
            | none => rfl
            | some z =>
              obtain ⟨B, R⟩ := z
              simp only [lfst]
              rw [if_pos]
              by_cases q : w + min (pc T) (pc u) ≤ B
              · exact absurd ⟨B, R, rfl, q⟩ pr
              · omega
          rw [e]
          refine ⟨?_, by omega, fun k hk => ?_⟩
          · unfold cpA
            rw [if_neg (by omega), mv_u_at, if_pos ⟨rfl, rfl⟩]
          · unfold cpA
            rw [if_pos ⟨rfl, by omega⟩, mv_u_at, if_neg (by omega)]
            exact h48 k (by omega)
      | succ j =>
        have T0 : ¬ T = 0 := fun z => by
          rw [z] at hj
          have h0 : pc 0 = 0 := by decide
          omega
        obtain ⟨i1, i2, i3⟩ := pz_i6 p (by omega)
        rw [if_neg T0, pe_isNumber, Option.bind_some, if_neg (by rw [pz_i0, i3]; omega)]
        have inner : ∀ (n k f2 : Nat) (h : mv_H) (st : St), n + k = 6 → n < f2 → rdG h 1 N → (∀ b, b < 6 → T.testBit b = true → h 47 b = nI (gS N b)) → (∀ k, k < p → h 48 k = nI (r k)) → SC h m st → ∃ h', fX3_extend_46_6_b48 (fX3_extend_46_6 fuel) f2 (nI p) (nI T) (nI u) (nI w) (nI k) h = some h' ∧ Ex h h' ∧ (∀ k, k < p → h' 48 k = h 48 k) ∧ SC h' m (fo (fun b s => if T.testBit b = true then DF N j (T - (T &&& 2 ^ b)) (su N u b) (w + sw N u b) (up1 r p b) (p + 1) s else s) n k st) := by
          intro n
          induction n with
          | zero =>
            intro k f2 h st hn hf2 hG h47 h48 hS
            cases f2 with
            | zero => omega
            | succ f2 =>
              refine ⟨h, ?_, fun _ _ _ _ _ => rfl, fun _ _ => rfl, hS⟩
              rw [show k = 6 by omega, fX3_extend_46_6_b48, if_neg (by decide)]
          | succ n ihn =>
            intro k f2 h st hn hf2 hG h47 h48 hS
            cases f2 with
            | zero => omega
            | succ f2 =>
              have hk : k < 6 := by omega
              obtain ⟨k1, k2, -⟩ := pz_i6 k hk
              rw [fX3_extend_46_6_b48, if_pos (pz_l6 hk), pz_isIn hT hk, Option.bind_some]
              simp only [pz_i0, fX3_extend_46_6_b145, nI_1]
              by_cases q : T.testBit k = true
              · rw [if_neg (fun z => z q), if_pos i1, i2]
                obtain ⟨g, eg⟩ : ∃ g, g = mv_u h 48 p (nI k) := ⟨_, rfl⟩
                simp only [mv_let]
                rw [← eg, if_pos k1]
                have exg : Ex h g := fun o k' q1 q2 q3 => by rw [eg, mv_u_at, if_neg (fun z => q2 z.1)]
                have gG := exg.same.rdG (Or.inl rfl) hG
                have g47 : ∀ b, b < 6 → T.testBit b = true → g 47 b = nI (gS N b) := fun b hb hbt => (exg 47 b (by omega) (by decide) (by decide)).trans (h47 b hb hbt)
                have g48 : ∀ k', k' < p + 1 → g 48 k' = nI (up1 r p k k') := fun k' hk' => by
                  rw [eg, mv_u_at]
                  by_cases z : k' = p
                  · rw [if_pos ⟨rfl, z⟩]; simp [up1, z]
                  · rw [if_neg (fun y => z y.2)]; simp [up1, z]; exact h48 k' (by omega)
                have gSC : SC g m st := by
                  cases st with
                  | none =>
                    show g 46 4 = -1
                    rw [eg, mv_u_at, if_neg (by omega)]; exact hS
                  | some z =>
                    obtain ⟨B, R⟩ := z
                    refine ⟨?_, hS.2.1, fun k' hk' => ?_⟩
                    · rw [eg, mv_u_at, if_neg (by omega)]; exact hS.1
                    · rw [eg, mv_u_at, if_neg (by omega)]; exact hS.2.2 k' hk'
                have an := pz_and (gS N k) (gS_lt N k) u hu
                have la : fX7_leastAreaOf_6 (g 47 (nI k).toNatClampNeg &&& nI u) g = some (enc (tkn N u k)) := by
                  rw [k2, g47 k hk q, an.1, pe_la an.2 gG hN, tkn_cls hus]
                have dl := pz_del T hT k hk
                rw [la, Option.bind_some, dl.1]
                simp only [enc_eq (tkn_bel N u k) (by decide)]
                obtain ⟨s1, s2, s3⟩ := su_p (N := N) (b := k) hu
                have sw1 : sw N u k ≤ 1 := by unfold sw; split <;> omega
                have key : ∃ h1, fX3_extend_46_6 fuel (nI p + 1) (nI (T - (T &&& 2 ^ k))) (nI (su N u k)) (nI (w + sw N u k)) g = some h1 ∧ Ex g h1 ∧ (∀ k', k' < p + 1 → h1 48 k' = g 48 k') ∧ SC h1 m (DF N j (T - (T &&& 2 ^ k)) (su N u k) (w + sw N u k) (up1 r p k) (p + 1) st) := by
                  rw [nI_1]
                  exact pe_ext hN hm j fuel g (T - (T &&& 2 ^ k)) (su N u k) (w + sw N u k) (up1 r p k) (p + 1) st (by omega) (by have := pz_pcd T hT k hk q; omega) dl.2 s1 (fun j' hj' hb' => hus j' hj' (s3 j' hj' hb')) (by omega) (by omega) gG (fun b hb hbt => g47 b hb (by
                    rw [pz_delT T hT k hk b hb] at hbt
                    simp at hbt
                    exact hbt.1)) g48 gSC
                obtain ⟨h1, e1, x1, y1, z1⟩ := key
                have ex1 : Ex h h1 := exg.tr x1
                obtain ⟨h', e', x', y', z'⟩ := ihn (k + 1) f2 h1 (DF N j (T - (T &&& 2 ^ k)) (su N u k) (w + sw N u k) (up1 r p k) (p + 1) st) (by omega) (by omega) (ex1.same.rdG (Or.inl rfl) hG) (fun b hb hbt => (ex1 47 b (by omega) (by decide) (by decide)).trans (h47 b hb hbt)) (fun k' hk' => by
                  rw [y1 k' (by omega), g48 k' (by omega)]; simp [up1, show ¬ k' = p by omega]) z1
                refine ⟨h', ?_, ex1.tr x', fun k' hk' => ?_, ?_⟩
                · have e2 : (if tkn N u k = none then (fX3_extend_46_6 fuel (nI p + 1) (nI (T - (T &&& 2 ^ k))) (nI u) (nI w) g).bind fun r795 => fX3_extend_46_6_b48 (fX3_extend_46_6 fuel) f2 (nI p) (nI T) (nI u) (nI w) (nI (k + 1)) r795 else (fX3_extend_46_6 fuel (nI p + 1) (nI (T - (T &&& 2 ^ k))) (nI u &&& (1 <<< (enc (tkn N u k) &&& 31) ^^^ -1)) (nI w + 1) g).bind fun r796 => fX3_extend_46_6_b48 (fX3_extend_46_6 fuel) f2 (nI p) (nI T) (nI u) (nI w) (nI (k + 1)) r796) = (fX3_extend_46_6 fuel (nI p + 1) (nI (T - (T &&& 2 ^ k))) (nI (su N u k)) (nI (w + sw N u k)) g).bind fun r795 => fX3_extend_46_6_b48 (fX3_extend_46_6 fuel) f2 (nI p) (nI T) (nI u) (nI w) (nI (k + 1)) r795 := by
                    unfold su sw
                    cases ht : tkn N u k with
                    | none => simp
                    | some s =>
                      have hs6 := (tkn_bit ht).1
                      rw [if_neg (by simp), enc_some, (pz_del u hu s hs6).1, nI_1, nI_1]
                  simp only [nI_1] at e2
                  rw [nI_1] at e1
                  rw [e1, Option.bind_some] at e2
                  exact e2.trans e'
                · rw [y' k' hk', y1 k' (by omega), eg, mv_u_at, if_neg (by omega)]
                · show SC h' m (fo _ n (k + 1) (if T.testBit k = true then _ else st))
                  rw [if_pos q]; exact z'
              · rw [if_pos q]
                obtain ⟨h', e', x', y', z'⟩ := ihn (k + 1) f2 h st (by omega) (by omega) hG h47 h48 hS
                refine ⟨h', e', x', y', ?_⟩
                show SC h' m (fo _ n (k + 1) (if T.testBit k = true then _ else st))
                rw [if_neg q]; exact z'
        exact inner 6 0 mv_F h st rfl (by rw [mv_F_eq]; decide) hG h47 h48 hS
theorem pe_suitLoop {N : Nat → Nat → Nat} {t : Nat} {z : Int32} (ht : t < 64) (hN : okN N) : ∀ (n k m : Nat) (h : mv_H), n + k = 6 → n < m → rdG h 1 N → (∀ b, b < k → t.testBit b = true → h 47 b = nI (gS N b)) → ∃ h', (fX9_usedUp_0_b19 m (nI t) z (nI k) h = (fX3_search_46_6 (nI t) h').bind fun r798 => if z = (-1) then ((fX3_wrapped_46 r798).bind fun r799 => some (r799, r798)) else (fX3_boxAt_46 z r798).bind fun r801 => some (r801, r798)) ∧ Same h h' ∧ (∀ b, b < 6 → t.testBit b = true → h' 47 b = nI (gS N b))
  | n, k, 0, h, _, hm, _, _ => absurd hm (by omega)
  | 0, k, m + 1, h, hn, _, hG, h47 => by
    refine ⟨h, ?_, Same.rf h, fun b hb hbt => h47 b (by omega) hbt⟩
    rw [show k = 6 by omega, fX9_usedUp_0_b19, if_neg (by decide)]
  | n + 1, k, m + 1, h, hn, hm, hG, h47 => by
    have hk : k < 6 := by omega
    obtain ⟨k1, k2, k3⟩ := pz_i6 k hk
    have st : ∀ (v : Int32) (g : mv_H), fX3_suit_46 (nI k) v g = some (mv_u g 47 k v) := fun v g => by
      unfold fX3_suit_46
      rw [pe_isNumber, Option.bind_some, if_neg (by rw [pz_i0, k3]; omega), if_pos k1, k2]; rfl
    rw [fX9_usedUp_0_b19, if_pos (pz_l6 hk), pz_isIn ht hk, Option.bind_some]
    simp only [pz_i0, fX9_usedUp_0_b47, st, Option.bind_some, nI_1]
    by_cases q : t.testBit k = true
    · obtain ⟨h1, e1, u1⟩ := pe_sd2 hG hN hk
      have s1 : Same h h1 := fun o j w => u1 o j (by unfold scr at w; omega)
      have s2 : Same h1 (mv_u h1 47 k (nI (gS N k))) := Same.u (by unfold scr; omega)
      obtain ⟨h', e', s', g'⟩ := pe_suitLoop (z := z) ht hN n (k + 1) m (mv_u h1 47 k (nI (gS N k))) (by omega) (by omega) ((s1.tr s2).rdG (Or.inl rfl) hG) (fun b hb hbt => by
        rw [mv_u_at]
        by_cases w : b = k
        · rw [if_pos ⟨rfl, w⟩, w]
        · rw [if_neg (fun y => w y.2), u1 47 b (by decide)]; exact h47 b (by omega) hbt)
      refine ⟨h', ?_, (s1.tr s2).tr s', g'⟩
      rw [if_neg (fun y => y q), e1, Option.bind_some]
      exact e'
    · have s2 : Same h (mv_u h 47 k 0) := Same.u (by unfold scr; omega)
      obtain ⟨h', e', s', g'⟩ := pe_suitLoop (z := z) ht hN n (k + 1) m (mv_u h 47 k 0) (by omega) (by omega) (s2.rdG (Or.inl rfl) hG) (fun b hb hbt => by
        rw [mv_u_at]
        by_cases w : b = k
        · rw [w] at hbt; exact absurd hbt q
        · rw [if_neg (fun y => w y.2)]; exact h47 b (by omega) hbt)
      refine ⟨h', ?_, s2.tr s', g'⟩
      rw [if_pos q]
      exact e'
/-- what is answered out of the best order -/
def uAns (m : Nat) (st : St) (z : Int32) : Int32 := match st with
  | none => 0
  | some (w, R) => if z = -1 then nI w else if 0 ≤ z.toInt ∧ z.toInt < m then nI (R z.toNatClampNeg) else -6
theorem pe_usedC {h : mv_H} {N : Nat → Nat → Nat} {t : Nat} {z : Int32} (ht : t < 64) (hG : rdG h 1 N) (hN : okN N) : ∃ h', fX9_usedUp_0_b19 mv_F (nI t) z 0 h = some (uAns (pc t) (DF N (pc t) t (N 0 2) 0 (fun _ => 0) 0 none) z, h') ∧ Same h h' := by
  obtain ⟨h1, e1, s1, g1⟩ := pe_suitLoop (z := z) ht hN 6 0 mv_F h rfl (by rw [mv_F_eq]; decide) hG (fun b hb => absurd hb (by omega))
  have hm := pc_le t
  obtain ⟨h2, eh2⟩ : ∃ h2, h2 = mv_u (mv_u h1 46 3 (nI (pc t))) 46 4 (-1) := ⟨_, rfl⟩
  have s2 : Same h1 h2 := eh2 ▸ (Same.u (by unfold scr; omega)).tr (Same.u (by unfold scr; omega))
  have G2 := (s1.tr s2).rdG (Or.inl rfl) hG
  obtain ⟨h3, e3, x3, -, c3⟩ := pe_ext (N := N) (m := pc t) hN hm (pc t) mv_R h2 t (N 0 2) 0 (fun _ => 0) 0 none (by rw [mv_R_eq]; omega) rfl ht hN.1.2.2 (fun j _ hj => hj) (by omega) (by omega) G2 (fun b hb hbt => by
    rw [eh2, mv_u_at, if_neg (by omega), mv_u_at, if_neg (by omega)]; exact g1 b hb hbt) (fun k hk => absurd hk (by omega)) (by show h2 46 4 = -1; rw [eh2, mv_u_at, if_pos ⟨rfl, rfl⟩])
  have i3 : h3 46 3 = nI (pc t) := by rw [x3 46 3 (by omega) (by decide) (by decide), eh2, mv_u_at, if_neg (by omega), mv_u_at, if_pos ⟨rfl, rfl⟩]
  refine ⟨h3, ?_, (s1.tr s2).tr x3.same⟩
  have se : fX3_search_46_6 (nI t) h1 = some h3 := by
    unfold fX3_search_46_6
    rw [pe_bitCount t ht, Option.bind_some]
    simp only [mv_let, fX7_bits_6]
    rw [← eh2, Option.bind_some, (rd_b G2).2.2]
    rw [pz_lit.1] at e3
    rw [e3]; rfl
  rw [pz_lit.1] at e1
  rw [e1, se, Option.bind_some]
  have hsm := DF_made (N := N) (pc t) t (N 0 2) 0 (fun _ => 0) 0 none ht rfl
  cases hst : DF N (pc t) t (N 0 2) 0 (fun _ => 0) 0 none with
  | none => rw [hst] at hsm; cases hsm
  | some y =>
    obtain ⟨w, R⟩ := y
    rw [hst] at c3
    obtain ⟨a1, a2, a3⟩ := c3
    simp only [uAns]
    by_cases q : z = -1
    · rw [if_pos q, if_pos q]
      unfold fX3_wrapped_46
      rw [a1]; rfl
    · rw [if_neg q, if_neg q]
      unfold fX3_boxAt_46
      rw [pe_isNumber, Option.bind_some, i3]
      by_cases q2 : 0 ≤ z.toInt ∧ z.toInt < 6
      · obtain ⟨i, hi, rfl⟩ := pz_six q2
        obtain ⟨j1, j2, j3⟩ := pz_i6 i hi
        rw [if_neg (by rw [pz_i0]; exact fun y => y q2)]
        simp only [pz_lt3 (show i < 2 ^ 31 by omega) (show pc t < 2 ^ 31 by omega), if_pos j1, j2, j3]
        by_cases q3 : i < pc t
        · rw [if_pos q3, if_pos (by omega), a3 i q3]; rfl
        · rw [if_neg q3, if_neg (by omega)]; rfl
      · rw [if_pos (by rw [pz_i0]; exact q2), if_neg (by omega)]; rfl
