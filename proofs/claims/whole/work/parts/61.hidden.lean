/-! hidden, undone -/
def hst (P : Nat → Bool) (V : Nat → Nat) (x : Nat) (s : Nat × Option Nat) : Nat × Option Nat := if P x = true then (s.1 + 1, some (s.2.getD (V x))) else s
def hfd (P : Nat → Bool) (V : Nat → Nat) : Nat → Nat → Nat × Option Nat → Nat × Option Nat
  | 0, _, s => s
  | n + 1, k, s => hfd P V n (k + 1) (hst P V k s)
/-- counted, and the first of them -/
def hok (M L : Nat) (s : Nat × Option Nat) : Prop := (s.2 = none ↔ s.1 = 0) ∧ s.1 ≤ M ∧ bel L s.2
theorem hst_ok {P : Nat → Bool} {V : Nat → Nat} {x M L : Nat} {s : Nat × Option Nat} (h : hok M L s) (hv : V x < L) : hok (M + 1) L (hst P V x s) := by
  obtain ⟨h1, h2, h3⟩ := h
  unfold hst
  by_cases q : P x = true
  · rw [if_pos q]
    refine ⟨⟨fun z => (by simp at z), fun z => (by simp at z)⟩, by show s.1 + 1 ≤ M + 1; omega, fun j hj => ?_⟩
    cases e : s.2 with
    | none => rw [e] at hj; simp at hj; omega
    | some i => rw [e] at hj; simp at hj; have := h3 i e; omega
  · rw [if_neg q]
    exact ⟨h1, by omega, h3⟩
theorem hfd_ok {P : Nat → Bool} {V : Nat → Nat} {L : Nat} : ∀ (n k M : Nat) (s : Nat × Option Nat), hok M L s → (∀ j, k ≤ j → j < k + n → V j < L) → hok (M + n) L (hfd P V n k s)
  | 0, _, _, _, h, _ => h
  | n + 1, k, M, s, h, hv => by
    have := hfd_ok (P := P) (V := V) n (k + 1) (M + 1) _ (hst_ok (P := P) h (hv k (by omega) (by omega))) (fun j h1 h2 => hv j (by omega) (by omega))
    rw [show M + 1 + n = M + (n + 1) by omega] at this
    exact this
def hid (f : Nat → Int32) (x r u : Int32) : Nat → Nat → Bool
  | 0, _ => true
  | n + 1, k => !(decide (u < f k - x) && !decide (r < f k - x)) && hid f x r u n (k + 1)
theorem pe_hidLoop {h : mv_H} {N : Nat → Nat → Nat} (hG : rdG h 1 N) (hN : okN N) (x r u : Int32) : ∀ (n k m : Nat), n + k = N 0 7 → n < m → fX2_areHidden_8_b3 m x r u (nI k) h = some (if hid (fun j => nI (N 5 j)) x r u n k = true then 1 else 0)
  | n, k, 0, _, hm => absurd hm (by omega)
  | 0, k, m + 1, hn, _ => by
    have h6 := hN.2.2.1.1
    rw [fX2_areHidden_8_b3, (rd_f hG).1, if_neg (nI_nlt (by omega) (by omega))]; rfl
  | n + 1, k, m + 1, hn, hm => by
    have h6 := hN.2.2.1.1
    have hk : k < 6 := by omega
    have ih := pe_hidLoop hG hN x r u n (k + 1) m (by omega) (by omega)
    obtain ⟨c1, c2, -⟩ := pz_i6 k hk
    rw [fX2_areHidden_8_b3, (rd_f hG).1, if_pos (nI_lt (by omega) (by omega)), if_pos (pz_l6 hk), if_pos c1, c2, rd_5 hG hk]
    simp only [mv_let, fX2_areHidden_8_b44, nI_1, ih, hid]
    by_cases q1 : u < nI (N 5 k) - x
    · by_cases q2 : r < nI (N 5 k) - x <;> simp [q1, q2]
    · simp [q1]
theorem pe_mhidLoop {h : mv_H} {N : Nat → Nat → Nat} {a b c l e ax : Nat} (hM : rdM h N) (hN : okN N) (w : LayIs h a b c l e) (hx : ax < 3) (hl : l = N 0 3) (x : Int32) : ∀ (n k m : Nat) (z : Bool), n + k = N 0 7 → n < m → fX10_isHiddenFrom_55_b5 m x (nI ax) (if z = true then 1 else 0) (nI k) h = some (if (z && hid (fun j => nI (N 5 j)) x (nI (sR a b c l ax)) (nI (N 0 3 + sU a b c ax)) n k) = true then 1 else 0)
  | n, k, 0, z, _, hm => absurd hm (by omega)
  | 0, k, m + 1, z, hn, _ => by
    have h6 := hN.2.2.1.1
    rw [fX10_isHiddenFrom_55_b5, (rd_mf hM).1, if_neg (nI_nlt (by omega) (by omega)), if_pos pz_01]
    simp [hid]
  | n + 1, k, m + 1, z, hn, hm => by
    have h6 := hN.2.2.1.1
    have hk : k < 6 := by omega
    have iht := pe_mhidLoop hM hN w hx hl x n (k + 1) m true (by omega) (by omega)
    have ihf := pe_mhidLoop hM hN w hx hl x n (k + 1) m false (by omega) (by omega)
    obtain ⟨c1, c2, -⟩ := pz_i6 k hk
    obtain ⟨d1, d2, -⟩ := pz_ax3 ax hx
    obtain ⟨i1, i2, i3, -⟩ := w ax hx
    have e60 : h 60 k = nI (N 5 k) := rd_m hM (a := 5) (by decide) (by unfold vld; omega)
    simp only [if_true, Bool.false_eq_true, if_false, Bool.true_and, Bool.false_and] at iht ihf
    rw [fX10_isHiddenFrom_55_b5, (rd_mf hM).1, if_pos (nI_lt (by omega) (by omega)), if_pos c1, c2, e60]
    simp only [mv_let, fX10_isHiddenFrom_55_b60, fX10_isHiddenFrom_55_b56, fX10_isHiddenFrom_55_b61, nI_1, iht, ihf, if_pos d1, d2, i1, i3, (rd_ms hM).1, nI_add, pz_i0, hid]
    cases z with
    | false => simp
    | true =>
      by_cases q1 : nI (N 0 3 + sU a b c ax) < nI (N 5 k) - x
      · by_cases q2 : nI (sR a b c l ax) < nI (N 5 k) - x <;> simp [q1, q2]
      · simp [q1]
theorem pz_last {w r k : Nat} (hw : w ≤ 1000) (hr : r ≤ 1000) (hk : k ≤ 1000) : (nI w - nI r < nI k) = (w < k + r) := by
  apply propext
  rw [pz_lt, pk_sub_toInt (by omega) (by omega), nI_toInt (by omega)]
  omega
def hP (N : Nat → Nat → Nat) (a b c l ax k : Nat) : Bool := hid (fun j => nI (N 5 j)) (nI k) (nI (sR a b c l ax)) (nI (N 0 3 + sU a b c ax)) (N 0 7) 0
theorem pe_hdLoop {h : mv_H} {N : Nat → Nat → Nat} {a b c l ax w : Nat} {z : Int32} (hG : rdG h 1 N) (hN : okN N) (hw : w ≤ 150) (hr : sR a b c l ax ≤ 89) : ∀ (n k m : Nat) (s : Nat × Option Nat), n + k = w + 1 - sR a b c l ax → n < m → hok k 1000 s → bel k s.2 → fX9_hidden_0_b97 m z (nI (sR a b c l ax)) (nI (N 0 3 + sU a b c ax)) (nI w - nI (sR a b c l ax)) (nI s.1) (enc s.2) (nI k) h = some (if z = 0 then nI (hfd (hP N a b c l ax) id n k s).1 else enc (hfd (hP N a b c l ax) id n k s).2, h)
  | n, k, 0, s, _, hm, _, _ => absurd hm (by omega)
  | 0, k, m + 1, s, hn, _, _, _ => by
    rw [fX9_hidden_0_b97]
    simp only [pz_last (show w ≤ 1000 by omega) (show sR a b c l ax ≤ 1000 by omega) (show k ≤ 1000 by omega)]
    rw [if_pos (by omega)]
    by_cases q : z = 0 <;> simp [q, hfd]
  | n + 1, k, m + 1, s, hn, hm, hs, hb => by
    have ho := hst_ok (P := hP N a b c l ax) (V := id) (x := k) hs (show id k < 1000 by show k < 1000; omega)
    have hb' : bel (k + 1) (hst (hP N a b c l ax) id k s).2 := by
      intro j hj
      unfold hst at hj
      split at hj
      · cases e : s.2 with
        | none => rw [e] at hj; simp at hj; omega
        | some i => rw [e] at hj; simp at hj; have := hb i e; omega
      · have := hb j hj; omega
    have ih := pe_hdLoop (z := z) hG hN hw hr n (k + 1) m (hst (hP N a b c l ax) id k s) (by omega) (by omega) ho hb'
    have hc := pe_hidLoop hG hN (nI k) (nI (sR a b c l ax)) (nI (N 0 3 + sU a b c ax)) (N 0 7) 0 mv_F rfl (by have := hN.2.2.1.1; rw [mv_F_eq]; omega)
    rw [pz_lit.1] at hc
    rw [fX9_hidden_0_b97]
    simp only [pz_last (show w ≤ 1000 by omega) (show sR a b c l ax ≤ 1000 by omega) (show k ≤ 1000 by omega)]
    rw [if_neg (by omega)]
    unfold fX2_areHidden_8
    rw [hc, Option.bind_some]
    simp only [pz_i0, fX9_hidden_0_b142, fX9_hidden_0_b140, nI_1, enc_eq hs.2.2 (by decide), hfd]
    rw [← ih]
    by_cases q : hP N a b c l ax k = true
    · have q' := q
      unfold hP at q'
      rw [if_neg (fun z => z q')]
      cases e : s.2 with
      | none => simp [hst, q, e, enc]
      | some i => simp [hst, q, e, enc]
    · have q' := q
      unfold hP at q'
      rw [if_pos q']
      simp [hst, q]
theorem pe_mhdLoop {h : mv_H} {N : Nat → Nat → Nat} {a b c l e ax s : Nat} {z : Int32} (hM : rdM h N) (hN : okN N) (w : LayIs h a b c l e) (hx : ax < 3) (hl : l = N 0 3) (hs : s < 6) (hr : sR a b c l ax ≤ 89) : ∀ (n k m : Nat) (t : Nat × Option Nat), n + k = N 3 s + 1 - sR a b c l ax → n < m → hok k 1000 t → bel k t.2 → fX10_hidden_55_b54 m (nI ax) (nI s) z (nI t.1) (enc t.2) (nI k) h = some (if z = 0 then nI (hfd (hP N a b c l ax) id n k t).1 else enc (hfd (hP N a b c l ax) id n k t).2, h)
  | n, k, 0, t, _, hm, _, _ => absurd hm (by omega)
  | 0, k, m + 1, t, hn, _, _, _ => by
    have hw := (hN.s hs).1
    obtain ⟨c1, c2, -⟩ := pz_i6 s hs
    obtain ⟨d1, d2, -⟩ := pz_ax3 ax hx
    rw [fX10_hidden_55_b54, if_pos d1, if_pos c1, d2, c2, (w ax hx).1, (rd_m3 hM hs).1, nI_add]
    simp only [pz_lt3 (show N 3 s < 2 ^ 31 by omega) (show k + sR a b c l ax < 2 ^ 31 by omega)]
    rw [if_pos (by omega)]
    by_cases q : z = 0 <;> simp [q, hfd]
  | n + 1, k, m + 1, t, hn, hm, ht, hb => by
    have hw := (hN.s hs).1
    have ho := hst_ok (P := hP N a b c l ax) (V := id) (x := k) ht (show id k < 1000 by show k < 1000; omega)
    have hb' : bel (k + 1) (hst (hP N a b c l ax) id k t).2 := by
      intro j hj
      unfold hst at hj
      split at hj
      · cases e : t.2 with
        | none => rw [e] at hj; simp at hj; omega
        | some i => rw [e] at hj; simp at hj; have := hb i e; omega
      · have := hb j hj; omega
    have ih := pe_mhdLoop (z := z) hM hN w hx hl hs hr n (k + 1) m (hst (hP N a b c l ax) id k t) (by omega) (by omega) ho hb'
    have hc := pe_mhidLoop hM hN w hx hl (nI k) (N 0 7) 0 mv_F true rfl (by have := hN.2.2.1.1; rw [mv_F_eq]; omega)
    simp only [if_true, Bool.true_and, pz_lit.1] at hc
    obtain ⟨c1, c2, -⟩ := pz_i6 s hs
    obtain ⟨d1, d2, -⟩ := pz_ax3 ax hx
    rw [fX10_hidden_55_b54, if_pos d1, if_pos c1, d2, c2, (w ax hx).1, (rd_m3 hM hs).1, nI_add]
    simp only [pz_lt3 (show N 3 s < 2 ^ 31 by omega) (show k + sR a b c l ax < 2 ^ 31 by omega)]
    rw [if_neg (by omega)]
    unfold fX10_isHiddenFrom_55
    rw [hc, Option.bind_some]
    have h0 : (nI t.1 = 0) = (t.2 = none) := propext ((nI_eq (by have := ht.2.1; omega) (by decide)).trans ht.1.symm)
    simp only [pz_i0, fX10_hidden_55_b99, fX10_hidden_55_b94, nI_1, h0, hfd]
    rw [← ih]
    by_cases q : hP N a b c l ax k = true
    · have q' := q
      unfold hP at q'
      rw [if_neg (fun z => z q')]
      cases e : t.2 with
      | none => simp [hst, q, e, enc]
      | some i => simp [hst, q, e, enc]
    · have q' := q
      unfold hP at q'
      rw [if_pos q']
      simp [hst, q]
theorem hok_0 (M L : Nat) : hok M L (0, none) := ⟨⟨fun _ => rfl, fun _ => rfl⟩, Nat.zero_le _, bel_none _⟩
set_option maxRecDepth 10000 in
theorem st_hidden (p0 p1 p2 p3 : Int32) : Sim (fX9_hidden_0 p0 p1 p2 p3) (fX10_hidden_55 p0 p1 p2 p3) := by
  intro h H
  obtain ⟨N, hG, hM, hN⟩ := H.1
  by_cases hb : pbx p0 (N 0 0) = true
  · by_cases ha : 0 ≤ p1.toInt ∧ p1.toInt ≤ 2
    · by_cases hc : pbx p2 (N 0 2) = true
      · by_cases hw : 0 ≤ p3.toInt ∧ p3.toInt ≤ 1
        · obtain ⟨i, hi, rfl, -⟩ := pbx_i hN.1.1 hb
          obtain ⟨x, hx, rfl⟩ := pz_axis ha
          obtain ⟨s, hs, rfl, -⟩ := pbx_i hN.1.2.2 hc
          obtain ⟨h1, h2, e1, w1, s1, e2, w2, s2, s12⟩ := q_look hi hG hM hN
          have m1 := rd_mb (s1.rdM hM)
          have g1 := s1.rdG (Or.inl rfl) hG
          have n2 := s2.rdM hM
          have hr := (sP_lt (x := x) (hN.b hi) hN.2.1.1 hN.2.1.2.1).1
          have hw3 := (hN.s hs).1
          obtain ⟨n, en⟩ : ∃ n, n = N 3 s + 1 - sR (N 1 (3 * i)) (N 1 (3 * i + 1)) (N 1 (3 * i + 2)) (N 0 3) x := ⟨_, rfl⟩
          have k1 := pe_hdLoop (z := p3) g1 hN hw3 hr n 0 mv_F (0, none) (by omega) (by rw [mv_F_eq]; omega) (hok_0 _ _) (bel_none 0)
          have k2 := pe_mhdLoop (z := p3) n2 hN w2 hx rfl hs hr n 0 mv_F (0, none) (by omega) (by rw [mv_F_eq]; omega) (hok_0 _ _) (bel_none 0)
          refine ⟨(if p3 = 0 then nI (hfd (hP N (N 1 (3 * i)) (N 1 (3 * i + 1)) (N 1 (3 * i + 2)) (N 0 3) x) id n 0 (0, none)).1 else enc (hfd (hP N (N 1 (3 * i)) (N 1 (3 * i + 1)) (N 1 (3 * i + 2)) (N 0 3) x) id n 0 (0, none)).2), h1, h2, ?_, ?_, s2.inv H⟩
          rotate_left
          · simp only [fX10_hidden_55, pe_mb m1.1, hb, pe_isAxis, ha, pe_ms m1.2.2, hc, pe_in, Int32.toInt_toInt64, pz_64, hw, e2, Option.bind_some, if_true, and_self]
            exact k2
          · simp only [fX9_hidden_0, pe_bba _ _ (rd_b hG).1, hb, ha, pe_hs (rd_b hG).2.2, hc, pe_isWithin, pz_32, hw, e1, pe_round w1 hx, pe_u w1 hx, (pe_s0 g1 hs).1, fX1_setting_1, (rd_s g1).1, mv_let, nI_add, Option.bind_some, if_true, and_self]
            exact k1
        · refine ⟨-2, h, h, ?_, ?_, H⟩
          · simp [fX9_hidden_0, pe_bba _ _ (rd_b hG).1, hb, ha, pe_hs (rd_b hG).2.2, hc, pe_isWithin, pz_32, hw]
          · simp [fX10_hidden_55, pe_mb (rd_mb hM).1, hb, pe_isAxis, ha, pe_ms (rd_mb hM).2.2, hc, pe_in, pz_64, pz_32, hw]
      · refine ⟨-1, h, h, ?_, ?_, H⟩
        · simp [fX9_hidden_0, pe_bba _ _ (rd_b hG).1, hb, ha, pe_hs (rd_b hG).2.2, hc]
        · simp [fX10_hidden_55, pe_mb (rd_mb hM).1, hb, pe_isAxis, ha, pe_ms (rd_mb hM).2.2, hc]
    · refine ⟨-1, h, h, ?_, ?_, H⟩
      · simp [fX9_hidden_0, pe_bba _ _ (rd_b hG).1, hb, ha]
      · simp [fX10_hidden_55, pe_mb (rd_mb hM).1, hb, pe_isAxis, ha]
  · refine ⟨-1, h, h, ?_, ?_, H⟩
    · simp [fX9_hidden_0, pe_bba _ _ (rd_b hG).1, hb]
    · simp [fX10_hidden_55, pe_mb (rd_mb hM).1, hb]
