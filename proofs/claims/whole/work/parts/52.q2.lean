/-! the first of the least: loops that look for a best one; whether a sheet does -/
theorem pz_l6 {k : Nat} (h : k < 6) : nI k < 6 := (nI_lt h (by decide) : nI k < nI 6)
def enc (o : Option Nat) : Int32 := match o with
  | none => -6
  | some j => nI j
theorem enc_none : enc none = -6 := rfl
theorem enc_some (j : Nat) : enc (some j) = nI j := rfl
def wst (P : Nat → Bool) (M : Nat → Nat) (k : Nat) (o : Option Nat) : Option Nat := if P k = true then (match o with
  | none => some k
  | some j => if M k < M j then some k else some j) else o
def wfd (P : Nat → Bool) (M : Nat → Nat) : Nat → Nat → Option Nat → Option Nat
  | 0, _, o => o
  | n + 1, k, o => wfd P M n (k + 1) (wst P M k o)
/-- what has been found lies below n -/
def bel (n : Nat) (o : Option Nat) : Prop := ∀ j, o = some j → j < n
theorem bel_none (n : Nat) : bel n none := fun j h => by cases h
theorem wst_bel {P : Nat → Bool} {M : Nat → Nat} {k : Nat} {o : Option Nat} (h : bel k o) : bel (k + 1) (wst P M k o) := by
  intro j hj
  unfold wst at hj
  by_cases q : P k = true
  · rw [if_pos q] at hj
    cases o with
    | none => cases hj; omega
    | some i =>
      have := h i rfl
      simp only at hj
      split at hj <;> cases hj <;> omega
  · rw [if_neg q] at hj
    have := h j hj
    omega
theorem wfd_bel {P : Nat → Bool} {M : Nat → Nat} : ∀ (n k : Nat) (o : Option Nat), bel k o → bel (k + n) (wfd P M n k o)
  | 0, k, o, h => h
  | n + 1, k, o, h => by
    have := wfd_bel (P := P) (M := M) n (k + 1) _ (wst_bel (P := P) (M := M) h)
    rw [show k + 1 + n = k + (n + 1) by omega] at this
    exact this
theorem enc_eq {n : Nat} {o : Option Nat} (h : bel n o) (hn : n ≤ 2 ^ 31) : (enc o = -6) = (o = none) := by
  cases o with
  | none => simp [enc]
  | some j =>
    have := h j rfl
    have h1 : ¬ nI j = -6 := fun q => by
      have := congrArg Int32.toInt q
      rw [nI_toInt (by omega)] at this
      have e6 : (-6 : Int32).toInt = -6 := rfl
      omega
    simp [enc, h1]
theorem enc_lt {n : Nat} {o : Option Nat} (h : bel n o) (hn : n ≤ 2 ^ 31) : (enc o < 0) = (o = none) := by
  cases o with
  | none => simp [enc]
  | some j =>
    have := h j rfl
    have h1 : ¬ nI j < 0 := nI_pos (by omega)
    simp [enc, h1]
theorem pz_max0 {r w : Nat} (hr : r < 2 ^ 30) (hw : w < 2 ^ 30) : mv_max 0 (nI r - nI w) = nI (r - w) := by
  unfold mv_max
  by_cases h : w < r
  · rw [pk_sub (by omega), if_pos (show (0 : Int32) < nI (r - w) from nI_lt (a := 0) (by omega) (by omega))]
  · by_cases e : r = w
    · subst e; simp [pk_sub, pz_lit]
    · rw [if_neg (fun q => by
        have h1 := pk_sneg hw (show r < w by omega)
        rw [pz_lt] at h1 q
        have : (0 : Int32).toInt = 0 := rfl
        omega), show r - w = 0 by omega]; rfl
theorem pe_above {r w : Nat} (hr : r < 2 ^ 30) (hw : w < 2 ^ 30) : fX10_above (nI r - nI w) = some (nI (r - w)) := by
  rw [← pz_max0 hr hw]
  unfold fX10_above mv_max
  by_cases q : 0 < nI r - nI w <;> simp [q]
theorem pe_lack {h : mv_H} {a b c l e x t w g : Nat} (i : WrapIs h a b c l e) (hb : a ≤ 20 ∧ b ≤ 20 ∧ c ≤ 20) (hl : l ≤ 9) (he : e ≤ 9) (hx : x < 3) (ht : t < 2) (hw : w ≤ 150) (hg : g ≤ 150) : fX8_lackOn_38 (nI x) (nI t) (nI w) (nI g) h = some (nI (if t = 0 then (sR a b c l x - w) + (sL a b c e x - g) else (sR a b c l x - g) + (sL a b c e x - w))) := by
  obtain ⟨b1, b2, -⟩ := sP_lt (x := x) hb hl he
  unfold fX8_lackOn_38 fX8_lackOn_38_b10 fX8_lackOn_38_b22
  simp only [pe_round i hx, pe_reach i hx hb, Option.bind_some]
  rcases (show t = 0 ∨ t = 1 by omega) with rfl | rfl
  · simp [pz_lit, pz_max0 (show sR a b c l x < 2 ^ 30 by omega) (show w < 2 ^ 30 by omega), pz_max0 (show sL a b c e x < 2 ^ 30 by omega) (show g < 2 ^ 30 by omega), nI_add]
  · simp [pz_lit, pz_max0 (show sR a b c l x < 2 ^ 30 by omega) (show g < 2 ^ 30 by omega), pz_max0 (show sL a b c e x < 2 ^ 30 by omega) (show w < 2 ^ 30 by omega), nI_add]
def wP (a b c l e w g k : Nat) : Bool := if k % 2 = 0 then decide (sR a b c l (k / 2) ≤ w ∧ sL a b c e (k / 2) ≤ g) else decide (sR a b c l (k / 2) ≤ g ∧ sL a b c e (k / 2) ≤ w)
theorem pz_half {k : Nat} (hk : k < 2 ^ 31) : nI k / 2 = nI (k / 2) := pk_div hk (by decide) (by decide)
theorem pz_mod2 {k : Nat} (hk : k < 2 ^ 31) : nI k - nI k / 2 * 2 = nI (k % 2) := pk_rem (d := 2) hk (by decide) (by decide)
theorem pz_mod2' {k : Nat} (hk : k < 2 ^ 31) : nI k - nI (k / 2) * 2 = nI (k % 2) := by rw [← pz_half hk]; exact pz_mod2 hk
theorem pe_wayLoop {h : mv_H} {a b c l e w g : Nat} (i : WrapIs h a b c l e) (hb : a ≤ 20 ∧ b ≤ 20 ∧ c ≤ 20) (hl : l ≤ 9) (he : e ≤ 9) (hw : w ≤ 150) (hg : g ≤ 150) : ∀ (n k m : Nat) (o : Option Nat), n + k = 6 → n < m → bel k o → fX8_wayOnSheet_38_b6 m (nI w) (nI g) (enc o) (nI k) h = some (enc (wfd (wP a b c l e w g) (fun k => sP a b c l e (k / 2)) n k o))
  | n, k, 0, o, hn, hm, _ => absurd hm (by omega)
  | 0, k, m + 1, o, hn, _, _ => by
    rw [show k = 6 by omega, fX8_wayOnSheet_38_b6, if_neg (by decide)]; rfl
  | n + 1, k, m + 1, o, hn, hm, ho => by
    have ih := pe_wayLoop i hb hl he hw hg n (k + 1) m (wst (wP a b c l e w g) (fun k => sP a b c l e (k / 2)) k o) (by omega) (by omega) (wst_bel ho)
    obtain ⟨b1, b2, b3⟩ := sP_lt (x := k / 2) hb hl he
    have hlk := pe_lack i hb hl he (show k / 2 < 3 by omega) (show k % 2 < 2 by omega) hw hg
    rw [fX8_wayOnSheet_38_b6, if_pos (pz_l6 (show k < 6 by omega))]
    simp only [fX9_axisOf, fX9_turnOf, pz_half (show k < 2 ^ 31 by omega), pz_mod2' (show k < 2 ^ 31 by omega), Option.bind_some, hlk]
    have hz : ∀ z : Nat, z < 2 ^ 31 → (nI z = 0) = (z = 0) := fun z hz => propext (nI_eq hz (by decide))
    have hP : (wP a b c l e w g k = true) = ((if k % 2 = 0 then (sR a b c l (k / 2) - w) + (sL a b c e (k / 2) - g) else (sR a b c l (k / 2) - g) + (sL a b c e (k / 2) - w)) = 0) := by
      unfold wP
      by_cases q : k % 2 = 0
      · simp [q]; omega
      · simp [q]; omega
    simp only [hz _ (show (if k % 2 = 0 then (sR a b c l (k / 2) - w) + (sL a b c e (k / 2) - g) else (sR a b c l (k / 2) - g) + (sL a b c e (k / 2) - w)) < 2 ^ 31 by split <;> omega), ← hP, enc_eq ho (by omega), fX8_wayOnSheet_38_b59, fX8_wayOnSheet_38_b62, nI_1]
    rw [wfd, ← ih]
    by_cases q : wP a b c l e w g k = true
    · rw [if_pos q]
      cases o with
      | none => simp [wst, q, enc]
      | some j =>
        have hj := ho j rfl
        obtain ⟨-, -, b4⟩ := sP_lt (x := j / 2) hb hl he
        simp only [enc_some, pz_half (show j < 2 ^ 31 by omega), pe_paper i (show k / 2 < 3 by omega) hb, pe_paper i (show j / 2 < 3 by omega) hb, Option.bind_some, reduceCtorEq, if_false, pz_lt3 (show sP a b c l e (k / 2) < 2 ^ 31 by omega) (show sP a b c l e (j / 2) < 2 ^ 31 by omega)]
        by_cases q2 : sP a b c l e (k / 2) < sP a b c l e (j / 2) <;> simp [wst, q, q2, enc]
    · rw [if_neg q]; simp [wst, q]
theorem pe_way {h : mv_H} {a b c l e w g : Nat} (i : WrapIs h a b c l e) (hb : a ≤ 20 ∧ b ≤ 20 ∧ c ≤ 20) (hl : l ≤ 9) (he : e ≤ 9) (hw : w ≤ 150) (hg : g ≤ 150) : fX8_wayOnSheet_38 (nI w) (nI g) h = some (enc (wfd (wP a b c l e w g) (fun k => sP a b c l e (k / 2)) 6 0 none)) :=
  pe_wayLoop i hb hl he hw hg 6 0 mv_F none rfl (by rw [mv_F_eq]; decide) (bel_none 0)
theorem pe_doesLoop {h : mv_H} {a b c l e w g s : Nat} (i : LayIs h a b c l e) (hb : a ≤ 20 ∧ b ≤ 20 ∧ c ≤ 20) (hl : l ≤ 9) (he : e ≤ 9) (hw : w ≤ 150) (hg : g ≤ 150) (hs : s < 6) (ew : h 58 s = nI w) (eg : h 59 s = nI g) : ∀ (n k m : Nat) (o : Option Nat), n + k = 6 → n < m → bel k o → fX10_doesBy_55_b5 m (nI s) (enc o) (nI k) h = some (enc (wfd (wP a b c l e w g) (fun k => sP a b c l e (k / 2)) n k o))
  | n, k, 0, o, hn, hm, _ => absurd hm (by omega)
  | 0, k, m + 1, o, hn, _, _ => by
    rw [show k = 6 by omega, fX10_doesBy_55_b5, if_neg (by decide)]; rfl
  | n + 1, k, m + 1, o, hn, hm, ho => by
    have ih := pe_doesLoop i hb hl he hw hg hs ew eg n (k + 1) m (wst (wP a b c l e w g) (fun k => sP a b c l e (k / 2)) k o) (by omega) (by omega) (wst_bel ho)
    obtain ⟨b1, b2, b3⟩ := sP_lt (x := k / 2) hb hl he
    obtain ⟨c1, c2, -⟩ := pz_ax3 (k / 2) (by omega)
    obtain ⟨d1, d2, -⟩ := pz_i6 s hs
    obtain ⟨i1, i2, -⟩ := i (k / 2) (by omega)
    rw [fX10_doesBy_55_b5, if_pos (pz_l6 (show k < 6 by omega))]
    have hz : (nI (k % 2) = 0) = (k % 2 = 0) := propext (nI_eq (by omega) (by decide))
    simp only [mv_let, pz_half (show k < 2 ^ 31 by omega), pz_mod2' (show k < 2 ^ 31 by omega), if_pos c1, if_pos d1, c2, d2, i1, i2, ew, eg, hz, pz_lt3 (show w < 2 ^ 31 by omega) (show sR a b c l (k / 2) < 2 ^ 31 by omega), pz_lt3 (show g < 2 ^ 31 by omega) (show sR a b c l (k / 2) < 2 ^ 31 by omega), pz_lt3 (show w < 2 ^ 31 by omega) (show sL a b c e (k / 2) < 2 ^ 31 by omega), pz_lt3 (show g < 2 ^ 31 by omega) (show sL a b c e (k / 2) < 2 ^ 31 by omega), fX10_doesBy_55_b58, fX10_doesBy_55_b98]
    have e99 : ∀ z : Bool, fX10_doesBy_55_b99 (fX10_doesBy_55_b5 m) (nI s) (enc o) (nI k) (nI (k / 2)) (if z = true then 1 else 0) h = fX10_doesBy_55_b5 m (nI s) (enc (wst (fun _ => z) (fun k => sP a b c l e (k / 2)) k o)) (nI (k + 1)) h := by
      intro z
      unfold fX10_doesBy_55_b99 fX10_doesBy_55_b130 fX10_doesBy_55_b126 fX10_doesBy_55_b131 fX10_doesBy_55_b143
      cases z with
      | false => simp [nI_1, wst]
      | true =>
        simp only [if_true, enc_lt ho (by omega)]
        cases o with
        | none => simp [nI_1, enc, wst]
        | some j =>
          have hj := ho j rfl
          obtain ⟨-, -, b4⟩ := sP_lt (x := j / 2) hb hl he
          simp only [enc_some, pz_half (show j < 2 ^ 31 by omega), pe_mpaper i (show k / 2 < 3 by omega), pe_mpaper i (show j / 2 < 3 by omega), Option.bind_some, reduceCtorEq, if_false, pz_lt3 (show sP a b c l e (k / 2) < 2 ^ 31 by omega) (show sP a b c l e (j / 2) < 2 ^ 31 by omega)]
          by_cases q2 : sP a b c l e (k / 2) < sP a b c l e (j / 2) <;> simp [q2, enc, nI_1, wst]
    have t99 := e99 true
    have f99 := e99 false
    simp only [if_true, Bool.false_eq_true, if_false] at t99 f99
    have hu : ∀ z, wP a b c l e w g k = z → wst (wP a b c l e w g) (fun k => sP a b c l e (k / 2)) k o = wst (fun _ => z) (fun k => sP a b c l e (k / 2)) k o := fun z hz => by unfold wst; rw [hz]
    rw [wfd, ← ih]
    by_cases q : k % 2 = 0
    · by_cases q1 : w < sR a b c l (k / 2)
      · have hp : ¬ wP a b c l e w g k = true := by simp [wP, q]; omega
        rw [hu false (by simpa using hp)]; simp [q, q1, f99]
      · by_cases q2 : g < sL a b c e (k / 2)
        · have hp : ¬ wP a b c l e w g k = true := by simp [wP, q]; omega
          rw [hu false (by simpa using hp)]; simp [q, q1, q2, f99]
        · have hp : wP a b c l e w g k = true := by simp [wP, q]; omega
          rw [hu true hp]; simp [q, q1, q2, t99]
    · by_cases q1 : g < sR a b c l (k / 2)
      · have hp : ¬ wP a b c l e w g k = true := by simp [wP, q]; omega
        rw [hu false (by simpa using hp)]; simp [q, q1, f99]
      · by_cases q2 : w < sL a b c e (k / 2)
        · have hp : ¬ wP a b c l e w g k = true := by simp [wP, q]; omega
          rw [hu false (by simpa using hp)]; simp [q, q1, q2, f99]
        · have hp : wP a b c l e w g k = true := by simp [wP, q]; omega
          rw [hu true hp]; simp [q, q1, q2, t99]
theorem pe_does {h : mv_H} {a b c l e w g s : Nat} (i : LayIs h a b c l e) (hb : a ≤ 20 ∧ b ≤ 20 ∧ c ≤ 20) (hl : l ≤ 9) (he : e ≤ 9) (hw : w ≤ 150) (hg : g ≤ 150) (hs : s < 6) (ew : h 58 s = nI w) (eg : h 59 s = nI g) : fX10_doesBy_55 (nI s) h = some (enc (wfd (wP a b c l e w g) (fun k => sP a b c l e (k / 2)) 6 0 none)) :=
  pe_doesLoop i hb hl he hw hg hs ew eg 6 0 mv_F none rfl (by rw [mv_F_eq]; decide) (bel_none 0)
