/-! usedUp: all orders, as a tree -/
def tkn (N : Nat → Nat → Nat) (u b : Nat) : Option Nat := wfd (fun s => u.testBit s && (sWay N b s).isSome) (fun s => N 3 s * N 4 s) 6 0 none
def su (N : Nat → Nat → Nat) (u b : Nat) : Nat := match tkn N u b with
  | none => u
  | some s => u - (u &&& 2 ^ s)
def sw (N : Nat → Nat → Nat) (u b : Nat) : Nat := match tkn N u b with
  | none => 0
  | some _ => 1
theorem tkn_bel (N : Nat → Nat → Nat) (u b : Nat) : bel 6 (tkn N u b) := wfd_bel 6 0 none (bel_none 0)
theorem wfd_in {P : Nat → Bool} {M : Nat → Nat} : ∀ (n k : Nat) (o : Option Nat), (∀ i, o = some i → P i = true) → ∀ i, wfd P M n k o = some i → P i = true
  | 0, _, o, h, i, hi => h i hi
  | n + 1, k, o, h, i, hi => by
    refine wfd_in n (k + 1) (wst P M k o) (fun i hi => ?_) i hi
    unfold wst at hi
    by_cases q : P k = true
    · rw [if_pos q] at hi
      cases o with
      | none => cases hi; exact q
      | some z =>
        simp only at hi
        split at hi
        · cases hi; exact q
        · cases hi; exact h _ rfl
    · rw [if_neg q] at hi
      exact h i hi
theorem tkn_bit {N : Nat → Nat → Nat} {u b s : Nat} (h : tkn N u b = some s) : s < 6 ∧ u.testBit s = true := by
  refine ⟨tkn_bel N u b s h, ?_⟩
  have := wfd_in 6 0 none (fun i hi => by cases hi) s h
  simp at this
  exact this.1
theorem pz_pcd : ∀ u, u < 64 → ∀ s, s < 6 → u.testBit s = true → pc (u - (u &&& 2 ^ s)) + 1 = pc u := by decide +kernel
theorem su_p {N : Nat → Nat → Nat} {u b : Nat} (hu : u < 64) : su N u b < 64 ∧ pc (su N u b) + sw N u b = pc u ∧ (∀ j, j < 6 → (su N u b).testBit j = true → u.testBit j = true) := by
  unfold su sw
  cases h : tkn N u b with
  | none => exact ⟨hu, rfl, fun j _ hj => hj⟩
  | some s =>
    obtain ⟨h1, h2⟩ := tkn_bit h
    refine ⟨(pz_del u hu s h1).2, pz_pcd u hu s h1 h2, fun j hj hb => ?_⟩
    have hb' : (u - (u &&& 2 ^ s)).testBit j = true := hb
    rw [pz_delT u hu s h1 j hj] at hb'
    simp at hb'
    exact hb'.1
abbrev St : Type := Option (Nat × (Nat → Nat))
def lfst (w : Nat) (r : Nat → Nat) (st : St) : St := match st with
  | none => some (w, r)
  | some (B, R) => if B < w then some (w, r) else some (B, R)
def DF (N : Nat → Nat → Nat) : Nat → Nat → Nat → Nat → (Nat → Nat) → Nat → St → St
  | 0, _, _, w, r, _, st => lfst w r st
  | j + 1, t, u, w, r, p, st => fo (fun b s => if t.testBit b = true then DF N j (t - (t &&& 2 ^ b)) (su N u b) (w + sw N u b) (up1 r p b) (p + 1) s else s) 6 0 st
theorem lfst_some {w : Nat} {r : Nat → Nat} (st : St) : (lfst w r st).isSome = true := by
  cases st with
  | none => rfl
  | some z =>
    obtain ⟨B, R⟩ := z
    simp only [lfst]
    split <;> rfl
theorem DF_pres {N : Nat → Nat → Nat} : ∀ (j t u w : Nat) (r : Nat → Nat) (p : Nat) (st : St), st.isSome = true → (DF N j t u w r p st).isSome = true
  | 0, t, u, w, r, p, st, h => lfst_some st
  | j + 1, t, u, w, r, p, st, h => by
    unfold DF
    refine fo_some 6 0 st (fun b s hs => ?_) h
    show (if t.testBit b = true then DF N j _ _ _ _ _ s else s).isSome = true
    split
    · exact DF_pres j _ _ _ _ _ s hs
    · exact hs
theorem pz_ex : ∀ t, t < 64 → 0 < pc t → ∃ b, b < 6 ∧ t.testBit b = true := by decide +kernel
theorem DF_made {N : Nat → Nat → Nat} : ∀ (j t u w : Nat) (r : Nat → Nat) (p : Nat) (st : St), t < 64 → pc t = j → (DF N j t u w r p st).isSome = true
  | 0, t, u, w, r, p, st, _, _ => lfst_some st
  | j + 1, t, u, w, r, p, st, ht, hp => by
    obtain ⟨b, hb, hbt⟩ := pz_ex t ht (by omega)
    unfold DF
    refine fo_made 6 0 b st (fun b s hs => ?_) (by omega) (by omega) (fun s => ?_)
    · show (if t.testBit b = true then DF N j _ _ _ _ _ s else s).isSome = true
      split
      · exact DF_pres j _ _ _ _ _ s hs
      · exact hs
    · show (if t.testBit b = true then DF N j _ _ _ _ _ s else s).isSome = true
      rw [if_pos hbt]
      exact DF_made j _ _ _ _ _ s (pz_del t ht b hb).2 (by have := pz_pcd t ht b hb hbt; omega)
theorem DF_prune {N : Nat → Nat → Nat} : ∀ (j t u w : Nat) (r : Nat → Nat) (p B : Nat) (R : Nat → Nat), u < 64 → w + min j (pc u) ≤ B → DF N j t u w r p (some (B, R)) = some (B, R)
  | 0, t, u, w, r, p, B, R, _, h => by
    show lfst w r (some (B, R)) = some (B, R)
    simp only [lfst]
    rw [if_neg (by omega)]
  | j + 1, t, u, w, r, p, B, R, hu, h => by
    unfold DF
    refine fo_id 6 0 _ (fun b _ _ => ?_)
    show (if t.testBit b = true then DF N j _ _ _ _ _ _ else _) = _
    split
    · obtain ⟨s1, s2, -⟩ := su_p (N := N) (b := b) hu
      have : sw N u b ≤ 1 := by unfold sw; split <;> omega
      exact DF_prune j _ _ _ _ _ B R s1 (by omega)
    · rfl
/-- the reference's walk through the numbers -/
def rn (t m i a : Nat) : Nat → Nat := fun k => if k < i then mb t (dgt m i a k) else 0
theorem rn_s {t m i a d : Nat} (hd : d < m) : up1 (rn t m i a) i (mb t d) = rn t m (i + 1) (a * m + d) := by
  funext k
  unfold up1 rn
  by_cases q : k = i
  · subst q
    rw [if_pos rfl, if_pos (by omega), dgt_eq hd]
  · rw [if_neg q]
    by_cases q2 : k < i
    · rw [if_pos q2, if_pos (by omega), dgt_lt hd q2]
    · rw [if_neg q2, if_neg (by omega)]
def uwl (N : Nat → Nat → Nat) (r : Nat → Nat) : Nat → Nat × Nat
  | 0 => (N 0 2, 0)
  | i + 1 => (su N (uwl N r i).1 (r i), (uwl N r i).2 + sw N (uwl N r i).1 (r i))
theorem uwl_congr {N : Nat → Nat → Nat} {r r' : Nat → Nat} : ∀ i, (∀ k, k < i → r k = r' k) → uwl N r i = uwl N r' i
  | 0, _ => rfl
  | i + 1, h => by
    unfold uwl
    rw [uwl_congr i (fun k hk => h k (by omega)), h i (by omega)]
theorem uwl_p {N : Nat → Nat → Nat} {r : Nat → Nat} (hN : N 0 2 < 64) : ∀ i, (uwl N r i).1 < 64 ∧ (uwl N r i).2 ≤ i ∧ (∀ j, j < 6 → (uwl N r i).1.testBit j = true → (N 0 2).testBit j = true)
  | 0 => ⟨hN, Nat.le_refl 0, fun j _ h => h⟩
  | i + 1 => by
    obtain ⟨h1, h2, h3⟩ := uwl_p (r := r) hN i
    obtain ⟨s1, s2, s3⟩ := su_p (N := N) (b := r i) h1
    have : sw N (uwl N r i).1 (r i) ≤ 1 := by unfold sw; split <;> omega
    exact ⟨s1, by show (uwl N r i).2 + sw N (uwl N r i).1 (r i) ≤ i + 1; omega, fun j hj hb => h3 j hj (s3 j hj hb)⟩
def fU (N : Nat → Nat → Nat) (t m a : Nat) (st : St) : St := if orr (dgt m m a) m = 2 ^ m - 1 then lfst (uwl N (rn t m m a) m).2 (rn t m m a) st else st
theorem orr_s {m i a d : Nat} (hd : d < m) : orr (dgt m (i + 1) (a * m + d)) (i + 1) = orr (dgt m i a) i ||| 2 ^ d := by
  show orr (dgt m (i + 1) (a * m + d)) i ||| 2 ^ dgt m (i + 1) (a * m + d) i = _
  rw [dgt_eq hd, orr_congr i (fun k hk => dgt_lt hd hk)]
theorem fU_bad {N : Nat → Nat → Nat} {t m : Nat} (hm : m ≤ 6) : ∀ (j i a : Nat) (st : St), i + j = m → pc (orr (dgt m i a) i) < i → fo (fU N t m) (m ^ j) (a * m ^ j) st = st
  | 0, i, a, st, hij, hp => by
    obtain rfl : i = m := by omega
    rw [Nat.pow_zero, Nat.mul_one]
    show fU N t i a st = st
    unfold fU
    rw [if_neg (fun z => ?_)]
    have h0 : 0 < i := by omega
    have := (pz_full i hm _ (orr_lt (r := dgt i i a) (m := i) i (fun k _ => dgt_b h0))).mpr z
    omega
  | j + 1, i, a, st, hij, hp => by
    have h0 : 0 < m := by omega
    rw [Nat.pow_succ, Nat.mul_comm (m ^ j) m, show a * (m * m ^ j) = (a * m + 0) * m ^ j by rw [Nat.add_zero, Nat.mul_assoc], fo_tree]
    refine fo_id m 0 st (fun d _ hd => ?_)
    refine fU_bad hm j (i + 1) (a * m + d) st (by omega) ?_
    have h6 : orr (dgt m i a) i < 64 := Nat.lt_of_lt_of_le (orr_lt (m := m) i (fun k _ => dgt_b h0)) (pow_le6 hm)
    rw [orr_s (by omega), pz_pcor _ h6 d (by omega)]
    split <;> omega
theorem fU_good {N : Nat → Nat → Nat} {t : Nat} (ht : t < 64) (hN : N 0 2 < 64) : ∀ (j i a t' : Nat) (st : St), i + j = pc t → pc (orr (dgt (pc t) i a) i) = i → t' < 64 → (∀ b, b < 6 → t'.testBit b = true → t.testBit b = true) → (∀ d, d < pc t → t'.testBit (mb t d) = !(orr (dgt (pc t) i a) i).testBit d) → fo (fU N t (pc t)) (pc t ^ j) (a * pc t ^ j) st = DF N j t' (uwl N (rn t (pc t) i a) i).1 (uwl N (rn t (pc t) i a) i).2 (rn t (pc t) i a) i st
  | 0, i, a, t', st, hij, hp, h1, h2, h3 => by
    obtain rfl : i = pc t := by omega
    have hm := pc_le t
    rw [Nat.pow_zero, Nat.mul_one]
    show fU N t (pc t) a st = lfst _ _ st
    unfold fU
    rw [if_pos]
    by_cases h0 : 0 < pc t
    · exact (pz_full _ hm _ (orr_lt (r := dgt (pc t) (pc t) a) (m := pc t) (pc t) (fun k _ => dgt_b h0))).mp hp
    · have : pc t = 0 := by omega
      rw [this]; rfl
  | j + 1, i, a, t', st, hij, hp, h1, h2, h3 => by
    have hm := pc_le t
    have h0 : 0 < pc t := by omega
    obtain ⟨m, em⟩ : ∃ m, m = pc t := ⟨_, rfl⟩
    rw [← em] at hij hp h3 hm h0 ⊢
    have h6 : orr (dgt m i a) i < 64 := Nat.lt_of_lt_of_le (orr_lt (m := m) i (fun k _ => dgt_b h0)) (pow_le6 hm)
    rw [Nat.pow_succ, Nat.mul_comm (m ^ j) m, show a * (m * m ^ j) = (a * m + 0) * m ^ j by rw [Nat.add_zero, Nat.mul_assoc], fo_tree]
    have e1 : DF N (j + 1) t' (uwl N (rn t m i a) i).1 (uwl N (rn t m i a) i).2 (rn t m i a) i st = fo (fun b s => if t.testBit b = true then (if t'.testBit b = true then DF N j (t' - (t' &&& 2 ^ b)) (su N (uwl N (rn t m i a) i).1 b) ((uwl N (rn t m i a) i).2 + sw N (uwl N (rn t m i a) i).1 b) (up1 (rn t m i a) i b) (i + 1) s else s) else s) 6 0 st := by
      show fo _ 6 0 st = _
      refine fo_congr 6 0 st (fun b _ hb s => ?_)
      by_cases q : t'.testBit b = true
      · rw [if_pos q, if_pos (h2 b (by omega) q)]
      · rw [if_neg q]
        by_cases q2 : t.testBit b = true
        · rw [if_pos q2]
        · rw [if_neg q2]
    rw [e1, fo_mems ht, ← em]
    refine fo_congr m 0 st (fun d _ hd s => ?_)
    have hd' : d < m := by omega
    obtain ⟨b1, b2⟩ := mb_p t ht d (by omega) (by omega)
    have hb := h3 d hd'
    by_cases q : (orr (dgt m i a) i).testBit d = true
    · rw [q] at hb
      show fo (fU N t m) (m ^ j) ((a * m + d) * m ^ j) s = if t'.testBit (mb t d) = true then _ else s
      rw [if_neg (by rw [hb]; decide)]
      refine fU_bad hm j (i + 1) (a * m + d) s (by omega) ?_
      rw [orr_s hd', pz_pcor _ h6 d (by omega), if_pos q]; omega
    · have q' : (orr (dgt m i a) i).testBit d = false := by simpa using q
      rw [q'] at hb
      show fo (fU N t m) (m ^ j) ((a * m + d) * m ^ j) s = if t'.testBit (mb t d) = true then _ else s
      rw [if_pos (by rw [hb]; decide)]
      have dl := pz_del t' h1 (mb t d) b1
      have ih := fU_good (N := N) ht hN j (i + 1) (a * m + d) (t' - (t' &&& 2 ^ mb t d)) s (by omega) (by rw [← em, orr_s hd', pz_pcor _ h6 d (by omega), if_neg q]; omega) dl.2 (fun b hb' hbt => by
        rw [pz_delT t' h1 _ b1 b hb'] at hbt
        simp at hbt
        exact h2 b hb' hbt.1) (fun d' hd'' => by
        obtain ⟨b3, b4⟩ := mb_p t ht d' (by omega) hd''
        rw [← em, pz_delT t' h1 _ b1 _ b3, h3 d' (by omega), orr_s hd', pz_orT]
        by_cases z : d = d'
        · subst z; simp
        · have : ¬ mb t d = mb t d' := fun w => z (mb_inj ht (by omega) hd'' w)
          simp [z, this])
      rw [← em] at ih
      rw [ih, rn_s hd']
      have ub : uwl N (rn t m (i + 1) (a * m + d)) i = uwl N (rn t m i a) i := uwl_congr i (fun k hk => by
        unfold rn
        rw [if_pos (by omega), if_pos hk, dgt_lt hd' hk])
      have ri : rn t m (i + 1) (a * m + d) i = mb t d := by
        unfold rn
        rw [if_pos (by omega), dgt_eq hd']
      have uu : uwl N (rn t m (i + 1) (a * m + d)) (i + 1) = (su N (uwl N (rn t m i a) i).1 (mb t d), (uwl N (rn t m i a) i).2 + sw N (uwl N (rn t m i a) i).1 (mb t d)) := by
        show (su N (uwl N (rn t m (i + 1) (a * m + d)) i).1 (rn t m (i + 1) (a * m + d) i), (uwl N (rn t m (i + 1) (a * m + d)) i).2 + sw N (uwl N (rn t m (i + 1) (a * m + d)) i).1 (rn t m (i + 1) (a * m + d) i)) = _
        rw [ub, ri]
      rw [uu]
theorem fU_all {N : Nat → Nat → Nat} {t : Nat} (ht : t < 64) (hN : N 0 2 < 64) (st : St) : fo (fU N t (pc t)) (pc t ^ pc t) 0 st = DF N (pc t) t (N 0 2) 0 (fun _ => 0) 0 st := by
  have := fU_good (N := N) ht hN (pc t) 0 0 t st (by omega) (by show pc 0 = 0; decide) ht (fun b _ h => h) (fun d hd => by
    rw [(mb_p t ht d (by have := pc_le t; omega) hd).2]
    show true = !(0 : Nat).testBit d
    simp)
  rw [Nat.zero_mul] at this
  rw [this]
  have : rn t (pc t) 0 0 = fun _ => 0 := by funext k; unfold rn; rw [if_neg (by omega)]
  rw [this]; rfl
