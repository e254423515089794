/-! folds over numbers as trees of digits; the members of a set -/
def fo {σ : Type} (g : Nat → σ → σ) : Nat → Nat → σ → σ
  | 0, _, st => st
  | n + 1, k, st => fo g n (k + 1) (g k st)
theorem fo_split {σ : Type} (g : Nat → σ → σ) : ∀ (a b k : Nat) (st : σ), fo g (a + b) k st = fo g b (k + a) (fo g a k st)
  | 0, b, k, st => by rw [Nat.zero_add]; rfl
  | a + 1, b, k, st => by
    rw [show a + 1 + b = (a + b) + 1 by omega]
    show fo g (a + b) (k + 1) (g k st) = _
    rw [fo_split g a b (k + 1) (g k st), show k + 1 + a = k + (a + 1) by omega]; rfl
theorem fo_congr {σ : Type} {g g' : Nat → σ → σ} : ∀ (n k : Nat) (st : σ), (∀ j, k ≤ j → j < k + n → ∀ s, g j s = g' j s) → fo g n k st = fo g' n k st
  | 0, _, _, _ => rfl
  | n + 1, k, st, h => by
    show fo g n (k + 1) (g k st) = fo g' n (k + 1) (g' k st)
    rw [h k (by omega) (by omega)]
    exact fo_congr n (k + 1) _ (fun j h1 h2 => h j (by omega) (by omega))
theorem fo_id {σ : Type} {g : Nat → σ → σ} : ∀ (n k : Nat) (st : σ), (∀ j, k ≤ j → j < k + n → g j st = st) → fo g n k st = st
  | 0, _, _, _ => rfl
  | n + 1, k, st, h => by
    show fo g n (k + 1) (g k st) = st
    rw [h k (by omega) (by omega)]
    exact fo_id n (k + 1) st (fun j h1 h2 => h j (by omega) (by omega))
theorem fo_tree {σ : Type} (f : Nat → σ → σ) (m M a : Nat) : ∀ (n d : Nat) (st : σ), fo f (n * M) ((a * m + d) * M) st = fo (fun e s => fo f M ((a * m + e) * M) s) n d st
  | 0, d, st => by rw [Nat.zero_mul]; rfl
  | n + 1, d, st => by
    rw [show (n + 1) * M = M + n * M by rw [Nat.add_mul]; omega, fo_split]
    rw [show (a * m + d) * M + M = (a * m + (d + 1)) * M by rw [show a * m + (d + 1) = (a * m + d) + 1 by omega, Nat.add_mul (a * m + d) 1 M]; omega]
    exact fo_tree f m M a n (d + 1) _
/-- something is kept by every step, and made by one -/
theorem fo_some {σ : Type} {g : Nat → Option σ → Option σ} : ∀ (n k : Nat) (st : Option σ), (∀ j s, s.isSome = true → (g j s).isSome = true) → st.isSome = true → (fo g n k st).isSome = true
  | 0, _, _, _, h => h
  | n + 1, k, st, hg, h => fo_some n (k + 1) _ hg (hg k st h)
theorem fo_made {σ : Type} {g : Nat → Option σ → Option σ} : ∀ (n k j : Nat) (st : Option σ), (∀ j s, s.isSome = true → (g j s).isSome = true) → k ≤ j → j < k + n → (∀ s, (g j s).isSome = true) → (fo g n k st).isSome = true
  | 0, k, j, _, _, h1, h2, _ => absurd h2 (by omega)
  | n + 1, k, j, st, hg, h1, h2, h3 => by
    by_cases e : j = k
    · subst e; exact fo_some n (j + 1) _ hg (h3 st)
    · exact fo_made n (k + 1) j _ hg (by omega) (by omega) h3
def ml (t : Nat) : Nat → Nat → List Nat
  | 0, _ => []
  | n + 1, k => if t.testBit k = true then k :: ml t n (k + 1) else ml t n (k + 1)
def mems (t : Nat) : List Nat := ml t 6 0
def mb (t j : Nat) : Nat := (mems t).getD j 0
theorem mems_len : ∀ t, t < 64 → (mems t).length = pc t := by decide +kernel
theorem mb_p : ∀ t, t < 64 → ∀ j, j < 6 → j < pc t → mb t j < 6 ∧ t.testBit (mb t j) = true := by decide +kernel
theorem mb_inj0 : ∀ t, t < 64 → ∀ i, i < 6 → ∀ j, j < 6 → (i < pc t ∧ j < pc t ∧ mb t i = mb t j) → i = j := by decide +kernel
theorem mb_inj {t i j : Nat} (ht : t < 64) (hi : i < pc t) (hj : j < pc t) (e : mb t i = mb t j) : i = j := mb_inj0 t ht i (by have := pc_le t; omega) j (by have := pc_le t; omega) ⟨hi, hj, e⟩
theorem ml_s (t n k : Nat) : ml t (n + 1) k = if t.testBit k = true then k :: ml t n (k + 1) else ml t n (k + 1) := rfl
theorem fo_ml {σ : Type} {t : Nat} {G : Nat → σ → σ} : ∀ (n k : Nat) (st : σ), fo (fun b s => if t.testBit b = true then G b s else s) n k st = (ml t n k).foldl (fun s b => G b s) st
  | 0, _, _ => rfl
  | n + 1, k, st => by
    show fo _ n (k + 1) (if t.testBit k = true then G k st else st) = _
    rw [fo_ml n (k + 1), ml_s]
    by_cases q : t.testBit k = true
    · rw [if_pos q, if_pos q]; rfl
    · rw [if_neg q, if_neg q]
theorem fo_list {σ : Type} {G : Nat → σ → σ} : ∀ (l : List Nat) (k : Nat) (st : σ), fo (fun d s => G (l.getD (d - k) 0) s) l.length k st = l.foldl (fun s b => G b s) st
  | [], _, _ => rfl
  | x :: r, k, st => by
    show fo (fun d s => G ((x :: r).getD (d - k) 0) s) r.length (k + 1) (G ((x :: r).getD (k - k) 0) st) = r.foldl (fun s b => G b s) (G x st)
    rw [show k - k = 0 by omega, show (x :: r).getD 0 0 = x from rfl, ← fo_list r (k + 1)]
    refine fo_congr _ _ _ (fun j h1 h2 s => ?_)
    rw [show j - k = (j - (k + 1)) + 1 by omega]
    simp
theorem fo_mems {σ : Type} {t : Nat} (ht : t < 64) {G : Nat → σ → σ} (st : σ) : fo (fun b s => if t.testBit b = true then G b s else s) 6 0 st = fo (fun d s => G (mb t d) s) (pc t) 0 st := by
  rw [fo_ml, ← mems_len t ht]
  have := fo_list (G := G) (mems t) 0 st
  exact this.symm
/-! digits -/
def dgt (m i a k : Nat) : Nat := (a / m ^ (i - 1 - k)) % m
theorem dgt_lt {m i a k d : Nat} (hd : d < m) (hk : k < i) : dgt m (i + 1) (a * m + d) k = dgt m i a k := by
  unfold dgt
  rw [show i + 1 - 1 - k = (i - 1 - k) + 1 by omega, Nat.pow_succ, Nat.mul_comm (m ^ (i - 1 - k)) m, ← Nat.div_div_eq_div_mul, Nat.mul_comm a m, Nat.mul_add_div (by omega), Nat.div_eq_of_lt hd, Nat.add_zero]
theorem dgt_eq {m i a d : Nat} (hd : d < m) : dgt m (i + 1) (a * m + d) i = d := by
  unfold dgt
  rw [show i + 1 - 1 - i = 0 by omega, Nat.pow_zero, Nat.div_one, Nat.mul_comm a m, Nat.mul_add_mod, Nat.mod_eq_of_lt hd]
theorem dgt_b {m i a k : Nat} (hm : 0 < m) : dgt m i a k < m := Nat.mod_lt _ hm
def orr (r : Nat → Nat) : Nat → Nat
  | 0 => 0
  | i + 1 => orr r i ||| 2 ^ r i
theorem orr_congr {r r' : Nat → Nat} : ∀ i, (∀ k, k < i → r k = r' k) → orr r i = orr r' i
  | 0, _ => rfl
  | i + 1, h => by
    unfold orr
    rw [orr_congr i (fun k hk => h k (by omega)), h i (by omega)]
theorem orr_lt {r : Nat → Nat} {m : Nat} : ∀ i, (∀ k, k < i → r k < m) → orr r i < 2 ^ m
  | 0, _ => Nat.two_pow_pos m
  | i + 1, h => by
    unfold orr
    exact Nat.or_lt_two_pow (orr_lt i (fun k hk => h k (by omega))) (Nat.pow_lt_pow_right (by decide) (h i (by omega)))
theorem pz_pcor : ∀ x, x < 64 → ∀ d, d < 6 → pc (x ||| 2 ^ d) = pc x + (if x.testBit d = true then 0 else 1) := by decide +kernel
theorem pz_full : ∀ m, m ≤ 6 → ∀ x, x < 2 ^ m → (pc x = m ↔ x = 2 ^ m - 1) := by decide +kernel
theorem orr_pc {r : Nat → Nat} : ∀ i, (∀ k, k < i → r k < 6) → pc (orr r i) ≤ i
  | 0, _ => by show pc 0 ≤ 0; decide
  | i + 1, h => by
    have := orr_pc (r := r) i (fun k hk => h k (by omega))
    have h6 := orr_lt (r := r) (m := 6) i (fun k hk => h k (by omega))
    unfold orr
    rw [pz_pcor _ h6 _ (h i (by omega))]
    split <;> omega
theorem pow_le6 {m : Nat} (hm : m ≤ 6) : 2 ^ m ≤ 64 := Nat.le_trans (Nat.pow_le_pow_right (by decide) hm) (by decide)
/-! the reference's look, and what it leaves -/
theorem pe_look2 {i : Nat} (hi : i < 6) {h : mv_H} {N : Nat → Nat → Nat} (hM : rdM h N) (hN : okN N) : ∃ h1, fX10_look_55 (nI i) h = some h1 ∧ LayIs h1 (N 1 (3 * i)) (N 1 (3 * i + 1)) (N 1 (3 * i + 2)) (N 0 3) (N 0 4) ∧ (∀ o k, ¬ (65 ≤ o ∧ o ≤ 69) → h1 o k = h o k) := by
  obtain ⟨⟨x1, y1⟩, ⟨x2, y2⟩, x3, y3⟩ := pz_iy i hi
  have hr : ∀ j, j < 18 → h 56 j = nI (N 1 j) := fun j hj => rd_m hM (a := 1) (by decide) (by unfold vld; omega)
  have hb := hN.b hi
  obtain ⟨hl, he⟩ := (⟨(rd_ms hM).1, (rd_ms hM).2.1⟩ : h 55 7 = nI (N 0 3) ∧ h 55 8 = nI (N 0 4))
  obtain ⟨a, ea⟩ : ∃ a, a = N 1 (3 * i) := ⟨_, rfl⟩
  obtain ⟨b, eb⟩ : ∃ b, b = N 1 (3 * i + 1) := ⟨_, rfl⟩
  obtain ⟨c, ec⟩ : ∃ c, c = N 1 (3 * i + 2) := ⟨_, rfl⟩
  obtain ⟨l, el⟩ : ∃ l, l = N 0 3 := ⟨_, rfl⟩
  obtain ⟨e, ee⟩ : ∃ e, e = N 0 4 := ⟨_, rfl⟩
  rw [← ea, ← eb, ← ec] at hb
  rw [← el] at hl
  rw [← ee] at he
  obtain ⟨m, hm⟩ : ∃ m, mv_F = m + 1 + 1 + 1 + 1 := ⟨999996, mv_F_eq⟩
  obtain ⟨h0, e0⟩ : ∃ h0, h0 = mv_u (mv_u (mv_u h 69 0 (nI a)) 69 1 (nI b)) 69 2 (nI c) := ⟨_, rfl⟩
  have s0 : h0 69 0 = nI (sA a b c 0) ∧ h0 69 1 = nI (sA a b c 1) ∧ h0 69 2 = nI (sA a b c 2) ∧ h0 55 7 = nI l ∧ h0 55 8 = nI e := by
    rw [e0]; simp [mv_u_at, sA, hl, he]
  have hrun : fX10_layBox_55 (nI a) (nI b) (nI c) h = some (lay1 (lay1 (lay1 h0 a b c l e 0) a b c l e 1) a b c l e 2) := by
    unfold fX10_layBox_55
    rw [if_pos (by decide)]
    simp only [mv_let]
    rw [if_pos (by decide), if_pos (by decide), pz_c.1, pz_c.2.1, pz_c.2.2.1, ← e0, hm, ← pz_lit.1]
    rw [pe_lay1 (by decide) hb s0.2.2.2.1 s0.2.2.2.2 s0.1]
    rw [pe_lay1 (by decide) hb (l := l) (e := e) (by simp [lay1, mv_u_at, s0]) (by simp [lay1, mv_u_at, s0]) (by simp [lay1, mv_u_at, s0])]
    rw [pe_lay1 (by decide) hb (l := l) (e := e) (by simp [lay1, mv_u_at, s0]) (by simp [lay1, mv_u_at, s0]) (by simp [lay1, mv_u_at, s0])]
    rw [fX10_layBox_55_b24, if_neg (by decide)]
  refine ⟨lay1 (lay1 (lay1 h0 a b c l e 0) a b c l e 1) a b c l e 2, ?_, ?_, ?_⟩
  · unfold fX10_look_55
    rw [if_pos x1, if_pos x2, if_pos x3, y1, y2, y3, hr _ (by omega), hr _ (by omega), hr _ (by omega), ← ea, ← eb, ← ec, hrun]
    rfl
  · intro x hx
    rw [← ea, ← eb, ← ec, ← el, ← ee]
    rcases (show x = 0 ∨ x = 1 ∨ x = 2 by omega) with rfl | rfl | rfl <;> simp [lay1, mv_u_at, s0]
  · intro o k q
    have u1 : ∀ (g : mv_H) (x : Nat), lay1 g a b c l e x o k = g o k := fun g x => by
      unfold lay1
      rw [mv_u_at, if_neg (by omega), mv_u_at, if_neg (by omega), mv_u_at, if_neg (by omega), mv_u_at, if_neg (by omega)]
    rw [u1, u1, u1, e0, mv_u_at, if_neg (by omega), mv_u_at, if_neg (by omega), mv_u_at, if_neg (by omega)]
theorem pe_lmLoop {t : Nat} (ht : t < 64) : ∀ (n k m : Nat) (h : mv_H) (pre : List Nat), n + k = 6 → n < m → mems t = pre ++ ml t n k → pre.length ≤ k → h 55 37 = nI pre.length → (∀ j, j < pre.length → h 76 j = nI (pre.getD j 0)) → ∃ h', fX10_layMembers_55_b7 m (nI t) (nI k) h = some h' ∧ h' 55 37 = nI (mems t).length ∧ (∀ j, j < (mems t).length → h' 76 j = nI (mb t j)) ∧ (∀ o k, o ≠ 76 → ¬ (o = 55 ∧ k = 37) → h' o k = h o k)
  | n, k, 0, h, pre, _, hm, _, _, _, _ => absurd hm (by omega)
  | 0, k, m + 1, h, pre, hn, _, e, _, h1, h2 => by
    have e' : mems t = pre := by rw [e]; simp [ml]
    refine ⟨h, ?_, by rw [e']; exact h1, fun j hj => ?_, fun _ _ _ _ => rfl⟩
    · rw [show k = 6 by omega, fX10_layMembers_55_b7, if_neg (by decide)]
    · unfold mb; rw [e'] at hj ⊢; exact h2 j hj
  | n + 1, k, m + 1, h, pre, hn, hm, e, hp, h1, h2 => by
    have hk : k < 6 := by omega
    rw [fX10_layMembers_55_b7, if_pos (pz_l6 hk)]
    simp only [pz_bit t ht k hk, fX10_layMembers_55_b42, nI_1]
    by_cases q : t.testBit k = true
    · obtain ⟨c1, c2⟩ := pz_in (n := pre.length) (M := 6) (by omega) (by decide)
      rw [if_pos q, h1, if_pos c1, c2]
      simp only [mv_let]
      rw [show mv_u h 76 pre.length (nI k) 55 37 = nI pre.length from by rw [mv_u_at, if_neg (by omega)]; exact h1, nI_1]
      obtain ⟨h', a, b, c, d⟩ := pe_lmLoop ht n (k + 1) m (mv_u (mv_u h 76 pre.length (nI k)) 55 37 (nI (pre.length + 1))) (pre ++ [k]) (by omega) (by omega) (by rw [e, ml_s, if_pos q]; simp) (by simp; omega) (by rw [mv_u_at, if_pos ⟨rfl, rfl⟩]; simp) (fun j hj => by
        rw [mv_u_at, if_neg (by omega), mv_u_at]
        by_cases z : j = pre.length
        · rw [if_pos ⟨rfl, z⟩, z]; simp
        · simp at hj
          rw [if_neg (fun w => z w.2), h2 j (by omega)]
          simp [List.getElem?_append_left (show j < pre.length by omega)])
      refine ⟨h', a, b, c, fun o j q1 q2 => ?_⟩
      rw [d o j q1 q2, mv_u_at, if_neg q2, mv_u_at, if_neg (fun z => q1 z.1)]
    · rw [if_neg q]
      exact pe_lmLoop ht n (k + 1) m h pre (by omega) (by omega) (by rw [e, ml_s, if_neg q]) (by omega) h1 h2
theorem pe_lm {t : Nat} (ht : t < 64) (h : mv_H) : ∃ h', fX10_layMembers_55 (nI t) h = some h' ∧ h' 55 37 = nI (pc t) ∧ (∀ j, j < pc t → h' 76 j = nI (mb t j)) ∧ (∀ o k, o ≠ 76 → ¬ (o = 55 ∧ k = 37) → h' o k = h o k) := by
  obtain ⟨h', a, b, c, d⟩ := pe_lmLoop ht 6 0 mv_F (mv_u h 55 37 0) [] rfl (by rw [mv_F_eq]; decide) rfl (Nat.le_refl 0) (by rw [mv_u_at, if_pos ⟨rfl, rfl⟩]; rfl) (fun j hj => absurd hj (by simp))
  rw [mems_len t ht] at b c
  refine ⟨h', ?_, b, c, fun o k q1 q2 => by rw [d o k q1 q2, mv_u_at, if_neg q2]⟩
  unfold fX10_layMembers_55
  simp only [mv_let]
  exact a
/-! sets of bits that are there -/
theorem pz_holds {v : Int32} {b : Nat} (hb : b < 64) (h : v &&& (nI b ^^^ (-1)) = 0) : ∃ t, t < 64 ∧ v = nI t ∧ t &&& b = t := by
  have hv : v.toBitVec &&& ~~~(nI b).toBitVec = 0#32 := by
    have := congrArg Int32.toBitVec h
    simpa using this
  have h2 : v.toBitVec &&& (nI b).toBitVec = v.toBitVec := by
    apply BitVec.eq_of_getElem_eq
    intro i hi
    have := congrArg (fun x : BitVec 32 => x[i]) hv
    simp only [BitVec.getElem_and, BitVec.getElem_not, BitVec.getElem_zero] at this
    rw [BitVec.getElem_and]
    revert this
    cases v.toBitVec[i] <;> cases (nI b).toBitVec[i] <;> simp
  have h3 : v.toBitVec.toNat ≤ b := by
    rw [← h2, BitVec.toNat_and, pk_tn (show b < 2 ^ 32 by omega)]
    exact Nat.and_le_right
  have h4 : v = nI v.toBitVec.toNat := by
    apply Int32.toBitVec_inj.mp
    apply BitVec.eq_of_toNat_eq
    rw [pk_tn (by omega)]
  obtain ⟨t, et⟩ : ∃ t, t = v.toBitVec.toNat := ⟨_, rfl⟩
  rw [← et] at h3 h4
  refine ⟨t, by omega, h4, ?_⟩
  rw [h4] at h
  exact (pz_subA t (by omega) b hb).mp h
theorem pe_holds2 {v : Int32} {h : mv_H} {b : Nat} (e : h 2 2 = nI b) : fX7_holdsAll_2 v h = some (if v &&& (nI b ^^^ (-1)) = 0 then 1 else 0) := by
  unfold fX7_holdsAll_2
  rw [e]
  by_cases q : v &&& (nI b ^^^ (-1)) = 0
  · rw [if_pos q, if_pos q]
  · rw [if_neg q, if_neg q]
theorem pe_holds4 {v : Int32} {h : mv_H} {b : Nat} (e : h 4 2 = nI b) : fX7_holdsAll_4 v h = some (if v &&& (nI b ^^^ (-1)) = 0 then 1 else 0) := by
  unfold fX7_holdsAll_4
  rw [e]
  by_cases q : v &&& (nI b ^^^ (-1)) = 0
  · rw [if_pos q, if_pos q]
  · rw [if_neg q, if_neg q]
theorem pz_63 : (63 : Int64).toInt = 63 := rfl
theorem pe_areBoxes {v : Int32} {h : mv_H} {b : Nat} (hb : b < 64) (e : h 55 0 = nI b) : fX10_areBoxes_55 v h = some (if v &&& (nI b ^^^ (-1)) = 0 then 1 else 0) := by
  unfold fX10_areBoxes_55
  rw [pe_in, Int32.toInt_toInt64, Option.bind_some, e]
  simp only [pz_64, pz_63, pz_i0]
  by_cases q : v &&& (nI b ^^^ (-1)) = 0
  · obtain ⟨t, ht, rfl, -⟩ := pz_holds hb q
    rw [if_neg (by rw [nI_toInt (by omega)]; omega), if_pos q, if_pos q]
  · rw [if_neg q, if_neg q]; simp
