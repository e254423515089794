/-! cuts: the reference's shapes, as lists -/
def sg (x : Sz) : List Sz := [(x.1, x.2), (x.2, x.1)]
def jn (x y : Sz) : List Sz := [(x.1 + y.1, max x.2 y.2), (max x.1 y.1, x.2 + y.2)]
def pd1 (x : Sz) : List Sz → List Sz
  | [] => []
  | y :: r => jn x y ++ pd1 x r
def pdd : List Sz → List Sz → List Sz
  | [], _ => []
  | x :: r, lb => pd1 x lb ++ pdd r lb
def lb (σ : Nat) : Nat := if σ.testBit 0 = true then 1 else if σ.testBit 1 = true then 2 else if σ.testBit 2 = true then 4 else 8
def cnd (σ a : Nat) : Bool := decide (a &&& σ = a) && decide (a &&& lb σ ≠ 0)
def prs (S : Nat → List Sz) (σ : Nat) : Nat → List Sz
  | 0 => []
  | a + 1 => (if cnd σ (a + 1) = true then pdd (S (a + 1)) (S (σ - (a + 1))) else []) ++ prs S σ a
def bas (Y : Nat → Sz) (σ : Nat) : List Sz := if σ = lb σ then sg (Y (pc (σ - 1))) else []
def SF (Y : Nat → Sz) : Nat → Nat → List Sz
  | 0, _ => []
  | n + 1, σ => bas Y σ ++ prs (SF Y n) σ (σ - 1)
def SS (Y : Nat → Sz) (σ : Nat) : List Sz := SF Y 4 σ
theorem cnd_p : ∀ σ, σ < 16 → ∀ a, a < 16 → (a < σ ∧ a ≠ 0 ∧ cnd σ a = true) → (pc a < pc σ ∧ pc (σ - a) < pc σ) := by decide +kernel
theorem cnd_q : ∀ σ, σ < 16 → ∀ a, a < 16 → (a < σ ∧ a ≠ 0 ∧ cnd σ a = true) → (pc a + pc (σ - a) = pc σ ∧ a &&& σ = a) := by decide +kernel
theorem prs_congr {S S' : Nat → List Sz} {σ : Nat} : ∀ a, (∀ a', 1 ≤ a' → a' ≤ a → cnd σ a' = true → S a' = S' a' ∧ S (σ - a') = S' (σ - a')) → prs S σ a = prs S' σ a
  | 0, _ => rfl
  | a + 1, h => by
    unfold prs
    rw [prs_congr a (fun a' h1 h2 h3 => h a' h1 (by omega) h3)]
    by_cases q : cnd σ (a + 1) = true
    · obtain ⟨x, y⟩ := h (a + 1) (by omega) (Nat.le_refl _) q
      rw [x, y]
    · rw [if_neg q, if_neg q]
theorem SF_st {Y : Nat → Sz} : ∀ (n σ : Nat), 1 ≤ σ → σ < 16 → pc σ ≤ n → SF Y (n + 1) σ = SF Y n σ
  | 0, σ, h1, h2, h3 => absurd ((show ∀ σ, σ < 16 → pc σ = 0 → σ = 0 by decide +kernel) σ h2 (by omega)) (by omega)
  | n + 1, σ, h1, h2, h3 => by
    show bas Y σ ++ prs (SF Y (n + 1)) σ (σ - 1) = bas Y σ ++ prs (SF Y n) σ (σ - 1)
    congr 1
    refine prs_congr _ (fun a' a1 a2 a3 => ?_)
    obtain ⟨p1, p2⟩ := cnd_p σ h2 a' (by omega) ⟨by omega, by omega, a3⟩
    exact ⟨SF_st n a' a1 (by omega) (by omega), SF_st n (σ - a') (by omega) (by omega) (by omega)⟩
theorem pc4 : ∀ σ, σ < 16 → pc σ ≤ 4 := by decide +kernel
theorem SS_eq {Y : Nat → Sz} {σ : Nat} (h1 : 1 ≤ σ) (h2 : σ < 16) : SS Y σ = bas Y σ ++ prs (SS Y) σ (σ - 1) := by
  unfold SS
  rw [← SF_st 4 σ h1 h2 (pc4 σ h2)]
  rfl
/-! how many -/
def pln (L : Nat → Nat) (σ : Nat) : Nat → Nat
  | 0 => 0
  | a + 1 => (if cnd σ (a + 1) = true then 2 * (L (a + 1) * L (σ - (a + 1))) else 0) + pln L σ a
def LF : Nat → Nat → Nat
  | 0, _ => 0
  | n + 1, σ => (if σ = lb σ then 2 else 0) + pln (LF n) σ (σ - 1)
theorem pd1_len (x : Sz) : ∀ l, (pd1 x l).length = 2 * l.length
  | [] => rfl
  | y :: r => by
    show (jn x y ++ pd1 x r).length = 2 * (r.length + 1)
    rw [List.length_append, pd1_len x r]
    show 2 + 2 * r.length = _
    omega
theorem pdd_len : ∀ la lb' : List Sz, (pdd la lb').length = 2 * (la.length * lb'.length)
  | [], _ => by simp [pdd]
  | x :: r, l => by
    show (pd1 x l ++ pdd r l).length = 2 * ((r.length + 1) * l.length)
    rw [List.length_append, pd1_len, pdd_len r l, Nat.add_mul]
    omega
theorem prs_len {S : Nat → List Sz} {L : Nat → Nat} {σ : Nat} (h : ∀ a, (S a).length = L a) : ∀ a, (prs S σ a).length = pln L σ a
  | 0 => rfl
  | a + 1 => by
    unfold prs pln
    rw [List.length_append, prs_len h a]
    by_cases q : cnd σ (a + 1) = true
    · rw [if_pos q, if_pos q, pdd_len, h, h]
    · rw [if_neg q, if_neg q]; rfl
theorem SF_len {Y : Nat → Sz} : ∀ (n σ : Nat), (SF Y n σ).length = LF n σ
  | 0, _ => rfl
  | n + 1, σ => by
    unfold SF LF
    rw [List.length_append, prs_len (fun a => SF_len n a)]
    unfold bas
    by_cases q : σ = lb σ
    · rw [if_pos q, if_pos q]; rfl
    · rw [if_neg q, if_neg q]; rfl
def fr : Nat → Nat
  | 0 => 0
  | σ + 1 => fr σ + (if σ = 0 then 0 else LF 4 σ)
theorem fr_le : ∀ σ, σ < 16 → fr σ ≤ 440 ∧ fr σ + LF 4 σ ≤ 2360 ∧ LF 4 σ ≤ 1920 := by decide +kernel
theorem fr_mono : ∀ σ, σ < 17 → ∀ x, x < 16 → (1 ≤ x ∧ x < σ) → fr x + LF 4 x ≤ fr σ := by decide +kernel
theorem fr_s {σ : Nat} (h : 1 ≤ σ) : fr (σ + 1) = fr σ + LF 4 σ := by
  show fr σ + (if σ = 0 then 0 else LF 4 σ) = _
  rw [if_neg (by omega)]
/-! sizes -/
theorem mem_pd1 {x p : Sz} : ∀ l, p ∈ pd1 x l ↔ ∃ y, y ∈ l ∧ p ∈ jn x y
  | [] => by simp [pd1]
  | y :: r => by
    show p ∈ jn x y ++ pd1 x r ↔ _
    rw [List.mem_append, mem_pd1 r]
    constructor
    · rintro (h | ⟨z, hz, h⟩)
      · exact ⟨y, List.mem_cons_self, h⟩
      · exact ⟨z, List.mem_cons_of_mem _ hz, h⟩
    · rintro ⟨z, hz, h⟩
      rcases List.mem_cons.mp hz with rfl | hz
      · exact Or.inl h
      · exact Or.inr ⟨z, hz, h⟩
theorem mem_pdd {p : Sz} {l : List Sz} : ∀ la, p ∈ pdd la l ↔ ∃ x y, x ∈ la ∧ y ∈ l ∧ p ∈ jn x y
  | [] => by simp [pdd]
  | x :: r => by
    show p ∈ pd1 x l ++ pdd r l ↔ _
    rw [List.mem_append, mem_pd1, mem_pdd r]
    constructor
    · rintro (⟨y, hy, h⟩ | ⟨z, y, hz, hy, h⟩)
      · exact ⟨x, y, List.mem_cons_self, hy, h⟩
      · exact ⟨z, y, List.mem_cons_of_mem _ hz, hy, h⟩
    · rintro ⟨z, y, hz, hy, h⟩
      rcases List.mem_cons.mp hz with rfl | hz
      · exact Or.inl ⟨y, hy, h⟩
      · exact Or.inr ⟨z, y, hz, hy, h⟩
theorem mem_prs {p : Sz} {S : Nat → List Sz} {σ : Nat} : ∀ a, p ∈ prs S σ a ↔ ∃ a', 1 ≤ a' ∧ a' ≤ a ∧ cnd σ a' = true ∧ p ∈ pdd (S a') (S (σ - a'))
  | 0 => by
    constructor
    · intro h; cases h
    · rintro ⟨a', h1, h2, -⟩; omega
  | a + 1 => by
    unfold prs
    rw [List.mem_append, mem_prs a]
    constructor
    · rintro (h | ⟨a', h1, h2, h3⟩)
      · by_cases q : cnd σ (a + 1) = true
        · rw [if_pos q] at h; exact ⟨a + 1, by omega, Nat.le_refl _, q, h⟩
        · rw [if_neg q] at h; cases h
      · exact ⟨a', h1, by omega, h3⟩
    · rintro ⟨a', h1, h2, h3, h4⟩
      by_cases e : a' = a + 1
      · subst e; left; rw [if_pos h3]; exact h4
      · exact Or.inr ⟨a', h1, by omega, h3, h4⟩
theorem SF_le {Y : Nat → Sz} (hY : ∀ k, (Y k).1 ≤ 150 ∧ (Y k).2 ≤ 150) : ∀ (n σ : Nat) (p : Sz), 1 ≤ σ → σ < 16 → p ∈ SF Y n σ → p.1 ≤ 150 * pc σ ∧ p.2 ≤ 150 * pc σ
  | 0, _, _, _, _, h => by cases h
  | n + 1, σ, p, h1, h2, h => by
    have hp : 1 ≤ pc σ := by
      have := (show ∀ σ, σ < 16 → pc σ = 0 → σ = 0 by decide +kernel) σ h2
      by_cases z : pc σ = 0
      · have := this z; omega
      · omega
    have h : p ∈ bas Y σ ++ prs (SF Y n) σ (σ - 1) := h
    rcases List.mem_append.mp h with h | h
    · unfold bas at h
      split at h
      · have := hY (pc (σ - 1))
        simp [sg] at h
        rcases h with rfl | rfl
        · exact ⟨by omega, by omega⟩
        · exact ⟨by show (Y _).2 ≤ _; omega, by show (Y _).1 ≤ _; omega⟩
      · cases h
    · obtain ⟨a', a1, a2, a3, a4⟩ := (mem_prs _).mp h
      obtain ⟨x, y, hx, hy, hj⟩ := (mem_pdd _).mp a4
      obtain ⟨p1, p2⟩ := cnd_q σ h2 a' (by omega) ⟨by omega, by omega, a3⟩
      have kx := SF_le hY n a' x a1 (by omega) hx
      have ky := SF_le hY n (σ - a') y (by omega) (by omega) hy
      simp [jn] at hj
      rcases hj with rfl | rfl
      · exact ⟨by show x.1 + y.1 ≤ _; omega, by show max x.2 y.2 ≤ _; omega⟩
      · exact ⟨by show max x.1 y.1 ≤ _; omega, by show x.2 + y.2 ≤ _; omega⟩
/-! what fits -/
def Exl (l : List Sz) (W H : Nat) : Prop := ∃ p, p ∈ l ∧ p.1 ≤ W ∧ p.2 ≤ H
theorem Exl_sg {x : Sz} {W H : Nat} : Exl (sg x) W H ↔ e1 x W H := by
  constructor
  · rintro ⟨p, hp, h1, h2⟩
    simp [sg] at hp
    rcases hp with rfl | rfl
    · exact Or.inl ⟨h1, h2⟩
    · exact Or.inr ⟨h1, h2⟩
  · rintro (⟨h1, h2⟩ | ⟨h1, h2⟩)
    · exact ⟨(x.1, x.2), by simp [sg], h1, h2⟩
    · exact ⟨(x.2, x.1), by simp [sg], h1, h2⟩
theorem Exl_pdd {la l : List Sz} {W H : Nat} : Exl (pdd la l) W H ↔ cb (Exl la) (Exl l) W H := by
  constructor
  · rintro ⟨p, hp, h1, h2⟩
    obtain ⟨x, y, hx, hy, hj⟩ := (mem_pdd _).mp hp
    simp [jn] at hj
    rcases hj with rfl | rfl
    · have h1 : x.1 + y.1 ≤ W := h1
      have h2 : max x.2 y.2 ≤ H := h2
      exact Or.inl ⟨x.1, y.1, h1, ⟨x, hx, Nat.le_refl _, by omega⟩, ⟨y, hy, Nat.le_refl _, by omega⟩⟩
    · have h1 : max x.1 y.1 ≤ W := h1
      have h2 : x.2 + y.2 ≤ H := h2
      exact Or.inr ⟨x.2, y.2, h2, ⟨x, hx, by omega, Nat.le_refl _⟩, ⟨y, hy, by omega, Nat.le_refl _⟩⟩
  · rintro (⟨w1, w2, hw, ⟨x, hx, x1, x2⟩, ⟨y, hy, y1, y2⟩⟩ | ⟨k1, k2, hk, ⟨x, hx, x1, x2⟩, ⟨y, hy, y1, y2⟩⟩)
    · exact ⟨(x.1 + y.1, max x.2 y.2), (mem_pdd _).mpr ⟨x, y, hx, hy, by simp [jn]⟩, by show x.1 + y.1 ≤ W; omega, by show max x.2 y.2 ≤ H; omega⟩
    · exact ⟨(max x.1 y.1, x.2 + y.2), (mem_pdd _).mpr ⟨x, y, hx, hy, by simp [jn]⟩, by show max x.1 y.1 ≤ W; omega, by show x.2 + y.2 ≤ H; omega⟩
theorem Exl_app {la l : List Sz} {W H : Nat} : Exl (la ++ l) W H ↔ Exl la W H ∨ Exl l W H := by
  constructor
  · rintro ⟨p, hp, h⟩
    rcases List.mem_append.mp hp with hp | hp
    · exact Or.inl ⟨p, hp, h⟩
    · exact Or.inr ⟨p, hp, h⟩
  · rintro (⟨p, hp, h⟩ | ⟨p, hp, h⟩)
    · exact ⟨p, List.mem_append_left _ hp, h⟩
    · exact ⟨p, List.mem_append_right _ hp, h⟩
theorem cb_iff {A B A' B' : Nat → Nat → Prop} (a : ∀ W H, A W H ↔ A' W H) (b : ∀ W H, B W H ↔ B' W H) {W H : Nat} : cb A B W H ↔ cb A' B' W H := ⟨cb_imp (fun W H => (a W H).mp) (fun W H => (b W H).mp), cb_imp (fun W H => (a W H).mpr) (fun W H => (b W H).mpr)⟩
theorem cb_comm {A B : Nat → Nat → Prop} {W H : Nat} : cb A B W H ↔ cb B A W H := ⟨cb_sym, cb_sym⟩
