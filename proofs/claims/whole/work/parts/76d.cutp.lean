/-! cuts: what can be cut, by sizes alone -/
abbrev Sz : Type := Nat × Nat
def e1 (x : Sz) (W H : Nat) : Prop := (x.1 ≤ W ∧ x.2 ≤ H) ∨ (x.2 ≤ W ∧ x.1 ≤ H)
def cb (A B : Nat → Nat → Prop) (W H : Nat) : Prop := (∃ w1 w2, w1 + w2 ≤ W ∧ A w1 H ∧ B w2 H) ∨ (∃ h1 h2, h1 + h2 ≤ H ∧ A W h1 ∧ B W h2)
def e2 (x y : Sz) : Nat → Nat → Prop := cb (e1 x) (e1 y)
def e3 (x y z : Sz) (W H : Nat) : Prop := cb (e1 x) (e2 y z) W H ∨ cb (e1 y) (e2 x z) W H ∨ cb (e1 z) (e2 x y) W H
def e4 (x y z u : Sz) (W H : Nat) : Prop := cb (e1 x) (e3 y z u) W H ∨ cb (e1 y) (e3 x z u) W H ∨ cb (e1 z) (e3 x y u) W H ∨ cb (e1 u) (e3 x y z) W H ∨ cb (e2 x y) (e2 z u) W H ∨ cb (e2 x z) (e2 y u) W H ∨ cb (e2 x u) (e2 y z) W H
/-- grows with the sheet; turned, it is the same -/
def mon (A : Nat → Nat → Prop) : Prop := ∀ W H W' H', A W H → W ≤ W' → H ≤ H' → A W' H'
def trn (A : Nat → Nat → Prop) : Prop := ∀ W H, A W H → A H W
theorem e1_mon (x : Sz) : mon (e1 x) := fun W H W' H' h h1 h2 => by unfold e1 at *; omega
theorem e1_trn (x : Sz) : trn (e1 x) := fun W H h => by unfold e1 at *; omega
theorem cb_mon {A B : Nat → Nat → Prop} (a : mon A) (b : mon B) : mon (cb A B) := by
  intro W H W' H' h h1 h2
  rcases h with ⟨w1, w2, hw, p, q⟩ | ⟨k1, k2, hk, p, q⟩
  · exact Or.inl ⟨w1, w2, by omega, a _ _ _ _ p (Nat.le_refl _) h2, b _ _ _ _ q (Nat.le_refl _) h2⟩
  · exact Or.inr ⟨k1, k2, by omega, a _ _ _ _ p h1 (Nat.le_refl _), b _ _ _ _ q h1 (Nat.le_refl _)⟩
theorem cb_trn {A B : Nat → Nat → Prop} (a : trn A) (b : trn B) : trn (cb A B) := by
  intro W H h
  rcases h with ⟨w1, w2, hw, p, q⟩ | ⟨k1, k2, hk, p, q⟩
  · exact Or.inr ⟨w1, w2, hw, a _ _ p, b _ _ q⟩
  · exact Or.inl ⟨k1, k2, hk, a _ _ p, b _ _ q⟩
theorem cb_sym {A B : Nat → Nat → Prop} {W H : Nat} (h : cb A B W H) : cb B A W H := by
  rcases h with ⟨w1, w2, hw, p, q⟩ | ⟨k1, k2, hk, p, q⟩
  · exact Or.inl ⟨w2, w1, by omega, q, p⟩
  · exact Or.inr ⟨k2, k1, by omega, q, p⟩
theorem cb_imp {A B A' B' : Nat → Nat → Prop} {W H : Nat} (a : ∀ W H, A W H → A' W H) (b : ∀ W H, B W H → B' W H) (h : cb A B W H) : cb A' B' W H := by
  rcases h with ⟨w1, w2, hw, p, q⟩ | ⟨k1, k2, hk, p, q⟩
  · exact Or.inl ⟨w1, w2, hw, a _ _ p, b _ _ q⟩
  · exact Or.inr ⟨k1, k2, hk, a _ _ p, b _ _ q⟩
theorem e2_mon (x y : Sz) : mon (e2 x y) := cb_mon (e1_mon x) (e1_mon y)
theorem e2_trn (x y : Sz) : trn (e2 x y) := cb_trn (e1_trn x) (e1_trn y)
theorem e3_mon (x y z : Sz) : mon (e3 x y z) := fun W H W' H' h h1 h2 => by
  rcases h with h | h | h
  · exact Or.inl (cb_mon (e1_mon _) (e2_mon _ _) _ _ _ _ h h1 h2)
  · exact Or.inr (Or.inl (cb_mon (e1_mon _) (e2_mon _ _) _ _ _ _ h h1 h2))
  · exact Or.inr (Or.inr (cb_mon (e1_mon _) (e2_mon _ _) _ _ _ _ h h1 h2))
theorem e3_trn (x y z : Sz) : trn (e3 x y z) := fun W H h => by
  rcases h with h | h | h
  · exact Or.inl (cb_trn (e1_trn _) (e2_trn _ _) _ _ h)
  · exact Or.inr (Or.inl (cb_trn (e1_trn _) (e2_trn _ _) _ _ h))
  · exact Or.inr (Or.inr (cb_trn (e1_trn _) (e2_trn _ _) _ _ h))
/-- what fits has no more area -/
def are (A : Nat → Nat → Prop) (n : Nat) : Prop := ∀ W H, A W H → n ≤ W * H
theorem e1_are (x : Sz) : are (e1 x) (x.1 * x.2) := fun W H h => by
  rcases h with ⟨h1, h2⟩ | ⟨h1, h2⟩
  · exact Nat.mul_le_mul h1 h2
  · rw [Nat.mul_comm]; exact Nat.mul_le_mul h1 h2
theorem cb_are {A B : Nat → Nat → Prop} {n k : Nat} (a : are A n) (b : are B k) : are (cb A B) (n + k) := by
  intro W H h
  rcases h with ⟨w1, w2, hw, p, q⟩ | ⟨k1, k2, hk, p, q⟩
  · have h1 := a _ _ p
    have h2 := b _ _ q
    have h3 : (w1 + w2) * H ≤ W * H := Nat.mul_le_mul_right H hw
    rw [Nat.add_mul] at h3
    omega
  · have h1 := a _ _ p
    have h2 := b _ _ q
    have h3 : W * (k1 + k2) ≤ W * H := Nat.mul_le_mul_left W hk
    rw [Nat.mul_add] at h3
    omega
theorem e2_are (x y : Sz) : are (e2 x y) (x.1 * x.2 + y.1 * y.2) := cb_are (e1_are x) (e1_are y)
theorem e3_are (x y z : Sz) : are (e3 x y z) (x.1 * x.2 + y.1 * y.2 + z.1 * z.2) := fun W H h => by
  rcases h with h | h | h
  · have := cb_are (e1_are _) (e2_are _ _) _ _ h; omega
  · have := cb_are (e1_are _) (e2_are _ _) _ _ h; omega
  · have := cb_are (e1_are _) (e2_are _ _) _ _ h; omega
theorem e4_are (x y z u : Sz) : are (e4 x y z u) (x.1 * x.2 + y.1 * y.2 + z.1 * z.2 + u.1 * u.2) := fun W H h => by
  rcases h with h | h | h | h | h | h | h
  · have := cb_are (e1_are _) (e3_are _ _ _) _ _ h; omega
  · have := cb_are (e1_are _) (e3_are _ _ _) _ _ h; omega
  · have := cb_are (e1_are _) (e3_are _ _ _) _ _ h; omega
  · have := cb_are (e1_are _) (e3_are _ _ _) _ _ h; omega
  · have := cb_are (e2_are _ _) (e2_are _ _) _ _ h; omega
  · have := cb_are (e2_are _ _) (e2_are _ _) _ _ h; omega
  · have := cb_are (e2_are _ _) (e2_are _ _) _ _ h; omega
/-! the least length of a strip -/
/-- f tells the least length: below 1000 -/
def Sp (f : Nat → Nat) (A : Nat → Nat → Prop) : Prop := ∀ H W, W < 1000 → (f H ≤ W ↔ A W H)
def pt2 (x : Sz) (f : Nat → Nat) (H : Nat) : Nat := if x.2 ≤ H then min (if x.1 ≤ H then min 1000 (max x.2 (f (H - x.1))) else 1000) (max x.1 (f (H - x.2))) else (if x.1 ≤ H then min 1000 (max x.2 (f (H - x.1))) else 1000)
def s1 (x : Sz) (H : Nat) : Nat := min 1000 (pt2 x (fun _ => 0) H)
def pt (x : Sz) (f : Nat → Nat) (H : Nat) : Nat := min (pt2 x f H) (s1 x H + f H)
def s2 (x y : Sz) (H : Nat) : Nat := min 1000 (pt x (s1 y) H)
def s3 (x y z : Sz) (H : Nat) : Nat := min (min (min 1000 (pt x (s2 y z) H)) (pt y (s2 x z) H)) (pt z (s2 x y) H)
theorem s1_sp {x : Sz} : Sp (s1 x) (e1 x) := fun H W hW => by
  unfold s1 pt2 e1
  by_cases q1 : x.1 ≤ H
  · by_cases q2 : x.2 ≤ H
    · rw [if_pos q2, if_pos q1]; dsimp only; omega
    · rw [if_neg q2, if_pos q1]; dsimp only; omega
  · by_cases q2 : x.2 ≤ H
    · rw [if_pos q2, if_neg q1]; dsimp only; omega
    · rw [if_neg q2, if_neg q1]; omega
theorem pt_sp {x : Sz} {f : Nat → Nat} {B : Nat → Nat → Prop} (s : Sp f B) (m : mon B) : ∀ H W, W < 1000 → (pt x f H ≤ W ↔ cb (e1 x) B W H) := by
  intro H W hW
  have k1 : (s1 x H + f H ≤ W) ↔ ∃ w1 w2, w1 + w2 ≤ W ∧ e1 x w1 H ∧ B w2 H := by
    constructor
    · intro h
      exact ⟨s1 x H, f H, h, (s1_sp H _ (by omega)).mp (Nat.le_refl _), (s H _ (by omega)).mp (Nat.le_refl _)⟩
    · rintro ⟨w1, w2, hw, p, q⟩
      have h1 := (s1_sp (x := x) H w1 (by omega)).mpr p
      have h2 := (s H w2 (by omega)).mpr q
      omega
  have k2 : (pt2 x f H ≤ W) ↔ ∃ h1 h2, h1 + h2 ≤ H ∧ e1 x W h1 ∧ B W h2 := by
    constructor
    · intro h
      have key : (x.1 ≤ H ∧ x.2 ≤ W ∧ f (H - x.1) ≤ W) ∨ (x.2 ≤ H ∧ x.1 ≤ W ∧ f (H - x.2) ≤ W) := by
        unfold pt2 at h
        by_cases q1 : x.1 ≤ H
        · by_cases q2 : x.2 ≤ H
          · rw [if_pos q2, if_pos q1] at h; omega
          · rw [if_neg q2, if_pos q1] at h; omega
        · by_cases q2 : x.2 ≤ H
          · rw [if_pos q2, if_neg q1] at h; omega
          · rw [if_neg q2, if_neg q1] at h; omega
      rcases key with ⟨a, b, c⟩ | ⟨a, b, c⟩
      · exact ⟨x.1, H - x.1, by omega, Or.inr ⟨b, Nat.le_refl _⟩, (s _ W hW).mp c⟩
      · exact ⟨x.2, H - x.2, by omega, Or.inl ⟨b, Nat.le_refl _⟩, (s _ W hW).mp c⟩
    · rintro ⟨h1, h2, hh, p, q⟩
      have key : (x.1 ≤ H ∧ x.2 ≤ W ∧ f (H - x.1) ≤ W) ∨ (x.2 ≤ H ∧ x.1 ≤ W ∧ f (H - x.2) ≤ W) := by
        rcases p with ⟨p1, p2⟩ | ⟨p1, p2⟩
        · exact Or.inr ⟨by omega, p1, (s _ W hW).mpr (m _ _ _ _ q (Nat.le_refl _) (by omega))⟩
        · exact Or.inl ⟨by omega, p1, (s _ W hW).mpr (m _ _ _ _ q (Nat.le_refl _) (by omega))⟩
      unfold pt2
      by_cases q1 : x.1 ≤ H
      · by_cases q2 : x.2 ≤ H
        · rw [if_pos q2, if_pos q1]; omega
        · rw [if_neg q2, if_pos q1]; omega
      · by_cases q2 : x.2 ≤ H
        · rw [if_pos q2, if_neg q1]; omega
        · exfalso; omega
  unfold pt cb
  rw [← k1, ← k2]
  omega
theorem s2_sp {x y : Sz} : Sp (s2 x y) (e2 x y) := fun H W hW => by
  have := pt_sp (x := x) (s1_sp (x := y)) (e1_mon y) H W hW
  unfold s2 e2
  rw [← this]; omega
theorem s3_sp {x y z : Sz} : Sp (s3 x y z) (e3 x y z) := fun H W hW => by
  have k1 := pt_sp (x := x) (s2_sp (x := y) (y := z)) (e2_mon y z) H W hW
  have k2 := pt_sp (x := y) (s2_sp (x := x) (y := z)) (e2_mon x z) H W hW
  have k3 := pt_sp (x := z) (s2_sp (x := x) (y := y)) (e2_mon x y) H W hW
  unfold s3 e3
  rw [← k1, ← k2, ← k3]; omega
/-- two strips beside each other, or one above the other -/
theorem Sp_cb {f g : Nat → Nat} {A B : Nat → Nat → Prop} (a : Sp f A) (b : Sp g B) (ta : trn A) (tb : trn B) {W H : Nat} (hW : W < 1000) (hH : H < 1000) : (f H + g H ≤ W ∨ f W + g W ≤ H) ↔ cb A B W H := by
  constructor
  · intro h
    rcases h with h | h
    · exact Or.inl ⟨f H, g H, h, (a H _ (by omega)).mp (Nat.le_refl _), (b H _ (by omega)).mp (Nat.le_refl _)⟩
    · exact Or.inr ⟨f W, g W, h, ta _ _ ((a W _ (by omega)).mp (Nat.le_refl _)), tb _ _ ((b W _ (by omega)).mp (Nat.le_refl _))⟩
  · rintro (⟨w1, w2, hw, p, q⟩ | ⟨k1, k2, hk, p, q⟩)
    · have h1 := (a H w1 (by omega)).mpr p
      have h2 := (b H w2 (by omega)).mpr q
      left; omega
    · have h1 := (a W k1 (by omega)).mpr (ta _ _ p)
      have h2 := (b W k2 (by omega)).mpr (tb _ _ q)
      right; omega
/-! by lists of sizes -/
def el (l : List Sz) (W H : Nat) : Prop := match l with
  | [] => True
  | [x] => e1 x W H
  | [x, y] => e2 x y W H
  | [x, y, z] => e3 x y z W H
  | [x, y, z, u] => e4 x y z u W H
  | _ => False
def sl (l : List Sz) (H : Nat) : Nat := match l with
  | [] => 0
  | [x] => s1 x H
  | [x, y] => s2 x y H
  | [x, y, z] => s3 x y z H
  | _ => 1000
theorem sl_sp : ∀ l : List Sz, l.length ≤ 3 → Sp (sl l) (el l)
  | [], _ => fun H W _ => ⟨fun _ => trivial, fun _ => Nat.zero_le _⟩
  | [_], _ => s1_sp
  | [_, _], _ => s2_sp
  | [_, _, _], _ => s3_sp
  | _ :: _ :: _ :: _ :: _, h => absurd h (by simp)
theorem el_trn : ∀ l : List Sz, l.length ≤ 3 → trn (el l)
  | [], _ => fun _ _ _ => trivial
  | [_], _ => e1_trn _
  | [_, _], _ => e2_trn _ _
  | [_, _, _], _ => e3_trn _ _ _
  | _ :: _ :: _ :: _ :: _, h => absurd h (by simp)
def arl : List Sz → Nat
  | [] => 0
  | x :: r => x.1 * x.2 + arl r
theorem el_are : ∀ l : List Sz, l.length ≤ 4 → are (el l) (arl l)
  | [], _ => fun _ _ _ => Nat.zero_le _
  | [x], _ => fun W H h => by have := e1_are x W H h; simp only [arl]; omega
  | [x, y], _ => fun W H h => by have := e2_are x y W H h; simp only [arl]; omega
  | [x, y, z], _ => fun W H h => by have := e3_are x y z W H h; simp only [arl]; omega
  | [x, y, z, u], _ => fun W H h => by have := e4_are x y z u W H h; simp only [arl]; omega
  | _ :: _ :: _ :: _ :: _ :: _, h => absurd h (by simp)
