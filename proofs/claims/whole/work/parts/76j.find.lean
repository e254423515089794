/-! cuts: the reference finds its shapes -/
def EL (h : mv_H) (f : Nat) (l : List Sz) : Prop := ∀ i, i < l.length → h 74 (f + i) = nI (l.getD i (0, 0)).1 ∧ h 75 (f + i) = nI (l.getD i (0, 0)).2
def OT (h : mv_H) (Y : Nat → Sz) (σ : Nat) : Prop := ∀ x, 1 ≤ x → x < σ → h 72 x = nI (fr x) ∧ h 73 x = nI (LF 4 x) ∧ EL h (fr x) (SS Y x)
def AC (h : mv_H) (σ : Nat) (acc : List Sz) : Prop := h 72 σ = nI (fr σ) ∧ h 73 σ = nI acc.length ∧ h 55 35 = nI (fr σ + acc.length) ∧ EL h (fr σ) acc
def Pv (h h' : mv_H) (σ : Nat) : Prop := ∀ o k, ¬ (o = 55 ∧ k = 35) → ¬ (o = 73 ∧ k = σ) → ¬ ((o = 74 ∨ o = 75) ∧ fr σ ≤ k) → h' o k = h o k
theorem Pv.tr {a b c : mv_H} {σ : Nat} (h1 : Pv a b σ) (h2 : Pv b c σ) : Pv a c σ := fun o k q1 q2 q3 => (h2 o k q1 q2 q3).trans (h1 o k q1 q2 q3)
theorem SS_len (Y : Nat → Sz) (σ : Nat) : (SS Y σ).length = LF 4 σ := SF_len 4 σ
theorem OT.pv {h h' : mv_H} {Y : Nat → Sz} {σ : Nat} (O : OT h Y σ) (hσ : σ ≤ 16) (p : Pv h h' σ) : OT h' Y σ := fun x h1 h2 => by
  obtain ⟨a, b, c⟩ := O x h1 h2
  have fm := fr_mono σ (by omega) x (by omega) ⟨h1, h2⟩
  refine ⟨(p 72 x (by omega) (by omega) (by omega)).trans a, (p 73 x (by omega) (by omega) (by omega)).trans b, fun i hi => ?_⟩
  have hi' := hi
  rw [SS_len] at hi'
  obtain ⟨c1, c2⟩ := c i hi
  exact ⟨(p 74 _ (by omega) (by omega) (by omega)).trans c1, (p 75 _ (by omega) (by omega) (by omega)).trans c2⟩
theorem getD_app1 {l : List Sz} {p : Sz} {i : Nat} (h : i < l.length) : (l ++ [p]).getD i (0, 0) = l.getD i (0, 0) := by
  simp [List.getElem?_append_left h]
theorem getD_app2 {l : List Sz} {p : Sz} : (l ++ [p]).getD l.length (0, 0) = p := by
  simp
theorem pe_ps {h : mv_H} {σ : Nat} {acc : List Sz} {w v : Nat} (hσ : σ < 16) (A : AC h σ acc) (hl : fr σ + acc.length < 4000) : ∃ h', fX10_putShape_55 (nI σ) (nI w) (nI v) h = some h' ∧ AC h' σ (acc ++ [(w, v)]) ∧ Pv h h' σ := by
  obtain ⟨A1, A2, A3, A4⟩ := A
  obtain ⟨n, en⟩ : ∃ n, n = fr σ + acc.length := ⟨_, rfl⟩
  rw [← en] at A3 hl
  obtain ⟨i1, i2⟩ := pz_in (n := n) (M := 4000) hl (by decide)
  obtain ⟨j1, j2⟩ := pz_in (n := σ) (M := 16) hσ (by decide)
  obtain ⟨g, eg⟩ : ∃ g, g = mv_u (mv_u (mv_u (mv_u h 74 n (nI w)) 75 n (nI v)) 55 35 (nI (n + 1))) 73 σ (nI (acc.length + 1)) := ⟨_, rfl⟩
  have ug : ∀ o k, ¬ (o = 55 ∧ k = 35) → ¬ (o = 73 ∧ k = σ) → ¬ ((o = 74 ∨ o = 75) ∧ k = n) → g o k = h o k := fun o k q1 q2 q3 => by
    rw [eg, mv_u_at, if_neg q2, mv_u_at, if_neg q1, mv_u_at, if_neg (by omega), mv_u_at, if_neg (by omega)]
  refine ⟨g, ?_, ⟨?_, ?_, ?_, fun i hi => ?_⟩, fun o k q1 q2 q3 => ug o k q1 q2 (by omega)⟩
  · unfold fX10_putShape_55
    rw [A3, if_pos i1, i2]
    simp only [mv_let]
    rw [show mv_u h 74 n (nI w) 55 35 = nI n from by rw [mv_u_at, if_neg (by omega)]; exact A3, if_pos i1, i2]
    rw [show mv_u (mv_u h 74 n (nI w)) 75 n (nI v) 55 35 = nI n from by rw [mv_u_at, if_neg (by omega), mv_u_at, if_neg (by omega)]; exact A3, nI_1, if_pos j1, if_pos j1, j2]
    rw [show mv_u (mv_u (mv_u h 74 n (nI w)) 75 n (nI v)) 55 35 (nI (n + 1)) 73 σ = nI acc.length from by rw [mv_u_at, if_neg (by omega), mv_u_at, if_neg (by omega), mv_u_at, if_neg (by omega)]; exact A2, nI_1, eg]
  · rw [ug 72 σ (by omega) (by omega) (by omega)]; exact A1
  · rw [eg, mv_u_at, if_pos ⟨rfl, rfl⟩]; simp
  · rw [eg, mv_u_at, if_neg (by omega), mv_u_at, if_pos ⟨rfl, rfl⟩, en]; simp; rfl
  · have hi' : i < acc.length + 1 := by simpa using hi
    by_cases z : i = acc.length
    · subst z
      rw [getD_app2, ← en]
      refine ⟨?_, ?_⟩
      · rw [eg, mv_u_at, if_neg (by omega), mv_u_at, if_neg (by omega), mv_u_at, if_neg (by omega), mv_u_at, if_pos ⟨rfl, rfl⟩]
      · rw [eg, mv_u_at, if_neg (by omega), mv_u_at, if_neg (by omega), mv_u_at, if_pos ⟨rfl, rfl⟩]
    · rw [getD_app1 (by omega)]
      obtain ⟨a, b⟩ := A4 i (by omega)
      exact ⟨(ug 74 _ (by omega) (by omega) (by omega)).trans a, (ug 75 _ (by omega) (by omega) (by omega)).trans b⟩
theorem pe_more {a b : Nat} (ha : a < 2 ^ 31) (hb : b < 2 ^ 31) : fX10_more (nI a) (nI b) = some (nI (max a b)) := by
  unfold fX10_more
  simp only [pz_lt3 hb ha]
  by_cases q : b < a
  · rw [if_pos q, Nat.max_eq_left (by omega)]
  · rw [if_neg q, Nat.max_eq_right (by omega)]
theorem getD_mem {l : List Sz} {i : Nat} (h : i < l.length) : l.getD i (0, 0) ∈ l := by
  rw [List.getD_eq_getElem?_getD, List.getElem?_eq_getElem h]
  exact List.getElem_mem h
theorem drop_getD {l : List Sz} {i : Nat} (h : i < l.length) : l.drop i = l.getD i (0, 0) :: l.drop (i + 1) := by
  rw [List.drop_eq_getElem_cons h, List.getD_eq_getElem?_getD, List.getElem?_eq_getElem h]; rfl
theorem SS_b {Y : Nat → Sz} (hY : ∀ k, (Y k).1 ≤ 150 ∧ (Y k).2 ≤ 150) {x i : Nat} (h1 : 1 ≤ x) (h2 : x < 16) (hi : i < LF 4 x) : ((SS Y x).getD i (0, 0)).1 ≤ 600 ∧ ((SS Y x).getD i (0, 0)).2 ≤ 600 := by
  have := SF_le hY 4 x _ h1 h2 (getD_mem (l := SS Y x) (by rw [SS_len]; exact hi))
  have := pc4 x h2
  omega
theorem pe_ji {Y : Nat → Sz} {a b σ i : Nat} (hY : ∀ k, (Y k).1 ≤ 150 ∧ (Y k).2 ≤ 150) (ha : 1 ≤ a ∧ a < σ) (hb : 1 ≤ b ∧ b < σ) (hσ : σ < 16) (hi : i < LF 4 a) (K : Int32 → Int32 → Int32 → Int32 → mv_H → Option (mv_H)) : ∀ (n j fuel : Nat) (h : mv_H) (acc : List Sz), n + j = LF 4 b → n < fuel → OT h Y σ → AC h σ acc → acc.length + 2 * n ≤ 1920 → ∃ h', fX10_joinShapes_55_b34 K fuel (nI σ) (nI a) (nI b) (nI (fr a + i)) (nI (fr b + j)) h = K (nI σ) (nI a) (nI b) (nI (fr a + i + 1)) h' ∧ Pv h h' σ ∧ AC h' σ (acc ++ pd1 ((SS Y a).getD i (0, 0)) ((SS Y b).drop j))
  | n, j, 0, h, acc, _, hf, _, _, _ => absurd hf (by omega)
  | 0, j, fuel + 1, h, acc, hn, _, O, A, _ => by
    obtain ⟨k1, k2⟩ := pz_in (n := b) (M := 16) (by omega) (by decide)
    obtain ⟨o1, o2, -⟩ := O b hb.1 hb.2
    have fl := fr_le b (by omega)
    refine ⟨h, ?_, fun _ _ _ _ _ => rfl, ?_⟩
    · rw [fX10_joinShapes_55_b34, if_pos k1, if_pos k1, k2, o1, o2, nI_add, show fr b + j = fr b + LF 4 b by omega, if_neg (nI_nlt (Nat.le_refl _) (by omega)), nI_1]
    · rw [List.drop_eq_nil_of_le (by rw [SS_len]; omega)]
      show AC h σ (acc ++ [])
      rw [List.append_nil]; exact A
  | n + 1, j, fuel + 1, h, acc, hn, hf, O, A, hlen => by
    obtain ⟨k1, k2⟩ := pz_in (n := b) (M := 16) (by omega) (by decide)
    obtain ⟨o1, o2, o3⟩ := O b hb.1 hb.2
    obtain ⟨-, -, p3⟩ := O a ha.1 ha.2
    have fl := fr_le b (by omega)
    have fla := fr_le a (by omega)
    have fls := fr_le σ hσ
    have hj : j < LF 4 b := by omega
    obtain ⟨x, ex⟩ : ∃ x, x = (SS Y a).getD i (0, 0) := ⟨_, rfl⟩
    obtain ⟨y, ey⟩ : ∃ y, y = (SS Y b).getD j (0, 0) := ⟨_, rfl⟩
    have bx := SS_b hY ha.1 (by omega) hi
    have bY := SS_b hY hb.1 (by omega) hj
    rw [← ex] at bx
    rw [← ey] at bY
    obtain ⟨x1, x2⟩ := p3 i (by rw [SS_len]; exact hi)
    obtain ⟨y1, y2⟩ := o3 j (by rw [SS_len]; exact hj)
    rw [← ex] at x1 x2
    rw [← ey] at y1 y2
    obtain ⟨u1, u2⟩ := pz_in (n := fr a + i) (M := 4000) (by omega) (by decide)
    obtain ⟨v1, v2⟩ := pz_in (n := fr b + j) (M := 4000) (by omega) (by decide)
    obtain ⟨h1, e1, A1, P1⟩ := pe_ps (w := x.1 + y.1) (v := max x.2 y.2) hσ A (by omega)
    have O1 := O.pv (by omega) P1
    obtain ⟨-, -, q3⟩ := O1 a ha.1 ha.2
    obtain ⟨-, -, r3⟩ := O1 b hb.1 hb.2
    obtain ⟨x3, x4⟩ := q3 i (by rw [SS_len]; exact hi)
    obtain ⟨y3, y4⟩ := r3 j (by rw [SS_len]; exact hj)
    rw [← ex] at x3 x4
    rw [← ey] at y3 y4
    obtain ⟨h2, e2, A2, P2⟩ := pe_ps (w := max x.1 y.1) (v := x.2 + y.2) hσ A1 (by simp; omega)
    obtain ⟨h', e', P', A'⟩ := pe_ji hY ha hb hσ hi K n (j + 1) fuel h2 (acc ++ [(x.1 + y.1, max x.2 y.2)] ++ [(max x.1 y.1, x.2 + y.2)]) (by omega) (by omega) (O1.pv (by omega) P2) A2 (by simp; omega)
    refine ⟨h', ?_, (P1.tr P2).tr P', ?_⟩
    · rw [fX10_joinShapes_55_b34, if_pos k1, if_pos k1, k2, o1, o2, nI_add, if_pos (nI_lt (by omega) (by omega)), if_pos u1, if_pos v1, if_pos u1, if_pos v1]
      simp only [u2, v2, x1, x2, y1, y2, pe_more (show x.2 < 2 ^ 31 by omega) (show y.2 < 2 ^ 31 by omega), Option.bind_some, nI_add, e1, if_pos u1, if_pos v1, x3, x4, y3, y4, pe_more (show x.1 < 2 ^ 31 by omega) (show y.1 < 2 ^ 31 by omega), e2, nI_1]
      exact e'
    · rw [drop_getD (l := SS Y b) (by rw [SS_len]; exact hj), ← ey]
      show AC h' σ (acc ++ (jn ((SS Y a).getD i (0, 0)) y ++ pd1 ((SS Y a).getD i (0, 0)) ((SS Y b).drop (j + 1))))
      rw [← ex] at A' ⊢
      have : acc ++ (jn x y ++ pd1 x ((SS Y b).drop (j + 1))) = acc ++ [(x.1 + y.1, max x.2 y.2)] ++ [(max x.1 y.1, x.2 + y.2)] ++ pd1 x ((SS Y b).drop (j + 1)) := by
        simp [jn]
      rw [this]; exact A'
theorem pe_jo {Y : Nat → Sz} {a b σ : Nat} (hY : ∀ k, (Y k).1 ≤ 150 ∧ (Y k).2 ≤ 150) (ha : 1 ≤ a ∧ a < σ) (hb : 1 ≤ b ∧ b < σ) (hσ : σ < 16) : ∀ (n i fuel : Nat) (h : mv_H) (acc : List Sz), n + i = LF 4 a → n < fuel → OT h Y σ → AC h σ acc → acc.length + 2 * (n * LF 4 b) ≤ 1920 → ∃ h', fX10_joinShapes_55_b8 fuel (nI σ) (nI a) (nI b) (nI (fr a + i)) h = some h' ∧ Pv h h' σ ∧ AC h' σ (acc ++ pdd ((SS Y a).drop i) (SS Y b))
  | n, i, 0, h, acc, _, hf, _, _, _ => absurd hf (by omega)
  | 0, i, fuel + 1, h, acc, hn, _, O, A, _ => by
    obtain ⟨k1, k2⟩ := pz_in (n := a) (M := 16) (by omega) (by decide)
    obtain ⟨o1, o2, -⟩ := O a ha.1 ha.2
    have fl := fr_le a (by omega)
    refine ⟨h, ?_, fun _ _ _ _ _ => rfl, ?_⟩
    · rw [fX10_joinShapes_55_b8, if_pos k1, if_pos k1, k2, o1, o2, nI_add, show fr a + i = fr a + LF 4 a by omega, if_neg (nI_nlt (Nat.le_refl _) (by omega))]
    · rw [List.drop_eq_nil_of_le (by rw [SS_len]; omega)]
      show AC h σ (acc ++ [])
      rw [List.append_nil]; exact A
  | n + 1, i, fuel + 1, h, acc, hn, hf, O, A, hlen => by
    obtain ⟨k1, k2⟩ := pz_in (n := a) (M := 16) (by omega) (by decide)
    obtain ⟨l1, l2⟩ := pz_in (n := b) (M := 16) (by omega) (by decide)
    obtain ⟨o1, o2, -⟩ := O a ha.1 ha.2
    obtain ⟨p1, -, -⟩ := O b hb.1 hb.2
    have fl := fr_le a (by omega)
    have flb := fr_le b (by omega)
    have hi : i < LF 4 a := by omega
    rw [Nat.add_mul] at hlen
    obtain ⟨h1, e1, P1, A1⟩ := pe_ji hY ha hb hσ hi (fX10_joinShapes_55_b8 fuel) (LF 4 b) 0 mv_F h acc (by omega) (by rw [mv_F_eq]; omega) O A (by omega)
    rw [List.drop_zero] at A1
    obtain ⟨h', e', P', A'⟩ := pe_jo hY ha hb hσ n (i + 1) fuel h1 (acc ++ pd1 ((SS Y a).getD i (0, 0)) (SS Y b)) (by omega) (by omega) (O.pv (by omega) P1) A1 (by rw [List.length_append, pd1_len, SS_len]; omega)
    refine ⟨h', ?_, P1.tr P', ?_⟩
    · rw [fX10_joinShapes_55_b8, if_pos k1, if_pos k1, k2, o1, o2, nI_add, if_pos (nI_lt (by omega) (by omega)), if_pos l1, l2, p1]
      simp only [mv_let]
      rw [Nat.add_zero] at e1
      rw [e1]; exact e'
    · rw [drop_getD (l := SS Y a) (by rw [SS_len]; exact hi)]
      show AC h' σ (acc ++ (pd1 _ (SS Y b) ++ pdd ((SS Y a).drop (i + 1)) (SS Y b)))
      rw [← List.append_assoc]; exact A'
theorem pz_16 : ∀ σ, σ < 16 → ∀ a, a < 16 → (((nI a &&& nI σ) = nI a) ↔ a &&& σ = a) ∧ (((nI a &&& nI (lb σ)) = 0) ↔ a &&& lb σ = 0) := by decide +kernel
theorem pz_16d : ∀ σ, σ < 16 → ∀ a, a < 16 → a &&& σ = a → (nI σ &&& (nI a ^^^ (-1))) = nI (σ - a) := by decide +kernel
theorem pz_lb : ∀ σ, σ < 16 → σ ≠ 0 → nI σ &&& (-nI σ) = nI (lb σ) := by decide +kernel
theorem pe_al89 {Y : Nat → Sz} {σ : Nat} (hY : ∀ k, (Y k).1 ≤ 150 ∧ (Y k).2 ≤ 150) (h1 : 1 ≤ σ) (hσ : σ < 16) (K : Int32 → mv_H → Option (mv_H)) : ∀ (a fuel : Nat) (h : mv_H) (acc : List Sz), a < σ → a < fuel → OT h Y σ → AC h σ acc → acc.length + (prs (SS Y) σ a).length ≤ 1920 → ∃ h', fX10_findShapes_55_b89 K fuel (nI σ) (nI (lb σ)) (nI a) h = K (nI (σ + 1)) h' ∧ Pv h h' σ ∧ AC h' σ (acc ++ prs (SS Y) σ a)
  | a, 0, h, acc, _, hf, _, _, _ => absurd hf (by omega)
  | 0, fuel + 1, h, acc, ha, hf, O, A, _ => by
    refine ⟨h, ?_, fun _ _ _ _ _ => rfl, ?_⟩
    · rw [fX10_findShapes_55_b89, if_neg (by decide), nI_1]
    · show AC h σ (acc ++ [])
      rw [List.append_nil]; exact A
  | a + 1, fuel + 1, h, acc, ha, hf, O, A, hlen => by
    obtain ⟨c1, c2⟩ := pz_16 σ hσ (a + 1) (by omega)
    rw [fX10_findShapes_55_b89, if_pos (show (0 : Int32) < nI (a + 1) from nI_lt (a := 0) (by omega) (by omega))]
    simp only [c1, c2, fX10_findShapes_55_b117, pk_m1]
    have hl2 : (prs (SS Y) σ (a + 1)).length = ((if cnd σ (a + 1) = true then pdd (SS Y (a + 1)) (SS Y (σ - (a + 1))) else []) : List Sz).length + (prs (SS Y) σ a).length := by
      show ((if cnd σ (a + 1) = true then _ else []) ++ prs (SS Y) σ a).length = _
      rw [List.length_append]
    have skip : ¬ cnd σ (a + 1) = true → ∃ h', fX10_findShapes_55_b89 K fuel (nI σ) (nI (lb σ)) (nI a) h = K (nI (σ + 1)) h' ∧ Pv h h' σ ∧ AC h' σ (acc ++ prs (SS Y) σ (a + 1)) := fun q => by
      rw [if_neg q] at hl2
      obtain ⟨h', e', P', A'⟩ := pe_al89 hY h1 hσ K a fuel h acc (by omega) (by omega) O A (by simp at hl2; omega)
      refine ⟨h', e', P', ?_⟩
      have : prs (SS Y) σ (a + 1) = prs (SS Y) σ a := by
        show (if cnd σ (a + 1) = true then _ else []) ++ prs (SS Y) σ a = _
        rw [if_neg q]; rfl
      rw [this]; exact A'
    by_cases q1 : (a + 1) &&& σ = a + 1
    · rw [if_pos q1]
      by_cases q2 : (a + 1) &&& lb σ = 0
      · rw [if_pos q2]
        exact skip (by unfold cnd; simp [q2])
      · rw [if_neg q2]
        have q : cnd σ (a + 1) = true := by unfold cnd; simp [q1, q2]
        rw [if_pos q, pdd_len, SS_len, SS_len] at hl2
        obtain ⟨k1, k2⟩ := pz_in (n := a + 1) (M := 16) (by omega) (by decide)
        obtain ⟨o1, -, -⟩ := O (a + 1) (by omega) ha
        have fl := fr_le (a + 1) (by omega)
        obtain ⟨hh, e1, P1, A1⟩ := pe_jo hY ⟨by omega, ha⟩ ⟨show 1 ≤ σ - (a + 1) by omega, by omega⟩ hσ (LF 4 (a + 1)) 0 mv_F h acc (by omega) (by rw [mv_F_eq]; omega) O A (by omega)
        rw [List.drop_zero] at A1
        have e1' : fX10_joinShapes_55_b8 mv_F (nI σ) (nI (a + 1)) (nI (σ - (a + 1))) (nI (fr (a + 1))) h = some hh := e1
        obtain ⟨h', e', P', A'⟩ := pe_al89 hY h1 hσ K a fuel hh (acc ++ pdd (SS Y (a + 1)) (SS Y (σ - (a + 1)))) (by omega) (by omega) (O.pv (by omega) P1) A1 (by rw [List.length_append, pdd_len, SS_len, SS_len]; omega)
        refine ⟨h', ?_, P1.tr P', ?_⟩
        · rw [pz_16d σ hσ (a + 1) (by omega) q1]
          unfold fX10_joinShapes_55
          rw [if_pos k1, k2, o1]
          simp only [mv_let]
          rw [e1', Option.bind_some]; exact e'
        · have : prs (SS Y) σ (a + 1) = pdd (SS Y (a + 1)) (SS Y (σ - (a + 1))) ++ prs (SS Y) σ a := by
            show (if cnd σ (a + 1) = true then _ else []) ++ prs (SS Y) σ a = _
            rw [if_pos q]
          rw [this, ← List.append_assoc]; exact A'
    · rw [if_neg q1]
      exact skip (by unfold cnd; simp [q1])
