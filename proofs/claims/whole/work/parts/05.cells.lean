/-! rows: locals that change, fields, arrays, switches, weakening -/
def mv_nl : List Value → Bool
  | [] => true
  | .long _ :: _ => false
  | .double _ :: _ => false
  | _ :: r => mv_nl r
theorem mv_nl_at : ∀ {lv : List Value} (_ : mv_nl lv = true) {i : Nat} {v : Value} (_ : lv[i]? = some v), v.category = 1
  | [], _, i, v, h => by simp at h
  | w :: r, hn, 0, v, h => by
    simp at h; subst h
    cases w <;> first | rfl | simp [mv_nl] at hn
  | w :: r, hn, i + 1, v, h => by
    have hr : mv_nl r = true := by cases w <;> first | exact hn | simp [mv_nl] at hn
    exact mv_nl_at hr (by simpa using h)
def mv_prs (G : mv_G) : Nat → List Value → List (Nat × Value)
  | _, [] => []
  | i, .float _ :: r => mv_prs G (i + 1) r
  | i, v :: r => (i, mv_v G v) :: mv_prs G (i + 1) r
theorem mv_prs_in {G : mv_G} : ∀ {lv : List Value} {j i : Nat} {v : Value}, lv[i]? = some v → (∀ b, v ≠ .float b) → (j + i, mv_v G v) ∈ mv_prs G j lv
  | [], j, i, v, h, _ => by simp at h
  | w :: r, j, 0, v, h, hf => by
    simp at h; subst h
    cases w <;> first | exact absurd rfl (hf _) | simp [mv_prs]
  | w :: r, j, i + 1, v, h, hf => by
    have := mv_prs_in (G := G) (lv := r) (j := j + 1) (i := i) (by simpa using h) hf
    rw [show j + 1 + i = j + (i + 1) by omega] at this
    cases w <;> first | exact this | exact List.mem_cons_of_mem _ this
theorem mv_prs_of {G : mv_G} : ∀ {lv : List Value} {j : Nat} {q : Nat × Value}, q ∈ mv_prs G j lv → ∃ i v, q = (j + i, mv_v G v) ∧ lv[i]? = some v ∧ ∀ b, v ≠ .float b
  | [], j, q, h => by simp [mv_prs] at h
  | w :: r, j, q, h => by
    have step : q ∈ mv_prs G (j + 1) r → ∃ i v, q = (j + i, mv_v G v) ∧ (w :: r)[i]? = some v ∧ ∀ b, v ≠ .float b := fun h => by
      obtain ⟨i, v, e, h1, h2⟩ := mv_prs_of h
      exact ⟨i + 1, v, by rw [e, show j + 1 + i = j + (i + 1) by omega], by simpa using h1, h2⟩
    cases w <;> first
      | exact step h
      | (rcases List.mem_cons.mp h with e | h
         · exact ⟨0, _, e, rfl, fun b q => by cases q⟩
         · exact step h)
theorem mv_L.has {G : mv_G} {ls : Array Slot} {nL : Nat} {lv : List Value} (h : mv_L G ls nL lv) : lv_has ls nL (mv_prs G 0 lv) := by
  refine ⟨h.1, h.2.1, fun q hq => ?_⟩
  obtain ⟨i, v, rfl, h1, h2⟩ := mv_prs_of hq
  rw [Nat.zero_add]
  exact h.2.2 i v h1 h2
theorem mv_L.stored {G : mv_G} {ls : Array Slot} {nL i : Nat} {lv : List Value} {v : Value} (hn : mv_nl lv = true) (h : lv_has ls nL ((i, mv_v G v) :: (mv_prs G 0 lv).filter (fun q => !(q.1 == i) && !(q.1 + 1 == i && q.2.category == 2)))) : mv_L G ls nL (lv.set i v) := by
  refine ⟨h.1, h.2.1, fun j w hj hf => ?_⟩
  rw [List.getElem?_set] at hj
  by_cases hi : i = j
  · subst hi
    rw [if_pos rfl] at hj
    split at hj
    · cases hj
      exact h.2.2 _ (List.mem_cons_self)
    · cases hj
  · rw [if_neg hi] at hj
    have hm := mv_prs_in (G := G) (j := 0) hj hf
    rw [Nat.zero_add] at hm
    refine h.2.2 (j, mv_v G w) (List.mem_cons_of_mem _ (List.mem_filter.mpr ⟨hm, ?_⟩))
    have hc := mv_nl_at hn hj
    have : ¬ j = i := fun e => hi e.symm
    simp [this, mv_v_cat, hc]
/-- the second list says less -/
def mv_le : List Value → List Value → Prop
  | [], [] => True
  | v :: a, w :: b => (w = v ∨ ∃ x, w = .float x) ∧ mv_le a b
  | _, _ => False
theorem mv_le_at : ∀ {a b : List Value} {i : Nat} {w : Value}, mv_le a b → b[i]? = some w → (∀ x, w ≠ .float x) → a[i]? = some w
  | [], [], i, w, _, h, _ => by simp at h
  | v :: a, w0 :: b, 0, w, hl, h, hf => by
    simp at h; subst h
    rcases hl.1 with e | ⟨x, e⟩
    · simp [e]
    · exact absurd e (hf x)
  | v :: a, w0 :: b, i + 1, w, hl, h, hf => by
    have := mv_le_at hl.2 (i := i) (w := w) (by simpa using h) hf
    simpa using this
  | [], _ :: _, _, _, hl, _, _ => hl.elim
  | _ :: _, [], _, _, hl, _, _ => hl.elim
section MvRows2
variable {G : mv_G} {M : mv_M} {R : Room} {Zf : List Frame → Array Value → State → State → Prop} {cells slots pc pc' tgt : Nat} {lv lv' st : List Value} {sh sh' : mv_S} {h : mv_H}
theorem mv_weak (hl : mv_le lv lv') (k : mv_MW G M R Zf cells slots pc lv' st sh h) : mv_MW G M R Zf cells slots pc lv st sh h :=
  fun p e s m args below meth c C H locs ls hw hS hv => k p e s m args below meth c C H locs ls hw hS ⟨hv.1, hv.2.1, fun i v hi hf => hv.2.2 i v (mv_le_at hl hi hf) hf⟩
theorem mv_istore_n {j : Fin 4} {x : Int32} (hd : mv_dc M.2.1 pc (.istore_n j) 1 pc') (hj : (j : Nat) < M.2.2.1) (hn : mv_nl lv = true) (hl : lv.set (j : Nat) (.int x) = lv') (k : mv_MW G M R Zf cells slots pc' lv' st sh h) : mv_MW G M R Zf cells slots pc lv (.int x :: st) sh h := by
  obtain ⟨hd, rfl⟩ := hd
  subst hl
  exact fun p e s m args below meth c C H locs ls hw hS hv => lv_istore_n C.1 C.2.1 hd rfl hv.has hj rfl (fun ls' hl' => k p e s m args below meth c C H locs ls' hw hS (mv_L.stored (v := .int x) hn hl'))
theorem mv_istore {i : Nat} {x : Int32} (hd : mv_dc M.2.1 pc (.istore i) 2 pc') (hj : i < M.2.2.1) (hn : mv_nl lv = true) (hl : lv.set i (.int x) = lv') (k : mv_MW G M R Zf cells slots pc' lv' st sh h) : mv_MW G M R Zf cells slots pc lv (.int x :: st) sh h := by
  obtain ⟨hd, rfl⟩ := hd
  subst hl
  exact fun p e s m args below meth c C H locs ls hw hS hv => lv_istore C.1 C.2.1 hd hv.has hj rfl (fun ls' hl' => k p e s m args below meth c C H locs ls' hw hS (mv_L.stored (v := .int x) hn hl'))
theorem mv_astore_n {j : Fin 4} {x : Nat} (hd : mv_dc M.2.1 pc (.astore_n j) 1 pc') (hj : (j : Nat) < M.2.2.1) (hn : mv_nl lv = true) (hl : lv.set (j : Nat) (.ref x) = lv') (k : mv_MW G M R Zf cells slots pc' lv' st sh h) : mv_MW G M R Zf cells slots pc lv (.ref x :: st) sh h := by
  obtain ⟨hd, rfl⟩ := hd
  subst hl
  exact fun p e s m args below meth c C H locs ls hw hS hv => lv_astore_n C.1 C.2.1 hd rfl hv.has hj rfl (fun ls' hl' => k p e s m args below meth c C H locs ls' hw hS (mv_L.stored (v := .ref x) hn hl'))
theorem mv_astore {i : Nat} {x : Nat} (hd : mv_dc M.2.1 pc (.astore i) 2 pc') (hj : i < M.2.2.1) (hn : mv_nl lv = true) (hl : lv.set i (.ref x) = lv') (k : mv_MW G M R Zf cells slots pc' lv' st sh h) : mv_MW G M R Zf cells slots pc lv (.ref x :: st) sh h := by
  obtain ⟨hd, rfl⟩ := hd
  subst hl
  exact fun p e s m args below meth c C H locs ls hw hS hv => lv_astore C.1 C.2.1 hd hv.has hj rfl (fun ls' hl' => k p e s m args below meth c C H locs ls' hw hS (mv_L.stored (v := .ref x) hn hl'))
theorem mv_iinc {i : Nat} {n : Int} {x : Int32} (w : Int32) (hd : mv_dc M.2.1 pc (.iinc i n) 3 pc') (hv0 : lv[i]? = some (.int x)) (hw0 : Int32.ofInt n = w) (hj : i < M.2.2.1) (hn : mv_nl lv = true) (hl : lv.set i (.int (x + w)) = lv') (k : mv_MW G M R Zf cells slots pc' lv' st sh h) : mv_MW G M R Zf cells slots pc lv st sh h := by
  obtain ⟨hd, rfl⟩ := hd
  subst hl
  subst hw0
  intro p e s m args below meth c C H locs ls hw hS hv
  have hm := mv_prs_in (G := G) (j := 0) hv0 (fun b q => by cases q)
  rw [Nat.zero_add] at hm
  obtain ⟨kk, hk⟩ := List.getElem?_of_mem hm
  exact lv_iinc (v := x + Int32.ofInt n) C.1 C.2.1 hd hv.has hk rfl hj rfl (fun ls' hl' => k p e s m args below meth c C H locs ls' hw hS (mv_L.stored (v := .int (x + Int32.ofInt n)) hn hl'))
theorem mv_name {x : Int32} {ρ : Type} {K : Int32 → Option ρ} {Q : ρ → Prop} (hs : mv_sat (mv_let x K) Q) (k : ∀ y : Int32, mv_sat (K y) Q → mv_MW G M R Zf cells slots pc lv (.int y :: st) sh h) : mv_MW G M R Zf cells slots pc lv (.int x :: st) sh h := k x hs
/-- a class: its fields -/
def mv_cls (ci : Nat) (C : String) (T : u_T) (N : Nat) (ty : Nat → FieldType) : Prop := vwCl[ci]? = some (C, T, N) ∧ (∀ w ∈ u_ws C T N, w ∈ mv_tb) ∧ (∀ k, k < N → parseFieldDescriptor (T k).2.2.1 = some (ty k)) ∧ (∀ a, a < N → ∀ b, b < N → a ≠ b → (T a).2.1 ≠ (T b).2.1)
def mv_fl (own : String) (idx ci k : Nat) (fin : Bool) (fty : FieldType) : Prop := ∃ (C : String) (T : u_T) (N : Nat) (ty : Nat → FieldType), mv_cls ci C T N ty ∧ k < N ∧ (T k).2.2.2 = fin ∧ ty k = fty ∧ ((Cond.fieldLink own idx (T k).1 (T k).2.1 (T k).2.2.1 ∈ mv_tb ∧ (fin = true → (T k).1 = own)) ∨ (fin = true ∧ ∃ host, (own, idx, (T k).1, (T k).2.1, (T k).2.2.1, host) ∈ mv_nf))
def mv_gf (sh : mv_S) (o ci k : Nat) (x : Option (Option Nat)) : Prop := ∃ fl, sh[o]? = some (.inr (ci, fl)) ∧ fl[k]? = some x
theorem mv_get0 {idx ci k o : Nat} {fin : Bool} {fty : FieldType} {x : Option (Option Nat)} {w : Value} (hd : mv_dc M.2.1 pc (.getfield idx) 3 pc') (hf : mv_fl M.1.cls idx ci k fin fty) (hg : mv_gf sh o ci k x) (hw0 : mv_v G w = mv_fv G (h o k) x) (kk : mv_MW G M R Zf cells slots pc' lv (w :: st) sh h) : mv_MW G M R Zf cells slots pc lv (.ref o :: st) sh h := by
  obtain ⟨hd, rfl⟩ := hd
  obtain ⟨C0, T, N, ty, ⟨hc1, hc2, hc3, hc4⟩, hk, hfin, hty, hl⟩ := hf
  obtain ⟨fl, hs1, hs2⟩ := hg
  intro p e s m args below meth c C H locs ls hw hS hv
  have hk2 := kk p e s m args below meth c C H locs ls hw hS hv
  obtain ⟨hx, hb, hr, hml, hown, hts, hlk, hin, hK, hX, hbs⟩ := C
  have ha := mv_own hw hs1
  have hcell := mv_c_get (G := G) (h := h) hs1
  have hval := mv_f_get (G := G) (hv := h o) fl 0 k x hs2
  rw [Nat.zero_add, ← hw0] at hval
  show W p (mv_l G) e R s m args below meth c H locs cells slots (Zf below args s) (F0 m pc ls (.ref (mv_a G o) :: st.map (mv_v G)))
  rw [ha]
  rcases hl with ⟨hl, -⟩ | ⟨-, host, hl⟩
  · exact va_get hx hb hts hc2 hown hK hw.1 o hcell hc1 k hk (hts _ hl) (fun _ q => q) hval hd hk2
  · exact va_getN hx hb hts hc2 hown hK hw.1 o hcell hc1 k hk (va_Nw.use rfl (hX.2.2.2.1 _ hl)) (fun _ q => q) hval hd hk2
theorem mv_geti {idx ci k o : Nat} {fin : Bool} {fty : FieldType} (hd : mv_dc M.2.1 pc (.getfield idx) 3 pc') (hf : mv_fl M.1.cls idx ci k fin fty) (hg : mv_gf sh o ci k none) (kk : mv_MW G M R Zf cells slots pc' lv (.int (h o k) :: st) sh h) : mv_MW G M R Zf cells slots pc lv (.ref o :: st) sh h := mv_get0 hd hf hg rfl kk
theorem mv_getr {idx ci k o r : Nat} {fin : Bool} {fty : FieldType} (hd : mv_dc M.2.1 pc (.getfield idx) 3 pc') (hf : mv_fl M.1.cls idx ci k fin fty) (hg : mv_gf sh o ci k (some (some r))) (kk : mv_MW G M R Zf cells slots pc' lv (.ref r :: st) sh h) : mv_MW G M R Zf cells slots pc lv (.ref o :: st) sh h := mv_get0 hd hf hg rfl kk
theorem mv_put0 {idx ci k o : Nat} {fin : Bool} {fty : FieldType} {fl fl' : List (Option (Option Nat))} {w : Value} {h' : mv_H} (hd : mv_dc M.2.1 pc (.putfield idx) 3 pc') (hf : mv_fl M.1.cls idx ci k fin fty) (hini : fin = true → M.1.name = "<init>" ∧ ∀ q ∈ mv_nf, q.1 ≠ M.1.cls ∨ q.2.1 ≠ idx) (hs1 : sh[o]? = some (.inr (ci, fl))) (hkl : k < fl.length) (hn : ∀ i, i ≠ o → h' i = h i) (hset : (mv_f G (h o) 0 fl).set k (mv_v G w) = mv_f G (h' o) 0 fl') (hnar : narrow fty (mv_v G w) = mv_v G w) (hfit : fits fty (mv_v G w) = true) (kk : mv_MW G M R Zf cells slots pc' lv st (sh.set o (.inr (ci, fl'))) h') : mv_MW G M R Zf cells slots pc lv (w :: .ref o :: st) sh h := by
  obtain ⟨hd, rfl⟩ := hd
  obtain ⟨C0, T, N, ty, ⟨hc1, hc2, hc3, hc4⟩, hk, hfin, hty, hl⟩ := hf
  intro p e s m args below meth c C H locs ls hw hS hv
  have hk2 := kk p e s m args below meth c C
  obtain ⟨hx, hb, hr, hml, hown, hts, hlk, hin, hK, hX, hbs⟩ := C
  have ha := mv_own hw hs1
  have hcell := mv_c_get (G := G) (h := h) hs1
  show W p (mv_l G) e R s m args below meth c H locs cells slots (Zf below args s) (F0 m pc ls (mv_v G w :: .ref (mv_a G o) :: st.map (mv_v G)))
  rw [ha]
  have hgo : ∀ (H1 : Heap) (locs1 : List Loc), va_P (mv_D G) vwCl ((mv_c G sh h).set o (mv_b G + o, .inr (ci, (mv_f G (h o) 0 fl).set k (mv_v G w)))) H1 → H1.size = H.size → va_S (mv_A G) s.heap H1 locs1 → W p (mv_l G) e R s m args below meth c H1 locs1 cells slots (Zf below args s) (F0 m (pc + 3) ls (st.map (mv_v G))) := by
    intro H1 locs1 h1 h2 h3
    refine hk2 H1 locs1 ls ⟨?_, ?_, ?_⟩ h3 hv
    · rw [hset] at h1
      rw [← mv_c_set (G := G) (x' := .inr (ci, fl')) hn]
      exact h1
    · rw [h2, hw.2.1, List.length_set]
    · rw [List.length_set]; exact hw.2.2
  have hlen : k < (mv_f G (h o) 0 fl).length := by rw [mv_f_len]; exact hkl
  have hD := mv_dis G sh h
  have hap := va_apart (own := M.1.cls) hts hc2 ty hc3 hc4 hK hc1
  obtain ⟨r, h1, cell, q1, q2, q3, q4⟩ := hw.1 o _ hcell
  have hr0 : r = (C0, T, N) := Option.some.inj (h1.symm.trans hc1)
  subst hr0
  obtain ⟨hSl, hfc, kC, hkC, hkind⟩ := hK.1 ci _ hc1
  obtain ⟨cf, kf, fi, f, hi, hsl⟩ := hSl k hk
  have hlay := hts _ (hc2 _ (u_in_lay hk))
  unfold u_lay at hlay
  have hst := (u_facts hfc hkC (u_lays hts hc2 hk) hi).1
  have hdp : parseFieldDescriptor (T k).2.2.1 = some fty := by rw [hc3 k hk, hty]
  have hend : ∀ H' : Heap, H'[mv_b G + o]? = some (cell.setSlot f.slot (mv_v G w)) → H'.size = H.size → (∀ q, q ≠ mv_b G + o → H'[q]? = H[q]?) → W p (mv_l G) e R s m args below meth c H' (locs ++ [⟨mv_b G + o, f.slot⟩]) cells slots (Zf below args s) (F0 m (pc + 3) ls (st.map (mv_v G))) := by
    intro H' e1 e2 e3
    rw [hsl] at e1 ⊢
    exact hgo H' _ (hw.1.set hD hcell ⟨_, hc1, t_OB.to (V := updV (vp_V (mv_f G (h o) 0 fl)) k (mv_v G w)) ⟨_, e1, q2, q3, t_set q4 hap hk (mv_v G w)⟩ (fun j _ => vp_updV_set hlen (mv_v G w) j)⟩ e3) e2 (hS.put e2 e3 (hD.2 o _ hcell))
  rcases hl with ⟨hl, hdecl⟩ | ⟨hft, host, hl⟩
  · cases fin with
    | false =>
      rw [if_neg (by rw [hfin]; decide)] at hlay
      have h6 := u_store hfc hkC hkind hlay hi hdp hnar hfit
      exact W.putK hx hb (f := f) ⟨hown, hts _ hl, ⟨_, _, _, hi⟩, hst⟩ (by rw [q2]; exact h6) q1 q3 (by rw [hsl]; exact k2_hasslot (q4 k hk)) rfl rfl hd hend
    | true =>
      rw [if_pos hfin] at hlay
      have hcf : m.cls = cf := by
        obtain ⟨_, _, c', _, _, _, -, -, hf', -, -, -, hown2, -⟩ := Cond.laysFinal_spec hlay
        have e1 : c' = cf := by have := hi.symm.trans hf'; simp at this; exact this.1.symm
        rw [hdecl rfl] at hown2
        rw [← e1]; exact Option.some.inj (hown.symm.trans hown2)
      have h6 := u_fits hfc hkC hkind (Or.inr hlay) hi hdp hnar hfit
      exact W.putFinK hx hb hown (hts _ hl) hi hst hcf (hin.1 (hini rfl).1) (by rw [q2]; exact h6) q1 q3 (by rw [hsl]; exact k2_hasslot (q4 k hk)) rfl rfl hd hend
  · have h8 := (hini hft).2 _ hl
    rcases h8 with h8 | h8
    · exact absurd rfl h8
    · exact absurd rfl h8
theorem mv_puti {idx ci k o : Nat} {fin : Bool} {x : Int32} (hd : mv_dc M.2.1 pc (.putfield idx) 3 pc') (hf : mv_fl M.1.cls idx ci k fin .int) (hini : fin = true → M.1.name = "<init>" ∧ ∀ q ∈ mv_nf, q.1 ≠ M.1.cls ∨ q.2.1 ≠ idx) (hg : mv_gf sh o ci k none) (kk : mv_MW G M R Zf cells slots pc' lv st sh (mv_u h o k x)) : mv_MW G M R Zf cells slots pc lv (.int x :: .ref o :: st) sh h := by
  obtain ⟨fl, hs1, hs2⟩ := hg
  refine mv_put0 (w := .int x) (h' := mv_u h o k x) (fl' := fl) hd hf hini hs1 (List.getElem?_eq_some_iff.mp hs2).1 (fun i hi => mv_u_n hi) ?_ rfl rfl ?_
  · rw [mv_u_s]
    have := mv_f_seti (G := G) (hv := h o) (v := x) fl 0 k hs2
    rw [Nat.zero_add] at this
    exact this
  · rw [mv_set_same hs1]; exact kk
/-- a boolean: 0 or 1 -/
abbrev mv_01 (x : Int32) : Prop := x = 0 ∨ x = 1
theorem mv_putz {idx ci k o : Nat} {fin : Bool} {x : Int32} (hd : mv_dc M.2.1 pc (.putfield idx) 3 pc') (hf : mv_fl M.1.cls idx ci k fin .boolean) (hini : fin = true → M.1.name = "<init>" ∧ ∀ q ∈ mv_nf, q.1 ≠ M.1.cls ∨ q.2.1 ≠ idx) (hg : mv_gf sh o ci k none) (hx : mv_01 x) (kk : mv_MW G M R Zf cells slots pc' lv st sh (mv_u h o k x)) : mv_MW G M R Zf cells slots pc lv (.int x :: .ref o :: st) sh h := by
  obtain ⟨fl, hs1, hs2⟩ := hg
  refine mv_put0 (w := .int x) (h' := mv_u h o k x) (fl' := fl) hd hf hini hs1 (List.getElem?_eq_some_iff.mp hs2).1 (fun i hi => mv_u_n hi) ?_ (by rcases hx with rfl | rfl <;> rfl) (by rcases hx with rfl | rfl <;> rfl) ?_
  · rw [mv_u_s]
    have := mv_f_seti (G := G) (hv := h o) (v := x) fl 0 k hs2
    rw [Nat.zero_add] at this
    exact this
  · rw [mv_set_same hs1]; exact kk
theorem mv_putr {idx ci k o r : Nat} {fin : Bool} {fty : FieldType} {fl : List (Option (Option Nat))} (hd : mv_dc M.2.1 pc (.putfield idx) 3 pc') (hf : mv_fl M.1.cls idx ci k fin fty) (hini : fin = true → M.1.name = "<init>" ∧ ∀ q ∈ mv_nf, q.1 ≠ M.1.cls ∨ q.2.1 ≠ idx) (hs1 : sh[o]? = some (.inr (ci, fl))) (hkl : k < fl.length) (hty : (∃ C, fty = .object C) ∨ ∃ C, fty = .array C) (hsh : sh.set o (.inr (ci, fl.set k (some (some r)))) = sh') (kk : mv_MW G M R Zf cells slots pc' lv st sh' h) : mv_MW G M R Zf cells slots pc lv (.ref r :: .ref o :: st) sh h := by
  subst hsh
  exact mv_put0 (w := .ref r) (h' := h) (fl' := fl.set k (some (some r))) hd hf hini hs1 hkl (fun _ _ => rfl) (mv_f_setr fl 0 k) (by rcases hty with ⟨C, rfl⟩ | ⟨C, rfl⟩ <;> rfl) (by rcases hty with ⟨C, rfl⟩ | ⟨C, rfl⟩ <;> rfl) kk
theorem mv_iaload {o n : Nat} {i : Int32} {ρ : Type} {K : Option ρ} {Q : ρ → Prop} (hd : mv_dc M.2.1 pc .iaload 1 pc') (hg : sh[o]? = some (.inl (false, n))) (hs : mv_sat (if mv_in i n then K else none) Q) (kk : mv_sat K Q → mv_MW G M R Zf cells slots pc' lv (.int (h o i.toNatClampNeg) :: st) sh h) : mv_MW G M R Zf cells slots pc lv (.int i :: .ref o :: st) sh h := by
  obtain ⟨hd, rfl⟩ := hd
  obtain ⟨hi, hs⟩ := mv_sat_g hs
  intro p e s m args below meth c C H locs ls hw hS hv
  have hk2 := kk hs p e s m args below meth c C H locs ls hw hS hv
  obtain ⟨hx, hb, hr, hml, hown, hts, hlk, hin, hK, hX, hbs⟩ := C
  show W p (mv_l G) e R s m args below meth c H locs cells slots (Zf below args s) (F0 m pc ls (.int i :: .ref (mv_a G o) :: st.map (mv_v G)))
  rw [mv_own hw hg]
  exact va_iald hx hb hK hw.1 o 0 (mv_c_get (G := G) (h := h) hg) rfl (mv_in_vp hi) hd hk2
theorem mv_zaload {o n : Nat} {i : Int32} {ρ : Type} {K : Option ρ} {Q : ρ → Prop} (hd : mv_dc M.2.1 pc .baload 1 pc') (hg : sh[o]? = some (.inl (true, n))) (hs : mv_sat (if mv_in i n then K else none) Q) (kk : mv_sat K Q → mv_MW G M R Zf cells slots pc' lv (.int (h o i.toNatClampNeg) :: st) sh h) : mv_MW G M R Zf cells slots pc lv (.int i :: .ref o :: st) sh h := by
  obtain ⟨hd, rfl⟩ := hd
  obtain ⟨hi, hs⟩ := mv_sat_g hs
  intro p e s m args below meth c C H locs ls hw hS hv
  have hk2 := kk hs p e s m args below meth c C H locs ls hw hS hv
  obtain ⟨hx, hb, hr, hml, hown, hts, hlk, hin, hK, hX, hbs⟩ := C
  show W p (mv_l G) e R s m args below meth c H locs cells slots (Zf below args s) (F0 m pc ls (.int i :: .ref (mv_a G o) :: st.map (mv_v G)))
  rw [mv_own hw hg]
  exact va_zald hx hb hK hw.1 o 1 (mv_c_get (G := G) (h := h) hg) rfl (mv_in_vp hi) hd hk2
theorem mv_iastore {o n : Nat} {i x : Int32} {ρ : Type} {K : Option ρ} {Q : ρ → Prop} (hd : mv_dc M.2.1 pc .iastore 1 pc') (hg : sh[o]? = some (.inl (false, n))) (hs : mv_sat (if mv_in i n then K else none) Q) (kk : mv_sat K Q → mv_MW G M R Zf cells slots pc' lv st sh (mv_u h o i.toNatClampNeg x)) : mv_MW G M R Zf cells slots pc lv (.int x :: .int i :: .ref o :: st) sh h := by
  obtain ⟨hd, rfl⟩ := hd
  obtain ⟨hi, hs⟩ := mv_sat_g hs
  intro p e s m args below meth c C H locs ls hw hS hv
  have hk2 := kk hs p e s m args below meth c C
  obtain ⟨hx, hb, hr, hml, hown, hts, hlk, hin, hK, hX, hbs⟩ := C
  have ha := mv_c_get (G := G) (h := h) hg
  have hD := mv_dis G sh h
  show W p (mv_l G) e R s m args below meth c H locs cells slots (Zf below args s) (F0 m pc ls (.int x :: .int i :: .ref (mv_a G o) :: st.map (mv_v G)))
  rw [mv_own hw hg]
  refine W.iast hx hb (hw.1 o _ ha) ((hK.2 0 _ rfl).1 n (fun j => .int (h o j))) (fun q => by cases q) (by show ¬ (i < 0 ∨ (arrV _ _ _).slots.size ≤ _); rw [arrV_size]; exact mv_in_vp hi) rfl rfl hd fun H1 e1 z oq => ?_
  refine hk2 H1 _ ls ⟨?_, z.trans hw.2.1, hw.2.2⟩ (hS.put z oq (hD.2 o _ ha)) hv
  have hset : (mv_c G sh h).set o (mv_b G + o, mv_e G (mv_u h o i.toNatClampNeg x o) (.inl (false, n))) = mv_c G sh (mv_u h o i.toNatClampNeg x) := by
    rw [mv_c_set (fun j hj => mv_u_n hj), mv_set_same hg]
  rw [← hset]
  refine hw.1.set hD ha ?_ oq
  show H1[mv_b G + o]? = some (vp_cell _ _)
  rw [e1, mv_u_s]
  show some ((vp_cell _ (n, .inl (h o))).setSlot _ _) = some (vp_cell _ (n, .inl (upd (h o) i.toNatClampNeg x)))
  rw [vp_cell_i, vp_cell_i, arrV_store]
  congr 2
  funext q
  by_cases hq : q = i.toNatClampNeg
  · subst hq
    simp [updV, upd]
  · simp [updV, upd, hq]
theorem mv_zastore {o n : Nat} {i x : Int32} {ρ : Type} {K : Option ρ} {Q : ρ → Prop} (hd : mv_dc M.2.1 pc .bastore 1 pc') (hg : sh[o]? = some (.inl (true, n))) (h01 : mv_01 x) (hs : mv_sat (if mv_in i n then K else none) Q) (kk : mv_sat K Q → mv_MW G M R Zf cells slots pc' lv st sh (mv_u h o i.toNatClampNeg x)) : mv_MW G M R Zf cells slots pc lv (.int x :: .int i :: .ref o :: st) sh h := by
  obtain ⟨hd, rfl⟩ := hd
  obtain ⟨hi, hs⟩ := mv_sat_g hs
  intro p e s m args below meth c C H locs ls hw hS hv
  have hk2 := kk hs p e s m args below meth c C
  obtain ⟨hx, hb, hr, hml, hown, hts, hlk, hin, hK, hX, hbs⟩ := C
  have ha := mv_c_get (G := G) (h := h) hg
  have hD := mv_dis G sh h
  show W p (mv_l G) e R s m args below meth c H locs cells slots (Zf below args s) (F0 m pc ls (.int x :: .int i :: .ref (mv_a G o) :: st.map (mv_v G)))
  rw [mv_own hw hg]
  refine W.zast hx hb (hw.1 o _ ha) ((hK.2 1 _ rfl).1 n (fun j => .int (h o j))) (fun q => by cases q) (by show ¬ (i < 0 ∨ (arrV _ _ _).slots.size ≤ _); rw [arrV_size]; exact mv_in_vp hi) rfl rfl hd fun H1 e1 z oq => ?_
  refine hk2 H1 _ ls ⟨?_, z.trans hw.2.1, hw.2.2⟩ (hS.put z oq (hD.2 o _ ha)) hv
  have hset : (mv_c G sh h).set o (mv_b G + o, mv_e G (mv_u h o i.toNatClampNeg x o) (.inl (true, n))) = mv_c G sh (mv_u h o i.toNatClampNeg x) := by
    rw [mv_c_set (fun j hj => mv_u_n hj), mv_set_same hg]
  have hnar : narrow .boolean (.int x) = .int x := by rcases h01 with rfl | rfl <;> rfl
  rw [hnar] at e1
  rw [← hset]
  refine hw.1.set hD ha ?_ oq
  show H1[mv_b G + o]? = some (vp_cell _ _)
  rw [e1, mv_u_s]
  show some ((vp_cell _ (n, .inl (h o))).setSlot _ _) = some (vp_cell _ (n, .inl (upd (h o) i.toNatClampNeg x)))
  rw [vp_cell_i, vp_cell_i, arrV_store]
  congr 2
  funext q
  by_cases hq : q = i.toNatClampNeg
  · subst hq
    simp [updV, upd]
  · simp [updV, upd, hq]
/-- an array outside: read alone -/
theorem mv_xload {j : Nat} {i : Int32} {ρ : Type} {K : Option ρ} {Q : ρ → Prop} (hj : j < 1) (hd : mv_dc M.2.1 pc .iaload 1 pc') (hs : mv_sat (if mv_in i (mv_x G j).2.1 then K else none) Q) (kk : mv_sat K Q → mv_MW G M R Zf cells slots pc' lv (.int ((mv_x G j).2.2 i.toNatClampNeg) :: st) sh h) : mv_MW G M R Zf cells slots pc lv (.int i :: .ref (900 + j) :: st) sh h := by
  obtain ⟨hd, rfl⟩ := hd
  obtain ⟨hi, hs⟩ := mv_sat_g hs
  intro p e s m args below meth c C H locs ls hw hS hv
  have hk2 := kk hs p e s m args below meth c C H locs ls hw hS hv
  obtain ⟨hx, hb, hr, hml, hown, hts, hlk, hin, hK, hX, hbs⟩ := C
  have ha : mv_a G (900 + j) = (mv_x G j).1 := by rw [mv_a, if_neg (by omega), Nat.add_sub_cancel_left]
  show W p (mv_l G) e R s m args below meth c H locs cells slots (Zf below args s) (F0 m pc ls (.int i :: .ref (mv_a G (900 + j)) :: st.map (mv_v G)))
  rw [ha]
  exact va_sld hx hb (hX.1 j hj).2 (Nat.lt_of_lt_of_le (hX.1 j hj).1 hbs) (Nat.not_le.mpr (hX.1 j hj).1) hS (mv_in_vp hi) hd hk2
theorem mv_xl1 {i : Int32} {ρ : Type} {K : Option ρ} {Q : ρ → Prop} (hd : mv_dc M.2.1 pc .iaload 1 pc') (hs : mv_sat (if mv_in i 4 then K else none) Q) (kk : mv_sat K Q → mv_MW G M R Zf cells slots pc' lv (.int (mv_least i.toNatClampNeg) :: st) sh h) : mv_MW G M R Zf cells slots pc lv (.int i :: .ref 901 :: st) sh h := by
  obtain ⟨hd, rfl⟩ := hd
  obtain ⟨hi, hs⟩ := mv_sat_g hs
  intro p e s m args below meth c C H locs ls hw hS hv
  have hk2 := kk hs p e s m args below meth c C H locs ls hw hS hv
  obtain ⟨hx, hb, hr, hml, hown, hts, hlk, hin, hK, hX, hbs⟩ := C
  have ha : mv_a G 901 = (mv_x G 1).1 := rfl
  obtain ⟨hlt, scr, h1, h2, h3, h4, h5⟩ := hX.2.2.2.2.2.1
  have hlt4 : i.toNatClampNeg < 4 := hi.2
  show W p (mv_l G) e R s m args below meth c H locs cells slots (Zf below args s) (F0 m pc ls (.int i :: .ref (mv_a G 901) :: st.map (mv_v G)))
  rw [ha]
  refine W.iald (v := .int (mv_least i.toNatClampNeg)) hx hb (by rw [hS.2.1 _ (Nat.lt_of_lt_of_le hlt hbs) (Nat.not_le.mpr hlt)]; exact h1) h2 h3 ?_ (h5 _ hlt4) rfl rfl hd hk2
  rintro (q | q)
  · exact absurd hi.1 (Int32.not_le.mpr q)
  · omega
theorem mv_xl2 {i : Int32} {ρ : Type} {K : Option ρ} {Q : ρ → Prop} (hd : mv_dc M.2.1 pc .iaload 1 pc') (hs : mv_sat (if mv_in i 4 then K else none) Q) (kk : mv_sat K Q → mv_MW G M R Zf cells slots pc' lv (.int (mv_most i.toNatClampNeg) :: st) sh h) : mv_MW G M R Zf cells slots pc lv (.int i :: .ref 902 :: st) sh h := by
  obtain ⟨hd, rfl⟩ := hd
  obtain ⟨hi, hs⟩ := mv_sat_g hs
  intro p e s m args below meth c C H locs ls hw hS hv
  have hk2 := kk hs p e s m args below meth c C H locs ls hw hS hv
  obtain ⟨hx, hb, hr, hml, hown, hts, hlk, hin, hK, hX, hbs⟩ := C
  have ha : mv_a G 902 = (mv_x G 2).1 := rfl
  obtain ⟨hlt, scr, h1, h2, h3, h4, h5⟩ := hX.2.2.2.2.2.2
  have hlt4 : i.toNatClampNeg < 4 := hi.2
  show W p (mv_l G) e R s m args below meth c H locs cells slots (Zf below args s) (F0 m pc ls (.int i :: .ref (mv_a G 902) :: st.map (mv_v G)))
  rw [ha]
  refine W.iald (v := .int (mv_most i.toNatClampNeg)) hx hb (by rw [hS.2.1 _ (Nat.lt_of_lt_of_le hlt hbs) (Nat.not_le.mpr hlt)]; exact h1) h2 h3 ?_ (h5 _ hlt4) rfl rfl hd hk2
  rintro (q | q)
  · exact absurd hi.1 (Int32.not_le.mpr q)
  · omega
theorem mv_xlen {j : Nat} (hj : j < 1) (hd : mv_dc M.2.1 pc .arraylength 1 pc') (kk : mv_MW G M R Zf cells slots pc' lv (.int (Int32.ofNat (mv_x G j).2.1) :: st) sh h) : mv_MW G M R Zf cells slots pc lv (.ref (900 + j) :: st) sh h := by
  obtain ⟨hd, rfl⟩ := hd
  intro p e s m args below meth c C H locs ls hw hS hv
  have hk2 := kk p e s m args below meth c C H locs ls hw hS hv
  obtain ⟨hx, hb, hr, hml, hown, hts, hlk, hin, hK, hX, hbs⟩ := C
  have ha : mv_a G (900 + j) = (mv_x G j).1 := by rw [mv_a, if_neg (by omega), Nat.add_sub_cancel_left]
  show W p (mv_l G) e R s m args below meth c H locs cells slots (Zf below args s) (F0 m pc ls (.ref (mv_a G (900 + j)) :: st.map (mv_v G)))
  rw [ha]
  exact va_slen hx hb (hX.1 j hj).2 (Nat.lt_of_lt_of_le (hX.1 j hj).1 hbs) (Nat.not_le.mpr (hX.1 j hj).1) hS hd hk2
theorem mv_gets1 {idx : Nat} (hd : mv_dc M.2.1 pc (.getstatic idx) 3 pc') (hl : Cond.fieldLink M.1.cls idx "PaperBoxes" "SETTINGS_LEAST" "[I" ∈ mv_tb) (kk : mv_MW G M R Zf cells slots pc' lv (.ref 901 :: st) sh h) : mv_MW G M R Zf cells slots pc lv st sh h := by
  obtain ⟨hd, rfl⟩ := hd
  intro p e s m args below meth c C H locs ls hw hS hv
  have hk2 := kk p e s m args below meth c C H locs ls hw hS hv
  obtain ⟨hx, hb, hr, hml, hown, hts, hlk, hin, hK, hX, hbs⟩ := C
  exact va_gets hx hb hX.2.1 hS hown (hts _ hl) (fun _ q => q) hd hk2
theorem mv_gets2 {idx : Nat} (hd : mv_dc M.2.1 pc (.getstatic idx) 3 pc') (hl : Cond.fieldLink M.1.cls idx "PaperBoxes" "SETTINGS_MOST" "[I" ∈ mv_tb) (kk : mv_MW G M R Zf cells slots pc' lv (.ref 902 :: st) sh h) : mv_MW G M R Zf cells slots pc lv st sh h := by
  obtain ⟨hd, rfl⟩ := hd
  intro p e s m args below meth c C H locs ls hw hS hv
  have hk2 := kk p e s m args below meth c C H locs ls hw hS hv
  obtain ⟨hx, hb, hr, hml, hown, hts, hlk, hin, hK, hX, hbs⟩ := C
  exact va_gets hx hb hX.2.2.1 hS hown (hts _ hl) (fun _ q => q) hd hk2
theorem mv_ifnullR {o : Nat} {off : Int} (hd : mv_db M.2.1 pc (.ifnull off) off pc' tgt) (k : mv_MW G M R Zf cells slots pc' lv st sh h) : mv_MW G M R Zf cells slots pc lv (.ref o :: st) sh h := by
  obtain ⟨hd, rfl, ht⟩ := hd
  exact fun p e s m args below meth c C H locs ls hw hS hl => lv_ifnull C.1 C.2.1 hd (k p e s m args below meth c C H locs ls hw hS hl)
theorem mv_ifnullN {off : Int} (hd : mv_db M.2.1 pc (.ifnull off) off pc' tgt) (k : mv_MW G M R Zf cells slots tgt lv st sh h) : mv_MW G M R Zf cells slots pc lv (.null :: st) sh h := by
  obtain ⟨hd, rfl, ht⟩ := hd
  exact fun p e s m args below meth c C H locs ls hw hS hl => lv_ifnullN C.1 C.2.1 hd ht (k p e s m args below meth c C H locs ls hw hS hl)
end MvRows2
