/-! contracts, calls, entries, returns, making -/
def mv_Pc (G : mv_G) (as : List Value) (sh : mv_S) (h : mv_H) : Array Value → State → Prop := fun v U => v = (as.map (mv_v G)).toArray ∧ mv_w G sh h U.heap ∧ va_K (mv_D G) vwCl (mv_ty G) U ∧ mv_X G U U.heap
def mv_Qc (G : mv_G) (Q : Option Value → mv_S → mv_H → Prop) : Array Value → State → Outcome → State → Prop := fun _ st oc t => ∃ (r : Option Value) (sh' : mv_S) (h' : mv_H), oc = .returned (r.map (mv_v G)) ∧ Q r sh' h' ∧ mv_w G sh' h' t.heap ∧ (∀ q, q < mv_b G → t.heap[q]? = st.heap[q]?) ∧ st.heap.size ≤ t.heap.size
def mv_rm (d : Nat) (M : mv_M) : Room := { frames := d, cells := M.2.2.2.2.1, slots := M.2.2.2.2.2, locals := 64 * d }
/-- the contract of a method at a depth, for a world and arguments -/
def mv_met (G : mv_G) (d : Nat) (M : mv_M) (as : List Value) (sh : mv_S) (h : mv_H) (Q : Option Value → mv_S → mv_H → Prop) : Prop :=
  Met (mv_l G) M.1 (Cond.code M.1 M.2.1 M.2.2.1 M.2.2.2.1 :: mv_tb) (mv_rm d M) (mv_Pc G as sh h) (mv_Qc G Q) M.2.2.2.2.1 M.2.2.2.2.2 (mv_A G)
def mv_Zf (G : mv_G) (M : mv_M) (Q : Option Value → mv_S → mv_H → Prop) : List Frame → Array Value → State → State → Prop := fun below args s => MQ below (mv_Qc G Q) args s M.2.2.2.2.1 M.2.2.2.2.2 (mv_A G)
theorem mv_Pc_blind (G : mv_G) (as : List Value) (sh : mv_S) (h : mv_H) : FrameBlind (mv_Pc G as sh h) := fun a U g mk q => ⟨q.1, q.2.1, va_K.moved (u := U) (U := U.calling g mk a) (Vm.Alike.refl U.vm) q.2.2.1, mv_X.same (u := U) (U := U.calling g mk a) rfl q.2.2.2⟩
def mv_lay : List Value → List Value
  | [] => []
  | .long x :: r => .long x :: .float 0 :: mv_lay r
  | .double x :: r => .double x :: .float 0 :: mv_lay r
  | v :: r => v :: mv_lay r
theorem mv_lay_at {G : mv_G} : ∀ (as : List Value) (j i : Nat) (v : Value) (n : Nat), (mv_lay as ++ List.replicate n (.float 0))[i]? = some v → (∀ b, v ≠ .float b) → (j + i, mv_v G v) ∈ lv_args j (as.map (mv_v G))
  | [], j, i, v, n, h, hf => by
    simp only [mv_lay, List.nil_append, List.getElem?_replicate] at h
    split at h
    · cases h; exact absurd rfl (hf 0)
    · cases h
  | w :: r, j, i, v, n, h, hf => by
    have one : mv_lay (w :: r) = w :: mv_lay r → w.category = 1 → (j + i, mv_v G v) ∈ lv_args j ((w :: r).map (mv_v G)) := fun e hc => by
      rw [e] at h
      simp only [List.map_cons, lv_args, mv_v_cat, hc]
      cases i with
      | zero => simp at h; subst h; exact List.mem_cons_self
      | succ i =>
        have := mv_lay_at (G := G) r (j + 1) i v n (by simpa using h) hf
        rw [show j + 1 + i = j + (i + 1) by omega] at this
        exact List.mem_cons_of_mem _ (by simpa using this)
    have two : mv_lay (w :: r) = w :: .float 0 :: mv_lay r → w.category = 2 → (j + i, mv_v G v) ∈ lv_args j ((w :: r).map (mv_v G)) := fun e hc => by
      rw [e] at h
      simp only [List.map_cons, lv_args, mv_v_cat, hc]
      match i, h with
      | 0, h => simp at h; subst h; exact List.mem_cons_self
      | 1, h => simp at h; subst h; exact absurd rfl (hf 0)
      | i + 2, h =>
        have := mv_lay_at (G := G) r (j + 2) i v n (by simpa using h) hf
        rw [show j + 2 + i = j + (i + 2) by omega] at this
        exact List.mem_cons_of_mem _ (by simpa using this)
    cases w <;> first | exact one rfl rfl | exact two rfl rfl
theorem mv_sl_len (G : mv_G) : ∀ as : List Value, (lg_sl (as.map (mv_v G))).length = (as.map Value.category).sum
  | [] => rfl
  | v :: r => by
    have := mv_sl_len G r
    simp only [lg_sl, List.map_cons, List.flatMap_cons, List.length_append, List.sum_cons, mv_v_cat] at this ⊢
    rw [this]
    rcases lv_cat v with h | h <;> simp [h]
section MvCalls
variable {G : mv_G} {M : mv_M} {R : Room} {Zf : List Frame → Array Value → State → State → Prop} {cells slots pc pc' tgt : Nat} {lv lv' st : List Value} {sh sh' : mv_S} {h : mv_H}
theorem mv_enter {d : Nat} {as : List Value} {Q : Option Value → mv_S → mv_H → Prop} (n : Nat) (hnl : M.1.name ≠ "law") (hy : plainName M.1.cls = true) (hlv : mv_lay as ++ List.replicate n (.float 0) = lv) (hfit : (as.map Value.category).sum ≤ M.2.2.1) (k : mv_MW G M (mv_rm d M) (mv_Zf G M Q) 0 0 0 lv [] sh h) : mv_met G d M as sh h Q := by
  refine Met.ofW (cc := M.2.1) (maxL := M.2.2.1) (ret := M.2.2.2.1) hy rfl ?_
  intro p e s m args below meth c s₁ B hml hv
  obtain ⟨rfl, hw, hK, hX⟩ := hv
  have hts := atoms_spec (ws := Cond.code M.1 M.2.1 M.2.2.1 M.2.2.2.1 :: mv_tb) B.pre
  rw [lg_entry_eq]
  have hl := lv_entry (as.map (mv_v G)) (n := M.2.2.1) (by rw [mv_sl_len]; exact hfit)
  refine k p e s m _ below meth c ⟨B.exec, B.bytes, B.returns, hml, findClass_of_methodNamed B.named, fun w hm => hts w (List.mem_cons_of_mem _ hm), B.notSynchronized, ⟨fun hn => ((name_of_methodNamed B.named B.method).1).trans hn, fun hn => absurd hn hnl⟩, hK, hX, by have := hw.2.1; omega⟩ s.heap [] _ hw va_S.rf ⟨hl.1, hl.2.1, fun i v hi hf => ?_⟩
  have := mv_lay_at (G := G) as 0 i v n (by rw [hlv]; exact hi) hf
  rw [Nat.zero_add] at this
  exact hl.2.2 _ this
theorem mv_back {p : Program} {e : Env} {s : State} {m : MethodId} {args : Array Value} {below : List Frame} {meth : Method} {c : Code} {H : Heap} {locs : List Loc} {ls : Array Slot} {st0 : List Value} {a : Array Value} {Q' : Option Value → mv_S → mv_H → Prop} {mc ms : Nat}
    (C : mv_Cx G M p s m args meth c) (hw : mv_w G sh h H) (hS : va_S (mv_A G) s.heap H locs) (hl : mv_L G ls M.2.2.1 lv)
    (hr : va_Run p (mv_l G) e R s m args below meth c H locs cells slots mc ms (F0 m pc ls st0) (st.map (mv_v G)) (mv_Qc G Q' a) (mv_A G))
    (k : ∀ r sh' h', Q' r sh' h' → mv_MW G M R Zf (cells + mc) (slots + ms) (pc + 3) lv (r.toList ++ st) sh' h') :
    W p (mv_l G) e R s m args below meth c H locs cells slots (Zf below args s) (F0 m pc ls st0) := by
  intro T hT X
  obtain ⟨v, st₀, t, T', L, h0, X', hL, e1, e2, ⟨r, sh', h', hv, hq, hw', hb, hz⟩, hst⟩ := hr T hT X
  cases hv
  rw [h0] at hb hz
  have hbs := C.2.2.2.2.2.2.2.2.2.2
  have hS' : va_S (mv_A G) s.heap T'.heap (locs ++ L) := by
    refine ⟨Nat.le_trans hS.1 (by rw [e1]; exact hz), fun q h1 h2 => ?_, fun q hq => ?_⟩
    · have h3 : q < mv_b G := Nat.not_le.mp h2
      rw [e1, hb q h3]
      exact hS.2.1 q h1 h2
    · rcases List.mem_append.mp hq with z | z
      · exact hS.2.2 q z
      · exact hL q z
  obtain ⟨t2, a1, b1⟩ := k r sh' h' hq p e s m args below meth c C T'.heap (locs ++ L) ls (by rw [e1]; exact hw') hS' hl T' rfl X'
  refine ⟨t2, hst t2 ?_, b1⟩
  have he : (r.toList ++ st).map (mv_v G) = (r.map (mv_v G)).toList ++ st.map (mv_v G) := by cases r <;> simp
  rw [he] at a1
  exact a1
theorem mv_pre {p : Program} {s : State} {m : MethodId} {args : Array Value} {meth : Method} {c : Code} {H : Heap} {locs : List Loc} {as : List Value}
    (C : mv_Cx G M p s m args meth c) (hw : mv_w G sh h H) (hS : va_S (mv_A G) s.heap H locs) {av : Array Value} (hav : av = (as.map (mv_v G)).toArray) : ∀ U : State, U.heap = H → s.WarmedH U.vm → mv_Pc G as sh h av U := by
  intro U hU hW
  obtain ⟨hx, hb, hr, hml, hown, hts, hlk, hin, hK, hX, hbs⟩ := C
  refine ⟨hav, by rw [hU]; exact hw, va_K.moved hW.alike hK, ?_⟩
  rw [hU]
  exact hX.moved hW (fun q hq => hS.2.1 q (Nat.lt_of_lt_of_le hq hbs) (Nat.not_le.mpr hq))
def mv_mk (M' : mv_M) (n : Nat) : Prop := Cond.code M'.1 M'.2.1 M'.2.2.1 M'.2.2.2.1 ∈ mv_tb ∧ Cond.initialized M'.1.cls ∈ mv_tb ∧ (M'.1.cls ≠ "java/lang/invoke/MethodHandle" ∧ M'.1.cls ≠ "java/lang/invoke/VarHandle" ∧ (parseMethodDescriptor M'.1.desc).map (fun d => d.parameters.length) = some n) ∧ M'.2.2.1 ≤ 40
def mv_kV (own : String) (idx : Nat) (M' : mv_M) (n : Nat) : Prop := mv_mk M' n ∧ Cond.methodLink own idx M'.1 ∈ mv_tb ∧ Cond.instanceMethod M'.1 ∈ mv_tb ∧ Cond.selects M'.1.cls M'.1 M'.1 ∈ mv_tb
def mv_kS (own : String) (idx : Nat) (M' : mv_M) (n : Nat) : Prop := mv_mk M' n ∧ Cond.static M'.1 ∈ mv_tb ∧ (Cond.methodLink own idx M'.1 ∈ mv_tb ∨ ∃ host, (own, idx, M'.1, host) ∈ mv_nm)
def mv_kI (own : String) (idx : Nat) (M' : mv_M) (n : Nat) : Prop := mv_mk M' n ∧ M'.1.name = "<init>" ∧ Cond.instanceMethod M'.1 ∈ mv_tb ∧ (Cond.methodLink own idx M'.1 ∈ mv_tb ∨ ∃ host, (own, idx, M'.1, host) ∈ mv_nm)
theorem mv_rest {ls : Array Slot} {m : MethodId} {st0 : List Value} (hc : (st.map Value.category).sum ≤ 8) : 2 * (F0 m pc ls st0).monitorRoom + ((st.map (mv_v G)).map fun v => v.category).sum ≤ 8 := by
  refine lv_room ?_
  have : (st.map (mv_v G)).map (fun v => v.category) = st.map Value.category := by
    rw [List.map_map]
    exact List.map_congr_left (fun v _ => mv_v_cat G v)
  rw [this]
  exact hc
theorem mv_invV {d idx o ci n : Nat} {M' : mv_M} {as : List Value} {Q' : Option Value → mv_S → mv_H → Prop} {st0 : List Value} {fl : List (Option (Option Nat))} {T : u_T} {N : Nat}
    (hd : mv_dc M.2.1 pc (.invokevirtual idx) 3 pc') (hk : mv_kV M.1.cls idx M' n) (hM : mv_met G d M' (.ref o :: as) sh h Q') (ho : sh[o]? = some (.inr (ci, fl))) (hci : vwCl[ci]? = some (M'.1.cls, T, N)) (hst : st0 = as.reverse ++ .ref o :: st) (hn : as.length = n) (hc : (st.map Value.category).sum ≤ 8)
    (hR : d + 1 ≤ R.frames ∧ 64 * (d + 1) ≤ R.locals) (hroom : cells + M'.2.2.2.2.1 ≤ R.cells ∧ slots + M'.2.2.2.2.2 ≤ R.slots)
    (k : ∀ r sh' h', Q' r sh' h' → mv_MW G M R Zf (cells + M'.2.2.2.2.1) (slots + M'.2.2.2.2.2) pc' lv (r.toList ++ st) sh' h') : mv_MW G M R Zf cells slots pc lv st0 sh h := by
  obtain ⟨hd, rfl⟩ := hd
  intro p e s m args below meth c C H locs ls hw hS hl
  refine mv_back (mc := M'.2.2.2.2.1) (ms := M'.2.2.2.2.2) (Q' := Q') (a := (Value.ref (mv_a G o) :: as.map (mv_v G)).toArray) C hw hS hl ?_ k
  have C' := C
  obtain ⟨hx, hb, hr, hml, hown, hts, hlk, hin, hK, hX, hbs⟩ := C
  obtain ⟨⟨hcode, hini, hdesc, hL⟩, hlink, hinst, hsel⟩ := hk
  have ha := mv_own hw ho
  have cw : CallW R s args M.1.cls M'.1.cls idx M'.1 M'.2.1 M'.2.2.1 M'.2.2.2.1 (Cond.code M'.1 M'.2.1 M'.2.2.1 M'.2.2.2.1 :: mv_tb) (mv_rm d M') M'.2.2.2.2.1 M'.2.2.2.2.2 n :=
    ⟨callB_of n hts (mv_tb_code hcode) rfl rfl rfl (hts _ hini) (hts _ hlink) hdesc ⟨hR.1, by show 8 + (M'.2.2.1 + 11) + 64 * d ≤ R.locals; omega⟩, hts _ hinst, hts _ hsel⟩
  refine va_runV (As := as.map (mv_v G)) (b := mv_a G o) (rest := st.map (mv_v G)) ⟨hx, hb, hml, hown, hts⟩ hM cw ⟨mv_Pc_blind G _ sh h, ?_, mv_pre C' hw hS rfl⟩ rfl (by rw [List.length_map]; exact hn) hl.1 ?_ (mv_rest hc) hd hroom
  · rw [ha]; exact va_recv hK hw.1 hci (mv_c_get (G := G) (h := h) ho)
  · rw [hst]; simp [mv_v]
theorem mv_invS {d idx n : Nat} {M' : mv_M} {as : List Value} {Q' : Option Value → mv_S → mv_H → Prop} {st0 : List Value}
    (hd : mv_dc M.2.1 pc (.invokestatic idx) 3 pc') (hk : mv_kS M.1.cls idx M' n) (hM : mv_met G d M' as sh h Q') (hst : st0 = as.reverse ++ st) (hn : as.length = n) (hc : (st.map Value.category).sum ≤ 8)
    (hR : d + 1 ≤ R.frames ∧ 64 * (d + 1) ≤ R.locals) (hroom : cells + M'.2.2.2.2.1 ≤ R.cells ∧ slots + M'.2.2.2.2.2 ≤ R.slots)
    (k : ∀ r sh' h', Q' r sh' h' → mv_MW G M R Zf (cells + M'.2.2.2.2.1) (slots + M'.2.2.2.2.2) pc' lv (r.toList ++ st) sh' h') : mv_MW G M R Zf cells slots pc lv st0 sh h := by
  obtain ⟨hd, rfl⟩ := hd
  intro p e s m args below meth c C H locs ls hw hS hl
  refine mv_back (mc := M'.2.2.2.2.1) (ms := M'.2.2.2.2.2) (Q' := Q') (a := (as.map (mv_v G)).toArray) C hw hS hl ?_ k
  have C' := C
  obtain ⟨hx, hb, hr, hml, hown, hts, hlk, hin, hK, hX, hbs⟩ := C
  obtain ⟨⟨hcode, hini, hdesc, hL⟩, hstat, hlink⟩ := hk
  have hstk : st0.map (mv_v G) = (as.map (mv_v G)).reverse ++ st.map (mv_v G) := by rw [hst]; simp
  rcases hlink with hlink | ⟨host, hlink⟩
  · exact va_runS (As := as.map (mv_v G)) (rest := st.map (mv_v G)) ⟨hx, hb, hml, hown, hts⟩ hM ⟨callB_of n hts (mv_tb_code hcode) rfl rfl rfl (hts _ hini) (hts _ hlink) hdesc ⟨hR.1, by show 8 + (M'.2.2.1 + 11) + 64 * d ≤ R.locals; omega⟩, hts _ hstat⟩ ⟨mv_Pc_blind G _ sh h, mv_pre C' hw hS rfl⟩ rfl (by rw [List.length_map]; exact hn) hl.1 hstk (mv_rest hc) hd hroom
  · exact va_runSN (As := as.map (mv_v G)) (rest := st.map (mv_v G)) ⟨hx, hb, hml, hown, hts⟩ hM ⟨va_cnB n hts (mv_tb_code hcode) rfl rfl rfl (hX.2.2.2.2.1 _ hlink) (hts _ hini) hdesc ⟨hR.1, by show 8 + (M'.2.2.1 + 11) + 64 * d ≤ R.locals; omega⟩, hts _ hstat, trivial⟩ ⟨mv_Pc_blind G _ sh h, mv_pre C' hw hS rfl⟩ rfl (by rw [List.length_map]; exact hn) hl.1 hstk (mv_rest hc) hd hroom
theorem mv_invI {d idx o n : Nat} {M' : mv_M} {as : List Value} {Q' : Option Value → mv_S → mv_H → Prop} {st0 : List Value}
    (hd : mv_dc M.2.1 pc (.invokespecial idx) 3 pc') (hk : mv_kI M.1.cls idx M' n) (hret : M'.2.2.2.1 = none) (hM : mv_met G d M' (.ref o :: as) sh h Q') (hst : st0 = as.reverse ++ .ref o :: st) (hn : as.length = n) (hc : (st.map Value.category).sum ≤ 8)
    (hR : d + 1 ≤ R.frames ∧ 64 * (d + 1) ≤ R.locals) (hroom : cells + M'.2.2.2.2.1 ≤ R.cells ∧ slots + M'.2.2.2.2.2 ≤ R.slots)
    (k : ∀ r sh' h', Q' r sh' h' → mv_MW G M R Zf (cells + M'.2.2.2.2.1) (slots + M'.2.2.2.2.2) pc' lv (r.toList ++ st) sh' h') : mv_MW G M R Zf cells slots pc lv st0 sh h := by
  obtain ⟨hd, rfl⟩ := hd
  intro p e s m args below meth c C H locs ls hw hS hl
  refine mv_back (mc := M'.2.2.2.2.1) (ms := M'.2.2.2.2.2) (Q' := Q') (a := (Value.ref (mv_a G o) :: as.map (mv_v G)).toArray) C hw hS hl ?_ k
  have C' := C
  obtain ⟨hx, hb, hr, hml, hown, hts, hlk, hin, hK, hX, hbs⟩ := C
  obtain ⟨⟨hcode, hini, hdesc, hL⟩, hname, hinst, hlink⟩ := hk
  have hM2 := hM
  unfold mv_met at hM2
  rw [hret] at hcode hM2
  have hstk : st0.map (mv_v G) = (as.map (mv_v G)).reverse ++ .ref (mv_a G o) :: st.map (mv_v G) := by rw [hst]; simp [mv_v]
  rcases hlink with hlink | ⟨host, hlink⟩
  · exact va_runI (As := as.map (mv_v G)) (b := mv_a G o) (rest := st.map (mv_v G)) ⟨hx, hb, hml, hown, hts⟩ hM2 ⟨callB_of n hts (mv_tb_code hcode) rfl rfl rfl (hts _ hini) (hts _ hlink) hdesc ⟨hR.1, by show 8 + (M'.2.2.1 + 11) + 64 * d ≤ R.locals; omega⟩, hname, hts _ hinst⟩ ⟨mv_Pc_blind G _ sh h, mv_pre C' hw hS rfl⟩ rfl (by rw [List.length_map]; exact hn) hl.1 hstk (mv_rest hc) hd hroom
  · exact va_runIN (As := as.map (mv_v G)) (b := mv_a G o) (rest := st.map (mv_v G)) ⟨hx, hb, hml, hown, hts⟩ hM2 ⟨va_cnB n hts (mv_tb_code hcode) rfl rfl rfl (hX.2.2.2.2.1 _ hlink) (hts _ hini) hdesc ⟨hR.1, by show 8 + (M'.2.2.1 + 11) + 64 * d ≤ R.locals; omega⟩, hname, hts _ hinst⟩ ⟨mv_Pc_blind G _ sh h, mv_pre C' hw hS rfl⟩ rfl (by rw [List.length_map]; exact hn) hl.1 hstk (mv_rest hc) hd hroom
theorem mv_end {p : Program} {s : State} {m : MethodId} {args : Array Value} {meth : Method} {c : Code} {H : Heap} {locs : List Loc} {Q : Option Value → mv_S → mv_H → Prop} {r : Option Value} (C : mv_Cx G M p s m args meth c) (hw : mv_w G sh h H) (hS : va_S (mv_A G) s.heap H locs) (hq : Q r sh h) {a : Array Value} : ∀ t : State, t.heap = H → s.WarmedH t.vm → mv_Qc G Q a s (.returned (r.map (mv_v G))) t := by
  intro t ht _
  have hbs := C.2.2.2.2.2.2.2.2.2.2
  exact ⟨r, sh, h, rfl, hq, by rw [ht]; exact hw, fun q hl => by rw [ht]; exact hS.2.1 q (Nat.lt_of_lt_of_le hl hbs) (Nat.not_le.mpr hl), by rw [ht]; exact hS.1⟩
theorem mv_iret {Q : Option Value → mv_S → mv_H → Prop} {x : Int32} (hd : mv_dc M.2.1 pc .ireturn 1 pc') (hr : M.2.2.2.1 = some .int) (hq : Q (some (.int x)) sh h) : mv_MW G M R (mv_Zf G M Q) M.2.2.2.2.1 M.2.2.2.2.2 pc lv [.int x] sh h := by
  intro p e s m args below meth c C H locs ls hw hS hl
  exact W.iret C.1 C.2.1 (C.2.2.1.trans hr) (mv_end C hw hS hq) hS.2.2 hd.1 C.2.2.2.2.2.2.1
theorem mv_zret {Q : Option Value → mv_S → mv_H → Prop} {x : Int32} (hd : mv_dc M.2.1 pc .ireturn 1 pc') (hr : M.2.2.2.1 = some .boolean) (hx : mv_01 x) (hq : Q (some (.int x)) sh h) : mv_MW G M R (mv_Zf G M Q) M.2.2.2.2.1 M.2.2.2.2.2 pc lv [.int x] sh h := by
  intro p e s m args below meth c C H locs ls hw hS hl
  exact W.zret C.1 C.2.1 (C.2.2.1.trans hr) (by rcases hx with rfl | rfl <;> rfl) (mv_end C hw hS hq) hS.2.2 hd.1 C.2.2.2.2.2.2.1
theorem mv_vret {Q : Option Value → mv_S → mv_H → Prop} (hd : mv_dc M.2.1 pc .return_ 1 pc') (hr : M.2.2.2.1 = none) (hq : Q none sh h) : mv_MW G M R (mv_Zf G M Q) M.2.2.2.2.1 M.2.2.2.2.2 pc lv [] sh h := by
  intro p e s m args below meth c C H locs ls hw hS hl
  exact W.vret C.1 C.2.1 (C.2.2.1.trans hr) (mv_end C hw hS hq) hS.2.2 hd.1 C.2.2.2.2.2.2.1
theorem mv_aret {Q : Option Value → mv_S → mv_H → Prop} {o : Nat} {C0 : String} (hd : mv_dc M.2.1 pc .areturn 1 pc') (hr : M.2.2.2.1 = some (.object C0)) (hq : Q (some (.ref o)) sh h) : mv_MW G M R (mv_Zf G M Q) M.2.2.2.2.1 M.2.2.2.2.2 pc lv [.ref o] sh h := by
  intro p e s m args below meth c C H locs ls hw hS hl
  exact W.aret C.1 C.2.1 (C.2.2.1.trans hr) (Or.inl ⟨C0, rfl⟩) (Or.inr ⟨_, rfl⟩) (mv_end C hw hS hq) hS.2.2 hd.1 C.2.2.2.2.2.2.1
theorem mv_objInit {idx o : Nat} (hd : mv_dc M.2.1 pc (.invokespecial idx) 3 pc') (hl1 : Cond.methodLink M.1.cls idx Lib.objectInit ∈ mv_tb) (hl2 : Cond.instanceMethod Lib.objectInit ∈ mv_tb) (hl3 : Cond.code Lib.objectInit ⟨#[0xb1]⟩ 1 none ∈ mv_tb) (hc : (st.map Value.category).sum ≤ 8) (hR : 1 ≤ R.frames ∧ 64 ≤ R.locals) (k : mv_MW G M R Zf cells slots pc' lv st sh h) : mv_MW G M R Zf cells slots pc lv (.ref o :: st) sh h := by
  obtain ⟨hd, rfl⟩ := hd
  intro p e s m args below meth c C H locs ls hw hS hl
  have hk2 := k p e s m args below meth c C H locs ls hw hS hl
  obtain ⟨hx, hb, hr, hml, hown, hts, hlk, hin, hK, hX, hbs⟩ := C
  have h8 := mv_rest (G := G) (pc := pc) (ls := ls) (m := m) (st0 := List.map (mv_v G) (.ref o :: st)) hc
  exact W.objInit hx hb hown (hts _ hl1) (hts _ hl2) (hts _ hl3) rfl (by rw [hml]; exact hl.1) rfl hd hR.1 (by have := hR.2; omega) hk2
theorem mv_c_push {x : (Bool × Nat) ⊕ (Nat × List (Option (Option Nat)))} : mv_c G (sh ++ [x]) (mv_z h sh.length) = mv_c G sh h ++ [(mv_b G + sh.length, mv_e G (fun _ => 0) x)] := by
  apply List.ext_getElem?
  intro i
  by_cases hi : i < sh.length
  · rw [List.getElem?_append_left (by rw [mv_c_len]; exact hi)]
    have e1 : (sh ++ [x])[i]? = some sh[i] := by rw [List.getElem?_append_left hi]; exact List.getElem?_eq_getElem hi
    rw [mv_c_get e1, mv_c_get (List.getElem?_eq_getElem hi), mv_z_n (by omega)]
  · rw [List.getElem?_append_right (by rw [mv_c_len]; omega), mv_c_len]
    by_cases he : i = sh.length
    · subst he
      have e1 : (sh ++ [x])[sh.length]? = some x := by simp
      rw [mv_c_get e1, mv_z_s]
      simp
    · rw [List.getElem?_eq_none (by rw [mv_c_len, List.length_append]; simp; omega), List.getElem?_eq_none (by simp; omega)]
def mv_dv : FieldType → Option (Option Nat)
  | .object _ => some none
  | .array _ => some none
  | _ => none
def mv_ok : FieldType → Bool
  | .object _ => true
  | .array _ => true
  | .int => true
  | .boolean => true
  | _ => false
theorem mv_new {idx ci : Nat} {C0 : String} {T : u_T} {N : Nat} {ty : Nat → FieldType} {o : Nat} (hd : mv_dc M.2.1 pc (.new idx) 3 pc') (hcl : mv_cls ci C0 T N ty) (hl1 : Cond.classLink M.1.cls idx C0 ∈ mv_tb) (hl2 : Cond.instantiable C0 N ∈ mv_tb) (hl3 : Cond.initialized C0 ∈ mv_tb) (hok : ∀ j, j < N → mv_ok (ty j) = true) (ho : sh.length = o) (ho9 : o < 900) (hsh : sh ++ [.inr (ci, (List.range N).map (fun j => mv_dv (ty j)))] = sh') {c' s' : Nat} (hc1 : cells + 1 = c') (hs1 : slots + N = s') (hroom : c' ≤ R.cells ∧ s' ≤ R.slots)
    (k : mv_MW G M R Zf c' s' pc' lv (.ref o :: st) sh' (mv_z h o)) : mv_MW G M R Zf cells slots pc lv st sh h := by
  subst hc1
  subst hs1
  obtain ⟨hd, rfl⟩ := hd
  subst hsh
  subst ho
  intro p e s m args below meth c C H locs ls hw hS hl
  have hk2 := k p e s m args below meth c C
  obtain ⟨hx, hb, hr, hml, hown, hts, hlk, hin, hK, hX, hbs⟩ := C
  obtain ⟨hc1, hc2, hc3, hc4⟩ := hcl
  have hKn := hK.1 ci _ hc1
  refine W.newcK hx hb hown (hts _ hl1) (hts _ hl2) (hts _ hl3) rfl hd hroom.1 hroom.2 hKn.2.1 rfl fun H1 kC hkC e1 z1 o1 => ?_
  have hk : ∀ (k : Nat) (x : Nat × va_E), (mv_c G sh h)[k]? = some x → H1[x.1]? = H[x.1]? := fun k x hx => o1 x.1 ((hw.1 k x hx).lt)
  have ha : mv_a G sh.length = H.size := by rw [mv_a, if_pos ho9, hw.2.1]
  have hW := hk2 H1 locs ls ⟨?_, ?_, ?_⟩ ⟨Nat.le_trans hS.1 (by omega), fun x h1 h2 => (o1 x (Nat.lt_of_lt_of_le h1 hS.1)).trans (hS.2.1 x h1 h2), hS.2.2⟩ hl
  · have e9 : (List.map (mv_v G) (.ref sh.length :: st)) = .ref H.size :: st.map (mv_v G) := by simp [mv_v, ha]
    rw [e9] at hW
    exact hW
  · rw [mv_c_push]
    refine (hw.1.kept hk).app (fun k x hx => ?_)
    have hz : k < 1 := (List.getElem?_eq_some_iff.mp hx).1
    rw [show k = 0 by omega] at hx
    cases hx
    rw [← hw.2.1]
    refine ⟨_, hc1, (u_born ty hts hc2 hKn hkC e1 hc3).to (fun j hj => ?_)⟩
    have hg : ((List.range N).map (fun j => mv_dv (ty j)))[j]? = some (mv_dv (ty j)) := by simp [hj]
    have := mv_f_get (G := G) (hv := fun _ => 0) _ 0 j _ hg
    have hok' := hok j hj
    show defaultValue (ty j) = vp_V (mv_f G (fun _ => 0) 0 _) j
    unfold vp_V
    rw [List.getD_eq_getElem?_getD, this]
    cases hty : ty j <;> rw [hty] at hok' <;> first | rfl | simp [mv_ok] at hok'
  · rw [z1, hw.2.1, List.length_append]; rfl
  · rw [List.length_append]; simp; omega
theorem mv_newa {n : Int32} {N o : Nat} (hd : mv_dc M.2.1 pc (.newarray .int) 2 pc') (hl1 : Cond.arrayClass .int ∈ mv_tb) (hn : ¬ n < 0) (hN : n.toNatClampNeg = N) (hN2 : N ≤ 100000) (ho : sh.length = o) (ho9 : o < 900) (hsh : sh ++ [.inl (false, N)] = sh') {c' s' : Nat} (hc1 : cells + 1 = c') (hs1 : slots + N = s') (hroom : c' ≤ R.cells ∧ s' ≤ R.slots)
    (k : mv_MW G M R Zf c' s' pc' lv (.ref o :: st) sh' (mv_z h o)) : mv_MW G M R Zf cells slots pc lv (.int n :: st) sh h := by
  subst hc1
  subst hs1
  obtain ⟨hd, rfl⟩ := hd
  subst hsh
  subst ho
  intro p e s m args below meth c C H locs ls hw hS hl
  have hk2 := k p e s m args below meth c C
  obtain ⟨hx, hb, hr, hml, hown, hts, hlk, hin, hK, hX, hbs⟩ := C
  refine va_newaK hx hb (atype := .int) (hts _ hl1) rfl hd rfl hn hN (by show N * 4 ≤ _; omega) hroom.1 hroom.2 rfl fun H1 cA e1 z1 o1 hAr hNm => ?_
  have hcA : cA = mv_cI G := by
    have h2 : s.vm.findClass ("[" ++ FieldType.int.toString) = some (mv_cI G) := (hK.2 0 _ rfl).2
    exact Option.some.inj (hNm.symm.trans h2)
  have hk : ∀ (k : Nat) (x : Nat × va_E), (mv_c G sh h)[k]? = some x → H1[x.1]? = H[x.1]? := fun k x hx => o1 x.1 ((hw.1 k x hx).lt)
  have ha : mv_a G sh.length = H.size := by rw [mv_a, if_pos ho9, hw.2.1]
  have hW := hk2 H1 locs ls ⟨?_, ?_, ?_⟩ ⟨Nat.le_trans hS.1 (by omega), fun x h1 h2 => (o1 x (Nat.lt_of_lt_of_le h1 hS.1)).trans (hS.2.1 x h1 h2), hS.2.2⟩ hl
  · have e9 : (List.map (mv_v G) (.ref sh.length :: st)) = .ref H.size :: st.map (mv_v G) := by simp [mv_v, ha]
    rw [e9] at hW
    exact hW
  · rw [mv_c_push]
    refine (hw.1.kept hk).app (fun k x hx => ?_)
    have hz : k < 1 := (List.getElem?_eq_some_iff.mp hx).1
    rw [show k = 0 by omega] at hx
    cases hx
    rw [← hw.2.1]
    show H1[H.size]? = some (vp_cell _ _)
    rw [e1, hcA]
    rfl
  · rw [z1, hw.2.1, List.length_append]; rfl
  · rw [List.length_append]; simp; omega
theorem mv_newz {n : Int32} {N o : Nat} (hd : mv_dc M.2.1 pc (.newarray .boolean) 2 pc') (hl1 : Cond.arrayClass .boolean ∈ mv_tb) (hn : ¬ n < 0) (hN : n.toNatClampNeg = N) (hN2 : N ≤ 100000) (ho : sh.length = o) (ho9 : o < 900) (hsh : sh ++ [.inl (true, N)] = sh') {c' s' : Nat} (hc1 : cells + 1 = c') (hs1 : slots + N = s') (hroom : c' ≤ R.cells ∧ s' ≤ R.slots)
    (k : mv_MW G M R Zf c' s' pc' lv (.ref o :: st) sh' (mv_z h o)) : mv_MW G M R Zf cells slots pc lv (.int n :: st) sh h := by
  subst hc1
  subst hs1
  obtain ⟨hd, rfl⟩ := hd
  subst hsh
  subst ho
  intro p e s m args below meth c C H locs ls hw hS hl
  have hk2 := k p e s m args below meth c C
  obtain ⟨hx, hb, hr, hml, hown, hts, hlk, hin, hK, hX, hbs⟩ := C
  refine va_newaK hx hb (atype := .boolean) (hts _ hl1) rfl hd rfl hn hN (by show N * 1 ≤ _; omega) hroom.1 hroom.2 rfl fun H1 cA e1 z1 o1 hAr hNm => ?_
  have hcA : cA = mv_cZ G := by
    have h2 : s.vm.findClass ("[" ++ FieldType.boolean.toString) = some (mv_cZ G) := (hK.2 1 _ rfl).2
    exact Option.some.inj (hNm.symm.trans h2)
  have hk : ∀ (k : Nat) (x : Nat × va_E), (mv_c G sh h)[k]? = some x → H1[x.1]? = H[x.1]? := fun k x hx => o1 x.1 ((hw.1 k x hx).lt)
  have ha : mv_a G sh.length = H.size := by rw [mv_a, if_pos ho9, hw.2.1]
  have hW := hk2 H1 locs ls ⟨?_, ?_, ?_⟩ ⟨Nat.le_trans hS.1 (by omega), fun x h1 h2 => (o1 x (Nat.lt_of_lt_of_le h1 hS.1)).trans (hS.2.1 x h1 h2), hS.2.2⟩ hl
  · have e9 : (List.map (mv_v G) (.ref sh.length :: st)) = .ref H.size :: st.map (mv_v G) := by simp [mv_v, ha]
    rw [e9] at hW
    exact hW
  · rw [mv_c_push]
    refine (hw.1.kept hk).app (fun k x hx => ?_)
    have hz : k < 1 := (List.getElem?_eq_some_iff.mp hx).1
    rw [show k = 0 by omega] at hx
    cases hx
    rw [← hw.2.1]
    show H1[H.size]? = some (vp_cell _ _)
    rw [e1, hcA]
    rfl
  · rw [z1, hw.2.1, List.length_append]; rfl
  · rw [List.length_append]; simp; omega
/-- a callee that makes nothing -/
theorem mv_cV {D d idx o ci n : Nat} {M' : mv_M} {as : List Value} {Q' : Option Value → mv_S → mv_H → Prop} {st0 : List Value} {fl : List (Option (Option Nat))} {T : u_T} {N : Nat}
    (hd : mv_dc M.2.1 pc (.invokevirtual idx) 3 pc') (hk : mv_kV M.1.cls idx M' n) (hM : mv_met G d M' (.ref o :: as) sh h Q') (ho : sh[o]? = some (.inr (ci, fl))) (hci : vwCl[ci]? = some (M'.1.cls, T, N)) (hst : st0 = as.reverse ++ .ref o :: st) (hn : as.length = n) (hc : (st.map Value.category).sum ≤ 8)
    (hR : d + 1 ≤ D) (hz : M'.2.2.2.2 = (0, 0)) (hroom : cells ≤ M.2.2.2.2.1 ∧ slots ≤ M.2.2.2.2.2)
    (k : ∀ r sh' h', Q' r sh' h' → mv_MW G M (mv_rm D M) Zf cells slots pc' lv (r.toList ++ st) sh' h') : mv_MW G M (mv_rm D M) Zf cells slots pc lv st0 sh h := by
  refine mv_invV hd hk hM ho hci hst hn hc ⟨hR, by show 64 * (d + 1) ≤ 64 * D; omega⟩ ?_ ?_
  · rw [hz]; exact hroom
  · rw [hz]; exact k
theorem mv_cS {D d idx n : Nat} {M' : mv_M} {as : List Value} {Q' : Option Value → mv_S → mv_H → Prop} {st0 : List Value}
    (hd : mv_dc M.2.1 pc (.invokestatic idx) 3 pc') (hk : mv_kS M.1.cls idx M' n) (hM : mv_met G d M' as sh h Q') (hst : st0 = as.reverse ++ st) (hn : as.length = n) (hc : (st.map Value.category).sum ≤ 8)
    (hR : d + 1 ≤ D) (hz : M'.2.2.2.2 = (0, 0)) (hroom : cells ≤ M.2.2.2.2.1 ∧ slots ≤ M.2.2.2.2.2)
    (k : ∀ r sh' h', Q' r sh' h' → mv_MW G M (mv_rm D M) Zf cells slots pc' lv (r.toList ++ st) sh' h') : mv_MW G M (mv_rm D M) Zf cells slots pc lv st0 sh h := by
  refine mv_invS hd hk hM hst hn hc ⟨hR, by show 64 * (d + 1) ≤ 64 * D; omega⟩ ?_ ?_
  · rw [hz]; exact hroom
  · rw [hz]; exact k
theorem mv_cI' {D d idx o n c' s' : Nat} {M' : mv_M} {as : List Value} {Q' : Option Value → mv_S → mv_H → Prop} {st0 : List Value}
    (hd : mv_dc M.2.1 pc (.invokespecial idx) 3 pc') (hk : mv_kI M.1.cls idx M' n) (hret : M'.2.2.2.1 = none) (hM : mv_met G d M' (.ref o :: as) sh h Q') (hst : st0 = as.reverse ++ .ref o :: st) (hn : as.length = n) (hc : (st.map Value.category).sum ≤ 8)
    (hR : d + 1 ≤ D) (hc1 : cells + M'.2.2.2.2.1 = c') (hs1 : slots + M'.2.2.2.2.2 = s') (hroom : c' ≤ M.2.2.2.2.1 ∧ s' ≤ M.2.2.2.2.2)
    (k : ∀ r sh' h', Q' r sh' h' → mv_MW G M (mv_rm D M) Zf c' s' pc' lv (r.toList ++ st) sh' h') : mv_MW G M (mv_rm D M) Zf cells slots pc lv st0 sh h := by
  subst hc1
  subst hs1
  exact mv_invI hd hk hret hM hst hn hc ⟨hR, by show 64 * (d + 1) ≤ 64 * D; omega⟩ hroom k
/-- ends: an int and nothing written; an int and a world; a world; a cell -/
def mv_qi (sh : mv_S) (h : mv_H) (P : Int32 → Prop) : Option Value → mv_S → mv_H → Prop := fun v sh' h' => ∃ r : Int32, v = some (.int r) ∧ sh' = sh ∧ h' = h ∧ P r
def mv_qI (sh : mv_S) (P : Int32 × mv_H → Prop) : Option Value → mv_S → mv_H → Prop := fun v sh' h' => ∃ r : Int32 × mv_H, v = some (.int r.1) ∧ sh' = sh ∧ h' = r.2 ∧ P r
def mv_qv (sh : mv_S) (P : mv_H → Prop) : Option Value → mv_S → mv_H → Prop := fun v sh' h' => ∃ r : mv_H, v = none ∧ sh' = sh ∧ h' = r ∧ P r
def mv_qr (sh : mv_S) (h : mv_H) (P : Nat → Prop) : Option Value → mv_S → mv_H → Prop := fun v sh' h' => ∃ r : Nat, v = some (.ref r) ∧ sh' = sh ∧ h' = h ∧ P r
def mv_qR (sh : mv_S) (P : Nat × mv_H → Prop) : Option Value → mv_S → mv_H → Prop := fun v sh' h' => ∃ r : Nat × mv_H, v = some (.ref r.1) ∧ sh' = sh ∧ h' = r.2 ∧ P r
theorem mv_ki {P : Int32 → Prop} (k : ∀ r, P r → mv_MW G M R Zf cells slots pc lv (.int r :: st) sh h) : ∀ v sh' h', mv_qi sh h P v sh' h' → mv_MW G M R Zf cells slots pc lv (v.toList ++ st) sh' h' := by
  rintro _ _ _ ⟨r, rfl, rfl, rfl, q⟩; exact k r q
theorem mv_kI2 {P : Int32 × mv_H → Prop} (k : ∀ r, P r → mv_MW G M R Zf cells slots pc lv (.int r.1 :: st) sh r.2) : ∀ v sh' h', mv_qI sh P v sh' h' → mv_MW G M R Zf cells slots pc lv (v.toList ++ st) sh' h' := by
  rintro _ _ _ ⟨r, rfl, rfl, rfl, q⟩; exact k r q
theorem mv_kv {P : mv_H → Prop} (k : ∀ r, P r → mv_MW G M R Zf cells slots pc lv st sh r) : ∀ v sh' h', mv_qv sh P v sh' h' → mv_MW G M R Zf cells slots pc lv (v.toList ++ st) sh' h' := by
  rintro _ _ _ ⟨r, rfl, rfl, e, q⟩; subst e; exact k _ q
theorem mv_kr {P : Nat → Prop} (k : ∀ r, P r → mv_MW G M R Zf cells slots pc lv (.ref r :: st) sh h) : ∀ v sh' h', mv_qr sh h P v sh' h' → mv_MW G M R Zf cells slots pc lv (v.toList ++ st) sh' h' := by
  rintro _ _ _ ⟨r, rfl, rfl, rfl, q⟩; exact k r q
theorem mv_kR {P : Nat × mv_H → Prop} (k : ∀ r, P r → mv_MW G M R Zf cells slots pc lv (.ref r.1 :: st) sh r.2) : ∀ v sh' h', mv_qR sh P v sh' h' → mv_MW G M R Zf cells slots pc lv (v.toList ++ st) sh' h' := by
  rintro _ _ _ ⟨r, rfl, rfl, rfl, q⟩; exact k r q
theorem mv_case {ρ : Type} {c : Prop} {dc : Decidable c} {A B : Option ρ} {Q : ρ → Prop} {Y : Prop} (hs : mv_sat (@ite _ c dc A B) Q) (k1 : c → mv_sat A Q → Y) (k2 : ¬ c → mv_sat B Q → Y) : Y := by
  by_cases hc : c
  · exact k1 hc (mv_sat_t hs hc)
  · exact k2 hc (mv_sat_f hs hc)
theorem mv_tsw {dflt lo hi off : Int} {offs : Array Int} {len : Nat} {x : Int32} (v : Int32) (hx : x = v) (hd : decode M.2.1 pc = .ok (.tableswitch dflt lo hi offs, len)) (hv : ¬ v.toInt < lo ∧ ¬ hi < v.toInt ∧ offs[(v.toInt - lo).toNat]? = some off) (ht : (pc : Int) + off = (tgt : Int)) (k : mv_MW G M R Zf cells slots tgt lv st sh h) : mv_MW G M R Zf cells slots pc lv (.int x :: st) sh h := by
  subst hx
  exact fun p e s m args below meth c C H locs ls hw hS hl => lv_tableIn C.1 C.2.1 hd hv.1 hv.2.1 hv.2.2 ht (k p e s m args below meth c C H locs ls hw hS hl)
theorem mv_tswd {dflt lo hi : Int} {offs : Array Int} {len : Nat} {x : Int32} (hd : decode M.2.1 pc = .ok (.tableswitch dflt lo hi offs, len)) (hx : x.toInt < lo ∨ hi < x.toInt) (ht : (pc : Int) + dflt = (tgt : Int)) (k : mv_MW G M R Zf cells slots tgt lv st sh h) : mv_MW G M R Zf cells slots pc lv (.int x :: st) sh h :=
  fun p e s m args below meth c C H locs ls hw hS hl => lv_tableOut C.1 C.2.1 hd hx ht (k p e s m args below meth c C H locs ls hw hS hl)
theorem mv_lsw {dflt off : Int} {ps : Array (Int × Int)} {len : Nat} {x : Int32} (hd : decode M.2.1 pc = .ok (.lookupswitch dflt ps, len)) (hp : (ps.toList.zip (ps.toList.drop 1)).all (fun (a, next) => a.1 < next.1) = true) (ho : Op.lookupswitch.offset ps.toList dflt x.toInt = off) (ht : (pc : Int) + off = (tgt : Int)) (k : mv_MW G M R Zf cells slots tgt lv st sh h) : mv_MW G M R Zf cells slots pc lv (.int x :: st) sh h :=
  fun p e s m args below meth c C H locs ls hw hS hl => lv_lookup C.1 C.2.1 hd hp ho ht (k p e s m args below meth c C H locs ls hw hS hl)
def mv_max (x y : Int32) : Int32 := if x < y then y else x
theorem mv_mmax {D idx : Nat} {x y : Int32} (hd : mv_dc M.2.1 pc (.invokestatic idx) 3 pc') (h1 : Cond.methodLink M.1.cls idx Lib.Math.max.name ∈ mv_tb) (h2 : Cond.static Lib.Math.max.name ∈ mv_tb) (h3 : Cond.initialized "java/lang/Math" ∈ mv_tb) (h4 : Cond.code Lib.Math.max.name Lib.Math.max.code 2 (some .int) ∈ mv_tb) (hc : (st.map Value.category).sum ≤ 8) (hR : 1 ≤ D) (hroom : cells ≤ M.2.2.2.2.1 ∧ slots ≤ M.2.2.2.2.2)
    (k : mv_MW G M (mv_rm D M) Zf cells slots pc' lv (.int (mv_max x y) :: st) sh h) : mv_MW G M (mv_rm D M) Zf cells slots pc lv (.int y :: .int x :: st) sh h := by
  obtain ⟨hd, rfl⟩ := hd
  intro p e s m args below meth c C H locs ls hw hS hl
  have hk2 := k p e s m args below meth c C H locs ls hw hS hl
  obtain ⟨hx, hb, hr, hml, hown, hts, hlk, hin, hK, hX, hbs⟩ := C
  have hcat : ((st.map (mv_v G)).map fun v => v.category).sum ≤ 8 := by
    have : (st.map (mv_v G)).map (fun v => v.category) = st.map Value.category := by
      rw [List.map_map]
      exact List.map_congr_left (fun v _ => mv_v_cat G v)
    rw [this]; exact hc
  exact va_mmax hx hb (by rw [hml]; exact hl.1.symm) hown (hts _ h1) (hts _ h2) (hts _ h3) (hts _ h4) hR (by show _ + 13 ≤ 64 * D; omega) hroom.1 hroom.2 hd hk2
def mv_min (x y : Int32) : Int32 := if y < x then y else x
theorem mv_mmin {D idx : Nat} {x y : Int32} (hd : mv_dc M.2.1 pc (.invokestatic idx) 3 pc') (h1 : Cond.methodLink M.1.cls idx Lib.Math.min.name ∈ mv_tb) (h2 : Cond.static Lib.Math.min.name ∈ mv_tb) (h3 : Cond.initialized "java/lang/Math" ∈ mv_tb) (h4 : Cond.code Lib.Math.min.name Lib.Math.min.code 2 (some .int) ∈ mv_tb) (hc : (st.map Value.category).sum ≤ 8) (hR : 1 ≤ D) (hroom : cells ≤ M.2.2.2.2.1 ∧ slots ≤ M.2.2.2.2.2)
    (k : mv_MW G M (mv_rm D M) Zf cells slots pc' lv (.int (mv_min x y) :: st) sh h) : mv_MW G M (mv_rm D M) Zf cells slots pc lv (.int y :: .int x :: st) sh h := by
  obtain ⟨hd, rfl⟩ := hd
  intro p e s m args below meth c C H locs ls hw hS hl
  have hk2 := k p e s m args below meth c C H locs ls hw hS hl
  obtain ⟨hx, hb, hr, hml, hown, hts, hlk, hin, hK, hX, hbs⟩ := C
  have hcat : ((st.map (mv_v G)).map fun v => v.category).sum ≤ 8 := by
    have : (st.map (mv_v G)).map (fun v => v.category) = st.map Value.category := by
      rw [List.map_map]
      exact List.map_congr_left (fun v _ => mv_v_cat G v)
    rw [this]; exact hc
  exact va_mmin hx hb (by rw [hml]; exact hl.1.symm) hown (hts _ h1) (hts _ h2) (hts _ h3) (hts _ h4) hR (by show _ + 13 ≤ 64 * D; omega) hroom.1 hroom.2 hd hk2
def mv_qc (sh : mv_S) (o : Nat) (P : mv_H → Prop) : Option Value → mv_S → mv_H → Prop := fun v sh' h' => ∃ r : mv_H, v = some (.ref o) ∧ sh' = sh ∧ h' = r ∧ P r
theorem mv_kc {o : Nat} {P : mv_H → Prop} (k : ∀ r, P r → mv_MW G M R Zf cells slots pc lv (.ref o :: st) sh r) : ∀ v sh' h', mv_qc sh o P v sh' h' → mv_MW G M R Zf cells slots pc lv (v.toList ++ st) sh' h' := by
  rintro _ _ _ ⟨r, rfl, rfl, e, q⟩; subst e; exact k _ q
theorem mv_nameH {ρ : Type} {K : mv_H → Option ρ} {Q : ρ → Prop} (hs : mv_sat (mv_let h K) Q) (k : ∀ y : mv_H, mv_sat (K y) Q → mv_MW G M R Zf cells slots pc lv st sh y) : mv_MW G M R Zf cells slots pc lv st sh h := k h hs
end MvCalls
theorem mv_s {v : Value} {a b : List Value} (h : mv_le a b) : mv_le (v :: a) (v :: b) := ⟨Or.inl rfl, h⟩
theorem mv_k {v : Value} {x : UInt32} {a b : List Value} (h : mv_le a b) : mv_le (v :: a) (.float x :: b) := ⟨Or.inr ⟨x, rfl⟩, h⟩
theorem mv_n : mv_le [] [] := trivial
/-- how often a loop may go round -/
def mv_N : Nat := 1000000
