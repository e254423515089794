/-! THE SMALL MACHINE: the run's world as shapes and one table of numbers; one judgement mv_MW, a row an instruction -/
def mv_tb : List Cond := lw_tbl.filter goodWord
theorem mv_tb_in {w : Cond} (h : w ∈ lw_tbl) (g : goodWord w = true) : w ∈ mv_tb := List.mem_filter.mpr ⟨h, g⟩
theorem mv_tb_at {w : Cond} (i : Nat) (h : lw_tbl[i]? = some w) (g : goodWord w = true) : w ∈ mv_tb := mv_tb_in (List.mem_of_getElem? h) g
theorem mv_t0 {w : Cond} (i : Nat) (h : (k2_sels lw_privs)[i]? = some w) (g : goodWord w = true) : w ∈ mv_tb := mv_tb_in (List.mem_append_left _ (List.mem_of_getElem? h)) g
theorem mv_t1 {w : Cond} (i : Nat) (h : tables_1_1[i]? = some w) (g : goodWord w = true) : w ∈ mv_tb := mv_tb_in (List.mem_append_right (k2_sels lw_privs) (show w ∈ tables_1_1 ++ (tables_1_2 ++ (tables_1_3 ++ (tables_1_4 ++ (tables_1_5 ++ tables_1_6)))) from (List.mem_append_left _ (List.mem_of_getElem? h)))) g
theorem mv_t2 {w : Cond} (i : Nat) (h : tables_1_2[i]? = some w) (g : goodWord w = true) : w ∈ mv_tb := mv_tb_in (List.mem_append_right (k2_sels lw_privs) (show w ∈ tables_1_1 ++ (tables_1_2 ++ (tables_1_3 ++ (tables_1_4 ++ (tables_1_5 ++ tables_1_6)))) from (List.mem_append_right _ (List.mem_append_left _ (List.mem_of_getElem? h))))) g
theorem mv_t3 {w : Cond} (i : Nat) (h : tables_1_3[i]? = some w) (g : goodWord w = true) : w ∈ mv_tb := mv_tb_in (List.mem_append_right (k2_sels lw_privs) (show w ∈ tables_1_1 ++ (tables_1_2 ++ (tables_1_3 ++ (tables_1_4 ++ (tables_1_5 ++ tables_1_6)))) from (List.mem_append_right _ (List.mem_append_right _ (List.mem_append_left _ (List.mem_of_getElem? h)))))) g
theorem mv_t4 {w : Cond} (i : Nat) (h : tables_1_4[i]? = some w) (g : goodWord w = true) : w ∈ mv_tb := mv_tb_in (List.mem_append_right (k2_sels lw_privs) (show w ∈ tables_1_1 ++ (tables_1_2 ++ (tables_1_3 ++ (tables_1_4 ++ (tables_1_5 ++ tables_1_6)))) from (List.mem_append_right _ (List.mem_append_right _ (List.mem_append_right _ (List.mem_append_left _ (List.mem_of_getElem? h))))))) g
theorem mv_t5 {w : Cond} (i : Nat) (h : tables_1_5[i]? = some w) (g : goodWord w = true) : w ∈ mv_tb := mv_tb_in (List.mem_append_right (k2_sels lw_privs) (show w ∈ tables_1_1 ++ (tables_1_2 ++ (tables_1_3 ++ (tables_1_4 ++ (tables_1_5 ++ tables_1_6)))) from (List.mem_append_right _ (List.mem_append_right _ (List.mem_append_right _ (List.mem_append_right _ (List.mem_append_left _ (List.mem_of_getElem? h)))))))) g
theorem mv_t6 {w : Cond} (i : Nat) (h : tables_1_6[i]? = some w) (g : goodWord w = true) : w ∈ mv_tb := mv_tb_in (List.mem_append_right (k2_sels lw_privs) (show w ∈ tables_1_1 ++ (tables_1_2 ++ (tables_1_3 ++ (tables_1_4 ++ (tables_1_5 ++ tables_1_6)))) from (List.mem_append_right _ (List.mem_append_right _ (List.mem_append_right _ (List.mem_append_right _ (List.mem_append_right _ (List.mem_of_getElem? h)))))))) g
theorem mv_tb_good : GoodIn mv_tb mv_tb := fun w h => ⟨h, good_of_word (List.mem_filter.mp h).2⟩
theorem mv_tb_code {w : Cond} (hw : w ∈ mv_tb) : GoodIn mv_tb (w :: mv_tb) := fun v h => by
  rcases List.mem_cons.mp h with rfl | h
  · exact mv_tb_good _ hw
  · exact mv_tb_good _ h
/-- launch, classes, the two array classes, the first address that is ours, the arrays outside: address, length, contents -/
abbrev mv_G : Type := Launch × va_G × ClassId × ClassId × Nat × (Nat → Nat × Nat × (Nat → Int32))
def mv_l (G : mv_G) : Launch := G.1
def mv_D (G : mv_G) : va_G := G.2.1
def mv_cI (G : mv_G) : ClassId := G.2.2.1
def mv_cZ (G : mv_G) : ClassId := G.2.2.2.1
def mv_b (G : mv_G) : Nat := G.2.2.2.2.1
def mv_x (G : mv_G) : Nat → Nat × Nat × (Nat → Int32) := G.2.2.2.2.2
def mv_ty (G : mv_G) : List (ClassId × FieldType) := [(mv_cI G, .int), (mv_cZ G, .boolean)]
def mv_a (G : mv_G) (o : Nat) : Nat := if o < 900 then mv_b G + o else (mv_x G (o - 900)).1
def mv_v (G : mv_G) : Value → Value
  | .ref o => .ref (mv_a G o)
  | v => v
theorem mv_v_cat (G : mv_G) (v : Value) : (mv_v G v).category = v.category := by cases v <;> rfl
abbrev mv_S : Type := List ((Bool × Nat) ⊕ (Nat × List (Option (Option Nat))))
abbrev mv_H : Type := Nat → Nat → Int32
def mv_fv (G : mv_G) (n : Int32) : Option (Option Nat) → Value
  | none => .int n
  | some none => .null
  | some (some o) => .ref (mv_a G o)
def mv_f (G : mv_G) (hv : Nat → Int32) : Nat → List (Option (Option Nat)) → List Value
  | _, [] => []
  | k, x :: r => mv_fv G (hv k) x :: mv_f G hv (k + 1) r
def mv_e (G : mv_G) (hv : Nat → Int32) : ((Bool × Nat) ⊕ (Nat × List (Option (Option Nat)))) → va_E
  | .inl (b, n) => .inl (if b then mv_cZ G else mv_cI G, n, .inl hv)
  | .inr (ci, fl) => .inr (ci, mv_f G hv 0 fl)
def mv_c (G : mv_G) (sh : mv_S) (h : mv_H) : va_W := sh.mapIdx (fun o x => (mv_b G + o, mv_e G (h o) x))
def mv_u (h : mv_H) (o k : Nat) (v : Int32) : mv_H := fun o' => if o' = o then upd (h o) k v else h o'
def mv_z (h : mv_H) (o : Nat) : mv_H := fun o' => if o' = o then fun _ => 0 else h o'
theorem mv_u_s (h : mv_H) (o k : Nat) (v : Int32) : mv_u h o k v o = upd (h o) k v := by simp [mv_u]
theorem mv_u_n {h : mv_H} {o o' k : Nat} {v : Int32} (q : o' ≠ o) : mv_u h o k v o' = h o' := by simp [mv_u, q]
theorem mv_z_s (h : mv_H) (o : Nat) : mv_z h o o = fun _ => 0 := by simp [mv_z]
theorem mv_z_n {h : mv_H} {o o' : Nat} (q : o' ≠ o) : mv_z h o o' = h o' := by simp [mv_z, q]
theorem mv_c_len (G : mv_G) (sh : mv_S) (h : mv_H) : (mv_c G sh h).length = sh.length := by simp [mv_c]
theorem mv_c_get {G : mv_G} {sh : mv_S} {h : mv_H} {o : Nat} {x : (Bool × Nat) ⊕ (Nat × List (Option (Option Nat)))} (hx : sh[o]? = some x) : (mv_c G sh h)[o]? = some (mv_b G + o, mv_e G (h o) x) := by
  simp [mv_c, List.getElem?_mapIdx, hx]
theorem mv_c_inv {G : mv_G} {sh : mv_S} {h : mv_H} {o : Nat} {q : Nat × va_E} (hq : (mv_c G sh h)[o]? = some q) : ∃ x, sh[o]? = some x ∧ q = (mv_b G + o, mv_e G (h o) x) := by
  simp only [mv_c, List.getElem?_mapIdx, Option.map_eq_some_iff] at hq
  obtain ⟨x, h1, h2⟩ := hq
  exact ⟨x, h1, h2.symm⟩
theorem mv_c_set {G : mv_G} {sh : mv_S} {h h' : mv_H} {o : Nat} {x' : (Bool × Nat) ⊕ (Nat × List (Option (Option Nat)))} (hn : ∀ i, i ≠ o → h' i = h i) : (mv_c G sh h).set o (mv_b G + o, mv_e G (h' o) x') = mv_c G (sh.set o x') h' := by
  apply List.ext_getElem?
  intro i
  simp only [mv_c, List.getElem?_set, List.getElem?_mapIdx, List.length_mapIdx]
  by_cases hi : o = i
  · subst hi
    by_cases hl : o < sh.length <;> simp [hl]
  · simp only [hi, if_false]
    rw [hn i (fun e => hi e.symm)]
theorem mv_set_same {sh : mv_S} {o : Nat} {x : (Bool × Nat) ⊕ (Nat × List (Option (Option Nat)))} (hx : sh[o]? = some x) : sh.set o x = sh := by
  apply List.ext_getElem?
  intro i
  rw [List.getElem?_set]
  by_cases hi : o = i
  · subst hi
    have := (List.getElem?_eq_some_iff.mp hx).1
    simp only [if_true, this]
    exact hx.symm
  · simp [hi]
theorem mv_f_get {G : mv_G} {hv : Nat → Int32} : ∀ (fl : List (Option (Option Nat))) (j k : Nat) (x : Option (Option Nat)), fl[k]? = some x → (mv_f G hv j fl)[k]? = some (mv_fv G (hv (j + k)) x)
  | [], _, _, _, h => by simp at h
  | y :: r, j, 0, x, h => by simp at h; subst h; rfl
  | y :: r, j, k + 1, x, h => by
    have := mv_f_get (G := G) (hv := hv) r (j + 1) k x (by simpa using h)
    simp only [mv_f, List.getElem?_cons_succ]
    rw [this]
    congr 3
    omega
theorem mv_f_len {G : mv_G} {hv : Nat → Int32} : ∀ (fl : List (Option (Option Nat))) (j : Nat), (mv_f G hv j fl).length = fl.length
  | [], _ => rfl
  | _ :: r, j => by simp [mv_f, mv_f_len r (j + 1)]
theorem mv_f_congr {G : mv_G} {hv hv' : Nat → Int32} : ∀ (fl : List (Option (Option Nat))) (j : Nat), (∀ k, j ≤ k → hv k = hv' k) → mv_f G hv j fl = mv_f G hv' j fl
  | [], _, _ => rfl
  | _ :: r, j, h => by simp only [mv_f]; rw [h j (Nat.le_refl j), mv_f_congr r (j + 1) (fun k hk => h k (by omega))]
theorem mv_f_seti {G : mv_G} {hv : Nat → Int32} {v : Int32} : ∀ (fl : List (Option (Option Nat))) (j k : Nat), fl[k]? = some none → (mv_f G hv j fl).set k (.int v) = mv_f G (upd hv (j + k) v) j fl
  | [], _, _, h => by simp at h
  | y :: r, j, 0, h => by
    simp at h; subst h
    simp only [mv_f, List.set_cons_zero, mv_fv, Nat.add_zero]
    congr 1
    · simp [upd]
    · exact mv_f_congr r (j + 1) (fun k hk => by have : k ≠ j := by omega
                                                 simp [upd, this])
  | y :: r, j, k + 1, h => by
    have e := mv_f_seti (G := G) (hv := hv) (v := v) r (j + 1) k (by simpa using h)
    simp only [mv_f, List.set_cons_succ]
    rw [e, show j + 1 + k = j + (k + 1) by omega]
    congr 2
    have : j ≠ j + (k + 1) := by omega
    simp [upd, this]
theorem mv_f_setr {G : mv_G} {hv : Nat → Int32} {r0 : Nat} : ∀ (fl : List (Option (Option Nat))) (j k : Nat), (mv_f G hv j fl).set k (.ref (mv_a G r0)) = mv_f G hv j (fl.set k (some (some r0)))
  | [], _, _ => rfl
  | y :: r, j, 0 => rfl
  | y :: r, j, k + 1 => by
    simp only [mv_f, List.set_cons_succ]
    rw [mv_f_setr r (j + 1) k]
/-- the world in the heap -/
def mv_w (G : mv_G) (sh : mv_S) (h : mv_H) (H : Heap) : Prop := va_P (mv_D G) vwCl (mv_c G sh h) H ∧ H.size = mv_b G + sh.length ∧ sh.length ≤ 900
def mv_A (G : mv_G) : Nat → Prop := fun q => mv_b G ≤ q
theorem mv_dis (G : mv_G) (sh : mv_S) (h : mv_H) : va_D (mv_A G) (mv_c G sh h) := by
  refine ⟨fun i j p q hi hj e => ?_, fun k q hk => ?_⟩
  · obtain ⟨x, -, rfl⟩ := mv_c_inv hi
    obtain ⟨y, -, rfl⟩ := mv_c_inv hj
    have : mv_b G + i = mv_b G + j := e
    omega
  · obtain ⟨x, -, rfl⟩ := mv_c_inv hk
    exact Nat.le_add_right _ _
theorem mv_own {G : mv_G} {sh : mv_S} {h : mv_H} {H : Heap} {o : Nat} {x : (Bool × Nat) ⊕ (Nat × List (Option (Option Nat)))} (hw : mv_w G sh h H) (hx : sh[o]? = some x) : mv_a G o = mv_b G + o := by
  have h1 := (List.getElem?_eq_some_iff.mp hx).1
  have h2 := hw.2.2
  simp only [mv_a]
  rw [if_pos (by omega)]
def mv_nf : List (String × Nat × String × String × String × String) := [("PaperBoxes", 64, "PaperBoxes$Goods", "boxes", "LPaperBoxes$Shelf;", "PaperBoxes"), ("PaperBoxes", 72, "PaperBoxes$Goods", "things", "LPaperBoxes$Shelf;", "PaperBoxes"), ("PaperBoxes", 83, "PaperBoxes$Goods", "sheets", "LPaperBoxes$Shelf;", "PaperBoxes"), ("PaperBoxes", 312, "PaperBoxes$Goods", "folds", "LPaperBoxes$Marks;", "PaperBoxes"), ("PaperBoxes", 319, "PaperBoxes$Goods", "creases", "LPaperBoxes$Marks;", "PaperBoxes")]
def mv_nm : List (String × Nat × MethodName × String) := [("PaperBoxes", 9, ⟨"PaperBoxes$Goods", "<init>", "()V"⟩, "PaperBoxes"), ("PaperBoxes", 24, ⟨"PaperBoxes$Pad", "<init>", "()V"⟩, "PaperBoxes"), ("PaperBoxes", 31, ⟨"PaperBoxes$Wrap", "<init>", "()V"⟩, "PaperBoxes"), ("PaperBoxes", 38, ⟨"PaperBoxes$Pieces", "<init>", "()V"⟩, "PaperBoxes"), ("PaperBoxes", 45, ⟨"PaperBoxes$Cutter", "<init>", "()V"⟩, "PaperBoxes"), ("PaperBoxes", 52, ⟨"PaperBoxes$Order", "<init>", "()V"⟩, "PaperBoxes"), ("PaperBoxes", 59, ⟨"PaperBoxes$Pairing", "<init>", "()V"⟩, "PaperBoxes"), ("PaperBoxes$Shelf", 28, ⟨"PaperBoxes", "isNumber", "(I)Z"⟩, "PaperBoxes"), ("PaperBoxes$Shelf", 32, ⟨"PaperBoxes", "isIn", "(II)Z"⟩, "PaperBoxes"), ("PaperBoxes$Pad", 53, ⟨"PaperBoxes", "isWithin", "(III)Z"⟩, "PaperBoxes"), ("PaperBoxes$Wrap", 59, ⟨"PaperBoxes", "axisOf", "(I)I"⟩, "PaperBoxes"), ("PaperBoxes$Wrap", 62, ⟨"PaperBoxes", "turnOf", "(I)I"⟩, "PaperBoxes"), ("PaperBoxes$Wrap", 75, ⟨"PaperBoxes", "rootAbove", "(I)I"⟩, "PaperBoxes"), ("PaperBoxes$Pieces", 39, ⟨"PaperBoxes", "isIn", "(II)Z"⟩, "PaperBoxes"), ("PaperBoxes$Cutter", 31, ⟨"PaperBoxes", "isNumber", "(I)Z"⟩, "PaperBoxes"), ("PaperBoxes$Cutter", 35, ⟨"PaperBoxes", "isIn", "(II)Z"⟩, "PaperBoxes"), ("PaperBoxes$Cutter", 60, ⟨"PaperBoxes", "isWithin", "(III)Z"⟩, "PaperBoxes"), ("PaperBoxes$Order", 21, ⟨"PaperBoxes", "isNumber", "(I)Z"⟩, "PaperBoxes"), ("PaperBoxes$Order", 58, ⟨"PaperBoxes", "isIn", "(II)Z"⟩, "PaperBoxes"), ("PaperBoxes$Pairing", 24, ⟨"PaperBoxes", "isNumber", "(I)Z"⟩, "PaperBoxes"), ("PaperBoxes$Pairing", 40, ⟨"PaperBoxes", "isIn", "(II)Z"⟩, "PaperBoxes")]
def mv_least : Nat → Int32 := fun k => if k = 2 then 1 else 0
def mv_most : Nat → Int32 := fun k => if k = 2 then 40 else if k = 3 then 60 else 9
/-- an array outside of which so many places are known -/
def mv_Y (b N : Nat) (xs : Nat → Int32) (U : State) (H : Heap) : Prop := ∃ scr : Cell, H[b]? = some scr ∧ U.isArrayOf scr .int ∧ scr.vm ≠ .unknown ∧ N ≤ scr.slots.size ∧ ∀ j : Nat, j < N → scr.slots[j]? = some (.int (xs j))
theorem mv_Y.kept {b L : Nat} {xs : Nat → Int32} {U : State} {H H1 : Heap} (h : mv_Y b L xs U H) (hq : H1[b]? = H[b]?) : mv_Y b L xs U H1 := by
  obtain ⟨scr, h1, h2⟩ := h
  exact ⟨scr, by rw [hq]; exact h1, h2⟩
theorem mv_Y.moved {b L : Nat} {xs : Nat → Int32} {u U : State} {H : Heap} (hvm : u.vm.Alike U.vm) (h : mv_Y b L xs u H) : mv_Y b L xs U H := by
  obtain ⟨scr, h1, h2, h3⟩ := h
  exact ⟨scr, h1, State.isArrayOf_alike hvm h2, h3⟩
/-- what lies outside and is never written, and the words on nest mates -/
def mv_X (G : mv_G) (U : State) (H : Heap) : Prop :=
  (∀ j, j < 1 → (mv_x G j).1 < mv_b G ∧ va_X (mv_x G j).1 (mv_x G j).2.1 (mv_x G j).2.2 U H) ∧
  va_Z "PaperBoxes" "SETTINGS_LEAST" "[I" (.ref (mv_x G 1).1) (mv_A G) U H ∧ va_Z "PaperBoxes" "SETTINGS_MOST" "[I" (.ref (mv_x G 2).1) (mv_A G) U H ∧
  (∀ q ∈ mv_nf, va_Nw (.fieldLinkNest q.1 q.2.1 q.2.2.1 q.2.2.2.1 q.2.2.2.2.1 q.2.2.2.2.2) U) ∧ (∀ q ∈ mv_nm, va_Nw (.methodLinkNest q.1 q.2.1 q.2.2.1 q.2.2.2) U) ∧ ((mv_x G 1).1 < mv_b G ∧ mv_Y (mv_x G 1).1 4 mv_least U H) ∧ ((mv_x G 2).1 < mv_b G ∧ mv_Y (mv_x G 2).1 4 mv_most U H)
theorem mv_X.moved {G : mv_G} {s U : State} {H H' : Heap} (hW : s.WarmedH U.vm) (h : mv_X G s H) (hq : ∀ q, q < mv_b G → H'[q]? = H[q]?) : mv_X G U H' := by
  obtain ⟨h1, h2, h3, h4, h5, h6, h7⟩ := h
  refine ⟨fun j hj => ⟨(h1 j hj).1, ((h1 j hj).2.moved hW.alike).kept (hq _ (h1 j hj).1)⟩, (h2.moved hW.alike).kept (fun a _ ha => hq a (Nat.not_le.mp ha)), (h3.moved hW.alike).kept (fun a _ ha => hq a (Nat.not_le.mp ha)), fun q hm => (h4 q hm).warmF hW, fun q hm => (h5 q hm).warmM hW, ⟨h6.1, (h6.2.moved hW.alike).kept (hq _ h6.1)⟩, ⟨h7.1, (h7.2.moved hW.alike).kept (hq _ h7.1)⟩⟩
theorem mv_X.same {G : mv_G} {u U : State} {H : Heap} (hv : u.vm = U.vm) (h : mv_X G u H) : mv_X G U H := by
  have ha : u.vm.Alike U.vm := by rw [hv]; exact Vm.Alike.refl U.vm
  obtain ⟨h1, h2, h3, h4, h5, h6, h7⟩ := h
  exact ⟨fun j hj => ⟨(h1 j hj).1, (h1 j hj).2.moved ha⟩, h2.moved ha, h3.moved ha, fun q hm => (h4 q hm).same rfl hv, fun q hm => (h5 q hm).same rfl hv, ⟨h6.1, h6.2.moved ha⟩, ⟨h7.1, h7.2.moved ha⟩⟩
/-- a method: its name, code, locals, answer, cells and slots that it makes -/
abbrev mv_M : Type := MethodName × ByteArray × Nat × Option FieldType × Nat × Nat
def mv_Cx (G : mv_G) (M : mv_M) (p : Program) (s : State) (m : MethodId) (args : Array Value) (meth : Method) (c : Code) : Prop :=
  p.tables.exec = Jvm.exec ∧ c.code = M.2.1 ∧ meth.sig.returnType = M.2.2.2.1 ∧ c.maxLocals = M.2.2.1 ∧ s.vm.findClass M.1.cls = some m.cls ∧ (∀ w ∈ mv_tb, w.before args s = true) ∧ meth.locks = false ∧ ((M.1.name = "<init>" → meth.name = "<init>") ∧ (M.1.name = "law" → s.heap.size = mv_b G)) ∧ va_K (mv_D G) vwCl (mv_ty G) s ∧ mv_X G s s.heap ∧ mv_b G ≤ s.heap.size
def mv_L (G : mv_G) (ls : Array Slot) (nL : Nat) (lv : List Value) : Prop := ls.size = nL ∧ lv_wf ls ∧ ∀ (i : Nat) (v : Value), lv[i]? = some v → (∀ b, v ≠ .float b) → ls[i]? = some (.val (mv_v G v))
def mv_MW (G : mv_G) (M : mv_M) (R : Room) (Zf : List Frame → Array Value → State → State → Prop) (cells slots pc : Nat) (lv st : List Value) (sh : mv_S) (h : mv_H) : Prop :=
  ∀ (p : Program) (e : Env) (s : State) (m : MethodId) (args : Array Value) (below : List Frame) (meth : Method) (c : Code), mv_Cx G M p s m args meth c → ∀ (H : Heap) (locs : List Loc) (ls : Array Slot), mv_w G sh h H → va_S (mv_A G) s.heap H locs → mv_L G ls M.2.2.1 lv →
    W p (mv_l G) e R s m args below meth c H locs cells slots (Zf below args s) (F0 m pc ls (st.map (mv_v G)))
/-- a step's instruction and where it goes on -/
abbrev mv_dc (cc : ByteArray) (pc : Nat) (i : Instr) (len pc' : Nat) : Prop := decode cc pc = .ok (i, len) ∧ pc + len = pc'
abbrev mv_db (cc : ByteArray) (pc : Nat) (i : Instr) (off : Int) (pc' tgt : Nat) : Prop := decode cc pc = .ok (i, 3) ∧ pc + 3 = pc' ∧ (pc : Int) + off = (tgt : Int)
def mv_sat {ρ : Type} (o : Option ρ) (Q : ρ → Prop) : Prop := ∃ r, o = some r ∧ Q r
def mv_let {α β : Type} (a : α) (f : α → β) : β := f a
theorem mv_sat_none {ρ : Type} {Q : ρ → Prop} (h : mv_sat none Q) : False := by obtain ⟨r, h, -⟩ := h; cases h
theorem mv_sat_some {ρ : Type} {r : ρ} {Q : ρ → Prop} (h : mv_sat (some r) Q) : Q r := by obtain ⟨r, h, q⟩ := h; cases h; exact q
theorem mv_sat_bind {ρ σ : Type} {o : Option ρ} {f : ρ → Option σ} {Q : σ → Prop} (h : mv_sat (o.bind f) Q) : mv_sat o (fun r => mv_sat (f r) Q) := by
  obtain ⟨r, h, q⟩ := h
  cases o with
  | none => cases h
  | some a => exact ⟨a, rfl, r, h, q⟩
theorem mv_sat_mono {ρ : Type} {o : Option ρ} {Q Q' : ρ → Prop} (h : mv_sat o Q) (f : ∀ r, Q r → Q' r) : mv_sat o Q' := by
  obtain ⟨r, h, q⟩ := h
  exact ⟨r, h, f r q⟩
theorem mv_sat_t {ρ : Type} {c : Prop} {d : Decidable c} {A B : Option ρ} {Q : ρ → Prop} (h : mv_sat (@ite _ c d A B) Q) (hc : c) : mv_sat A Q := by rwa [if_pos hc] at h
theorem mv_sat_f {ρ : Type} {c : Prop} {d : Decidable c} {A B : Option ρ} {Q : ρ → Prop} (h : mv_sat (@ite _ c d A B) Q) (hc : ¬ c) : mv_sat B Q := by rwa [if_neg hc] at h
theorem mv_sat_g {ρ : Type} {c : Prop} {d : Decidable c} {A : Option ρ} {Q : ρ → Prop} (h : mv_sat (@ite _ c d A none) Q) : c ∧ mv_sat A Q := by
  by_cases hc : c
  · exact ⟨hc, mv_sat_t h hc⟩
  · exact (mv_sat_none (mv_sat_f h hc)).elim
/-- the place is in the row -/
abbrev mv_in (i : Int32) (n : Nat) : Prop := 0 ≤ i ∧ i.toNatClampNeg < n
theorem mv_in_vp {i : Int32} {n : Nat} (h : mv_in i n) : vp_in i n := by
  rintro (q | q)
  · exact absurd h.1 (Int32.not_le.mpr q)
  · have := h.2
    omega
