/-! rows of the small machine: one an instruction -/
section MvRows
variable {G : mv_G} {M : mv_M} {R : Room} {Zf : List Frame → Array Value → State → State → Prop} {cells slots pc pc' tgt : Nat} {lv st : List Value} {sh : mv_S} {h : mv_H}
theorem mv_iconst {n : Int} (v : Int32) (hd : mv_dc M.2.1 pc (.iconst n) 1 pc') (hv : Int32.ofInt n = v) (k : mv_MW G M R Zf cells slots pc' lv (.int v :: st) sh h) : mv_MW G M R Zf cells slots pc lv st sh h := by
  obtain ⟨hd, rfl⟩ := hd
  exact fun p e s m args below meth c C H locs ls hw hS hl => lv_iconst C.1 C.2.1 hd hv (k p e s m args below meth c C H locs ls hw hS hl)
theorem mv_bipush {n : Int} (v : Int32) (hd : mv_dc M.2.1 pc (.bipush n) 2 pc') (hv : (Int8.ofInt n).toInt32 = v) (k : mv_MW G M R Zf cells slots pc' lv (.int v :: st) sh h) : mv_MW G M R Zf cells slots pc lv st sh h := by
  obtain ⟨hd, rfl⟩ := hd
  exact fun p e s m args below meth c C H locs ls hw hS hl => lv_bipush C.1 C.2.1 hd hv (k p e s m args below meth c C H locs ls hw hS hl)
theorem mv_sipush {n : Int} (v : Int32) (hd : mv_dc M.2.1 pc (.sipush n) 3 pc') (hv : (Int16.ofInt n).toInt32 = v) (k : mv_MW G M R Zf cells slots pc' lv (.int v :: st) sh h) : mv_MW G M R Zf cells slots pc lv st sh h := by
  obtain ⟨hd, rfl⟩ := hd
  exact fun p e s m args below meth c C H locs ls hw hS hl => lv_sipush C.1 C.2.1 hd hv (k p e s m args below meth c C H locs ls hw hS hl)
theorem mv_lconst {n : Fin 2} (v : Int64) (hd : mv_dc M.2.1 pc (.lconst n) 1 pc') (hv : Int64.ofNat (n : Nat) = v) (k : mv_MW G M R Zf cells slots pc' lv (.long v :: st) sh h) : mv_MW G M R Zf cells slots pc lv st sh h := by
  obtain ⟨hd, rfl⟩ := hd
  exact fun p e s m args below meth c C H locs ls hw hS hl => lv_lconst C.1 C.2.1 hd hv (k p e s m args below meth c C H locs ls hw hS hl)
theorem mv_ldc {i : Nat} {v : Int32} (hd : mv_dc M.2.1 pc (.ldc i) 2 pc') (hc : Cond.constant M.1.cls i v ∈ mv_tb) (k : mv_MW G M R Zf cells slots pc' lv (.int v :: st) sh h) : mv_MW G M R Zf cells slots pc lv st sh h := by
  obtain ⟨hd, rfl⟩ := hd
  exact fun p e s m args below meth c C H locs ls hw hS hl => lv_ldc C.1 C.2.1 C.2.2.2.2.1 (C.2.2.2.2.2.1 _ hc) hd (k p e s m args below meth c C H locs ls hw hS hl)
theorem mv_ldcw {i : Nat} {v : Int32} (hd : mv_dc M.2.1 pc (.ldc_w i) 3 pc') (hc : Cond.constant M.1.cls i v ∈ mv_tb) (k : mv_MW G M R Zf cells slots pc' lv (.int v :: st) sh h) : mv_MW G M R Zf cells slots pc lv st sh h := by
  obtain ⟨hd, rfl⟩ := hd
  exact fun p e s m args below meth c C H locs ls hw hS hl => lv_ldcw C.1 C.2.1 C.2.2.2.2.1 (C.2.2.2.2.2.1 _ hc) hd (k p e s m args below meth c C H locs ls hw hS hl)
theorem mv_ldc2 {i : Nat} {v : Int64} (hd : mv_dc M.2.1 pc (.ldc2_w i) 3 pc') (hc : Cond.constantLong M.1.cls i v ∈ mv_tb) (k : mv_MW G M R Zf cells slots pc' lv (.long v :: st) sh h) : mv_MW G M R Zf cells slots pc lv st sh h := by
  obtain ⟨hd, rfl⟩ := hd
  exact fun p e s m args below meth c C H locs ls hw hS hl => lv_ldc2 C.1 C.2.1 C.2.2.2.2.1 (C.2.2.2.2.2.1 _ hc) hd (k p e s m args below meth c C H locs ls hw hS hl)
theorem mv_iload_n {j : Fin 4} {x : Int32} (hd : mv_dc M.2.1 pc (.iload_n j) 1 pc') (hv : lv[(j : Nat)]? = some (.int x)) (k : mv_MW G M R Zf cells slots pc' lv (.int x :: st) sh h) : mv_MW G M R Zf cells slots pc lv st sh h := by
  obtain ⟨hd, rfl⟩ := hd
  exact fun p e s m args below meth c C H locs ls hw hS hl => lv_iload_n C.1 C.2.1 hd rfl (hl.2.2 _ _ hv (fun _ q => by cases q)) (k p e s m args below meth c C H locs ls hw hS hl)
theorem mv_iload {i : Nat} {x : Int32} (hd : mv_dc M.2.1 pc (.iload i) 2 pc') (hv : lv[i]? = some (.int x)) (k : mv_MW G M R Zf cells slots pc' lv (.int x :: st) sh h) : mv_MW G M R Zf cells slots pc lv st sh h := by
  obtain ⟨hd, rfl⟩ := hd
  exact fun p e s m args below meth c C H locs ls hw hS hl => lv_iload C.1 C.2.1 hd (hl.2.2 _ _ hv (fun _ q => by cases q)) (k p e s m args below meth c C H locs ls hw hS hl)
theorem mv_lload_n {j : Fin 4} {x : Int64} (hd : mv_dc M.2.1 pc (.lload_n j) 1 pc') (hv : lv[(j : Nat)]? = some (.long x)) (k : mv_MW G M R Zf cells slots pc' lv (.long x :: st) sh h) : mv_MW G M R Zf cells slots pc lv st sh h := by
  obtain ⟨hd, rfl⟩ := hd
  exact fun p e s m args below meth c C H locs ls hw hS hl => lv_lload_n C.1 C.2.1 hd rfl (hl.2.2 _ _ hv (fun _ q => by cases q)) (k p e s m args below meth c C H locs ls hw hS hl)
theorem mv_lload {i : Nat} {x : Int64} (hd : mv_dc M.2.1 pc (.lload i) 2 pc') (hv : lv[i]? = some (.long x)) (k : mv_MW G M R Zf cells slots pc' lv (.long x :: st) sh h) : mv_MW G M R Zf cells slots pc lv st sh h := by
  obtain ⟨hd, rfl⟩ := hd
  exact fun p e s m args below meth c C H locs ls hw hS hl => lv_lload C.1 C.2.1 hd (hl.2.2 _ _ hv (fun _ q => by cases q)) (k p e s m args below meth c C H locs ls hw hS hl)
theorem mv_aload_n {j : Fin 4} {x : Nat} (hd : mv_dc M.2.1 pc (.aload_n j) 1 pc') (hv : lv[(j : Nat)]? = some (.ref x)) (k : mv_MW G M R Zf cells slots pc' lv (.ref x :: st) sh h) : mv_MW G M R Zf cells slots pc lv st sh h := by
  obtain ⟨hd, rfl⟩ := hd
  exact fun p e s m args below meth c C H locs ls hw hS hl => lv_aload_n C.1 C.2.1 hd rfl (hl.2.2 _ _ hv (fun _ q => by cases q)) (k p e s m args below meth c C H locs ls hw hS hl)
theorem mv_aload {i : Nat} {x : Nat} (hd : mv_dc M.2.1 pc (.aload i) 2 pc') (hv : lv[i]? = some (.ref x)) (k : mv_MW G M R Zf cells slots pc' lv (.ref x :: st) sh h) : mv_MW G M R Zf cells slots pc lv st sh h := by
  obtain ⟨hd, rfl⟩ := hd
  exact fun p e s m args below meth c C H locs ls hw hS hl => lv_aload C.1 C.2.1 hd (hl.2.2 _ _ hv (fun _ q => by cases q)) (k p e s m args below meth c C H locs ls hw hS hl)
theorem mv_aload_nN {j : Fin 4} (hd : mv_dc M.2.1 pc (.aload_n j) 1 pc') (hv : lv[(j : Nat)]? = some .null) (k : mv_MW G M R Zf cells slots pc' lv (.null :: st) sh h) : mv_MW G M R Zf cells slots pc lv st sh h := by
  obtain ⟨hd, rfl⟩ := hd
  exact fun p e s m args below meth c C H locs ls hw hS hl => lv_aload_nN C.1 C.2.1 hd rfl (hl.2.2 _ _ hv (fun _ q => by cases q)) (k p e s m args below meth c C H locs ls hw hS hl)
theorem mv_null (hd : mv_dc M.2.1 pc .aconst_null 1 pc') (k : mv_MW G M R Zf cells slots pc' lv (.null :: st) sh h) : mv_MW G M R Zf cells slots pc lv st sh h := by
  obtain ⟨hd, rfl⟩ := hd
  exact fun p e s m args below meth c C H locs ls hw hS hl => lv_null C.1 C.2.1 hd (k p e s m args below meth c C H locs ls hw hS hl)
theorem mv_iadd {x y : Int32} (hd : mv_dc M.2.1 pc .iadd 1 pc') (k : mv_MW G M R Zf cells slots pc' lv (.int (x + y) :: st) sh h) : mv_MW G M R Zf cells slots pc lv (.int y :: .int x :: st) sh h := by
  obtain ⟨hd, rfl⟩ := hd
  exact fun p e s m args below meth c C H locs ls hw hS hl => lv_iadd C.1 C.2.1 hd (k p e s m args below meth c C H locs ls hw hS hl)
theorem mv_isub {x y : Int32} (hd : mv_dc M.2.1 pc .isub 1 pc') (k : mv_MW G M R Zf cells slots pc' lv (.int (x - y) :: st) sh h) : mv_MW G M R Zf cells slots pc lv (.int y :: .int x :: st) sh h := by
  obtain ⟨hd, rfl⟩ := hd
  exact fun p e s m args below meth c C H locs ls hw hS hl => lv_isub C.1 C.2.1 hd (k p e s m args below meth c C H locs ls hw hS hl)
theorem mv_imul {x y : Int32} (hd : mv_dc M.2.1 pc .imul 1 pc') (k : mv_MW G M R Zf cells slots pc' lv (.int (x * y) :: st) sh h) : mv_MW G M R Zf cells slots pc lv (.int y :: .int x :: st) sh h := by
  obtain ⟨hd, rfl⟩ := hd
  exact fun p e s m args below meth c C H locs ls hw hS hl => lv_imul C.1 C.2.1 hd (k p e s m args below meth c C H locs ls hw hS hl)
theorem mv_iand {x y : Int32} (hd : mv_dc M.2.1 pc .iand 1 pc') (k : mv_MW G M R Zf cells slots pc' lv (.int (x &&& y) :: st) sh h) : mv_MW G M R Zf cells slots pc lv (.int y :: .int x :: st) sh h := by
  obtain ⟨hd, rfl⟩ := hd
  exact fun p e s m args below meth c C H locs ls hw hS hl => lv_iand C.1 C.2.1 hd (k p e s m args below meth c C H locs ls hw hS hl)
theorem mv_ior {x y : Int32} (hd : mv_dc M.2.1 pc .ior 1 pc') (k : mv_MW G M R Zf cells slots pc' lv (.int (x ||| y) :: st) sh h) : mv_MW G M R Zf cells slots pc lv (.int y :: .int x :: st) sh h := by
  obtain ⟨hd, rfl⟩ := hd
  exact fun p e s m args below meth c C H locs ls hw hS hl => lv_ior C.1 C.2.1 hd (k p e s m args below meth c C H locs ls hw hS hl)
theorem mv_ixor {x y : Int32} (hd : mv_dc M.2.1 pc .ixor 1 pc') (k : mv_MW G M R Zf cells slots pc' lv (.int (x ^^^ y) :: st) sh h) : mv_MW G M R Zf cells slots pc lv (.int y :: .int x :: st) sh h := by
  obtain ⟨hd, rfl⟩ := hd
  exact fun p e s m args below meth c C H locs ls hw hS hl => lv_ixor C.1 C.2.1 hd (k p e s m args below meth c C H locs ls hw hS hl)
theorem mv_ishl {x y : Int32} (hd : mv_dc M.2.1 pc .ishl 1 pc') (k : mv_MW G M R Zf cells slots pc' lv (.int (x <<< (y &&& 31)) :: st) sh h) : mv_MW G M R Zf cells slots pc lv (.int y :: .int x :: st) sh h := by
  obtain ⟨hd, rfl⟩ := hd
  exact fun p e s m args below meth c C H locs ls hw hS hl => lv_ishl C.1 C.2.1 hd (k p e s m args below meth c C H locs ls hw hS hl)
theorem mv_ishr {x y : Int32} (hd : mv_dc M.2.1 pc .ishr 1 pc') (k : mv_MW G M R Zf cells slots pc' lv (.int (x >>> (y &&& 31)) :: st) sh h) : mv_MW G M R Zf cells slots pc lv (.int y :: .int x :: st) sh h := by
  obtain ⟨hd, rfl⟩ := hd
  exact fun p e s m args below meth c C H locs ls hw hS hl => lv_ishr C.1 C.2.1 hd (k p e s m args below meth c C H locs ls hw hS hl)
theorem mv_iushr {x y : Int32} (hd : mv_dc M.2.1 pc .iushr 1 pc') (k : mv_MW G M R Zf cells slots pc' lv (.int ((x.toUInt32 >>> (y.toUInt32 &&& Int32.toUInt32 31)).toInt32) :: st) sh h) : mv_MW G M R Zf cells slots pc lv (.int y :: .int x :: st) sh h := by
  obtain ⟨hd, rfl⟩ := hd
  exact fun p e s m args below meth c C H locs ls hw hS hl => lv_iushr C.1 C.2.1 hd rfl (k p e s m args below meth c C H locs ls hw hS hl)
theorem mv_ineg {x : Int32} (hd : mv_dc M.2.1 pc .ineg 1 pc') (k : mv_MW G M R Zf cells slots pc' lv (.int (-x) :: st) sh h) : mv_MW G M R Zf cells slots pc lv (.int x :: st) sh h := by
  obtain ⟨hd, rfl⟩ := hd
  exact fun p e s m args below meth c C H locs ls hw hS hl => lv_ineg C.1 C.2.1 hd (k p e s m args below meth c C H locs ls hw hS hl)
theorem mv_i2l {x : Int32} (hd : mv_dc M.2.1 pc .i2l 1 pc') (k : mv_MW G M R Zf cells slots pc' lv (.long x.toInt64 :: st) sh h) : mv_MW G M R Zf cells slots pc lv (.int x :: st) sh h := by
  obtain ⟨hd, rfl⟩ := hd
  exact fun p e s m args below meth c C H locs ls hw hS hl => lv_i2l C.1 C.2.1 hd rfl (k p e s m args below meth c C H locs ls hw hS hl)
theorem mv_l2i {x : Int64} (hd : mv_dc M.2.1 pc .l2i 1 pc') (k : mv_MW G M R Zf cells slots pc' lv (.int x.toInt32 :: st) sh h) : mv_MW G M R Zf cells slots pc lv (.long x :: st) sh h := by
  obtain ⟨hd, rfl⟩ := hd
  exact fun p e s m args below meth c C H locs ls hw hS hl => lv_l2i C.1 C.2.1 hd rfl (k p e s m args below meth c C H locs ls hw hS hl)
theorem mv_ladd {x y : Int64} (hd : mv_dc M.2.1 pc .ladd 1 pc') (k : mv_MW G M R Zf cells slots pc' lv (.long (x + y) :: st) sh h) : mv_MW G M R Zf cells slots pc lv (.long y :: .long x :: st) sh h := by
  obtain ⟨hd, rfl⟩ := hd
  exact fun p e s m args below meth c C H locs ls hw hS hl => lv_ladd C.1 C.2.1 hd (k p e s m args below meth c C H locs ls hw hS hl)
theorem mv_lmul {x y : Int64} (hd : mv_dc M.2.1 pc .lmul 1 pc') (k : mv_MW G M R Zf cells slots pc' lv (.long (x * y) :: st) sh h) : mv_MW G M R Zf cells slots pc lv (.long y :: .long x :: st) sh h := by
  obtain ⟨hd, rfl⟩ := hd
  exact fun p e s m args below meth c C H locs ls hw hS hl => lv_lmul C.1 C.2.1 hd (k p e s m args below meth c C H locs ls hw hS hl)
theorem mv_lcmp {x y : Int64} (hd : mv_dc M.2.1 pc .lcmp 1 pc') (k : mv_MW G M R Zf cells slots pc' lv (.int (lg_cmp x y) :: st) sh h) : mv_MW G M R Zf cells slots pc lv (.long y :: .long x :: st) sh h := by
  obtain ⟨hd, rfl⟩ := hd
  exact fun p e s m args below meth c C H locs ls hw hS hl => W.lcmp C.1 C.2.1 hd (k p e s m args below meth c C H locs ls hw hS hl)
theorem mv_idiv {x y : Int32} {ρ : Type} {K : Option ρ} {Q : ρ → Prop} (hd : mv_dc M.2.1 pc .idiv 1 pc') (hs : mv_sat (if ¬ y = 0 then K else none) Q) (k : mv_sat K Q → mv_MW G M R Zf cells slots pc' lv (.int (x / y) :: st) sh h) : mv_MW G M R Zf cells slots pc lv (.int y :: .int x :: st) sh h := by
  obtain ⟨hd, rfl⟩ := hd
  obtain ⟨hg, hs⟩ := mv_sat_g hs
  exact fun p e s m args below meth c C H locs ls hw hS hl => lv_idiv C.1 C.2.1 hd hg (k hs p e s m args below meth c C H locs ls hw hS hl)
theorem mv_irem {x y : Int32} {ρ : Type} {K : Option ρ} {Q : ρ → Prop} (hd : mv_dc M.2.1 pc .irem 1 pc') (hs : mv_sat (if ¬ y = 0 then K else none) Q) (k : mv_sat K Q → mv_MW G M R Zf cells slots pc' lv (.int (x - x / y * y) :: st) sh h) : mv_MW G M R Zf cells slots pc lv (.int y :: .int x :: st) sh h := by
  obtain ⟨hd, rfl⟩ := hd
  obtain ⟨hg, hs⟩ := mv_sat_g hs
  exact fun p e s m args below meth c C H locs ls hw hS hl => lv_irem C.1 C.2.1 hd hg (k hs p e s m args below meth c C H locs ls hw hS hl)
theorem mv_lrem {x y : Int64} {ρ : Type} {K : Option ρ} {Q : ρ → Prop} (hd : mv_dc M.2.1 pc .lrem 1 pc') (hs : mv_sat (if ¬ y = 0 then K else none) Q) (k : mv_sat K Q → mv_MW G M R Zf cells slots pc' lv (.long (x - x / y * y) :: st) sh h) : mv_MW G M R Zf cells slots pc lv (.long y :: .long x :: st) sh h := by
  obtain ⟨hd, rfl⟩ := hd
  obtain ⟨hg, hs⟩ := mv_sat_g hs
  exact fun p e s m args below meth c C H locs ls hw hS hl => lv_lrem C.1 C.2.1 hd hg (k hs p e s m args below meth c C H locs ls hw hS hl)
theorem mv_idivk {x y : Int32} (hd : mv_dc M.2.1 pc .idiv 1 pc') (hg : ¬ y = 0) (k : mv_MW G M R Zf cells slots pc' lv (.int (x / y) :: st) sh h) : mv_MW G M R Zf cells slots pc lv (.int y :: .int x :: st) sh h := by
  obtain ⟨hd, rfl⟩ := hd
  exact fun p e s m args below meth c C H locs ls hw hS hl => lv_idiv C.1 C.2.1 hd hg (k p e s m args below meth c C H locs ls hw hS hl)
theorem mv_iremk {x y : Int32} (hd : mv_dc M.2.1 pc .irem 1 pc') (hg : ¬ y = 0) (k : mv_MW G M R Zf cells slots pc' lv (.int (x - x / y * y) :: st) sh h) : mv_MW G M R Zf cells slots pc lv (.int y :: .int x :: st) sh h := by
  obtain ⟨hd, rfl⟩ := hd
  exact fun p e s m args below meth c C H locs ls hw hS hl => lv_irem C.1 C.2.1 hd hg (k p e s m args below meth c C H locs ls hw hS hl)
theorem mv_lremk {x y : Int64} (hd : mv_dc M.2.1 pc .lrem 1 pc') (hg : ¬ y = 0) (k : mv_MW G M R Zf cells slots pc' lv (.long (x - x / y * y) :: st) sh h) : mv_MW G M R Zf cells slots pc lv (.long y :: .long x :: st) sh h := by
  obtain ⟨hd, rfl⟩ := hd
  exact fun p e s m args below meth c C H locs ls hw hS hl => lv_lrem C.1 C.2.1 hd hg (k p e s m args below meth c C H locs ls hw hS hl)
theorem mv_dup {v : Value} (hd : mv_dc M.2.1 pc .dup 1 pc') (hv : v.category = 1) (k : mv_MW G M R Zf cells slots pc' lv (v :: v :: st) sh h) : mv_MW G M R Zf cells slots pc lv (v :: st) sh h := by
  obtain ⟨hd, rfl⟩ := hd
  exact fun p e s m args below meth c C H locs ls hw hS hl => lv_dup C.1 C.2.1 hd ((mv_v_cat G v).trans hv) (k p e s m args below meth c C H locs ls hw hS hl)
theorem mv_pop {v : Value} (hd : mv_dc M.2.1 pc .pop 1 pc') (hv : v.category = 1) (k : mv_MW G M R Zf cells slots pc' lv st sh h) : mv_MW G M R Zf cells slots pc lv (v :: st) sh h := by
  obtain ⟨hd, rfl⟩ := hd
  exact fun p e s m args below meth c C H locs ls hw hS hl => lv_pop C.1 C.2.1 hd ((mv_v_cat G v).trans hv) (k p e s m args below meth c C H locs ls hw hS hl)
theorem mv_dup2 {v w : Value} (hd : mv_dc M.2.1 pc .dup2 1 pc') (hv : v.category = 1) (hw' : w.category = 1) (k : mv_MW G M R Zf cells slots pc' lv (v :: w :: v :: w :: st) sh h) : mv_MW G M R Zf cells slots pc lv (v :: w :: st) sh h := by
  obtain ⟨hd, rfl⟩ := hd
  exact fun p e s m args below meth c C H locs ls hw hS hl => lv_dup2_11 C.1 C.2.1 hd ((mv_v_cat G v).trans hv) ((mv_v_cat G w).trans hw') (k p e s m args below meth c C H locs ls hw hS hl)
theorem mv_goto {off : Int} (hd : mv_db M.2.1 pc (.goto off) off pc' tgt) (k : mv_MW G M R Zf cells slots tgt lv st sh h) : mv_MW G M R Zf cells slots pc lv st sh h := by
  obtain ⟨hd, -, ht⟩ := hd
  exact fun p e s m args below meth c C H locs ls hw hS hl => lv_goto C.1 C.2.1 hd ht (k p e s m args below meth c C H locs ls hw hS hl)
theorem mv_if_eq {x : Int32} {ρ : Type} {K1 K2 : Option ρ} {Q : ρ → Prop} {off : Int} (hd : mv_db M.2.1 pc (.ifCond .eq off) off pc' tgt) (hs : mv_sat (if x = 0 then K1 else K2) Q) (k1 : x = 0 → mv_sat K1 Q → mv_MW G M R Zf cells slots tgt lv st sh h) (k2 : ¬ x = 0 → mv_sat K2 Q → mv_MW G M R Zf cells slots pc' lv st sh h) : mv_MW G M R Zf cells slots pc lv (.int x :: st) sh h := by
  obtain ⟨hd, rfl, ht⟩ := hd
  refine fun p e s m args below meth c C H locs ls hw hS hl => lv_if_eq C.1 C.2.1 hd ht (fun q => ?_) (fun q => ?_)
  · exact k1 q (mv_sat_t hs q) p e s m args below meth c C H locs ls hw hS hl
  · exact k2 q (mv_sat_f hs q) p e s m args below meth c C H locs ls hw hS hl
theorem mv_icmp_eq {x y : Int32} {ρ : Type} {K1 K2 : Option ρ} {Q : ρ → Prop} {off : Int} (hd : mv_db M.2.1 pc (.if_icmp .eq off) off pc' tgt) (hs : mv_sat (if x = y then K1 else K2) Q) (k1 : x = y → mv_sat K1 Q → mv_MW G M R Zf cells slots tgt lv st sh h) (k2 : ¬ x = y → mv_sat K2 Q → mv_MW G M R Zf cells slots pc' lv st sh h) : mv_MW G M R Zf cells slots pc lv (.int y :: .int x :: st) sh h := by
  obtain ⟨hd, rfl, ht⟩ := hd
  refine fun p e s m args below meth c C H locs ls hw hS hl => lv_icmp_eq C.1 C.2.1 hd ht (fun q => ?_) (fun q => ?_)
  · exact k1 q (mv_sat_t hs q) p e s m args below meth c C H locs ls hw hS hl
  · exact k2 q (mv_sat_f hs q) p e s m args below meth c C H locs ls hw hS hl
theorem mv_if_ne {x : Int32} {ρ : Type} {K1 K2 : Option ρ} {Q : ρ → Prop} {off : Int} (hd : mv_db M.2.1 pc (.ifCond .ne off) off pc' tgt) (hs : mv_sat (if x = 0 then K1 else K2) Q) (k1 : x = 0 → mv_sat K1 Q → mv_MW G M R Zf cells slots pc' lv st sh h) (k2 : ¬ x = 0 → mv_sat K2 Q → mv_MW G M R Zf cells slots tgt lv st sh h) : mv_MW G M R Zf cells slots pc lv (.int x :: st) sh h := by
  obtain ⟨hd, rfl, ht⟩ := hd
  refine fun p e s m args below meth c C H locs ls hw hS hl => lv_if_ne C.1 C.2.1 hd ht (fun q => ?_) (fun q => ?_)
  · exact k2 q (mv_sat_f hs q) p e s m args below meth c C H locs ls hw hS hl
  · have q := q
    exact k1 q (mv_sat_t hs q) p e s m args below meth c C H locs ls hw hS hl
theorem mv_icmp_ne {x y : Int32} {ρ : Type} {K1 K2 : Option ρ} {Q : ρ → Prop} {off : Int} (hd : mv_db M.2.1 pc (.if_icmp .ne off) off pc' tgt) (hs : mv_sat (if x = y then K1 else K2) Q) (k1 : x = y → mv_sat K1 Q → mv_MW G M R Zf cells slots pc' lv st sh h) (k2 : ¬ x = y → mv_sat K2 Q → mv_MW G M R Zf cells slots tgt lv st sh h) : mv_MW G M R Zf cells slots pc lv (.int y :: .int x :: st) sh h := by
  obtain ⟨hd, rfl, ht⟩ := hd
  refine fun p e s m args below meth c C H locs ls hw hS hl => lv_icmp_ne C.1 C.2.1 hd ht (fun q => ?_) (fun q => ?_)
  · exact k2 q (mv_sat_f hs q) p e s m args below meth c C H locs ls hw hS hl
  · have q := q
    exact k1 q (mv_sat_t hs q) p e s m args below meth c C H locs ls hw hS hl
theorem mv_if_lt {x : Int32} {ρ : Type} {K1 K2 : Option ρ} {Q : ρ → Prop} {off : Int} (hd : mv_db M.2.1 pc (.ifCond .lt off) off pc' tgt) (hs : mv_sat (if x < 0 then K1 else K2) Q) (k1 : x < 0 → mv_sat K1 Q → mv_MW G M R Zf cells slots tgt lv st sh h) (k2 : ¬ x < 0 → mv_sat K2 Q → mv_MW G M R Zf cells slots pc' lv st sh h) : mv_MW G M R Zf cells slots pc lv (.int x :: st) sh h := by
  obtain ⟨hd, rfl, ht⟩ := hd
  refine fun p e s m args below meth c C H locs ls hw hS hl => lv_if_lt C.1 C.2.1 hd ht (fun q => ?_) (fun q => ?_)
  · exact k1 q (mv_sat_t hs q) p e s m args below meth c C H locs ls hw hS hl
  · exact k2 q (mv_sat_f hs q) p e s m args below meth c C H locs ls hw hS hl
theorem mv_icmp_lt {x y : Int32} {ρ : Type} {K1 K2 : Option ρ} {Q : ρ → Prop} {off : Int} (hd : mv_db M.2.1 pc (.if_icmp .lt off) off pc' tgt) (hs : mv_sat (if x < y then K1 else K2) Q) (k1 : x < y → mv_sat K1 Q → mv_MW G M R Zf cells slots tgt lv st sh h) (k2 : ¬ x < y → mv_sat K2 Q → mv_MW G M R Zf cells slots pc' lv st sh h) : mv_MW G M R Zf cells slots pc lv (.int y :: .int x :: st) sh h := by
  obtain ⟨hd, rfl, ht⟩ := hd
  refine fun p e s m args below meth c C H locs ls hw hS hl => lv_icmp_lt C.1 C.2.1 hd ht (fun q => ?_) (fun q => ?_)
  · exact k1 q (mv_sat_t hs q) p e s m args below meth c C H locs ls hw hS hl
  · exact k2 q (mv_sat_f hs q) p e s m args below meth c C H locs ls hw hS hl
theorem mv_if_ge {x : Int32} {ρ : Type} {K1 K2 : Option ρ} {Q : ρ → Prop} {off : Int} (hd : mv_db M.2.1 pc (.ifCond .ge off) off pc' tgt) (hs : mv_sat (if x < 0 then K1 else K2) Q) (k1 : x < 0 → mv_sat K1 Q → mv_MW G M R Zf cells slots pc' lv st sh h) (k2 : ¬ x < 0 → mv_sat K2 Q → mv_MW G M R Zf cells slots tgt lv st sh h) : mv_MW G M R Zf cells slots pc lv (.int x :: st) sh h := by
  obtain ⟨hd, rfl, ht⟩ := hd
  refine fun p e s m args below meth c C H locs ls hw hS hl => lv_if_ge C.1 C.2.1 hd ht (fun q => ?_) (fun q => ?_)
  · have q := Int32.not_lt.mpr q
    exact k2 q (mv_sat_f hs q) p e s m args below meth c C H locs ls hw hS hl
  · have q := Int32.not_le.mp q
    exact k1 q (mv_sat_t hs q) p e s m args below meth c C H locs ls hw hS hl
theorem mv_icmp_ge {x y : Int32} {ρ : Type} {K1 K2 : Option ρ} {Q : ρ → Prop} {off : Int} (hd : mv_db M.2.1 pc (.if_icmp .ge off) off pc' tgt) (hs : mv_sat (if x < y then K1 else K2) Q) (k1 : x < y → mv_sat K1 Q → mv_MW G M R Zf cells slots pc' lv st sh h) (k2 : ¬ x < y → mv_sat K2 Q → mv_MW G M R Zf cells slots tgt lv st sh h) : mv_MW G M R Zf cells slots pc lv (.int y :: .int x :: st) sh h := by
  obtain ⟨hd, rfl, ht⟩ := hd
  refine fun p e s m args below meth c C H locs ls hw hS hl => lv_icmp_ge C.1 C.2.1 hd ht (fun q => ?_) (fun q => ?_)
  · have q := Int32.not_lt.mpr q
    exact k2 q (mv_sat_f hs q) p e s m args below meth c C H locs ls hw hS hl
  · have q := Int32.not_le.mp q
    exact k1 q (mv_sat_t hs q) p e s m args below meth c C H locs ls hw hS hl
theorem mv_if_gt {x : Int32} {ρ : Type} {K1 K2 : Option ρ} {Q : ρ → Prop} {off : Int} (hd : mv_db M.2.1 pc (.ifCond .gt off) off pc' tgt) (hs : mv_sat (if 0 < x then K1 else K2) Q) (k1 : 0 < x → mv_sat K1 Q → mv_MW G M R Zf cells slots tgt lv st sh h) (k2 : ¬ 0 < x → mv_sat K2 Q → mv_MW G M R Zf cells slots pc' lv st sh h) : mv_MW G M R Zf cells slots pc lv (.int x :: st) sh h := by
  obtain ⟨hd, rfl, ht⟩ := hd
  refine fun p e s m args below meth c C H locs ls hw hS hl => lv_if_gt C.1 C.2.1 hd ht (fun q => ?_) (fun q => ?_)
  · exact k1 q (mv_sat_t hs q) p e s m args below meth c C H locs ls hw hS hl
  · exact k2 q (mv_sat_f hs q) p e s m args below meth c C H locs ls hw hS hl
theorem mv_icmp_gt {x y : Int32} {ρ : Type} {K1 K2 : Option ρ} {Q : ρ → Prop} {off : Int} (hd : mv_db M.2.1 pc (.if_icmp .gt off) off pc' tgt) (hs : mv_sat (if y < x then K1 else K2) Q) (k1 : y < x → mv_sat K1 Q → mv_MW G M R Zf cells slots tgt lv st sh h) (k2 : ¬ y < x → mv_sat K2 Q → mv_MW G M R Zf cells slots pc' lv st sh h) : mv_MW G M R Zf cells slots pc lv (.int y :: .int x :: st) sh h := by
  obtain ⟨hd, rfl, ht⟩ := hd
  refine fun p e s m args below meth c C H locs ls hw hS hl => lv_icmp_gt C.1 C.2.1 hd ht (fun q => ?_) (fun q => ?_)
  · exact k1 q (mv_sat_t hs q) p e s m args below meth c C H locs ls hw hS hl
  · exact k2 q (mv_sat_f hs q) p e s m args below meth c C H locs ls hw hS hl
theorem mv_if_le {x : Int32} {ρ : Type} {K1 K2 : Option ρ} {Q : ρ → Prop} {off : Int} (hd : mv_db M.2.1 pc (.ifCond .le off) off pc' tgt) (hs : mv_sat (if 0 < x then K1 else K2) Q) (k1 : 0 < x → mv_sat K1 Q → mv_MW G M R Zf cells slots pc' lv st sh h) (k2 : ¬ 0 < x → mv_sat K2 Q → mv_MW G M R Zf cells slots tgt lv st sh h) : mv_MW G M R Zf cells slots pc lv (.int x :: st) sh h := by
  obtain ⟨hd, rfl, ht⟩ := hd
  refine fun p e s m args below meth c C H locs ls hw hS hl => lv_if_le C.1 C.2.1 hd ht (fun q => ?_) (fun q => ?_)
  · have q := Int32.not_lt.mpr q
    exact k2 q (mv_sat_f hs q) p e s m args below meth c C H locs ls hw hS hl
  · have q := Int32.not_le.mp q
    exact k1 q (mv_sat_t hs q) p e s m args below meth c C H locs ls hw hS hl
theorem mv_icmp_le {x y : Int32} {ρ : Type} {K1 K2 : Option ρ} {Q : ρ → Prop} {off : Int} (hd : mv_db M.2.1 pc (.if_icmp .le off) off pc' tgt) (hs : mv_sat (if y < x then K1 else K2) Q) (k1 : y < x → mv_sat K1 Q → mv_MW G M R Zf cells slots pc' lv st sh h) (k2 : ¬ y < x → mv_sat K2 Q → mv_MW G M R Zf cells slots tgt lv st sh h) : mv_MW G M R Zf cells slots pc lv (.int y :: .int x :: st) sh h := by
  obtain ⟨hd, rfl, ht⟩ := hd
  refine fun p e s m args below meth c C H locs ls hw hS hl => lv_icmp_le C.1 C.2.1 hd ht (fun q => ?_) (fun q => ?_)
  · have q := Int32.not_lt.mpr q
    exact k2 q (mv_sat_f hs q) p e s m args below meth c C H locs ls hw hS hl
  · have q := Int32.not_le.mp q
    exact k1 q (mv_sat_t hs q) p e s m args below meth c C H locs ls hw hS hl
end MvRows
