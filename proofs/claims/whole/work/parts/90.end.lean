/-! the law's start: the world at its entry, and the end out of it -/
set_option maxRecDepth 100000 in
set_option maxHeartbeats 4000000 in
theorem whole_start {p : Program} {e : Env} {s : State} {m : MethodId} {below : List Frame} {meth : Method} {c : Code} (l : Launch) {b L : Nat} {xs : Nat → Int32} (hL : L ≤ 448) (C0 : lw_At p s m meth c b L xs) : W p l e room_1 s m #[Value.ref b] below meth c s.heap [] 0 0 (lw_Z below #[Value.ref b] s) (entryFrame m ([Value.ref b] : List Value).toArray 4) := by
  obtain ⟨hx, hb, hr, hml, hown, hts, hX, hbl, hlocks, hgv⟩ := id C0
  have hts' : ∀ w ∈ mv_tb, w.before #[Value.ref b] s = true := fun w hw => hts w (List.mem_filter.mp hw).1
  obtain ⟨c0, iS0, hKn0⟩ := u_known (C := RX0) (T := TX0) (N := 6) (n := 6) hts' kc_0.2.1 (hts' (.instantiable RX0 6) (mv_t1 161 rfl rfl))
  obtain ⟨c1, iS1, hKn1⟩ := u_known (C := RX1) (T := TX1) (N := 9) (n := 9) hts' kc_1.2.1 (hts' (.instantiable RX1 9) (mv_t1 23 rfl rfl))
  obtain ⟨c2, iS2, hKn2⟩ := u_known (C := RX2) (T := TX2) (N := 3) (n := 3) hts' kc_2.2.1 (hts' (.instantiable RX2 3) (mv_t1 46 rfl rfl))
  obtain ⟨c3, iS3, hKn3⟩ := u_known (C := RX3) (T := TX3) (N := 5) (n := 5) hts' kc_3.2.1 (hts' (.instantiable RX3 5) (mv_t1 186 rfl rfl))
  obtain ⟨c4, iS4, hKn4⟩ := u_known (C := RX4) (T := TX4) (N := 9) (n := 9) hts' kc_4.2.1 (hts' (.instantiable RX4 9) (mv_t1 95 rfl rfl))
  obtain ⟨c5, iS5, hKn5⟩ := u_known (C := RX5) (T := TX5) (N := 5) (n := 5) hts' kc_5.2.1 (hts' (.instantiable RX5 5) (mv_t1 208 rfl rfl))
  obtain ⟨c6, iS6, hKn6⟩ := u_known (C := RX6) (T := TX6) (N := 1) (n := 1) hts' kc_6.2.1 (hts' (.instantiable RX6 1) (mv_t1 151 rfl rfl))
  obtain ⟨c7, iS7, hKn7⟩ := u_known (C := RX7) (T := TX7) (N := 3) (n := 3) hts' kc_7.2.1 (hts' (.instantiable RX7 3) (mv_t1 29 rfl rfl))
  obtain ⟨c8, iS8, hKn8⟩ := u_known (C := RX8) (T := TX8) (N := 5) (n := 5) hts' kc_8.2.1 (hts' (.instantiable RX8 5) (mv_t1 129 rfl rfl))
  obtain ⟨c9, iS9, hKn9⟩ := u_known (C := RX9) (T := TX9) (N := 10) (n := 10) hts' kc_9.2.1 (hts' (.instantiable RX9 10) (mv_t1 15 rfl rfl))
  obtain ⟨c10, iS10, hKn10⟩ := u_known (C := RX10) (T := TX10) (N := 46) (n := 46) hts' kc_10.2.1 (hts' (.instantiable RX10 46) (mv_t4 183 rfl rfl))
  obtain ⟨dC, dI, hKc⟩ : ∃ (dC : Nat → ClassId) (dI : Nat → Nat → Nat), ∀ (k : Nat) (q : vw_C), vwCl[k]? = some q → u_Kn s q.1 q.2.1 q.2.2 (dC k) (dI k) := by
    refine ⟨fun k => if k = 0 then c0 else if k = 1 then c1 else if k = 2 then c2 else if k = 3 then c3 else if k = 4 then c4 else if k = 5 then c5 else if k = 6 then c6 else if k = 7 then c7 else if k = 8 then c8 else if k = 9 then c9 else c10, fun k => if k = 0 then iS0 else if k = 1 then iS1 else if k = 2 then iS2 else if k = 3 then iS3 else if k = 4 then iS4 else if k = 5 then iS5 else if k = 6 then iS6 else if k = 7 then iS7 else if k = 8 then iS8 else if k = 9 then iS9 else iS10, ?_⟩
    intro k q hq
    match k, hq with
    | 0, hq => cases hq; exact hKn0
    | 1, hq => cases hq; exact hKn1
    | 2, hq => cases hq; exact hKn2
    | 3, hq => cases hq; exact hKn3
    | 4, hq => cases hq; exact hKn4
    | 5, hq => cases hq; exact hKn5
    | 6, hq => cases hq; exact hKn6
    | 7, hq => cases hq; exact hKn7
    | 8, hq => cases hq; exact hKn8
    | 9, hq => cases hq; exact hKn9
    | 10, hq => cases hq; exact hKn10
    | k + 11, hq => simp [vwCl] at hq
  obtain ⟨cI, kI, compI, hI1, hI2, hI3⟩ := Cond.arrayClass_spec (hts' (.arrayClass .int) (mv_t1 44 rfl rfl))
  obtain ⟨cZ, kZ, compZ, hZ1, hZ2, hZ3⟩ := Cond.arrayClass_spec (hts' (.arrayClass .boolean) (mv_t5 87 rfl rfl))
  have hs := flat_of_before _ hgv
  have hA : ∀ a : Nat, a < s.heap.size → ¬ (fun q : Nat => s.heap.size ≤ q) a := fun a h => Nat.not_le.mpr h
  obtain ⟨a1, hv1, hT1⟩ := va_Tof (args := #[Value.ref b]) (s := s) (tm := .static "PaperBoxes" "SETTINGS_LEAST" "[I") (ty := .int) (N := 4) (f := fun j => .int (mv_least j)) (A := fun q : Nat => s.heap.size ≤ q) (by decide) (hs _ (by decide +kernel)) (va_eqt (hs (.eq (.length (.static "PaperBoxes" "SETTINGS_LEAST" "[I")) (.int 4)) (by decide +kernel))) (fun j hj => by
    match j, hj with
    | 0, _ => exact va_eqt (hs (.eq (.elem (.static "PaperBoxes" "SETTINGS_LEAST" "[I") (.int 0)) (.int 0)) (by decide +kernel))
    | 1, _ => exact va_eqt (hs (.eq (.elem (.static "PaperBoxes" "SETTINGS_LEAST" "[I") (.int 1)) (.int 0)) (by decide +kernel))
    | 2, _ => exact va_eqt (hs (.eq (.elem (.static "PaperBoxes" "SETTINGS_LEAST" "[I") (.int 2)) (.int 1)) (by decide +kernel))
    | 3, _ => exact va_eqt (hs (.eq (.elem (.static "PaperBoxes" "SETTINGS_LEAST" "[I") (.int 3)) (.int 0)) (by decide +kernel))
    | j + 4, hj => exact absurd hj (by omega)) hA
  have hZ_1 := va_Zof (args := #[Value.ref b]) (s := s) (A := fun q : Nat => s.heap.size ≤ q) (hts (.laysStatic "PaperBoxes" "SETTINGS_LEAST" "[I") (by decide +kernel)) (hts (.initialized "PaperBoxes") (by decide +kernel)) hv1 hA
  obtain ⟨cell1, u11, u12, u13, u14, -, u16, u17⟩ := hT1
  obtain ⟨a2, hv2, hT2⟩ := va_Tof (args := #[Value.ref b]) (s := s) (tm := .static "PaperBoxes" "SETTINGS_MOST" "[I") (ty := .int) (N := 4) (f := fun j => .int (mv_most j)) (A := fun q : Nat => s.heap.size ≤ q) (by decide) (hs _ (by decide +kernel)) (va_eqt (hs (.eq (.length (.static "PaperBoxes" "SETTINGS_MOST" "[I")) (.int 4)) (by decide +kernel))) (fun j hj => by
    match j, hj with
    | 0, _ => exact va_eqt (hs (.eq (.elem (.static "PaperBoxes" "SETTINGS_MOST" "[I") (.int 0)) (.int 9)) (by decide +kernel))
    | 1, _ => exact va_eqt (hs (.eq (.elem (.static "PaperBoxes" "SETTINGS_MOST" "[I") (.int 1)) (.int 9)) (by decide +kernel))
    | 2, _ => exact va_eqt (hs (.eq (.elem (.static "PaperBoxes" "SETTINGS_MOST" "[I") (.int 2)) (.int 40)) (by decide +kernel))
    | 3, _ => exact va_eqt (hs (.eq (.elem (.static "PaperBoxes" "SETTINGS_MOST" "[I") (.int 3)) (.int 60)) (by decide +kernel))
    | j + 4, hj => exact absurd hj (by omega)) hA
  have hZ_2 := va_Zof (args := #[Value.ref b]) (s := s) (A := fun q : Nat => s.heap.size ≤ q) (hts (.laysStatic "PaperBoxes" "SETTINGS_MOST" "[I") (by decide +kernel)) (hts (.initialized "PaperBoxes") (by decide +kernel)) hv2 hA
  obtain ⟨cell2, u21, u22, u23, u24, -, u26, u27⟩ := hT2
  obtain ⟨G, hG⟩ : ∃ G : mv_G, G = (l, (dC, dI), cI, cZ, s.heap.size, fun j => if j = 0 then (b, L, xs) else if j = 1 then (a1, 4, mv_least) else (a2, 4, mv_most)) := ⟨_, rfl⟩
  have gl : mv_l G = l := by rw [hG]; rfl
  have gb : mv_b G = s.heap.size := by rw [hG]; rfl
  have g0 : mv_x G 0 = (b, L, xs) := by rw [hG]; rfl
  have g1 : mv_x G 1 = (a1, 4, mv_least) := by rw [hG]; rfl
  have g2 : mv_x G 2 = (a2, 4, mv_most) := by rw [hG]; rfl
  have hAe : mv_A G = fun q : Nat => s.heap.size ≤ q := by funext q; simp only [mv_A, gb]
  have hmX : mv_X G s s.heap := by
    refine ⟨fun j hj => ?_, ?_, ?_, fun q hq => ?_, fun q hq => ?_, ?_, ?_⟩
    · have : j = 0 := by omega
      subst this
      rw [g0, gb]; exact ⟨hbl, hX⟩
    · rw [g1, hAe]; exact hZ_1
    · rw [g2, hAe]; exact hZ_2
    · exact va_Nw.of rfl (hts _ ((show ∀ q ∈ mv_nf, Cond.fieldLinkNest q.1 q.2.1 q.2.2.1 q.2.2.2.1 q.2.2.2.2.1 q.2.2.2.2.2 ∈ lw_tbl by decide +kernel) q hq))
    · exact va_Nw.of rfl (hts _ ((show ∀ q ∈ mv_nm, Cond.methodLinkNest q.1 q.2.1 q.2.2.1 q.2.2.2 ∈ lw_tbl by decide +kernel) q hq))
    · rw [g1, gb]; exact ⟨Nat.not_le.mp u17, cell1, u11, u12, u13, u14, u16⟩
    · rw [g2, gb]; exact ⟨Nat.not_le.mp u27, cell2, u21, u22, u23, u24, u26⟩
  have hmK : va_K (mv_D G) vwCl (mv_ty G) s := by
    rw [hG]
    refine ⟨hKc, fun k q hk => ?_⟩
    match k, hk with
    | 0, hk => cases hk; exact ⟨fun n z => ⟨fun k h => (by cases h), kI, hI2, compI, hI3⟩, hI1⟩
    | 1, hk => cases hk; exact ⟨fun n z => ⟨fun k h => (by cases h), kZ, hZ2, compZ, hZ3⟩, hZ1⟩
    | k + 2, hk => simp [mv_ty] at hk
  have hC : mv_Cx G mL_law p s m #[Value.ref b] meth c := ⟨hx, hb, hr, hml, hown, hts', hlocks, ⟨fun h => absurd h (by decide), fun _ => gb.symm⟩, hmK, hmX, Nat.le_of_eq gb⟩
  have hw : mv_w G sh_0 (fun _ _ => 0) s.heap := ⟨fun k q h => by simp [sh_0, mv_c] at h, by rw [gb]; rfl, by decide⟩
  have hl := lv_entry ([.ref b]) (n := 4) (Nat.le_of_ble_eq_true rfl)
  rw [lg_entry_eq]
  have ha : mv_a G 900 = b := by
    show (mv_x G 0).1 = b
    rw [g0]
  have hlv : mv_L G ((lg_sl ([.ref b]) ++ List.replicate (4 - (lg_sl ([.ref b])).length) Slot.unset).toArray) 4 [.ref 900, .float 0, .float 0, .float 0] := by
    refine ⟨hl.1, hl.2.1, fun i v hi hf => ?_⟩
    match i, hi with
    | 0, hi => cases hi; show _ = some (Slot.val (Value.ref (mv_a G 900))); rw [ha]; exact hl.2.2 (0, .ref b) (by simp [lv_args])
    | 1, hi => cases hi; exact absurd rfl (hf 0)
    | 2, hi => cases hi; exact absurd rfl (hf 0)
    | 3, hi => cases hi; exact absurd rfl (hf 0)
    | i + 4, hi => simp at hi
  have hgo := TL_law_900 G (fun _ => True) (fun _ _ => 0) (pu_law G (by rw [g0]; exact hL)) p e s m #[Value.ref b] below meth c hC s.heap [] _ hw va_S.rf hlv
  rw [gl] at hgo
  exact hgo
set_option maxHeartbeats 4000000 in
theorem lw_walk (l : Launch) (b : Addr) (xs : List Int32) : MetFree l x (headSpec (Jvm.Cond.code x code maxLocals ret :: tables_1) room_1) (lw_P b xs) (fun _ _ _ _ _ => True) lw_Q := by
  refine MetFree.of_bodyS (code := code) (maxLocals := maxLocals) (ret := ret) (by decide) ?_ ?_
  · intro args s m h hn
    obtain ⟨meth, c, h1, h2, h3, h4, h5, h6, -, -⟩ := Cond.code_spec hn (atoms_spec (ws := Jvm.Cond.code x code maxLocals ret :: tables_1) h _ List.mem_cons_self)
    exact ⟨meth, c, h1, h2, h3, h4, h5, h6⟩
  · intro p e s m args below meth c s₁ B hml0 hP _
    obtain ⟨rfl, hx, hbd, hgv⟩ := hP
    obtain ⟨scr, harrAt, hlist, hof, hsmall⟩ := hx
    obtain ⟨hcb, hkn, -, -⟩ := State.arrayAt?_spec harrAt
    have hown : s.vm.findClass R_law = some m.cls := findClass_of_methodNamed B.named
    have hts0 : ∀ c ∈ (Jvm.Cond.code x code maxLocals ret :: tables_1), c.before #[Value.ref b] s = true := atoms_spec (ws := Jvm.Cond.code x code maxLocals ret :: tables_1) B.pre
    have hts : ∀ w ∈ lw_tbl, w.before #[Value.ref b] s = true := k2_hts_sels lw_privs (fun w hw => hts0 w (List.mem_cons_of_mem _ hw)) lw_privs_ok
    have hml : c.maxLocals = 4 := B.maxLocals_eq (hts0 _ List.mem_cons_self)
    have X₀ : Stand p l e room_1 s m #[Value.ref b] below meth c s₁ [] 0 0 := Stand.of_body B
    have hh0 : s₁.heap = s.heap := by rw [B.state]; rfl
    have hsz : scr.slots.size = xs.length := by rw [← Array.length_toList, hlist, List.length_map]
    have hval : ∀ j : Nat, j < xs.length → scr.slots[j]? = some (.int (xs.getD j 0)) := fun j hj => by
      rw [← Array.getElem?_toList, hlist]
      simp [hj]
    have hbl : b < s.heap.size := (Array.getElem?_eq_some_iff.mp hcb).1
    have hX : va_X b xs.length (fun j => xs.getD j 0) s s.heap := ⟨scr, hcb, hof, hkn, hsz, hval⟩
    have K : W p l e room_1 s m #[Value.ref b] below meth c s₁.heap [] 0 0 (lw_Z below #[Value.ref b] s) (entryFrame m ([Value.ref b] : List Value).toArray 4) := by
      rw [hh0]
      exact whole_start l hbd ⟨B.exec, B.bytes, B.returns, hml, hown, hts, hX, hbl, B.notSynchronized, hgv⟩
    obtain ⟨t, a1, o, b1, b2, b3⟩ := K s₁ rfl X₀
    exact ⟨t, o, a1, b1, b2, b3⟩
theorem lw_pre_spec {args : Array Value} {s : State} (h : (Jvm.Cond.and given_1 narrow_1).before args s = true) (hr : rest_1_c.before args s = true) : ∃ (b : Addr) (xs : List Int32), lw_P b xs args s := by
  have hs := flat_of_before _ h
  have hq := flat_of_before _ hr
  have hc : (Cond.count 1).before args s = true := hs _ (by decide +kernel)
  have harr : (Cond.arrayOf (.arg 0) .int).before args s = true := hs _ (by decide +kernel)
  have hle : (Cond.le (.length (.arg 0)) (.int 448)).before args s = true := hs _ (by decide +kernel)
  have hlen : (Cond.isInt (.length (.arg 0))).before args s = true := hq _ (by decide +kernel)
  have hall : (Cond.all (.arg 0) (.isInt (.elem (.arg 0) (.index 0)))).before args s = true := hq _ (by decide +kernel)
  obtain ⟨b, xs, hb, hx⟩ := State.ints_of_pre rfl harr hlen hall
  have hsm : xs.length < 2 ^ 31 := hx.choose_spec.2.2.2
  have hev : (Term.length (.arg 0)).eval args s none [] s = some (.int xs.length.toInt32) := hx.length_eval hb
  have hv := Cond.le_ints hev (show (Term.int 448).eval args s none [] s = some (.int 448) from rfl)
  have hd : xs.length.toInt32 ≤ 448 := by
    simpa [Cond.before, Cond.holds, hv] using hle
  have hN : xs.length ≤ 448 := (Int32.ofNat_le_ofNat hsm (by decide)).mp (show Int32.ofNat xs.length ≤ Int32.ofNat 448 from hd)
  exact ⟨b, xs, Cond.one_arg hc (show args[0]? = some (.ref b) from hb), hx, hN, h⟩
theorem lw_comes (l : Launch) : Comes l x (Jvm.Cond.code x code maxLocals ret :: tables_1) room_1 (fun tb e args s => Calls_1 tb e args s ∧ rest_1 tb e args s ∧ Pre_1 tb e args s)
    (fun _ _ args s o t => lw_Q args s o t) := by
  intro p e ha hc hk s m args below hf hfit hheap happ hpre
  obtain ⟨b, xs, hP⟩ := lw_pre_spec hpre.2.2 hpre.2.1
  obtain ⟨k, o, h1, h2, h3, hQ⟩ := lw_walk l b xs p e ha hc hk s m args below hf ((Spec.applies_iff_loose hf).mp happ).1 hP trivial
  exact ⟨k, o, h1, h2, h3, hQ⟩
theorem lw_frame {s t : State} {o : Outcome} {args : Array Value} (h : Framed s o t [] 600000 7302250) :
    Framed s o t (fieldLocs frame_1_writes args s ++ arrayLocs frame_1_arrays args s ++ staticLocs frame_1_statics s) 600000 7302250 := h
theorem lw_limb (L : Cond) (hL : ∀ (args : Array Value) (s t : State), L.after args s (.returned (some (.int 1))) t = true) :
    ArmFor flags0 classFile x code maxLocals ret World_1 tables_1 room_1 Calls_1 rest_1 Pre_1
      (fun tb e a s o t => postC L tb e a s o t ∧ Framed s o t (fieldLocs frame_1_writes a s ++ arrayLocs frame_1_arrays a s ++ staticLocs frame_1_statics s) 600000 7302250) := by
  intro l _ _ _ p e ha hc hk s m args below hf hfit hheap happ hpre
  obtain ⟨k, o, h1, h2, h3, rfl, hF⟩ := lw_comes l p e ha hc hk s m args below hf hfit hheap happ hpre
  exact ⟨k, _, h1, h2, h3, hL args s _, lw_frame hF⟩
theorem i_vc : Claimed_1_1 ∧ Claimed_1_2 := ⟨lw_limb limb_1_1 (fun args s t => by simp [limb_1_1, Cond.after, Cond.holds, Cond.value]), lw_limb limb_1_2 (fun args s t => Cond.after_iff.mpr (by
  first | (rw [show limb_1_2 = Cond.eq .result (.int 1) from rfl, Cond.eq_ints (x := 1) (y := 1) rfl rfl]; simp; done) | (simp [limb_1_2, Cond.value, Term.eval]; done)))⟩
