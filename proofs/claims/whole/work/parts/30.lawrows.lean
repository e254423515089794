/-! THE CLAIM OUT OF ONE WALK OF THE LAW'S BODY. Your part is whole_start (and what it stands on); all else here is the same for every law, but numbers. -/
def R_law : String := "PaperBoxesLaw"
def lw_P (b : Addr) (xs : List Int32) (args : Array Value) (s : State) : Prop := args = #[.ref b] ∧ s.IntsAt b xs ∧ xs.length ≤ 448 ∧ (Jvm.Cond.and given_1 narrow_1).before args s = true
def lw_Q (_ : Array Value) (s : State) (o : Outcome) (t : State) : Prop := o = .returned (some (.int 1)) ∧ Framed s o t [] 600000 7302250
def lw_Z (below : List Frame) (a : Array Value) (s : State) : State → Prop := fun t => ∃ o, t.status = .running ∧ Ended t below o ∧ lw_Q a s o t
/-- the law's own end, with 1 on the stack, nothing written that was there before, its room as the claim has it -/
theorem lw_ret {p : Program} {l : Launch} {e : Env} {s : State} {m : MethodId} {below : List Frame} {meth : Method} {c : Code} {b : Nat} (hx : p.tables.exec = Jvm.exec) (hb : c.code = code) (hr : meth.sig.returnType = ret) (hlocks : meth.locks = false) {pc : Nat} {H : Heap} {ls : Array Slot} (hdg : decode code pc = .ok (.ireturn, 1)) : W p l e room_1 s m #[Value.ref b] below meth c H [] 600000 7302250 (lw_Z below #[Value.ref b] s) (F0 m pc ls [.int 1]) := by
  intro T hT X
  obtain ⟨fs, hret, hrun, hended, hW, hframe⟩ := X.leave (v := some (.int 1)) (hlocks := hlocks) (fun h => by rw [hr] at h; cases h)
  have hmeth' : T.vm.method? m = some meth := X.method'
  refine ⟨T.setFrames fs, ?_, .returned (some (.int 1)), hrun, hended, rfl, ⟨_, rfl⟩, hW, hframe⟩
  jvm_step X.here [X.here.top, hx, hb, hdg, hmeth', hr, ret, narrow_b1]
  (try refine ⟨rfl, ?_⟩); (try refine ⟨rfl, ?_⟩)
  first | (intro acts; rw [hret _ acts rfl rfl rfl]) | rw [hret _ _ rfl rfl rfl]
  exact Steps.refl _
/-- what holds at the law's entry: the machine, the code, the tables' words (any of lw_tbl by 'hts w (by decide +kernel)'), the script of L ints xs at the cell b, what the Statement gives of the start (any of its parts by flat_of_before) -/
def lw_At (p : Program) (s : State) (m : MethodId) (meth : Method) (c : Code) (b L : Nat) (xs : Nat → Int32) : Prop :=
  p.tables.exec = Jvm.exec ∧ c.code = code ∧ meth.sig.returnType = ret ∧ c.maxLocals = 4 ∧ s.vm.findClass R_law = some m.cls ∧ (∀ w ∈ lw_tbl, w.before #[Value.ref b] s = true) ∧ va_X b L xs s s.heap ∧ b < s.heap.size ∧ meth.locks = false ∧ (Jvm.Cond.and given_1 narrow_1).before #[Value.ref b] s = true

def lw_Zf : List Frame → Array Value → State → State → Prop := fun below args s => lw_Z below args s
section MvLaw
variable {G : mv_G} {M : mv_M} {Zf : List Frame → Array Value → State → State → Prop} {cells slots pc pc' tgt : Nat} {lv lv' st : List Value} {sh sh' : mv_S} {h : mv_H}
theorem lw_fin (hd : mv_dc mL_law.2.1 pc .ireturn 1 pc') (hc : cells ≤ 600000) (hsl : slots ≤ 7302250) : mv_MW G mL_law room_1 lw_Zf cells slots pc lv [.int 1] sh h := by
  intro p e s m args below meth c C H locs ls hw hS hl
  obtain ⟨hx, hb, hr, hml, hown, hts, hlk, hin, hK, hX, hbs⟩ := C
  have hsz : s.heap.size = mv_b G := hin.2 rfl
  have hr : meth.sig.returnType = ret := hr
  have hb : c.code = code := hb
  have hdg : decode code pc = .ok (.ireturn, 1) := hd.1
  refine va_forget (fun q hq => by rw [hsz]; exact hS.2.2 q hq) ?_
  refine W.widen (k := 600000) (n := 7302250) hc hsl ?_
  show W p (mv_l G) e room_1 s m args below meth c H [] 600000 7302250 (lw_Z below args s) (F0 m pc ls [.int 1])
  intro T hT X
  obtain ⟨fs, hret, hrun, hended, hW, hframe⟩ := X.leave (v := some (.int 1)) (hlocks := hlk) (fun h => by rw [hr] at h; cases h)
  have hmeth' : T.vm.method? m = some meth := X.method'
  refine ⟨T.setFrames fs, ?_, .returned (some (.int 1)), hrun, hended, rfl, ⟨_, rfl⟩, hW, hframe⟩
  jvm_step X.here [X.here.top, hx, hb, hdg, hmeth', hr, ret, narrow_b1]
  (try refine ⟨rfl, ?_⟩); (try refine ⟨rfl, ?_⟩)
  first | (intro acts; rw [hret _ acts rfl rfl rfl]) | rw [hret _ _ rfl rfl rfl]
  exact Steps.refl _
theorem mv_lV {d idx o ci n : Nat} {M' : mv_M} {as : List Value} {Q' : Option Value → mv_S → mv_H → Prop} {st0 : List Value} {fl : List (Option (Option Nat))} {T : u_T} {N : Nat}
    (hd : mv_dc M.2.1 pc (.invokevirtual idx) 3 pc') (hk : mv_kV M.1.cls idx M' n) (hM : mv_met G d M' (.ref o :: as) sh h Q') (ho : sh[o]? = some (.inr (ci, fl))) (hci : vwCl[ci]? = some (M'.1.cls, T, N)) (hst : st0 = as.reverse ++ .ref o :: st) (hn : as.length = n) (hc : (st.map Value.category).sum ≤ 8)
    (hR : d + 1 ≤ 1000) (hz : M'.2.2.2.2 = (0, 0)) (hroom : cells ≤ 1000 ∧ slots ≤ 100000)
    (k : ∀ r sh' h', Q' r sh' h' → mv_MW G M room_1 Zf cells slots pc' lv (r.toList ++ st) sh' h') : mv_MW G M room_1 Zf cells slots pc lv st0 sh h := by
  refine mv_invV hd hk hM ho hci hst hn hc ⟨by show d + 1 ≤ 2048; omega, by show 64 * (d + 1) ≤ 84000; omega⟩ ?_ ?_
  · rw [hz]; exact ⟨Nat.le_trans hroom.1 (Nat.le_of_ble_eq_true rfl), Nat.le_trans hroom.2 (Nat.le_of_ble_eq_true rfl)⟩
  · rw [hz]; exact k
theorem mv_lI {d idx o n c' s' : Nat} {M' : mv_M} {as : List Value} {Q' : Option Value → mv_S → mv_H → Prop} {st0 : List Value}
    (hd : mv_dc M.2.1 pc (.invokespecial idx) 3 pc') (hk : mv_kI M.1.cls idx M' n) (hret : M'.2.2.2.1 = none) (hM : mv_met G d M' (.ref o :: as) sh h Q') (hst : st0 = as.reverse ++ .ref o :: st) (hn : as.length = n) (hc : (st.map Value.category).sum ≤ 8)
    (hR : d + 1 ≤ 1000) (hc1 : cells + M'.2.2.2.2.1 = c') (hs1 : slots + M'.2.2.2.2.2 = s') (hroom : c' ≤ 1000 ∧ s' ≤ 100000)
    (k : ∀ r sh' h', Q' r sh' h' → mv_MW G M room_1 Zf c' s' pc' lv (r.toList ++ st) sh' h') : mv_MW G M room_1 Zf cells slots pc lv st0 sh h := by
  subst hc1
  subst hs1
  exact mv_invI hd hk hret hM hst hn hc ⟨by show d + 1 ≤ 2048; omega, by show 64 * (d + 1) ≤ 84000; omega⟩ ⟨Nat.le_trans hroom.1 (Nat.le_of_ble_eq_true rfl), Nat.le_trans hroom.2 (Nat.le_of_ble_eq_true rfl)⟩ k
end MvLaw
