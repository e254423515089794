/-! printed by program: what a method does, as a function, and that it does it -/
noncomputable def fX10_shortBy_55_b86 (v3 : Int32) (v5 : Int32) (s0 : Int32) (h : mv_H) : Option (Int32 × mv_H) := if mv_in v3 3 then ((fX10_above ((h 65 v3.toNatClampNeg) - v5)).bind fun r509 => if mv_in v3 3 then ((fX10_above ((h 66 v3.toNatClampNeg) - s0)).bind fun r510 => some (r509 + r510, h)) else none) else none
set_option maxRecDepth 100000 in
set_option maxHeartbeats 4000000 in
theorem BX10_shortBy_55_b86 (G : mv_G) (d D : Nat) (hD : d + 1 ≤ D) (P : Int32 × mv_H → Prop) (v3 : Int32) (v5 : Int32) (s0 : Int32) (h : mv_H) (hs : mv_sat (fX10_shortBy_55_b86 v3 v5 s0 h) P) : mv_MW G mX10_shortBy (mv_rm D mX10_shortBy) (mv_Zf G mX10_shortBy (mv_qI mv_SH P)) 0 0 86 [.ref 55, .float 0, .float 0, .int v3, .float 0, .int v5, .float 0] [.int s0] mv_SH h := by
  unfold fX10_shortBy_55_b86 at hs
  refine mv_istore (lv' := [.ref 55, .float 0, .float 0, .int v3, .float 0, .int v5, .int s0]) dX10_shortBy_86 (Nat.le_of_ble_eq_true rfl) rfl rfl ?_
  refine mv_aload_n dX10_shortBy_88 rfl ?_
  refine mv_getr dX10_shortBy_89 kf_X10_37 gf_55_23 ?_
  refine mv_iload_n dX10_shortBy_92 rfl ?_
  refine mv_iaload dX10_shortBy_93 so_65 hs (fun hs => ?_)
  refine mv_iload dX10_shortBy_94 rfl ?_
  refine mv_isub dX10_shortBy_96 ?_
  refine mv_cS (st := []) dX10_shortBy_97 kk_X10_225 (TX10_above G d _ _ _ (mv_sat_bind hs)) rfl rfl (Nat.le_of_ble_eq_true rfl) (by omega) rfl ⟨Nat.zero_le _, Nat.zero_le _⟩ (mv_ki fun r509 hs => ?_)
  refine mv_aload_n dX10_shortBy_100 rfl ?_
  refine mv_getr dX10_shortBy_101 kf_X10_40 gf_55_24 ?_
  refine mv_iload_n dX10_shortBy_104 rfl ?_
  refine mv_iaload dX10_shortBy_105 so_66 hs (fun hs => ?_)
  refine mv_iload dX10_shortBy_106 rfl ?_
  refine mv_isub dX10_shortBy_108 ?_
  refine mv_cS (st := [.int r509]) dX10_shortBy_109 kk_X10_225 (TX10_above G d _ _ _ (mv_sat_bind hs)) rfl rfl (Nat.le_of_ble_eq_true rfl) (by omega) rfl ⟨Nat.zero_le _, Nat.zero_le _⟩ (mv_ki fun r510 hs => ?_)
  refine mv_iadd dX10_shortBy_112 ?_
  exact mv_iret dX10_shortBy_113 rfl ⟨(r509 + r510, h), rfl, rfl, rfl, mv_sat_some hs⟩
noncomputable def fX10_shortBy_55_b64 (v2 : Int32) (v3 : Int32) (v4 : Int32) (s0 : Int32) (h : mv_H) : Option (Int32 × mv_H) := if v4 = 0 then (if mv_in v2 6 then (fX10_shortBy_55_b86 v3 s0 (h 59 v2.toNatClampNeg) h) else none) else if mv_in v2 6 then (fX10_shortBy_55_b86 v3 s0 (h 58 v2.toNatClampNeg) h) else none
set_option maxRecDepth 100000 in
set_option maxHeartbeats 4000000 in
theorem BX10_shortBy_55_b64 (G : mv_G) (d D : Nat) (hD : d + 1 ≤ D) (P : Int32 × mv_H → Prop) (v2 : Int32) (v3 : Int32) (v4 : Int32) (s0 : Int32) (h : mv_H) (hs : mv_sat (fX10_shortBy_55_b64 v2 v3 v4 s0 h) P) : mv_MW G mX10_shortBy (mv_rm D mX10_shortBy) (mv_Zf G mX10_shortBy (mv_qI mv_SH P)) 0 0 64 [.ref 55, .float 0, .int v2, .int v3, .int v4, .float 0, .float 0] [.int s0] mv_SH h := by
  unfold fX10_shortBy_55_b64 at hs
  refine mv_istore (lv' := [.ref 55, .float 0, .int v2, .int v3, .int v4, .int s0, .float 0]) dX10_shortBy_64 (Nat.le_of_ble_eq_true rfl) rfl rfl ?_
  refine mv_iload dX10_shortBy_66 rfl ?_
  refine mv_if_ne dX10_shortBy_68 hs (fun _ hs => ?_) (fun _ hs => ?_)
  · refine mv_aload_n dX10_shortBy_71 rfl ?_
    refine mv_getr dX10_shortBy_72 kf_X10_19 gf_55_6 ?_
    refine mv_iload_n dX10_shortBy_75 rfl ?_
    refine mv_iaload dX10_shortBy_76 so_59 hs (fun hs => ?_)
    refine mv_goto dX10_shortBy_77 ?_
    exact mv_weak (lv' := [.ref 55, .float 0, .float 0, .int v3, .float 0, .int s0, .float 0]) (mv_s (mv_s (mv_k (mv_s (mv_k (mv_s (mv_s mv_n))))))) (BX10_shortBy_55_b86 G d D (by omega) P _ _ _ _ hs)
  · refine mv_aload_n dX10_shortBy_80 rfl ?_
    refine mv_getr dX10_shortBy_81 kf_X10_16 gf_55_5 ?_
    refine mv_iload_n dX10_shortBy_84 rfl ?_
    refine mv_iaload dX10_shortBy_85 so_58 hs (fun hs => ?_)
    exact mv_weak (lv' := [.ref 55, .float 0, .float 0, .int v3, .float 0, .int s0, .float 0]) (mv_s (mv_s (mv_k (mv_s (mv_k (mv_s (mv_s mv_n))))))) (BX10_shortBy_55_b86 G d D (by omega) P _ _ _ _ hs)
noncomputable def fX10_shortBy_55 (p0 : Int32) (p1 : Int32) (p2 : Int32) (p3 : Int32) (h : mv_H) : Option (Int32 × mv_H) := (fX10_isBox_55 p0 h).bind fun r504 => if r504 = 0 then some ((-1), h) else (fX10_isSheet_55 p1 h).bind fun r505 => if r505 = 0 then some ((-1), h) else (fX10_isAxis p2).bind fun r506 => if r506 = 0 then some ((-1), h) else (fX10_in (Int32.toInt64 p3) (0 : Int64) (1 : Int64)).bind fun r507 => if r507 = 0 then some ((-2), h) else (fX10_look_55 p0 h).bind fun r508 => if p3 = 0 then (if mv_in p1 6 then (fX10_shortBy_55_b64 p1 p2 p3 (r508 58 p1.toNatClampNeg) r508) else none) else if mv_in p1 6 then (fX10_shortBy_55_b64 p1 p2 p3 (r508 59 p1.toNatClampNeg) r508) else none
set_option maxRecDepth 100000 in
set_option maxHeartbeats 4000000 in
theorem TX10_shortBy_55 (G : mv_G) (d : Nat) (P : Int32 × mv_H → Prop) (p0 : Int32) (p1 : Int32) (p2 : Int32) (p3 : Int32) (h : mv_H) (hs : mv_sat (fX10_shortBy_55 p0 p1 p2 p3 h) P) : mv_met G (d + 3) mX10_shortBy [.ref 55, .int p0, .int p1, .int p2, .int p3] mv_SH h (mv_qI mv_SH P) := by
  unfold fX10_shortBy_55 at hs
  obtain ⟨D, hDe⟩ : ∃ D, D = d + 3 := ⟨_, rfl⟩
  rw [← hDe]
  have hD : d + 3 ≤ D := by omega
  refine mv_enter (lv := [.ref 55, .int p0, .int p1, .int p2, .int p3, .float 0, .float 0]) 2 (by decide) (by decide +kernel) rfl (Nat.le_of_ble_eq_true rfl) ?_
  refine mv_aload_n dX10_shortBy_0 rfl ?_
  refine mv_iload_n dX10_shortBy_1 rfl ?_
  refine mv_cV (st := []) dX10_shortBy_2 kk_X10_146 (TX10_isBox_55 G d _ _ _ (mv_sat_bind hs)) so_55 vc_10 rfl rfl (Nat.le_of_ble_eq_true rfl) (by omega) rfl ⟨Nat.zero_le _, Nat.zero_le _⟩ (mv_ki fun r504 hs => ?_)
  refine mv_if_eq dX10_shortBy_5 hs (fun _ hs => ?_) (fun _ hs => ?_)
  · refine mv_iconst (-1) dX10_shortBy_23 (by decide) ?_
    exact mv_iret dX10_shortBy_24 rfl ⟨((-1), h), rfl, rfl, rfl, mv_sat_some hs⟩
  · refine mv_aload_n dX10_shortBy_8 rfl ?_
    refine mv_iload_n dX10_shortBy_9 rfl ?_
    refine mv_cV (st := []) dX10_shortBy_10 kk_X10_152 (TX10_isSheet_55 G d _ _ _ (mv_sat_bind hs)) so_55 vc_10 rfl rfl (Nat.le_of_ble_eq_true rfl) (by omega) rfl ⟨Nat.zero_le _, Nat.zero_le _⟩ (mv_ki fun r505 hs => ?_)
    refine mv_if_eq dX10_shortBy_13 hs (fun _ hs => ?_) (fun _ hs => ?_)
    · refine mv_iconst (-1) dX10_shortBy_23 (by decide) ?_
      exact mv_iret dX10_shortBy_24 rfl ⟨((-1), h), rfl, rfl, rfl, mv_sat_some hs⟩
    · refine mv_iload_n dX10_shortBy_16 rfl ?_
      refine mv_cS (st := []) dX10_shortBy_17 kk_X10_206 (TX10_isAxis G d _ _ _ (mv_sat_bind hs)) rfl rfl (Nat.le_of_ble_eq_true rfl) (by omega) rfl ⟨Nat.zero_le _, Nat.zero_le _⟩ (mv_ki fun r506 hs => ?_)
      refine mv_if_ne dX10_shortBy_20 hs (fun _ hs => ?_) (fun _ hs => ?_)
      · refine mv_iconst (-1) dX10_shortBy_23 (by decide) ?_
        exact mv_iret dX10_shortBy_24 rfl ⟨((-1), h), rfl, rfl, rfl, mv_sat_some hs⟩
      · refine mv_iload dX10_shortBy_25 rfl ?_
        refine mv_i2l dX10_shortBy_27 ?_
        refine mv_lconst 0 dX10_shortBy_28 rfl ?_
        refine mv_lconst 1 dX10_shortBy_29 rfl ?_
        refine mv_cS (st := []) dX10_shortBy_30 kk_X10_104 (TX10_in G d _ _ _ _ _ (mv_sat_bind hs)) rfl rfl (Nat.le_of_ble_eq_true rfl) (by omega) rfl ⟨Nat.zero_le _, Nat.zero_le _⟩ (mv_ki fun r507 hs => ?_)
        refine mv_if_ne dX10_shortBy_33 hs (fun _ hs => ?_) (fun _ hs => ?_)
        · refine mv_bipush (-2) dX10_shortBy_36 (by decide) ?_
          exact mv_iret dX10_shortBy_38 rfl ⟨((-2), h), rfl, rfl, rfl, mv_sat_some hs⟩
        · refine mv_aload_n dX10_shortBy_39 rfl ?_
          refine mv_iload_n dX10_shortBy_40 rfl ?_
          refine mv_cV (st := []) dX10_shortBy_41 kk_X10_209 (TX10_look_55 G d _ _ _ (mv_sat_bind hs)) so_55 vc_10 rfl rfl (Nat.le_of_ble_eq_true rfl) (by omega) rfl ⟨Nat.zero_le _, Nat.zero_le _⟩ (mv_kv fun r508 hs => ?_)
          refine mv_iload dX10_shortBy_44 rfl ?_
          refine mv_if_ne dX10_shortBy_46 hs (fun _ hs => ?_) (fun _ hs => ?_)
          · refine mv_aload_n dX10_shortBy_49 rfl ?_
            refine mv_getr dX10_shortBy_50 kf_X10_16 gf_55_5 ?_
            refine mv_iload_n dX10_shortBy_53 rfl ?_
            refine mv_iaload dX10_shortBy_54 so_58 hs (fun hs => ?_)
            refine mv_goto dX10_shortBy_55 ?_
            exact mv_weak (lv' := [.ref 55, .float 0, .int p1, .int p2, .int p3, .float 0, .float 0]) (mv_s (mv_k (mv_s (mv_s (mv_s (mv_s (mv_s mv_n))))))) (BX10_shortBy_55_b64 G d D (by omega) P _ _ _ _ _ hs)
          · refine mv_aload_n dX10_shortBy_58 rfl ?_
            refine mv_getr dX10_shortBy_59 kf_X10_19 gf_55_6 ?_
            refine mv_iload_n dX10_shortBy_62 rfl ?_
            refine mv_iaload dX10_shortBy_63 so_59 hs (fun hs => ?_)
            exact mv_weak (lv' := [.ref 55, .float 0, .int p1, .int p2, .int p3, .float 0, .float 0]) (mv_s (mv_k (mv_s (mv_s (mv_s (mv_s (mv_s mv_n))))))) (BX10_shortBy_55_b64 G d D (by omega) P _ _ _ _ _ hs)
noncomputable def fX9_rootBelow_b23 (k6 : Int32 → Int32 → Int32 → Option (Int32)) (v0 : Int32) (v1 : Int32) (v2 : Int32) : Option (Int32) := mv_let (v2 >>> (1 &&& 31)) fun x520 : Int32 => k6 v0 v1 x520
set_option maxRecDepth 100000 in
set_option maxHeartbeats 4000000 in
theorem BX9_rootBelow_b23 (G : mv_G) (d D : Nat) (hD : d + 0 ≤ D) (P : Int32 → Prop) (k6 : Int32 → Int32 → Int32 → Option (Int32)) (h : mv_H) (hk6 : ∀ (v0 : Int32) (v1 : Int32) (v2 : Int32), mv_sat (k6 v0 v1 v2) P → mv_MW G mX9_rootBelow (mv_rm D mX9_rootBelow) (mv_Zf G mX9_rootBelow (mv_qi mv_SH h P)) 0 0 6 [.int v0, .int v1, .int v2, .float 0] [] mv_SH h) (v0 : Int32) (v1 : Int32) (v2 : Int32) (hs : mv_sat (fX9_rootBelow_b23 k6 v0 v1 v2) P) : mv_MW G mX9_rootBelow (mv_rm D mX9_rootBelow) (mv_Zf G mX9_rootBelow (mv_qi mv_SH h P)) 0 0 23 [.int v0, .int v1, .int v2, .float 0] [] mv_SH h := by
  unfold fX9_rootBelow_b23 at hs
  refine mv_iload_n dX9_rootBelow_23 rfl ?_
  refine mv_iconst 1 dX9_rootBelow_24 (by decide) ?_
  refine mv_ishr dX9_rootBelow_25 ?_
  refine mv_name hs (fun x520 hs => ?_)
  refine mv_istore_n (lv' := [.int v0, .int v1, .int x520, .float 0]) dX9_rootBelow_26 (Nat.le_of_ble_eq_true rfl) rfl rfl ?_
  refine mv_goto dX9_rootBelow_27 ?_
  exact (hk6 _ _ _ hs)
noncomputable def fX9_rootBelow_b6 : Nat → Int32 → Int32 → Int32 → Option (Int32)
  | 0, _, _, _ => none
  | n + 1, v0, v1, v2 => if 0 < v2 then (mv_let (v1 + v2) fun x519 : Int32 => if v0 < (x519 * x519) then fX9_rootBelow_b23 (fX9_rootBelow_b6 n) v0 v1 v2 else fX9_rootBelow_b23 (fX9_rootBelow_b6 n) v0 x519 v2) else some v1
set_option maxRecDepth 100000 in
set_option maxHeartbeats 4000000 in
theorem BX9_rootBelow_b6 (G : mv_G) (d D : Nat) (hD : d + 0 ≤ D) (P : Int32 → Prop) (h : mv_H) : ∀ (n : Nat) (v0 : Int32) (v1 : Int32) (v2 : Int32), mv_sat (fX9_rootBelow_b6 n v0 v1 v2) P → mv_MW G mX9_rootBelow (mv_rm D mX9_rootBelow) (mv_Zf G mX9_rootBelow (mv_qi mv_SH h P)) 0 0 6 [.int v0, .int v1, .int v2, .float 0] [] mv_SH h := by
  intro n
  induction n with
  | zero =>
    intro v0 v1 v2 hs
    unfold fX9_rootBelow_b6 at hs
    exact (mv_sat_none hs).elim
  | succ n ih =>
    intro v0 v1 v2 hs
    unfold fX9_rootBelow_b6 at hs
    refine mv_iload_n dX9_rootBelow_6 rfl ?_
    refine mv_if_le dX9_rootBelow_7 hs (fun _ hs => ?_) (fun _ hs => ?_)
    · refine mv_iload_n dX9_rootBelow_10 rfl ?_
      refine mv_iload_n dX9_rootBelow_11 rfl ?_
      refine mv_iadd dX9_rootBelow_12 ?_
      refine mv_name hs (fun x519 hs => ?_)
      refine mv_istore_n (lv' := [.int v0, .int v1, .int v2, .int x519]) dX9_rootBelow_13 (Nat.le_of_ble_eq_true rfl) rfl rfl ?_
      refine mv_iload_n dX9_rootBelow_14 rfl ?_
      refine mv_iload_n dX9_rootBelow_15 rfl ?_
      refine mv_imul dX9_rootBelow_16 ?_
      refine mv_iload_n dX9_rootBelow_17 rfl ?_
      refine mv_icmp_gt dX9_rootBelow_18 hs (fun _ hs => ?_) (fun _ hs => ?_)
      · exact mv_weak (lv' := [.int v0, .int v1, .int v2, .float 0]) (mv_s (mv_s (mv_s (mv_k mv_n)))) (BX9_rootBelow_b23 G d D (by omega) P _ _ ih _ _ _ hs)
      · refine mv_iload_n dX9_rootBelow_21 rfl ?_
        refine mv_istore_n (lv' := [.int v0, .int x519, .int v2, .int x519]) dX9_rootBelow_22 (Nat.le_of_ble_eq_true rfl) rfl rfl ?_
        exact mv_weak (lv' := [.int v0, .int x519, .int v2, .float 0]) (mv_s (mv_s (mv_s (mv_k mv_n)))) (BX9_rootBelow_b23 G d D (by omega) P _ _ ih _ _ _ hs)
    · refine mv_iload_n dX9_rootBelow_30 rfl ?_
      exact mv_iret dX9_rootBelow_31 rfl ⟨_, rfl, rfl, rfl, mv_sat_some hs⟩
noncomputable def fX9_rootBelow (p0 : Int32) : Option (Int32) := fX9_rootBelow_b6 mv_F p0 0 16384
set_option maxRecDepth 100000 in
set_option maxHeartbeats 4000000 in
theorem TX9_rootBelow (G : mv_G) (d : Nat) (P : Int32 → Prop) (p0 : Int32) (h : mv_H) (hs : mv_sat (fX9_rootBelow p0) P) : mv_met G (d + 0) mX9_rootBelow [.int p0] mv_SH h (mv_qi mv_SH h P) := by
  unfold fX9_rootBelow at hs
  obtain ⟨D, hDe⟩ : ∃ D, D = d + 0 := ⟨_, rfl⟩
  rw [← hDe]
  have hD : d + 0 ≤ D := by omega
  refine mv_enter (lv := [.int p0, .float 0, .float 0, .float 0]) 3 (by decide) (by decide +kernel) rfl (Nat.le_of_ble_eq_true rfl) ?_
  refine mv_iconst 0 dX9_rootBelow_0 (by decide) ?_
  refine mv_istore_n (lv' := [.int p0, .int 0, .float 0, .float 0]) dX9_rootBelow_1 (Nat.le_of_ble_eq_true rfl) rfl rfl ?_
  refine mv_sipush 16384 dX9_rootBelow_2 (by decide) ?_
  refine mv_istore_n (lv' := [.int p0, .int 0, .int 16384, .float 0]) dX9_rootBelow_5 (Nat.le_of_ble_eq_true rfl) rfl rfl ?_
  exact (BX9_rootBelow_b6 G d D (by omega) P _ _ _ _ _ hs)
noncomputable def fX9_rootAbove (p0 : Int32) : Option (Int32) := (fX9_rootBelow p0).bind fun r521 => if (r521 * r521) < p0 then some (r521 + 1) else some r521
set_option maxRecDepth 100000 in
set_option maxHeartbeats 4000000 in
theorem TX9_rootAbove (G : mv_G) (d : Nat) (P : Int32 → Prop) (p0 : Int32) (h : mv_H) (hs : mv_sat (fX9_rootAbove p0) P) : mv_met G (d + 1) mX9_rootAbove [.int p0] mv_SH h (mv_qi mv_SH h P) := by
  unfold fX9_rootAbove at hs
  obtain ⟨D, hDe⟩ : ∃ D, D = d + 1 := ⟨_, rfl⟩
  rw [← hDe]
  have hD : d + 1 ≤ D := by omega
  refine mv_enter (lv := [.int p0, .float 0]) 1 (by decide) (by decide +kernel) rfl (Nat.le_of_ble_eq_true rfl) ?_
  refine mv_iload_n dX9_rootAbove_0 rfl ?_
  refine mv_cS (st := []) dX9_rootAbove_1 kk_X9_278 (TX9_rootBelow G d _ _ _ (mv_sat_bind hs)) rfl rfl (Nat.le_of_ble_eq_true rfl) (by omega) rfl ⟨Nat.zero_le _, Nat.zero_le _⟩ (mv_ki fun r521 hs => ?_)
  refine mv_istore_n (lv' := [.int p0, .int r521]) dX9_rootAbove_4 (Nat.le_of_ble_eq_true rfl) rfl rfl ?_
  refine mv_iload_n dX9_rootAbove_5 rfl ?_
  refine mv_iload_n dX9_rootAbove_6 rfl ?_
  refine mv_imul dX9_rootAbove_7 ?_
  refine mv_iload_n dX9_rootAbove_8 rfl ?_
  refine mv_icmp_ge dX9_rootAbove_9 hs (fun _ hs => ?_) (fun _ hs => ?_)
  · refine mv_iload_n dX9_rootAbove_12 rfl ?_
    refine mv_iconst 1 dX9_rootAbove_13 (by decide) ?_
    refine mv_iadd dX9_rootAbove_14 ?_
    refine mv_goto dX9_rootAbove_15 ?_
    exact mv_iret dX9_rootAbove_19 rfl ⟨_, rfl, rfl, rfl, mv_sat_some hs⟩
  · refine mv_iload_n dX9_rootAbove_18 rfl ?_
    exact mv_iret dX9_rootAbove_19 rfl ⟨_, rfl, rfl, rfl, mv_sat_some hs⟩
noncomputable def fX8_squareFor_38 (p0 : Int32) (h : mv_H) : Option (Int32) := (fX8_u_38 p0 h).bind fun r514 => (fX8_v_38 p0 h).bind fun r515 => if r514 = r515 then ((fX8_u_38 p0 h).bind fun r516 => (fX8_along_38 p0 h).bind fun r517 => mv_let (r516 + r517) fun x518 : Int32 => (fX9_rootAbove ((2 * x518) * x518)).bind fun r522 => some r522) else some (-6)
set_option maxRecDepth 100000 in
set_option maxHeartbeats 4000000 in
theorem TX8_squareFor_38 (G : mv_G) (d : Nat) (P : Int32 → Prop) (p0 : Int32) (h : mv_H) (hs : mv_sat (fX8_squareFor_38 p0 h) P) : mv_met G (d + 2) mX8_squareFor [.ref 38, .int p0] mv_SH h (mv_qi mv_SH h P) := by
  unfold fX8_squareFor_38 at hs
  obtain ⟨D, hDe⟩ : ∃ D, D = d + 2 := ⟨_, rfl⟩
  rw [← hDe]
  have hD : d + 2 ≤ D := by omega
  refine mv_enter (lv := [.ref 38, .int p0, .float 0]) 1 (by decide) (by decide +kernel) rfl (Nat.le_of_ble_eq_true rfl) ?_
  refine mv_aload_n dX8_squareFor_0 rfl ?_
  refine mv_iload_n dX8_squareFor_1 rfl ?_
  refine mv_cV (st := []) dX8_squareFor_2 kk_X8_27 (TX8_u_38 G d _ _ _ (mv_sat_bind hs)) so_38 vc_8 rfl rfl (Nat.le_of_ble_eq_true rfl) (by omega) rfl ⟨Nat.zero_le _, Nat.zero_le _⟩ (mv_ki fun r514 hs => ?_)
  refine mv_aload_n dX8_squareFor_5 rfl ?_
  refine mv_iload_n dX8_squareFor_6 rfl ?_
  refine mv_cV (st := [.int r514]) dX8_squareFor_7 kk_X8_31 (TX8_v_38 G d _ _ _ (mv_sat_bind hs)) so_38 vc_8 rfl rfl (Nat.le_of_ble_eq_true rfl) (by omega) rfl ⟨Nat.zero_le _, Nat.zero_le _⟩ (mv_ki fun r515 hs => ?_)
  refine mv_icmp_eq dX8_squareFor_10 hs (fun _ hs => ?_) (fun _ hs => ?_)
  · refine mv_aload_n dX8_squareFor_16 rfl ?_
    refine mv_iload_n dX8_squareFor_17 rfl ?_
    refine mv_cV (st := []) dX8_squareFor_18 kk_X8_27 (TX8_u_38 G d _ _ _ (mv_sat_bind hs)) so_38 vc_8 rfl rfl (Nat.le_of_ble_eq_true rfl) (by omega) rfl ⟨Nat.zero_le _, Nat.zero_le _⟩ (mv_ki fun r516 hs => ?_)
    refine mv_aload_n dX8_squareFor_21 rfl ?_
    refine mv_iload_n dX8_squareFor_22 rfl ?_
    refine mv_cV (st := [.int r516]) dX8_squareFor_23 kk_X8_34 (TX8_along_38 G d _ _ _ (mv_sat_bind hs)) so_38 vc_8 rfl rfl (Nat.le_of_ble_eq_true rfl) (by omega) rfl ⟨Nat.zero_le _, Nat.zero_le _⟩ (mv_ki fun r517 hs => ?_)
    refine mv_iadd dX8_squareFor_26 ?_
    refine mv_name hs (fun x518 hs => ?_)
    refine mv_istore_n (lv' := [.ref 38, .int p0, .int x518]) dX8_squareFor_27 (Nat.le_of_ble_eq_true rfl) rfl rfl ?_
    refine mv_iconst 2 dX8_squareFor_28 (by decide) ?_
    refine mv_iload_n dX8_squareFor_29 rfl ?_
    refine mv_imul dX8_squareFor_30 ?_
    refine mv_iload_n dX8_squareFor_31 rfl ?_
    refine mv_imul dX8_squareFor_32 ?_
    refine mv_cS (st := []) dX8_squareFor_33 kk_X8_75 (TX9_rootAbove G d _ _ _ (mv_sat_bind hs)) rfl rfl (Nat.le_of_ble_eq_true rfl) (by omega) rfl ⟨Nat.zero_le _, Nat.zero_le _⟩ (mv_ki fun r522 hs => ?_)
    exact mv_iret dX8_squareFor_36 rfl ⟨_, rfl, rfl, rfl, mv_sat_some hs⟩
  · refine mv_bipush (-6) dX8_squareFor_13 (by decide) ?_
    exact mv_iret dX8_squareFor_15 rfl ⟨_, rfl, rfl, rfl, mv_sat_some hs⟩
noncomputable def fX9_slant_0 (p0 : Int32) (p1 : Int32) (h : mv_H) : Option (Int32 × mv_H) := (fX9_isBoxByAxis_0 p0 p1 h).bind fun r512 => if r512 = 0 then some ((-1), h) else (fX9_wrapOf_0 p0 h).bind fun r513 => (fX8_squareFor_38 p1 r513).bind fun r523 => some (r523, r513)
set_option maxRecDepth 100000 in
set_option maxHeartbeats 4000000 in
theorem TX9_slant_0 (G : mv_G) (d : Nat) (P : Int32 × mv_H → Prop) (p0 : Int32) (p1 : Int32) (h : mv_H) (hs : mv_sat (fX9_slant_0 p0 p1 h) P) : mv_met G (d + 3) mX9_slant [.ref 0, .int p0, .int p1] mv_SH h (mv_qI mv_SH P) := by
  unfold fX9_slant_0 at hs
  obtain ⟨D, hDe⟩ : ∃ D, D = d + 3 := ⟨_, rfl⟩
  rw [← hDe]
  have hD : d + 3 ≤ D := by omega
  refine mv_enter (lv := [.ref 0, .int p0, .int p1]) 0 (by decide) (by decide +kernel) rfl (Nat.le_of_ble_eq_true rfl) ?_
  refine mv_aload_n dX9_slant_0 rfl ?_
  refine mv_iload_n dX9_slant_1 rfl ?_
  refine mv_iload_n dX9_slant_2 rfl ?_
  refine mv_cV (st := []) dX9_slant_3 kk_X9_140 (TX9_isBoxByAxis_0 G d _ _ _ _ (mv_sat_bind hs)) so_0 vc_9 rfl rfl (Nat.le_of_ble_eq_true rfl) (by omega) rfl ⟨Nat.zero_le _, Nat.zero_le _⟩ (mv_ki fun r512 hs => ?_)
  refine mv_if_ne dX9_slant_6 hs (fun _ hs => ?_) (fun _ hs => ?_)
  · refine mv_iconst (-1) dX9_slant_9 (by decide) ?_
    exact mv_iret dX9_slant_10 rfl ⟨((-1), h), rfl, rfl, rfl, mv_sat_some hs⟩
  · refine mv_aload_n dX9_slant_11 rfl ?_
    refine mv_iload_n dX9_slant_12 rfl ?_
    refine mv_cV (st := []) dX9_slant_13 kk_X9_144 (TX9_wrapOf_0 G d _ _ _ (mv_sat_bind hs)) so_0 vc_9 rfl rfl (Nat.le_of_ble_eq_true rfl) (by omega) rfl ⟨Nat.zero_le _, Nat.zero_le _⟩ (mv_kc fun r513 hs => ?_)
    refine mv_iload_n dX9_slant_16 rfl ?_
    refine mv_cV (st := []) dX9_slant_17 kk_X9_189 (TX8_squareFor_38 G d _ _ _ (mv_sat_bind hs)) so_38 vc_8 rfl rfl (Nat.le_of_ble_eq_true rfl) (by omega) rfl ⟨Nat.zero_le _, Nat.zero_le _⟩ (mv_ki fun r523 hs => ?_)
    exact mv_iret dX9_slant_20 rfl ⟨(r523, r513), rfl, rfl, rfl, mv_sat_some hs⟩
noncomputable def fX10_rootOf_b2 : Nat → Int32 → Int32 → Option (Int32)
  | 0, _, _ => none
  | n + 1, v0, v1 => if (v1 * v1) < v0 then (fX10_rootOf_b2 n) v0 (v1 + 1) else some v1
set_option maxRecDepth 100000 in
set_option maxHeartbeats 4000000 in
theorem BX10_rootOf_b2 (G : mv_G) (d D : Nat) (hD : d + 0 ≤ D) (P : Int32 → Prop) (h : mv_H) : ∀ (n : Nat) (v0 : Int32) (v1 : Int32), mv_sat (fX10_rootOf_b2 n v0 v1) P → mv_MW G mX10_rootOf (mv_rm D mX10_rootOf) (mv_Zf G mX10_rootOf (mv_qi mv_SH h P)) 0 0 2 [.int v0, .int v1] [] mv_SH h := by
  intro n
  induction n with
  | zero =>
    intro v0 v1 hs
    unfold fX10_rootOf_b2 at hs
    exact (mv_sat_none hs).elim
  | succ n ih =>
    intro v0 v1 hs
    unfold fX10_rootOf_b2 at hs
    refine mv_iload_n dX10_rootOf_2 rfl ?_
    refine mv_iload_n dX10_rootOf_3 rfl ?_
    refine mv_imul dX10_rootOf_4 ?_
    refine mv_iload_n dX10_rootOf_5 rfl ?_
    refine mv_icmp_ge dX10_rootOf_6 hs (fun _ hs => ?_) (fun _ hs => ?_)
    · refine mv_iinc (lv' := [.int v0, .int (v1 + 1)]) 1 dX10_rootOf_9 rfl (by decide) (Nat.le_of_ble_eq_true rfl) rfl rfl ?_
      refine mv_goto dX10_rootOf_12 ?_
      exact (ih _ _ hs)
    · refine mv_iload_n dX10_rootOf_15 rfl ?_
      exact mv_iret dX10_rootOf_16 rfl ⟨_, rfl, rfl, rfl, mv_sat_some hs⟩
noncomputable def fX10_rootOf (p0 : Int32) : Option (Int32) := fX10_rootOf_b2 mv_F p0 0
set_option maxRecDepth 100000 in
set_option maxHeartbeats 4000000 in
theorem TX10_rootOf (G : mv_G) (d : Nat) (P : Int32 → Prop) (p0 : Int32) (h : mv_H) (hs : mv_sat (fX10_rootOf p0) P) : mv_met G (d + 0) mX10_rootOf [.int p0] mv_SH h (mv_qi mv_SH h P) := by
  unfold fX10_rootOf at hs
  obtain ⟨D, hDe⟩ : ∃ D, D = d + 0 := ⟨_, rfl⟩
  rw [← hDe]
  have hD : d + 0 ≤ D := by omega
  refine mv_enter (lv := [.int p0, .float 0]) 1 (by decide) (by decide +kernel) rfl (Nat.le_of_ble_eq_true rfl) ?_
  refine mv_iconst 0 dX10_rootOf_0 (by decide) ?_
  refine mv_istore_n (lv' := [.int p0, .int 0]) dX10_rootOf_1 (Nat.le_of_ble_eq_true rfl) rfl rfl ?_
  exact (BX10_rootOf_b2 G d D (by omega) P _ _ _ _ hs)
noncomputable def fX10_slantBy_55 (p0 : Int32) (h : mv_H) : Option (Int32) := if mv_in p0 3 then (if mv_in p0 3 then (mv_let ((h 67 p0.toNatClampNeg) + (h 69 p0.toNatClampNeg)) fun x528 : Int32 => if mv_in p0 3 then (if mv_in p0 3 then (if (h 67 p0.toNatClampNeg) = (h 68 p0.toNatClampNeg) then ((fX10_rootOf ((2 * x528) * x528)).bind fun r529 => some r529) else some (-6)) else none) else none) else none) else none
set_option maxRecDepth 100000 in
set_option maxHeartbeats 4000000 in
theorem TX10_slantBy_55 (G : mv_G) (d : Nat) (P : Int32 → Prop) (p0 : Int32) (h : mv_H) (hs : mv_sat (fX10_slantBy_55 p0 h) P) : mv_met G (d + 1) mX10_slantBy [.ref 55, .int p0] mv_SH h (mv_qi mv_SH h P) := by
  unfold fX10_slantBy_55 at hs
  obtain ⟨D, hDe⟩ : ∃ D, D = d + 1 := ⟨_, rfl⟩
  rw [← hDe]
  have hD : d + 1 ≤ D := by omega
  refine mv_enter (lv := [.ref 55, .int p0, .float 0]) 1 (by decide) (by decide +kernel) rfl (Nat.le_of_ble_eq_true rfl) ?_
  refine mv_aload_n dX10_slantBy_0 rfl ?_
  refine mv_getr dX10_slantBy_1 kf_X10_43 gf_55_25 ?_
  refine mv_iload_n dX10_slantBy_4 rfl ?_
  refine mv_iaload dX10_slantBy_5 so_67 hs (fun hs => ?_)
  refine mv_aload_n dX10_slantBy_6 rfl ?_
  refine mv_getr dX10_slantBy_7 kf_X10_49 gf_55_27 ?_
  refine mv_iload_n dX10_slantBy_10 rfl ?_
  refine mv_iaload dX10_slantBy_11 so_69 hs (fun hs => ?_)
  refine mv_iadd dX10_slantBy_12 ?_
  refine mv_name hs (fun x528 hs => ?_)
  refine mv_istore_n (lv' := [.ref 55, .int p0, .int x528]) dX10_slantBy_13 (Nat.le_of_ble_eq_true rfl) rfl rfl ?_
  refine mv_aload_n dX10_slantBy_14 rfl ?_
  refine mv_getr dX10_slantBy_15 kf_X10_43 gf_55_25 ?_
  refine mv_iload_n dX10_slantBy_18 rfl ?_
  refine mv_iaload dX10_slantBy_19 so_67 hs (fun hs => ?_)
  refine mv_aload_n dX10_slantBy_20 rfl ?_
  refine mv_getr dX10_slantBy_21 kf_X10_46 gf_55_26 ?_
  refine mv_iload_n dX10_slantBy_24 rfl ?_
  refine mv_iaload dX10_slantBy_25 so_68 hs (fun hs => ?_)
  refine mv_icmp_ne dX10_slantBy_26 hs (fun _ hs => ?_) (fun _ hs => ?_)
  · refine mv_iconst 2 dX10_slantBy_29 (by decide) ?_
    refine mv_iload_n dX10_slantBy_30 rfl ?_
    refine mv_imul dX10_slantBy_31 ?_
    refine mv_iload_n dX10_slantBy_32 rfl ?_
    refine mv_imul dX10_slantBy_33 ?_
    refine mv_cS (st := []) dX10_slantBy_34 kk_X10_228 (TX10_rootOf G d _ _ _ (mv_sat_bind hs)) rfl rfl (Nat.le_of_ble_eq_true rfl) (by omega) rfl ⟨Nat.zero_le _, Nat.zero_le _⟩ (mv_ki fun r529 hs => ?_)
    refine mv_goto dX10_slantBy_37 ?_
    exact mv_iret dX10_slantBy_42 rfl ⟨_, rfl, rfl, rfl, mv_sat_some hs⟩
  · refine mv_bipush (-6) dX10_slantBy_40 (by decide) ?_
    exact mv_iret dX10_slantBy_42 rfl ⟨_, rfl, rfl, rfl, mv_sat_some hs⟩
noncomputable def fX10_slant_55 (p0 : Int32) (p1 : Int32) (h : mv_H) : Option (Int32 × mv_H) := (fX10_isBox_55 p0 h).bind fun r525 => if r525 = 0 then some ((-1), h) else (fX10_isAxis p1).bind fun r526 => if r526 = 0 then some ((-1), h) else (fX10_look_55 p0 h).bind fun r527 => (fX10_slantBy_55 p1 r527).bind fun r530 => some (r530, r527)
set_option maxRecDepth 100000 in
set_option maxHeartbeats 4000000 in
theorem TX10_slant_55 (G : mv_G) (d : Nat) (P : Int32 × mv_H → Prop) (p0 : Int32) (p1 : Int32) (h : mv_H) (hs : mv_sat (fX10_slant_55 p0 p1 h) P) : mv_met G (d + 3) mX10_slant [.ref 55, .int p0, .int p1] mv_SH h (mv_qI mv_SH P) := by
  unfold fX10_slant_55 at hs
  obtain ⟨D, hDe⟩ : ∃ D, D = d + 3 := ⟨_, rfl⟩
  rw [← hDe]
  have hD : d + 3 ≤ D := by omega
  refine mv_enter (lv := [.ref 55, .int p0, .int p1]) 0 (by decide) (by decide +kernel) rfl (Nat.le_of_ble_eq_true rfl) ?_
  refine mv_aload_n dX10_slant_0 rfl ?_
  refine mv_iload_n dX10_slant_1 rfl ?_
  refine mv_cV (st := []) dX10_slant_2 kk_X10_146 (TX10_isBox_55 G d _ _ _ (mv_sat_bind hs)) so_55 vc_10 rfl rfl (Nat.le_of_ble_eq_true rfl) (by omega) rfl ⟨Nat.zero_le _, Nat.zero_le _⟩ (mv_ki fun r525 hs => ?_)
  refine mv_if_eq dX10_slant_5 hs (fun _ hs => ?_) (fun _ hs => ?_)
  · refine mv_iconst (-1) dX10_slant_15 (by decide) ?_
    exact mv_iret dX10_slant_16 rfl ⟨((-1), h), rfl, rfl, rfl, mv_sat_some hs⟩
  · refine mv_iload_n dX10_slant_8 rfl ?_
    refine mv_cS (st := []) dX10_slant_9 kk_X10_206 (TX10_isAxis G d _ _ _ (mv_sat_bind hs)) rfl rfl (Nat.le_of_ble_eq_true rfl) (by omega) rfl ⟨Nat.zero_le _, Nat.zero_le _⟩ (mv_ki fun r526 hs => ?_)
    refine mv_if_ne dX10_slant_12 hs (fun _ hs => ?_) (fun _ hs => ?_)
    · refine mv_iconst (-1) dX10_slant_15 (by decide) ?_
      exact mv_iret dX10_slant_16 rfl ⟨((-1), h), rfl, rfl, rfl, mv_sat_some hs⟩
    · refine mv_aload_n dX10_slant_17 rfl ?_
      refine mv_iload_n dX10_slant_18 rfl ?_
      refine mv_cV (st := []) dX10_slant_19 kk_X10_209 (TX10_look_55 G d _ _ _ (mv_sat_bind hs)) so_55 vc_10 rfl rfl (Nat.le_of_ble_eq_true rfl) (by omega) rfl ⟨Nat.zero_le _, Nat.zero_le _⟩ (mv_kv fun r527 hs => ?_)
      refine mv_aload_n dX10_slant_22 rfl ?_
      refine mv_iload_n dX10_slant_23 rfl ?_
      refine mv_cV (st := []) dX10_slant_24 kk_X10_231 (TX10_slantBy_55 G d _ _ _ (mv_sat_bind hs)) so_55 vc_10 rfl rfl (Nat.le_of_ble_eq_true rfl) (by omega) rfl ⟨Nat.zero_le _, Nat.zero_le _⟩ (mv_ki fun r530 hs => ?_)
      exact mv_iret dX10_slant_27 rfl ⟨(r530, r527), rfl, rfl, rfl, mv_sat_some hs⟩
noncomputable def fX8_leastSquare_38_b35 (k5 : Int32 → Int32 → mv_H → Option (Int32)) (v1 : Int32) (v2 : Int32) (h : mv_H) : Option (Int32) := k5 v1 (v2 + 1) h
set_option maxRecDepth 100000 in
set_option maxHeartbeats 4000000 in
theorem BX8_leastSquare_38_b35 (G : mv_G) (d D : Nat) (hD : d + 0 ≤ D) (P : Int32 → Prop) (k5 : Int32 → Int32 → mv_H → Option (Int32)) (h : mv_H) (hk5 : ∀ (v1 : Int32) (v2 : Int32), mv_sat (k5 v1 v2 h) P → mv_MW G mX8_leastSquare (mv_rm D mX8_leastSquare) (mv_Zf G mX8_leastSquare (mv_qi mv_SH h P)) 0 0 5 [.ref 38, .int v1, .int v2, .float 0] [] mv_SH h) (v1 : Int32) (v2 : Int32) (hs : mv_sat (fX8_leastSquare_38_b35 k5 v1 v2 h) P) : mv_MW G mX8_leastSquare (mv_rm D mX8_leastSquare) (mv_Zf G mX8_leastSquare (mv_qi mv_SH h P)) 0 0 35 [.ref 38, .int v1, .int v2, .float 0] [] mv_SH h := by
  unfold fX8_leastSquare_38_b35 at hs
  refine mv_iinc (lv' := [.ref 38, .int v1, .int (v2 + 1), .float 0]) 1 dX8_leastSquare_35 rfl (by decide) (Nat.le_of_ble_eq_true rfl) rfl rfl ?_
  refine mv_goto dX8_leastSquare_38 ?_
  exact (hk5 _ _ hs)
noncomputable def fX8_leastSquare_38_b33 (k5 : Int32 → Int32 → mv_H → Option (Int32)) (v2 : Int32) (v3 : Int32) (h : mv_H) : Option (Int32) := fX8_leastSquare_38_b35 k5 v3 v2 h
set_option maxRecDepth 100000 in
set_option maxHeartbeats 4000000 in
theorem BX8_leastSquare_38_b33 (G : mv_G) (d D : Nat) (hD : d + 0 ≤ D) (P : Int32 → Prop) (k5 : Int32 → Int32 → mv_H → Option (Int32)) (h : mv_H) (hk5 : ∀ (v1 : Int32) (v2 : Int32), mv_sat (k5 v1 v2 h) P → mv_MW G mX8_leastSquare (mv_rm D mX8_leastSquare) (mv_Zf G mX8_leastSquare (mv_qi mv_SH h P)) 0 0 5 [.ref 38, .int v1, .int v2, .float 0] [] mv_SH h) (v2 : Int32) (v3 : Int32) (hs : mv_sat (fX8_leastSquare_38_b33 k5 v2 v3 h) P) : mv_MW G mX8_leastSquare (mv_rm D mX8_leastSquare) (mv_Zf G mX8_leastSquare (mv_qi mv_SH h P)) 0 0 33 [.ref 38, .float 0, .int v2, .int v3] [] mv_SH h := by
  unfold fX8_leastSquare_38_b33 at hs
  refine mv_iload_n dX8_leastSquare_33 rfl ?_
  refine mv_istore_n (lv' := [.ref 38, .int v3, .int v2, .int v3]) dX8_leastSquare_34 (Nat.le_of_ble_eq_true rfl) rfl rfl ?_
  exact mv_weak (lv' := [.ref 38, .int v3, .int v2, .float 0]) (mv_s (mv_s (mv_s (mv_k mv_n)))) (BX8_leastSquare_38_b35 G d D (by omega) P _ _ hk5 _ _ hs)
noncomputable def fX8_leastSquare_38_b5 : Nat → Int32 → Int32 → mv_H → Option (Int32)
  | 0, _, _, _ => none
  | n + 1, v1, v2, h => if v2 < 3 then ((fX8_squareFor_38 v2 h).bind fun r535 => if r535 = (-6) then fX8_leastSquare_38_b35 (fX8_leastSquare_38_b5 n) v1 v2 h else if v1 = (-6) then fX8_leastSquare_38_b33 (fX8_leastSquare_38_b5 n) v2 r535 h else if r535 < v1 then fX8_leastSquare_38_b33 (fX8_leastSquare_38_b5 n) v2 r535 h else fX8_leastSquare_38_b35 (fX8_leastSquare_38_b5 n) v1 v2 h) else some v1
set_option maxRecDepth 100000 in
set_option maxHeartbeats 4000000 in
theorem BX8_leastSquare_38_b5 (G : mv_G) (d D : Nat) (hD : d + 3 ≤ D) (P : Int32 → Prop) (h : mv_H) : ∀ (n : Nat) (v1 : Int32) (v2 : Int32), mv_sat (fX8_leastSquare_38_b5 n v1 v2 h) P → mv_MW G mX8_leastSquare (mv_rm D mX8_leastSquare) (mv_Zf G mX8_leastSquare (mv_qi mv_SH h P)) 0 0 5 [.ref 38, .int v1, .int v2, .float 0] [] mv_SH h := by
  intro n
  induction n with
  | zero =>
    intro v1 v2 hs
    unfold fX8_leastSquare_38_b5 at hs
    exact (mv_sat_none hs).elim
  | succ n ih =>
    intro v1 v2 hs
    unfold fX8_leastSquare_38_b5 at hs
    refine mv_iload_n dX8_leastSquare_5 rfl ?_
    refine mv_iconst 3 dX8_leastSquare_6 (by decide) ?_
    refine mv_icmp_ge dX8_leastSquare_7 hs (fun _ hs => ?_) (fun _ hs => ?_)
    · refine mv_aload_n dX8_leastSquare_10 rfl ?_
      refine mv_iload_n dX8_leastSquare_11 rfl ?_
      refine mv_cV (st := []) dX8_leastSquare_12 kk_X8_78 (TX8_squareFor_38 G d _ _ _ (mv_sat_bind hs)) so_38 vc_8 rfl rfl (Nat.le_of_ble_eq_true rfl) (by omega) rfl ⟨Nat.zero_le _, Nat.zero_le _⟩ (mv_ki fun r535 hs => ?_)
      refine mv_istore_n (lv' := [.ref 38, .int v1, .int v2, .int r535]) dX8_leastSquare_15 (Nat.le_of_ble_eq_true rfl) rfl rfl ?_
      refine mv_iload_n dX8_leastSquare_16 rfl ?_
      refine mv_bipush (-6) dX8_leastSquare_17 (by decide) ?_
      refine mv_icmp_eq dX8_leastSquare_19 hs (fun _ hs => ?_) (fun _ hs => ?_)
      · exact mv_weak (lv' := [.ref 38, .int v1, .int v2, .float 0]) (mv_s (mv_s (mv_s (mv_k mv_n)))) (BX8_leastSquare_38_b35 G d D (by omega) P _ _ ih _ _ hs)
      · refine mv_iload_n dX8_leastSquare_22 rfl ?_
        refine mv_bipush (-6) dX8_leastSquare_23 (by decide) ?_
        refine mv_icmp_eq dX8_leastSquare_25 hs (fun _ hs => ?_) (fun _ hs => ?_)
        · exact mv_weak (lv' := [.ref 38, .float 0, .int v2, .int r535]) (mv_s (mv_k (mv_s (mv_s mv_n)))) (BX8_leastSquare_38_b33 G d D (by omega) P _ _ ih _ _ hs)
        · refine mv_iload_n dX8_leastSquare_28 rfl ?_
          refine mv_iload_n dX8_leastSquare_29 rfl ?_
          refine mv_icmp_ge dX8_leastSquare_30 hs (fun _ hs => ?_) (fun _ hs => ?_)
          · exact mv_weak (lv' := [.ref 38, .float 0, .int v2, .int r535]) (mv_s (mv_k (mv_s (mv_s mv_n)))) (BX8_leastSquare_38_b33 G d D (by omega) P _ _ ih _ _ hs)
          · exact mv_weak (lv' := [.ref 38, .int v1, .int v2, .float 0]) (mv_s (mv_s (mv_s (mv_k mv_n)))) (BX8_leastSquare_38_b35 G d D (by omega) P _ _ ih _ _ hs)
    · refine mv_iload_n dX8_leastSquare_41 rfl ?_
      exact mv_iret dX8_leastSquare_42 rfl ⟨_, rfl, rfl, rfl, mv_sat_some hs⟩
noncomputable def fX8_leastSquare_38 (h : mv_H) : Option (Int32) := fX8_leastSquare_38_b5 mv_F (-6) 0 h
set_option maxRecDepth 100000 in
set_option maxHeartbeats 4000000 in
theorem TX8_leastSquare_38 (G : mv_G) (d : Nat) (P : Int32 → Prop) (h : mv_H) (hs : mv_sat (fX8_leastSquare_38 h) P) : mv_met G (d + 3) mX8_leastSquare [.ref 38] mv_SH h (mv_qi mv_SH h P) := by
  unfold fX8_leastSquare_38 at hs
  obtain ⟨D, hDe⟩ : ∃ D, D = d + 3 := ⟨_, rfl⟩
  rw [← hDe]
  have hD : d + 3 ≤ D := by omega
  refine mv_enter (lv := [.ref 38, .float 0, .float 0, .float 0]) 3 (by decide) (by decide +kernel) rfl (Nat.le_of_ble_eq_true rfl) ?_
  refine mv_bipush (-6) dX8_leastSquare_0 (by decide) ?_
  refine mv_istore_n (lv' := [.ref 38, .int (-6), .float 0, .float 0]) dX8_leastSquare_2 (Nat.le_of_ble_eq_true rfl) rfl rfl ?_
  refine mv_iconst 0 dX8_leastSquare_3 (by decide) ?_
  refine mv_istore_n (lv' := [.ref 38, .int (-6), .int 0, .float 0]) dX8_leastSquare_4 (Nat.le_of_ble_eq_true rfl) rfl rfl ?_
  exact (BX8_leastSquare_38_b5 G d D (by omega) P _ _ _ _ hs)
noncomputable def fX9_slants_0 (p0 : Int32) (p1 : Int32) (h : mv_H) : Option (Int32 × mv_H) := (fX7_has_2 p0 h).bind fun r532 => if r532 = 0 then some ((-1), h) else (fX7_has_6 p1 h).bind fun r533 => if r533 = 0 then some ((-1), h) else (fX9_wrapOf_0 p0 h).bind fun r534 => (fX8_leastSquare_38 r534).bind fun r536 => (fX7_side_6 p1 (0 : Int32) r534).bind fun r537 => (fX7_side_6 p1 (1 : Int32) r534).bind fun r538 => mv_let (mv_min r537 r538) fun x539 : Int32 => if r536 = (-6) then some (0, r534) else if x539 < r536 then some (0, r534) else some (1, r534)
set_option maxRecDepth 100000 in
set_option maxHeartbeats 4000000 in
theorem TX9_slants_0 (G : mv_G) (d : Nat) (P : Int32 × mv_H → Prop) (p0 : Int32) (p1 : Int32) (h : mv_H) (hs : mv_sat (fX9_slants_0 p0 p1 h) P) : mv_met G (d + 4) mX9_slants [.ref 0, .int p0, .int p1] mv_SH h (mv_qI mv_SH P) := by
  unfold fX9_slants_0 at hs
  obtain ⟨D, hDe⟩ : ∃ D, D = d + 4 := ⟨_, rfl⟩
  rw [← hDe]
  have hD : d + 4 ≤ D := by omega
  refine mv_enter (lv := [.ref 0, .int p0, .int p1, .float 0, .float 0]) 2 (by decide) (by decide +kernel) rfl (Nat.le_of_ble_eq_true rfl) ?_
  refine mv_aload_n dX9_slants_0 rfl ?_
  refine mv_getr dX9_slants_1 kf_X9_10 gf_0_0 ?_
  refine mv_getr dX9_slants_4 kf_X9_64 gf_1_0 ?_
  refine mv_iload_n dX9_slants_7 rfl ?_
  refine mv_cV (st := []) dX9_slants_8 kk_X9_100 (TX7_has_2 G d _ _ _ (mv_sat_bind hs)) so_2 vc_7 rfl rfl (Nat.le_of_ble_eq_true rfl) (by omega) rfl ⟨Nat.zero_le _, Nat.zero_le _⟩ (mv_ki fun r532 hs => ?_)
  refine mv_if_eq dX9_slants_11 hs (fun _ hs => ?_) (fun _ hs => ?_)
  · refine mv_iconst (-1) dX9_slants_28 (by decide) ?_
    exact mv_iret dX9_slants_29 rfl ⟨((-1), h), rfl, rfl, rfl, mv_sat_some hs⟩
  · refine mv_aload_n dX9_slants_14 rfl ?_
    refine mv_getr dX9_slants_15 kf_X9_10 gf_0_0 ?_
    refine mv_getr dX9_slants_18 kf_X9_83 gf_1_2 ?_
    refine mv_iload_n dX9_slants_21 rfl ?_
    refine mv_cV (st := []) dX9_slants_22 kk_X9_100 (TX7_has_6 G d _ _ _ (mv_sat_bind hs)) so_6 vc_7 rfl rfl (Nat.le_of_ble_eq_true rfl) (by omega) rfl ⟨Nat.zero_le _, Nat.zero_le _⟩ (mv_ki fun r533 hs => ?_)
    refine mv_if_ne dX9_slants_25 hs (fun _ hs => ?_) (fun _ hs => ?_)
    · refine mv_iconst (-1) dX9_slants_28 (by decide) ?_
      exact mv_iret dX9_slants_29 rfl ⟨((-1), h), rfl, rfl, rfl, mv_sat_some hs⟩
    · refine mv_aload_n dX9_slants_30 rfl ?_
      refine mv_iload_n dX9_slants_31 rfl ?_
      refine mv_cV (st := []) dX9_slants_32 kk_X9_144 (TX9_wrapOf_0 G d _ _ _ (mv_sat_bind hs)) so_0 vc_9 rfl rfl (Nat.le_of_ble_eq_true rfl) (by omega) rfl ⟨Nat.zero_le _, Nat.zero_le _⟩ (mv_kc fun r534 hs => ?_)
      refine mv_cV (st := []) dX9_slants_35 kk_X9_192 (TX8_leastSquare_38 G d _ _ (mv_sat_bind hs)) so_38 vc_8 rfl rfl (Nat.le_of_ble_eq_true rfl) (by omega) rfl ⟨Nat.zero_le _, Nat.zero_le _⟩ (mv_ki fun r536 hs => ?_)
      refine mv_istore_n (lv' := [.ref 0, .int p0, .int p1, .int r536, .float 0]) dX9_slants_38 (Nat.le_of_ble_eq_true rfl) rfl rfl ?_
      refine mv_aload_n dX9_slants_39 rfl ?_
      refine mv_getr dX9_slants_40 kf_X9_10 gf_0_0 ?_
      refine mv_getr dX9_slants_43 kf_X9_83 gf_1_2 ?_
      refine mv_iload_n dX9_slants_46 rfl ?_
      refine mv_iconst 0 dX9_slants_47 (by decide) ?_
      refine mv_cV (st := []) dX9_slants_48 kk_X9_163 (TX7_side_6 G d _ _ _ _ (mv_sat_bind hs)) so_6 vc_7 rfl rfl (Nat.le_of_ble_eq_true rfl) (by omega) rfl ⟨Nat.zero_le _, Nat.zero_le _⟩ (mv_ki fun r537 hs => ?_)
      refine mv_aload_n dX9_slants_51 rfl ?_
      refine mv_getr dX9_slants_52 kf_X9_10 gf_0_0 ?_
      refine mv_getr dX9_slants_55 kf_X9_83 gf_1_2 ?_
      refine mv_iload_n dX9_slants_58 rfl ?_
      refine mv_iconst 1 dX9_slants_59 (by decide) ?_
      refine mv_cV (st := [.int r537]) dX9_slants_60 kk_X9_163 (TX7_side_6 G d _ _ _ _ (mv_sat_bind hs)) so_6 vc_7 rfl rfl (Nat.le_of_ble_eq_true rfl) (by omega) rfl ⟨Nat.zero_le _, Nat.zero_le _⟩ (mv_ki fun r538 hs => ?_)
      refine mv_mmin dX9_slants_63 kx_X9_195 kx_min_s kx_math kx_min_c (Nat.le_of_ble_eq_true rfl) (by omega) ⟨Nat.zero_le _, Nat.zero_le _⟩ ?_
      refine mv_name hs (fun x539 hs => ?_)
      refine mv_istore (lv' := [.ref 0, .int p0, .int p1, .int r536, .int x539]) dX9_slants_66 (Nat.le_of_ble_eq_true rfl) rfl rfl ?_
      refine mv_iload_n dX9_slants_68 rfl ?_
      refine mv_bipush (-6) dX9_slants_69 (by decide) ?_
      refine mv_icmp_eq dX9_slants_71 hs (fun _ hs => ?_) (fun _ hs => ?_)
      · refine mv_iconst 0 dX9_slants_84 (by decide) ?_
        exact mv_iret dX9_slants_85 rfl ⟨(0, r534), rfl, rfl, rfl, mv_sat_some hs⟩
      · refine mv_iload_n dX9_slants_74 rfl ?_
        refine mv_iload dX9_slants_75 rfl ?_
        refine mv_icmp_gt dX9_slants_77 hs (fun _ hs => ?_) (fun _ hs => ?_)
        · refine mv_iconst 0 dX9_slants_84 (by decide) ?_
          exact mv_iret dX9_slants_85 rfl ⟨(0, r534), rfl, rfl, rfl, mv_sat_some hs⟩
        · refine mv_iconst 1 dX9_slants_80 (by decide) ?_
          refine mv_goto dX9_slants_81 ?_
          exact mv_iret dX9_slants_85 rfl ⟨(1, r534), rfl, rfl, rfl, mv_sat_some hs⟩
noncomputable def fX10_leastSlant_55_b34 (k5 : Int32 → Int32 → mv_H → Option (Int32)) (v2 : Int32) (s0 : Int32) (h : mv_H) : Option (Int32) := k5 s0 (v2 + 1) h
set_option maxRecDepth 100000 in
set_option maxHeartbeats 4000000 in
theorem BX10_leastSlant_55_b34 (G : mv_G) (d D : Nat) (hD : d + 0 ≤ D) (P : Int32 → Prop) (k5 : Int32 → Int32 → mv_H → Option (Int32)) (h : mv_H) (hk5 : ∀ (v1 : Int32) (v2 : Int32), mv_sat (k5 v1 v2 h) P → mv_MW G mX10_leastSlant (mv_rm D mX10_leastSlant) (mv_Zf G mX10_leastSlant (mv_qi mv_SH h P)) 0 0 5 [.ref 55, .int v1, .int v2, .float 0] [] mv_SH h) (v2 : Int32) (s0 : Int32) (hs : mv_sat (fX10_leastSlant_55_b34 k5 v2 s0 h) P) : mv_MW G mX10_leastSlant (mv_rm D mX10_leastSlant) (mv_Zf G mX10_leastSlant (mv_qi mv_SH h P)) 0 0 34 [.ref 55, .float 0, .int v2, .float 0] [.int s0] mv_SH h := by
  unfold fX10_leastSlant_55_b34 at hs
  refine mv_istore_n (lv' := [.ref 55, .int s0, .int v2, .float 0]) dX10_leastSlant_34 (Nat.le_of_ble_eq_true rfl) rfl rfl ?_
  refine mv_iinc (lv' := [.ref 55, .int s0, .int (v2 + 1), .float 0]) 1 dX10_leastSlant_35 rfl (by decide) (Nat.le_of_ble_eq_true rfl) rfl rfl ?_
  refine mv_goto dX10_leastSlant_38 ?_
  exact (hk5 _ _ hs)
noncomputable def fX10_leastSlant_55_b33 (k5 : Int32 → Int32 → mv_H → Option (Int32)) (v1 : Int32) (v2 : Int32) (h : mv_H) : Option (Int32) := fX10_leastSlant_55_b34 k5 v2 v1 h
set_option maxRecDepth 100000 in
set_option maxHeartbeats 4000000 in
theorem BX10_leastSlant_55_b33 (G : mv_G) (d D : Nat) (hD : d + 0 ≤ D) (P : Int32 → Prop) (k5 : Int32 → Int32 → mv_H → Option (Int32)) (h : mv_H) (hk5 : ∀ (v1 : Int32) (v2 : Int32), mv_sat (k5 v1 v2 h) P → mv_MW G mX10_leastSlant (mv_rm D mX10_leastSlant) (mv_Zf G mX10_leastSlant (mv_qi mv_SH h P)) 0 0 5 [.ref 55, .int v1, .int v2, .float 0] [] mv_SH h) (v1 : Int32) (v2 : Int32) (hs : mv_sat (fX10_leastSlant_55_b33 k5 v1 v2 h) P) : mv_MW G mX10_leastSlant (mv_rm D mX10_leastSlant) (mv_Zf G mX10_leastSlant (mv_qi mv_SH h P)) 0 0 33 [.ref 55, .int v1, .int v2, .float 0] [] mv_SH h := by
  unfold fX10_leastSlant_55_b33 at hs
  refine mv_iload_n dX10_leastSlant_33 rfl ?_
  exact mv_weak (lv' := [.ref 55, .float 0, .int v2, .float 0]) (mv_s (mv_k (mv_s (mv_s mv_n)))) (BX10_leastSlant_55_b34 G d D (by omega) P _ _ hk5 _ _ hs)
noncomputable def fX10_leastSlant_55_b29 (k5 : Int32 → Int32 → mv_H → Option (Int32)) (v2 : Int32) (v3 : Int32) (h : mv_H) : Option (Int32) := fX10_leastSlant_55_b34 k5 v2 v3 h
set_option maxRecDepth 100000 in
set_option maxHeartbeats 4000000 in
theorem BX10_leastSlant_55_b29 (G : mv_G) (d D : Nat) (hD : d + 0 ≤ D) (P : Int32 → Prop) (k5 : Int32 → Int32 → mv_H → Option (Int32)) (h : mv_H) (hk5 : ∀ (v1 : Int32) (v2 : Int32), mv_sat (k5 v1 v2 h) P → mv_MW G mX10_leastSlant (mv_rm D mX10_leastSlant) (mv_Zf G mX10_leastSlant (mv_qi mv_SH h P)) 0 0 5 [.ref 55, .int v1, .int v2, .float 0] [] mv_SH h) (v2 : Int32) (v3 : Int32) (hs : mv_sat (fX10_leastSlant_55_b29 k5 v2 v3 h) P) : mv_MW G mX10_leastSlant (mv_rm D mX10_leastSlant) (mv_Zf G mX10_leastSlant (mv_qi mv_SH h P)) 0 0 29 [.ref 55, .float 0, .int v2, .int v3] [] mv_SH h := by
  unfold fX10_leastSlant_55_b29 at hs
  refine mv_iload_n dX10_leastSlant_29 rfl ?_
  refine mv_goto dX10_leastSlant_30 ?_
  exact mv_weak (lv' := [.ref 55, .float 0, .int v2, .float 0]) (mv_s (mv_s (mv_s (mv_k mv_n)))) (BX10_leastSlant_55_b34 G d D (by omega) P _ _ hk5 _ _ hs)
noncomputable def fX10_leastSlant_55_b5 : Nat → Int32 → Int32 → mv_H → Option (Int32)
  | 0, _, _, _ => none
  | n + 1, v1, v2, h => if v2 < 3 then ((fX10_slantBy_55 v2 h).bind fun r544 => if r544 < 0 then fX10_leastSlant_55_b33 (fX10_leastSlant_55_b5 n) v1 v2 h else if v1 < 0 then fX10_leastSlant_55_b29 (fX10_leastSlant_55_b5 n) v2 r544 h else if r544 < v1 then fX10_leastSlant_55_b29 (fX10_leastSlant_55_b5 n) v2 r544 h else fX10_leastSlant_55_b33 (fX10_leastSlant_55_b5 n) v1 v2 h) else some v1
set_option maxRecDepth 100000 in
set_option maxHeartbeats 4000000 in
theorem BX10_leastSlant_55_b5 (G : mv_G) (d D : Nat) (hD : d + 2 ≤ D) (P : Int32 → Prop) (h : mv_H) : ∀ (n : Nat) (v1 : Int32) (v2 : Int32), mv_sat (fX10_leastSlant_55_b5 n v1 v2 h) P → mv_MW G mX10_leastSlant (mv_rm D mX10_leastSlant) (mv_Zf G mX10_leastSlant (mv_qi mv_SH h P)) 0 0 5 [.ref 55, .int v1, .int v2, .float 0] [] mv_SH h := by
  intro n
  induction n with
  | zero =>
    intro v1 v2 hs
    unfold fX10_leastSlant_55_b5 at hs
    exact (mv_sat_none hs).elim
  | succ n ih =>
    intro v1 v2 hs
    unfold fX10_leastSlant_55_b5 at hs
    refine mv_iload_n dX10_leastSlant_5 rfl ?_
    refine mv_iconst 3 dX10_leastSlant_6 (by decide) ?_
    refine mv_icmp_ge dX10_leastSlant_7 hs (fun _ hs => ?_) (fun _ hs => ?_)
    · refine mv_aload_n dX10_leastSlant_10 rfl ?_
      refine mv_iload_n dX10_leastSlant_11 rfl ?_
      refine mv_cV (st := []) dX10_leastSlant_12 kk_X10_231 (TX10_slantBy_55 G d _ _ _ (mv_sat_bind hs)) so_55 vc_10 rfl rfl (Nat.le_of_ble_eq_true rfl) (by omega) rfl ⟨Nat.zero_le _, Nat.zero_le _⟩ (mv_ki fun r544 hs => ?_)
      refine mv_istore_n (lv' := [.ref 55, .int v1, .int v2, .int r544]) dX10_leastSlant_15 (Nat.le_of_ble_eq_true rfl) rfl rfl ?_
      refine mv_iload_n dX10_leastSlant_16 rfl ?_
      refine mv_if_lt dX10_leastSlant_17 hs (fun _ hs => ?_) (fun _ hs => ?_)
      · exact mv_weak (lv' := [.ref 55, .int v1, .int v2, .float 0]) (mv_s (mv_s (mv_s (mv_k mv_n)))) (BX10_leastSlant_55_b33 G d D (by omega) P _ _ ih _ _ hs)
      · refine mv_iload_n dX10_leastSlant_20 rfl ?_
        refine mv_if_lt dX10_leastSlant_21 hs (fun _ hs => ?_) (fun _ hs => ?_)
        · exact mv_weak (lv' := [.ref 55, .float 0, .int v2, .int r544]) (mv_s (mv_k (mv_s (mv_s mv_n)))) (BX10_leastSlant_55_b29 G d D (by omega) P _ _ ih _ _ hs)
        · refine mv_iload_n dX10_leastSlant_24 rfl ?_
          refine mv_iload_n dX10_leastSlant_25 rfl ?_
          refine mv_icmp_ge dX10_leastSlant_26 hs (fun _ hs => ?_) (fun _ hs => ?_)
          · exact mv_weak (lv' := [.ref 55, .float 0, .int v2, .int r544]) (mv_s (mv_k (mv_s (mv_s mv_n)))) (BX10_leastSlant_55_b29 G d D (by omega) P _ _ ih _ _ hs)
          · exact mv_weak (lv' := [.ref 55, .int v1, .int v2, .float 0]) (mv_s (mv_s (mv_s (mv_k mv_n)))) (BX10_leastSlant_55_b33 G d D (by omega) P _ _ ih _ _ hs)
    · refine mv_iload_n dX10_leastSlant_41 rfl ?_
      exact mv_iret dX10_leastSlant_42 rfl ⟨_, rfl, rfl, rfl, mv_sat_some hs⟩
noncomputable def fX10_leastSlant_55 (h : mv_H) : Option (Int32) := fX10_leastSlant_55_b5 mv_F (-6) 0 h
set_option maxRecDepth 100000 in
set_option maxHeartbeats 4000000 in
theorem TX10_leastSlant_55 (G : mv_G) (d : Nat) (P : Int32 → Prop) (h : mv_H) (hs : mv_sat (fX10_leastSlant_55 h) P) : mv_met G (d + 2) mX10_leastSlant [.ref 55] mv_SH h (mv_qi mv_SH h P) := by
  unfold fX10_leastSlant_55 at hs
  obtain ⟨D, hDe⟩ : ∃ D, D = d + 2 := ⟨_, rfl⟩
  rw [← hDe]
  have hD : d + 2 ≤ D := by omega
  refine mv_enter (lv := [.ref 55, .float 0, .float 0, .float 0]) 3 (by decide) (by decide +kernel) rfl (Nat.le_of_ble_eq_true rfl) ?_
  refine mv_bipush (-6) dX10_leastSlant_0 (by decide) ?_
  refine mv_istore_n (lv' := [.ref 55, .int (-6), .float 0, .float 0]) dX10_leastSlant_2 (Nat.le_of_ble_eq_true rfl) rfl rfl ?_
  refine mv_iconst 0 dX10_leastSlant_3 (by decide) ?_
  refine mv_istore_n (lv' := [.ref 55, .int (-6), .int 0, .float 0]) dX10_leastSlant_4 (Nat.le_of_ble_eq_true rfl) rfl rfl ?_
  exact (BX10_leastSlant_55_b5 G d D (by omega) P _ _ _ _ hs)
noncomputable def fX10_slants_55 (p0 : Int32) (p1 : Int32) (h : mv_H) : Option (Int32 × mv_H) := (fX10_isBox_55 p0 h).bind fun r541 => if r541 = 0 then some ((-1), h) else (fX10_isSheet_55 p1 h).bind fun r542 => if r542 = 0 then some ((-1), h) else (fX10_look_55 p0 h).bind fun r543 => (fX10_leastSlant_55 r543).bind fun r545 => if r545 < 0 then some (0, r543) else if mv_in p1 6 then (if (r543 58 p1.toNatClampNeg) < r545 then some (0, r543) else if mv_in p1 6 then (if (r543 59 p1.toNatClampNeg) < r545 then some (0, r543) else some (1, r543)) else none) else none
set_option maxRecDepth 100000 in
set_option maxHeartbeats 4000000 in
theorem TX10_slants_55 (G : mv_G) (d : Nat) (P : Int32 × mv_H → Prop) (p0 : Int32) (p1 : Int32) (h : mv_H) (hs : mv_sat (fX10_slants_55 p0 p1 h) P) : mv_met G (d + 3) mX10_slants [.ref 55, .int p0, .int p1] mv_SH h (mv_qI mv_SH P) := by
  unfold fX10_slants_55 at hs
  obtain ⟨D, hDe⟩ : ∃ D, D = d + 3 := ⟨_, rfl⟩
  rw [← hDe]
  have hD : d + 3 ≤ D := by omega
  refine mv_enter (lv := [.ref 55, .int p0, .int p1, .float 0]) 1 (by decide) (by decide +kernel) rfl (Nat.le_of_ble_eq_true rfl) ?_
  refine mv_aload_n dX10_slants_0 rfl ?_
  refine mv_iload_n dX10_slants_1 rfl ?_
  refine mv_cV (st := []) dX10_slants_2 kk_X10_146 (TX10_isBox_55 G d _ _ _ (mv_sat_bind hs)) so_55 vc_10 rfl rfl (Nat.le_of_ble_eq_true rfl) (by omega) rfl ⟨Nat.zero_le _, Nat.zero_le _⟩ (mv_ki fun r541 hs => ?_)
  refine mv_if_eq dX10_slants_5 hs (fun _ hs => ?_) (fun _ hs => ?_)
  · refine mv_iconst (-1) dX10_slants_16 (by decide) ?_
    exact mv_iret dX10_slants_17 rfl ⟨((-1), h), rfl, rfl, rfl, mv_sat_some hs⟩
  · refine mv_aload_n dX10_slants_8 rfl ?_
    refine mv_iload_n dX10_slants_9 rfl ?_
    refine mv_cV (st := []) dX10_slants_10 kk_X10_152 (TX10_isSheet_55 G d _ _ _ (mv_sat_bind hs)) so_55 vc_10 rfl rfl (Nat.le_of_ble_eq_true rfl) (by omega) rfl ⟨Nat.zero_le _, Nat.zero_le _⟩ (mv_ki fun r542 hs => ?_)
    refine mv_if_ne dX10_slants_13 hs (fun _ hs => ?_) (fun _ hs => ?_)
    · refine mv_iconst (-1) dX10_slants_16 (by decide) ?_
      exact mv_iret dX10_slants_17 rfl ⟨((-1), h), rfl, rfl, rfl, mv_sat_some hs⟩
    · refine mv_aload_n dX10_slants_18 rfl ?_
      refine mv_iload_n dX10_slants_19 rfl ?_
      refine mv_cV (st := []) dX10_slants_20 kk_X10_209 (TX10_look_55 G d _ _ _ (mv_sat_bind hs)) so_55 vc_10 rfl rfl (Nat.le_of_ble_eq_true rfl) (by omega) rfl ⟨Nat.zero_le _, Nat.zero_le _⟩ (mv_kv fun r543 hs => ?_)
      refine mv_aload_n dX10_slants_23 rfl ?_
      refine mv_cV (st := []) dX10_slants_24 kk_X10_234 (TX10_leastSlant_55 G d _ _ (mv_sat_bind hs)) so_55 vc_10 rfl rfl (Nat.le_of_ble_eq_true rfl) (by omega) rfl ⟨Nat.zero_le _, Nat.zero_le _⟩ (mv_ki fun r545 hs => ?_)
      refine mv_istore_n (lv' := [.ref 55, .int p0, .int p1, .int r545]) dX10_slants_27 (Nat.le_of_ble_eq_true rfl) rfl rfl ?_
      refine mv_iload_n dX10_slants_28 rfl ?_
      refine mv_if_lt dX10_slants_29 hs (fun _ hs => ?_) (fun _ hs => ?_)
      · refine mv_iconst 0 dX10_slants_56 (by decide) ?_
        exact mv_iret dX10_slants_57 rfl ⟨(0, r543), rfl, rfl, rfl, mv_sat_some hs⟩
      · refine mv_iload_n dX10_slants_32 rfl ?_
        refine mv_aload_n dX10_slants_33 rfl ?_
        refine mv_getr dX10_slants_34 kf_X10_16 gf_55_5 ?_
        refine mv_iload_n dX10_slants_37 rfl ?_
        refine mv_iaload dX10_slants_38 so_58 hs (fun hs => ?_)
        refine mv_icmp_gt dX10_slants_39 hs (fun _ hs => ?_) (fun _ hs => ?_)
        · refine mv_iconst 0 dX10_slants_56 (by decide) ?_
          exact mv_iret dX10_slants_57 rfl ⟨(0, r543), rfl, rfl, rfl, mv_sat_some hs⟩
        · refine mv_iload_n dX10_slants_42 rfl ?_
          refine mv_aload_n dX10_slants_43 rfl ?_
          refine mv_getr dX10_slants_44 kf_X10_19 gf_55_6 ?_
          refine mv_iload_n dX10_slants_47 rfl ?_
          refine mv_iaload dX10_slants_48 so_59 hs (fun hs => ?_)
          refine mv_icmp_gt dX10_slants_49 hs (fun _ hs => ?_) (fun _ hs => ?_)
          · refine mv_iconst 0 dX10_slants_56 (by decide) ?_
            exact mv_iret dX10_slants_57 rfl ⟨(0, r543), rfl, rfl, rfl, mv_sat_some hs⟩
          · refine mv_iconst 1 dX10_slants_52 (by decide) ?_
            refine mv_goto dX10_slants_53 ?_
            exact mv_iret dX10_slants_57 rfl ⟨(1, r543), rfl, rfl, rfl, mv_sat_some hs⟩
noncomputable def fX9_saved_0 (p0 : Int32) (h : mv_H) : Option (Int32 × mv_H) := (fX7_has_2 p0 h).bind fun r547 => if r547 = 0 then some ((-1), h) else (fX9_wrapOf_0 p0 h).bind fun r548 => (fX8_leastSquare_38 r548).bind fun r549 => if r549 = (-6) then some ((-6), r548) else (fX8_leastPaper_38 r548).bind fun r550 => some ((100000 + r550) - (r549 * r549), r548)
set_option maxRecDepth 100000 in
set_option maxHeartbeats 4000000 in
theorem TX9_saved_0 (G : mv_G) (d : Nat) (P : Int32 × mv_H → Prop) (p0 : Int32) (h : mv_H) (hs : mv_sat (fX9_saved_0 p0 h) P) : mv_met G (d + 5) mX9_saved [.ref 0, .int p0] mv_SH h (mv_qI mv_SH P) := by
  unfold fX9_saved_0 at hs
  obtain ⟨D, hDe⟩ : ∃ D, D = d + 5 := ⟨_, rfl⟩
  rw [← hDe]
  have hD : d + 5 ≤ D := by omega
  refine mv_enter (lv := [.ref 0, .int p0, .float 0, .float 0]) 2 (by decide) (by decide +kernel) rfl (Nat.le_of_ble_eq_true rfl) ?_
  refine mv_aload_n dX9_saved_0 rfl ?_
  refine mv_getr dX9_saved_1 kf_X9_10 gf_0_0 ?_
  refine mv_getr dX9_saved_4 kf_X9_64 gf_1_0 ?_
  refine mv_iload_n dX9_saved_7 rfl ?_
  refine mv_cV (st := []) dX9_saved_8 kk_X9_100 (TX7_has_2 G d _ _ _ (mv_sat_bind hs)) so_2 vc_7 rfl rfl (Nat.le_of_ble_eq_true rfl) (by omega) rfl ⟨Nat.zero_le _, Nat.zero_le _⟩ (mv_ki fun r547 hs => ?_)
  refine mv_if_ne dX9_saved_11 hs (fun _ hs => ?_) (fun _ hs => ?_)
  · refine mv_iconst (-1) dX9_saved_14 (by decide) ?_
    exact mv_iret dX9_saved_15 rfl ⟨((-1), h), rfl, rfl, rfl, mv_sat_some hs⟩
  · refine mv_aload_n dX9_saved_16 rfl ?_
    refine mv_iload_n dX9_saved_17 rfl ?_
    refine mv_cV (st := []) dX9_saved_18 kk_X9_144 (TX9_wrapOf_0 G d _ _ _ (mv_sat_bind hs)) so_0 vc_9 rfl rfl (Nat.le_of_ble_eq_true rfl) (by omega) rfl ⟨Nat.zero_le _, Nat.zero_le _⟩ (mv_kc fun r548 hs => ?_)
    refine mv_astore_n (lv' := [.ref 0, .int p0, .ref 38, .float 0]) dX9_saved_21 (Nat.le_of_ble_eq_true rfl) rfl rfl ?_
    refine mv_aload_n dX9_saved_22 rfl ?_
    refine mv_cV (st := []) dX9_saved_23 kk_X9_192 (TX8_leastSquare_38 G d _ _ (mv_sat_bind hs)) so_38 vc_8 rfl rfl (Nat.le_of_ble_eq_true rfl) (by omega) rfl ⟨Nat.zero_le _, Nat.zero_le _⟩ (mv_ki fun r549 hs => ?_)
    refine mv_istore_n (lv' := [.ref 0, .int p0, .ref 38, .int r549]) dX9_saved_26 (Nat.le_of_ble_eq_true rfl) rfl rfl ?_
    refine mv_iload_n dX9_saved_27 rfl ?_
    refine mv_bipush (-6) dX9_saved_28 (by decide) ?_
    refine mv_icmp_ne dX9_saved_30 hs (fun _ hs => ?_) (fun _ hs => ?_)
    · refine mv_bipush (-6) dX9_saved_33 (by decide) ?_
      refine mv_goto dX9_saved_35 ?_
      exact mv_iret dX9_saved_49 rfl ⟨((-6), r548), rfl, rfl, rfl, mv_sat_some hs⟩
    · refine mv_ldc dX9_saved_38 kn_X9_200 ?_
      refine mv_aload_n dX9_saved_40 rfl ?_
      refine mv_cV (st := [.int 100000]) dX9_saved_41 kk_X9_160 (TX8_leastPaper_38 G d _ _ (mv_sat_bind hs)) so_38 vc_8 rfl rfl (Nat.le_of_ble_eq_true rfl) (by omega) rfl ⟨Nat.zero_le _, Nat.zero_le _⟩ (mv_ki fun r550 hs => ?_)
      refine mv_iadd dX9_saved_44 ?_
      refine mv_iload_n dX9_saved_45 rfl ?_
      refine mv_iload_n dX9_saved_46 rfl ?_
      refine mv_imul dX9_saved_47 ?_
      refine mv_isub dX9_saved_48 ?_
      exact mv_iret dX9_saved_49 rfl ⟨((100000 + r550) - (r549 * r549), r548), rfl, rfl, rfl, mv_sat_some hs⟩
noncomputable def fX10_saved_55 (p0 : Int32) (h : mv_H) : Option (Int32 × mv_H) := (fX10_isBox_55 p0 h).bind fun r552 => if r552 = 0 then some ((-1), h) else (fX10_look_55 p0 h).bind fun r553 => (fX10_leastSlant_55 r553).bind fun r554 => if r554 < 0 then some ((-6), r553) else (fX10_leastAxis_55 r553).bind fun r555 => (fX10_paper_55 r555 r553).bind fun r556 => some ((r556 - (r554 * r554)) + 100000, r553)
set_option maxRecDepth 100000 in
set_option maxHeartbeats 4000000 in
theorem TX10_saved_55 (G : mv_G) (d : Nat) (P : Int32 × mv_H → Prop) (p0 : Int32) (h : mv_H) (hs : mv_sat (fX10_saved_55 p0 h) P) : mv_met G (d + 3) mX10_saved [.ref 55, .int p0] mv_SH h (mv_qI mv_SH P) := by
  unfold fX10_saved_55 at hs
  obtain ⟨D, hDe⟩ : ∃ D, D = d + 3 := ⟨_, rfl⟩
  rw [← hDe]
  have hD : d + 3 ≤ D := by omega
  refine mv_enter (lv := [.ref 55, .int p0, .float 0]) 1 (by decide) (by decide +kernel) rfl (Nat.le_of_ble_eq_true rfl) ?_
  refine mv_aload_n dX10_saved_0 rfl ?_
  refine mv_iload_n dX10_saved_1 rfl ?_
  refine mv_cV (st := []) dX10_saved_2 kk_X10_146 (TX10_isBox_55 G d _ _ _ (mv_sat_bind hs)) so_55 vc_10 rfl rfl (Nat.le_of_ble_eq_true rfl) (by omega) rfl ⟨Nat.zero_le _, Nat.zero_le _⟩ (mv_ki fun r552 hs => ?_)
  refine mv_if_ne dX10_saved_5 hs (fun _ hs => ?_) (fun _ hs => ?_)
  · refine mv_iconst (-1) dX10_saved_8 (by decide) ?_
    exact mv_iret dX10_saved_9 rfl ⟨((-1), h), rfl, rfl, rfl, mv_sat_some hs⟩
  · refine mv_aload_n dX10_saved_10 rfl ?_
    refine mv_iload_n dX10_saved_11 rfl ?_
    refine mv_cV (st := []) dX10_saved_12 kk_X10_209 (TX10_look_55 G d _ _ _ (mv_sat_bind hs)) so_55 vc_10 rfl rfl (Nat.le_of_ble_eq_true rfl) (by omega) rfl ⟨Nat.zero_le _, Nat.zero_le _⟩ (mv_kv fun r553 hs => ?_)
    refine mv_aload_n dX10_saved_15 rfl ?_
    refine mv_cV (st := []) dX10_saved_16 kk_X10_234 (TX10_leastSlant_55 G d _ _ (mv_sat_bind hs)) so_55 vc_10 rfl rfl (Nat.le_of_ble_eq_true rfl) (by omega) rfl ⟨Nat.zero_le _, Nat.zero_le _⟩ (mv_ki fun r554 hs => ?_)
    refine mv_istore_n (lv' := [.ref 55, .int p0, .int r554]) dX10_saved_19 (Nat.le_of_ble_eq_true rfl) rfl rfl ?_
    refine mv_iload_n dX10_saved_20 rfl ?_
    refine mv_if_ge dX10_saved_21 hs (fun _ hs => ?_) (fun _ hs => ?_)
    · refine mv_bipush (-6) dX10_saved_24 (by decide) ?_
      refine mv_goto dX10_saved_26 ?_
      exact mv_iret dX10_saved_44 rfl ⟨((-6), r553), rfl, rfl, rfl, mv_sat_some hs⟩
    · refine mv_aload_n dX10_saved_29 rfl ?_
      refine mv_aload_n dX10_saved_30 rfl ?_
      refine mv_cV (st := [.ref 55]) dX10_saved_31 kk_X10_213 (TX10_leastAxis_55 G d _ _ (mv_sat_bind hs)) so_55 vc_10 rfl rfl (Nat.le_of_ble_eq_true rfl) (by omega) rfl ⟨Nat.zero_le _, Nat.zero_le _⟩ (mv_ki fun r555 hs => ?_)
      refine mv_cV (st := []) dX10_saved_34 kk_X10_203 (TX10_paper_55 G d _ _ _ (mv_sat_bind hs)) so_55 vc_10 rfl rfl (Nat.le_of_ble_eq_true rfl) (by omega) rfl ⟨Nat.zero_le _, Nat.zero_le _⟩ (mv_ki fun r556 hs => ?_)
      refine mv_iload_n dX10_saved_37 rfl ?_
      refine mv_iload_n dX10_saved_38 rfl ?_
      refine mv_imul dX10_saved_39 ?_
      refine mv_isub dX10_saved_40 ?_
      refine mv_ldc dX10_saved_41 kn_X10_237 ?_
      refine mv_iadd dX10_saved_43 ?_
      exact mv_iret dX10_saved_44 rfl ⟨((r556 - (r554 * r554)) + 100000, r553), rfl, rfl, rfl, mv_sat_some hs⟩
noncomputable def fX8_acrossOff_38 (p0 : Int32) (h : mv_H) : Option (Int32) := (fX9_turnOf p0).bind fun r562 => if r562 = 0 then ((fX9_axisOf p0).bind fun r563 => (fX8_reach_38 r563 h).bind fun r564 => some r564) else (fX9_axisOf p0).bind fun r565 => (fX8_round_38 r565 h).bind fun r566 => some r566
set_option maxRecDepth 100000 in
set_option maxHeartbeats 4000000 in
theorem TX8_acrossOff_38 (G : mv_G) (d : Nat) (P : Int32 → Prop) (p0 : Int32) (h : mv_H) (hs : mv_sat (fX8_acrossOff_38 p0 h) P) : mv_met G (d + 2) mX8_acrossOff [.ref 38, .int p0] mv_SH h (mv_qi mv_SH h P) := by
  unfold fX8_acrossOff_38 at hs
  obtain ⟨D, hDe⟩ : ∃ D, D = d + 2 := ⟨_, rfl⟩
  rw [← hDe]
  have hD : d + 2 ≤ D := by omega
  refine mv_enter (lv := [.ref 38, .int p0]) 0 (by decide) (by decide +kernel) rfl (Nat.le_of_ble_eq_true rfl) ?_
  refine mv_iload_n dX8_acrossOff_0 rfl ?_
  refine mv_cS (st := []) dX8_acrossOff_1 kk_X8_62 (TX9_turnOf G d _ _ _ (mv_sat_bind hs)) rfl rfl (Nat.le_of_ble_eq_true rfl) (by omega) rfl ⟨Nat.zero_le _, Nat.zero_le _⟩ (mv_ki fun r562 hs => ?_)
  refine mv_if_ne dX8_acrossOff_4 hs (fun _ hs => ?_) (fun _ hs => ?_)
  · refine mv_aload_n dX8_acrossOff_7 rfl ?_
    refine mv_iload_n dX8_acrossOff_8 rfl ?_
    refine mv_cS (st := [.ref 38]) dX8_acrossOff_9 kk_X8_59 (TX9_axisOf G d _ _ _ (mv_sat_bind hs)) rfl rfl (Nat.le_of_ble_eq_true rfl) (by omega) rfl ⟨Nat.zero_le _, Nat.zero_le _⟩ (mv_ki fun r563 hs => ?_)
    refine mv_cV (st := []) dX8_acrossOff_12 kk_X8_46 (TX8_reach_38 G d _ _ _ (mv_sat_bind hs)) so_38 vc_8 rfl rfl (Nat.le_of_ble_eq_true rfl) (by omega) rfl ⟨Nat.zero_le _, Nat.zero_le _⟩ (mv_ki fun r564 hs => ?_)
    refine mv_goto dX8_acrossOff_15 ?_
    exact mv_iret dX8_acrossOff_26 rfl ⟨_, rfl, rfl, rfl, mv_sat_some hs⟩
  · refine mv_aload_n dX8_acrossOff_18 rfl ?_
    refine mv_iload_n dX8_acrossOff_19 rfl ?_
    refine mv_cS (st := [.ref 38]) dX8_acrossOff_20 kk_X8_59 (TX9_axisOf G d _ _ _ (mv_sat_bind hs)) rfl rfl (Nat.le_of_ble_eq_true rfl) (by omega) rfl ⟨Nat.zero_le _, Nat.zero_le _⟩ (mv_ki fun r565 hs => ?_)
    refine mv_cV (st := []) dX8_acrossOff_23 kk_X8_43 (TX8_round_38 G d _ _ _ (mv_sat_bind hs)) so_38 vc_8 rfl rfl (Nat.le_of_ble_eq_true rfl) (by omega) rfl ⟨Nat.zero_le _, Nat.zero_le _⟩ (mv_ki fun r566 hs => ?_)
    exact mv_iret dX8_acrossOff_26 rfl ⟨_, rfl, rfl, rfl, mv_sat_some hs⟩
noncomputable def fX8_wayOffRoll_38_b41 (k5 : Int32 → Int32 → Int32 → mv_H → Option (Int32)) (v1 : Int32) (v2 : Int32) (v3 : Int32) (h : mv_H) : Option (Int32) := k5 v1 v2 (v3 + 1) h
set_option maxRecDepth 100000 in
set_option maxHeartbeats 4000000 in
theorem BX8_wayOffRoll_38_b41 (G : mv_G) (d D : Nat) (hD : d + 0 ≤ D) (P : Int32 → Prop) (k5 : Int32 → Int32 → Int32 → mv_H → Option (Int32)) (h : mv_H) (hk5 : ∀ (v1 : Int32) (v2 : Int32) (v3 : Int32), mv_sat (k5 v1 v2 v3 h) P → mv_MW G mX8_wayOffRoll (mv_rm D mX8_wayOffRoll) (mv_Zf G mX8_wayOffRoll (mv_qi mv_SH h P)) 0 0 5 [.ref 38, .int v1, .int v2, .int v3] [] mv_SH h) (v1 : Int32) (v2 : Int32) (v3 : Int32) (hs : mv_sat (fX8_wayOffRoll_38_b41 k5 v1 v2 v3 h) P) : mv_MW G mX8_wayOffRoll (mv_rm D mX8_wayOffRoll) (mv_Zf G mX8_wayOffRoll (mv_qi mv_SH h P)) 0 0 41 [.ref 38, .int v1, .int v2, .int v3] [] mv_SH h := by
  unfold fX8_wayOffRoll_38_b41 at hs
  refine mv_iinc (lv' := [.ref 38, .int v1, .int v2, .int (v3 + 1)]) 1 dX8_wayOffRoll_41 rfl (by decide) (Nat.le_of_ble_eq_true rfl) rfl rfl ?_
  refine mv_goto dX8_wayOffRoll_44 ?_
  exact (hk5 _ _ _ hs)
noncomputable def fX8_wayOffRoll_38_b39 (k5 : Int32 → Int32 → Int32 → mv_H → Option (Int32)) (v1 : Int32) (v3 : Int32) (h : mv_H) : Option (Int32) := fX8_wayOffRoll_38_b41 k5 v1 v3 v3 h
set_option maxRecDepth 100000 in
set_option maxHeartbeats 4000000 in
theorem BX8_wayOffRoll_38_b39 (G : mv_G) (d D : Nat) (hD : d + 0 ≤ D) (P : Int32 → Prop) (k5 : Int32 → Int32 → Int32 → mv_H → Option (Int32)) (h : mv_H) (hk5 : ∀ (v1 : Int32) (v2 : Int32) (v3 : Int32), mv_sat (k5 v1 v2 v3 h) P → mv_MW G mX8_wayOffRoll (mv_rm D mX8_wayOffRoll) (mv_Zf G mX8_wayOffRoll (mv_qi mv_SH h P)) 0 0 5 [.ref 38, .int v1, .int v2, .int v3] [] mv_SH h) (v1 : Int32) (v3 : Int32) (hs : mv_sat (fX8_wayOffRoll_38_b39 k5 v1 v3 h) P) : mv_MW G mX8_wayOffRoll (mv_rm D mX8_wayOffRoll) (mv_Zf G mX8_wayOffRoll (mv_qi mv_SH h P)) 0 0 39 [.ref 38, .int v1, .float 0, .int v3] [] mv_SH h := by
  unfold fX8_wayOffRoll_38_b39 at hs
  refine mv_iload_n dX8_wayOffRoll_39 rfl ?_
  refine mv_istore_n (lv' := [.ref 38, .int v1, .int v3, .int v3]) dX8_wayOffRoll_40 (Nat.le_of_ble_eq_true rfl) rfl rfl ?_
  exact (BX8_wayOffRoll_38_b41 G d D (by omega) P _ _ hk5 _ _ _ hs)
noncomputable def fX8_lengthOff_38 (p0 : Int32) (h : mv_H) : Option (Int32) := (fX9_turnOf p0).bind fun r568 => if r568 = 0 then ((fX9_axisOf p0).bind fun r569 => (fX8_round_38 r569 h).bind fun r570 => some r570) else (fX9_axisOf p0).bind fun r571 => (fX8_reach_38 r571 h).bind fun r572 => some r572
set_option maxRecDepth 100000 in
set_option maxHeartbeats 4000000 in
theorem TX8_lengthOff_38 (G : mv_G) (d : Nat) (P : Int32 → Prop) (p0 : Int32) (h : mv_H) (hs : mv_sat (fX8_lengthOff_38 p0 h) P) : mv_met G (d + 2) mX8_lengthOff [.ref 38, .int p0] mv_SH h (mv_qi mv_SH h P) := by
  unfold fX8_lengthOff_38 at hs
  obtain ⟨D, hDe⟩ : ∃ D, D = d + 2 := ⟨_, rfl⟩
  rw [← hDe]
  have hD : d + 2 ≤ D := by omega
  refine mv_enter (lv := [.ref 38, .int p0]) 0 (by decide) (by decide +kernel) rfl (Nat.le_of_ble_eq_true rfl) ?_
  refine mv_iload_n dX8_lengthOff_0 rfl ?_
  refine mv_cS (st := []) dX8_lengthOff_1 kk_X8_62 (TX9_turnOf G d _ _ _ (mv_sat_bind hs)) rfl rfl (Nat.le_of_ble_eq_true rfl) (by omega) rfl ⟨Nat.zero_le _, Nat.zero_le _⟩ (mv_ki fun r568 hs => ?_)
  refine mv_if_ne dX8_lengthOff_4 hs (fun _ hs => ?_) (fun _ hs => ?_)
  · refine mv_aload_n dX8_lengthOff_7 rfl ?_
    refine mv_iload_n dX8_lengthOff_8 rfl ?_
    refine mv_cS (st := [.ref 38]) dX8_lengthOff_9 kk_X8_59 (TX9_axisOf G d _ _ _ (mv_sat_bind hs)) rfl rfl (Nat.le_of_ble_eq_true rfl) (by omega) rfl ⟨Nat.zero_le _, Nat.zero_le _⟩ (mv_ki fun r569 hs => ?_)
    refine mv_cV (st := []) dX8_lengthOff_12 kk_X8_43 (TX8_round_38 G d _ _ _ (mv_sat_bind hs)) so_38 vc_8 rfl rfl (Nat.le_of_ble_eq_true rfl) (by omega) rfl ⟨Nat.zero_le _, Nat.zero_le _⟩ (mv_ki fun r570 hs => ?_)
    refine mv_goto dX8_lengthOff_15 ?_
    exact mv_iret dX8_lengthOff_26 rfl ⟨_, rfl, rfl, rfl, mv_sat_some hs⟩
  · refine mv_aload_n dX8_lengthOff_18 rfl ?_
    refine mv_iload_n dX8_lengthOff_19 rfl ?_
    refine mv_cS (st := [.ref 38]) dX8_lengthOff_20 kk_X8_59 (TX9_axisOf G d _ _ _ (mv_sat_bind hs)) rfl rfl (Nat.le_of_ble_eq_true rfl) (by omega) rfl ⟨Nat.zero_le _, Nat.zero_le _⟩ (mv_ki fun r571 hs => ?_)
    refine mv_cV (st := []) dX8_lengthOff_23 kk_X8_46 (TX8_reach_38 G d _ _ _ (mv_sat_bind hs)) so_38 vc_8 rfl rfl (Nat.le_of_ble_eq_true rfl) (by omega) rfl ⟨Nat.zero_le _, Nat.zero_le _⟩ (mv_ki fun r572 hs => ?_)
    exact mv_iret dX8_lengthOff_26 rfl ⟨_, rfl, rfl, rfl, mv_sat_some hs⟩
noncomputable def fX8_wayOffRoll_38_b5 : Nat → Int32 → Int32 → Int32 → mv_H → Option (Int32)
  | 0, _, _, _, _ => none
  | n + 1, v1, v2, v3, h => if v3 < 6 then ((fX8_acrossOff_38 v3 h).bind fun r567 => if v1 < r567 then fX8_wayOffRoll_38_b41 (fX8_wayOffRoll_38_b5 n) v1 v2 v3 h else if v2 = (-6) then fX8_wayOffRoll_38_b39 (fX8_wayOffRoll_38_b5 n) v1 v3 h else (fX8_lengthOff_38 v3 h).bind fun r573 => (fX8_lengthOff_38 v2 h).bind fun r574 => if r573 < r574 then fX8_wayOffRoll_38_b39 (fX8_wayOffRoll_38_b5 n) v1 v3 h else fX8_wayOffRoll_38_b41 (fX8_wayOffRoll_38_b5 n) v1 v2 v3 h) else some v2
set_option maxRecDepth 100000 in
set_option maxHeartbeats 4000000 in
theorem BX8_wayOffRoll_38_b5 (G : mv_G) (d D : Nat) (hD : d + 3 ≤ D) (P : Int32 → Prop) (h : mv_H) : ∀ (n : Nat) (v1 : Int32) (v2 : Int32) (v3 : Int32), mv_sat (fX8_wayOffRoll_38_b5 n v1 v2 v3 h) P → mv_MW G mX8_wayOffRoll (mv_rm D mX8_wayOffRoll) (mv_Zf G mX8_wayOffRoll (mv_qi mv_SH h P)) 0 0 5 [.ref 38, .int v1, .int v2, .int v3] [] mv_SH h := by
  intro n
  induction n with
  | zero =>
    intro v1 v2 v3 hs
    unfold fX8_wayOffRoll_38_b5 at hs
    exact (mv_sat_none hs).elim
  | succ n ih =>
    intro v1 v2 v3 hs
    unfold fX8_wayOffRoll_38_b5 at hs
    refine mv_iload_n dX8_wayOffRoll_5 rfl ?_
    refine mv_bipush 6 dX8_wayOffRoll_6 (by decide) ?_
    refine mv_icmp_ge dX8_wayOffRoll_8 hs (fun _ hs => ?_) (fun _ hs => ?_)
    · refine mv_aload_n dX8_wayOffRoll_11 rfl ?_
      refine mv_iload_n dX8_wayOffRoll_12 rfl ?_
      refine mv_cV (st := []) dX8_wayOffRoll_13 kk_X8_69 (TX8_acrossOff_38 G d _ _ _ (mv_sat_bind hs)) so_38 vc_8 rfl rfl (Nat.le_of_ble_eq_true rfl) (by omega) rfl ⟨Nat.zero_le _, Nat.zero_le _⟩ (mv_ki fun r567 hs => ?_)
      refine mv_iload_n dX8_wayOffRoll_16 rfl ?_
      refine mv_icmp_gt dX8_wayOffRoll_17 hs (fun _ hs => ?_) (fun _ hs => ?_)
      · exact (BX8_wayOffRoll_38_b41 G d D (by omega) P _ _ ih _ _ _ hs)
      · refine mv_iload_n dX8_wayOffRoll_20 rfl ?_
        refine mv_bipush (-6) dX8_wayOffRoll_21 (by decide) ?_
        refine mv_icmp_eq dX8_wayOffRoll_23 hs (fun _ hs => ?_) (fun _ hs => ?_)
        · exact mv_weak (lv' := [.ref 38, .int v1, .float 0, .int v3]) (mv_s (mv_s (mv_k (mv_s mv_n)))) (BX8_wayOffRoll_38_b39 G d D (by omega) P _ _ ih _ _ hs)
        · refine mv_aload_n dX8_wayOffRoll_26 rfl ?_
          refine mv_iload_n dX8_wayOffRoll_27 rfl ?_
          refine mv_cV (st := []) dX8_wayOffRoll_28 kk_X8_72 (TX8_lengthOff_38 G d _ _ _ (mv_sat_bind hs)) so_38 vc_8 rfl rfl (Nat.le_of_ble_eq_true rfl) (by omega) rfl ⟨Nat.zero_le _, Nat.zero_le _⟩ (mv_ki fun r573 hs => ?_)
          refine mv_aload_n dX8_wayOffRoll_31 rfl ?_
          refine mv_iload_n dX8_wayOffRoll_32 rfl ?_
          refine mv_cV (st := [.int r573]) dX8_wayOffRoll_33 kk_X8_72 (TX8_lengthOff_38 G d _ _ _ (mv_sat_bind hs)) so_38 vc_8 rfl rfl (Nat.le_of_ble_eq_true rfl) (by omega) rfl ⟨Nat.zero_le _, Nat.zero_le _⟩ (mv_ki fun r574 hs => ?_)
          refine mv_icmp_ge dX8_wayOffRoll_36 hs (fun _ hs => ?_) (fun _ hs => ?_)
          · exact mv_weak (lv' := [.ref 38, .int v1, .float 0, .int v3]) (mv_s (mv_s (mv_k (mv_s mv_n)))) (BX8_wayOffRoll_38_b39 G d D (by omega) P _ _ ih _ _ hs)
          · exact (BX8_wayOffRoll_38_b41 G d D (by omega) P _ _ ih _ _ _ hs)
    · refine mv_iload_n dX8_wayOffRoll_47 rfl ?_
      exact mv_iret dX8_wayOffRoll_48 rfl ⟨_, rfl, rfl, rfl, mv_sat_some hs⟩
noncomputable def fX8_wayOffRoll_38 (p0 : Int32) (h : mv_H) : Option (Int32) := fX8_wayOffRoll_38_b5 mv_F p0 (-6) 0 h
set_option maxRecDepth 100000 in
set_option maxHeartbeats 4000000 in
theorem TX8_wayOffRoll_38 (G : mv_G) (d : Nat) (P : Int32 → Prop) (p0 : Int32) (h : mv_H) (hs : mv_sat (fX8_wayOffRoll_38 p0 h) P) : mv_met G (d + 3) mX8_wayOffRoll [.ref 38, .int p0] mv_SH h (mv_qi mv_SH h P) := by
  unfold fX8_wayOffRoll_38 at hs
  obtain ⟨D, hDe⟩ : ∃ D, D = d + 3 := ⟨_, rfl⟩
  rw [← hDe]
  have hD : d + 3 ≤ D := by omega
  refine mv_enter (lv := [.ref 38, .int p0, .float 0, .float 0]) 2 (by decide) (by decide +kernel) rfl (Nat.le_of_ble_eq_true rfl) ?_
  refine mv_bipush (-6) dX8_wayOffRoll_0 (by decide) ?_
  refine mv_istore_n (lv' := [.ref 38, .int p0, .int (-6), .float 0]) dX8_wayOffRoll_2 (Nat.le_of_ble_eq_true rfl) rfl rfl ?_
  refine mv_iconst 0 dX8_wayOffRoll_3 (by decide) ?_
  refine mv_istore_n (lv' := [.ref 38, .int p0, .int (-6), .int 0]) dX8_wayOffRoll_4 (Nat.le_of_ble_eq_true rfl) rfl rfl ?_
  exact (BX8_wayOffRoll_38_b5 G d D (by omega) P _ _ _ _ _ hs)
noncomputable def fX9_roll_0 (p0 : Int32) (p1 : Int32) (p2 : Int32) (h : mv_H) : Option (Int32 × mv_H) := (fX7_has_2 p0 h).bind fun r558 => if r558 = 0 then some ((-1), h) else (fX9_isWithin p1 (1 : Int32) (150 : Int32)).bind fun r559 => if r559 = 0 then some ((-2), h) else (fX9_isWithin p2 (0 : Int32) (2 : Int32)).bind fun r560 => if r560 = 0 then some ((-2), h) else (fX9_wrapOf_0 p0 h).bind fun r561 => (fX8_wayOffRoll_38 p1 r561).bind fun r575 => if r575 = (-6) then some ((-6), r561) else if p2 = 0 then ((fX8_lengthOff_38 r575 r561).bind fun r576 => some (r576, r561)) else if p2 = 1 then ((fX9_axisOf r575).bind fun r577 => some (r577, r561)) else (fX9_turnOf r575).bind fun r578 => some (r578, r561)
set_option maxRecDepth 100000 in
set_option maxHeartbeats 4000000 in
theorem TX9_roll_0 (G : mv_G) (d : Nat) (P : Int32 × mv_H → Prop) (p0 : Int32) (p1 : Int32) (p2 : Int32) (h : mv_H) (hs : mv_sat (fX9_roll_0 p0 p1 p2 h) P) : mv_met G (d + 4) mX9_roll [.ref 0, .int p0, .int p1, .int p2] mv_SH h (mv_qI mv_SH P) := by
  unfold fX9_roll_0 at hs
  obtain ⟨D, hDe⟩ : ∃ D, D = d + 4 := ⟨_, rfl⟩
  rw [← hDe]
  have hD : d + 4 ≤ D := by omega
  refine mv_enter (lv := [.ref 0, .int p0, .int p1, .int p2, .float 0, .float 0]) 2 (by decide) (by decide +kernel) rfl (Nat.le_of_ble_eq_true rfl) ?_
  refine mv_aload_n dX9_roll_0 rfl ?_
  refine mv_getr dX9_roll_1 kf_X9_10 gf_0_0 ?_
  refine mv_getr dX9_roll_4 kf_X9_64 gf_1_0 ?_
  refine mv_iload_n dX9_roll_7 rfl ?_
  refine mv_cV (st := []) dX9_roll_8 kk_X9_100 (TX7_has_2 G d _ _ _ (mv_sat_bind hs)) so_2 vc_7 rfl rfl (Nat.le_of_ble_eq_true rfl) (by omega) rfl ⟨Nat.zero_le _, Nat.zero_le _⟩ (mv_ki fun r558 hs => ?_)
  refine mv_if_ne dX9_roll_11 hs (fun _ hs => ?_) (fun _ hs => ?_)
  · refine mv_iconst (-1) dX9_roll_14 (by decide) ?_
    exact mv_iret dX9_roll_15 rfl ⟨((-1), h), rfl, rfl, rfl, mv_sat_some hs⟩
  · refine mv_iload_n dX9_roll_16 rfl ?_
    refine mv_iconst 1 dX9_roll_17 (by decide) ?_
    refine mv_sipush 150 dX9_roll_18 (by decide) ?_
    refine mv_cS (st := []) dX9_roll_21 kk_X9_79 (TX9_isWithin G d _ _ _ _ _ (mv_sat_bind hs)) rfl rfl (Nat.le_of_ble_eq_true rfl) (by omega) rfl ⟨Nat.zero_le _, Nat.zero_le _⟩ (mv_ki fun r559 hs => ?_)
    refine mv_if_eq dX9_roll_24 hs (fun _ hs => ?_) (fun _ hs => ?_)
    · refine mv_bipush (-2) dX9_roll_36 (by decide) ?_
      exact mv_iret dX9_roll_38 rfl ⟨((-2), h), rfl, rfl, rfl, mv_sat_some hs⟩
    · refine mv_iload_n dX9_roll_27 rfl ?_
      refine mv_iconst 0 dX9_roll_28 (by decide) ?_
      refine mv_iconst 2 dX9_roll_29 (by decide) ?_
      refine mv_cS (st := []) dX9_roll_30 kk_X9_79 (TX9_isWithin G d _ _ _ _ _ (mv_sat_bind hs)) rfl rfl (Nat.le_of_ble_eq_true rfl) (by omega) rfl ⟨Nat.zero_le _, Nat.zero_le _⟩ (mv_ki fun r560 hs => ?_)
      refine mv_if_ne dX9_roll_33 hs (fun _ hs => ?_) (fun _ hs => ?_)
      · refine mv_bipush (-2) dX9_roll_36 (by decide) ?_
        exact mv_iret dX9_roll_38 rfl ⟨((-2), h), rfl, rfl, rfl, mv_sat_some hs⟩
      · refine mv_aload_n dX9_roll_39 rfl ?_
        refine mv_iload_n dX9_roll_40 rfl ?_
        refine mv_cV (st := []) dX9_roll_41 kk_X9_144 (TX9_wrapOf_0 G d _ _ _ (mv_sat_bind hs)) so_0 vc_9 rfl rfl (Nat.le_of_ble_eq_true rfl) (by omega) rfl ⟨Nat.zero_le _, Nat.zero_le _⟩ (mv_kc fun r561 hs => ?_)
        refine mv_astore (lv' := [.ref 0, .int p0, .int p1, .int p2, .ref 38, .float 0]) dX9_roll_44 (Nat.le_of_ble_eq_true rfl) rfl rfl ?_
        refine mv_aload dX9_roll_46 rfl ?_
        refine mv_iload_n dX9_roll_48 rfl ?_
        refine mv_cV (st := []) dX9_roll_49 kk_X9_201 (TX8_wayOffRoll_38 G d _ _ _ (mv_sat_bind hs)) so_38 vc_8 rfl rfl (Nat.le_of_ble_eq_true rfl) (by omega) rfl ⟨Nat.zero_le _, Nat.zero_le _⟩ (mv_ki fun r575 hs => ?_)
        refine mv_istore (lv' := [.ref 0, .int p0, .int p1, .int p2, .ref 38, .int r575]) dX9_roll_52 (Nat.le_of_ble_eq_true rfl) rfl rfl ?_
        refine mv_iload dX9_roll_54 rfl ?_
        refine mv_bipush (-6) dX9_roll_56 (by decide) ?_
        refine mv_icmp_ne dX9_roll_58 hs (fun _ hs => ?_) (fun _ hs => ?_)
        · refine mv_bipush (-6) dX9_roll_61 (by decide) ?_
          exact mv_iret dX9_roll_63 rfl ⟨((-6), r561), rfl, rfl, rfl, mv_sat_some hs⟩
        · refine mv_iload_n dX9_roll_64 rfl ?_
          refine mv_if_ne dX9_roll_65 hs (fun _ hs => ?_) (fun _ hs => ?_)
          · refine mv_aload dX9_roll_68 rfl ?_
            refine mv_iload dX9_roll_70 rfl ?_
            refine mv_cV (st := []) dX9_roll_72 kk_X9_204 (TX8_lengthOff_38 G d _ _ _ (mv_sat_bind hs)) so_38 vc_8 rfl rfl (Nat.le_of_ble_eq_true rfl) (by omega) rfl ⟨Nat.zero_le _, Nat.zero_le _⟩ (mv_ki fun r576 hs => ?_)
            exact mv_iret dX9_roll_75 rfl ⟨(r576, r561), rfl, rfl, rfl, mv_sat_some hs⟩
          · refine mv_iload_n dX9_roll_76 rfl ?_
            refine mv_iconst 1 dX9_roll_77 (by decide) ?_
            refine mv_icmp_ne dX9_roll_78 hs (fun _ hs => ?_) (fun _ hs => ?_)
            · refine mv_iload dX9_roll_81 rfl ?_
              refine mv_cS (st := []) dX9_roll_83 kk_X9_170 (TX9_axisOf G d _ _ _ (mv_sat_bind hs)) rfl rfl (Nat.le_of_ble_eq_true rfl) (by omega) rfl ⟨Nat.zero_le _, Nat.zero_le _⟩ (mv_ki fun r577 hs => ?_)
              refine mv_goto dX9_roll_86 ?_
              exact mv_iret dX9_roll_94 rfl ⟨(r577, r561), rfl, rfl, rfl, mv_sat_some hs⟩
            · refine mv_iload dX9_roll_89 rfl ?_
              refine mv_cS (st := []) dX9_roll_91 kk_X9_173 (TX9_turnOf G d _ _ _ (mv_sat_bind hs)) rfl rfl (Nat.le_of_ble_eq_true rfl) (by omega) rfl ⟨Nat.zero_le _, Nat.zero_le _⟩ (mv_ki fun r578 hs => ?_)
              exact mv_iret dX9_roll_94 rfl ⟨(r578, r561), rfl, rfl, rfl, mv_sat_some hs⟩
noncomputable def fX10_isWide (p0 : Int32) : Option (Int32) := (fX10_in (Int32.toInt64 p0) (1 : Int64) (150 : Int64)).bind fun r581 => if mv_01 r581 then some r581 else none
set_option maxRecDepth 100000 in
set_option maxHeartbeats 4000000 in
theorem TX10_isWide (G : mv_G) (d : Nat) (P : Int32 → Prop) (p0 : Int32) (h : mv_H) (hs : mv_sat (fX10_isWide p0) P) : mv_met G (d + 1) mX10_isWide [.int p0] mv_SH h (mv_qi mv_SH h P) := by
  unfold fX10_isWide at hs
  obtain ⟨D, hDe⟩ : ∃ D, D = d + 1 := ⟨_, rfl⟩
  rw [← hDe]
  have hD : d + 1 ≤ D := by omega
  refine mv_enter (lv := [.int p0]) 0 (by decide) (by decide +kernel) rfl (Nat.le_of_ble_eq_true rfl) ?_
  refine mv_iload_n dX10_isWide_0 rfl ?_
  refine mv_i2l dX10_isWide_1 ?_
  refine mv_lconst 1 dX10_isWide_2 rfl ?_
  refine mv_ldc2 dX10_isWide_3 kn_X10_138 ?_
  refine mv_cS (st := []) dX10_isWide_6 kk_X10_104 (TX10_in G d _ _ _ _ _ (mv_sat_bind hs)) rfl rfl (Nat.le_of_ble_eq_true rfl) (by omega) rfl ⟨Nat.zero_le _, Nat.zero_le _⟩ (mv_ki fun r581 hs => ?_)
  obtain ⟨h01, hs⟩ := mv_sat_g hs
  exact mv_zret dX10_isWide_9 rfl h01 ⟨_, rfl, rfl, rfl, mv_sat_some hs⟩
noncomputable def fX10_acrossBy_55 (p0 : Int32) (h : mv_H) : Option (Int32) := if (p0 - p0 / 2 * 2) = 0 then (if mv_in (p0 / 2) 3 then (some (h 66 (p0 / 2).toNatClampNeg)) else none) else if mv_in (p0 / 2) 3 then (some (h 65 (p0 / 2).toNatClampNeg)) else none
set_option maxRecDepth 100000 in
set_option maxHeartbeats 4000000 in
theorem TX10_acrossBy_55 (G : mv_G) (d : Nat) (P : Int32 → Prop) (p0 : Int32) (h : mv_H) (hs : mv_sat (fX10_acrossBy_55 p0 h) P) : mv_met G (d + 0) mX10_acrossBy [.ref 55, .int p0] mv_SH h (mv_qi mv_SH h P) := by
  unfold fX10_acrossBy_55 at hs
  obtain ⟨D, hDe⟩ : ∃ D, D = d + 0 := ⟨_, rfl⟩
  rw [← hDe]
  have hD : d + 0 ≤ D := by omega
  refine mv_enter (lv := [.ref 55, .int p0]) 0 (by decide) (by decide +kernel) rfl (Nat.le_of_ble_eq_true rfl) ?_
  refine mv_iload_n dX10_acrossBy_0 rfl ?_
  refine mv_iconst 2 dX10_acrossBy_1 (by decide) ?_
  refine mv_iremk dX10_acrossBy_2 (by decide) ?_
  refine mv_if_ne dX10_acrossBy_3 hs (fun _ hs => ?_) (fun _ hs => ?_)
  · refine mv_aload_n dX10_acrossBy_6 rfl ?_
    refine mv_getr dX10_acrossBy_7 kf_X10_40 gf_55_24 ?_
    refine mv_iload_n dX10_acrossBy_10 rfl ?_
    refine mv_iconst 2 dX10_acrossBy_11 (by decide) ?_
    refine mv_idivk dX10_acrossBy_12 (by decide) ?_
    refine mv_iaload dX10_acrossBy_13 so_66 hs (fun hs => ?_)
    refine mv_goto dX10_acrossBy_14 ?_
    exact mv_iret dX10_acrossBy_25 rfl ⟨_, rfl, rfl, rfl, mv_sat_some hs⟩
  · refine mv_aload_n dX10_acrossBy_17 rfl ?_
    refine mv_getr dX10_acrossBy_18 kf_X10_37 gf_55_23 ?_
    refine mv_iload_n dX10_acrossBy_21 rfl ?_
    refine mv_iconst 2 dX10_acrossBy_22 (by decide) ?_
    refine mv_idivk dX10_acrossBy_23 (by decide) ?_
    refine mv_iaload dX10_acrossBy_24 so_65 hs (fun hs => ?_)
    exact mv_iret dX10_acrossBy_25 rfl ⟨_, rfl, rfl, rfl, mv_sat_some hs⟩
noncomputable def fX10_rollBy_55_b54 (k5 : Int32 → Int32 → Int32 → mv_H → Option (Int32)) (v1 : Int32) (v3 : Int32) (s0 : Int32) (h : mv_H) : Option (Int32) := k5 v1 s0 (v3 + 1) h
set_option maxRecDepth 100000 in
set_option maxHeartbeats 4000000 in
theorem BX10_rollBy_55_b54 (G : mv_G) (d D : Nat) (hD : d + 0 ≤ D) (P : Int32 → Prop) (k5 : Int32 → Int32 → Int32 → mv_H → Option (Int32)) (h : mv_H) (hk5 : ∀ (v1 : Int32) (v2 : Int32) (v3 : Int32), mv_sat (k5 v1 v2 v3 h) P → mv_MW G mX10_rollBy (mv_rm D mX10_rollBy) (mv_Zf G mX10_rollBy (mv_qi mv_SH h P)) 0 0 5 [.ref 55, .int v1, .int v2, .int v3, .float 0] [] mv_SH h) (v1 : Int32) (v3 : Int32) (s0 : Int32) (hs : mv_sat (fX10_rollBy_55_b54 k5 v1 v3 s0 h) P) : mv_MW G mX10_rollBy (mv_rm D mX10_rollBy) (mv_Zf G mX10_rollBy (mv_qi mv_SH h P)) 0 0 54 [.ref 55, .int v1, .float 0, .int v3, .float 0] [.int s0] mv_SH h := by
  unfold fX10_rollBy_55_b54 at hs
  refine mv_istore_n (lv' := [.ref 55, .int v1, .int s0, .int v3, .float 0]) dX10_rollBy_54 (Nat.le_of_ble_eq_true rfl) rfl rfl ?_
  refine mv_iinc (lv' := [.ref 55, .int v1, .int s0, .int (v3 + 1), .float 0]) 1 dX10_rollBy_55 rfl (by decide) (Nat.le_of_ble_eq_true rfl) rfl rfl ?_
  refine mv_goto dX10_rollBy_58 ?_
  exact (hk5 _ _ _ hs)
noncomputable def fX10_rollBy_55_b42 (k5 : Int32 → Int32 → Int32 → mv_H → Option (Int32)) (v1 : Int32) (v2 : Int32) (v3 : Int32) (s0 : Int32) (h : mv_H) : Option (Int32) := if s0 = 0 then fX10_rollBy_55_b54 k5 v1 v3 v2 h else fX10_rollBy_55_b54 k5 v1 v3 v3 h
set_option maxRecDepth 100000 in
set_option maxHeartbeats 4000000 in
theorem BX10_rollBy_55_b42 (G : mv_G) (d D : Nat) (hD : d + 0 ≤ D) (P : Int32 → Prop) (k5 : Int32 → Int32 → Int32 → mv_H → Option (Int32)) (h : mv_H) (hk5 : ∀ (v1 : Int32) (v2 : Int32) (v3 : Int32), mv_sat (k5 v1 v2 v3 h) P → mv_MW G mX10_rollBy (mv_rm D mX10_rollBy) (mv_Zf G mX10_rollBy (mv_qi mv_SH h P)) 0 0 5 [.ref 55, .int v1, .int v2, .int v3, .float 0] [] mv_SH h) (v1 : Int32) (v2 : Int32) (v3 : Int32) (s0 : Int32) (hs : mv_sat (fX10_rollBy_55_b42 k5 v1 v2 v3 s0 h) P) : mv_MW G mX10_rollBy (mv_rm D mX10_rollBy) (mv_Zf G mX10_rollBy (mv_qi mv_SH h P)) 0 0 42 [.ref 55, .int v1, .int v2, .int v3, .float 0] [.int s0] mv_SH h := by
  unfold fX10_rollBy_55_b42 at hs
  refine mv_istore (lv' := [.ref 55, .int v1, .int v2, .int v3, .int s0]) dX10_rollBy_42 (Nat.le_of_ble_eq_true rfl) rfl rfl ?_
  refine mv_iload dX10_rollBy_44 rfl ?_
  refine mv_if_eq dX10_rollBy_46 hs (fun _ hs => ?_) (fun _ hs => ?_)
  · refine mv_iload_n dX10_rollBy_53 rfl ?_
    exact mv_weak (lv' := [.ref 55, .int v1, .float 0, .int v3, .float 0]) (mv_s (mv_s (mv_k (mv_s (mv_k mv_n))))) (BX10_rollBy_55_b54 G d D (by omega) P _ _ hk5 _ _ _ hs)
  · refine mv_iload_n dX10_rollBy_49 rfl ?_
    refine mv_goto dX10_rollBy_50 ?_
    exact mv_weak (lv' := [.ref 55, .int v1, .float 0, .int v3, .float 0]) (mv_s (mv_s (mv_k (mv_s (mv_k mv_n))))) (BX10_rollBy_55_b54 G d D (by omega) P _ _ hk5 _ _ _ hs)
noncomputable def fX10_rollBy_55_b41 (k5 : Int32 → Int32 → Int32 → mv_H → Option (Int32)) (v1 : Int32) (v2 : Int32) (v3 : Int32) (h : mv_H) : Option (Int32) := fX10_rollBy_55_b42 k5 v1 v2 v3 0 h
set_option maxRecDepth 100000 in
set_option maxHeartbeats 4000000 in
theorem BX10_rollBy_55_b41 (G : mv_G) (d D : Nat) (hD : d + 0 ≤ D) (P : Int32 → Prop) (k5 : Int32 → Int32 → Int32 → mv_H → Option (Int32)) (h : mv_H) (hk5 : ∀ (v1 : Int32) (v2 : Int32) (v3 : Int32), mv_sat (k5 v1 v2 v3 h) P → mv_MW G mX10_rollBy (mv_rm D mX10_rollBy) (mv_Zf G mX10_rollBy (mv_qi mv_SH h P)) 0 0 5 [.ref 55, .int v1, .int v2, .int v3, .float 0] [] mv_SH h) (v1 : Int32) (v2 : Int32) (v3 : Int32) (hs : mv_sat (fX10_rollBy_55_b41 k5 v1 v2 v3 h) P) : mv_MW G mX10_rollBy (mv_rm D mX10_rollBy) (mv_Zf G mX10_rollBy (mv_qi mv_SH h P)) 0 0 41 [.ref 55, .int v1, .int v2, .int v3, .float 0] [] mv_SH h := by
  unfold fX10_rollBy_55_b41 at hs
  refine mv_iconst 0 dX10_rollBy_41 (by decide) ?_
  exact (BX10_rollBy_55_b42 G d D (by omega) P _ _ hk5 _ _ _ _ hs)
noncomputable def fX10_rollBy_55_b37 (k5 : Int32 → Int32 → Int32 → mv_H → Option (Int32)) (v1 : Int32) (v2 : Int32) (v3 : Int32) (h : mv_H) : Option (Int32) := fX10_rollBy_55_b42 k5 v1 v2 v3 1 h
set_option maxRecDepth 100000 in
set_option maxHeartbeats 4000000 in
theorem BX10_rollBy_55_b37 (G : mv_G) (d D : Nat) (hD : d + 0 ≤ D) (P : Int32 → Prop) (k5 : Int32 → Int32 → Int32 → mv_H → Option (Int32)) (h : mv_H) (hk5 : ∀ (v1 : Int32) (v2 : Int32) (v3 : Int32), mv_sat (k5 v1 v2 v3 h) P → mv_MW G mX10_rollBy (mv_rm D mX10_rollBy) (mv_Zf G mX10_rollBy (mv_qi mv_SH h P)) 0 0 5 [.ref 55, .int v1, .int v2, .int v3, .float 0] [] mv_SH h) (v1 : Int32) (v2 : Int32) (v3 : Int32) (hs : mv_sat (fX10_rollBy_55_b37 k5 v1 v2 v3 h) P) : mv_MW G mX10_rollBy (mv_rm D mX10_rollBy) (mv_Zf G mX10_rollBy (mv_qi mv_SH h P)) 0 0 37 [.ref 55, .int v1, .int v2, .int v3, .float 0] [] mv_SH h := by
  unfold fX10_rollBy_55_b37 at hs
  refine mv_iconst 1 dX10_rollBy_37 (by decide) ?_
  refine mv_goto dX10_rollBy_38 ?_
  exact (BX10_rollBy_55_b42 G d D (by omega) P _ _ hk5 _ _ _ _ hs)
noncomputable def fX10_lengthBy_55 (p0 : Int32) (h : mv_H) : Option (Int32) := if (p0 - p0 / 2 * 2) = 0 then (if mv_in (p0 / 2) 3 then (some (h 65 (p0 / 2).toNatClampNeg)) else none) else if mv_in (p0 / 2) 3 then (some (h 66 (p0 / 2).toNatClampNeg)) else none
set_option maxRecDepth 100000 in
set_option maxHeartbeats 4000000 in
theorem TX10_lengthBy_55 (G : mv_G) (d : Nat) (P : Int32 → Prop) (p0 : Int32) (h : mv_H) (hs : mv_sat (fX10_lengthBy_55 p0 h) P) : mv_met G (d + 0) mX10_lengthBy [.ref 55, .int p0] mv_SH h (mv_qi mv_SH h P) := by
  unfold fX10_lengthBy_55 at hs
  obtain ⟨D, hDe⟩ : ∃ D, D = d + 0 := ⟨_, rfl⟩
  rw [← hDe]
  have hD : d + 0 ≤ D := by omega
  refine mv_enter (lv := [.ref 55, .int p0]) 0 (by decide) (by decide +kernel) rfl (Nat.le_of_ble_eq_true rfl) ?_
  refine mv_iload_n dX10_lengthBy_0 rfl ?_
  refine mv_iconst 2 dX10_lengthBy_1 (by decide) ?_
  refine mv_iremk dX10_lengthBy_2 (by decide) ?_
  refine mv_if_ne dX10_lengthBy_3 hs (fun _ hs => ?_) (fun _ hs => ?_)
  · refine mv_aload_n dX10_lengthBy_6 rfl ?_
    refine mv_getr dX10_lengthBy_7 kf_X10_37 gf_55_23 ?_
    refine mv_iload_n dX10_lengthBy_10 rfl ?_
    refine mv_iconst 2 dX10_lengthBy_11 (by decide) ?_
    refine mv_idivk dX10_lengthBy_12 (by decide) ?_
    refine mv_iaload dX10_lengthBy_13 so_65 hs (fun hs => ?_)
    refine mv_goto dX10_lengthBy_14 ?_
    exact mv_iret dX10_lengthBy_25 rfl ⟨_, rfl, rfl, rfl, mv_sat_some hs⟩
  · refine mv_aload_n dX10_lengthBy_17 rfl ?_
    refine mv_getr dX10_lengthBy_18 kf_X10_40 gf_55_24 ?_
    refine mv_iload_n dX10_lengthBy_21 rfl ?_
    refine mv_iconst 2 dX10_lengthBy_22 (by decide) ?_
    refine mv_idivk dX10_lengthBy_23 (by decide) ?_
    refine mv_iaload dX10_lengthBy_24 so_66 hs (fun hs => ?_)
    exact mv_iret dX10_lengthBy_25 rfl ⟨_, rfl, rfl, rfl, mv_sat_some hs⟩
noncomputable def fX10_rollBy_55_b5 : Nat → Int32 → Int32 → Int32 → mv_H → Option (Int32)
  | 0, _, _, _, _ => none
  | n + 1, v1, v2, v3, h => if v3 < 6 then ((fX10_acrossBy_55 v3 h).bind fun r585 => if v1 < r585 then fX10_rollBy_55_b41 (fX10_rollBy_55_b5 n) v1 v2 v3 h else if v2 < 0 then fX10_rollBy_55_b37 (fX10_rollBy_55_b5 n) v1 v2 v3 h else (fX10_lengthBy_55 v3 h).bind fun r586 => (fX10_lengthBy_55 v2 h).bind fun r587 => if r586 < r587 then fX10_rollBy_55_b37 (fX10_rollBy_55_b5 n) v1 v2 v3 h else fX10_rollBy_55_b41 (fX10_rollBy_55_b5 n) v1 v2 v3 h) else some v2
set_option maxRecDepth 100000 in
set_option maxHeartbeats 4000000 in
theorem BX10_rollBy_55_b5 (G : mv_G) (d D : Nat) (hD : d + 1 ≤ D) (P : Int32 → Prop) (h : mv_H) : ∀ (n : Nat) (v1 : Int32) (v2 : Int32) (v3 : Int32), mv_sat (fX10_rollBy_55_b5 n v1 v2 v3 h) P → mv_MW G mX10_rollBy (mv_rm D mX10_rollBy) (mv_Zf G mX10_rollBy (mv_qi mv_SH h P)) 0 0 5 [.ref 55, .int v1, .int v2, .int v3, .float 0] [] mv_SH h := by
  intro n
  induction n with
  | zero =>
    intro v1 v2 v3 hs
    unfold fX10_rollBy_55_b5 at hs
    exact (mv_sat_none hs).elim
  | succ n ih =>
    intro v1 v2 v3 hs
    unfold fX10_rollBy_55_b5 at hs
    refine mv_iload_n dX10_rollBy_5 rfl ?_
    refine mv_bipush 6 dX10_rollBy_6 (by decide) ?_
    refine mv_icmp_ge dX10_rollBy_8 hs (fun _ hs => ?_) (fun _ hs => ?_)
    · refine mv_aload_n dX10_rollBy_11 rfl ?_
      refine mv_iload_n dX10_rollBy_12 rfl ?_
      refine mv_cV (st := []) dX10_rollBy_13 kk_X10_238 (TX10_acrossBy_55 G d _ _ _ (mv_sat_bind hs)) so_55 vc_10 rfl rfl (Nat.le_of_ble_eq_true rfl) (by omega) rfl ⟨Nat.zero_le _, Nat.zero_le _⟩ (mv_ki fun r585 hs => ?_)
      refine mv_iload_n dX10_rollBy_16 rfl ?_
      refine mv_icmp_gt dX10_rollBy_17 hs (fun _ hs => ?_) (fun _ hs => ?_)
      · exact (BX10_rollBy_55_b41 G d D (by omega) P _ _ ih _ _ _ hs)
      · refine mv_iload_n dX10_rollBy_20 rfl ?_
        refine mv_if_lt dX10_rollBy_21 hs (fun _ hs => ?_) (fun _ hs => ?_)
        · exact (BX10_rollBy_55_b37 G d D (by omega) P _ _ ih _ _ _ hs)
        · refine mv_aload_n dX10_rollBy_24 rfl ?_
          refine mv_iload_n dX10_rollBy_25 rfl ?_
          refine mv_cV (st := []) dX10_rollBy_26 kk_X10_241 (TX10_lengthBy_55 G d _ _ _ (mv_sat_bind hs)) so_55 vc_10 rfl rfl (Nat.le_of_ble_eq_true rfl) (by omega) rfl ⟨Nat.zero_le _, Nat.zero_le _⟩ (mv_ki fun r586 hs => ?_)
          refine mv_aload_n dX10_rollBy_29 rfl ?_
          refine mv_iload_n dX10_rollBy_30 rfl ?_
          refine mv_cV (st := [.int r586]) dX10_rollBy_31 kk_X10_241 (TX10_lengthBy_55 G d _ _ _ (mv_sat_bind hs)) so_55 vc_10 rfl rfl (Nat.le_of_ble_eq_true rfl) (by omega) rfl ⟨Nat.zero_le _, Nat.zero_le _⟩ (mv_ki fun r587 hs => ?_)
          refine mv_icmp_ge dX10_rollBy_34 hs (fun _ hs => ?_) (fun _ hs => ?_)
          · exact (BX10_rollBy_55_b37 G d D (by omega) P _ _ ih _ _ _ hs)
          · exact (BX10_rollBy_55_b41 G d D (by omega) P _ _ ih _ _ _ hs)
    · refine mv_iload_n dX10_rollBy_61 rfl ?_
      exact mv_iret dX10_rollBy_62 rfl ⟨_, rfl, rfl, rfl, mv_sat_some hs⟩
noncomputable def fX10_rollBy_55 (p0 : Int32) (h : mv_H) : Option (Int32) := fX10_rollBy_55_b5 mv_F p0 (-6) 0 h
set_option maxRecDepth 100000 in
set_option maxHeartbeats 4000000 in
theorem TX10_rollBy_55 (G : mv_G) (d : Nat) (P : Int32 → Prop) (p0 : Int32) (h : mv_H) (hs : mv_sat (fX10_rollBy_55 p0 h) P) : mv_met G (d + 1) mX10_rollBy [.ref 55, .int p0] mv_SH h (mv_qi mv_SH h P) := by
  unfold fX10_rollBy_55 at hs
  obtain ⟨D, hDe⟩ : ∃ D, D = d + 1 := ⟨_, rfl⟩
  rw [← hDe]
  have hD : d + 1 ≤ D := by omega
  refine mv_enter (lv := [.ref 55, .int p0, .float 0, .float 0, .float 0]) 3 (by decide) (by decide +kernel) rfl (Nat.le_of_ble_eq_true rfl) ?_
  refine mv_bipush (-6) dX10_rollBy_0 (by decide) ?_
  refine mv_istore_n (lv' := [.ref 55, .int p0, .int (-6), .float 0, .float 0]) dX10_rollBy_2 (Nat.le_of_ble_eq_true rfl) rfl rfl ?_
  refine mv_iconst 0 dX10_rollBy_3 (by decide) ?_
  refine mv_istore_n (lv' := [.ref 55, .int p0, .int (-6), .int 0, .float 0]) dX10_rollBy_4 (Nat.le_of_ble_eq_true rfl) rfl rfl ?_
  exact (BX10_rollBy_55_b5 G d D (by omega) P _ _ _ _ _ hs)
noncomputable def fX10_roll_55 (p0 : Int32) (p1 : Int32) (p2 : Int32) (h : mv_H) : Option (Int32 × mv_H) := (fX10_isBox_55 p0 h).bind fun r580 => if r580 = 0 then some ((-1), h) else (fX10_isWide p1).bind fun r582 => if r582 = 0 then some ((-2), h) else (fX10_in (Int32.toInt64 p2) (0 : Int64) (2 : Int64)).bind fun r583 => if r583 = 0 then some ((-2), h) else (fX10_look_55 p0 h).bind fun r584 => (fX10_rollBy_55 p1 r584).bind fun r588 => if r588 < 0 then some ((-6), r584) else if p2 = 0 then ((fX10_lengthBy_55 r588 r584).bind fun r589 => some (r589, r584)) else if p2 = 1 then some (r588 / 2, r584) else some (r588 - r588 / 2 * 2, r584)
set_option maxRecDepth 100000 in
set_option maxHeartbeats 4000000 in
theorem TX10_roll_55 (G : mv_G) (d : Nat) (P : Int32 × mv_H → Prop) (p0 : Int32) (p1 : Int32) (p2 : Int32) (h : mv_H) (hs : mv_sat (fX10_roll_55 p0 p1 p2 h) P) : mv_met G (d + 3) mX10_roll [.ref 55, .int p0, .int p1, .int p2] mv_SH h (mv_qI mv_SH P) := by
  unfold fX10_roll_55 at hs
  obtain ⟨D, hDe⟩ : ∃ D, D = d + 3 := ⟨_, rfl⟩
  rw [← hDe]
  have hD : d + 3 ≤ D := by omega
  refine mv_enter (lv := [.ref 55, .int p0, .int p1, .int p2, .float 0]) 1 (by decide) (by decide +kernel) rfl (Nat.le_of_ble_eq_true rfl) ?_
  refine mv_aload_n dX10_roll_0 rfl ?_
  refine mv_iload_n dX10_roll_1 rfl ?_
  refine mv_cV (st := []) dX10_roll_2 kk_X10_146 (TX10_isBox_55 G d _ _ _ (mv_sat_bind hs)) so_55 vc_10 rfl rfl (Nat.le_of_ble_eq_true rfl) (by omega) rfl ⟨Nat.zero_le _, Nat.zero_le _⟩ (mv_ki fun r580 hs => ?_)
  refine mv_if_ne dX10_roll_5 hs (fun _ hs => ?_) (fun _ hs => ?_)
  · refine mv_iconst (-1) dX10_roll_8 (by decide) ?_
    exact mv_iret dX10_roll_9 rfl ⟨((-1), h), rfl, rfl, rfl, mv_sat_some hs⟩
  · refine mv_iload_n dX10_roll_10 rfl ?_
    refine mv_cS (st := []) dX10_roll_11 kk_X10_244 (TX10_isWide G d _ _ _ (mv_sat_bind hs)) rfl rfl (Nat.le_of_ble_eq_true rfl) (by omega) rfl ⟨Nat.zero_le _, Nat.zero_le _⟩ (mv_ki fun r582 hs => ?_)
    refine mv_if_eq dX10_roll_14 hs (fun _ hs => ?_) (fun _ hs => ?_)
    · refine mv_bipush (-2) dX10_roll_29 (by decide) ?_
      exact mv_iret dX10_roll_31 rfl ⟨((-2), h), rfl, rfl, rfl, mv_sat_some hs⟩
    · refine mv_iload_n dX10_roll_17 rfl ?_
      refine mv_i2l dX10_roll_18 ?_
      refine mv_lconst 0 dX10_roll_19 rfl ?_
      refine mv_ldc2 dX10_roll_20 kn_X10_144 ?_
      refine mv_cS (st := []) dX10_roll_23 kk_X10_104 (TX10_in G d _ _ _ _ _ (mv_sat_bind hs)) rfl rfl (Nat.le_of_ble_eq_true rfl) (by omega) rfl ⟨Nat.zero_le _, Nat.zero_le _⟩ (mv_ki fun r583 hs => ?_)
      refine mv_if_ne dX10_roll_26 hs (fun _ hs => ?_) (fun _ hs => ?_)
      · refine mv_bipush (-2) dX10_roll_29 (by decide) ?_
        exact mv_iret dX10_roll_31 rfl ⟨((-2), h), rfl, rfl, rfl, mv_sat_some hs⟩
      · refine mv_aload_n dX10_roll_32 rfl ?_
        refine mv_iload_n dX10_roll_33 rfl ?_
        refine mv_cV (st := []) dX10_roll_34 kk_X10_209 (TX10_look_55 G d _ _ _ (mv_sat_bind hs)) so_55 vc_10 rfl rfl (Nat.le_of_ble_eq_true rfl) (by omega) rfl ⟨Nat.zero_le _, Nat.zero_le _⟩ (mv_kv fun r584 hs => ?_)
        refine mv_aload_n dX10_roll_37 rfl ?_
        refine mv_iload_n dX10_roll_38 rfl ?_
        refine mv_cV (st := []) dX10_roll_39 kk_X10_247 (TX10_rollBy_55 G d _ _ _ (mv_sat_bind hs)) so_55 vc_10 rfl rfl (Nat.le_of_ble_eq_true rfl) (by omega) rfl ⟨Nat.zero_le _, Nat.zero_le _⟩ (mv_ki fun r588 hs => ?_)
        refine mv_istore (lv' := [.ref 55, .int p0, .int p1, .int p2, .int r588]) dX10_roll_42 (Nat.le_of_ble_eq_true rfl) rfl rfl ?_
        refine mv_iload dX10_roll_44 rfl ?_
        refine mv_if_ge dX10_roll_46 hs (fun _ hs => ?_) (fun _ hs => ?_)
        · refine mv_bipush (-6) dX10_roll_49 (by decide) ?_
          refine mv_goto dX10_roll_51 ?_
          exact mv_iret dX10_roll_83 rfl ⟨((-6), r584), rfl, rfl, rfl, mv_sat_some hs⟩
        · refine mv_iload_n dX10_roll_54 rfl ?_
          refine mv_if_ne dX10_roll_55 hs (fun _ hs => ?_) (fun _ hs => ?_)
          · refine mv_aload_n dX10_roll_58 rfl ?_
            refine mv_iload dX10_roll_59 rfl ?_
            refine mv_cV (st := []) dX10_roll_61 kk_X10_241 (TX10_lengthBy_55 G d _ _ _ (mv_sat_bind hs)) so_55 vc_10 rfl rfl (Nat.le_of_ble_eq_true rfl) (by omega) rfl ⟨Nat.zero_le _, Nat.zero_le _⟩ (mv_ki fun r589 hs => ?_)
            refine mv_goto dX10_roll_64 ?_
            exact mv_iret dX10_roll_83 rfl ⟨(r589, r584), rfl, rfl, rfl, mv_sat_some hs⟩
          · refine mv_iload_n dX10_roll_67 rfl ?_
            refine mv_iconst 1 dX10_roll_68 (by decide) ?_
            refine mv_icmp_ne dX10_roll_69 hs (fun _ hs => ?_) (fun _ hs => ?_)
            · refine mv_iload dX10_roll_72 rfl ?_
              refine mv_iconst 2 dX10_roll_74 (by decide) ?_
              refine mv_idivk dX10_roll_75 (by decide) ?_
              refine mv_goto dX10_roll_76 ?_
              exact mv_iret dX10_roll_83 rfl ⟨(r588 / 2, r584), rfl, rfl, rfl, mv_sat_some hs⟩
            · refine mv_iload dX10_roll_79 rfl ?_
              refine mv_iconst 2 dX10_roll_81 (by decide) ?_
              refine mv_iremk dX10_roll_82 (by decide) ?_
              exact mv_iret dX10_roll_83 rfl ⟨(r588 - r588 / 2 * 2, r584), rfl, rfl, rfl, mv_sat_some hs⟩
noncomputable def fX9_isRoll (p0 : Int32) (p1 : Int32) : Option (Int32) := (fX9_isWithin p0 (1 : Int32) (150 : Int32)).bind fun r592 => if r592 = 0 then some 0 else (fX9_isWithin p1 (0 : Int32) (99 : Int32)).bind fun r593 => if r593 = 0 then some 0 else some 1
set_option maxRecDepth 100000 in
set_option maxHeartbeats 4000000 in
theorem TX9_isRoll (G : mv_G) (d : Nat) (P : Int32 → Prop) (p0 : Int32) (p1 : Int32) (h : mv_H) (hs : mv_sat (fX9_isRoll p0 p1) P) : mv_met G (d + 1) mX9_isRoll [.int p0, .int p1] mv_SH h (mv_qi mv_SH h P) := by
  unfold fX9_isRoll at hs
  obtain ⟨D, hDe⟩ : ∃ D, D = d + 1 := ⟨_, rfl⟩
  rw [← hDe]
  have hD : d + 1 ≤ D := by omega
  refine mv_enter (lv := [.int p0, .int p1]) 0 (by decide) (by decide +kernel) rfl (Nat.le_of_ble_eq_true rfl) ?_
  refine mv_iload_n dX9_isRoll_0 rfl ?_
  refine mv_iconst 1 dX9_isRoll_1 (by decide) ?_
  refine mv_sipush 150 dX9_isRoll_2 (by decide) ?_
  refine mv_cS (st := []) dX9_isRoll_5 kk_X9_79 (TX9_isWithin G d _ _ _ _ _ (mv_sat_bind hs)) rfl rfl (Nat.le_of_ble_eq_true rfl) (by omega) rfl ⟨Nat.zero_le _, Nat.zero_le _⟩ (mv_ki fun r592 hs => ?_)
  refine mv_if_eq dX9_isRoll_8 hs (fun _ hs => ?_) (fun _ hs => ?_)
  · refine mv_iconst 0 dX9_isRoll_25 (by decide) ?_
    exact mv_zret dX9_isRoll_26 rfl (Or.inl rfl) ⟨_, rfl, rfl, rfl, mv_sat_some hs⟩
  · refine mv_iload_n dX9_isRoll_11 rfl ?_
    refine mv_iconst 0 dX9_isRoll_12 (by decide) ?_
    refine mv_bipush 99 dX9_isRoll_13 (by decide) ?_
    refine mv_cS (st := []) dX9_isRoll_15 kk_X9_79 (TX9_isWithin G d _ _ _ _ _ (mv_sat_bind hs)) rfl rfl (Nat.le_of_ble_eq_true rfl) (by omega) rfl ⟨Nat.zero_le _, Nat.zero_le _⟩ (mv_ki fun r593 hs => ?_)
    refine mv_if_eq dX9_isRoll_18 hs (fun _ hs => ?_) (fun _ hs => ?_)
    · refine mv_iconst 0 dX9_isRoll_25 (by decide) ?_
      exact mv_zret dX9_isRoll_26 rfl (Or.inl rfl) ⟨_, rfl, rfl, rfl, mv_sat_some hs⟩
    · refine mv_iconst 1 dX9_isRoll_21 (by decide) ?_
      refine mv_goto dX9_isRoll_22 ?_
      exact mv_zret dX9_isRoll_26 rfl (Or.inr rfl) ⟨_, rfl, rfl, rfl, mv_sat_some hs⟩
noncomputable def fX9_priceOff_0 (p0 : Int32) (p1 : Int32) (p2 : Int32) (h : mv_H) : Option (Int32 × mv_H) := (fX9_wrapOf_0 p0 h).bind fun r597 => (fX8_wayOffRoll_38 p1 r597).bind fun r598 => if r598 = (-6) then some ((-6), r597) else (fX8_lengthOff_38 r598 r597).bind fun r599 => some (r599 * p2, r597)
set_option maxRecDepth 100000 in
set_option maxHeartbeats 4000000 in
theorem TX9_priceOff_0 (G : mv_G) (d : Nat) (P : Int32 × mv_H → Prop) (p0 : Int32) (p1 : Int32) (p2 : Int32) (h : mv_H) (hs : mv_sat (fX9_priceOff_0 p0 p1 p2 h) P) : mv_met G (d + 4) mX9_priceOff [.ref 0, .int p0, .int p1, .int p2] mv_SH h (mv_qI mv_SH P) := by
  unfold fX9_priceOff_0 at hs
  obtain ⟨D, hDe⟩ : ∃ D, D = d + 4 := ⟨_, rfl⟩
  rw [← hDe]
  have hD : d + 4 ≤ D := by omega
  refine mv_enter (lv := [.ref 0, .int p0, .int p1, .int p2, .float 0, .float 0]) 2 (by decide) (by decide +kernel) rfl (Nat.le_of_ble_eq_true rfl) ?_
  refine mv_aload_n dX9_priceOff_0 rfl ?_
  refine mv_iload_n dX9_priceOff_1 rfl ?_
  refine mv_cV (st := []) dX9_priceOff_2 kk_X9_144 (TX9_wrapOf_0 G d _ _ _ (mv_sat_bind hs)) so_0 vc_9 rfl rfl (Nat.le_of_ble_eq_true rfl) (by omega) rfl ⟨Nat.zero_le _, Nat.zero_le _⟩ (mv_kc fun r597 hs => ?_)
  refine mv_astore (lv' := [.ref 0, .int p0, .int p1, .int p2, .ref 38, .float 0]) dX9_priceOff_5 (Nat.le_of_ble_eq_true rfl) rfl rfl ?_
  refine mv_aload dX9_priceOff_7 rfl ?_
  refine mv_iload_n dX9_priceOff_9 rfl ?_
  refine mv_cV (st := []) dX9_priceOff_10 kk_X9_201 (TX8_wayOffRoll_38 G d _ _ _ (mv_sat_bind hs)) so_38 vc_8 rfl rfl (Nat.le_of_ble_eq_true rfl) (by omega) rfl ⟨Nat.zero_le _, Nat.zero_le _⟩ (mv_ki fun r598 hs => ?_)
  refine mv_istore (lv' := [.ref 0, .int p0, .int p1, .int p2, .ref 38, .int r598]) dX9_priceOff_13 (Nat.le_of_ble_eq_true rfl) rfl rfl ?_
  refine mv_iload dX9_priceOff_15 rfl ?_
  refine mv_bipush (-6) dX9_priceOff_17 (by decide) ?_
  refine mv_icmp_ne dX9_priceOff_19 hs (fun _ hs => ?_) (fun _ hs => ?_)
  · refine mv_bipush (-6) dX9_priceOff_22 (by decide) ?_
    refine mv_goto dX9_priceOff_24 ?_
    exact mv_iret dX9_priceOff_36 rfl ⟨((-6), r597), rfl, rfl, rfl, mv_sat_some hs⟩
  · refine mv_aload dX9_priceOff_27 rfl ?_
    refine mv_iload dX9_priceOff_29 rfl ?_
    refine mv_cV (st := []) dX9_priceOff_31 kk_X9_204 (TX8_lengthOff_38 G d _ _ _ (mv_sat_bind hs)) so_38 vc_8 rfl rfl (Nat.le_of_ble_eq_true rfl) (by omega) rfl ⟨Nat.zero_le _, Nat.zero_le _⟩ (mv_ki fun r599 hs => ?_)
    refine mv_iload_n dX9_priceOff_34 rfl ?_
    refine mv_imul dX9_priceOff_35 ?_
    exact mv_iret dX9_priceOff_36 rfl ⟨(r599 * p2, r597), rfl, rfl, rfl, mv_sat_some hs⟩
noncomputable def fX9_cheaper_0_b110 (v6 : Int32) (v7 : Int32) (v8 : Int32) (s0 : Int32) (h : mv_H) : Option (Int32 × mv_H) := if v6 = 0 then (if s0 = 0 then some (0, h) else some (1, h)) else if s0 = 0 then some (v7, h) else some (v8, h)
set_option maxRecDepth 100000 in
set_option maxHeartbeats 4000000 in
theorem BX9_cheaper_0_b110 (G : mv_G) (d D : Nat) (hD : d + 0 ≤ D) (P : Int32 × mv_H → Prop) (v6 : Int32) (v7 : Int32) (v8 : Int32) (s0 : Int32) (h : mv_H) (hs : mv_sat (fX9_cheaper_0_b110 v6 v7 v8 s0 h) P) : mv_MW G mX9_cheaper (mv_rm D mX9_cheaper) (mv_Zf G mX9_cheaper (mv_qI mv_SH P)) 0 0 110 [.float 0, .float 0, .float 0, .float 0, .float 0, .float 0, .int v6, .int v7, .int v8, .float 0] [.int s0] mv_SH h := by
  unfold fX9_cheaper_0_b110 at hs
  refine mv_istore (lv' := [.float 0, .float 0, .float 0, .float 0, .float 0, .float 0, .int v6, .int v7, .int v8, .int s0]) dX9_cheaper_110 (Nat.le_of_ble_eq_true rfl) rfl rfl ?_
  refine mv_iload dX9_cheaper_112 rfl ?_
  refine mv_if_ne dX9_cheaper_114 hs (fun _ hs => ?_) (fun _ hs => ?_)
  · refine mv_iload dX9_cheaper_117 rfl ?_
    refine mv_if_eq dX9_cheaper_119 hs (fun _ hs => ?_) (fun _ hs => ?_)
    · refine mv_iconst 0 dX9_cheaper_126 (by decide) ?_
      exact mv_iret dX9_cheaper_127 rfl ⟨(0, h), rfl, rfl, rfl, mv_sat_some hs⟩
    · refine mv_iconst 1 dX9_cheaper_122 (by decide) ?_
      refine mv_goto dX9_cheaper_123 ?_
      exact mv_iret dX9_cheaper_127 rfl ⟨(1, h), rfl, rfl, rfl, mv_sat_some hs⟩
  · refine mv_iload dX9_cheaper_128 rfl ?_
    refine mv_if_eq dX9_cheaper_130 hs (fun _ hs => ?_) (fun _ hs => ?_)
    · refine mv_iload dX9_cheaper_138 rfl ?_
      exact mv_iret dX9_cheaper_140 rfl ⟨(v7, h), rfl, rfl, rfl, mv_sat_some hs⟩
    · refine mv_iload dX9_cheaper_133 rfl ?_
      refine mv_goto dX9_cheaper_135 ?_
      exact mv_iret dX9_cheaper_140 rfl ⟨(v8, h), rfl, rfl, rfl, mv_sat_some hs⟩
noncomputable def fX9_cheaper_0_b105 (v6 : Int32) (v7 : Int32) (v8 : Int32) (h : mv_H) : Option (Int32 × mv_H) := fX9_cheaper_0_b110 v6 v7 v8 1 h
set_option maxRecDepth 100000 in
set_option maxHeartbeats 4000000 in
theorem BX9_cheaper_0_b105 (G : mv_G) (d D : Nat) (hD : d + 0 ≤ D) (P : Int32 × mv_H → Prop) (v6 : Int32) (v7 : Int32) (v8 : Int32) (h : mv_H) (hs : mv_sat (fX9_cheaper_0_b105 v6 v7 v8 h) P) : mv_MW G mX9_cheaper (mv_rm D mX9_cheaper) (mv_Zf G mX9_cheaper (mv_qI mv_SH P)) 0 0 105 [.float 0, .float 0, .float 0, .float 0, .float 0, .float 0, .int v6, .int v7, .int v8, .float 0] [] mv_SH h := by
  unfold fX9_cheaper_0_b105 at hs
  refine mv_iconst 1 dX9_cheaper_105 (by decide) ?_
  refine mv_goto dX9_cheaper_106 ?_
  exact (BX9_cheaper_0_b110 G d D (by omega) P _ _ _ _ _ hs)
noncomputable def fX9_cheaper_0_b109 (v6 : Int32) (v7 : Int32) (v8 : Int32) (h : mv_H) : Option (Int32 × mv_H) := fX9_cheaper_0_b110 v6 v7 v8 0 h
set_option maxRecDepth 100000 in
set_option maxHeartbeats 4000000 in
theorem BX9_cheaper_0_b109 (G : mv_G) (d D : Nat) (hD : d + 0 ≤ D) (P : Int32 × mv_H → Prop) (v6 : Int32) (v7 : Int32) (v8 : Int32) (h : mv_H) (hs : mv_sat (fX9_cheaper_0_b109 v6 v7 v8 h) P) : mv_MW G mX9_cheaper (mv_rm D mX9_cheaper) (mv_Zf G mX9_cheaper (mv_qI mv_SH P)) 0 0 109 [.float 0, .float 0, .float 0, .float 0, .float 0, .float 0, .int v6, .int v7, .int v8, .float 0] [] mv_SH h := by
  unfold fX9_cheaper_0_b109 at hs
  refine mv_iconst 0 dX9_cheaper_109 (by decide) ?_
  exact (BX9_cheaper_0_b110 G d D (by omega) P _ _ _ _ _ hs)
noncomputable def fX9_cheaper_0_b84 (v6 : Int32) (v7 : Int32) (v8 : Int32) (h : mv_H) : Option (Int32 × mv_H) := if v7 = (-6) then fX9_cheaper_0_b105 v6 v7 v8 h else if v8 = (-6) then fX9_cheaper_0_b109 v6 v7 v8 h else if v8 < v7 then fX9_cheaper_0_b105 v6 v7 v8 h else fX9_cheaper_0_b109 v6 v7 v8 h
set_option maxRecDepth 100000 in
set_option maxHeartbeats 4000000 in
theorem BX9_cheaper_0_b84 (G : mv_G) (d D : Nat) (hD : d + 0 ≤ D) (P : Int32 × mv_H → Prop) (v6 : Int32) (v7 : Int32) (v8 : Int32) (h : mv_H) (hs : mv_sat (fX9_cheaper_0_b84 v6 v7 v8 h) P) : mv_MW G mX9_cheaper (mv_rm D mX9_cheaper) (mv_Zf G mX9_cheaper (mv_qI mv_SH P)) 0 0 84 [.float 0, .float 0, .float 0, .float 0, .float 0, .float 0, .int v6, .int v7, .int v8, .float 0] [] mv_SH h := by
  unfold fX9_cheaper_0_b84 at hs
  refine mv_iload dX9_cheaper_84 rfl ?_
  refine mv_bipush (-6) dX9_cheaper_86 (by decide) ?_
  refine mv_icmp_eq dX9_cheaper_88 hs (fun _ hs => ?_) (fun _ hs => ?_)
  · exact (BX9_cheaper_0_b105 G d D (by omega) P _ _ _ _ hs)
  · refine mv_iload dX9_cheaper_91 rfl ?_
    refine mv_bipush (-6) dX9_cheaper_93 (by decide) ?_
    refine mv_icmp_eq dX9_cheaper_95 hs (fun _ hs => ?_) (fun _ hs => ?_)
    · exact (BX9_cheaper_0_b109 G d D (by omega) P _ _ _ _ hs)
    · refine mv_iload dX9_cheaper_98 rfl ?_
      refine mv_iload dX9_cheaper_100 rfl ?_
      refine mv_icmp_ge dX9_cheaper_102 hs (fun _ hs => ?_) (fun _ hs => ?_)
      · exact (BX9_cheaper_0_b105 G d D (by omega) P _ _ _ _ hs)
      · exact (BX9_cheaper_0_b109 G d D (by omega) P _ _ _ _ hs)
noncomputable def fX9_cheaper_0 (p0 : Int32) (p1 : Int32) (p2 : Int32) (p3 : Int32) (p4 : Int32) (p5 : Int32) (h : mv_H) : Option (Int32 × mv_H) := (fX7_has_2 p0 h).bind fun r591 => if r591 = 0 then some ((-1), h) else (fX9_isRoll p1 p2).bind fun r594 => if r594 = 0 then some ((-2), h) else (fX9_isRoll p3 p4).bind fun r595 => if r595 = 0 then some ((-2), h) else (fX9_isWithin p5 (0 : Int32) (1 : Int32)).bind fun r596 => if r596 = 0 then some ((-2), h) else (fX9_priceOff_0 p0 p1 p2 h).bind fun r600 => (fX9_priceOff_0 p0 p3 p4 r600.2).bind fun r601 => if r600.1 = (-6) then (if r601.1 = (-6) then some ((-6), r601.2) else fX9_cheaper_0_b84 p5 r600.1 r601.1 r601.2) else fX9_cheaper_0_b84 p5 r600.1 r601.1 r601.2
set_option maxRecDepth 100000 in
set_option maxHeartbeats 4000000 in
theorem TX9_cheaper_0 (G : mv_G) (d : Nat) (P : Int32 × mv_H → Prop) (p0 : Int32) (p1 : Int32) (p2 : Int32) (p3 : Int32) (p4 : Int32) (p5 : Int32) (h : mv_H) (hs : mv_sat (fX9_cheaper_0 p0 p1 p2 p3 p4 p5 h) P) : mv_met G (d + 5) mX9_cheaper [.ref 0, .int p0, .int p1, .int p2, .int p3, .int p4, .int p5] mv_SH h (mv_qI mv_SH P) := by
  unfold fX9_cheaper_0 at hs
  obtain ⟨D, hDe⟩ : ∃ D, D = d + 5 := ⟨_, rfl⟩
  rw [← hDe]
  have hD : d + 5 ≤ D := by omega
  refine mv_enter (lv := [.ref 0, .int p0, .int p1, .int p2, .int p3, .int p4, .int p5, .float 0, .float 0, .float 0]) 3 (by decide) (by decide +kernel) rfl (Nat.le_of_ble_eq_true rfl) ?_
  refine mv_aload_n dX9_cheaper_0 rfl ?_
  refine mv_getr dX9_cheaper_1 kf_X9_10 gf_0_0 ?_
  refine mv_getr dX9_cheaper_4 kf_X9_64 gf_1_0 ?_
  refine mv_iload_n dX9_cheaper_7 rfl ?_
  refine mv_cV (st := []) dX9_cheaper_8 kk_X9_100 (TX7_has_2 G d _ _ _ (mv_sat_bind hs)) so_2 vc_7 rfl rfl (Nat.le_of_ble_eq_true rfl) (by omega) rfl ⟨Nat.zero_le _, Nat.zero_le _⟩ (mv_ki fun r591 hs => ?_)
  refine mv_if_ne dX9_cheaper_11 hs (fun _ hs => ?_) (fun _ hs => ?_)
  · refine mv_iconst (-1) dX9_cheaper_14 (by decide) ?_
    exact mv_iret dX9_cheaper_15 rfl ⟨((-1), h), rfl, rfl, rfl, mv_sat_some hs⟩
  · refine mv_iload_n dX9_cheaper_16 rfl ?_
    refine mv_iload_n dX9_cheaper_17 rfl ?_
    refine mv_cS (st := []) dX9_cheaper_18 kk_X9_207 (TX9_isRoll G d _ _ _ _ (mv_sat_bind hs)) rfl rfl (Nat.le_of_ble_eq_true rfl) (by omega) rfl ⟨Nat.zero_le _, Nat.zero_le _⟩ (mv_ki fun r594 hs => ?_)
    refine mv_if_eq dX9_cheaper_21 hs (fun _ hs => ?_) (fun _ hs => ?_)
    · refine mv_bipush (-2) dX9_cheaper_44 (by decide) ?_
      exact mv_iret dX9_cheaper_46 rfl ⟨((-2), h), rfl, rfl, rfl, mv_sat_some hs⟩
    · refine mv_iload dX9_cheaper_24 rfl ?_
      refine mv_iload dX9_cheaper_26 rfl ?_
      refine mv_cS (st := []) dX9_cheaper_28 kk_X9_207 (TX9_isRoll G d _ _ _ _ (mv_sat_bind hs)) rfl rfl (Nat.le_of_ble_eq_true rfl) (by omega) rfl ⟨Nat.zero_le _, Nat.zero_le _⟩ (mv_ki fun r595 hs => ?_)
      refine mv_if_eq dX9_cheaper_31 hs (fun _ hs => ?_) (fun _ hs => ?_)
      · refine mv_bipush (-2) dX9_cheaper_44 (by decide) ?_
        exact mv_iret dX9_cheaper_46 rfl ⟨((-2), h), rfl, rfl, rfl, mv_sat_some hs⟩
      · refine mv_iload dX9_cheaper_34 rfl ?_
        refine mv_iconst 0 dX9_cheaper_36 (by decide) ?_
        refine mv_iconst 1 dX9_cheaper_37 (by decide) ?_
        refine mv_cS (st := []) dX9_cheaper_38 kk_X9_79 (TX9_isWithin G d _ _ _ _ _ (mv_sat_bind hs)) rfl rfl (Nat.le_of_ble_eq_true rfl) (by omega) rfl ⟨Nat.zero_le _, Nat.zero_le _⟩ (mv_ki fun r596 hs => ?_)
        refine mv_if_ne dX9_cheaper_41 hs (fun _ hs => ?_) (fun _ hs => ?_)
        · refine mv_bipush (-2) dX9_cheaper_44 (by decide) ?_
          exact mv_iret dX9_cheaper_46 rfl ⟨((-2), h), rfl, rfl, rfl, mv_sat_some hs⟩
        · refine mv_aload_n dX9_cheaper_47 rfl ?_
          refine mv_iload_n dX9_cheaper_48 rfl ?_
          refine mv_iload_n dX9_cheaper_49 rfl ?_
          refine mv_iload_n dX9_cheaper_50 rfl ?_
          refine mv_cV (st := []) dX9_cheaper_51 kk_X9_210 (TX9_priceOff_0 G d _ _ _ _ _ (mv_sat_bind hs)) so_0 vc_9 rfl rfl (Nat.le_of_ble_eq_true rfl) (by omega) rfl ⟨Nat.zero_le _, Nat.zero_le _⟩ (mv_kI2 fun r600 hs => ?_)
          refine mv_istore (lv' := [.ref 0, .int p0, .int p1, .int p2, .int p3, .int p4, .int p5, .int r600.1, .float 0, .float 0]) dX9_cheaper_54 (Nat.le_of_ble_eq_true rfl) rfl rfl ?_
          refine mv_aload_n dX9_cheaper_56 rfl ?_
          refine mv_iload_n dX9_cheaper_57 rfl ?_
          refine mv_iload dX9_cheaper_58 rfl ?_
          refine mv_iload dX9_cheaper_60 rfl ?_
          refine mv_cV (st := []) dX9_cheaper_62 kk_X9_210 (TX9_priceOff_0 G d _ _ _ _ _ (mv_sat_bind hs)) so_0 vc_9 rfl rfl (Nat.le_of_ble_eq_true rfl) (by omega) rfl ⟨Nat.zero_le _, Nat.zero_le _⟩ (mv_kI2 fun r601 hs => ?_)
          refine mv_istore (lv' := [.ref 0, .int p0, .int p1, .int p2, .int p3, .int p4, .int p5, .int r600.1, .int r601.1, .float 0]) dX9_cheaper_65 (Nat.le_of_ble_eq_true rfl) rfl rfl ?_
          refine mv_iload dX9_cheaper_67 rfl ?_
          refine mv_bipush (-6) dX9_cheaper_69 (by decide) ?_
          refine mv_icmp_ne dX9_cheaper_71 hs (fun _ hs => ?_) (fun _ hs => ?_)
          · refine mv_iload dX9_cheaper_74 rfl ?_
            refine mv_bipush (-6) dX9_cheaper_76 (by decide) ?_
            refine mv_icmp_ne dX9_cheaper_78 hs (fun _ hs => ?_) (fun _ hs => ?_)
            · refine mv_bipush (-6) dX9_cheaper_81 (by decide) ?_
              exact mv_iret dX9_cheaper_83 rfl ⟨((-6), r601.2), rfl, rfl, rfl, mv_sat_some hs⟩
            · exact mv_weak (lv' := [.float 0, .float 0, .float 0, .float 0, .float 0, .float 0, .int p5, .int r600.1, .int r601.1, .float 0]) (mv_k (mv_k (mv_k (mv_k (mv_k (mv_k (mv_s (mv_s (mv_s (mv_s mv_n)))))))))) (BX9_cheaper_0_b84 G d D (by omega) P _ _ _ _ hs)
          · exact mv_weak (lv' := [.float 0, .float 0, .float 0, .float 0, .float 0, .float 0, .int p5, .int r600.1, .int r601.1, .float 0]) (mv_k (mv_k (mv_k (mv_k (mv_k (mv_k (mv_s (mv_s (mv_s (mv_s mv_n)))))))))) (BX9_cheaper_0_b84 G d D (by omega) P _ _ _ _ hs)
noncomputable def fX10_cheaper_55_b150 (v6 : Int32) (v9 : Int32) (v10 : Int32) (s0 : Int32) (h : mv_H) : Option (Int32 × mv_H) := if v6 = 0 then (if s0 = 0 then some (1, h) else some (0, h)) else if s0 = 0 then some (v10, h) else some (v9, h)
set_option maxRecDepth 100000 in
set_option maxHeartbeats 4000000 in
theorem BX10_cheaper_55_b150 (G : mv_G) (d D : Nat) (hD : d + 0 ≤ D) (P : Int32 × mv_H → Prop) (v6 : Int32) (v9 : Int32) (v10 : Int32) (s0 : Int32) (h : mv_H) (hs : mv_sat (fX10_cheaper_55_b150 v6 v9 v10 s0 h) P) : mv_MW G mX10_cheaper (mv_rm D mX10_cheaper) (mv_Zf G mX10_cheaper (mv_qI mv_SH P)) 0 0 150 [.float 0, .float 0, .float 0, .float 0, .float 0, .float 0, .int v6, .float 0, .float 0, .int v9, .int v10, .float 0] [.int s0] mv_SH h := by
  unfold fX10_cheaper_55_b150 at hs
  refine mv_istore (lv' := [.float 0, .float 0, .float 0, .float 0, .float 0, .float 0, .int v6, .float 0, .float 0, .int v9, .int v10, .int s0]) dX10_cheaper_150 (Nat.le_of_ble_eq_true rfl) rfl rfl ?_
  refine mv_iload dX10_cheaper_152 rfl ?_
  refine mv_if_ne dX10_cheaper_154 hs (fun _ hs => ?_) (fun _ hs => ?_)
  · refine mv_iload dX10_cheaper_157 rfl ?_
    refine mv_if_eq dX10_cheaper_159 hs (fun _ hs => ?_) (fun _ hs => ?_)
    · refine mv_iconst 1 dX10_cheaper_166 (by decide) ?_
      refine mv_goto dX10_cheaper_167 ?_
      exact mv_iret dX10_cheaper_182 rfl ⟨(1, h), rfl, rfl, rfl, mv_sat_some hs⟩
    · refine mv_iconst 0 dX10_cheaper_162 (by decide) ?_
      refine mv_goto dX10_cheaper_163 ?_
      exact mv_iret dX10_cheaper_182 rfl ⟨(0, h), rfl, rfl, rfl, mv_sat_some hs⟩
  · refine mv_iload dX10_cheaper_170 rfl ?_
    refine mv_if_eq dX10_cheaper_172 hs (fun _ hs => ?_) (fun _ hs => ?_)
    · refine mv_iload dX10_cheaper_180 rfl ?_
      exact mv_iret dX10_cheaper_182 rfl ⟨(v10, h), rfl, rfl, rfl, mv_sat_some hs⟩
    · refine mv_iload dX10_cheaper_175 rfl ?_
      refine mv_goto dX10_cheaper_177 ?_
      exact mv_iret dX10_cheaper_182 rfl ⟨(v9, h), rfl, rfl, rfl, mv_sat_some hs⟩
noncomputable def fX10_cheaper_55_b138 (v6 : Int32) (v9 : Int32) (v10 : Int32) (h : mv_H) : Option (Int32 × mv_H) := if v10 < v9 then fX10_cheaper_55_b150 v6 v9 v10 0 h else fX10_cheaper_55_b150 v6 v9 v10 1 h
set_option maxRecDepth 100000 in
set_option maxHeartbeats 4000000 in
theorem BX10_cheaper_55_b138 (G : mv_G) (d D : Nat) (hD : d + 0 ≤ D) (P : Int32 × mv_H → Prop) (v6 : Int32) (v9 : Int32) (v10 : Int32) (h : mv_H) (hs : mv_sat (fX10_cheaper_55_b138 v6 v9 v10 h) P) : mv_MW G mX10_cheaper (mv_rm D mX10_cheaper) (mv_Zf G mX10_cheaper (mv_qI mv_SH P)) 0 0 138 [.float 0, .float 0, .float 0, .float 0, .float 0, .float 0, .int v6, .float 0, .float 0, .int v9, .int v10, .float 0] [] mv_SH h := by
  unfold fX10_cheaper_55_b138 at hs
  refine mv_iload dX10_cheaper_138 rfl ?_
  refine mv_iload dX10_cheaper_140 rfl ?_
  refine mv_icmp_gt dX10_cheaper_142 hs (fun _ hs => ?_) (fun _ hs => ?_)
  · refine mv_iconst 0 dX10_cheaper_149 (by decide) ?_
    exact (BX10_cheaper_55_b150 G d D (by omega) P _ _ _ _ _ hs)
  · refine mv_iconst 1 dX10_cheaper_145 (by decide) ?_
    refine mv_goto dX10_cheaper_146 ?_
    exact (BX10_cheaper_55_b150 G d D (by omega) P _ _ _ _ _ hs)
noncomputable def fX10_cheaper_55_b123 (v6 : Int32) (v7 : Int32) (v8 : Int32) (v9 : Int32) (s0 : Int32) (h : mv_H) : Option (Int32 × mv_H) := if v7 < 0 then (if v8 < 0 then some ((-6), h) else fX10_cheaper_55_b138 v6 v9 s0 h) else fX10_cheaper_55_b138 v6 v9 s0 h
set_option maxRecDepth 100000 in
set_option maxHeartbeats 4000000 in
theorem BX10_cheaper_55_b123 (G : mv_G) (d D : Nat) (hD : d + 0 ≤ D) (P : Int32 × mv_H → Prop) (v6 : Int32) (v7 : Int32) (v8 : Int32) (v9 : Int32) (s0 : Int32) (h : mv_H) (hs : mv_sat (fX10_cheaper_55_b123 v6 v7 v8 v9 s0 h) P) : mv_MW G mX10_cheaper (mv_rm D mX10_cheaper) (mv_Zf G mX10_cheaper (mv_qI mv_SH P)) 0 0 123 [.float 0, .float 0, .float 0, .float 0, .float 0, .float 0, .int v6, .int v7, .int v8, .int v9, .float 0, .float 0] [.int s0] mv_SH h := by
  unfold fX10_cheaper_55_b123 at hs
  refine mv_istore (lv' := [.float 0, .float 0, .float 0, .float 0, .float 0, .float 0, .int v6, .int v7, .int v8, .int v9, .int s0, .float 0]) dX10_cheaper_123 (Nat.le_of_ble_eq_true rfl) rfl rfl ?_
  refine mv_iload dX10_cheaper_125 rfl ?_
  refine mv_if_ge dX10_cheaper_127 hs (fun _ hs => ?_) (fun _ hs => ?_)
  · refine mv_iload dX10_cheaper_130 rfl ?_
    refine mv_if_ge dX10_cheaper_132 hs (fun _ hs => ?_) (fun _ hs => ?_)
    · refine mv_bipush (-6) dX10_cheaper_135 (by decide) ?_
      exact mv_iret dX10_cheaper_137 rfl ⟨((-6), h), rfl, rfl, rfl, mv_sat_some hs⟩
    · exact mv_weak (lv' := [.float 0, .float 0, .float 0, .float 0, .float 0, .float 0, .int v6, .float 0, .float 0, .int v9, .int s0, .float 0]) (mv_s (mv_s (mv_s (mv_s (mv_s (mv_s (mv_s (mv_k (mv_k (mv_s (mv_s (mv_s mv_n)))))))))))) (BX10_cheaper_55_b138 G d D (by omega) P _ _ _ _ hs)
  · exact mv_weak (lv' := [.float 0, .float 0, .float 0, .float 0, .float 0, .float 0, .int v6, .float 0, .float 0, .int v9, .int s0, .float 0]) (mv_s (mv_s (mv_s (mv_s (mv_s (mv_s (mv_s (mv_k (mv_k (mv_s (mv_s (mv_s mv_n)))))))))))) (BX10_cheaper_55_b138 G d D (by omega) P _ _ _ _ hs)
noncomputable def fX10_cheaper_55_b102 (v5 : Int32) (v6 : Int32) (v7 : Int32) (v8 : Int32) (s0 : Int32) (h : mv_H) : Option (Int32 × mv_H) := if v8 < 0 then fX10_cheaper_55_b123 v6 v7 v8 s0 1000000000 h else (fX10_lengthBy_55 v8 h).bind fun r612 => fX10_cheaper_55_b123 v6 v7 v8 s0 (r612 * v5) h
set_option maxRecDepth 100000 in
set_option maxHeartbeats 4000000 in
theorem BX10_cheaper_55_b102 (G : mv_G) (d D : Nat) (hD : d + 1 ≤ D) (P : Int32 × mv_H → Prop) (v5 : Int32) (v6 : Int32) (v7 : Int32) (v8 : Int32) (s0 : Int32) (h : mv_H) (hs : mv_sat (fX10_cheaper_55_b102 v5 v6 v7 v8 s0 h) P) : mv_MW G mX10_cheaper (mv_rm D mX10_cheaper) (mv_Zf G mX10_cheaper (mv_qI mv_SH P)) 0 0 102 [.ref 55, .float 0, .float 0, .float 0, .float 0, .int v5, .int v6, .int v7, .int v8, .float 0, .float 0, .float 0] [.int s0] mv_SH h := by
  unfold fX10_cheaper_55_b102 at hs
  refine mv_istore (lv' := [.ref 55, .float 0, .float 0, .float 0, .float 0, .int v5, .int v6, .int v7, .int v8, .int s0, .float 0, .float 0]) dX10_cheaper_102 (Nat.le_of_ble_eq_true rfl) rfl rfl ?_
  refine mv_iload dX10_cheaper_104 rfl ?_
  refine mv_if_ge dX10_cheaper_106 hs (fun _ hs => ?_) (fun _ hs => ?_)
  · refine mv_ldc dX10_cheaper_109 kn_X10_252 ?_
    refine mv_goto dX10_cheaper_111 ?_
    exact mv_weak (lv' := [.float 0, .float 0, .float 0, .float 0, .float 0, .float 0, .int v6, .int v7, .int v8, .int s0, .float 0, .float 0]) (mv_k (mv_s (mv_s (mv_s (mv_s (mv_k (mv_s (mv_s (mv_s (mv_s (mv_s (mv_s mv_n)))))))))))) (BX10_cheaper_55_b123 G d D (by omega) P _ _ _ _ _ _ hs)
  · refine mv_aload_n dX10_cheaper_114 rfl ?_
    refine mv_iload dX10_cheaper_115 rfl ?_
    refine mv_cV (st := []) dX10_cheaper_117 kk_X10_241 (TX10_lengthBy_55 G d _ _ _ (mv_sat_bind hs)) so_55 vc_10 rfl rfl (Nat.le_of_ble_eq_true rfl) (by omega) rfl ⟨Nat.zero_le _, Nat.zero_le _⟩ (mv_ki fun r612 hs => ?_)
    refine mv_iload dX10_cheaper_120 rfl ?_
    refine mv_imul dX10_cheaper_122 ?_
    exact mv_weak (lv' := [.float 0, .float 0, .float 0, .float 0, .float 0, .float 0, .int v6, .int v7, .int v8, .int s0, .float 0, .float 0]) (mv_k (mv_s (mv_s (mv_s (mv_s (mv_k (mv_s (mv_s (mv_s (mv_s (mv_s (mv_s mv_n)))))))))))) (BX10_cheaper_55_b123 G d D (by omega) P _ _ _ _ _ _ hs)
noncomputable def fX10_cheaper_55 (p0 : Int32) (p1 : Int32) (p2 : Int32) (p3 : Int32) (p4 : Int32) (p5 : Int32) (h : mv_H) : Option (Int32 × mv_H) := (fX10_isBox_55 p0 h).bind fun r603 => if r603 = 0 then some ((-1), h) else (fX10_isWide p1).bind fun r604 => if r604 = 0 then some ((-2), h) else (fX10_isWide p3).bind fun r605 => if r605 = 0 then some ((-2), h) else (fX10_in (Int32.toInt64 p2) (0 : Int64) (99 : Int64)).bind fun r606 => if r606 = 0 then some ((-2), h) else (fX10_in (Int32.toInt64 p4) (0 : Int64) (99 : Int64)).bind fun r607 => if r607 = 0 then some ((-2), h) else (fX10_in (Int32.toInt64 p5) (0 : Int64) (1 : Int64)).bind fun r608 => if r608 = 0 then some ((-2), h) else (fX10_look_55 p0 h).bind fun r609 => (fX10_rollBy_55 p1 r609).bind fun r610 => (fX10_rollBy_55 p3 r609).bind fun r611 => if r610 < 0 then fX10_cheaper_55_b102 p4 p5 r610 r611 1000000000 r609 else (fX10_lengthBy_55 r610 r609).bind fun r613 => fX10_cheaper_55_b102 p4 p5 r610 r611 (r613 * p2) r609
set_option maxRecDepth 100000 in
set_option maxHeartbeats 4000000 in
theorem TX10_cheaper_55 (G : mv_G) (d : Nat) (P : Int32 × mv_H → Prop) (p0 : Int32) (p1 : Int32) (p2 : Int32) (p3 : Int32) (p4 : Int32) (p5 : Int32) (h : mv_H) (hs : mv_sat (fX10_cheaper_55 p0 p1 p2 p3 p4 p5 h) P) : mv_met G (d + 3) mX10_cheaper [.ref 55, .int p0, .int p1, .int p2, .int p3, .int p4, .int p5] mv_SH h (mv_qI mv_SH P) := by
  unfold fX10_cheaper_55 at hs
  obtain ⟨D, hDe⟩ : ∃ D, D = d + 3 := ⟨_, rfl⟩
  rw [← hDe]
  have hD : d + 3 ≤ D := by omega
  refine mv_enter (lv := [.ref 55, .int p0, .int p1, .int p2, .int p3, .int p4, .int p5, .float 0, .float 0, .float 0, .float 0, .float 0]) 5 (by decide) (by decide +kernel) rfl (Nat.le_of_ble_eq_true rfl) ?_
  refine mv_aload_n dX10_cheaper_0 rfl ?_
  refine mv_iload_n dX10_cheaper_1 rfl ?_
  refine mv_cV (st := []) dX10_cheaper_2 kk_X10_146 (TX10_isBox_55 G d _ _ _ (mv_sat_bind hs)) so_55 vc_10 rfl rfl (Nat.le_of_ble_eq_true rfl) (by omega) rfl ⟨Nat.zero_le _, Nat.zero_le _⟩ (mv_ki fun r603 hs => ?_)
  refine mv_if_ne dX10_cheaper_5 hs (fun _ hs => ?_) (fun _ hs => ?_)
  · refine mv_iconst (-1) dX10_cheaper_8 (by decide) ?_
    exact mv_iret dX10_cheaper_9 rfl ⟨((-1), h), rfl, rfl, rfl, mv_sat_some hs⟩
  · refine mv_iload_n dX10_cheaper_10 rfl ?_
    refine mv_cS (st := []) dX10_cheaper_11 kk_X10_244 (TX10_isWide G d _ _ _ (mv_sat_bind hs)) rfl rfl (Nat.le_of_ble_eq_true rfl) (by omega) rfl ⟨Nat.zero_le _, Nat.zero_le _⟩ (mv_ki fun r604 hs => ?_)
    refine mv_if_eq dX10_cheaper_14 hs (fun _ hs => ?_) (fun _ hs => ?_)
    · refine mv_bipush (-2) dX10_cheaper_61 (by decide) ?_
      exact mv_iret dX10_cheaper_63 rfl ⟨((-2), h), rfl, rfl, rfl, mv_sat_some hs⟩
    · refine mv_iload dX10_cheaper_17 rfl ?_
      refine mv_cS (st := []) dX10_cheaper_19 kk_X10_244 (TX10_isWide G d _ _ _ (mv_sat_bind hs)) rfl rfl (Nat.le_of_ble_eq_true rfl) (by omega) rfl ⟨Nat.zero_le _, Nat.zero_le _⟩ (mv_ki fun r605 hs => ?_)
      refine mv_if_eq dX10_cheaper_22 hs (fun _ hs => ?_) (fun _ hs => ?_)
      · refine mv_bipush (-2) dX10_cheaper_61 (by decide) ?_
        exact mv_iret dX10_cheaper_63 rfl ⟨((-2), h), rfl, rfl, rfl, mv_sat_some hs⟩
      · refine mv_iload_n dX10_cheaper_25 rfl ?_
        refine mv_i2l dX10_cheaper_26 ?_
        refine mv_lconst 0 dX10_cheaper_27 rfl ?_
        refine mv_ldc2 dX10_cheaper_28 kn_X10_250 ?_
        refine mv_cS (st := []) dX10_cheaper_31 kk_X10_104 (TX10_in G d _ _ _ _ _ (mv_sat_bind hs)) rfl rfl (Nat.le_of_ble_eq_true rfl) (by omega) rfl ⟨Nat.zero_le _, Nat.zero_le _⟩ (mv_ki fun r606 hs => ?_)
        refine mv_if_eq dX10_cheaper_34 hs (fun _ hs => ?_) (fun _ hs => ?_)
        · refine mv_bipush (-2) dX10_cheaper_61 (by decide) ?_
          exact mv_iret dX10_cheaper_63 rfl ⟨((-2), h), rfl, rfl, rfl, mv_sat_some hs⟩
        · refine mv_iload dX10_cheaper_37 rfl ?_
          refine mv_i2l dX10_cheaper_39 ?_
          refine mv_lconst 0 dX10_cheaper_40 rfl ?_
          refine mv_ldc2 dX10_cheaper_41 kn_X10_250 ?_
          refine mv_cS (st := []) dX10_cheaper_44 kk_X10_104 (TX10_in G d _ _ _ _ _ (mv_sat_bind hs)) rfl rfl (Nat.le_of_ble_eq_true rfl) (by omega) rfl ⟨Nat.zero_le _, Nat.zero_le _⟩ (mv_ki fun r607 hs => ?_)
          refine mv_if_eq dX10_cheaper_47 hs (fun _ hs => ?_) (fun _ hs => ?_)
          · refine mv_bipush (-2) dX10_cheaper_61 (by decide) ?_
            exact mv_iret dX10_cheaper_63 rfl ⟨((-2), h), rfl, rfl, rfl, mv_sat_some hs⟩
          · refine mv_iload dX10_cheaper_50 rfl ?_
            refine mv_i2l dX10_cheaper_52 ?_
            refine mv_lconst 0 dX10_cheaper_53 rfl ?_
            refine mv_lconst 1 dX10_cheaper_54 rfl ?_
            refine mv_cS (st := []) dX10_cheaper_55 kk_X10_104 (TX10_in G d _ _ _ _ _ (mv_sat_bind hs)) rfl rfl (Nat.le_of_ble_eq_true rfl) (by omega) rfl ⟨Nat.zero_le _, Nat.zero_le _⟩ (mv_ki fun r608 hs => ?_)
            refine mv_if_ne dX10_cheaper_58 hs (fun _ hs => ?_) (fun _ hs => ?_)
            · refine mv_bipush (-2) dX10_cheaper_61 (by decide) ?_
              exact mv_iret dX10_cheaper_63 rfl ⟨((-2), h), rfl, rfl, rfl, mv_sat_some hs⟩
            · refine mv_aload_n dX10_cheaper_64 rfl ?_
              refine mv_iload_n dX10_cheaper_65 rfl ?_
              refine mv_cV (st := []) dX10_cheaper_66 kk_X10_209 (TX10_look_55 G d _ _ _ (mv_sat_bind hs)) so_55 vc_10 rfl rfl (Nat.le_of_ble_eq_true rfl) (by omega) rfl ⟨Nat.zero_le _, Nat.zero_le _⟩ (mv_kv fun r609 hs => ?_)
              refine mv_aload_n dX10_cheaper_69 rfl ?_
              refine mv_iload_n dX10_cheaper_70 rfl ?_
              refine mv_cV (st := []) dX10_cheaper_71 kk_X10_247 (TX10_rollBy_55 G d _ _ _ (mv_sat_bind hs)) so_55 vc_10 rfl rfl (Nat.le_of_ble_eq_true rfl) (by omega) rfl ⟨Nat.zero_le _, Nat.zero_le _⟩ (mv_ki fun r610 hs => ?_)
              refine mv_istore (lv' := [.ref 55, .int p0, .int p1, .int p2, .int p3, .int p4, .int p5, .int r610, .float 0, .float 0, .float 0, .float 0]) dX10_cheaper_74 (Nat.le_of_ble_eq_true rfl) rfl rfl ?_
              refine mv_aload_n dX10_cheaper_76 rfl ?_
              refine mv_iload dX10_cheaper_77 rfl ?_
              refine mv_cV (st := []) dX10_cheaper_79 kk_X10_247 (TX10_rollBy_55 G d _ _ _ (mv_sat_bind hs)) so_55 vc_10 rfl rfl (Nat.le_of_ble_eq_true rfl) (by omega) rfl ⟨Nat.zero_le _, Nat.zero_le _⟩ (mv_ki fun r611 hs => ?_)
              refine mv_istore (lv' := [.ref 55, .int p0, .int p1, .int p2, .int p3, .int p4, .int p5, .int r610, .int r611, .float 0, .float 0, .float 0]) dX10_cheaper_82 (Nat.le_of_ble_eq_true rfl) rfl rfl ?_
              refine mv_iload dX10_cheaper_84 rfl ?_
              refine mv_if_ge dX10_cheaper_86 hs (fun _ hs => ?_) (fun _ hs => ?_)
              · refine mv_ldc dX10_cheaper_89 kn_X10_252 ?_
                refine mv_goto dX10_cheaper_91 ?_
                exact mv_weak (lv' := [.ref 55, .float 0, .float 0, .float 0, .float 0, .int p4, .int p5, .int r610, .int r611, .float 0, .float 0, .float 0]) (mv_s (mv_k (mv_k (mv_k (mv_k (mv_s (mv_s (mv_s (mv_s (mv_s (mv_s (mv_s mv_n)))))))))))) (BX10_cheaper_55_b102 G d D (by omega) P _ _ _ _ _ _ hs)
              · refine mv_aload_n dX10_cheaper_94 rfl ?_
                refine mv_iload dX10_cheaper_95 rfl ?_
                refine mv_cV (st := []) dX10_cheaper_97 kk_X10_241 (TX10_lengthBy_55 G d _ _ _ (mv_sat_bind hs)) so_55 vc_10 rfl rfl (Nat.le_of_ble_eq_true rfl) (by omega) rfl ⟨Nat.zero_le _, Nat.zero_le _⟩ (mv_ki fun r613 hs => ?_)
                refine mv_iload_n dX10_cheaper_100 rfl ?_
                refine mv_imul dX10_cheaper_101 ?_
                exact mv_weak (lv' := [.ref 55, .float 0, .float 0, .float 0, .float 0, .int p4, .int p5, .int r610, .int r611, .float 0, .float 0, .float 0]) (mv_s (mv_k (mv_k (mv_k (mv_k (mv_s (mv_s (mv_s (mv_s (mv_s (mv_s (mv_s mv_n)))))))))))) (BX10_cheaper_55_b102 G d D (by omega) P _ _ _ _ _ _ hs)
