/-! printed by program: what a method does, as a function, and that it does it -/
noncomputable def fX2_count_8 (h : mv_H) : Option (Int32) := some (h 8 2)
set_option maxRecDepth 100000 in
set_option maxHeartbeats 4000000 in
theorem TX2_count_8 (G : mv_G) (d : Nat) (P : Int32 → Prop) (h : mv_H) (hs : mv_sat (fX2_count_8 h) P) : mv_met G (d + 0) mX2_count [.ref 8] mv_SH h (mv_qi mv_SH h P) := by
  unfold fX2_count_8 at hs
  obtain ⟨D, hDe⟩ : ∃ D, D = d + 0 := ⟨_, rfl⟩
  rw [← hDe]
  have hD : d + 0 ≤ D := by omega
  refine mv_enter (lv := [.ref 8]) 0 (by decide) (by decide +kernel) rfl (Nat.le_of_ble_eq_true rfl) ?_
  refine mv_aload_n dX2_count_0 rfl ?_
  refine mv_geti dX2_count_1 kf_X2_17 gf_8_2 ?_
  exact mv_iret dX2_count_4 rfl ⟨_, rfl, rfl, rfl, mv_sat_some hs⟩
noncomputable def fX2_farthest_10 (h : mv_H) : Option (Int32) := some (h 10 0)
set_option maxRecDepth 100000 in
set_option maxHeartbeats 4000000 in
theorem TX2_farthest_10 (G : mv_G) (d : Nat) (P : Int32 → Prop) (h : mv_H) (hs : mv_sat (fX2_farthest_10 h) P) : mv_met G (d + 0) mX2_farthest [.ref 10] mv_SH h (mv_qi mv_SH h P) := by
  unfold fX2_farthest_10 at hs
  obtain ⟨D, hDe⟩ : ∃ D, D = d + 0 := ⟨_, rfl⟩
  rw [← hDe]
  have hD : d + 0 ≤ D := by omega
  refine mv_enter (lv := [.ref 10]) 0 (by decide) (by decide +kernel) rfl (Nat.le_of_ble_eq_true rfl) ?_
  refine mv_aload_n dX2_farthest_0 rfl ?_
  refine mv_geti dX2_farthest_1 kf_X2_13 gf_10_0 ?_
  exact mv_iret dX2_farthest_4 rfl ⟨_, rfl, rfl, rfl, mv_sat_some hs⟩
noncomputable def fX2_add_10 (p0 : Int32) (h : mv_H) : Option (Int32 × mv_H) := if (h 10 2) < 0 then some (0, h) else if (h 10 2) < 6 then (if mv_in (h 10 2) 6 then mv_let (mv_u h 11 (h 10 2).toNatClampNeg p0) fun h1004 : mv_H => (mv_let (mv_u h1004 10 2 ((h1004 10 2) + 1)) fun h1005 : mv_H => some (1, h1005)) else none) else some (0, h)
set_option maxRecDepth 100000 in
set_option maxHeartbeats 4000000 in
theorem TX2_add_10 (G : mv_G) (d : Nat) (P : Int32 × mv_H → Prop) (p0 : Int32) (h : mv_H) (hs : mv_sat (fX2_add_10 p0 h) P) : mv_met G (d + 0) mX2_add [.ref 10, .int p0] mv_SH h (mv_qI mv_SH P) := by
  unfold fX2_add_10 at hs
  obtain ⟨D, hDe⟩ : ∃ D, D = d + 0 := ⟨_, rfl⟩
  rw [← hDe]
  have hD : d + 0 ≤ D := by omega
  refine mv_enter (lv := [.ref 10, .int p0]) 0 (by decide) (by decide +kernel) rfl (Nat.le_of_ble_eq_true rfl) ?_
  refine mv_aload_n dX2_add_0 rfl ?_
  refine mv_geti dX2_add_1 kf_X2_17 gf_10_2 ?_
  refine mv_if_lt dX2_add_4 hs (fun _ hs => ?_) (fun _ hs => ?_)
  · refine mv_iconst 0 dX2_add_16 (by decide) ?_
    exact mv_zret dX2_add_17 rfl (Or.inl rfl) ⟨(0, h), rfl, rfl, rfl, mv_sat_some hs⟩
  · refine mv_aload_n dX2_add_7 rfl ?_
    refine mv_geti dX2_add_8 kf_X2_17 gf_10_2 ?_
    refine mv_bipush 6 dX2_add_11 (by decide) ?_
    refine mv_icmp_lt dX2_add_13 hs (fun _ hs => ?_) (fun _ hs => ?_)
    · refine mv_aload_n dX2_add_18 rfl ?_
      refine mv_getr dX2_add_19 kf_X2_9 gf_10_1 ?_
      refine mv_aload_n dX2_add_22 rfl ?_
      refine mv_geti dX2_add_23 kf_X2_17 gf_10_2 ?_
      refine mv_iload_n dX2_add_26 rfl ?_
      refine mv_iastore dX2_add_27 so_11 hs (fun hs => ?_)
      refine mv_nameH hs (fun h1004 hs => ?_)
      refine mv_aload_n dX2_add_28 rfl ?_
      refine mv_dup dX2_add_29 rfl ?_
      refine mv_geti dX2_add_30 kf_X2_17 gf_10_2 ?_
      refine mv_iconst 1 dX2_add_33 (by decide) ?_
      refine mv_iadd dX2_add_34 ?_
      refine mv_puti dX2_add_35 kf_X2_17 (fun q => by cases q) gf_10_2 ?_
      refine mv_nameH hs (fun h1005 hs => ?_)
      refine mv_iconst 1 dX2_add_38 (by decide) ?_
      exact mv_zret dX2_add_39 rfl (Or.inr rfl) ⟨(1, h1005), rfl, rfl, rfl, mv_sat_some hs⟩
    · refine mv_iconst 0 dX2_add_16 (by decide) ?_
      exact mv_zret dX2_add_17 rfl (Or.inl rfl) ⟨(0, h), rfl, rfl, rfl, mv_sat_some hs⟩
noncomputable def fX2_count_10 (h : mv_H) : Option (Int32) := some (h 10 2)
set_option maxRecDepth 100000 in
set_option maxHeartbeats 4000000 in
theorem TX2_count_10 (G : mv_G) (d : Nat) (P : Int32 → Prop) (h : mv_H) (hs : mv_sat (fX2_count_10 h) P) : mv_met G (d + 0) mX2_count [.ref 10] mv_SH h (mv_qi mv_SH h P) := by
  unfold fX2_count_10 at hs
  obtain ⟨D, hDe⟩ : ∃ D, D = d + 0 := ⟨_, rfl⟩
  rw [← hDe]
  have hD : d + 0 ≤ D := by omega
  refine mv_enter (lv := [.ref 10]) 0 (by decide) (by decide +kernel) rfl (Nat.le_of_ble_eq_true rfl) ?_
  refine mv_aload_n dX2_count_0 rfl ?_
  refine mv_geti dX2_count_1 kf_X2_17 gf_10_2 ?_
  exact mv_iret dX2_count_4 rfl ⟨_, rfl, rfl, rfl, mv_sat_some hs⟩
noncomputable def fX9_mark_0 (p0 : Int32) (p1 : Int32) (h : mv_H) : Option (Int32 × mv_H) := (fX9_isWithin p0 (0 : Int32) (1 : Int32)).bind fun r994 => if r994 = 0 then some ((-2), h) else (fX1_marks_1 p0 h).bind fun r995 => if r995 = 8 then ((fX2_farthest_8 h).bind fun r996 => (fX9_isWithin p1 (0 : Int32) r996).bind fun r997 => if r997 = 0 then some ((-2), h) else (fX2_add_8 p1 h).bind fun r1000 => if r1000.1 = 0 then some ((-4), r1000.2) else (fX2_count_8 r1000.2).bind fun r1001 => some (r1001, r1000.2)) else if r995 = 10 then ((fX2_farthest_10 h).bind fun r1002 => (fX9_isWithin p1 (0 : Int32) r1002).bind fun r1003 => if r1003 = 0 then some ((-2), h) else (fX2_add_10 p1 h).bind fun r1006 => if r1006.1 = 0 then some ((-4), r1006.2) else (fX2_count_10 r1006.2).bind fun r1007 => some (r1007, r1006.2)) else none
set_option maxRecDepth 100000 in
set_option maxHeartbeats 4000000 in
theorem TX9_mark_0 (G : mv_G) (d : Nat) (P : Int32 × mv_H → Prop) (p0 : Int32) (p1 : Int32) (h : mv_H) (hs : mv_sat (fX9_mark_0 p0 p1 h) P) : mv_met G (d + 1) mX9_mark [.ref 0, .int p0, .int p1] mv_SH h (mv_qI mv_SH P) := by
  unfold fX9_mark_0 at hs
  obtain ⟨D, hDe⟩ : ∃ D, D = d + 1 := ⟨_, rfl⟩
  rw [← hDe]
  have hD : d + 1 ≤ D := by omega
  refine mv_enter (lv := [.ref 0, .int p0, .int p1, .float 0]) 1 (by decide) (by decide +kernel) rfl (Nat.le_of_ble_eq_true rfl) ?_
  refine mv_iload_n dX9_mark_0 rfl ?_
  refine mv_iconst 0 dX9_mark_1 (by decide) ?_
  refine mv_iconst 1 dX9_mark_2 (by decide) ?_
  refine mv_cS (st := []) dX9_mark_3 kk_X9_79 (TX9_isWithin G d _ _ _ _ _ (mv_sat_bind hs)) rfl rfl (Nat.le_of_ble_eq_true rfl) (by omega) rfl ⟨Nat.zero_le _, Nat.zero_le _⟩ (mv_ki fun r994 hs => ?_)
  refine mv_if_ne dX9_mark_6 hs (fun _ hs => ?_) (fun _ hs => ?_)
  · refine mv_bipush (-2) dX9_mark_9 (by decide) ?_
    exact mv_iret dX9_mark_11 rfl ⟨((-2), h), rfl, rfl, rfl, mv_sat_some hs⟩
  · refine mv_aload_n dX9_mark_12 rfl ?_
    refine mv_getr dX9_mark_13 kf_X9_10 gf_0_0 ?_
    refine mv_iload_n dX9_mark_16 rfl ?_
    refine mv_cV (st := []) dX9_mark_17 kk_X9_297 (TX1_marks_1 G d _ _ _ (mv_sat_bind hs)) so_1 vc_1 rfl rfl (Nat.le_of_ble_eq_true rfl) (by omega) rfl ⟨Nat.zero_le _, Nat.zero_le _⟩ (mv_kr fun r995 hs => ?_)
    refine mv_case hs (fun e hsn => ?_) (fun _ hs => ?_)
    · subst e
      have hs := hsn
      refine mv_astore_n (lv' := [.ref 0, .int p0, .int p1, .ref 8]) dX9_mark_20 (Nat.le_of_ble_eq_true rfl) rfl rfl ?_
      refine mv_iload_n dX9_mark_21 rfl ?_
      refine mv_iconst 0 dX9_mark_22 (by decide) ?_
      refine mv_aload_n dX9_mark_23 rfl ?_
      refine mv_cV (st := [.int 0, .int p1]) dX9_mark_24 kk_X9_301 (TX2_farthest_8 G d _ _ (mv_sat_bind hs)) so_8 vc_2 rfl rfl (Nat.le_of_ble_eq_true rfl) (by omega) rfl ⟨Nat.zero_le _, Nat.zero_le _⟩ (mv_ki fun r996 hs => ?_)
      refine mv_cS (st := []) dX9_mark_27 kk_X9_79 (TX9_isWithin G d _ _ _ _ _ (mv_sat_bind hs)) rfl rfl (Nat.le_of_ble_eq_true rfl) (by omega) rfl ⟨Nat.zero_le _, Nat.zero_le _⟩ (mv_ki fun r997 hs => ?_)
      refine mv_if_ne dX9_mark_30 hs (fun _ hs => ?_) (fun _ hs => ?_)
      · refine mv_bipush (-2) dX9_mark_33 (by decide) ?_
        exact mv_iret dX9_mark_35 rfl ⟨((-2), h), rfl, rfl, rfl, mv_sat_some hs⟩
      · refine mv_aload_n dX9_mark_36 rfl ?_
        refine mv_iload_n dX9_mark_37 rfl ?_
        refine mv_cV (st := []) dX9_mark_38 kk_X9_306 (TX2_add_8 G d _ _ _ (mv_sat_bind hs)) so_8 vc_2 rfl rfl (Nat.le_of_ble_eq_true rfl) (by omega) rfl ⟨Nat.zero_le _, Nat.zero_le _⟩ (mv_kI2 fun r1000 hs => ?_)
        refine mv_if_eq dX9_mark_41 hs (fun _ hs => ?_) (fun _ hs => ?_)
        · refine mv_bipush (-4) dX9_mark_51 (by decide) ?_
          exact mv_iret dX9_mark_53 rfl ⟨((-4), r1000.2), rfl, rfl, rfl, mv_sat_some hs⟩
        · refine mv_aload_n dX9_mark_44 rfl ?_
          refine mv_cV (st := []) dX9_mark_45 kk_X9_307 (TX2_count_8 G d _ _ (mv_sat_bind hs)) so_8 vc_2 rfl rfl (Nat.le_of_ble_eq_true rfl) (by omega) rfl ⟨Nat.zero_le _, Nat.zero_le _⟩ (mv_ki fun r1001 hs => ?_)
          refine mv_goto dX9_mark_48 ?_
          exact mv_iret dX9_mark_53 rfl ⟨(r1001, r1000.2), rfl, rfl, rfl, mv_sat_some hs⟩
    refine mv_case hs (fun e hsn => ?_) (fun _ hs => ?_)
    · subst e
      have hs := hsn
      refine mv_astore_n (lv' := [.ref 0, .int p0, .int p1, .ref 10]) dX9_mark_20 (Nat.le_of_ble_eq_true rfl) rfl rfl ?_
      refine mv_iload_n dX9_mark_21 rfl ?_
      refine mv_iconst 0 dX9_mark_22 (by decide) ?_
      refine mv_aload_n dX9_mark_23 rfl ?_
      refine mv_cV (st := [.int 0, .int p1]) dX9_mark_24 kk_X9_301 (TX2_farthest_10 G d _ _ (mv_sat_bind hs)) so_10 vc_2 rfl rfl (Nat.le_of_ble_eq_true rfl) (by omega) rfl ⟨Nat.zero_le _, Nat.zero_le _⟩ (mv_ki fun r1002 hs => ?_)
      refine mv_cS (st := []) dX9_mark_27 kk_X9_79 (TX9_isWithin G d _ _ _ _ _ (mv_sat_bind hs)) rfl rfl (Nat.le_of_ble_eq_true rfl) (by omega) rfl ⟨Nat.zero_le _, Nat.zero_le _⟩ (mv_ki fun r1003 hs => ?_)
      refine mv_if_ne dX9_mark_30 hs (fun _ hs => ?_) (fun _ hs => ?_)
      · refine mv_bipush (-2) dX9_mark_33 (by decide) ?_
        exact mv_iret dX9_mark_35 rfl ⟨((-2), h), rfl, rfl, rfl, mv_sat_some hs⟩
      · refine mv_aload_n dX9_mark_36 rfl ?_
        refine mv_iload_n dX9_mark_37 rfl ?_
        refine mv_cV (st := []) dX9_mark_38 kk_X9_306 (TX2_add_10 G d _ _ _ (mv_sat_bind hs)) so_10 vc_2 rfl rfl (Nat.le_of_ble_eq_true rfl) (by omega) rfl ⟨Nat.zero_le _, Nat.zero_le _⟩ (mv_kI2 fun r1006 hs => ?_)
        refine mv_if_eq dX9_mark_41 hs (fun _ hs => ?_) (fun _ hs => ?_)
        · refine mv_bipush (-4) dX9_mark_51 (by decide) ?_
          exact mv_iret dX9_mark_53 rfl ⟨((-4), r1006.2), rfl, rfl, rfl, mv_sat_some hs⟩
        · refine mv_aload_n dX9_mark_44 rfl ?_
          refine mv_cV (st := []) dX9_mark_45 kk_X9_307 (TX2_count_10 G d _ _ (mv_sat_bind hs)) so_10 vc_2 rfl rfl (Nat.le_of_ble_eq_true rfl) (by omega) rfl ⟨Nat.zero_le _, Nat.zero_le _⟩ (mv_ki fun r1007 hs => ?_)
          refine mv_goto dX9_mark_48 ?_
          exact mv_iret dX9_mark_53 rfl ⟨(r1007, r1006.2), rfl, rfl, rfl, mv_sat_some hs⟩
    exact (mv_sat_none hs).elim
noncomputable def fX10_mark_55_b50 (v1 : Int32) (v2 : Int32) (s0 : Int32) (h : mv_H) : Option (Int32 × mv_H) := if s0 = 6 then some ((-4), h) else if v1 = 0 then (if mv_in (h 55 12) 6 then mv_let (mv_u h 60 (h 55 12).toNatClampNeg v2) fun h1011 : mv_H => (mv_let (mv_u h1011 55 12 ((h1011 55 12) + 1)) fun h1012 : mv_H => some (h1012 55 12, h1012)) else none) else if mv_in (h 55 14) 6 then mv_let (mv_u h 61 (h 55 14).toNatClampNeg v2) fun h1013 : mv_H => (mv_let (mv_u h1013 55 14 ((h1013 55 14) + 1)) fun h1014 : mv_H => some (h1014 55 14, h1014)) else none
set_option maxRecDepth 100000 in
set_option maxHeartbeats 4000000 in
theorem BX10_mark_55_b50 (G : mv_G) (d D : Nat) (hD : d + 0 ≤ D) (P : Int32 × mv_H → Prop) (v1 : Int32) (v2 : Int32) (s0 : Int32) (h : mv_H) (hs : mv_sat (fX10_mark_55_b50 v1 v2 s0 h) P) : mv_MW G mX10_mark (mv_rm D mX10_mark) (mv_Zf G mX10_mark (mv_qI mv_SH P)) 0 0 50 [.ref 55, .int v1, .int v2] [.int s0] mv_SH h := by
  unfold fX10_mark_55_b50 at hs
  refine mv_bipush 6 dX10_mark_50 (by decide) ?_
  refine mv_icmp_ne dX10_mark_52 hs (fun _ hs => ?_) (fun _ hs => ?_)
  · refine mv_bipush (-4) dX10_mark_55 (by decide) ?_
    exact mv_iret dX10_mark_57 rfl ⟨((-4), h), rfl, rfl, rfl, mv_sat_some hs⟩
  · refine mv_iload_n dX10_mark_58 rfl ?_
    refine mv_if_ne dX10_mark_59 hs (fun _ hs => ?_) (fun _ hs => ?_)
    · refine mv_aload_n dX10_mark_62 rfl ?_
      refine mv_getr dX10_mark_63 kf_X10_22 gf_55_11 ?_
      refine mv_aload_n dX10_mark_66 rfl ?_
      refine mv_geti dX10_mark_67 kf_X10_327 gf_55_12 ?_
      refine mv_iload_n dX10_mark_70 rfl ?_
      refine mv_iastore dX10_mark_71 so_60 hs (fun hs => ?_)
      refine mv_nameH hs (fun h1011 hs => ?_)
      refine mv_aload_n dX10_mark_72 rfl ?_
      refine mv_dup dX10_mark_73 rfl ?_
      refine mv_geti dX10_mark_74 kf_X10_327 gf_55_12 ?_
      refine mv_iconst 1 dX10_mark_77 (by decide) ?_
      refine mv_iadd dX10_mark_78 ?_
      refine mv_puti dX10_mark_79 kf_X10_327 (fun q => by cases q) gf_55_12 ?_
      refine mv_nameH hs (fun h1012 hs => ?_)
      refine mv_aload_n dX10_mark_82 rfl ?_
      refine mv_geti dX10_mark_83 kf_X10_327 gf_55_12 ?_
      exact mv_iret dX10_mark_86 rfl ⟨(h1012 55 12, h1012), rfl, rfl, rfl, mv_sat_some hs⟩
    · refine mv_aload_n dX10_mark_87 rfl ?_
      refine mv_getr dX10_mark_88 kf_X10_25 gf_55_13 ?_
      refine mv_aload_n dX10_mark_91 rfl ?_
      refine mv_geti dX10_mark_92 kf_X10_330 gf_55_14 ?_
      refine mv_iload_n dX10_mark_95 rfl ?_
      refine mv_iastore dX10_mark_96 so_61 hs (fun hs => ?_)
      refine mv_nameH hs (fun h1013 hs => ?_)
      refine mv_aload_n dX10_mark_97 rfl ?_
      refine mv_dup dX10_mark_98 rfl ?_
      refine mv_geti dX10_mark_99 kf_X10_330 gf_55_14 ?_
      refine mv_iconst 1 dX10_mark_102 (by decide) ?_
      refine mv_iadd dX10_mark_103 ?_
      refine mv_puti dX10_mark_104 kf_X10_330 (fun q => by cases q) gf_55_14 ?_
      refine mv_nameH hs (fun h1014 hs => ?_)
      refine mv_aload_n dX10_mark_107 rfl ?_
      refine mv_geti dX10_mark_108 kf_X10_330 gf_55_14 ?_
      exact mv_iret dX10_mark_111 rfl ⟨(h1014 55 14, h1014), rfl, rfl, rfl, mv_sat_some hs⟩
noncomputable def fX10_mark_55_b26 (v1 : Int32) (v2 : Int32) (s0 : Int64) (s1 : Int64) (s2 : Int64) (h : mv_H) : Option (Int32 × mv_H) := (fX10_in s2 s1 s0).bind fun r1010 => if r1010 = 0 then some ((-2), h) else if v1 = 0 then fX10_mark_55_b50 v1 v2 (h 55 12) h else fX10_mark_55_b50 v1 v2 (h 55 14) h
set_option maxRecDepth 100000 in
set_option maxHeartbeats 4000000 in
theorem BX10_mark_55_b26 (G : mv_G) (d D : Nat) (hD : d + 1 ≤ D) (P : Int32 × mv_H → Prop) (v1 : Int32) (v2 : Int32) (s0 : Int64) (s1 : Int64) (s2 : Int64) (h : mv_H) (hs : mv_sat (fX10_mark_55_b26 v1 v2 s0 s1 s2 h) P) : mv_MW G mX10_mark (mv_rm D mX10_mark) (mv_Zf G mX10_mark (mv_qI mv_SH P)) 0 0 26 [.ref 55, .int v1, .int v2] [.long s0, .long s1, .long s2] mv_SH h := by
  unfold fX10_mark_55_b26 at hs
  refine mv_cS (st := []) dX10_mark_26 kk_X10_104 (TX10_in G d _ _ _ _ _ (mv_sat_bind hs)) rfl rfl (Nat.le_of_ble_eq_true rfl) (by omega) rfl ⟨Nat.zero_le _, Nat.zero_le _⟩ (mv_ki fun r1010 hs => ?_)
  refine mv_if_ne dX10_mark_29 hs (fun _ hs => ?_) (fun _ hs => ?_)
  · refine mv_bipush (-2) dX10_mark_32 (by decide) ?_
    exact mv_iret dX10_mark_34 rfl ⟨((-2), h), rfl, rfl, rfl, mv_sat_some hs⟩
  · refine mv_iload_n dX10_mark_35 rfl ?_
    refine mv_if_ne dX10_mark_36 hs (fun _ hs => ?_) (fun _ hs => ?_)
    · refine mv_aload_n dX10_mark_39 rfl ?_
      refine mv_geti dX10_mark_40 kf_X10_327 gf_55_12 ?_
      refine mv_goto dX10_mark_43 ?_
      exact (BX10_mark_55_b50 G d D (by omega) P _ _ _ _ hs)
    · refine mv_aload_n dX10_mark_46 rfl ?_
      refine mv_geti dX10_mark_47 kf_X10_330 gf_55_14 ?_
      exact (BX10_mark_55_b50 G d D (by omega) P _ _ _ _ hs)
noncomputable def fX10_mark_55 (p0 : Int32) (p1 : Int32) (h : mv_H) : Option (Int32 × mv_H) := (fX10_in (Int32.toInt64 p0) (0 : Int64) (1 : Int64)).bind fun r1009 => if r1009 = 0 then some ((-2), h) else if p0 = 0 then fX10_mark_55_b26 p0 p1 150 0 (Int32.toInt64 p1) h else fX10_mark_55_b26 p0 p1 90 0 (Int32.toInt64 p1) h
set_option maxRecDepth 100000 in
set_option maxHeartbeats 4000000 in
theorem TX10_mark_55 (G : mv_G) (d : Nat) (P : Int32 × mv_H → Prop) (p0 : Int32) (p1 : Int32) (h : mv_H) (hs : mv_sat (fX10_mark_55 p0 p1 h) P) : mv_met G (d + 1) mX10_mark [.ref 55, .int p0, .int p1] mv_SH h (mv_qI mv_SH P) := by
  unfold fX10_mark_55 at hs
  obtain ⟨D, hDe⟩ : ∃ D, D = d + 1 := ⟨_, rfl⟩
  rw [← hDe]
  have hD : d + 1 ≤ D := by omega
  refine mv_enter (lv := [.ref 55, .int p0, .int p1]) 0 (by decide) (by decide +kernel) rfl (Nat.le_of_ble_eq_true rfl) ?_
  refine mv_iload_n dX10_mark_0 rfl ?_
  refine mv_i2l dX10_mark_1 ?_
  refine mv_lconst 0 dX10_mark_2 rfl ?_
  refine mv_lconst 1 dX10_mark_3 rfl ?_
  refine mv_cS (st := []) dX10_mark_4 kk_X10_104 (TX10_in G d _ _ _ _ _ (mv_sat_bind hs)) rfl rfl (Nat.le_of_ble_eq_true rfl) (by omega) rfl ⟨Nat.zero_le _, Nat.zero_le _⟩ (mv_ki fun r1009 hs => ?_)
  refine mv_if_eq dX10_mark_7 hs (fun _ hs => ?_) (fun _ hs => ?_)
  · refine mv_bipush (-2) dX10_mark_32 (by decide) ?_
    exact mv_iret dX10_mark_34 rfl ⟨((-2), h), rfl, rfl, rfl, mv_sat_some hs⟩
  · refine mv_iload_n dX10_mark_10 rfl ?_
    refine mv_i2l dX10_mark_11 ?_
    refine mv_lconst 0 dX10_mark_12 rfl ?_
    refine mv_iload_n dX10_mark_13 rfl ?_
    refine mv_if_ne dX10_mark_14 hs (fun _ hs => ?_) (fun _ hs => ?_)
    · refine mv_ldc2 dX10_mark_17 kn_X10_138 ?_
      refine mv_goto dX10_mark_20 ?_
      exact (BX10_mark_55_b26 G d D (by omega) P _ _ _ _ _ _ hs)
    · refine mv_ldc2 dX10_mark_23 kn_X10_325 ?_
      exact (BX10_mark_55_b26 G d D (by omega) P _ _ _ _ _ _ hs)
noncomputable def fX2_clear_8 (h : mv_H) : Option (mv_H) := mv_let (mv_u h 8 2 0) fun h1019 : mv_H => some h1019
set_option maxRecDepth 100000 in
set_option maxHeartbeats 4000000 in
theorem TX2_clear_8 (G : mv_G) (d : Nat) (P : mv_H → Prop) (h : mv_H) (hs : mv_sat (fX2_clear_8 h) P) : mv_met G (d + 0) mX2_clear [.ref 8] mv_SH h (mv_qv mv_SH P) := by
  unfold fX2_clear_8 at hs
  obtain ⟨D, hDe⟩ : ∃ D, D = d + 0 := ⟨_, rfl⟩
  rw [← hDe]
  have hD : d + 0 ≤ D := by omega
  refine mv_enter (lv := [.ref 8]) 0 (by decide) (by decide +kernel) rfl (Nat.le_of_ble_eq_true rfl) ?_
  refine mv_aload_n dX2_clear_0 rfl ?_
  refine mv_iconst 0 dX2_clear_1 (by decide) ?_
  refine mv_puti dX2_clear_2 kf_X2_17 (fun q => by cases q) gf_8_2 ?_
  refine mv_nameH hs (fun h1019 hs => ?_)
  exact mv_vret dX2_clear_5 rfl ⟨_, rfl, rfl, rfl, mv_sat_some hs⟩
noncomputable def fX2_clear_10 (h : mv_H) : Option (mv_H) := mv_let (mv_u h 10 2 0) fun h1022 : mv_H => some h1022
set_option maxRecDepth 100000 in
set_option maxHeartbeats 4000000 in
theorem TX2_clear_10 (G : mv_G) (d : Nat) (P : mv_H → Prop) (h : mv_H) (hs : mv_sat (fX2_clear_10 h) P) : mv_met G (d + 0) mX2_clear [.ref 10] mv_SH h (mv_qv mv_SH P) := by
  unfold fX2_clear_10 at hs
  obtain ⟨D, hDe⟩ : ∃ D, D = d + 0 := ⟨_, rfl⟩
  rw [← hDe]
  have hD : d + 0 ≤ D := by omega
  refine mv_enter (lv := [.ref 10]) 0 (by decide) (by decide +kernel) rfl (Nat.le_of_ble_eq_true rfl) ?_
  refine mv_aload_n dX2_clear_0 rfl ?_
  refine mv_iconst 0 dX2_clear_1 (by decide) ?_
  refine mv_puti dX2_clear_2 kf_X2_17 (fun q => by cases q) gf_10_2 ?_
  refine mv_nameH hs (fun h1022 hs => ?_)
  exact mv_vret dX2_clear_5 rfl ⟨_, rfl, rfl, rfl, mv_sat_some hs⟩
noncomputable def fX9_iron_0 (p0 : Int32) (h : mv_H) : Option (Int32 × mv_H) := (fX9_isWithin p0 (0 : Int32) (1 : Int32)).bind fun r1016 => if r1016 = 0 then some ((-2), h) else (fX1_marks_1 p0 h).bind fun r1017 => if r1017 = 8 then ((fX2_count_8 h).bind fun r1018 => (fX2_clear_8 h).bind fun r1020 => some (r1018, r1020)) else if r1017 = 10 then ((fX2_count_10 h).bind fun r1021 => (fX2_clear_10 h).bind fun r1023 => some (r1021, r1023)) else none
set_option maxRecDepth 100000 in
set_option maxHeartbeats 4000000 in
theorem TX9_iron_0 (G : mv_G) (d : Nat) (P : Int32 × mv_H → Prop) (p0 : Int32) (h : mv_H) (hs : mv_sat (fX9_iron_0 p0 h) P) : mv_met G (d + 1) mX9_iron [.ref 0, .int p0] mv_SH h (mv_qI mv_SH P) := by
  unfold fX9_iron_0 at hs
  obtain ⟨D, hDe⟩ : ∃ D, D = d + 1 := ⟨_, rfl⟩
  rw [← hDe]
  have hD : d + 1 ≤ D := by omega
  refine mv_enter (lv := [.ref 0, .int p0, .float 0, .float 0]) 2 (by decide) (by decide +kernel) rfl (Nat.le_of_ble_eq_true rfl) ?_
  refine mv_iload_n dX9_iron_0 rfl ?_
  refine mv_iconst 0 dX9_iron_1 (by decide) ?_
  refine mv_iconst 1 dX9_iron_2 (by decide) ?_
  refine mv_cS (st := []) dX9_iron_3 kk_X9_79 (TX9_isWithin G d _ _ _ _ _ (mv_sat_bind hs)) rfl rfl (Nat.le_of_ble_eq_true rfl) (by omega) rfl ⟨Nat.zero_le _, Nat.zero_le _⟩ (mv_ki fun r1016 hs => ?_)
  refine mv_if_ne dX9_iron_6 hs (fun _ hs => ?_) (fun _ hs => ?_)
  · refine mv_bipush (-2) dX9_iron_9 (by decide) ?_
    exact mv_iret dX9_iron_11 rfl ⟨((-2), h), rfl, rfl, rfl, mv_sat_some hs⟩
  · refine mv_aload_n dX9_iron_12 rfl ?_
    refine mv_getr dX9_iron_13 kf_X9_10 gf_0_0 ?_
    refine mv_iload_n dX9_iron_16 rfl ?_
    refine mv_cV (st := []) dX9_iron_17 kk_X9_297 (TX1_marks_1 G d _ _ _ (mv_sat_bind hs)) so_1 vc_1 rfl rfl (Nat.le_of_ble_eq_true rfl) (by omega) rfl ⟨Nat.zero_le _, Nat.zero_le _⟩ (mv_kr fun r1017 hs => ?_)
    refine mv_case hs (fun e hsn => ?_) (fun _ hs => ?_)
    · subst e
      have hs := hsn
      refine mv_astore_n (lv' := [.ref 0, .int p0, .ref 8, .float 0]) dX9_iron_20 (Nat.le_of_ble_eq_true rfl) rfl rfl ?_
      refine mv_aload_n dX9_iron_21 rfl ?_
      refine mv_cV (st := []) dX9_iron_22 kk_X9_307 (TX2_count_8 G d _ _ (mv_sat_bind hs)) so_8 vc_2 rfl rfl (Nat.le_of_ble_eq_true rfl) (by omega) rfl ⟨Nat.zero_le _, Nat.zero_le _⟩ (mv_ki fun r1018 hs => ?_)
      refine mv_istore_n (lv' := [.ref 0, .int p0, .ref 8, .int r1018]) dX9_iron_25 (Nat.le_of_ble_eq_true rfl) rfl rfl ?_
      refine mv_aload_n dX9_iron_26 rfl ?_
      refine mv_cV (st := []) dX9_iron_27 kk_X9_308 (TX2_clear_8 G d _ _ (mv_sat_bind hs)) so_8 vc_2 rfl rfl (Nat.le_of_ble_eq_true rfl) (by omega) rfl ⟨Nat.zero_le _, Nat.zero_le _⟩ (mv_kv fun r1020 hs => ?_)
      refine mv_iload_n dX9_iron_30 rfl ?_
      exact mv_iret dX9_iron_31 rfl ⟨(r1018, r1020), rfl, rfl, rfl, mv_sat_some hs⟩
    refine mv_case hs (fun e hsn => ?_) (fun _ hs => ?_)
    · subst e
      have hs := hsn
      refine mv_astore_n (lv' := [.ref 0, .int p0, .ref 10, .float 0]) dX9_iron_20 (Nat.le_of_ble_eq_true rfl) rfl rfl ?_
      refine mv_aload_n dX9_iron_21 rfl ?_
      refine mv_cV (st := []) dX9_iron_22 kk_X9_307 (TX2_count_10 G d _ _ (mv_sat_bind hs)) so_10 vc_2 rfl rfl (Nat.le_of_ble_eq_true rfl) (by omega) rfl ⟨Nat.zero_le _, Nat.zero_le _⟩ (mv_ki fun r1021 hs => ?_)
      refine mv_istore_n (lv' := [.ref 0, .int p0, .ref 10, .int r1021]) dX9_iron_25 (Nat.le_of_ble_eq_true rfl) rfl rfl ?_
      refine mv_aload_n dX9_iron_26 rfl ?_
      refine mv_cV (st := []) dX9_iron_27 kk_X9_308 (TX2_clear_10 G d _ _ (mv_sat_bind hs)) so_10 vc_2 rfl rfl (Nat.le_of_ble_eq_true rfl) (by omega) rfl ⟨Nat.zero_le _, Nat.zero_le _⟩ (mv_kv fun r1023 hs => ?_)
      refine mv_iload_n dX9_iron_30 rfl ?_
      exact mv_iret dX9_iron_31 rfl ⟨(r1021, r1023), rfl, rfl, rfl, mv_sat_some hs⟩
    exact (mv_sat_none hs).elim
noncomputable def fX10_iron_55_b59 (v2 : Int32) (s0 : Int32) (h : mv_H) : Option (Int32 × mv_H) := mv_let (mv_u h 55 14 s0) fun h1027 : mv_H => some (v2, h1027)
set_option maxRecDepth 100000 in
set_option maxHeartbeats 4000000 in
theorem BX10_iron_55_b59 (G : mv_G) (d D : Nat) (hD : d + 0 ≤ D) (P : Int32 × mv_H → Prop) (v2 : Int32) (s0 : Int32) (h : mv_H) (hs : mv_sat (fX10_iron_55_b59 v2 s0 h) P) : mv_MW G mX10_iron (mv_rm D mX10_iron) (mv_Zf G mX10_iron (mv_qI mv_SH P)) 0 0 59 [.float 0, .float 0, .int v2] [.int s0, .ref 55] mv_SH h := by
  unfold fX10_iron_55_b59 at hs
  refine mv_puti dX10_iron_59 kf_X10_330 (fun q => by cases q) gf_55_14 ?_
  refine mv_nameH hs (fun h1027 hs => ?_)
  refine mv_iload_n dX10_iron_62 rfl ?_
  exact mv_iret dX10_iron_63 rfl ⟨(v2, h1027), rfl, rfl, rfl, mv_sat_some hs⟩
noncomputable def fX10_iron_55_b42 (v1 : Int32) (v2 : Int32) (s0 : Int32) (h : mv_H) : Option (Int32 × mv_H) := mv_let (mv_u h 55 12 s0) fun h1026 : mv_H => if v1 = 1 then fX10_iron_55_b59 v2 0 h1026 else fX10_iron_55_b59 v2 (h1026 55 14) h1026
set_option maxRecDepth 100000 in
set_option maxHeartbeats 4000000 in
theorem BX10_iron_55_b42 (G : mv_G) (d D : Nat) (hD : d + 0 ≤ D) (P : Int32 × mv_H → Prop) (v1 : Int32) (v2 : Int32) (s0 : Int32) (h : mv_H) (hs : mv_sat (fX10_iron_55_b42 v1 v2 s0 h) P) : mv_MW G mX10_iron (mv_rm D mX10_iron) (mv_Zf G mX10_iron (mv_qI mv_SH P)) 0 0 42 [.ref 55, .int v1, .int v2] [.int s0, .ref 55] mv_SH h := by
  unfold fX10_iron_55_b42 at hs
  refine mv_puti dX10_iron_42 kf_X10_327 (fun q => by cases q) gf_55_12 ?_
  refine mv_nameH hs (fun h1026 hs => ?_)
  refine mv_aload_n dX10_iron_45 rfl ?_
  refine mv_iload_n dX10_iron_46 rfl ?_
  refine mv_iconst 1 dX10_iron_47 (by decide) ?_
  refine mv_icmp_ne dX10_iron_48 hs (fun _ hs => ?_) (fun _ hs => ?_)
  · refine mv_iconst 0 dX10_iron_51 (by decide) ?_
    refine mv_goto dX10_iron_52 ?_
    exact mv_weak (lv' := [.float 0, .float 0, .int v2]) (mv_k (mv_k (mv_s mv_n))) (BX10_iron_55_b59 G d D (by omega) P _ _ _ hs)
  · refine mv_aload_n dX10_iron_55 rfl ?_
    refine mv_geti dX10_iron_56 kf_X10_330 gf_55_14 ?_
    exact mv_weak (lv' := [.float 0, .float 0, .int v2]) (mv_k (mv_k (mv_s mv_n))) (BX10_iron_55_b59 G d D (by omega) P _ _ _ hs)
noncomputable def fX10_iron_55_b28 (v1 : Int32) (s0 : Int32) (h : mv_H) : Option (Int32 × mv_H) := if v1 = 0 then fX10_iron_55_b42 v1 s0 0 h else fX10_iron_55_b42 v1 s0 (h 55 12) h
set_option maxRecDepth 100000 in
set_option maxHeartbeats 4000000 in
theorem BX10_iron_55_b28 (G : mv_G) (d D : Nat) (hD : d + 0 ≤ D) (P : Int32 × mv_H → Prop) (v1 : Int32) (s0 : Int32) (h : mv_H) (hs : mv_sat (fX10_iron_55_b28 v1 s0 h) P) : mv_MW G mX10_iron (mv_rm D mX10_iron) (mv_Zf G mX10_iron (mv_qI mv_SH P)) 0 0 28 [.ref 55, .int v1, .float 0] [.int s0] mv_SH h := by
  unfold fX10_iron_55_b28 at hs
  refine mv_istore_n (lv' := [.ref 55, .int v1, .int s0]) dX10_iron_28 (Nat.le_of_ble_eq_true rfl) rfl rfl ?_
  refine mv_aload_n dX10_iron_29 rfl ?_
  refine mv_iload_n dX10_iron_30 rfl ?_
  refine mv_if_ne dX10_iron_31 hs (fun _ hs => ?_) (fun _ hs => ?_)
  · refine mv_iconst 0 dX10_iron_34 (by decide) ?_
    refine mv_goto dX10_iron_35 ?_
    exact (BX10_iron_55_b42 G d D (by omega) P _ _ _ _ hs)
  · refine mv_aload_n dX10_iron_38 rfl ?_
    refine mv_geti dX10_iron_39 kf_X10_327 gf_55_12 ?_
    exact (BX10_iron_55_b42 G d D (by omega) P _ _ _ _ hs)
noncomputable def fX10_iron_55 (p0 : Int32) (h : mv_H) : Option (Int32 × mv_H) := (fX10_in (Int32.toInt64 p0) (0 : Int64) (1 : Int64)).bind fun r1025 => if r1025 = 0 then some ((-2), h) else if p0 = 0 then fX10_iron_55_b28 p0 (h 55 12) h else fX10_iron_55_b28 p0 (h 55 14) h
set_option maxRecDepth 100000 in
set_option maxHeartbeats 4000000 in
theorem TX10_iron_55 (G : mv_G) (d : Nat) (P : Int32 × mv_H → Prop) (p0 : Int32) (h : mv_H) (hs : mv_sat (fX10_iron_55 p0 h) P) : mv_met G (d + 1) mX10_iron [.ref 55, .int p0] mv_SH h (mv_qI mv_SH P) := by
  unfold fX10_iron_55 at hs
  obtain ⟨D, hDe⟩ : ∃ D, D = d + 1 := ⟨_, rfl⟩
  rw [← hDe]
  have hD : d + 1 ≤ D := by omega
  refine mv_enter (lv := [.ref 55, .int p0, .float 0]) 1 (by decide) (by decide +kernel) rfl (Nat.le_of_ble_eq_true rfl) ?_
  refine mv_iload_n dX10_iron_0 rfl ?_
  refine mv_i2l dX10_iron_1 ?_
  refine mv_lconst 0 dX10_iron_2 rfl ?_
  refine mv_lconst 1 dX10_iron_3 rfl ?_
  refine mv_cS (st := []) dX10_iron_4 kk_X10_104 (TX10_in G d _ _ _ _ _ (mv_sat_bind hs)) rfl rfl (Nat.le_of_ble_eq_true rfl) (by omega) rfl ⟨Nat.zero_le _, Nat.zero_le _⟩ (mv_ki fun r1025 hs => ?_)
  refine mv_if_ne dX10_iron_7 hs (fun _ hs => ?_) (fun _ hs => ?_)
  · refine mv_bipush (-2) dX10_iron_10 (by decide) ?_
    exact mv_iret dX10_iron_12 rfl ⟨((-2), h), rfl, rfl, rfl, mv_sat_some hs⟩
  · refine mv_iload_n dX10_iron_13 rfl ?_
    refine mv_if_ne dX10_iron_14 hs (fun _ hs => ?_) (fun _ hs => ?_)
    · refine mv_aload_n dX10_iron_17 rfl ?_
      refine mv_geti dX10_iron_18 kf_X10_327 gf_55_12 ?_
      refine mv_goto dX10_iron_21 ?_
      exact (BX10_iron_55_b28 G d D (by omega) P _ _ _ hs)
    · refine mv_aload_n dX10_iron_24 rfl ?_
      refine mv_geti dX10_iron_25 kf_X10_330 gf_55_14 ?_
      exact (BX10_iron_55_b28 G d D (by omega) P _ _ _ hs)
noncomputable def fX2_areHidden_8_b44 (k3 : Int32 → Int32 → Int32 → Int32 → mv_H → Option (Int32)) (v1 : Int32) (v2 : Int32) (v3 : Int32) (v4 : Int32) (h : mv_H) : Option (Int32) := k3 v1 v2 v3 (v4 + 1) h
set_option maxRecDepth 100000 in
set_option maxHeartbeats 4000000 in
theorem BX2_areHidden_8_b44 (G : mv_G) (d D : Nat) (hD : d + 0 ≤ D) (P : Int32 → Prop) (k3 : Int32 → Int32 → Int32 → Int32 → mv_H → Option (Int32)) (h : mv_H) (hk3 : ∀ (v1 : Int32) (v2 : Int32) (v3 : Int32) (v4 : Int32), mv_sat (k3 v1 v2 v3 v4 h) P → mv_MW G mX2_areHidden (mv_rm D mX2_areHidden) (mv_Zf G mX2_areHidden (mv_qi mv_SH h P)) 0 0 3 [.ref 8, .int v1, .int v2, .int v3, .int v4, .float 0] [] mv_SH h) (v1 : Int32) (v2 : Int32) (v3 : Int32) (v4 : Int32) (hs : mv_sat (fX2_areHidden_8_b44 k3 v1 v2 v3 v4 h) P) : mv_MW G mX2_areHidden (mv_rm D mX2_areHidden) (mv_Zf G mX2_areHidden (mv_qi mv_SH h P)) 0 0 44 [.ref 8, .int v1, .int v2, .int v3, .int v4, .float 0] [] mv_SH h := by
  unfold fX2_areHidden_8_b44 at hs
  refine mv_iinc (lv' := [.ref 8, .int v1, .int v2, .int v3, .int (v4 + 1), .float 0]) 1 dX2_areHidden_44 rfl (by decide) (Nat.le_of_ble_eq_true rfl) rfl rfl ?_
  refine mv_goto dX2_areHidden_47 ?_
  exact (hk3 _ _ _ _ hs)
noncomputable def fX2_areHidden_8_b3 : Nat → Int32 → Int32 → Int32 → Int32 → mv_H → Option (Int32)
  | 0, _, _, _, _, _ => none
  | n + 1, v1, v2, v3, v4, h => if v4 < (h 8 2) then (if v4 < 6 then (if mv_in v4 6 then (mv_let ((h 9 v4.toNatClampNeg) - v1) fun x1039 : Int32 => if v3 < x1039 then (if v2 < x1039 then fX2_areHidden_8_b44 (fX2_areHidden_8_b3 n) v1 v2 v3 v4 h else some 0) else fX2_areHidden_8_b44 (fX2_areHidden_8_b3 n) v1 v2 v3 v4 h) else none) else some 1) else some 1
set_option maxRecDepth 100000 in
set_option maxHeartbeats 4000000 in
theorem BX2_areHidden_8_b3 (G : mv_G) (d D : Nat) (hD : d + 0 ≤ D) (P : Int32 → Prop) (h : mv_H) : ∀ (n : Nat) (v1 : Int32) (v2 : Int32) (v3 : Int32) (v4 : Int32), mv_sat (fX2_areHidden_8_b3 n v1 v2 v3 v4 h) P → mv_MW G mX2_areHidden (mv_rm D mX2_areHidden) (mv_Zf G mX2_areHidden (mv_qi mv_SH h P)) 0 0 3 [.ref 8, .int v1, .int v2, .int v3, .int v4, .float 0] [] mv_SH h := by
  intro n
  induction n with
  | zero =>
    intro v1 v2 v3 v4 hs
    unfold fX2_areHidden_8_b3 at hs
    exact (mv_sat_none hs).elim
  | succ n ih =>
    intro v1 v2 v3 v4 hs
    unfold fX2_areHidden_8_b3 at hs
    refine mv_iload dX2_areHidden_3 rfl ?_
    refine mv_aload_n dX2_areHidden_5 rfl ?_
    refine mv_geti dX2_areHidden_6 kf_X2_17 gf_8_2 ?_
    refine mv_icmp_ge dX2_areHidden_9 hs (fun _ hs => ?_) (fun _ hs => ?_)
    · refine mv_iload dX2_areHidden_12 rfl ?_
      refine mv_bipush 6 dX2_areHidden_14 (by decide) ?_
      refine mv_icmp_ge dX2_areHidden_16 hs (fun _ hs => ?_) (fun _ hs => ?_)
      · refine mv_aload_n dX2_areHidden_19 rfl ?_
        refine mv_getr dX2_areHidden_20 kf_X2_9 gf_8_1 ?_
        refine mv_iload dX2_areHidden_23 rfl ?_
        refine mv_iaload dX2_areHidden_25 so_9 hs (fun hs => ?_)
        refine mv_iload_n dX2_areHidden_26 rfl ?_
        refine mv_isub dX2_areHidden_27 ?_
        refine mv_name hs (fun x1039 hs => ?_)
        refine mv_istore (lv' := [.ref 8, .int v1, .int v2, .int v3, .int v4, .int x1039]) dX2_areHidden_28 (Nat.le_of_ble_eq_true rfl) rfl rfl ?_
        refine mv_iload dX2_areHidden_30 rfl ?_
        refine mv_iload_n dX2_areHidden_32 rfl ?_
        refine mv_icmp_le dX2_areHidden_33 hs (fun _ hs => ?_) (fun _ hs => ?_)
        · refine mv_iload dX2_areHidden_36 rfl ?_
          refine mv_iload_n dX2_areHidden_38 rfl ?_
          refine mv_icmp_gt dX2_areHidden_39 hs (fun _ hs => ?_) (fun _ hs => ?_)
          · exact mv_weak (lv' := [.ref 8, .int v1, .int v2, .int v3, .int v4, .float 0]) (mv_s (mv_s (mv_s (mv_s (mv_s (mv_k mv_n)))))) (BX2_areHidden_8_b44 G d D (by omega) P _ _ ih _ _ _ _ hs)
          · refine mv_iconst 0 dX2_areHidden_42 (by decide) ?_
            exact mv_zret dX2_areHidden_43 rfl (Or.inl rfl) ⟨_, rfl, rfl, rfl, mv_sat_some hs⟩
        · exact mv_weak (lv' := [.ref 8, .int v1, .int v2, .int v3, .int v4, .float 0]) (mv_s (mv_s (mv_s (mv_s (mv_s (mv_k mv_n)))))) (BX2_areHidden_8_b44 G d D (by omega) P _ _ ih _ _ _ _ hs)
      · refine mv_iconst 1 dX2_areHidden_50 (by decide) ?_
        exact mv_zret dX2_areHidden_51 rfl (Or.inr rfl) ⟨_, rfl, rfl, rfl, mv_sat_some hs⟩
    · refine mv_iconst 1 dX2_areHidden_50 (by decide) ?_
      exact mv_zret dX2_areHidden_51 rfl (Or.inr rfl) ⟨_, rfl, rfl, rfl, mv_sat_some hs⟩
noncomputable def fX2_areHidden_8 (p0 : Int32) (p1 : Int32) (p2 : Int32) (h : mv_H) : Option (Int32) := fX2_areHidden_8_b3 mv_F p0 p1 p2 0 h
set_option maxRecDepth 100000 in
set_option maxHeartbeats 4000000 in
theorem TX2_areHidden_8 (G : mv_G) (d : Nat) (P : Int32 → Prop) (p0 : Int32) (p1 : Int32) (p2 : Int32) (h : mv_H) (hs : mv_sat (fX2_areHidden_8 p0 p1 p2 h) P) : mv_met G (d + 0) mX2_areHidden [.ref 8, .int p0, .int p1, .int p2] mv_SH h (mv_qi mv_SH h P) := by
  unfold fX2_areHidden_8 at hs
  obtain ⟨D, hDe⟩ : ∃ D, D = d + 0 := ⟨_, rfl⟩
  rw [← hDe]
  have hD : d + 0 ≤ D := by omega
  refine mv_enter (lv := [.ref 8, .int p0, .int p1, .int p2, .float 0, .float 0]) 2 (by decide) (by decide +kernel) rfl (Nat.le_of_ble_eq_true rfl) ?_
  refine mv_iconst 0 dX2_areHidden_0 (by decide) ?_
  refine mv_istore (lv' := [.ref 8, .int p0, .int p1, .int p2, .int 0, .float 0]) dX2_areHidden_1 (Nat.le_of_ble_eq_true rfl) rfl rfl ?_
  exact (BX2_areHidden_8_b3 G d D (by omega) P _ _ _ _ _ _ hs)
noncomputable def fX9_hidden_0_b142 (k97 : Int32 → Int32 → Int32 → Int32 → Int32 → Int32 → Int32 → mv_H → Option (Int32 × mv_H)) (v4 : Int32) (v6 : Int32) (v7 : Int32) (v8 : Int32) (v9 : Int32) (v10 : Int32) (v11 : Int32) (h : mv_H) : Option (Int32 × mv_H) := k97 v4 v6 v7 v8 v9 v10 (v11 + 1) h
set_option maxRecDepth 100000 in
set_option maxHeartbeats 4000000 in
theorem BX9_hidden_0_b142 (G : mv_G) (d D : Nat) (hD : d + 0 ≤ D) (P : Int32 × mv_H → Prop) (k97 : Int32 → Int32 → Int32 → Int32 → Int32 → Int32 → Int32 → mv_H → Option (Int32 × mv_H)) (hk97 : ∀ (v4 : Int32) (v6 : Int32) (v7 : Int32) (v8 : Int32) (v9 : Int32) (v10 : Int32) (v11 : Int32) (h : mv_H), mv_sat (k97 v4 v6 v7 v8 v9 v10 v11 h) P → mv_MW G mX9_hidden (mv_rm D mX9_hidden) (mv_Zf G mX9_hidden (mv_qI mv_SH P)) 0 0 97 [.ref 0, .float 0, .float 0, .float 0, .int v4, .float 0, .int v6, .int v7, .int v8, .int v9, .int v10, .int v11] [] mv_SH h) (v4 : Int32) (v6 : Int32) (v7 : Int32) (v8 : Int32) (v9 : Int32) (v10 : Int32) (v11 : Int32) (h : mv_H) (hs : mv_sat (fX9_hidden_0_b142 k97 v4 v6 v7 v8 v9 v10 v11 h) P) : mv_MW G mX9_hidden (mv_rm D mX9_hidden) (mv_Zf G mX9_hidden (mv_qI mv_SH P)) 0 0 142 [.ref 0, .float 0, .float 0, .float 0, .int v4, .float 0, .int v6, .int v7, .int v8, .int v9, .int v10, .int v11] [] mv_SH h := by
  unfold fX9_hidden_0_b142 at hs
  refine mv_iinc (lv' := [.ref 0, .float 0, .float 0, .float 0, .int v4, .float 0, .int v6, .int v7, .int v8, .int v9, .int v10, .int (v11 + 1)]) 1 dX9_hidden_142 rfl (by decide) (Nat.le_of_ble_eq_true rfl) rfl rfl ?_
  refine mv_goto dX9_hidden_145 ?_
  exact (hk97 _ _ _ _ _ _ _ _ hs)
noncomputable def fX9_hidden_0_b140 (k97 : Int32 → Int32 → Int32 → Int32 → Int32 → Int32 → Int32 → mv_H → Option (Int32 × mv_H)) (v4 : Int32) (v6 : Int32) (v7 : Int32) (v8 : Int32) (v9 : Int32) (v11 : Int32) (s0 : Int32) (h : mv_H) : Option (Int32 × mv_H) := fX9_hidden_0_b142 k97 v4 v6 v7 v8 v9 s0 v11 h
set_option maxRecDepth 100000 in
set_option maxHeartbeats 4000000 in
theorem BX9_hidden_0_b140 (G : mv_G) (d D : Nat) (hD : d + 0 ≤ D) (P : Int32 × mv_H → Prop) (k97 : Int32 → Int32 → Int32 → Int32 → Int32 → Int32 → Int32 → mv_H → Option (Int32 × mv_H)) (hk97 : ∀ (v4 : Int32) (v6 : Int32) (v7 : Int32) (v8 : Int32) (v9 : Int32) (v10 : Int32) (v11 : Int32) (h : mv_H), mv_sat (k97 v4 v6 v7 v8 v9 v10 v11 h) P → mv_MW G mX9_hidden (mv_rm D mX9_hidden) (mv_Zf G mX9_hidden (mv_qI mv_SH P)) 0 0 97 [.ref 0, .float 0, .float 0, .float 0, .int v4, .float 0, .int v6, .int v7, .int v8, .int v9, .int v10, .int v11] [] mv_SH h) (v4 : Int32) (v6 : Int32) (v7 : Int32) (v8 : Int32) (v9 : Int32) (v11 : Int32) (s0 : Int32) (h : mv_H) (hs : mv_sat (fX9_hidden_0_b140 k97 v4 v6 v7 v8 v9 v11 s0 h) P) : mv_MW G mX9_hidden (mv_rm D mX9_hidden) (mv_Zf G mX9_hidden (mv_qI mv_SH P)) 0 0 140 [.ref 0, .float 0, .float 0, .float 0, .int v4, .float 0, .int v6, .int v7, .int v8, .int v9, .float 0, .int v11] [.int s0] mv_SH h := by
  unfold fX9_hidden_0_b140 at hs
  refine mv_istore (lv' := [.ref 0, .float 0, .float 0, .float 0, .int v4, .float 0, .int v6, .int v7, .int v8, .int v9, .int s0, .int v11]) dX9_hidden_140 (Nat.le_of_ble_eq_true rfl) rfl rfl ?_
  exact (BX9_hidden_0_b142 G d D (by omega) P _ hk97 _ _ _ _ _ _ _ _ hs)
noncomputable def fX9_hidden_0_b97 : Nat → Int32 → Int32 → Int32 → Int32 → Int32 → Int32 → Int32 → mv_H → Option (Int32 × mv_H)
  | 0, _, _, _, _, _, _, _, _ => none
  | n + 1, v4, v6, v7, v8, v9, v10, v11, h => if v8 < v11 then (if v4 = 0 then some (v9, h) else some (v10, h)) else (fX2_areHidden_8 v11 v6 v7 h).bind fun r1040 => if r1040 = 0 then fX9_hidden_0_b142 (fX9_hidden_0_b97 n) v4 v6 v7 v8 v9 v10 v11 h else if v10 = (-6) then fX9_hidden_0_b140 (fX9_hidden_0_b97 n) v4 v6 v7 v8 (v9 + 1) v11 v11 h else fX9_hidden_0_b140 (fX9_hidden_0_b97 n) v4 v6 v7 v8 (v9 + 1) v11 v10 h
set_option maxRecDepth 100000 in
set_option maxHeartbeats 4000000 in
theorem BX9_hidden_0_b97 (G : mv_G) (d D : Nat) (hD : d + 1 ≤ D) (P : Int32 × mv_H → Prop) : ∀ (n : Nat) (v4 : Int32) (v6 : Int32) (v7 : Int32) (v8 : Int32) (v9 : Int32) (v10 : Int32) (v11 : Int32) (h : mv_H), mv_sat (fX9_hidden_0_b97 n v4 v6 v7 v8 v9 v10 v11 h) P → mv_MW G mX9_hidden (mv_rm D mX9_hidden) (mv_Zf G mX9_hidden (mv_qI mv_SH P)) 0 0 97 [.ref 0, .float 0, .float 0, .float 0, .int v4, .float 0, .int v6, .int v7, .int v8, .int v9, .int v10, .int v11] [] mv_SH h := by
  intro n
  induction n with
  | zero =>
    intro v4 v6 v7 v8 v9 v10 v11 h hs
    unfold fX9_hidden_0_b97 at hs
    exact (mv_sat_none hs).elim
  | succ n ih =>
    intro v4 v6 v7 v8 v9 v10 v11 h hs
    unfold fX9_hidden_0_b97 at hs
    refine mv_iload dX9_hidden_97 rfl ?_
    refine mv_iload dX9_hidden_99 rfl ?_
    refine mv_icmp_gt dX9_hidden_101 hs (fun _ hs => ?_) (fun _ hs => ?_)
    · refine mv_iload dX9_hidden_148 rfl ?_
      refine mv_if_ne dX9_hidden_150 hs (fun _ hs => ?_) (fun _ hs => ?_)
      · refine mv_iload dX9_hidden_153 rfl ?_
        refine mv_goto dX9_hidden_155 ?_
        exact mv_iret dX9_hidden_160 rfl ⟨(v9, h), rfl, rfl, rfl, mv_sat_some hs⟩
      · refine mv_iload dX9_hidden_158 rfl ?_
        exact mv_iret dX9_hidden_160 rfl ⟨(v10, h), rfl, rfl, rfl, mv_sat_some hs⟩
    · refine mv_aload_n dX9_hidden_104 rfl ?_
      refine mv_getr dX9_hidden_105 kf_X9_10 gf_0_0 ?_
      refine mv_getr dX9_hidden_108 kf_X9_312 gf_1_3 ?_
      refine mv_iload dX9_hidden_111 rfl ?_
      refine mv_iload dX9_hidden_113 rfl ?_
      refine mv_iload dX9_hidden_115 rfl ?_
      refine mv_cV (st := []) dX9_hidden_117 kk_X9_316 (TX2_areHidden_8 G d _ _ _ _ _ (mv_sat_bind hs)) so_8 vc_2 rfl rfl (Nat.le_of_ble_eq_true rfl) (by omega) rfl ⟨Nat.zero_le _, Nat.zero_le _⟩ (mv_ki fun r1040 hs => ?_)
      refine mv_if_eq dX9_hidden_120 hs (fun _ hs => ?_) (fun _ hs => ?_)
      · exact (BX9_hidden_0_b142 G d D (by omega) P _ ih _ _ _ _ _ _ _ _ hs)
      · refine mv_iinc (lv' := [.ref 0, .float 0, .float 0, .float 0, .int v4, .float 0, .int v6, .int v7, .int v8, .int (v9 + 1), .int v10, .int v11]) 1 dX9_hidden_123 rfl (by decide) (Nat.le_of_ble_eq_true rfl) rfl rfl ?_
        refine mv_iload dX9_hidden_126 rfl ?_
        refine mv_bipush (-6) dX9_hidden_128 (by decide) ?_
        refine mv_icmp_ne dX9_hidden_130 hs (fun _ hs => ?_) (fun _ hs => ?_)
        · refine mv_iload dX9_hidden_133 rfl ?_
          refine mv_goto dX9_hidden_135 ?_
          exact mv_weak (lv' := [.ref 0, .float 0, .float 0, .float 0, .int v4, .float 0, .int v6, .int v7, .int v8, .int (v9 + 1), .float 0, .int v11]) (mv_s (mv_s (mv_s (mv_s (mv_s (mv_s (mv_s (mv_s (mv_s (mv_s (mv_k (mv_s mv_n)))))))))))) (BX9_hidden_0_b140 G d D (by omega) P _ ih _ _ _ _ _ _ _ _ hs)
        · refine mv_iload dX9_hidden_138 rfl ?_
          exact mv_weak (lv' := [.ref 0, .float 0, .float 0, .float 0, .int v4, .float 0, .int v6, .int v7, .int v8, .int (v9 + 1), .float 0, .int v11]) (mv_s (mv_s (mv_s (mv_s (mv_s (mv_s (mv_s (mv_s (mv_s (mv_s (mv_k (mv_s mv_n)))))))))))) (BX9_hidden_0_b140 G d D (by omega) P _ ih _ _ _ _ _ _ _ _ hs)
noncomputable def fX9_hidden_0 (p0 : Int32) (p1 : Int32) (p2 : Int32) (p3 : Int32) (h : mv_H) : Option (Int32 × mv_H) := (fX9_isBoxByAxis_0 p0 p1 h).bind fun r1029 => if r1029 = 0 then some ((-1), h) else (fX7_has_6 p2 h).bind fun r1030 => if r1030 = 0 then some ((-1), h) else (fX9_isWithin p3 (0 : Int32) (1 : Int32)).bind fun r1031 => if r1031 = 0 then some ((-2), h) else (fX9_wrapOf_0 p0 h).bind fun r1032 => (fX8_round_38 p1 r1032).bind fun r1033 => (fX1_setting_1 (0 : Int32) r1032).bind fun r1034 => (fX8_u_38 p1 r1032).bind fun r1035 => mv_let (r1034 + r1035) fun x1036 : Int32 => (fX7_side_6 p2 (0 : Int32) r1032).bind fun r1037 => mv_let (r1037 - r1033) fun x1038 : Int32 => fX9_hidden_0_b97 mv_F p3 r1033 x1036 x1038 0 (-6) 0 r1032
set_option maxRecDepth 100000 in
set_option maxHeartbeats 4000000 in
theorem TX9_hidden_0 (G : mv_G) (d : Nat) (P : Int32 × mv_H → Prop) (p0 : Int32) (p1 : Int32) (p2 : Int32) (p3 : Int32) (h : mv_H) (hs : mv_sat (fX9_hidden_0 p0 p1 p2 p3 h) P) : mv_met G (d + 3) mX9_hidden [.ref 0, .int p0, .int p1, .int p2, .int p3] mv_SH h (mv_qI mv_SH P) := by
  unfold fX9_hidden_0 at hs
  obtain ⟨D, hDe⟩ : ∃ D, D = d + 3 := ⟨_, rfl⟩
  rw [← hDe]
  have hD : d + 3 ≤ D := by omega
  refine mv_enter (lv := [.ref 0, .int p0, .int p1, .int p2, .int p3, .float 0, .float 0, .float 0, .float 0, .float 0, .float 0, .float 0]) 7 (by decide) (by decide +kernel) rfl (Nat.le_of_ble_eq_true rfl) ?_
  refine mv_aload_n dX9_hidden_0 rfl ?_
  refine mv_iload_n dX9_hidden_1 rfl ?_
  refine mv_iload_n dX9_hidden_2 rfl ?_
  refine mv_cV (st := []) dX9_hidden_3 kk_X9_140 (TX9_isBoxByAxis_0 G d _ _ _ _ (mv_sat_bind hs)) so_0 vc_9 rfl rfl (Nat.le_of_ble_eq_true rfl) (by omega) rfl ⟨Nat.zero_le _, Nat.zero_le _⟩ (mv_ki fun r1029 hs => ?_)
  refine mv_if_eq dX9_hidden_6 hs (fun _ hs => ?_) (fun _ hs => ?_)
  · refine mv_iconst (-1) dX9_hidden_23 (by decide) ?_
    exact mv_iret dX9_hidden_24 rfl ⟨((-1), h), rfl, rfl, rfl, mv_sat_some hs⟩
  · refine mv_aload_n dX9_hidden_9 rfl ?_
    refine mv_getr dX9_hidden_10 kf_X9_10 gf_0_0 ?_
    refine mv_getr dX9_hidden_13 kf_X9_83 gf_1_2 ?_
    refine mv_iload_n dX9_hidden_16 rfl ?_
    refine mv_cV (st := []) dX9_hidden_17 kk_X9_100 (TX7_has_6 G d _ _ _ (mv_sat_bind hs)) so_6 vc_7 rfl rfl (Nat.le_of_ble_eq_true rfl) (by omega) rfl ⟨Nat.zero_le _, Nat.zero_le _⟩ (mv_ki fun r1030 hs => ?_)
    refine mv_if_ne dX9_hidden_20 hs (fun _ hs => ?_) (fun _ hs => ?_)
    · refine mv_iconst (-1) dX9_hidden_23 (by decide) ?_
      exact mv_iret dX9_hidden_24 rfl ⟨((-1), h), rfl, rfl, rfl, mv_sat_some hs⟩
    · refine mv_iload dX9_hidden_25 rfl ?_
      refine mv_iconst 0 dX9_hidden_27 (by decide) ?_
      refine mv_iconst 1 dX9_hidden_28 (by decide) ?_
      refine mv_cS (st := []) dX9_hidden_29 kk_X9_79 (TX9_isWithin G d _ _ _ _ _ (mv_sat_bind hs)) rfl rfl (Nat.le_of_ble_eq_true rfl) (by omega) rfl ⟨Nat.zero_le _, Nat.zero_le _⟩ (mv_ki fun r1031 hs => ?_)
      refine mv_if_ne dX9_hidden_32 hs (fun _ hs => ?_) (fun _ hs => ?_)
      · refine mv_bipush (-2) dX9_hidden_35 (by decide) ?_
        exact mv_iret dX9_hidden_37 rfl ⟨((-2), h), rfl, rfl, rfl, mv_sat_some hs⟩
      · refine mv_aload_n dX9_hidden_38 rfl ?_
        refine mv_iload_n dX9_hidden_39 rfl ?_
        refine mv_cV (st := []) dX9_hidden_40 kk_X9_144 (TX9_wrapOf_0 G d _ _ _ (mv_sat_bind hs)) so_0 vc_9 rfl rfl (Nat.le_of_ble_eq_true rfl) (by omega) rfl ⟨Nat.zero_le _, Nat.zero_le _⟩ (mv_kc fun r1032 hs => ?_)
        refine mv_astore (lv' := [.ref 0, .int p0, .int p1, .int p2, .int p3, .ref 38, .float 0, .float 0, .float 0, .float 0, .float 0, .float 0]) dX9_hidden_43 (Nat.le_of_ble_eq_true rfl) rfl rfl ?_
        refine mv_aload dX9_hidden_45 rfl ?_
        refine mv_iload_n dX9_hidden_47 rfl ?_
        refine mv_cV (st := []) dX9_hidden_48 kk_X9_148 (TX8_round_38 G d _ _ _ (mv_sat_bind hs)) so_38 vc_8 rfl rfl (Nat.le_of_ble_eq_true rfl) (by omega) rfl ⟨Nat.zero_le _, Nat.zero_le _⟩ (mv_ki fun r1033 hs => ?_)
        refine mv_istore (lv' := [.ref 0, .int p0, .int p1, .int p2, .int p3, .ref 38, .int r1033, .float 0, .float 0, .float 0, .float 0, .float 0]) dX9_hidden_51 (Nat.le_of_ble_eq_true rfl) rfl rfl ?_
        refine mv_aload_n dX9_hidden_53 rfl ?_
        refine mv_getr dX9_hidden_54 kf_X9_10 gf_0_0 ?_
        refine mv_iconst 0 dX9_hidden_57 (by decide) ?_
        refine mv_cV (st := []) dX9_hidden_58 kk_X9_114 (TX1_setting_1 G d _ _ _ (mv_sat_bind hs)) so_1 vc_1 rfl rfl (Nat.le_of_ble_eq_true rfl) (by omega) rfl ⟨Nat.zero_le _, Nat.zero_le _⟩ (mv_ki fun r1034 hs => ?_)
        refine mv_aload dX9_hidden_61 rfl ?_
        refine mv_iload_n dX9_hidden_63 rfl ?_
        refine mv_cV (st := [.int r1034]) dX9_hidden_64 kk_X9_309 (TX8_u_38 G d _ _ _ (mv_sat_bind hs)) so_38 vc_8 rfl rfl (Nat.le_of_ble_eq_true rfl) (by omega) rfl ⟨Nat.zero_le _, Nat.zero_le _⟩ (mv_ki fun r1035 hs => ?_)
        refine mv_iadd dX9_hidden_67 ?_
        refine mv_name hs (fun x1036 hs => ?_)
        refine mv_istore (lv' := [.ref 0, .int p0, .int p1, .int p2, .int p3, .ref 38, .int r1033, .int x1036, .float 0, .float 0, .float 0, .float 0]) dX9_hidden_68 (Nat.le_of_ble_eq_true rfl) rfl rfl ?_
        refine mv_aload_n dX9_hidden_70 rfl ?_
        refine mv_getr dX9_hidden_71 kf_X9_10 gf_0_0 ?_
        refine mv_getr dX9_hidden_74 kf_X9_83 gf_1_2 ?_
        refine mv_iload_n dX9_hidden_77 rfl ?_
        refine mv_iconst 0 dX9_hidden_78 (by decide) ?_
        refine mv_cV (st := []) dX9_hidden_79 kk_X9_163 (TX7_side_6 G d _ _ _ _ (mv_sat_bind hs)) so_6 vc_7 rfl rfl (Nat.le_of_ble_eq_true rfl) (by omega) rfl ⟨Nat.zero_le _, Nat.zero_le _⟩ (mv_ki fun r1037 hs => ?_)
        refine mv_iload dX9_hidden_82 rfl ?_
        refine mv_isub dX9_hidden_84 ?_
        refine mv_name hs (fun x1038 hs => ?_)
        refine mv_istore (lv' := [.ref 0, .int p0, .int p1, .int p2, .int p3, .ref 38, .int r1033, .int x1036, .int x1038, .float 0, .float 0, .float 0]) dX9_hidden_85 (Nat.le_of_ble_eq_true rfl) rfl rfl ?_
        refine mv_iconst 0 dX9_hidden_87 (by decide) ?_
        refine mv_istore (lv' := [.ref 0, .int p0, .int p1, .int p2, .int p3, .ref 38, .int r1033, .int x1036, .int x1038, .int 0, .float 0, .float 0]) dX9_hidden_88 (Nat.le_of_ble_eq_true rfl) rfl rfl ?_
        refine mv_bipush (-6) dX9_hidden_90 (by decide) ?_
        refine mv_istore (lv' := [.ref 0, .int p0, .int p1, .int p2, .int p3, .ref 38, .int r1033, .int x1036, .int x1038, .int 0, .int (-6), .float 0]) dX9_hidden_92 (Nat.le_of_ble_eq_true rfl) rfl rfl ?_
        refine mv_iconst 0 dX9_hidden_94 (by decide) ?_
        refine mv_istore (lv' := [.ref 0, .int p0, .int p1, .int p2, .int p3, .ref 38, .int r1033, .int x1036, .int x1038, .int 0, .int (-6), .int 0]) dX9_hidden_95 (Nat.le_of_ble_eq_true rfl) rfl rfl ?_
        exact mv_weak (lv' := [.ref 0, .float 0, .float 0, .float 0, .int p3, .float 0, .int r1033, .int x1036, .int x1038, .int 0, .int (-6), .int 0]) (mv_s (mv_k (mv_k (mv_k (mv_s (mv_k (mv_s (mv_s (mv_s (mv_s (mv_s (mv_s mv_n)))))))))))) (BX9_hidden_0_b97 G d D (by omega) P _ _ _ _ _ _ _ _ _ hs)
noncomputable def fX10_isHiddenFrom_55_b61 (k5 : Int32 → Int32 → Int32 → Int32 → mv_H → Option (Int32)) (v1 : Int32) (v2 : Int32) (v4 : Int32) (s0 : Int32) (h : mv_H) : Option (Int32) := k5 v1 v2 s0 (v4 + 1) h
set_option maxRecDepth 100000 in
set_option maxHeartbeats 4000000 in
theorem BX10_isHiddenFrom_55_b61 (G : mv_G) (d D : Nat) (hD : d + 0 ≤ D) (P : Int32 → Prop) (k5 : Int32 → Int32 → Int32 → Int32 → mv_H → Option (Int32)) (h : mv_H) (hk5 : ∀ (v1 : Int32) (v2 : Int32) (v3 : Int32) (v4 : Int32), mv_sat (k5 v1 v2 v3 v4 h) P → mv_MW G mX10_isHiddenFrom (mv_rm D mX10_isHiddenFrom) (mv_Zf G mX10_isHiddenFrom (mv_qi mv_SH h P)) 0 0 5 [.ref 55, .int v1, .int v2, .int v3, .int v4, .float 0] [] mv_SH h) (v1 : Int32) (v2 : Int32) (v4 : Int32) (s0 : Int32) (hs : mv_sat (fX10_isHiddenFrom_55_b61 k5 v1 v2 v4 s0 h) P) : mv_MW G mX10_isHiddenFrom (mv_rm D mX10_isHiddenFrom) (mv_Zf G mX10_isHiddenFrom (mv_qi mv_SH h P)) 0 0 61 [.ref 55, .int v1, .int v2, .float 0, .int v4, .float 0] [.int s0] mv_SH h := by
  unfold fX10_isHiddenFrom_55_b61 at hs
  refine mv_istore_n (lv' := [.ref 55, .int v1, .int v2, .int s0, .int v4, .float 0]) dX10_isHiddenFrom_61 (Nat.le_of_ble_eq_true rfl) rfl rfl ?_
  refine mv_iinc (lv' := [.ref 55, .int v1, .int v2, .int s0, .int (v4 + 1), .float 0]) 1 dX10_isHiddenFrom_62 rfl (by decide) (Nat.le_of_ble_eq_true rfl) rfl rfl ?_
  refine mv_goto dX10_isHiddenFrom_65 ?_
  exact (hk5 _ _ _ _ hs)
noncomputable def fX10_isHiddenFrom_55_b60 (k5 : Int32 → Int32 → Int32 → Int32 → mv_H → Option (Int32)) (v1 : Int32) (v2 : Int32) (v4 : Int32) (h : mv_H) : Option (Int32) := fX10_isHiddenFrom_55_b61 k5 v1 v2 v4 0 h
set_option maxRecDepth 100000 in
set_option maxHeartbeats 4000000 in
theorem BX10_isHiddenFrom_55_b60 (G : mv_G) (d D : Nat) (hD : d + 0 ≤ D) (P : Int32 → Prop) (k5 : Int32 → Int32 → Int32 → Int32 → mv_H → Option (Int32)) (h : mv_H) (hk5 : ∀ (v1 : Int32) (v2 : Int32) (v3 : Int32) (v4 : Int32), mv_sat (k5 v1 v2 v3 v4 h) P → mv_MW G mX10_isHiddenFrom (mv_rm D mX10_isHiddenFrom) (mv_Zf G mX10_isHiddenFrom (mv_qi mv_SH h P)) 0 0 5 [.ref 55, .int v1, .int v2, .int v3, .int v4, .float 0] [] mv_SH h) (v1 : Int32) (v2 : Int32) (v4 : Int32) (hs : mv_sat (fX10_isHiddenFrom_55_b60 k5 v1 v2 v4 h) P) : mv_MW G mX10_isHiddenFrom (mv_rm D mX10_isHiddenFrom) (mv_Zf G mX10_isHiddenFrom (mv_qi mv_SH h P)) 0 0 60 [.ref 55, .int v1, .int v2, .float 0, .int v4, .float 0] [] mv_SH h := by
  unfold fX10_isHiddenFrom_55_b60 at hs
  refine mv_iconst 0 dX10_isHiddenFrom_60 (by decide) ?_
  exact (BX10_isHiddenFrom_55_b61 G d D (by omega) P _ _ hk5 _ _ _ _ hs)
noncomputable def fX10_isHiddenFrom_55_b56 (k5 : Int32 → Int32 → Int32 → Int32 → mv_H → Option (Int32)) (v1 : Int32) (v2 : Int32) (v4 : Int32) (h : mv_H) : Option (Int32) := fX10_isHiddenFrom_55_b61 k5 v1 v2 v4 1 h
set_option maxRecDepth 100000 in
set_option maxHeartbeats 4000000 in
theorem BX10_isHiddenFrom_55_b56 (G : mv_G) (d D : Nat) (hD : d + 0 ≤ D) (P : Int32 → Prop) (k5 : Int32 → Int32 → Int32 → Int32 → mv_H → Option (Int32)) (h : mv_H) (hk5 : ∀ (v1 : Int32) (v2 : Int32) (v3 : Int32) (v4 : Int32), mv_sat (k5 v1 v2 v3 v4 h) P → mv_MW G mX10_isHiddenFrom (mv_rm D mX10_isHiddenFrom) (mv_Zf G mX10_isHiddenFrom (mv_qi mv_SH h P)) 0 0 5 [.ref 55, .int v1, .int v2, .int v3, .int v4, .float 0] [] mv_SH h) (v1 : Int32) (v2 : Int32) (v4 : Int32) (hs : mv_sat (fX10_isHiddenFrom_55_b56 k5 v1 v2 v4 h) P) : mv_MW G mX10_isHiddenFrom (mv_rm D mX10_isHiddenFrom) (mv_Zf G mX10_isHiddenFrom (mv_qi mv_SH h P)) 0 0 56 [.ref 55, .int v1, .int v2, .float 0, .int v4, .float 0] [] mv_SH h := by
  unfold fX10_isHiddenFrom_55_b56 at hs
  refine mv_iconst 1 dX10_isHiddenFrom_56 (by decide) ?_
  refine mv_goto dX10_isHiddenFrom_57 ?_
  exact (BX10_isHiddenFrom_55_b61 G d D (by omega) P _ _ hk5 _ _ _ _ hs)
noncomputable def fX10_isHiddenFrom_55_b5 : Nat → Int32 → Int32 → Int32 → Int32 → mv_H → Option (Int32)
  | 0, _, _, _, _, _ => none
  | n + 1, v1, v2, v3, v4, h => if v4 < (h 55 12) then (if mv_in v4 6 then (mv_let ((h 60 v4.toNatClampNeg) - v1) fun x1047 : Int32 => if v3 = 0 then fX10_isHiddenFrom_55_b60 (fX10_isHiddenFrom_55_b5 n) v1 v2 v4 h else if mv_in v2 3 then (if ((h 55 7) + (h 67 v2.toNatClampNeg)) < x1047 then (if mv_in v2 3 then (if (h 65 v2.toNatClampNeg) < x1047 then fX10_isHiddenFrom_55_b56 (fX10_isHiddenFrom_55_b5 n) v1 v2 v4 h else fX10_isHiddenFrom_55_b60 (fX10_isHiddenFrom_55_b5 n) v1 v2 v4 h) else none) else fX10_isHiddenFrom_55_b56 (fX10_isHiddenFrom_55_b5 n) v1 v2 v4 h) else none) else none) else if mv_01 v3 then some v3 else none
set_option maxRecDepth 100000 in
set_option maxHeartbeats 4000000 in
theorem BX10_isHiddenFrom_55_b5 (G : mv_G) (d D : Nat) (hD : d + 0 ≤ D) (P : Int32 → Prop) (h : mv_H) : ∀ (n : Nat) (v1 : Int32) (v2 : Int32) (v3 : Int32) (v4 : Int32), mv_sat (fX10_isHiddenFrom_55_b5 n v1 v2 v3 v4 h) P → mv_MW G mX10_isHiddenFrom (mv_rm D mX10_isHiddenFrom) (mv_Zf G mX10_isHiddenFrom (mv_qi mv_SH h P)) 0 0 5 [.ref 55, .int v1, .int v2, .int v3, .int v4, .float 0] [] mv_SH h := by
  intro n
  induction n with
  | zero =>
    intro v1 v2 v3 v4 hs
    unfold fX10_isHiddenFrom_55_b5 at hs
    exact (mv_sat_none hs).elim
  | succ n ih =>
    intro v1 v2 v3 v4 hs
    unfold fX10_isHiddenFrom_55_b5 at hs
    refine mv_iload dX10_isHiddenFrom_5 rfl ?_
    refine mv_aload_n dX10_isHiddenFrom_7 rfl ?_
    refine mv_geti dX10_isHiddenFrom_8 kf_X10_327 gf_55_12 ?_
    refine mv_icmp_ge dX10_isHiddenFrom_11 hs (fun _ hs => ?_) (fun _ hs => ?_)
    · refine mv_aload_n dX10_isHiddenFrom_14 rfl ?_
      refine mv_getr dX10_isHiddenFrom_15 kf_X10_22 gf_55_11 ?_
      refine mv_iload dX10_isHiddenFrom_18 rfl ?_
      refine mv_iaload dX10_isHiddenFrom_20 so_60 hs (fun hs => ?_)
      refine mv_iload_n dX10_isHiddenFrom_21 rfl ?_
      refine mv_isub dX10_isHiddenFrom_22 ?_
      refine mv_name hs (fun x1047 hs => ?_)
      refine mv_istore (lv' := [.ref 55, .int v1, .int v2, .int v3, .int v4, .int x1047]) dX10_isHiddenFrom_23 (Nat.le_of_ble_eq_true rfl) rfl rfl ?_
      refine mv_iload_n dX10_isHiddenFrom_25 rfl ?_
      refine mv_if_eq dX10_isHiddenFrom_26 hs (fun _ hs => ?_) (fun _ hs => ?_)
      · exact mv_weak (lv' := [.ref 55, .int v1, .int v2, .float 0, .int v4, .float 0]) (mv_s (mv_s (mv_s (mv_k (mv_s (mv_k mv_n)))))) (BX10_isHiddenFrom_55_b60 G d D (by omega) P _ _ ih _ _ _ hs)
      · refine mv_iload dX10_isHiddenFrom_29 rfl ?_
        refine mv_aload_n dX10_isHiddenFrom_31 rfl ?_
        refine mv_geti dX10_isHiddenFrom_32 kf_X10_92 gf_55_7 ?_
        refine mv_aload_n dX10_isHiddenFrom_35 rfl ?_
        refine mv_getr dX10_isHiddenFrom_36 kf_X10_43 gf_55_25 ?_
        refine mv_iload_n dX10_isHiddenFrom_39 rfl ?_
        refine mv_iaload dX10_isHiddenFrom_40 so_67 hs (fun hs => ?_)
        refine mv_iadd dX10_isHiddenFrom_41 ?_
        refine mv_icmp_le dX10_isHiddenFrom_42 hs (fun _ hs => ?_) (fun _ hs => ?_)
        · refine mv_iload dX10_isHiddenFrom_45 rfl ?_
          refine mv_aload_n dX10_isHiddenFrom_47 rfl ?_
          refine mv_getr dX10_isHiddenFrom_48 kf_X10_37 gf_55_23 ?_
          refine mv_iload_n dX10_isHiddenFrom_51 rfl ?_
          refine mv_iaload dX10_isHiddenFrom_52 so_65 hs (fun hs => ?_)
          refine mv_icmp_le dX10_isHiddenFrom_53 hs (fun _ hs => ?_) (fun _ hs => ?_)
          · exact mv_weak (lv' := [.ref 55, .int v1, .int v2, .float 0, .int v4, .float 0]) (mv_s (mv_s (mv_s (mv_k (mv_s (mv_k mv_n)))))) (BX10_isHiddenFrom_55_b56 G d D (by omega) P _ _ ih _ _ _ hs)
          · exact mv_weak (lv' := [.ref 55, .int v1, .int v2, .float 0, .int v4, .float 0]) (mv_s (mv_s (mv_s (mv_k (mv_s (mv_k mv_n)))))) (BX10_isHiddenFrom_55_b60 G d D (by omega) P _ _ ih _ _ _ hs)
        · exact mv_weak (lv' := [.ref 55, .int v1, .int v2, .float 0, .int v4, .float 0]) (mv_s (mv_s (mv_s (mv_k (mv_s (mv_k mv_n)))))) (BX10_isHiddenFrom_55_b56 G d D (by omega) P _ _ ih _ _ _ hs)
    · refine mv_iload_n dX10_isHiddenFrom_68 rfl ?_
      obtain ⟨h01, hs⟩ := mv_sat_g hs
      exact mv_zret dX10_isHiddenFrom_69 rfl h01 ⟨_, rfl, rfl, rfl, mv_sat_some hs⟩
noncomputable def fX10_isHiddenFrom_55 (p0 : Int32) (p1 : Int32) (h : mv_H) : Option (Int32) := fX10_isHiddenFrom_55_b5 mv_F p0 p1 1 0 h
set_option maxRecDepth 100000 in
set_option maxHeartbeats 4000000 in
theorem TX10_isHiddenFrom_55 (G : mv_G) (d : Nat) (P : Int32 → Prop) (p0 : Int32) (p1 : Int32) (h : mv_H) (hs : mv_sat (fX10_isHiddenFrom_55 p0 p1 h) P) : mv_met G (d + 0) mX10_isHiddenFrom [.ref 55, .int p0, .int p1] mv_SH h (mv_qi mv_SH h P) := by
  unfold fX10_isHiddenFrom_55 at hs
  obtain ⟨D, hDe⟩ : ∃ D, D = d + 0 := ⟨_, rfl⟩
  rw [← hDe]
  have hD : d + 0 ≤ D := by omega
  refine mv_enter (lv := [.ref 55, .int p0, .int p1, .float 0, .float 0, .float 0]) 3 (by decide) (by decide +kernel) rfl (Nat.le_of_ble_eq_true rfl) ?_
  refine mv_iconst 1 dX10_isHiddenFrom_0 (by decide) ?_
  refine mv_istore_n (lv' := [.ref 55, .int p0, .int p1, .int 1, .float 0, .float 0]) dX10_isHiddenFrom_1 (Nat.le_of_ble_eq_true rfl) rfl rfl ?_
  refine mv_iconst 0 dX10_isHiddenFrom_2 (by decide) ?_
  refine mv_istore (lv' := [.ref 55, .int p0, .int p1, .int 1, .int 0, .float 0]) dX10_isHiddenFrom_3 (Nat.le_of_ble_eq_true rfl) rfl rfl ?_
  exact (BX10_isHiddenFrom_55_b5 G d D (by omega) P _ _ _ _ _ _ hs)
noncomputable def fX10_hidden_55_b99 (k54 : Int32 → Int32 → Int32 → Int32 → Int32 → Int32 → mv_H → Option (Int32 × mv_H)) (v2 : Int32) (v3 : Int32) (v4 : Int32) (v5 : Int32) (v6 : Int32) (v7 : Int32) (h : mv_H) : Option (Int32 × mv_H) := k54 v2 v3 v4 v5 v6 (v7 + 1) h
set_option maxRecDepth 100000 in
set_option maxHeartbeats 4000000 in
theorem BX10_hidden_55_b99 (G : mv_G) (d D : Nat) (hD : d + 0 ≤ D) (P : Int32 × mv_H → Prop) (k54 : Int32 → Int32 → Int32 → Int32 → Int32 → Int32 → mv_H → Option (Int32 × mv_H)) (hk54 : ∀ (v2 : Int32) (v3 : Int32) (v4 : Int32) (v5 : Int32) (v6 : Int32) (v7 : Int32) (h : mv_H), mv_sat (k54 v2 v3 v4 v5 v6 v7 h) P → mv_MW G mX10_hidden (mv_rm D mX10_hidden) (mv_Zf G mX10_hidden (mv_qI mv_SH P)) 0 0 54 [.ref 55, .float 0, .int v2, .int v3, .int v4, .int v5, .int v6, .int v7] [] mv_SH h) (v2 : Int32) (v3 : Int32) (v4 : Int32) (v5 : Int32) (v6 : Int32) (v7 : Int32) (h : mv_H) (hs : mv_sat (fX10_hidden_55_b99 k54 v2 v3 v4 v5 v6 v7 h) P) : mv_MW G mX10_hidden (mv_rm D mX10_hidden) (mv_Zf G mX10_hidden (mv_qI mv_SH P)) 0 0 99 [.ref 55, .float 0, .int v2, .int v3, .int v4, .int v5, .int v6, .int v7] [] mv_SH h := by
  unfold fX10_hidden_55_b99 at hs
  refine mv_iinc (lv' := [.ref 55, .float 0, .int v2, .int v3, .int v4, .int v5, .int v6, .int (v7 + 1)]) 1 dX10_hidden_99 rfl (by decide) (Nat.le_of_ble_eq_true rfl) rfl rfl ?_
  refine mv_goto dX10_hidden_102 ?_
  exact (hk54 _ _ _ _ _ _ _ hs)
noncomputable def fX10_hidden_55_b94 (k54 : Int32 → Int32 → Int32 → Int32 → Int32 → Int32 → mv_H → Option (Int32 × mv_H)) (v2 : Int32) (v3 : Int32) (v4 : Int32) (v5 : Int32) (v7 : Int32) (s0 : Int32) (h : mv_H) : Option (Int32 × mv_H) := fX10_hidden_55_b99 k54 v2 v3 v4 (v5 + 1) s0 v7 h
set_option maxRecDepth 100000 in
set_option maxHeartbeats 4000000 in
theorem BX10_hidden_55_b94 (G : mv_G) (d D : Nat) (hD : d + 0 ≤ D) (P : Int32 × mv_H → Prop) (k54 : Int32 → Int32 → Int32 → Int32 → Int32 → Int32 → mv_H → Option (Int32 × mv_H)) (hk54 : ∀ (v2 : Int32) (v3 : Int32) (v4 : Int32) (v5 : Int32) (v6 : Int32) (v7 : Int32) (h : mv_H), mv_sat (k54 v2 v3 v4 v5 v6 v7 h) P → mv_MW G mX10_hidden (mv_rm D mX10_hidden) (mv_Zf G mX10_hidden (mv_qI mv_SH P)) 0 0 54 [.ref 55, .float 0, .int v2, .int v3, .int v4, .int v5, .int v6, .int v7] [] mv_SH h) (v2 : Int32) (v3 : Int32) (v4 : Int32) (v5 : Int32) (v7 : Int32) (s0 : Int32) (h : mv_H) (hs : mv_sat (fX10_hidden_55_b94 k54 v2 v3 v4 v5 v7 s0 h) P) : mv_MW G mX10_hidden (mv_rm D mX10_hidden) (mv_Zf G mX10_hidden (mv_qI mv_SH P)) 0 0 94 [.ref 55, .float 0, .int v2, .int v3, .int v4, .int v5, .float 0, .int v7] [.int s0] mv_SH h := by
  unfold fX10_hidden_55_b94 at hs
  refine mv_istore (lv' := [.ref 55, .float 0, .int v2, .int v3, .int v4, .int v5, .int s0, .int v7]) dX10_hidden_94 (Nat.le_of_ble_eq_true rfl) rfl rfl ?_
  refine mv_iinc (lv' := [.ref 55, .float 0, .int v2, .int v3, .int v4, .int (v5 + 1), .int s0, .int v7]) 1 dX10_hidden_96 rfl (by decide) (Nat.le_of_ble_eq_true rfl) rfl rfl ?_
  exact (BX10_hidden_55_b99 G d D (by omega) P _ hk54 _ _ _ _ _ _ _ hs)
noncomputable def fX10_hidden_55_b54 : Nat → Int32 → Int32 → Int32 → Int32 → Int32 → Int32 → mv_H → Option (Int32 × mv_H)
  | 0, _, _, _, _, _, _, _ => none
  | n + 1, v2, v3, v4, v5, v6, v7, h => if mv_in v2 3 then (if mv_in v3 6 then (if (h 58 v3.toNatClampNeg) < (v7 + (h 65 v2.toNatClampNeg)) then (if v4 = 0 then some (v5, h) else some (v6, h)) else (fX10_isHiddenFrom_55 v7 v2 h).bind fun r1048 => if r1048 = 0 then fX10_hidden_55_b99 (fX10_hidden_55_b54 n) v2 v3 v4 v5 v6 v7 h else if v5 = 0 then fX10_hidden_55_b94 (fX10_hidden_55_b54 n) v2 v3 v4 v5 v7 v7 h else fX10_hidden_55_b94 (fX10_hidden_55_b54 n) v2 v3 v4 v5 v7 v6 h) else none) else none
set_option maxRecDepth 100000 in
set_option maxHeartbeats 4000000 in
theorem BX10_hidden_55_b54 (G : mv_G) (d D : Nat) (hD : d + 1 ≤ D) (P : Int32 × mv_H → Prop) : ∀ (n : Nat) (v2 : Int32) (v3 : Int32) (v4 : Int32) (v5 : Int32) (v6 : Int32) (v7 : Int32) (h : mv_H), mv_sat (fX10_hidden_55_b54 n v2 v3 v4 v5 v6 v7 h) P → mv_MW G mX10_hidden (mv_rm D mX10_hidden) (mv_Zf G mX10_hidden (mv_qI mv_SH P)) 0 0 54 [.ref 55, .float 0, .int v2, .int v3, .int v4, .int v5, .int v6, .int v7] [] mv_SH h := by
  intro n
  induction n with
  | zero =>
    intro v2 v3 v4 v5 v6 v7 h hs
    unfold fX10_hidden_55_b54 at hs
    exact (mv_sat_none hs).elim
  | succ n ih =>
    intro v2 v3 v4 v5 v6 v7 h hs
    unfold fX10_hidden_55_b54 at hs
    refine mv_iload dX10_hidden_54 rfl ?_
    refine mv_aload_n dX10_hidden_56 rfl ?_
    refine mv_getr dX10_hidden_57 kf_X10_37 gf_55_23 ?_
    refine mv_iload_n dX10_hidden_60 rfl ?_
    refine mv_iaload dX10_hidden_61 so_65 hs (fun hs => ?_)
    refine mv_iadd dX10_hidden_62 ?_
    refine mv_aload_n dX10_hidden_63 rfl ?_
    refine mv_getr dX10_hidden_64 kf_X10_16 gf_55_5 ?_
    refine mv_iload_n dX10_hidden_67 rfl ?_
    refine mv_iaload dX10_hidden_68 so_58 hs (fun hs => ?_)
    refine mv_icmp_gt dX10_hidden_69 hs (fun _ hs => ?_) (fun _ hs => ?_)
    · refine mv_iload dX10_hidden_105 rfl ?_
      refine mv_if_ne dX10_hidden_107 hs (fun _ hs => ?_) (fun _ hs => ?_)
      · refine mv_iload dX10_hidden_110 rfl ?_
        refine mv_goto dX10_hidden_112 ?_
        exact mv_iret dX10_hidden_117 rfl ⟨(v5, h), rfl, rfl, rfl, mv_sat_some hs⟩
      · refine mv_iload dX10_hidden_115 rfl ?_
        exact mv_iret dX10_hidden_117 rfl ⟨(v6, h), rfl, rfl, rfl, mv_sat_some hs⟩
    · refine mv_aload_n dX10_hidden_72 rfl ?_
      refine mv_iload dX10_hidden_73 rfl ?_
      refine mv_iload_n dX10_hidden_75 rfl ?_
      refine mv_cV (st := []) dX10_hidden_76 kk_X10_333 (TX10_isHiddenFrom_55 G d _ _ _ _ (mv_sat_bind hs)) so_55 vc_10 rfl rfl (Nat.le_of_ble_eq_true rfl) (by omega) rfl ⟨Nat.zero_le _, Nat.zero_le _⟩ (mv_ki fun r1048 hs => ?_)
      refine mv_if_eq dX10_hidden_79 hs (fun _ hs => ?_) (fun _ hs => ?_)
      · exact (BX10_hidden_55_b99 G d D (by omega) P _ ih _ _ _ _ _ _ _ hs)
      · refine mv_iload dX10_hidden_82 rfl ?_
        refine mv_if_ne dX10_hidden_84 hs (fun _ hs => ?_) (fun _ hs => ?_)
        · refine mv_iload dX10_hidden_87 rfl ?_
          refine mv_goto dX10_hidden_89 ?_
          exact mv_weak (lv' := [.ref 55, .float 0, .int v2, .int v3, .int v4, .int v5, .float 0, .int v7]) (mv_s (mv_s (mv_s (mv_s (mv_s (mv_s (mv_k (mv_s mv_n)))))))) (BX10_hidden_55_b94 G d D (by omega) P _ ih _ _ _ _ _ _ _ hs)
        · refine mv_iload dX10_hidden_92 rfl ?_
          exact mv_weak (lv' := [.ref 55, .float 0, .int v2, .int v3, .int v4, .int v5, .float 0, .int v7]) (mv_s (mv_s (mv_s (mv_s (mv_s (mv_s (mv_k (mv_s mv_n)))))))) (BX10_hidden_55_b94 G d D (by omega) P _ ih _ _ _ _ _ _ _ hs)
noncomputable def fX10_hidden_55 (p0 : Int32) (p1 : Int32) (p2 : Int32) (p3 : Int32) (h : mv_H) : Option (Int32 × mv_H) := (fX10_isBox_55 p0 h).bind fun r1042 => if r1042 = 0 then some ((-1), h) else (fX10_isAxis p1).bind fun r1043 => if r1043 = 0 then some ((-1), h) else (fX10_isSheet_55 p2 h).bind fun r1044 => if r1044 = 0 then some ((-1), h) else (fX10_in (Int32.toInt64 p3) (0 : Int64) (1 : Int64)).bind fun r1045 => if r1045 = 0 then some ((-2), h) else (fX10_look_55 p0 h).bind fun r1046 => fX10_hidden_55_b54 mv_F p1 p2 p3 0 (-6) 0 r1046
set_option maxRecDepth 100000 in
set_option maxHeartbeats 4000000 in
theorem TX10_hidden_55 (G : mv_G) (d : Nat) (P : Int32 × mv_H → Prop) (p0 : Int32) (p1 : Int32) (p2 : Int32) (p3 : Int32) (h : mv_H) (hs : mv_sat (fX10_hidden_55 p0 p1 p2 p3 h) P) : mv_met G (d + 3) mX10_hidden [.ref 55, .int p0, .int p1, .int p2, .int p3] mv_SH h (mv_qI mv_SH P) := by
  unfold fX10_hidden_55 at hs
  obtain ⟨D, hDe⟩ : ∃ D, D = d + 3 := ⟨_, rfl⟩
  rw [← hDe]
  have hD : d + 3 ≤ D := by omega
  refine mv_enter (lv := [.ref 55, .int p0, .int p1, .int p2, .int p3, .float 0, .float 0, .float 0]) 3 (by decide) (by decide +kernel) rfl (Nat.le_of_ble_eq_true rfl) ?_
  refine mv_aload_n dX10_hidden_0 rfl ?_
  refine mv_iload_n dX10_hidden_1 rfl ?_
  refine mv_cV (st := []) dX10_hidden_2 kk_X10_146 (TX10_isBox_55 G d _ _ _ (mv_sat_bind hs)) so_55 vc_10 rfl rfl (Nat.le_of_ble_eq_true rfl) (by omega) rfl ⟨Nat.zero_le _, Nat.zero_le _⟩ (mv_ki fun r1042 hs => ?_)
  refine mv_if_eq dX10_hidden_5 hs (fun _ hs => ?_) (fun _ hs => ?_)
  · refine mv_iconst (-1) dX10_hidden_23 (by decide) ?_
    exact mv_iret dX10_hidden_24 rfl ⟨((-1), h), rfl, rfl, rfl, mv_sat_some hs⟩
  · refine mv_iload_n dX10_hidden_8 rfl ?_
    refine mv_cS (st := []) dX10_hidden_9 kk_X10_206 (TX10_isAxis G d _ _ _ (mv_sat_bind hs)) rfl rfl (Nat.le_of_ble_eq_true rfl) (by omega) rfl ⟨Nat.zero_le _, Nat.zero_le _⟩ (mv_ki fun r1043 hs => ?_)
    refine mv_if_eq dX10_hidden_12 hs (fun _ hs => ?_) (fun _ hs => ?_)
    · refine mv_iconst (-1) dX10_hidden_23 (by decide) ?_
      exact mv_iret dX10_hidden_24 rfl ⟨((-1), h), rfl, rfl, rfl, mv_sat_some hs⟩
    · refine mv_aload_n dX10_hidden_15 rfl ?_
      refine mv_iload_n dX10_hidden_16 rfl ?_
      refine mv_cV (st := []) dX10_hidden_17 kk_X10_152 (TX10_isSheet_55 G d _ _ _ (mv_sat_bind hs)) so_55 vc_10 rfl rfl (Nat.le_of_ble_eq_true rfl) (by omega) rfl ⟨Nat.zero_le _, Nat.zero_le _⟩ (mv_ki fun r1044 hs => ?_)
      refine mv_if_ne dX10_hidden_20 hs (fun _ hs => ?_) (fun _ hs => ?_)
      · refine mv_iconst (-1) dX10_hidden_23 (by decide) ?_
        exact mv_iret dX10_hidden_24 rfl ⟨((-1), h), rfl, rfl, rfl, mv_sat_some hs⟩
      · refine mv_iload dX10_hidden_25 rfl ?_
        refine mv_i2l dX10_hidden_27 ?_
        refine mv_lconst 0 dX10_hidden_28 rfl ?_
        refine mv_lconst 1 dX10_hidden_29 rfl ?_
        refine mv_cS (st := []) dX10_hidden_30 kk_X10_104 (TX10_in G d _ _ _ _ _ (mv_sat_bind hs)) rfl rfl (Nat.le_of_ble_eq_true rfl) (by omega) rfl ⟨Nat.zero_le _, Nat.zero_le _⟩ (mv_ki fun r1045 hs => ?_)
        refine mv_if_ne dX10_hidden_33 hs (fun _ hs => ?_) (fun _ hs => ?_)
        · refine mv_bipush (-2) dX10_hidden_36 (by decide) ?_
          exact mv_iret dX10_hidden_38 rfl ⟨((-2), h), rfl, rfl, rfl, mv_sat_some hs⟩
        · refine mv_aload_n dX10_hidden_39 rfl ?_
          refine mv_iload_n dX10_hidden_40 rfl ?_
          refine mv_cV (st := []) dX10_hidden_41 kk_X10_209 (TX10_look_55 G d _ _ _ (mv_sat_bind hs)) so_55 vc_10 rfl rfl (Nat.le_of_ble_eq_true rfl) (by omega) rfl ⟨Nat.zero_le _, Nat.zero_le _⟩ (mv_kv fun r1046 hs => ?_)
          refine mv_iconst 0 dX10_hidden_44 (by decide) ?_
          refine mv_istore (lv' := [.ref 55, .int p0, .int p1, .int p2, .int p3, .int 0, .float 0, .float 0]) dX10_hidden_45 (Nat.le_of_ble_eq_true rfl) rfl rfl ?_
          refine mv_bipush (-6) dX10_hidden_47 (by decide) ?_
          refine mv_istore (lv' := [.ref 55, .int p0, .int p1, .int p2, .int p3, .int 0, .int (-6), .float 0]) dX10_hidden_49 (Nat.le_of_ble_eq_true rfl) rfl rfl ?_
          refine mv_iconst 0 dX10_hidden_51 (by decide) ?_
          refine mv_istore (lv' := [.ref 55, .int p0, .int p1, .int p2, .int p3, .int 0, .int (-6), .int 0]) dX10_hidden_52 (Nat.le_of_ble_eq_true rfl) rfl rfl ?_
          exact mv_weak (lv' := [.ref 55, .float 0, .int p1, .int p2, .int p3, .int 0, .int (-6), .int 0]) (mv_s (mv_k (mv_s (mv_s (mv_s (mv_s (mv_s (mv_s mv_n)))))))) (BX10_hidden_55_b54 G d D (by omega) P _ _ _ _ _ _ _ _ hs)
noncomputable def fX9_undone_0_b130 (k41 : Int32 → Int32 → Int32 → Int32 → Int32 → Int32 → mv_H → Option (Int32)) (k51 : Int32 → Int32 → Int32 → Int32 → Int32 → Int32 → Int32 → mv_H → Option (Int32)) (v1 : Int32) (v2 : Int32) (v3 : Int32) (v4 : Int32) (v5 : Int32) (v6 : Int32) (v7 : Int32) (h : mv_H) : Option (Int32) := k51 v1 v2 v3 v4 v5 v6 (v7 + 1) h
set_option maxRecDepth 100000 in
set_option maxHeartbeats 4000000 in
theorem BX9_undone_0_b130 (G : mv_G) (d D : Nat) (hD : d + 0 ≤ D) (P : Int32 → Prop) (k41 : Int32 → Int32 → Int32 → Int32 → Int32 → Int32 → mv_H → Option (Int32)) (k51 : Int32 → Int32 → Int32 → Int32 → Int32 → Int32 → Int32 → mv_H → Option (Int32)) (h : mv_H) (hk41 : ∀ (v1 : Int32) (v2 : Int32) (v3 : Int32) (v4 : Int32) (v5 : Int32) (v6 : Int32), mv_sat (k41 v1 v2 v3 v4 v5 v6 h) P → mv_MW G mX9_undone (mv_rm D mX9_undone) (mv_Zf G mX9_undone (mv_qi mv_SH h P)) 0 0 41 [.ref 0, .int v1, .int v2, .int v3, .int v4, .int v5, .int v6, .float 0, .float 0] [] mv_SH h) (hk51 : ∀ (v1 : Int32) (v2 : Int32) (v3 : Int32) (v4 : Int32) (v5 : Int32) (v6 : Int32) (v7 : Int32), mv_sat (k51 v1 v2 v3 v4 v5 v6 v7 h) P → mv_MW G mX9_undone (mv_rm D mX9_undone) (mv_Zf G mX9_undone (mv_qi mv_SH h P)) 0 0 51 [.ref 0, .int v1, .int v2, .int v3, .int v4, .int v5, .int v6, .int v7, .float 0] [] mv_SH h) (v1 : Int32) (v2 : Int32) (v3 : Int32) (v4 : Int32) (v5 : Int32) (v6 : Int32) (v7 : Int32) (hs : mv_sat (fX9_undone_0_b130 k41 k51 v1 v2 v3 v4 v5 v6 v7 h) P) : mv_MW G mX9_undone (mv_rm D mX9_undone) (mv_Zf G mX9_undone (mv_qi mv_SH h P)) 0 0 130 [.ref 0, .int v1, .int v2, .int v3, .int v4, .int v5, .int v6, .int v7, .float 0] [] mv_SH h := by
  unfold fX9_undone_0_b130 at hs
  refine mv_iinc (lv' := [.ref 0, .int v1, .int v2, .int v3, .int v4, .int v5, .int v6, .int (v7 + 1), .float 0]) 1 dX9_undone_130 rfl (by decide) (Nat.le_of_ble_eq_true rfl) rfl rfl ?_
  refine mv_goto dX9_undone_133 ?_
  exact (hk51 _ _ _ _ _ _ _ hs)
noncomputable def fX2_areOf_10_b61 (k3 : Int32 → Int32 → Int32 → Int32 → mv_H → Option (Int32)) (v1 : Int32) (v2 : Int32) (v3 : Int32) (v4 : Int32) (h : mv_H) : Option (Int32) := k3 v1 v2 v3 (v4 + 1) h
set_option maxRecDepth 100000 in
set_option maxHeartbeats 4000000 in
theorem BX2_areOf_10_b61 (G : mv_G) (d D : Nat) (hD : d + 0 ≤ D) (P : Int32 → Prop) (k3 : Int32 → Int32 → Int32 → Int32 → mv_H → Option (Int32)) (h : mv_H) (hk3 : ∀ (v1 : Int32) (v2 : Int32) (v3 : Int32) (v4 : Int32), mv_sat (k3 v1 v2 v3 v4 h) P → mv_MW G mX2_areOf (mv_rm D mX2_areOf) (mv_Zf G mX2_areOf (mv_qi mv_SH h P)) 0 0 3 [.ref 10, .int v1, .int v2, .int v3, .int v4, .float 0] [] mv_SH h) (v1 : Int32) (v2 : Int32) (v3 : Int32) (v4 : Int32) (hs : mv_sat (fX2_areOf_10_b61 k3 v1 v2 v3 v4 h) P) : mv_MW G mX2_areOf (mv_rm D mX2_areOf) (mv_Zf G mX2_areOf (mv_qi mv_SH h P)) 0 0 61 [.ref 10, .int v1, .int v2, .int v3, .int v4, .float 0] [] mv_SH h := by
  unfold fX2_areOf_10_b61 at hs
  refine mv_iinc (lv' := [.ref 10, .int v1, .int v2, .int v3, .int (v4 + 1), .float 0]) 1 dX2_areOf_61 rfl (by decide) (Nat.le_of_ble_eq_true rfl) rfl rfl ?_
  refine mv_goto dX2_areOf_64 ?_
  exact (hk3 _ _ _ _ hs)
noncomputable def fX2_areOf_10_b3 : Nat → Int32 → Int32 → Int32 → Int32 → mv_H → Option (Int32)
  | 0, _, _, _, _, _ => none
  | n + 1, v1, v2, v3, v4, h => if v4 < (h 10 2) then (if v4 < 6 then (if mv_in v4 6 then (mv_let ((h 11 v4.toNatClampNeg) - v1) fun x1053 : Int32 => if x1053 = 0 then fX2_areOf_10_b61 (fX2_areOf_10_b3 n) v1 v2 v3 v4 h else if x1053 = v2 then fX2_areOf_10_b61 (fX2_areOf_10_b3 n) v1 v2 v3 v4 h else if x1053 = (v2 + v3) then fX2_areOf_10_b61 (fX2_areOf_10_b3 n) v1 v2 v3 v4 h else if x1053 = ((2 * v2) + v3) then fX2_areOf_10_b61 (fX2_areOf_10_b3 n) v1 v2 v3 v4 h else some 0) else none) else some 1) else some 1
set_option maxRecDepth 100000 in
set_option maxHeartbeats 4000000 in
theorem BX2_areOf_10_b3 (G : mv_G) (d D : Nat) (hD : d + 0 ≤ D) (P : Int32 → Prop) (h : mv_H) : ∀ (n : Nat) (v1 : Int32) (v2 : Int32) (v3 : Int32) (v4 : Int32), mv_sat (fX2_areOf_10_b3 n v1 v2 v3 v4 h) P → mv_MW G mX2_areOf (mv_rm D mX2_areOf) (mv_Zf G mX2_areOf (mv_qi mv_SH h P)) 0 0 3 [.ref 10, .int v1, .int v2, .int v3, .int v4, .float 0] [] mv_SH h := by
  intro n
  induction n with
  | zero =>
    intro v1 v2 v3 v4 hs
    unfold fX2_areOf_10_b3 at hs
    exact (mv_sat_none hs).elim
  | succ n ih =>
    intro v1 v2 v3 v4 hs
    unfold fX2_areOf_10_b3 at hs
    refine mv_iload dX2_areOf_3 rfl ?_
    refine mv_aload_n dX2_areOf_5 rfl ?_
    refine mv_geti dX2_areOf_6 kf_X2_17 gf_10_2 ?_
    refine mv_icmp_ge dX2_areOf_9 hs (fun _ hs => ?_) (fun _ hs => ?_)
    · refine mv_iload dX2_areOf_12 rfl ?_
      refine mv_bipush 6 dX2_areOf_14 (by decide) ?_
      refine mv_icmp_ge dX2_areOf_16 hs (fun _ hs => ?_) (fun _ hs => ?_)
      · refine mv_aload_n dX2_areOf_19 rfl ?_
        refine mv_getr dX2_areOf_20 kf_X2_9 gf_10_1 ?_
        refine mv_iload dX2_areOf_23 rfl ?_
        refine mv_iaload dX2_areOf_25 so_11 hs (fun hs => ?_)
        refine mv_iload_n dX2_areOf_26 rfl ?_
        refine mv_isub dX2_areOf_27 ?_
        refine mv_name hs (fun x1053 hs => ?_)
        refine mv_istore (lv' := [.ref 10, .int v1, .int v2, .int v3, .int v4, .int x1053]) dX2_areOf_28 (Nat.le_of_ble_eq_true rfl) rfl rfl ?_
        refine mv_iload dX2_areOf_30 rfl ?_
        refine mv_if_eq dX2_areOf_32 hs (fun _ hs => ?_) (fun _ hs => ?_)
        · exact mv_weak (lv' := [.ref 10, .int v1, .int v2, .int v3, .int v4, .float 0]) (mv_s (mv_s (mv_s (mv_s (mv_s (mv_k mv_n)))))) (BX2_areOf_10_b61 G d D (by omega) P _ _ ih _ _ _ _ hs)
        · refine mv_iload dX2_areOf_35 rfl ?_
          refine mv_iload_n dX2_areOf_37 rfl ?_
          refine mv_icmp_eq dX2_areOf_38 hs (fun _ hs => ?_) (fun _ hs => ?_)
          · exact mv_weak (lv' := [.ref 10, .int v1, .int v2, .int v3, .int v4, .float 0]) (mv_s (mv_s (mv_s (mv_s (mv_s (mv_k mv_n)))))) (BX2_areOf_10_b61 G d D (by omega) P _ _ ih _ _ _ _ hs)
          · refine mv_iload dX2_areOf_41 rfl ?_
            refine mv_iload_n dX2_areOf_43 rfl ?_
            refine mv_iload_n dX2_areOf_44 rfl ?_
            refine mv_iadd dX2_areOf_45 ?_
            refine mv_icmp_eq dX2_areOf_46 hs (fun _ hs => ?_) (fun _ hs => ?_)
            · exact mv_weak (lv' := [.ref 10, .int v1, .int v2, .int v3, .int v4, .float 0]) (mv_s (mv_s (mv_s (mv_s (mv_s (mv_k mv_n)))))) (BX2_areOf_10_b61 G d D (by omega) P _ _ ih _ _ _ _ hs)
            · refine mv_iload dX2_areOf_49 rfl ?_
              refine mv_iconst 2 dX2_areOf_51 (by decide) ?_
              refine mv_iload_n dX2_areOf_52 rfl ?_
              refine mv_imul dX2_areOf_53 ?_
              refine mv_iload_n dX2_areOf_54 rfl ?_
              refine mv_iadd dX2_areOf_55 ?_
              refine mv_icmp_eq dX2_areOf_56 hs (fun _ hs => ?_) (fun _ hs => ?_)
              · exact mv_weak (lv' := [.ref 10, .int v1, .int v2, .int v3, .int v4, .float 0]) (mv_s (mv_s (mv_s (mv_s (mv_s (mv_k mv_n)))))) (BX2_areOf_10_b61 G d D (by omega) P _ _ ih _ _ _ _ hs)
              · refine mv_iconst 0 dX2_areOf_59 (by decide) ?_
                exact mv_zret dX2_areOf_60 rfl (Or.inl rfl) ⟨_, rfl, rfl, rfl, mv_sat_some hs⟩
      · refine mv_iconst 1 dX2_areOf_67 (by decide) ?_
        exact mv_zret dX2_areOf_68 rfl (Or.inr rfl) ⟨_, rfl, rfl, rfl, mv_sat_some hs⟩
    · refine mv_iconst 1 dX2_areOf_67 (by decide) ?_
      exact mv_zret dX2_areOf_68 rfl (Or.inr rfl) ⟨_, rfl, rfl, rfl, mv_sat_some hs⟩
noncomputable def fX2_areOf_10 (p0 : Int32) (p1 : Int32) (p2 : Int32) (h : mv_H) : Option (Int32) := fX2_areOf_10_b3 mv_F p0 p1 p2 0 h
set_option maxRecDepth 100000 in
set_option maxHeartbeats 4000000 in
theorem TX2_areOf_10 (G : mv_G) (d : Nat) (P : Int32 → Prop) (p0 : Int32) (p1 : Int32) (p2 : Int32) (h : mv_H) (hs : mv_sat (fX2_areOf_10 p0 p1 p2 h) P) : mv_met G (d + 0) mX2_areOf [.ref 10, .int p0, .int p1, .int p2] mv_SH h (mv_qi mv_SH h P) := by
  unfold fX2_areOf_10 at hs
  obtain ⟨D, hDe⟩ : ∃ D, D = d + 0 := ⟨_, rfl⟩
  rw [← hDe]
  have hD : d + 0 ≤ D := by omega
  refine mv_enter (lv := [.ref 10, .int p0, .int p1, .int p2, .float 0, .float 0]) 2 (by decide) (by decide +kernel) rfl (Nat.le_of_ble_eq_true rfl) ?_
  refine mv_iconst 0 dX2_areOf_0 (by decide) ?_
  refine mv_istore (lv' := [.ref 10, .int p0, .int p1, .int p2, .int 0, .float 0]) dX2_areOf_1 (Nat.le_of_ble_eq_true rfl) rfl rfl ?_
  exact (BX2_areOf_10_b3 G d D (by omega) P _ _ _ _ _ _ hs)
noncomputable def fX9_undone_0_b128 (k41 : Int32 → Int32 → Int32 → Int32 → Int32 → Int32 → mv_H → Option (Int32)) (k51 : Int32 → Int32 → Int32 → Int32 → Int32 → Int32 → Int32 → mv_H → Option (Int32)) (v1 : Int32) (v2 : Int32) (v3 : Int32) (v4 : Int32) (v6 : Int32) (v7 : Int32) (s0 : Int32) (h : mv_H) : Option (Int32) := fX9_undone_0_b130 k41 k51 v1 v2 v3 v4 s0 v6 v7 h
set_option maxRecDepth 100000 in
set_option maxHeartbeats 4000000 in
theorem BX9_undone_0_b128 (G : mv_G) (d D : Nat) (hD : d + 0 ≤ D) (P : Int32 → Prop) (k41 : Int32 → Int32 → Int32 → Int32 → Int32 → Int32 → mv_H → Option (Int32)) (k51 : Int32 → Int32 → Int32 → Int32 → Int32 → Int32 → Int32 → mv_H → Option (Int32)) (h : mv_H) (hk41 : ∀ (v1 : Int32) (v2 : Int32) (v3 : Int32) (v4 : Int32) (v5 : Int32) (v6 : Int32), mv_sat (k41 v1 v2 v3 v4 v5 v6 h) P → mv_MW G mX9_undone (mv_rm D mX9_undone) (mv_Zf G mX9_undone (mv_qi mv_SH h P)) 0 0 41 [.ref 0, .int v1, .int v2, .int v3, .int v4, .int v5, .int v6, .float 0, .float 0] [] mv_SH h) (hk51 : ∀ (v1 : Int32) (v2 : Int32) (v3 : Int32) (v4 : Int32) (v5 : Int32) (v6 : Int32) (v7 : Int32), mv_sat (k51 v1 v2 v3 v4 v5 v6 v7 h) P → mv_MW G mX9_undone (mv_rm D mX9_undone) (mv_Zf G mX9_undone (mv_qi mv_SH h P)) 0 0 51 [.ref 0, .int v1, .int v2, .int v3, .int v4, .int v5, .int v6, .int v7, .float 0] [] mv_SH h) (v1 : Int32) (v2 : Int32) (v3 : Int32) (v4 : Int32) (v6 : Int32) (v7 : Int32) (s0 : Int32) (hs : mv_sat (fX9_undone_0_b128 k41 k51 v1 v2 v3 v4 v6 v7 s0 h) P) : mv_MW G mX9_undone (mv_rm D mX9_undone) (mv_Zf G mX9_undone (mv_qi mv_SH h P)) 0 0 128 [.ref 0, .int v1, .int v2, .int v3, .int v4, .float 0, .int v6, .int v7, .float 0] [.int s0] mv_SH h := by
  unfold fX9_undone_0_b128 at hs
  refine mv_istore (lv' := [.ref 0, .int v1, .int v2, .int v3, .int v4, .int s0, .int v6, .int v7, .float 0]) dX9_undone_128 (Nat.le_of_ble_eq_true rfl) rfl rfl ?_
  exact (BX9_undone_0_b130 G d D (by omega) P _ _ _ hk41 hk51 _ _ _ _ _ _ _ hs)
noncomputable def fX9_undone_0_b80 (k41 : Int32 → Int32 → Int32 → Int32 → Int32 → Int32 → mv_H → Option (Int32)) (k51 : Int32 → Int32 → Int32 → Int32 → Int32 → Int32 → Int32 → mv_H → Option (Int32)) (v1 : Int32) (v2 : Int32) (v3 : Int32) (v4 : Int32) (v5 : Int32) (v6 : Int32) (v7 : Int32) (s0 : Int32) (h : mv_H) : Option (Int32) := if s0 = 0 then fX9_undone_0_b130 k41 k51 v1 v2 v3 v4 v5 v6 v7 h else (fX2_areOf_10 v3 v6 v7 h).bind fun r1054 => if r1054 = 0 then fX9_undone_0_b130 k41 k51 v1 v2 v3 v4 v5 v6 v7 h else if v5 = (-6) then fX9_undone_0_b128 k41 k51 v1 v2 v3 (v4 + 1) v6 v7 ((100 * v6) + v7) h else fX9_undone_0_b128 k41 k51 v1 v2 v3 (v4 + 1) v6 v7 v5 h
set_option maxRecDepth 100000 in
set_option maxHeartbeats 4000000 in
theorem BX9_undone_0_b80 (G : mv_G) (d D : Nat) (hD : d + 1 ≤ D) (P : Int32 → Prop) (k41 : Int32 → Int32 → Int32 → Int32 → Int32 → Int32 → mv_H → Option (Int32)) (k51 : Int32 → Int32 → Int32 → Int32 → Int32 → Int32 → Int32 → mv_H → Option (Int32)) (h : mv_H) (hk41 : ∀ (v1 : Int32) (v2 : Int32) (v3 : Int32) (v4 : Int32) (v5 : Int32) (v6 : Int32), mv_sat (k41 v1 v2 v3 v4 v5 v6 h) P → mv_MW G mX9_undone (mv_rm D mX9_undone) (mv_Zf G mX9_undone (mv_qi mv_SH h P)) 0 0 41 [.ref 0, .int v1, .int v2, .int v3, .int v4, .int v5, .int v6, .float 0, .float 0] [] mv_SH h) (hk51 : ∀ (v1 : Int32) (v2 : Int32) (v3 : Int32) (v4 : Int32) (v5 : Int32) (v6 : Int32) (v7 : Int32), mv_sat (k51 v1 v2 v3 v4 v5 v6 v7 h) P → mv_MW G mX9_undone (mv_rm D mX9_undone) (mv_Zf G mX9_undone (mv_qi mv_SH h P)) 0 0 51 [.ref 0, .int v1, .int v2, .int v3, .int v4, .int v5, .int v6, .int v7, .float 0] [] mv_SH h) (v1 : Int32) (v2 : Int32) (v3 : Int32) (v4 : Int32) (v5 : Int32) (v6 : Int32) (v7 : Int32) (s0 : Int32) (hs : mv_sat (fX9_undone_0_b80 k41 k51 v1 v2 v3 v4 v5 v6 v7 s0 h) P) : mv_MW G mX9_undone (mv_rm D mX9_undone) (mv_Zf G mX9_undone (mv_qi mv_SH h P)) 0 0 80 [.ref 0, .int v1, .int v2, .int v3, .int v4, .int v5, .int v6, .int v7, .float 0] [.int s0] mv_SH h := by
  unfold fX9_undone_0_b80 at hs
  refine mv_istore (lv' := [.ref 0, .int v1, .int v2, .int v3, .int v4, .int v5, .int v6, .int v7, .int s0]) dX9_undone_80 (Nat.le_of_ble_eq_true rfl) rfl rfl ?_
  refine mv_iload dX9_undone_82 rfl ?_
  refine mv_if_eq dX9_undone_84 hs (fun _ hs => ?_) (fun _ hs => ?_)
  · exact mv_weak (lv' := [.ref 0, .int v1, .int v2, .int v3, .int v4, .int v5, .int v6, .int v7, .float 0]) (mv_s (mv_s (mv_s (mv_s (mv_s (mv_s (mv_s (mv_s (mv_k mv_n))))))))) (BX9_undone_0_b130 G d D (by omega) P _ _ _ hk41 hk51 _ _ _ _ _ _ _ hs)
  · refine mv_aload_n dX9_undone_87 rfl ?_
    refine mv_getr dX9_undone_88 kf_X9_10 gf_0_0 ?_
    refine mv_getr dX9_undone_91 kf_X9_319 gf_1_4 ?_
    refine mv_iload_n dX9_undone_94 rfl ?_
    refine mv_iload dX9_undone_95 rfl ?_
    refine mv_iload dX9_undone_97 rfl ?_
    refine mv_cV (st := []) dX9_undone_99 kk_X9_322 (TX2_areOf_10 G d _ _ _ _ _ (mv_sat_bind hs)) so_10 vc_2 rfl rfl (Nat.le_of_ble_eq_true rfl) (by omega) rfl ⟨Nat.zero_le _, Nat.zero_le _⟩ (mv_ki fun r1054 hs => ?_)
    refine mv_if_eq dX9_undone_102 hs (fun _ hs => ?_) (fun _ hs => ?_)
    · exact mv_weak (lv' := [.ref 0, .int v1, .int v2, .int v3, .int v4, .int v5, .int v6, .int v7, .float 0]) (mv_s (mv_s (mv_s (mv_s (mv_s (mv_s (mv_s (mv_s (mv_k mv_n))))))))) (BX9_undone_0_b130 G d D (by omega) P _ _ _ hk41 hk51 _ _ _ _ _ _ _ hs)
    · refine mv_iinc (lv' := [.ref 0, .int v1, .int v2, .int v3, .int (v4 + 1), .int v5, .int v6, .int v7, .int s0]) 1 dX9_undone_105 rfl (by decide) (Nat.le_of_ble_eq_true rfl) rfl rfl ?_
      refine mv_iload dX9_undone_108 rfl ?_
      refine mv_bipush (-6) dX9_undone_110 (by decide) ?_
      refine mv_icmp_ne dX9_undone_112 hs (fun _ hs => ?_) (fun _ hs => ?_)
      · refine mv_bipush 100 dX9_undone_115 (by decide) ?_
        refine mv_iload dX9_undone_117 rfl ?_
        refine mv_imul dX9_undone_119 ?_
        refine mv_iload dX9_undone_120 rfl ?_
        refine mv_iadd dX9_undone_122 ?_
        refine mv_goto dX9_undone_123 ?_
        exact mv_weak (lv' := [.ref 0, .int v1, .int v2, .int v3, .int (v4 + 1), .float 0, .int v6, .int v7, .float 0]) (mv_s (mv_s (mv_s (mv_s (mv_s (mv_k (mv_s (mv_s (mv_k mv_n))))))))) (BX9_undone_0_b128 G d D (by omega) P _ _ _ hk41 hk51 _ _ _ _ _ _ _ hs)
      · refine mv_iload dX9_undone_126 rfl ?_
        exact mv_weak (lv' := [.ref 0, .int v1, .int v2, .int v3, .int (v4 + 1), .float 0, .int v6, .int v7, .float 0]) (mv_s (mv_s (mv_s (mv_s (mv_s (mv_k (mv_s (mv_s (mv_k mv_n))))))))) (BX9_undone_0_b128 G d D (by omega) P _ _ _ hk41 hk51 _ _ _ _ _ _ _ hs)
noncomputable def fX9_undone_0_b75 (k41 : Int32 → Int32 → Int32 → Int32 → Int32 → Int32 → mv_H → Option (Int32)) (k51 : Int32 → Int32 → Int32 → Int32 → Int32 → Int32 → Int32 → mv_H → Option (Int32)) (v1 : Int32) (v2 : Int32) (v3 : Int32) (v4 : Int32) (v5 : Int32) (v6 : Int32) (v7 : Int32) (h : mv_H) : Option (Int32) := fX9_undone_0_b80 k41 k51 v1 v2 v3 v4 v5 v6 v7 1 h
set_option maxRecDepth 100000 in
set_option maxHeartbeats 4000000 in
theorem BX9_undone_0_b75 (G : mv_G) (d D : Nat) (hD : d + 1 ≤ D) (P : Int32 → Prop) (k41 : Int32 → Int32 → Int32 → Int32 → Int32 → Int32 → mv_H → Option (Int32)) (k51 : Int32 → Int32 → Int32 → Int32 → Int32 → Int32 → Int32 → mv_H → Option (Int32)) (h : mv_H) (hk41 : ∀ (v1 : Int32) (v2 : Int32) (v3 : Int32) (v4 : Int32) (v5 : Int32) (v6 : Int32), mv_sat (k41 v1 v2 v3 v4 v5 v6 h) P → mv_MW G mX9_undone (mv_rm D mX9_undone) (mv_Zf G mX9_undone (mv_qi mv_SH h P)) 0 0 41 [.ref 0, .int v1, .int v2, .int v3, .int v4, .int v5, .int v6, .float 0, .float 0] [] mv_SH h) (hk51 : ∀ (v1 : Int32) (v2 : Int32) (v3 : Int32) (v4 : Int32) (v5 : Int32) (v6 : Int32) (v7 : Int32), mv_sat (k51 v1 v2 v3 v4 v5 v6 v7 h) P → mv_MW G mX9_undone (mv_rm D mX9_undone) (mv_Zf G mX9_undone (mv_qi mv_SH h P)) 0 0 51 [.ref 0, .int v1, .int v2, .int v3, .int v4, .int v5, .int v6, .int v7, .float 0] [] mv_SH h) (v1 : Int32) (v2 : Int32) (v3 : Int32) (v4 : Int32) (v5 : Int32) (v6 : Int32) (v7 : Int32) (hs : mv_sat (fX9_undone_0_b75 k41 k51 v1 v2 v3 v4 v5 v6 v7 h) P) : mv_MW G mX9_undone (mv_rm D mX9_undone) (mv_Zf G mX9_undone (mv_qi mv_SH h P)) 0 0 75 [.ref 0, .int v1, .int v2, .int v3, .int v4, .int v5, .int v6, .int v7, .float 0] [] mv_SH h := by
  unfold fX9_undone_0_b75 at hs
  refine mv_iconst 1 dX9_undone_75 (by decide) ?_
  refine mv_goto dX9_undone_76 ?_
  exact (BX9_undone_0_b80 G d D (by omega) P _ _ _ hk41 hk51 _ _ _ _ _ _ _ _ hs)
noncomputable def fX9_undone_0_b51 (k41 : Int32 → Int32 → Int32 → Int32 → Int32 → Int32 → mv_H → Option (Int32)) : Nat → Int32 → Int32 → Int32 → Int32 → Int32 → Int32 → Int32 → mv_H → Option (Int32)
  | 0, _, _, _, _, _, _, _, _ => none
  | n + 1, v1, v2, v3, v4, v5, v6, v7, h => if 20 < v7 then k41 v1 v2 v3 v4 v5 (v6 + 1) h else if v1 = 0 then fX9_undone_0_b75 k41 (fX9_undone_0_b51 k41 n) v1 v2 v3 v4 v5 v6 v7 h else if ((2 * (v6 + v7)) + v3) = v1 then fX9_undone_0_b75 k41 (fX9_undone_0_b51 k41 n) v1 v2 v3 v4 v5 v6 v7 h else fX9_undone_0_b80 k41 (fX9_undone_0_b51 k41 n) v1 v2 v3 v4 v5 v6 v7 0 h
set_option maxRecDepth 100000 in
set_option maxHeartbeats 4000000 in
theorem BX9_undone_0_b51 (G : mv_G) (d D : Nat) (hD : d + 1 ≤ D) (P : Int32 → Prop) (k41 : Int32 → Int32 → Int32 → Int32 → Int32 → Int32 → mv_H → Option (Int32)) (h : mv_H) (hk41 : ∀ (v1 : Int32) (v2 : Int32) (v3 : Int32) (v4 : Int32) (v5 : Int32) (v6 : Int32), mv_sat (k41 v1 v2 v3 v4 v5 v6 h) P → mv_MW G mX9_undone (mv_rm D mX9_undone) (mv_Zf G mX9_undone (mv_qi mv_SH h P)) 0 0 41 [.ref 0, .int v1, .int v2, .int v3, .int v4, .int v5, .int v6, .float 0, .float 0] [] mv_SH h) : ∀ (n : Nat) (v1 : Int32) (v2 : Int32) (v3 : Int32) (v4 : Int32) (v5 : Int32) (v6 : Int32) (v7 : Int32), mv_sat (fX9_undone_0_b51 k41 n v1 v2 v3 v4 v5 v6 v7 h) P → mv_MW G mX9_undone (mv_rm D mX9_undone) (mv_Zf G mX9_undone (mv_qi mv_SH h P)) 0 0 51 [.ref 0, .int v1, .int v2, .int v3, .int v4, .int v5, .int v6, .int v7, .float 0] [] mv_SH h := by
  intro n
  induction n with
  | zero =>
    intro v1 v2 v3 v4 v5 v6 v7 hs
    unfold fX9_undone_0_b51 at hs
    exact (mv_sat_none hs).elim
  | succ n ih =>
    intro v1 v2 v3 v4 v5 v6 v7 hs
    unfold fX9_undone_0_b51 at hs
    refine mv_iload dX9_undone_51 rfl ?_
    refine mv_bipush 20 dX9_undone_53 (by decide) ?_
    refine mv_icmp_gt dX9_undone_55 hs (fun _ hs => ?_) (fun _ hs => ?_)
    · refine mv_iinc (lv' := [.ref 0, .int v1, .int v2, .int v3, .int v4, .int v5, .int (v6 + 1), .int v7, .float 0]) 1 dX9_undone_136 rfl (by decide) (Nat.le_of_ble_eq_true rfl) rfl rfl ?_
      refine mv_goto dX9_undone_139 ?_
      exact mv_weak (lv' := [.ref 0, .int v1, .int v2, .int v3, .int v4, .int v5, .int (v6 + 1), .float 0, .float 0]) (mv_s (mv_s (mv_s (mv_s (mv_s (mv_s (mv_s (mv_k (mv_s mv_n))))))))) (hk41 _ _ _ _ _ _ hs)
    · refine mv_iload_n dX9_undone_58 rfl ?_
      refine mv_if_eq dX9_undone_59 hs (fun _ hs => ?_) (fun _ hs => ?_)
      · exact (BX9_undone_0_b75 G d D (by omega) P _ _ _ hk41 ih _ _ _ _ _ _ _ hs)
      · refine mv_iconst 2 dX9_undone_62 (by decide) ?_
        refine mv_iload dX9_undone_63 rfl ?_
        refine mv_iload dX9_undone_65 rfl ?_
        refine mv_iadd dX9_undone_67 ?_
        refine mv_imul dX9_undone_68 ?_
        refine mv_iload_n dX9_undone_69 rfl ?_
        refine mv_iadd dX9_undone_70 ?_
        refine mv_iload_n dX9_undone_71 rfl ?_
        refine mv_icmp_ne dX9_undone_72 hs (fun _ hs => ?_) (fun _ hs => ?_)
        · exact (BX9_undone_0_b75 G d D (by omega) P _ _ _ hk41 ih _ _ _ _ _ _ _ hs)
        · refine mv_iconst 0 dX9_undone_79 (by decide) ?_
          exact (BX9_undone_0_b80 G d D (by omega) P _ _ _ hk41 ih _ _ _ _ _ _ _ _ hs)
noncomputable def fX9_undone_0_b41 : Nat → Int32 → Int32 → Int32 → Int32 → Int32 → Int32 → mv_H → Option (Int32)
  | 0, _, _, _, _, _, _, _ => none
  | n + 1, v1, v2, v3, v4, v5, v6, h => if 20 < v6 then (if v2 = 0 then some v4 else some v5) else fX9_undone_0_b51 (fX9_undone_0_b41 n) mv_F v1 v2 v3 v4 v5 v6 1 h
set_option maxRecDepth 100000 in
set_option maxHeartbeats 4000000 in
theorem BX9_undone_0_b41 (G : mv_G) (d D : Nat) (hD : d + 1 ≤ D) (P : Int32 → Prop) (h : mv_H) : ∀ (n : Nat) (v1 : Int32) (v2 : Int32) (v3 : Int32) (v4 : Int32) (v5 : Int32) (v6 : Int32), mv_sat (fX9_undone_0_b41 n v1 v2 v3 v4 v5 v6 h) P → mv_MW G mX9_undone (mv_rm D mX9_undone) (mv_Zf G mX9_undone (mv_qi mv_SH h P)) 0 0 41 [.ref 0, .int v1, .int v2, .int v3, .int v4, .int v5, .int v6, .float 0, .float 0] [] mv_SH h := by
  intro n
  induction n with
  | zero =>
    intro v1 v2 v3 v4 v5 v6 hs
    unfold fX9_undone_0_b41 at hs
    exact (mv_sat_none hs).elim
  | succ n ih =>
    intro v1 v2 v3 v4 v5 v6 hs
    unfold fX9_undone_0_b41 at hs
    refine mv_iload dX9_undone_41 rfl ?_
    refine mv_bipush 20 dX9_undone_43 (by decide) ?_
    refine mv_icmp_gt dX9_undone_45 hs (fun _ hs => ?_) (fun _ hs => ?_)
    · refine mv_iload_n dX9_undone_142 rfl ?_
      refine mv_if_ne dX9_undone_143 hs (fun _ hs => ?_) (fun _ hs => ?_)
      · refine mv_iload dX9_undone_146 rfl ?_
        refine mv_goto dX9_undone_148 ?_
        exact mv_iret dX9_undone_153 rfl ⟨_, rfl, rfl, rfl, mv_sat_some hs⟩
      · refine mv_iload dX9_undone_151 rfl ?_
        exact mv_iret dX9_undone_153 rfl ⟨_, rfl, rfl, rfl, mv_sat_some hs⟩
    · refine mv_iconst 1 dX9_undone_48 (by decide) ?_
      refine mv_istore (lv' := [.ref 0, .int v1, .int v2, .int v3, .int v4, .int v5, .int v6, .int 1, .float 0]) dX9_undone_49 (Nat.le_of_ble_eq_true rfl) rfl rfl ?_
      exact (BX9_undone_0_b51 G d D (by omega) P _ _ ih _ _ _ _ _ _ _ _ hs)
noncomputable def fX9_undone_0 (p0 : Int32) (p1 : Int32) (h : mv_H) : Option (Int32) := (fX9_isWithin p0 (0 : Int32) (89 : Int32)).bind fun r1050 => if r1050 = 0 then some (-2) else (fX9_isWithin p1 (0 : Int32) (1 : Int32)).bind fun r1051 => if r1051 = 0 then some (-2) else (fX1_setting_1 (0 : Int32) h).bind fun r1052 => fX9_undone_0_b41 mv_F p0 p1 r1052 0 (-6) 1 h
set_option maxRecDepth 100000 in
set_option maxHeartbeats 4000000 in
theorem TX9_undone_0 (G : mv_G) (d : Nat) (P : Int32 → Prop) (p0 : Int32) (p1 : Int32) (h : mv_H) (hs : mv_sat (fX9_undone_0 p0 p1 h) P) : mv_met G (d + 1) mX9_undone [.ref 0, .int p0, .int p1] mv_SH h (mv_qi mv_SH h P) := by
  unfold fX9_undone_0 at hs
  obtain ⟨D, hDe⟩ : ∃ D, D = d + 1 := ⟨_, rfl⟩
  rw [← hDe]
  have hD : d + 1 ≤ D := by omega
  refine mv_enter (lv := [.ref 0, .int p0, .int p1, .float 0, .float 0, .float 0, .float 0, .float 0, .float 0]) 6 (by decide) (by decide +kernel) rfl (Nat.le_of_ble_eq_true rfl) ?_
  refine mv_iload_n dX9_undone_0 rfl ?_
  refine mv_iconst 0 dX9_undone_1 (by decide) ?_
  refine mv_bipush 89 dX9_undone_2 (by decide) ?_
  refine mv_cS (st := []) dX9_undone_4 kk_X9_79 (TX9_isWithin G d _ _ _ _ _ (mv_sat_bind hs)) rfl rfl (Nat.le_of_ble_eq_true rfl) (by omega) rfl ⟨Nat.zero_le _, Nat.zero_le _⟩ (mv_ki fun r1050 hs => ?_)
  refine mv_if_eq dX9_undone_7 hs (fun _ hs => ?_) (fun _ hs => ?_)
  · refine mv_bipush (-2) dX9_undone_19 (by decide) ?_
    exact mv_iret dX9_undone_21 rfl ⟨_, rfl, rfl, rfl, mv_sat_some hs⟩
  · refine mv_iload_n dX9_undone_10 rfl ?_
    refine mv_iconst 0 dX9_undone_11 (by decide) ?_
    refine mv_iconst 1 dX9_undone_12 (by decide) ?_
    refine mv_cS (st := []) dX9_undone_13 kk_X9_79 (TX9_isWithin G d _ _ _ _ _ (mv_sat_bind hs)) rfl rfl (Nat.le_of_ble_eq_true rfl) (by omega) rfl ⟨Nat.zero_le _, Nat.zero_le _⟩ (mv_ki fun r1051 hs => ?_)
    refine mv_if_ne dX9_undone_16 hs (fun _ hs => ?_) (fun _ hs => ?_)
    · refine mv_bipush (-2) dX9_undone_19 (by decide) ?_
      exact mv_iret dX9_undone_21 rfl ⟨_, rfl, rfl, rfl, mv_sat_some hs⟩
    · refine mv_aload_n dX9_undone_22 rfl ?_
      refine mv_getr dX9_undone_23 kf_X9_10 gf_0_0 ?_
      refine mv_iconst 0 dX9_undone_26 (by decide) ?_
      refine mv_cV (st := []) dX9_undone_27 kk_X9_114 (TX1_setting_1 G d _ _ _ (mv_sat_bind hs)) so_1 vc_1 rfl rfl (Nat.le_of_ble_eq_true rfl) (by omega) rfl ⟨Nat.zero_le _, Nat.zero_le _⟩ (mv_ki fun r1052 hs => ?_)
      refine mv_istore_n (lv' := [.ref 0, .int p0, .int p1, .int r1052, .float 0, .float 0, .float 0, .float 0, .float 0]) dX9_undone_30 (Nat.le_of_ble_eq_true rfl) rfl rfl ?_
      refine mv_iconst 0 dX9_undone_31 (by decide) ?_
      refine mv_istore (lv' := [.ref 0, .int p0, .int p1, .int r1052, .int 0, .float 0, .float 0, .float 0, .float 0]) dX9_undone_32 (Nat.le_of_ble_eq_true rfl) rfl rfl ?_
      refine mv_bipush (-6) dX9_undone_34 (by decide) ?_
      refine mv_istore (lv' := [.ref 0, .int p0, .int p1, .int r1052, .int 0, .int (-6), .float 0, .float 0, .float 0]) dX9_undone_36 (Nat.le_of_ble_eq_true rfl) rfl rfl ?_
      refine mv_iconst 1 dX9_undone_38 (by decide) ?_
      refine mv_istore (lv' := [.ref 0, .int p0, .int p1, .int r1052, .int 0, .int (-6), .int 1, .float 0, .float 0]) dX9_undone_39 (Nat.le_of_ble_eq_true rfl) rfl rfl ?_
      exact (BX9_undone_0_b41 G d D (by omega) P _ _ _ _ _ _ _ _ hs)
noncomputable def fX10_areCreasesOf_55_b66 (k5 : Int32 → Int32 → Int32 → Int32 → mv_H → Option (Int32)) (v1 : Int32) (v2 : Int32) (v4 : Int32) (s0 : Int32) (h : mv_H) : Option (Int32) := k5 v1 v2 s0 (v4 + 1) h
set_option maxRecDepth 100000 in
set_option maxHeartbeats 4000000 in
theorem BX10_areCreasesOf_55_b66 (G : mv_G) (d D : Nat) (hD : d + 0 ≤ D) (P : Int32 → Prop) (k5 : Int32 → Int32 → Int32 → Int32 → mv_H → Option (Int32)) (h : mv_H) (hk5 : ∀ (v1 : Int32) (v2 : Int32) (v3 : Int32) (v4 : Int32), mv_sat (k5 v1 v2 v3 v4 h) P → mv_MW G mX10_areCreasesOf (mv_rm D mX10_areCreasesOf) (mv_Zf G mX10_areCreasesOf (mv_qi mv_SH h P)) 0 0 5 [.ref 55, .int v1, .int v2, .int v3, .int v4, .float 0] [] mv_SH h) (v1 : Int32) (v2 : Int32) (v4 : Int32) (s0 : Int32) (hs : mv_sat (fX10_areCreasesOf_55_b66 k5 v1 v2 v4 s0 h) P) : mv_MW G mX10_areCreasesOf (mv_rm D mX10_areCreasesOf) (mv_Zf G mX10_areCreasesOf (mv_qi mv_SH h P)) 0 0 66 [.ref 55, .int v1, .int v2, .float 0, .int v4, .float 0] [.int s0] mv_SH h := by
  unfold fX10_areCreasesOf_55_b66 at hs
  refine mv_istore_n (lv' := [.ref 55, .int v1, .int v2, .int s0, .int v4, .float 0]) dX10_areCreasesOf_66 (Nat.le_of_ble_eq_true rfl) rfl rfl ?_
  refine mv_iinc (lv' := [.ref 55, .int v1, .int v2, .int s0, .int (v4 + 1), .float 0]) 1 dX10_areCreasesOf_67 rfl (by decide) (Nat.le_of_ble_eq_true rfl) rfl rfl ?_
  refine mv_goto dX10_areCreasesOf_70 ?_
  exact (hk5 _ _ _ _ hs)
noncomputable def fX10_areCreasesOf_55_b65 (k5 : Int32 → Int32 → Int32 → Int32 → mv_H → Option (Int32)) (v1 : Int32) (v2 : Int32) (v4 : Int32) (h : mv_H) : Option (Int32) := fX10_areCreasesOf_55_b66 k5 v1 v2 v4 0 h
set_option maxRecDepth 100000 in
set_option maxHeartbeats 4000000 in
theorem BX10_areCreasesOf_55_b65 (G : mv_G) (d D : Nat) (hD : d + 0 ≤ D) (P : Int32 → Prop) (k5 : Int32 → Int32 → Int32 → Int32 → mv_H → Option (Int32)) (h : mv_H) (hk5 : ∀ (v1 : Int32) (v2 : Int32) (v3 : Int32) (v4 : Int32), mv_sat (k5 v1 v2 v3 v4 h) P → mv_MW G mX10_areCreasesOf (mv_rm D mX10_areCreasesOf) (mv_Zf G mX10_areCreasesOf (mv_qi mv_SH h P)) 0 0 5 [.ref 55, .int v1, .int v2, .int v3, .int v4, .float 0] [] mv_SH h) (v1 : Int32) (v2 : Int32) (v4 : Int32) (hs : mv_sat (fX10_areCreasesOf_55_b65 k5 v1 v2 v4 h) P) : mv_MW G mX10_areCreasesOf (mv_rm D mX10_areCreasesOf) (mv_Zf G mX10_areCreasesOf (mv_qi mv_SH h P)) 0 0 65 [.ref 55, .int v1, .int v2, .float 0, .int v4, .float 0] [] mv_SH h := by
  unfold fX10_areCreasesOf_55_b65 at hs
  refine mv_iconst 0 dX10_areCreasesOf_65 (by decide) ?_
  exact (BX10_areCreasesOf_55_b66 G d D (by omega) P _ _ hk5 _ _ _ _ hs)
noncomputable def fX10_areCreasesOf_55_b61 (k5 : Int32 → Int32 → Int32 → Int32 → mv_H → Option (Int32)) (v1 : Int32) (v2 : Int32) (v4 : Int32) (h : mv_H) : Option (Int32) := fX10_areCreasesOf_55_b66 k5 v1 v2 v4 1 h
set_option maxRecDepth 100000 in
set_option maxHeartbeats 4000000 in
theorem BX10_areCreasesOf_55_b61 (G : mv_G) (d D : Nat) (hD : d + 0 ≤ D) (P : Int32 → Prop) (k5 : Int32 → Int32 → Int32 → Int32 → mv_H → Option (Int32)) (h : mv_H) (hk5 : ∀ (v1 : Int32) (v2 : Int32) (v3 : Int32) (v4 : Int32), mv_sat (k5 v1 v2 v3 v4 h) P → mv_MW G mX10_areCreasesOf (mv_rm D mX10_areCreasesOf) (mv_Zf G mX10_areCreasesOf (mv_qi mv_SH h P)) 0 0 5 [.ref 55, .int v1, .int v2, .int v3, .int v4, .float 0] [] mv_SH h) (v1 : Int32) (v2 : Int32) (v4 : Int32) (hs : mv_sat (fX10_areCreasesOf_55_b61 k5 v1 v2 v4 h) P) : mv_MW G mX10_areCreasesOf (mv_rm D mX10_areCreasesOf) (mv_Zf G mX10_areCreasesOf (mv_qi mv_SH h P)) 0 0 61 [.ref 55, .int v1, .int v2, .float 0, .int v4, .float 0] [] mv_SH h := by
  unfold fX10_areCreasesOf_55_b61 at hs
  refine mv_iconst 1 dX10_areCreasesOf_61 (by decide) ?_
  refine mv_goto dX10_areCreasesOf_62 ?_
  exact (BX10_areCreasesOf_55_b66 G d D (by omega) P _ _ hk5 _ _ _ _ hs)
noncomputable def fX10_areCreasesOf_55_b5 : Nat → Int32 → Int32 → Int32 → Int32 → mv_H → Option (Int32)
  | 0, _, _, _, _, _ => none
  | n + 1, v1, v2, v3, v4, h => if v4 < (h 55 14) then (if mv_in v4 6 then (mv_let ((h 61 v4.toNatClampNeg) - (h 55 7)) fun x1058 : Int32 => if v3 = 0 then fX10_areCreasesOf_55_b65 (fX10_areCreasesOf_55_b5 n) v1 v2 v4 h else if x1058 = 0 then fX10_areCreasesOf_55_b61 (fX10_areCreasesOf_55_b5 n) v1 v2 v4 h else if x1058 = v1 then fX10_areCreasesOf_55_b61 (fX10_areCreasesOf_55_b5 n) v1 v2 v4 h else if x1058 = (v1 + v2) then fX10_areCreasesOf_55_b61 (fX10_areCreasesOf_55_b5 n) v1 v2 v4 h else if x1058 = ((2 * v1) + v2) then fX10_areCreasesOf_55_b61 (fX10_areCreasesOf_55_b5 n) v1 v2 v4 h else fX10_areCreasesOf_55_b65 (fX10_areCreasesOf_55_b5 n) v1 v2 v4 h) else none) else if mv_01 v3 then some v3 else none
set_option maxRecDepth 100000 in
set_option maxHeartbeats 4000000 in
theorem BX10_areCreasesOf_55_b5 (G : mv_G) (d D : Nat) (hD : d + 0 ≤ D) (P : Int32 → Prop) (h : mv_H) : ∀ (n : Nat) (v1 : Int32) (v2 : Int32) (v3 : Int32) (v4 : Int32), mv_sat (fX10_areCreasesOf_55_b5 n v1 v2 v3 v4 h) P → mv_MW G mX10_areCreasesOf (mv_rm D mX10_areCreasesOf) (mv_Zf G mX10_areCreasesOf (mv_qi mv_SH h P)) 0 0 5 [.ref 55, .int v1, .int v2, .int v3, .int v4, .float 0] [] mv_SH h := by
  intro n
  induction n with
  | zero =>
    intro v1 v2 v3 v4 hs
    unfold fX10_areCreasesOf_55_b5 at hs
    exact (mv_sat_none hs).elim
  | succ n ih =>
    intro v1 v2 v3 v4 hs
    unfold fX10_areCreasesOf_55_b5 at hs
    refine mv_iload dX10_areCreasesOf_5 rfl ?_
    refine mv_aload_n dX10_areCreasesOf_7 rfl ?_
    refine mv_geti dX10_areCreasesOf_8 kf_X10_330 gf_55_14 ?_
    refine mv_icmp_ge dX10_areCreasesOf_11 hs (fun _ hs => ?_) (fun _ hs => ?_)
    · refine mv_aload_n dX10_areCreasesOf_14 rfl ?_
      refine mv_getr dX10_areCreasesOf_15 kf_X10_25 gf_55_13 ?_
      refine mv_iload dX10_areCreasesOf_18 rfl ?_
      refine mv_iaload dX10_areCreasesOf_20 so_61 hs (fun hs => ?_)
      refine mv_aload_n dX10_areCreasesOf_21 rfl ?_
      refine mv_geti dX10_areCreasesOf_22 kf_X10_92 gf_55_7 ?_
      refine mv_isub dX10_areCreasesOf_25 ?_
      refine mv_name hs (fun x1058 hs => ?_)
      refine mv_istore (lv' := [.ref 55, .int v1, .int v2, .int v3, .int v4, .int x1058]) dX10_areCreasesOf_26 (Nat.le_of_ble_eq_true rfl) rfl rfl ?_
      refine mv_iload_n dX10_areCreasesOf_28 rfl ?_
      refine mv_if_eq dX10_areCreasesOf_29 hs (fun _ hs => ?_) (fun _ hs => ?_)
      · exact mv_weak (lv' := [.ref 55, .int v1, .int v2, .float 0, .int v4, .float 0]) (mv_s (mv_s (mv_s (mv_k (mv_s (mv_k mv_n)))))) (BX10_areCreasesOf_55_b65 G d D (by omega) P _ _ ih _ _ _ hs)
      · refine mv_iload dX10_areCreasesOf_32 rfl ?_
        refine mv_if_eq dX10_areCreasesOf_34 hs (fun _ hs => ?_) (fun _ hs => ?_)
        · exact mv_weak (lv' := [.ref 55, .int v1, .int v2, .float 0, .int v4, .float 0]) (mv_s (mv_s (mv_s (mv_k (mv_s (mv_k mv_n)))))) (BX10_areCreasesOf_55_b61 G d D (by omega) P _ _ ih _ _ _ hs)
        · refine mv_iload dX10_areCreasesOf_37 rfl ?_
          refine mv_iload_n dX10_areCreasesOf_39 rfl ?_
          refine mv_icmp_eq dX10_areCreasesOf_40 hs (fun _ hs => ?_) (fun _ hs => ?_)
          · exact mv_weak (lv' := [.ref 55, .int v1, .int v2, .float 0, .int v4, .float 0]) (mv_s (mv_s (mv_s (mv_k (mv_s (mv_k mv_n)))))) (BX10_areCreasesOf_55_b61 G d D (by omega) P _ _ ih _ _ _ hs)
          · refine mv_iload dX10_areCreasesOf_43 rfl ?_
            refine mv_iload_n dX10_areCreasesOf_45 rfl ?_
            refine mv_iload_n dX10_areCreasesOf_46 rfl ?_
            refine mv_iadd dX10_areCreasesOf_47 ?_
            refine mv_icmp_eq dX10_areCreasesOf_48 hs (fun _ hs => ?_) (fun _ hs => ?_)
            · exact mv_weak (lv' := [.ref 55, .int v1, .int v2, .float 0, .int v4, .float 0]) (mv_s (mv_s (mv_s (mv_k (mv_s (mv_k mv_n)))))) (BX10_areCreasesOf_55_b61 G d D (by omega) P _ _ ih _ _ _ hs)
            · refine mv_iload dX10_areCreasesOf_51 rfl ?_
              refine mv_iconst 2 dX10_areCreasesOf_53 (by decide) ?_
              refine mv_iload_n dX10_areCreasesOf_54 rfl ?_
              refine mv_imul dX10_areCreasesOf_55 ?_
              refine mv_iload_n dX10_areCreasesOf_56 rfl ?_
              refine mv_iadd dX10_areCreasesOf_57 ?_
              refine mv_icmp_ne dX10_areCreasesOf_58 hs (fun _ hs => ?_) (fun _ hs => ?_)
              · exact mv_weak (lv' := [.ref 55, .int v1, .int v2, .float 0, .int v4, .float 0]) (mv_s (mv_s (mv_s (mv_k (mv_s (mv_k mv_n)))))) (BX10_areCreasesOf_55_b61 G d D (by omega) P _ _ ih _ _ _ hs)
              · exact mv_weak (lv' := [.ref 55, .int v1, .int v2, .float 0, .int v4, .float 0]) (mv_s (mv_s (mv_s (mv_k (mv_s (mv_k mv_n)))))) (BX10_areCreasesOf_55_b65 G d D (by omega) P _ _ ih _ _ _ hs)
    · refine mv_iload_n dX10_areCreasesOf_73 rfl ?_
      obtain ⟨h01, hs⟩ := mv_sat_g hs
      exact mv_zret dX10_areCreasesOf_74 rfl h01 ⟨_, rfl, rfl, rfl, mv_sat_some hs⟩
noncomputable def fX10_areCreasesOf_55 (p0 : Int32) (p1 : Int32) (h : mv_H) : Option (Int32) := fX10_areCreasesOf_55_b5 mv_F p0 p1 1 0 h
set_option maxRecDepth 100000 in
set_option maxHeartbeats 4000000 in
theorem TX10_areCreasesOf_55 (G : mv_G) (d : Nat) (P : Int32 → Prop) (p0 : Int32) (p1 : Int32) (h : mv_H) (hs : mv_sat (fX10_areCreasesOf_55 p0 p1 h) P) : mv_met G (d + 0) mX10_areCreasesOf [.ref 55, .int p0, .int p1] mv_SH h (mv_qi mv_SH h P) := by
  unfold fX10_areCreasesOf_55 at hs
  obtain ⟨D, hDe⟩ : ∃ D, D = d + 0 := ⟨_, rfl⟩
  rw [← hDe]
  have hD : d + 0 ≤ D := by omega
  refine mv_enter (lv := [.ref 55, .int p0, .int p1, .float 0, .float 0, .float 0]) 3 (by decide) (by decide +kernel) rfl (Nat.le_of_ble_eq_true rfl) ?_
  refine mv_iconst 1 dX10_areCreasesOf_0 (by decide) ?_
  refine mv_istore_n (lv' := [.ref 55, .int p0, .int p1, .int 1, .float 0, .float 0]) dX10_areCreasesOf_1 (Nat.le_of_ble_eq_true rfl) rfl rfl ?_
  refine mv_iconst 0 dX10_areCreasesOf_2 (by decide) ?_
  refine mv_istore (lv' := [.ref 55, .int p0, .int p1, .int 1, .int 0, .float 0]) dX10_areCreasesOf_3 (Nat.le_of_ble_eq_true rfl) rfl rfl ?_
  exact (BX10_areCreasesOf_55_b5 G d D (by omega) P _ _ _ _ _ _ hs)
noncomputable def fX10_undone_55_b124 (k34 : Int32 → Int32 → Int32 → Int32 → Int32 → mv_H → Option (Int32)) (k44 : Int32 → Int32 → Int32 → Int32 → Int32 → Int32 → mv_H → Option (Int32)) (v1 : Int32) (v2 : Int32) (v4 : Int32) (v5 : Int32) (v6 : Int32) (s0 : Int32) (s1 : Int32) (h : mv_H) : Option (Int32) := mv_let (s1 + s0) fun x1060 : Int32 => k44 v1 v2 x1060 v4 v5 (v6 + 1) h
set_option maxRecDepth 100000 in
set_option maxHeartbeats 4000000 in
theorem BX10_undone_55_b124 (G : mv_G) (d D : Nat) (hD : d + 0 ≤ D) (P : Int32 → Prop) (k34 : Int32 → Int32 → Int32 → Int32 → Int32 → mv_H → Option (Int32)) (k44 : Int32 → Int32 → Int32 → Int32 → Int32 → Int32 → mv_H → Option (Int32)) (h : mv_H) (hk34 : ∀ (v1 : Int32) (v2 : Int32) (v3 : Int32) (v4 : Int32) (v5 : Int32), mv_sat (k34 v1 v2 v3 v4 v5 h) P → mv_MW G mX10_undone (mv_rm D mX10_undone) (mv_Zf G mX10_undone (mv_qi mv_SH h P)) 0 0 34 [.ref 55, .int v1, .int v2, .int v3, .int v4, .int v5, .float 0, .float 0] [] mv_SH h) (hk44 : ∀ (v1 : Int32) (v2 : Int32) (v3 : Int32) (v4 : Int32) (v5 : Int32) (v6 : Int32), mv_sat (k44 v1 v2 v3 v4 v5 v6 h) P → mv_MW G mX10_undone (mv_rm D mX10_undone) (mv_Zf G mX10_undone (mv_qi mv_SH h P)) 0 0 44 [.ref 55, .int v1, .int v2, .int v3, .int v4, .int v5, .int v6, .float 0] [] mv_SH h) (v1 : Int32) (v2 : Int32) (v4 : Int32) (v5 : Int32) (v6 : Int32) (s0 : Int32) (s1 : Int32) (hs : mv_sat (fX10_undone_55_b124 k34 k44 v1 v2 v4 v5 v6 s0 s1 h) P) : mv_MW G mX10_undone (mv_rm D mX10_undone) (mv_Zf G mX10_undone (mv_qi mv_SH h P)) 0 0 124 [.ref 55, .int v1, .int v2, .float 0, .int v4, .int v5, .int v6, .float 0] [.int s0, .int s1] mv_SH h := by
  unfold fX10_undone_55_b124 at hs
  refine mv_iadd dX10_undone_124 ?_
  refine mv_name hs (fun x1060 hs => ?_)
  refine mv_istore_n (lv' := [.ref 55, .int v1, .int v2, .int x1060, .int v4, .int v5, .int v6, .float 0]) dX10_undone_125 (Nat.le_of_ble_eq_true rfl) rfl rfl ?_
  refine mv_iinc (lv' := [.ref 55, .int v1, .int v2, .int x1060, .int v4, .int v5, .int (v6 + 1), .float 0]) 1 dX10_undone_126 rfl (by decide) (Nat.le_of_ble_eq_true rfl) rfl rfl ?_
  refine mv_goto dX10_undone_129 ?_
  exact (hk44 _ _ _ _ _ _ hs)
noncomputable def fX10_undone_55_b111 (k34 : Int32 → Int32 → Int32 → Int32 → Int32 → mv_H → Option (Int32)) (k44 : Int32 → Int32 → Int32 → Int32 → Int32 → Int32 → mv_H → Option (Int32)) (v1 : Int32) (v2 : Int32) (v3 : Int32) (v5 : Int32) (v6 : Int32) (v7 : Int32) (s0 : Int32) (h : mv_H) : Option (Int32) := if v7 = 0 then fX10_undone_55_b124 k34 k44 v1 v2 s0 v5 v6 0 v3 h else fX10_undone_55_b124 k34 k44 v1 v2 s0 v5 v6 1 v3 h
set_option maxRecDepth 100000 in
set_option maxHeartbeats 4000000 in
theorem BX10_undone_55_b111 (G : mv_G) (d D : Nat) (hD : d + 0 ≤ D) (P : Int32 → Prop) (k34 : Int32 → Int32 → Int32 → Int32 → Int32 → mv_H → Option (Int32)) (k44 : Int32 → Int32 → Int32 → Int32 → Int32 → Int32 → mv_H → Option (Int32)) (h : mv_H) (hk34 : ∀ (v1 : Int32) (v2 : Int32) (v3 : Int32) (v4 : Int32) (v5 : Int32), mv_sat (k34 v1 v2 v3 v4 v5 h) P → mv_MW G mX10_undone (mv_rm D mX10_undone) (mv_Zf G mX10_undone (mv_qi mv_SH h P)) 0 0 34 [.ref 55, .int v1, .int v2, .int v3, .int v4, .int v5, .float 0, .float 0] [] mv_SH h) (hk44 : ∀ (v1 : Int32) (v2 : Int32) (v3 : Int32) (v4 : Int32) (v5 : Int32) (v6 : Int32), mv_sat (k44 v1 v2 v3 v4 v5 v6 h) P → mv_MW G mX10_undone (mv_rm D mX10_undone) (mv_Zf G mX10_undone (mv_qi mv_SH h P)) 0 0 44 [.ref 55, .int v1, .int v2, .int v3, .int v4, .int v5, .int v6, .float 0] [] mv_SH h) (v1 : Int32) (v2 : Int32) (v3 : Int32) (v5 : Int32) (v6 : Int32) (v7 : Int32) (s0 : Int32) (hs : mv_sat (fX10_undone_55_b111 k34 k44 v1 v2 v3 v5 v6 v7 s0 h) P) : mv_MW G mX10_undone (mv_rm D mX10_undone) (mv_Zf G mX10_undone (mv_qi mv_SH h P)) 0 0 111 [.ref 55, .int v1, .int v2, .int v3, .float 0, .int v5, .int v6, .int v7] [.int s0] mv_SH h := by
  unfold fX10_undone_55_b111 at hs
  refine mv_istore (lv' := [.ref 55, .int v1, .int v2, .int v3, .int s0, .int v5, .int v6, .int v7]) dX10_undone_111 (Nat.le_of_ble_eq_true rfl) rfl rfl ?_
  refine mv_iload_n dX10_undone_113 rfl ?_
  refine mv_iload dX10_undone_114 rfl ?_
  refine mv_if_eq dX10_undone_116 hs (fun _ hs => ?_) (fun _ hs => ?_)
  · refine mv_iconst 0 dX10_undone_123 (by decide) ?_
    exact mv_weak (lv' := [.ref 55, .int v1, .int v2, .float 0, .int s0, .int v5, .int v6, .float 0]) (mv_s (mv_s (mv_s (mv_k (mv_s (mv_s (mv_s (mv_k mv_n)))))))) (BX10_undone_55_b124 G d D (by omega) P _ _ _ hk34 hk44 _ _ _ _ _ _ _ hs)
  · refine mv_iconst 1 dX10_undone_119 (by decide) ?_
    refine mv_goto dX10_undone_120 ?_
    exact mv_weak (lv' := [.ref 55, .int v1, .int v2, .float 0, .int s0, .int v5, .int v6, .float 0]) (mv_s (mv_s (mv_s (mv_k (mv_s (mv_s (mv_s (mv_k mv_n)))))))) (BX10_undone_55_b124 G d D (by omega) P _ _ _ hk34 hk44 _ _ _ _ _ _ _ hs)
noncomputable def fX10_undone_55_b109 (k34 : Int32 → Int32 → Int32 → Int32 → Int32 → mv_H → Option (Int32)) (k44 : Int32 → Int32 → Int32 → Int32 → Int32 → Int32 → mv_H → Option (Int32)) (v1 : Int32) (v2 : Int32) (v3 : Int32) (v4 : Int32) (v5 : Int32) (v6 : Int32) (v7 : Int32) (h : mv_H) : Option (Int32) := fX10_undone_55_b111 k34 k44 v1 v2 v3 v5 v6 v7 v4 h
set_option maxRecDepth 100000 in
set_option maxHeartbeats 4000000 in
theorem BX10_undone_55_b109 (G : mv_G) (d D : Nat) (hD : d + 0 ≤ D) (P : Int32 → Prop) (k34 : Int32 → Int32 → Int32 → Int32 → Int32 → mv_H → Option (Int32)) (k44 : Int32 → Int32 → Int32 → Int32 → Int32 → Int32 → mv_H → Option (Int32)) (h : mv_H) (hk34 : ∀ (v1 : Int32) (v2 : Int32) (v3 : Int32) (v4 : Int32) (v5 : Int32), mv_sat (k34 v1 v2 v3 v4 v5 h) P → mv_MW G mX10_undone (mv_rm D mX10_undone) (mv_Zf G mX10_undone (mv_qi mv_SH h P)) 0 0 34 [.ref 55, .int v1, .int v2, .int v3, .int v4, .int v5, .float 0, .float 0] [] mv_SH h) (hk44 : ∀ (v1 : Int32) (v2 : Int32) (v3 : Int32) (v4 : Int32) (v5 : Int32) (v6 : Int32), mv_sat (k44 v1 v2 v3 v4 v5 v6 h) P → mv_MW G mX10_undone (mv_rm D mX10_undone) (mv_Zf G mX10_undone (mv_qi mv_SH h P)) 0 0 44 [.ref 55, .int v1, .int v2, .int v3, .int v4, .int v5, .int v6, .float 0] [] mv_SH h) (v1 : Int32) (v2 : Int32) (v3 : Int32) (v4 : Int32) (v5 : Int32) (v6 : Int32) (v7 : Int32) (hs : mv_sat (fX10_undone_55_b109 k34 k44 v1 v2 v3 v4 v5 v6 v7 h) P) : mv_MW G mX10_undone (mv_rm D mX10_undone) (mv_Zf G mX10_undone (mv_qi mv_SH h P)) 0 0 109 [.ref 55, .int v1, .int v2, .int v3, .int v4, .int v5, .int v6, .int v7] [] mv_SH h := by
  unfold fX10_undone_55_b109 at hs
  refine mv_iload dX10_undone_109 rfl ?_
  exact mv_weak (lv' := [.ref 55, .int v1, .int v2, .int v3, .float 0, .int v5, .int v6, .int v7]) (mv_s (mv_s (mv_s (mv_s (mv_k (mv_s (mv_s (mv_s mv_n)))))))) (BX10_undone_55_b111 G d D (by omega) P _ _ _ hk34 hk44 _ _ _ _ _ _ _ hs)
noncomputable def fX10_undone_55_b87 (k34 : Int32 → Int32 → Int32 → Int32 → Int32 → mv_H → Option (Int32)) (k44 : Int32 → Int32 → Int32 → Int32 → Int32 → Int32 → mv_H → Option (Int32)) (v1 : Int32) (v2 : Int32) (v3 : Int32) (v4 : Int32) (v5 : Int32) (v6 : Int32) (s0 : Int32) (h : mv_H) : Option (Int32) := if s0 = 0 then fX10_undone_55_b109 k34 k44 v1 v2 v3 v4 v5 v6 s0 h else if v3 = 0 then fX10_undone_55_b111 k34 k44 v1 v2 v3 v5 v6 s0 ((100 * v5) + v6) h else fX10_undone_55_b109 k34 k44 v1 v2 v3 v4 v5 v6 s0 h
set_option maxRecDepth 100000 in
set_option maxHeartbeats 4000000 in
theorem BX10_undone_55_b87 (G : mv_G) (d D : Nat) (hD : d + 0 ≤ D) (P : Int32 → Prop) (k34 : Int32 → Int32 → Int32 → Int32 → Int32 → mv_H → Option (Int32)) (k44 : Int32 → Int32 → Int32 → Int32 → Int32 → Int32 → mv_H → Option (Int32)) (h : mv_H) (hk34 : ∀ (v1 : Int32) (v2 : Int32) (v3 : Int32) (v4 : Int32) (v5 : Int32), mv_sat (k34 v1 v2 v3 v4 v5 h) P → mv_MW G mX10_undone (mv_rm D mX10_undone) (mv_Zf G mX10_undone (mv_qi mv_SH h P)) 0 0 34 [.ref 55, .int v1, .int v2, .int v3, .int v4, .int v5, .float 0, .float 0] [] mv_SH h) (hk44 : ∀ (v1 : Int32) (v2 : Int32) (v3 : Int32) (v4 : Int32) (v5 : Int32) (v6 : Int32), mv_sat (k44 v1 v2 v3 v4 v5 v6 h) P → mv_MW G mX10_undone (mv_rm D mX10_undone) (mv_Zf G mX10_undone (mv_qi mv_SH h P)) 0 0 44 [.ref 55, .int v1, .int v2, .int v3, .int v4, .int v5, .int v6, .float 0] [] mv_SH h) (v1 : Int32) (v2 : Int32) (v3 : Int32) (v4 : Int32) (v5 : Int32) (v6 : Int32) (s0 : Int32) (hs : mv_sat (fX10_undone_55_b87 k34 k44 v1 v2 v3 v4 v5 v6 s0 h) P) : mv_MW G mX10_undone (mv_rm D mX10_undone) (mv_Zf G mX10_undone (mv_qi mv_SH h P)) 0 0 87 [.ref 55, .int v1, .int v2, .int v3, .int v4, .int v5, .int v6, .float 0] [.int s0] mv_SH h := by
  unfold fX10_undone_55_b87 at hs
  refine mv_istore (lv' := [.ref 55, .int v1, .int v2, .int v3, .int v4, .int v5, .int v6, .int s0]) dX10_undone_87 (Nat.le_of_ble_eq_true rfl) rfl rfl ?_
  refine mv_iload dX10_undone_89 rfl ?_
  refine mv_if_eq dX10_undone_91 hs (fun _ hs => ?_) (fun _ hs => ?_)
  · exact (BX10_undone_55_b109 G d D (by omega) P _ _ _ hk34 hk44 _ _ _ _ _ _ _ hs)
  · refine mv_iload_n dX10_undone_94 rfl ?_
    refine mv_if_ne dX10_undone_95 hs (fun _ hs => ?_) (fun _ hs => ?_)
    · refine mv_bipush 100 dX10_undone_98 (by decide) ?_
      refine mv_iload dX10_undone_100 rfl ?_
      refine mv_imul dX10_undone_102 ?_
      refine mv_iload dX10_undone_103 rfl ?_
      refine mv_iadd dX10_undone_105 ?_
      refine mv_goto dX10_undone_106 ?_
      exact mv_weak (lv' := [.ref 55, .int v1, .int v2, .int v3, .float 0, .int v5, .int v6, .int s0]) (mv_s (mv_s (mv_s (mv_s (mv_k (mv_s (mv_s (mv_s mv_n)))))))) (BX10_undone_55_b111 G d D (by omega) P _ _ _ hk34 hk44 _ _ _ _ _ _ _ hs)
    · exact (BX10_undone_55_b109 G d D (by omega) P _ _ _ hk34 hk44 _ _ _ _ _ _ _ hs)
noncomputable def fX10_undone_55_b86 (k34 : Int32 → Int32 → Int32 → Int32 → Int32 → mv_H → Option (Int32)) (k44 : Int32 → Int32 → Int32 → Int32 → Int32 → Int32 → mv_H → Option (Int32)) (v1 : Int32) (v2 : Int32) (v3 : Int32) (v4 : Int32) (v5 : Int32) (v6 : Int32) (h : mv_H) : Option (Int32) := fX10_undone_55_b87 k34 k44 v1 v2 v3 v4 v5 v6 0 h
set_option maxRecDepth 100000 in
set_option maxHeartbeats 4000000 in
theorem BX10_undone_55_b86 (G : mv_G) (d D : Nat) (hD : d + 0 ≤ D) (P : Int32 → Prop) (k34 : Int32 → Int32 → Int32 → Int32 → Int32 → mv_H → Option (Int32)) (k44 : Int32 → Int32 → Int32 → Int32 → Int32 → Int32 → mv_H → Option (Int32)) (h : mv_H) (hk34 : ∀ (v1 : Int32) (v2 : Int32) (v3 : Int32) (v4 : Int32) (v5 : Int32), mv_sat (k34 v1 v2 v3 v4 v5 h) P → mv_MW G mX10_undone (mv_rm D mX10_undone) (mv_Zf G mX10_undone (mv_qi mv_SH h P)) 0 0 34 [.ref 55, .int v1, .int v2, .int v3, .int v4, .int v5, .float 0, .float 0] [] mv_SH h) (hk44 : ∀ (v1 : Int32) (v2 : Int32) (v3 : Int32) (v4 : Int32) (v5 : Int32) (v6 : Int32), mv_sat (k44 v1 v2 v3 v4 v5 v6 h) P → mv_MW G mX10_undone (mv_rm D mX10_undone) (mv_Zf G mX10_undone (mv_qi mv_SH h P)) 0 0 44 [.ref 55, .int v1, .int v2, .int v3, .int v4, .int v5, .int v6, .float 0] [] mv_SH h) (v1 : Int32) (v2 : Int32) (v3 : Int32) (v4 : Int32) (v5 : Int32) (v6 : Int32) (hs : mv_sat (fX10_undone_55_b86 k34 k44 v1 v2 v3 v4 v5 v6 h) P) : mv_MW G mX10_undone (mv_rm D mX10_undone) (mv_Zf G mX10_undone (mv_qi mv_SH h P)) 0 0 86 [.ref 55, .int v1, .int v2, .int v3, .int v4, .int v5, .int v6, .float 0] [] mv_SH h := by
  unfold fX10_undone_55_b86 at hs
  refine mv_iconst 0 dX10_undone_86 (by decide) ?_
  exact (BX10_undone_55_b87 G d D (by omega) P _ _ _ hk34 hk44 _ _ _ _ _ _ _ hs)
noncomputable def fX10_undone_55_b82 (k34 : Int32 → Int32 → Int32 → Int32 → Int32 → mv_H → Option (Int32)) (k44 : Int32 → Int32 → Int32 → Int32 → Int32 → Int32 → mv_H → Option (Int32)) (v1 : Int32) (v2 : Int32) (v3 : Int32) (v4 : Int32) (v5 : Int32) (v6 : Int32) (h : mv_H) : Option (Int32) := fX10_undone_55_b87 k34 k44 v1 v2 v3 v4 v5 v6 1 h
set_option maxRecDepth 100000 in
set_option maxHeartbeats 4000000 in
theorem BX10_undone_55_b82 (G : mv_G) (d D : Nat) (hD : d + 0 ≤ D) (P : Int32 → Prop) (k34 : Int32 → Int32 → Int32 → Int32 → Int32 → mv_H → Option (Int32)) (k44 : Int32 → Int32 → Int32 → Int32 → Int32 → Int32 → mv_H → Option (Int32)) (h : mv_H) (hk34 : ∀ (v1 : Int32) (v2 : Int32) (v3 : Int32) (v4 : Int32) (v5 : Int32), mv_sat (k34 v1 v2 v3 v4 v5 h) P → mv_MW G mX10_undone (mv_rm D mX10_undone) (mv_Zf G mX10_undone (mv_qi mv_SH h P)) 0 0 34 [.ref 55, .int v1, .int v2, .int v3, .int v4, .int v5, .float 0, .float 0] [] mv_SH h) (hk44 : ∀ (v1 : Int32) (v2 : Int32) (v3 : Int32) (v4 : Int32) (v5 : Int32) (v6 : Int32), mv_sat (k44 v1 v2 v3 v4 v5 v6 h) P → mv_MW G mX10_undone (mv_rm D mX10_undone) (mv_Zf G mX10_undone (mv_qi mv_SH h P)) 0 0 44 [.ref 55, .int v1, .int v2, .int v3, .int v4, .int v5, .int v6, .float 0] [] mv_SH h) (v1 : Int32) (v2 : Int32) (v3 : Int32) (v4 : Int32) (v5 : Int32) (v6 : Int32) (hs : mv_sat (fX10_undone_55_b82 k34 k44 v1 v2 v3 v4 v5 v6 h) P) : mv_MW G mX10_undone (mv_rm D mX10_undone) (mv_Zf G mX10_undone (mv_qi mv_SH h P)) 0 0 82 [.ref 55, .int v1, .int v2, .int v3, .int v4, .int v5, .int v6, .float 0] [] mv_SH h := by
  unfold fX10_undone_55_b82 at hs
  refine mv_iconst 1 dX10_undone_82 (by decide) ?_
  refine mv_goto dX10_undone_83 ?_
  exact (BX10_undone_55_b87 G d D (by omega) P _ _ _ hk34 hk44 _ _ _ _ _ _ _ hs)
noncomputable def fX10_undone_55_b44 (k34 : Int32 → Int32 → Int32 → Int32 → Int32 → mv_H → Option (Int32)) : Nat → Int32 → Int32 → Int32 → Int32 → Int32 → Int32 → mv_H → Option (Int32)
  | 0, _, _, _, _, _, _, _ => none
  | n + 1, v1, v2, v3, v4, v5, v6, h => if 20 < v6 then k34 v1 v2 v3 v4 (v5 + 1) h else (fX10_areCreasesOf_55 v5 v6 h).bind fun r1059 => if r1059 = 0 then fX10_undone_55_b86 k34 (fX10_undone_55_b44 k34 n) v1 v2 v3 v4 v5 v6 h else if v1 = 0 then fX10_undone_55_b82 k34 (fX10_undone_55_b44 k34 n) v1 v2 v3 v4 v5 v6 h else if v1 = ((2 * (v5 + v6)) + (h 55 7)) then fX10_undone_55_b82 k34 (fX10_undone_55_b44 k34 n) v1 v2 v3 v4 v5 v6 h else fX10_undone_55_b86 k34 (fX10_undone_55_b44 k34 n) v1 v2 v3 v4 v5 v6 h
set_option maxRecDepth 100000 in
set_option maxHeartbeats 4000000 in
theorem BX10_undone_55_b44 (G : mv_G) (d D : Nat) (hD : d + 1 ≤ D) (P : Int32 → Prop) (k34 : Int32 → Int32 → Int32 → Int32 → Int32 → mv_H → Option (Int32)) (h : mv_H) (hk34 : ∀ (v1 : Int32) (v2 : Int32) (v3 : Int32) (v4 : Int32) (v5 : Int32), mv_sat (k34 v1 v2 v3 v4 v5 h) P → mv_MW G mX10_undone (mv_rm D mX10_undone) (mv_Zf G mX10_undone (mv_qi mv_SH h P)) 0 0 34 [.ref 55, .int v1, .int v2, .int v3, .int v4, .int v5, .float 0, .float 0] [] mv_SH h) : ∀ (n : Nat) (v1 : Int32) (v2 : Int32) (v3 : Int32) (v4 : Int32) (v5 : Int32) (v6 : Int32), mv_sat (fX10_undone_55_b44 k34 n v1 v2 v3 v4 v5 v6 h) P → mv_MW G mX10_undone (mv_rm D mX10_undone) (mv_Zf G mX10_undone (mv_qi mv_SH h P)) 0 0 44 [.ref 55, .int v1, .int v2, .int v3, .int v4, .int v5, .int v6, .float 0] [] mv_SH h := by
  intro n
  induction n with
  | zero =>
    intro v1 v2 v3 v4 v5 v6 hs
    unfold fX10_undone_55_b44 at hs
    exact (mv_sat_none hs).elim
  | succ n ih =>
    intro v1 v2 v3 v4 v5 v6 hs
    unfold fX10_undone_55_b44 at hs
    refine mv_iload dX10_undone_44 rfl ?_
    refine mv_bipush 20 dX10_undone_46 (by decide) ?_
    refine mv_icmp_gt dX10_undone_48 hs (fun _ hs => ?_) (fun _ hs => ?_)
    · refine mv_iinc (lv' := [.ref 55, .int v1, .int v2, .int v3, .int v4, .int (v5 + 1), .int v6, .float 0]) 1 dX10_undone_132 rfl (by decide) (Nat.le_of_ble_eq_true rfl) rfl rfl ?_
      refine mv_goto dX10_undone_135 ?_
      exact mv_weak (lv' := [.ref 55, .int v1, .int v2, .int v3, .int v4, .int (v5 + 1), .float 0, .float 0]) (mv_s (mv_s (mv_s (mv_s (mv_s (mv_s (mv_k (mv_s mv_n)))))))) (hk34 _ _ _ _ _ hs)
    · refine mv_aload_n dX10_undone_51 rfl ?_
      refine mv_iload dX10_undone_52 rfl ?_
      refine mv_iload dX10_undone_54 rfl ?_
      refine mv_cV (st := []) dX10_undone_56 kk_X10_338 (TX10_areCreasesOf_55 G d _ _ _ _ (mv_sat_bind hs)) so_55 vc_10 rfl rfl (Nat.le_of_ble_eq_true rfl) (by omega) rfl ⟨Nat.zero_le _, Nat.zero_le _⟩ (mv_ki fun r1059 hs => ?_)
      refine mv_if_eq dX10_undone_59 hs (fun _ hs => ?_) (fun _ hs => ?_)
      · exact (BX10_undone_55_b86 G d D (by omega) P _ _ _ hk34 ih _ _ _ _ _ _ hs)
      · refine mv_iload_n dX10_undone_62 rfl ?_
        refine mv_if_eq dX10_undone_63 hs (fun _ hs => ?_) (fun _ hs => ?_)
        · exact (BX10_undone_55_b82 G d D (by omega) P _ _ _ hk34 ih _ _ _ _ _ _ hs)
        · refine mv_iload_n dX10_undone_66 rfl ?_
          refine mv_iconst 2 dX10_undone_67 (by decide) ?_
          refine mv_iload dX10_undone_68 rfl ?_
          refine mv_iload dX10_undone_70 rfl ?_
          refine mv_iadd dX10_undone_72 ?_
          refine mv_imul dX10_undone_73 ?_
          refine mv_aload_n dX10_undone_74 rfl ?_
          refine mv_geti dX10_undone_75 kf_X10_92 gf_55_7 ?_
          refine mv_iadd dX10_undone_78 ?_
          refine mv_icmp_ne dX10_undone_79 hs (fun _ hs => ?_) (fun _ hs => ?_)
          · exact (BX10_undone_55_b82 G d D (by omega) P _ _ _ hk34 ih _ _ _ _ _ _ hs)
          · exact (BX10_undone_55_b86 G d D (by omega) P _ _ _ hk34 ih _ _ _ _ _ _ hs)
noncomputable def fX10_undone_55_b34 : Nat → Int32 → Int32 → Int32 → Int32 → Int32 → mv_H → Option (Int32)
  | 0, _, _, _, _, _, _ => none
  | n + 1, v1, v2, v3, v4, v5, h => if 20 < v5 then (if v2 = 0 then some v3 else some v4) else fX10_undone_55_b44 (fX10_undone_55_b34 n) mv_F v1 v2 v3 v4 v5 1 h
set_option maxRecDepth 100000 in
set_option maxHeartbeats 4000000 in
theorem BX10_undone_55_b34 (G : mv_G) (d D : Nat) (hD : d + 1 ≤ D) (P : Int32 → Prop) (h : mv_H) : ∀ (n : Nat) (v1 : Int32) (v2 : Int32) (v3 : Int32) (v4 : Int32) (v5 : Int32), mv_sat (fX10_undone_55_b34 n v1 v2 v3 v4 v5 h) P → mv_MW G mX10_undone (mv_rm D mX10_undone) (mv_Zf G mX10_undone (mv_qi mv_SH h P)) 0 0 34 [.ref 55, .int v1, .int v2, .int v3, .int v4, .int v5, .float 0, .float 0] [] mv_SH h := by
  intro n
  induction n with
  | zero =>
    intro v1 v2 v3 v4 v5 hs
    unfold fX10_undone_55_b34 at hs
    exact (mv_sat_none hs).elim
  | succ n ih =>
    intro v1 v2 v3 v4 v5 hs
    unfold fX10_undone_55_b34 at hs
    refine mv_iload dX10_undone_34 rfl ?_
    refine mv_bipush 20 dX10_undone_36 (by decide) ?_
    refine mv_icmp_gt dX10_undone_38 hs (fun _ hs => ?_) (fun _ hs => ?_)
    · refine mv_iload_n dX10_undone_138 rfl ?_
      refine mv_if_ne dX10_undone_139 hs (fun _ hs => ?_) (fun _ hs => ?_)
      · refine mv_iload_n dX10_undone_142 rfl ?_
        refine mv_goto dX10_undone_143 ?_
        exact mv_iret dX10_undone_148 rfl ⟨_, rfl, rfl, rfl, mv_sat_some hs⟩
      · refine mv_iload dX10_undone_146 rfl ?_
        exact mv_iret dX10_undone_148 rfl ⟨_, rfl, rfl, rfl, mv_sat_some hs⟩
    · refine mv_iconst 1 dX10_undone_41 (by decide) ?_
      refine mv_istore (lv' := [.ref 55, .int v1, .int v2, .int v3, .int v4, .int v5, .int 1, .float 0]) dX10_undone_42 (Nat.le_of_ble_eq_true rfl) rfl rfl ?_
      exact (BX10_undone_55_b44 G d D (by omega) P _ _ ih _ _ _ _ _ _ _ hs)
