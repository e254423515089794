/-! printed by program: what a method does, as a function, and that it does it -/
noncomputable def fX3_search_46_6 (p0 : Int32) (h : mv_H) : Option (mv_H) := (fJ6_bitCount_0f7a4 p0).bind fun r780 => mv_let (mv_u h 46 3 r780) fun h781 : mv_H => mv_let (mv_u h781 46 4 (-1)) fun h782 : mv_H => (fX7_bits_6 h782).bind fun r783 => (fX3_extend_46_6 mv_R (0 : Int32) p0 r783 (0 : Int32) h782).bind fun r797 => some r797
set_option maxRecDepth 100000 in
set_option maxHeartbeats 4000000 in
theorem TX3_search_46_6 (G : mv_G) (d : Nat) (P : mv_H → Prop) (p0 : Int32) (h : mv_H) (hs : mv_sat (fX3_search_46_6 p0 h) P) : mv_met G (d + 35) mX3_search [.ref 46, .int p0, .ref 6] mv_SH h (mv_qv mv_SH P) := by
  unfold fX3_search_46_6 at hs
  obtain ⟨D, hDe⟩ : ∃ D, D = d + 35 := ⟨_, rfl⟩
  rw [← hDe]
  have hD : d + 35 ≤ D := by omega
  refine mv_enter (lv := [.ref 46, .int p0, .ref 6]) 0 (by decide) (by decide +kernel) rfl (Nat.le_of_ble_eq_true rfl) ?_
  refine mv_aload_n dX3_search_0 rfl ?_
  refine mv_iload_n dX3_search_1 rfl ?_
  refine mv_cS (st := [.ref 46]) dX3_search_2 kk_X3_25 (TJ6_bitCount_0f7a4 G d _ _ _ (mv_sat_bind hs)) rfl rfl (Nat.le_of_ble_eq_true rfl) (by omega) rfl ⟨Nat.zero_le _, Nat.zero_le _⟩ (mv_ki fun r780 hs => ?_)
  refine mv_puti dX3_search_5 kf_X3_31 (fun q => by cases q) gf_46_3 ?_
  refine mv_nameH hs (fun h781 hs => ?_)
  refine mv_aload_n dX3_search_8 rfl ?_
  refine mv_iconst (-1) dX3_search_9 (by decide) ?_
  refine mv_puti dX3_search_10 kf_X3_35 (fun q => by cases q) gf_46_4 ?_
  refine mv_nameH hs (fun h782 hs => ?_)
  refine mv_aload_n dX3_search_13 rfl ?_
  refine mv_aload_n dX3_search_14 rfl ?_
  refine mv_iconst 0 dX3_search_15 (by decide) ?_
  refine mv_iload_n dX3_search_16 rfl ?_
  refine mv_aload_n dX3_search_17 rfl ?_
  refine mv_cV (st := [.int p0, .int 0, .ref 6, .ref 46]) dX3_search_18 kk_X3_38 (TX7_bits_6 G d _ _ (mv_sat_bind hs)) so_6 vc_7 rfl rfl (Nat.le_of_ble_eq_true rfl) (by omega) rfl ⟨Nat.zero_le _, Nat.zero_le _⟩ (mv_ki fun r783 hs => ?_)
  refine mv_iconst 0 dX3_search_21 (by decide) ?_
  refine mv_cV (st := []) dX3_search_22 kk_X3_44 (TX3_extend_46_6 G d mv_R _ _ _ _ _ _ (mv_sat_bind hs)) so_46 vc_3 rfl rfl (Nat.le_of_ble_eq_true rfl) (by have := mv_R_eq; omega) rfl ⟨Nat.zero_le _, Nat.zero_le _⟩ (mv_kv fun r797 hs => ?_)
  exact mv_vret dX3_search_25 rfl ⟨_, rfl, rfl, rfl, mv_sat_some hs⟩
noncomputable def fX3_wrapped_46 (h : mv_H) : Option (Int32) := some (h 46 4)
set_option maxRecDepth 100000 in
set_option maxHeartbeats 4000000 in
theorem TX3_wrapped_46 (G : mv_G) (d : Nat) (P : Int32 → Prop) (h : mv_H) (hs : mv_sat (fX3_wrapped_46 h) P) : mv_met G (d + 0) mX3_wrapped [.ref 46] mv_SH h (mv_qi mv_SH h P) := by
  unfold fX3_wrapped_46 at hs
  obtain ⟨D, hDe⟩ : ∃ D, D = d + 0 := ⟨_, rfl⟩
  rw [← hDe]
  have hD : d + 0 ≤ D := by omega
  refine mv_enter (lv := [.ref 46]) 0 (by decide) (by decide +kernel) rfl (Nat.le_of_ble_eq_true rfl) ?_
  refine mv_aload_n dX3_wrapped_0 rfl ?_
  refine mv_geti dX3_wrapped_1 kf_X3_35 gf_46_4 ?_
  exact mv_iret dX3_wrapped_4 rfl ⟨_, rfl, rfl, rfl, mv_sat_some hs⟩
noncomputable def fX3_boxAt_46 (p0 : Int32) (h : mv_H) : Option (Int32) := (fX9_isNumber p0).bind fun r800 => if r800 = 0 then some (-6) else if p0 < (h 46 3) then (if mv_in p0 6 then (some (h 49 p0.toNatClampNeg)) else none) else some (-6)
set_option maxRecDepth 100000 in
set_option maxHeartbeats 4000000 in
theorem TX3_boxAt_46 (G : mv_G) (d : Nat) (P : Int32 → Prop) (p0 : Int32) (h : mv_H) (hs : mv_sat (fX3_boxAt_46 p0 h) P) : mv_met G (d + 1) mX3_boxAt [.ref 46, .int p0] mv_SH h (mv_qi mv_SH h P) := by
  unfold fX3_boxAt_46 at hs
  obtain ⟨D, hDe⟩ : ∃ D, D = d + 1 := ⟨_, rfl⟩
  rw [← hDe]
  have hD : d + 1 ≤ D := by omega
  refine mv_enter (lv := [.ref 46, .int p0]) 0 (by decide) (by decide +kernel) rfl (Nat.le_of_ble_eq_true rfl) ?_
  refine mv_iload_n dX3_boxAt_0 rfl ?_
  refine mv_cS (st := []) dX3_boxAt_1 kk_X3_21 (TX9_isNumber G d _ _ _ (mv_sat_bind hs)) rfl rfl (Nat.le_of_ble_eq_true rfl) (by omega) rfl ⟨Nat.zero_le _, Nat.zero_le _⟩ (mv_ki fun r800 hs => ?_)
  refine mv_if_eq dX3_boxAt_4 hs (fun _ hs => ?_) (fun _ hs => ?_)
  · refine mv_bipush (-6) dX3_boxAt_24 (by decide) ?_
    exact mv_iret dX3_boxAt_26 rfl ⟨_, rfl, rfl, rfl, mv_sat_some hs⟩
  · refine mv_iload_n dX3_boxAt_7 rfl ?_
    refine mv_aload_n dX3_boxAt_8 rfl ?_
    refine mv_geti dX3_boxAt_9 kf_X3_31 gf_46_3 ?_
    refine mv_icmp_ge dX3_boxAt_12 hs (fun _ hs => ?_) (fun _ hs => ?_)
    · refine mv_aload_n dX3_boxAt_15 rfl ?_
      refine mv_getr dX3_boxAt_16 kf_X3_18 gf_46_2 ?_
      refine mv_iload_n dX3_boxAt_19 rfl ?_
      refine mv_iaload dX3_boxAt_20 so_49 hs (fun hs => ?_)
      refine mv_goto dX3_boxAt_21 ?_
      exact mv_iret dX3_boxAt_26 rfl ⟨_, rfl, rfl, rfl, mv_sat_some hs⟩
    · refine mv_bipush (-6) dX3_boxAt_24 (by decide) ?_
      exact mv_iret dX3_boxAt_26 rfl ⟨_, rfl, rfl, rfl, mv_sat_some hs⟩
noncomputable def fX9_usedUp_0_b19 : Nat → Int32 → Int32 → Int32 → mv_H → Option (Int32 × mv_H)
  | 0, _, _, _, _ => none
  | n + 1, v1, v2, v3, h => if v3 < 6 then ((fX9_isIn v1 v3).bind fun r775 => if r775 = 0 then fX9_usedUp_0_b47 (fX9_usedUp_0_b19 n) v1 v2 v3 0 v3 h else (fX9_sheetsDoingFor_0 v3 h).bind fun r779 => fX9_usedUp_0_b47 (fX9_usedUp_0_b19 n) v1 v2 v3 r779.1 v3 r779.2) else (fX3_search_46_6 v1 h).bind fun r798 => if v2 = (-1) then ((fX3_wrapped_46 r798).bind fun r799 => some (r799, r798)) else (fX3_boxAt_46 v2 r798).bind fun r801 => some (r801, r798)
set_option maxRecDepth 100000 in
set_option maxHeartbeats 4000000 in
theorem BX9_usedUp_0_b19 (G : mv_G) (d D : Nat) (hD : d + 36 ≤ D) (P : Int32 × mv_H → Prop) : ∀ (n : Nat) (v1 : Int32) (v2 : Int32) (v3 : Int32) (h : mv_H), mv_sat (fX9_usedUp_0_b19 n v1 v2 v3 h) P → mv_MW G mX9_usedUp (mv_rm D mX9_usedUp) (mv_Zf G mX9_usedUp (mv_qI mv_SH P)) 0 0 19 [.ref 0, .int v1, .int v2, .int v3] [] mv_SH h := by
  intro n
  induction n with
  | zero =>
    intro v1 v2 v3 h hs
    unfold fX9_usedUp_0_b19 at hs
    exact (mv_sat_none hs).elim
  | succ n ih =>
    intro v1 v2 v3 h hs
    unfold fX9_usedUp_0_b19 at hs
    refine mv_iload_n dX9_usedUp_19 rfl ?_
    refine mv_bipush 6 dX9_usedUp_20 (by decide) ?_
    refine mv_icmp_ge dX9_usedUp_22 hs (fun _ hs => ?_) (fun _ hs => ?_)
    · refine mv_aload_n dX9_usedUp_25 rfl ?_
      refine mv_getr dX9_usedUp_26 kf_X9_53 gf_0_8 ?_
      refine mv_iload_n dX9_usedUp_29 rfl ?_
      refine mv_iload_n dX9_usedUp_30 rfl ?_
      refine mv_iload_n dX9_usedUp_31 rfl ?_
      refine mv_cS (st := [.int v3, .ref 46]) dX9_usedUp_32 kk_X9_250 (TX9_isIn G d _ _ _ _ (mv_sat_bind hs)) rfl rfl (Nat.le_of_ble_eq_true rfl) (by omega) rfl ⟨Nat.zero_le _, Nat.zero_le _⟩ (mv_ki fun r775 hs => ?_)
      refine mv_if_eq dX9_usedUp_35 hs (fun _ hs => ?_) (fun _ hs => ?_)
      · refine mv_iconst 0 dX9_usedUp_46 (by decide) ?_
        exact (BX9_usedUp_0_b47 G d D (by omega) P _ ih _ _ _ _ _ _ hs)
      · refine mv_aload_n dX9_usedUp_38 rfl ?_
        refine mv_iload_n dX9_usedUp_39 rfl ?_
        refine mv_cV (st := [.int v3, .ref 46]) dX9_usedUp_40 kk_X9_179 (TX9_sheetsDoingFor_0 G d _ _ _ (mv_sat_bind hs)) so_0 vc_9 rfl rfl (Nat.le_of_ble_eq_true rfl) (by omega) rfl ⟨Nat.zero_le _, Nat.zero_le _⟩ (mv_kI2 fun r779 hs => ?_)
        refine mv_goto dX9_usedUp_43 ?_
        exact (BX9_usedUp_0_b47 G d D (by omega) P _ ih _ _ _ _ _ _ hs)
    · refine mv_aload_n dX9_usedUp_56 rfl ?_
      refine mv_getr dX9_usedUp_57 kf_X9_53 gf_0_8 ?_
      refine mv_iload_n dX9_usedUp_60 rfl ?_
      refine mv_aload_n dX9_usedUp_61 rfl ?_
      refine mv_getr dX9_usedUp_62 kf_X9_10 gf_0_0 ?_
      refine mv_getr dX9_usedUp_65 kf_X9_83 gf_1_2 ?_
      refine mv_cV (st := []) dX9_usedUp_68 kk_X9_256 (TX3_search_46_6 G d _ _ _ (mv_sat_bind hs)) so_46 vc_3 rfl rfl (Nat.le_of_ble_eq_true rfl) (by omega) rfl ⟨Nat.zero_le _, Nat.zero_le _⟩ (mv_kv fun r798 hs => ?_)
      refine mv_iload_n dX9_usedUp_71 rfl ?_
      refine mv_iconst (-1) dX9_usedUp_72 (by decide) ?_
      refine mv_icmp_ne dX9_usedUp_73 hs (fun _ hs => ?_) (fun _ hs => ?_)
      · refine mv_aload_n dX9_usedUp_76 rfl ?_
        refine mv_getr dX9_usedUp_77 kf_X9_53 gf_0_8 ?_
        refine mv_cV (st := []) dX9_usedUp_80 kk_X9_260 (TX3_wrapped_46 G d _ _ (mv_sat_bind hs)) so_46 vc_3 rfl rfl (Nat.le_of_ble_eq_true rfl) (by omega) rfl ⟨Nat.zero_le _, Nat.zero_le _⟩ (mv_ki fun r799 hs => ?_)
        refine mv_goto dX9_usedUp_83 ?_
        exact mv_iret dX9_usedUp_94 rfl ⟨(r799, r798), rfl, rfl, rfl, mv_sat_some hs⟩
      · refine mv_aload_n dX9_usedUp_86 rfl ?_
        refine mv_getr dX9_usedUp_87 kf_X9_53 gf_0_8 ?_
        refine mv_iload_n dX9_usedUp_90 rfl ?_
        refine mv_cV (st := []) dX9_usedUp_91 kk_X9_263 (TX3_boxAt_46 G d _ _ _ (mv_sat_bind hs)) so_46 vc_3 rfl rfl (Nat.le_of_ble_eq_true rfl) (by omega) rfl ⟨Nat.zero_le _, Nat.zero_le _⟩ (mv_ki fun r801 hs => ?_)
        exact mv_iret dX9_usedUp_94 rfl ⟨(r801, r798), rfl, rfl, rfl, mv_sat_some hs⟩
noncomputable def fX9_usedUp_0 (p0 : Int32) (p1 : Int32) (h : mv_H) : Option (Int32 × mv_H) := (fX7_holdsAll_2 p0 h).bind fun r774 => if r774 = 0 then some ((-2), h) else fX9_usedUp_0_b19 mv_F p0 p1 0 h
set_option maxRecDepth 100000 in
set_option maxHeartbeats 4000000 in
theorem TX9_usedUp_0 (G : mv_G) (d : Nat) (P : Int32 × mv_H → Prop) (p0 : Int32) (p1 : Int32) (h : mv_H) (hs : mv_sat (fX9_usedUp_0 p0 p1 h) P) : mv_met G (d + 36) mX9_usedUp [.ref 0, .int p0, .int p1] mv_SH h (mv_qI mv_SH P) := by
  unfold fX9_usedUp_0 at hs
  obtain ⟨D, hDe⟩ : ∃ D, D = d + 36 := ⟨_, rfl⟩
  rw [← hDe]
  have hD : d + 36 ≤ D := by omega
  refine mv_enter (lv := [.ref 0, .int p0, .int p1, .float 0]) 1 (by decide) (by decide +kernel) rfl (Nat.le_of_ble_eq_true rfl) ?_
  refine mv_aload_n dX9_usedUp_0 rfl ?_
  refine mv_getr dX9_usedUp_1 kf_X9_10 gf_0_0 ?_
  refine mv_getr dX9_usedUp_4 kf_X9_64 gf_1_0 ?_
  refine mv_iload_n dX9_usedUp_7 rfl ?_
  refine mv_cV (st := []) dX9_usedUp_8 kk_X9_232 (TX7_holdsAll_2 G d _ _ _ (mv_sat_bind hs)) so_2 vc_7 rfl rfl (Nat.le_of_ble_eq_true rfl) (by omega) rfl ⟨Nat.zero_le _, Nat.zero_le _⟩ (mv_ki fun r774 hs => ?_)
  refine mv_if_ne dX9_usedUp_11 hs (fun _ hs => ?_) (fun _ hs => ?_)
  · refine mv_bipush (-2) dX9_usedUp_14 (by decide) ?_
    exact mv_iret dX9_usedUp_16 rfl ⟨((-2), h), rfl, rfl, rfl, mv_sat_some hs⟩
  · refine mv_iconst 0 dX9_usedUp_17 (by decide) ?_
    refine mv_istore_n (lv' := [.ref 0, .int p0, .int p1, .int 0]) dX9_usedUp_18 (Nat.le_of_ble_eq_true rfl) rfl rfl ?_
    exact (BX9_usedUp_0_b19 G d D (by omega) P _ _ _ _ _ hs)
noncomputable def fX10_layMembers_55_b42 (k7 : Int32 → Int32 → mv_H → Option (mv_H)) (v1 : Int32) (v2 : Int32) (h : mv_H) : Option (mv_H) := k7 v1 (v2 + 1) h
set_option maxRecDepth 100000 in
set_option maxHeartbeats 4000000 in
theorem BX10_layMembers_55_b42 (G : mv_G) (d D : Nat) (hD : d + 0 ≤ D) (P : mv_H → Prop) (k7 : Int32 → Int32 → mv_H → Option (mv_H)) (hk7 : ∀ (v1 : Int32) (v2 : Int32) (h : mv_H), mv_sat (k7 v1 v2 h) P → mv_MW G mX10_layMembers (mv_rm D mX10_layMembers) (mv_Zf G mX10_layMembers (mv_qv mv_SH P)) 0 0 7 [.ref 55, .int v1, .int v2] [] mv_SH h) (v1 : Int32) (v2 : Int32) (h : mv_H) (hs : mv_sat (fX10_layMembers_55_b42 k7 v1 v2 h) P) : mv_MW G mX10_layMembers (mv_rm D mX10_layMembers) (mv_Zf G mX10_layMembers (mv_qv mv_SH P)) 0 0 42 [.ref 55, .int v1, .int v2] [] mv_SH h := by
  unfold fX10_layMembers_55_b42 at hs
  refine mv_iinc (lv' := [.ref 55, .int v1, .int (v2 + 1)]) 1 dX10_layMembers_42 rfl (by decide) (Nat.le_of_ble_eq_true rfl) rfl rfl ?_
  refine mv_goto dX10_layMembers_45 ?_
  exact (hk7 _ _ _ hs)
noncomputable def fX10_layMembers_55_b7 : Nat → Int32 → Int32 → mv_H → Option (mv_H)
  | 0, _, _, _ => none
  | n + 1, v1, v2, h => if v2 < 6 then (if ((v1 >>> (v2 &&& 31)) &&& 1) = 1 then (if mv_in (h 55 37) 6 then mv_let (mv_u h 76 (h 55 37).toNatClampNeg v2) fun h805 : mv_H => (mv_let (mv_u h805 55 37 ((h805 55 37) + 1)) fun h806 : mv_H => fX10_layMembers_55_b42 (fX10_layMembers_55_b7 n) v1 v2 h806) else none) else fX10_layMembers_55_b42 (fX10_layMembers_55_b7 n) v1 v2 h) else some h
set_option maxRecDepth 100000 in
set_option maxHeartbeats 4000000 in
theorem BX10_layMembers_55_b7 (G : mv_G) (d D : Nat) (hD : d + 0 ≤ D) (P : mv_H → Prop) : ∀ (n : Nat) (v1 : Int32) (v2 : Int32) (h : mv_H), mv_sat (fX10_layMembers_55_b7 n v1 v2 h) P → mv_MW G mX10_layMembers (mv_rm D mX10_layMembers) (mv_Zf G mX10_layMembers (mv_qv mv_SH P)) 0 0 7 [.ref 55, .int v1, .int v2] [] mv_SH h := by
  intro n
  induction n with
  | zero =>
    intro v1 v2 h hs
    unfold fX10_layMembers_55_b7 at hs
    exact (mv_sat_none hs).elim
  | succ n ih =>
    intro v1 v2 h hs
    unfold fX10_layMembers_55_b7 at hs
    refine mv_iload_n dX10_layMembers_7 rfl ?_
    refine mv_bipush 6 dX10_layMembers_8 (by decide) ?_
    refine mv_icmp_ge dX10_layMembers_10 hs (fun _ hs => ?_) (fun _ hs => ?_)
    · refine mv_iload_n dX10_layMembers_13 rfl ?_
      refine mv_iload_n dX10_layMembers_14 rfl ?_
      refine mv_ishr dX10_layMembers_15 ?_
      refine mv_iconst 1 dX10_layMembers_16 (by decide) ?_
      refine mv_iand dX10_layMembers_17 ?_
      refine mv_iconst 1 dX10_layMembers_18 (by decide) ?_
      refine mv_icmp_ne dX10_layMembers_19 hs (fun _ hs => ?_) (fun _ hs => ?_)
      · refine mv_aload_n dX10_layMembers_22 rfl ?_
        refine mv_getr dX10_layMembers_23 kf_X10_70 gf_55_36 ?_
        refine mv_aload_n dX10_layMembers_26 rfl ?_
        refine mv_geti dX10_layMembers_27 kf_X10_295 gf_55_37 ?_
        refine mv_iload_n dX10_layMembers_30 rfl ?_
        refine mv_iastore dX10_layMembers_31 so_76 hs (fun hs => ?_)
        refine mv_nameH hs (fun h805 hs => ?_)
        refine mv_aload_n dX10_layMembers_32 rfl ?_
        refine mv_dup dX10_layMembers_33 rfl ?_
        refine mv_geti dX10_layMembers_34 kf_X10_295 gf_55_37 ?_
        refine mv_iconst 1 dX10_layMembers_37 (by decide) ?_
        refine mv_iadd dX10_layMembers_38 ?_
        refine mv_puti dX10_layMembers_39 kf_X10_295 (fun q => by cases q) gf_55_37 ?_
        refine mv_nameH hs (fun h806 hs => ?_)
        exact (BX10_layMembers_55_b42 G d D (by omega) P _ ih _ _ _ hs)
      · exact (BX10_layMembers_55_b42 G d D (by omega) P _ ih _ _ _ hs)
    · exact mv_vret dX10_layMembers_48 rfl ⟨_, rfl, rfl, rfl, mv_sat_some hs⟩
noncomputable def fX10_layMembers_55 (p0 : Int32) (h : mv_H) : Option (mv_H) := mv_let (mv_u h 55 37 0) fun h804 : mv_H => fX10_layMembers_55_b7 mv_F p0 0 h804
set_option maxRecDepth 100000 in
set_option maxHeartbeats 4000000 in
theorem TX10_layMembers_55 (G : mv_G) (d : Nat) (P : mv_H → Prop) (p0 : Int32) (h : mv_H) (hs : mv_sat (fX10_layMembers_55 p0 h) P) : mv_met G (d + 0) mX10_layMembers [.ref 55, .int p0] mv_SH h (mv_qv mv_SH P) := by
  unfold fX10_layMembers_55 at hs
  obtain ⟨D, hDe⟩ : ∃ D, D = d + 0 := ⟨_, rfl⟩
  rw [← hDe]
  have hD : d + 0 ≤ D := by omega
  refine mv_enter (lv := [.ref 55, .int p0, .float 0]) 1 (by decide) (by decide +kernel) rfl (Nat.le_of_ble_eq_true rfl) ?_
  refine mv_aload_n dX10_layMembers_0 rfl ?_
  refine mv_iconst 0 dX10_layMembers_1 (by decide) ?_
  refine mv_puti dX10_layMembers_2 kf_X10_295 (fun q => by cases q) gf_55_37 ?_
  refine mv_nameH hs (fun h804 hs => ?_)
  refine mv_iconst 0 dX10_layMembers_5 (by decide) ?_
  refine mv_istore_n (lv' := [.ref 55, .int p0, .int 0]) dX10_layMembers_6 (Nat.le_of_ble_eq_true rfl) rfl rfl ?_
  exact (BX10_layMembers_55_b7 G d D (by omega) P _ _ _ _ hs)
noncomputable def fX10_layRow_55_b12 : Nat → Int32 → Int32 → Int32 → mv_H → Option (Int32 × mv_H)
  | 0, _, _, _, _ => none
  | n + 1, v2, v3, v4, h => if v4 < 0 then (if v3 = ((1 <<< ((h 55 37) &&& 31)) - 1) then some (1, h) else some (0, h)) else if ¬ (h 55 37) = 0 then if mv_in v4 6 then mv_let (mv_u h 77 v4.toNatClampNeg (v2 - v2 / (h 55 37) * (h 55 37))) fun h810 : mv_H => (if mv_in v4 6 then (mv_let (v3 ||| (1 <<< ((h810 77 v4.toNatClampNeg) &&& 31))) fun x811 : Int32 => if ¬ (h810 55 37) = 0 then mv_let (v2 / (h810 55 37)) fun x812 : Int32 => (fX10_layRow_55_b12 n) x812 x811 (v4 + (-1)) h810 else none) else none) else none else none
set_option maxRecDepth 100000 in
set_option maxHeartbeats 4000000 in
theorem BX10_layRow_55_b12 (G : mv_G) (d D : Nat) (hD : d + 0 ≤ D) (P : Int32 × mv_H → Prop) : ∀ (n : Nat) (v2 : Int32) (v3 : Int32) (v4 : Int32) (h : mv_H), mv_sat (fX10_layRow_55_b12 n v2 v3 v4 h) P → mv_MW G mX10_layRow (mv_rm D mX10_layRow) (mv_Zf G mX10_layRow (mv_qI mv_SH P)) 0 0 12 [.ref 55, .float 0, .int v2, .int v3, .int v4] [] mv_SH h := by
  intro n
  induction n with
  | zero =>
    intro v2 v3 v4 h hs
    unfold fX10_layRow_55_b12 at hs
    exact (mv_sat_none hs).elim
  | succ n ih =>
    intro v2 v3 v4 h hs
    unfold fX10_layRow_55_b12 at hs
    refine mv_iload dX10_layRow_12 rfl ?_
    refine mv_if_lt dX10_layRow_14 hs (fun _ hs => ?_) (fun _ hs => ?_)
    · refine mv_iload_n dX10_layRow_55 rfl ?_
      refine mv_iconst 1 dX10_layRow_56 (by decide) ?_
      refine mv_aload_n dX10_layRow_57 rfl ?_
      refine mv_geti dX10_layRow_58 kf_X10_295 gf_55_37 ?_
      refine mv_ishl dX10_layRow_61 ?_
      refine mv_iconst 1 dX10_layRow_62 (by decide) ?_
      refine mv_isub dX10_layRow_63 ?_
      refine mv_icmp_ne dX10_layRow_64 hs (fun _ hs => ?_) (fun _ hs => ?_)
      · refine mv_iconst 1 dX10_layRow_67 (by decide) ?_
        refine mv_goto dX10_layRow_68 ?_
        exact mv_zret dX10_layRow_72 rfl (Or.inr rfl) ⟨(1, h), rfl, rfl, rfl, mv_sat_some hs⟩
      · refine mv_iconst 0 dX10_layRow_71 (by decide) ?_
        exact mv_zret dX10_layRow_72 rfl (Or.inl rfl) ⟨(0, h), rfl, rfl, rfl, mv_sat_some hs⟩
    · refine mv_aload_n dX10_layRow_17 rfl ?_
      refine mv_getr dX10_layRow_18 kf_X10_73 gf_55_38 ?_
      refine mv_iload dX10_layRow_21 rfl ?_
      refine mv_iload_n dX10_layRow_23 rfl ?_
      refine mv_aload_n dX10_layRow_24 rfl ?_
      refine mv_geti dX10_layRow_25 kf_X10_295 gf_55_37 ?_
      refine mv_irem dX10_layRow_28 hs (fun hs => ?_)
      refine mv_iastore dX10_layRow_29 so_77 hs (fun hs => ?_)
      refine mv_nameH hs (fun h810 hs => ?_)
      refine mv_iload_n dX10_layRow_30 rfl ?_
      refine mv_iconst 1 dX10_layRow_31 (by decide) ?_
      refine mv_aload_n dX10_layRow_32 rfl ?_
      refine mv_getr dX10_layRow_33 kf_X10_73 gf_55_38 ?_
      refine mv_iload dX10_layRow_36 rfl ?_
      refine mv_iaload dX10_layRow_38 so_77 hs (fun hs => ?_)
      refine mv_ishl dX10_layRow_39 ?_
      refine mv_ior dX10_layRow_40 ?_
      refine mv_name hs (fun x811 hs => ?_)
      refine mv_istore_n (lv' := [.ref 55, .float 0, .int v2, .int x811, .int v4]) dX10_layRow_41 (Nat.le_of_ble_eq_true rfl) rfl rfl ?_
      refine mv_iload_n dX10_layRow_42 rfl ?_
      refine mv_aload_n dX10_layRow_43 rfl ?_
      refine mv_geti dX10_layRow_44 kf_X10_295 gf_55_37 ?_
      refine mv_idiv dX10_layRow_47 hs (fun hs => ?_)
      refine mv_name hs (fun x812 hs => ?_)
      refine mv_istore_n (lv' := [.ref 55, .float 0, .int x812, .int x811, .int v4]) dX10_layRow_48 (Nat.le_of_ble_eq_true rfl) rfl rfl ?_
      refine mv_iinc (lv' := [.ref 55, .float 0, .int x812, .int x811, .int (v4 + (-1))]) (-1) dX10_layRow_49 rfl (by decide) (Nat.le_of_ble_eq_true rfl) rfl rfl ?_
      refine mv_goto dX10_layRow_52 ?_
      exact (ih _ _ _ _ hs)
noncomputable def fX10_layRow_55 (p0 : Int32) (h : mv_H) : Option (Int32 × mv_H) := mv_let ((h 55 37) - 1) fun x809 : Int32 => fX10_layRow_55_b12 mv_F p0 0 x809 h
set_option maxRecDepth 100000 in
set_option maxHeartbeats 4000000 in
theorem TX10_layRow_55 (G : mv_G) (d : Nat) (P : Int32 × mv_H → Prop) (p0 : Int32) (h : mv_H) (hs : mv_sat (fX10_layRow_55 p0 h) P) : mv_met G (d + 0) mX10_layRow [.ref 55, .int p0] mv_SH h (mv_qI mv_SH P) := by
  unfold fX10_layRow_55 at hs
  obtain ⟨D, hDe⟩ : ∃ D, D = d + 0 := ⟨_, rfl⟩
  rw [← hDe]
  have hD : d + 0 ≤ D := by omega
  refine mv_enter (lv := [.ref 55, .int p0, .float 0, .float 0, .float 0]) 3 (by decide) (by decide +kernel) rfl (Nat.le_of_ble_eq_true rfl) ?_
  refine mv_iload_n dX10_layRow_0 rfl ?_
  refine mv_istore_n (lv' := [.ref 55, .int p0, .int p0, .float 0, .float 0]) dX10_layRow_1 (Nat.le_of_ble_eq_true rfl) rfl rfl ?_
  refine mv_iconst 0 dX10_layRow_2 (by decide) ?_
  refine mv_istore_n (lv' := [.ref 55, .int p0, .int p0, .int 0, .float 0]) dX10_layRow_3 (Nat.le_of_ble_eq_true rfl) rfl rfl ?_
  refine mv_aload_n dX10_layRow_4 rfl ?_
  refine mv_geti dX10_layRow_5 kf_X10_295 gf_55_37 ?_
  refine mv_iconst 1 dX10_layRow_8 (by decide) ?_
  refine mv_isub dX10_layRow_9 ?_
  refine mv_name hs (fun x809 hs => ?_)
  refine mv_istore (lv' := [.ref 55, .int p0, .int p0, .int 0, .int x809]) dX10_layRow_10 (Nat.le_of_ble_eq_true rfl) rfl rfl ?_
  exact mv_weak (lv' := [.ref 55, .float 0, .int p0, .int 0, .int x809]) (mv_s (mv_k (mv_s (mv_s (mv_s mv_n))))) (BX10_layRow_55_b12 G d D (by omega) P _ _ _ _ _ hs)
noncomputable def fX10_usedUp_55_b117 (k49 : Int32 → Int32 → Int32 → Int32 → mv_H → Option (Int32 × mv_H)) (v2 : Int32) (v3 : Int32) (v4 : Int32) (v5 : Int32) (h : mv_H) : Option (Int32 × mv_H) := k49 v2 v3 v4 (v5 + 1) h
set_option maxRecDepth 100000 in
set_option maxHeartbeats 4000000 in
theorem BX10_usedUp_55_b117 (G : mv_G) (d D : Nat) (hD : d + 0 ≤ D) (P : Int32 × mv_H → Prop) (k49 : Int32 → Int32 → Int32 → Int32 → mv_H → Option (Int32 × mv_H)) (hk49 : ∀ (v2 : Int32) (v3 : Int32) (v4 : Int32) (v5 : Int32) (h : mv_H), mv_sat (k49 v2 v3 v4 v5 h) P → mv_MW G mX10_usedUp (mv_rm D mX10_usedUp) (mv_Zf G mX10_usedUp (mv_qI mv_SH P)) 0 0 49 [.ref 55, .float 0, .int v2, .int v3, .int v4, .int v5, .float 0, .float 0] [] mv_SH h) (v2 : Int32) (v3 : Int32) (v4 : Int32) (v5 : Int32) (h : mv_H) (hs : mv_sat (fX10_usedUp_55_b117 k49 v2 v3 v4 v5 h) P) : mv_MW G mX10_usedUp (mv_rm D mX10_usedUp) (mv_Zf G mX10_usedUp (mv_qI mv_SH P)) 0 0 117 [.ref 55, .float 0, .int v2, .int v3, .int v4, .int v5, .float 0, .float 0] [] mv_SH h := by
  unfold fX10_usedUp_55_b117 at hs
  refine mv_iinc (lv' := [.ref 55, .float 0, .int v2, .int v3, .int v4, .int (v5 + 1), .float 0, .float 0]) 1 dX10_usedUp_117 rfl (by decide) (Nat.le_of_ble_eq_true rfl) rfl rfl ?_
  refine mv_goto dX10_usedUp_120 ?_
  exact (hk49 _ _ _ _ _ hs)
noncomputable def fX10_usedUp_55_b88 (k49 : Int32 → Int32 → Int32 → Int32 → mv_H → Option (Int32 × mv_H)) : Nat → Int32 → Int32 → Int32 → Int32 → Int32 → mv_H → Option (Int32 × mv_H)
  | 0, _, _, _, _, _, _ => none
  | n + 1, v2, v3, v4, v5, v7, h => if v7 < (h 55 37) then (if mv_in v7 6 then (if mv_in v7 6 then mv_let (mv_u h 78 v7.toNatClampNeg (h 77 v7.toNatClampNeg)) fun h814 : mv_H => ((fX10_usedUp_55_b88 k49 n) v2 v3 v4 v5 (v7 + 1) h814) else none) else none) else fX10_usedUp_55_b117 k49 v2 v3 v4 v5 h
set_option maxRecDepth 100000 in
set_option maxHeartbeats 4000000 in
theorem BX10_usedUp_55_b88 (G : mv_G) (d D : Nat) (hD : d + 0 ≤ D) (P : Int32 × mv_H → Prop) (k49 : Int32 → Int32 → Int32 → Int32 → mv_H → Option (Int32 × mv_H)) (hk49 : ∀ (v2 : Int32) (v3 : Int32) (v4 : Int32) (v5 : Int32) (h : mv_H), mv_sat (k49 v2 v3 v4 v5 h) P → mv_MW G mX10_usedUp (mv_rm D mX10_usedUp) (mv_Zf G mX10_usedUp (mv_qI mv_SH P)) 0 0 49 [.ref 55, .float 0, .int v2, .int v3, .int v4, .int v5, .float 0, .float 0] [] mv_SH h) : ∀ (n : Nat) (v2 : Int32) (v3 : Int32) (v4 : Int32) (v5 : Int32) (v7 : Int32) (h : mv_H), mv_sat (fX10_usedUp_55_b88 k49 n v2 v3 v4 v5 v7 h) P → mv_MW G mX10_usedUp (mv_rm D mX10_usedUp) (mv_Zf G mX10_usedUp (mv_qI mv_SH P)) 0 0 88 [.ref 55, .float 0, .int v2, .int v3, .int v4, .int v5, .float 0, .int v7] [] mv_SH h := by
  intro n
  induction n with
  | zero =>
    intro v2 v3 v4 v5 v7 h hs
    unfold fX10_usedUp_55_b88 at hs
    exact (mv_sat_none hs).elim
  | succ n ih =>
    intro v2 v3 v4 v5 v7 h hs
    unfold fX10_usedUp_55_b88 at hs
    refine mv_iload dX10_usedUp_88 rfl ?_
    refine mv_aload_n dX10_usedUp_90 rfl ?_
    refine mv_geti dX10_usedUp_91 kf_X10_295 gf_55_37 ?_
    refine mv_icmp_ge dX10_usedUp_94 hs (fun _ hs => ?_) (fun _ hs => ?_)
    · refine mv_aload_n dX10_usedUp_97 rfl ?_
      refine mv_getr dX10_usedUp_98 kf_X10_76 gf_55_39 ?_
      refine mv_iload dX10_usedUp_101 rfl ?_
      refine mv_aload_n dX10_usedUp_103 rfl ?_
      refine mv_getr dX10_usedUp_104 kf_X10_73 gf_55_38 ?_
      refine mv_iload dX10_usedUp_107 rfl ?_
      refine mv_iaload dX10_usedUp_109 so_77 hs (fun hs => ?_)
      refine mv_iastore dX10_usedUp_110 so_78 hs (fun hs => ?_)
      refine mv_nameH hs (fun h814 hs => ?_)
      refine mv_iinc (lv' := [.ref 55, .float 0, .int v2, .int v3, .int v4, .int v5, .float 0, .int (v7 + 1)]) 1 dX10_usedUp_111 rfl (by decide) (Nat.le_of_ble_eq_true rfl) rfl rfl ?_
      refine mv_goto dX10_usedUp_114 ?_
      exact (ih _ _ _ _ _ _ hs)
    · exact mv_weak (lv' := [.ref 55, .float 0, .int v2, .int v3, .int v4, .int v5, .float 0, .float 0]) (mv_s (mv_s (mv_s (mv_s (mv_s (mv_s (mv_s (mv_k mv_n)))))))) (BX10_usedUp_55_b117 G d D (by omega) P _ hk49 _ _ _ _ _ hs)
noncomputable def fX10_usedUp_55_b72 (k49 : Int32 → Int32 → Int32 → Int32 → mv_H → Option (Int32 × mv_H)) (v2 : Int32) (v3 : Int32) (v4 : Int32) (v5 : Int32) (s0 : Int32) (h : mv_H) : Option (Int32 × mv_H) := if v4 < s0 then fX10_usedUp_55_b88 k49 mv_F v2 v3 s0 v5 0 h else fX10_usedUp_55_b117 k49 v2 v3 v4 v5 h
set_option maxRecDepth 100000 in
set_option maxHeartbeats 4000000 in
theorem BX10_usedUp_55_b72 (G : mv_G) (d D : Nat) (hD : d + 0 ≤ D) (P : Int32 × mv_H → Prop) (k49 : Int32 → Int32 → Int32 → Int32 → mv_H → Option (Int32 × mv_H)) (hk49 : ∀ (v2 : Int32) (v3 : Int32) (v4 : Int32) (v5 : Int32) (h : mv_H), mv_sat (k49 v2 v3 v4 v5 h) P → mv_MW G mX10_usedUp (mv_rm D mX10_usedUp) (mv_Zf G mX10_usedUp (mv_qI mv_SH P)) 0 0 49 [.ref 55, .float 0, .int v2, .int v3, .int v4, .int v5, .float 0, .float 0] [] mv_SH h) (v2 : Int32) (v3 : Int32) (v4 : Int32) (v5 : Int32) (s0 : Int32) (h : mv_H) (hs : mv_sat (fX10_usedUp_55_b72 k49 v2 v3 v4 v5 s0 h) P) : mv_MW G mX10_usedUp (mv_rm D mX10_usedUp) (mv_Zf G mX10_usedUp (mv_qI mv_SH P)) 0 0 72 [.ref 55, .float 0, .int v2, .int v3, .int v4, .int v5, .float 0, .float 0] [.int s0] mv_SH h := by
  unfold fX10_usedUp_55_b72 at hs
  refine mv_istore (lv' := [.ref 55, .float 0, .int v2, .int v3, .int v4, .int v5, .int s0, .float 0]) dX10_usedUp_72 (Nat.le_of_ble_eq_true rfl) rfl rfl ?_
  refine mv_iload dX10_usedUp_74 rfl ?_
  refine mv_iload dX10_usedUp_76 rfl ?_
  refine mv_icmp_le dX10_usedUp_78 hs (fun _ hs => ?_) (fun _ hs => ?_)
  · refine mv_iload dX10_usedUp_81 rfl ?_
    refine mv_istore (lv' := [.ref 55, .float 0, .int v2, .int v3, .int s0, .int v5, .int s0, .float 0]) dX10_usedUp_83 (Nat.le_of_ble_eq_true rfl) rfl rfl ?_
    refine mv_iconst 0 dX10_usedUp_85 (by decide) ?_
    refine mv_istore (lv' := [.ref 55, .float 0, .int v2, .int v3, .int s0, .int v5, .int s0, .int 0]) dX10_usedUp_86 (Nat.le_of_ble_eq_true rfl) rfl rfl ?_
    exact mv_weak (lv' := [.ref 55, .float 0, .int v2, .int v3, .int s0, .int v5, .float 0, .int 0]) (mv_s (mv_s (mv_s (mv_s (mv_s (mv_s (mv_k (mv_s mv_n)))))))) (BX10_usedUp_55_b88 G d D (by omega) P _ hk49 _ _ _ _ _ _ _ hs)
  · exact mv_weak (lv' := [.ref 55, .float 0, .int v2, .int v3, .int v4, .int v5, .float 0, .float 0]) (mv_s (mv_s (mv_s (mv_s (mv_s (mv_s (mv_k (mv_s mv_n)))))))) (BX10_usedUp_55_b117 G d D (by omega) P _ hk49 _ _ _ _ _ hs)
noncomputable def fX10_wrappedByRow_55_b68 (k9 : Int32 → Int32 → Int32 → mv_H → Option (Int32 × mv_H)) (v1 : Int32) (v3 : Int32) (s0 : Int32) (s1 : Int32) (h : mv_H) : Option (Int32 × mv_H) := mv_let (s1 + s0) fun x819 : Int32 => k9 v1 x819 (v3 + 1) h
set_option maxRecDepth 100000 in
set_option maxHeartbeats 4000000 in
theorem BX10_wrappedByRow_55_b68 (G : mv_G) (d D : Nat) (hD : d + 0 ≤ D) (P : Int32 × mv_H → Prop) (k9 : Int32 → Int32 → Int32 → mv_H → Option (Int32 × mv_H)) (hk9 : ∀ (v1 : Int32) (v2 : Int32) (v3 : Int32) (h : mv_H), mv_sat (k9 v1 v2 v3 h) P → mv_MW G mX10_wrappedByRow (mv_rm D mX10_wrappedByRow) (mv_Zf G mX10_wrappedByRow (mv_qI mv_SH P)) 0 0 9 [.ref 55, .int v1, .int v2, .int v3, .float 0] [] mv_SH h) (v1 : Int32) (v3 : Int32) (s0 : Int32) (s1 : Int32) (h : mv_H) (hs : mv_sat (fX10_wrappedByRow_55_b68 k9 v1 v3 s0 s1 h) P) : mv_MW G mX10_wrappedByRow (mv_rm D mX10_wrappedByRow) (mv_Zf G mX10_wrappedByRow (mv_qI mv_SH P)) 0 0 68 [.ref 55, .int v1, .float 0, .int v3, .float 0] [.int s0, .int s1] mv_SH h := by
  unfold fX10_wrappedByRow_55_b68 at hs
  refine mv_iadd dX10_wrappedByRow_68 ?_
  refine mv_name hs (fun x819 hs => ?_)
  refine mv_istore_n (lv' := [.ref 55, .int v1, .int x819, .int v3, .float 0]) dX10_wrappedByRow_69 (Nat.le_of_ble_eq_true rfl) rfl rfl ?_
  refine mv_iinc (lv' := [.ref 55, .int v1, .int x819, .int (v3 + 1), .float 0]) 1 dX10_wrappedByRow_70 rfl (by decide) (Nat.le_of_ble_eq_true rfl) rfl rfl ?_
  refine mv_goto dX10_wrappedByRow_73 ?_
  exact (hk9 _ _ _ _ hs)
noncomputable def fX10_wrappedByRow_55_b55 (k9 : Int32 → Int32 → Int32 → mv_H → Option (Int32 × mv_H)) (v2 : Int32) (v3 : Int32) (v4 : Int32) (s0 : Int32) (s1 : Int32) (h : mv_H) : Option (Int32 × mv_H) := mv_let (s1 &&& s0) fun x818 : Int32 => if v4 < 0 then fX10_wrappedByRow_55_b68 k9 x818 v3 0 v2 h else fX10_wrappedByRow_55_b68 k9 x818 v3 1 v2 h
set_option maxRecDepth 100000 in
set_option maxHeartbeats 4000000 in
theorem BX10_wrappedByRow_55_b55 (G : mv_G) (d D : Nat) (hD : d + 0 ≤ D) (P : Int32 × mv_H → Prop) (k9 : Int32 → Int32 → Int32 → mv_H → Option (Int32 × mv_H)) (hk9 : ∀ (v1 : Int32) (v2 : Int32) (v3 : Int32) (h : mv_H), mv_sat (k9 v1 v2 v3 h) P → mv_MW G mX10_wrappedByRow (mv_rm D mX10_wrappedByRow) (mv_Zf G mX10_wrappedByRow (mv_qI mv_SH P)) 0 0 9 [.ref 55, .int v1, .int v2, .int v3, .float 0] [] mv_SH h) (v2 : Int32) (v3 : Int32) (v4 : Int32) (s0 : Int32) (s1 : Int32) (h : mv_H) (hs : mv_sat (fX10_wrappedByRow_55_b55 k9 v2 v3 v4 s0 s1 h) P) : mv_MW G mX10_wrappedByRow (mv_rm D mX10_wrappedByRow) (mv_Zf G mX10_wrappedByRow (mv_qI mv_SH P)) 0 0 55 [.ref 55, .float 0, .int v2, .int v3, .int v4] [.int s0, .int s1] mv_SH h := by
  unfold fX10_wrappedByRow_55_b55 at hs
  refine mv_iand dX10_wrappedByRow_55 ?_
  refine mv_name hs (fun x818 hs => ?_)
  refine mv_istore_n (lv' := [.ref 55, .int x818, .int v2, .int v3, .int v4]) dX10_wrappedByRow_56 (Nat.le_of_ble_eq_true rfl) rfl rfl ?_
  refine mv_iload_n dX10_wrappedByRow_57 rfl ?_
  refine mv_iload dX10_wrappedByRow_58 rfl ?_
  refine mv_if_ge dX10_wrappedByRow_60 hs (fun _ hs => ?_) (fun _ hs => ?_)
  · refine mv_iconst 0 dX10_wrappedByRow_63 (by decide) ?_
    refine mv_goto dX10_wrappedByRow_64 ?_
    exact mv_weak (lv' := [.ref 55, .int x818, .float 0, .int v3, .float 0]) (mv_s (mv_s (mv_k (mv_s (mv_k mv_n))))) (BX10_wrappedByRow_55_b68 G d D (by omega) P _ hk9 _ _ _ _ _ hs)
  · refine mv_iconst 1 dX10_wrappedByRow_67 (by decide) ?_
    exact mv_weak (lv' := [.ref 55, .int x818, .float 0, .int v3, .float 0]) (mv_s (mv_s (mv_k (mv_s (mv_k mv_n))))) (BX10_wrappedByRow_55_b68 G d D (by omega) P _ hk9 _ _ _ _ _ hs)
noncomputable def fX10_wrappedByRow_55_b9 : Nat → Int32 → Int32 → Int32 → mv_H → Option (Int32 × mv_H)
  | 0, _, _, _, _ => none
  | n + 1, v1, v2, v3, h => if v3 < (h 55 37) then (if mv_in v3 6 then (if mv_in (h 77 v3.toNatClampNeg) 6 then ((fX10_look_55 (h 76 (h 77 v3.toNatClampNeg).toNatClampNeg) h).bind fun r816 => (fX10_takenOf_55 v1 r816).bind fun r817 => if r817 < 0 then fX10_wrappedByRow_55_b55 (fX10_wrappedByRow_55_b9 n) v2 v3 r817 (-1) v1 r816 else fX10_wrappedByRow_55_b55 (fX10_wrappedByRow_55_b9 n) v2 v3 r817 ((1 <<< (r817 &&& 31)) ^^^ (-1)) v1 r816) else none) else none) else some (v2, h)
set_option maxRecDepth 100000 in
set_option maxHeartbeats 4000000 in
theorem BX10_wrappedByRow_55_b9 (G : mv_G) (d D : Nat) (hD : d + 3 ≤ D) (P : Int32 × mv_H → Prop) : ∀ (n : Nat) (v1 : Int32) (v2 : Int32) (v3 : Int32) (h : mv_H), mv_sat (fX10_wrappedByRow_55_b9 n v1 v2 v3 h) P → mv_MW G mX10_wrappedByRow (mv_rm D mX10_wrappedByRow) (mv_Zf G mX10_wrappedByRow (mv_qI mv_SH P)) 0 0 9 [.ref 55, .int v1, .int v2, .int v3, .float 0] [] mv_SH h := by
  intro n
  induction n with
  | zero =>
    intro v1 v2 v3 h hs
    unfold fX10_wrappedByRow_55_b9 at hs
    exact (mv_sat_none hs).elim
  | succ n ih =>
    intro v1 v2 v3 h hs
    unfold fX10_wrappedByRow_55_b9 at hs
    refine mv_iload_n dX10_wrappedByRow_9 rfl ?_
    refine mv_aload_n dX10_wrappedByRow_10 rfl ?_
    refine mv_geti dX10_wrappedByRow_11 kf_X10_295 gf_55_37 ?_
    refine mv_icmp_ge dX10_wrappedByRow_14 hs (fun _ hs => ?_) (fun _ hs => ?_)
    · refine mv_aload_n dX10_wrappedByRow_17 rfl ?_
      refine mv_aload_n dX10_wrappedByRow_18 rfl ?_
      refine mv_getr dX10_wrappedByRow_19 kf_X10_70 gf_55_36 ?_
      refine mv_aload_n dX10_wrappedByRow_22 rfl ?_
      refine mv_getr dX10_wrappedByRow_23 kf_X10_73 gf_55_38 ?_
      refine mv_iload_n dX10_wrappedByRow_26 rfl ?_
      refine mv_iaload dX10_wrappedByRow_27 so_77 hs (fun hs => ?_)
      refine mv_iaload dX10_wrappedByRow_28 so_76 hs (fun hs => ?_)
      refine mv_cV (st := []) dX10_wrappedByRow_29 kk_X10_209 (TX10_look_55 G d _ _ _ (mv_sat_bind hs)) so_55 vc_10 rfl rfl (Nat.le_of_ble_eq_true rfl) (by omega) rfl ⟨Nat.zero_le _, Nat.zero_le _⟩ (mv_kv fun r816 hs => ?_)
      refine mv_aload_n dX10_wrappedByRow_32 rfl ?_
      refine mv_iload_n dX10_wrappedByRow_33 rfl ?_
      refine mv_cV (st := []) dX10_wrappedByRow_34 kk_X10_222 (TX10_takenOf_55 G d _ _ _ (mv_sat_bind hs)) so_55 vc_10 rfl rfl (Nat.le_of_ble_eq_true rfl) (by omega) rfl ⟨Nat.zero_le _, Nat.zero_le _⟩ (mv_ki fun r817 hs => ?_)
      refine mv_istore (lv' := [.ref 55, .int v1, .int v2, .int v3, .int r817]) dX10_wrappedByRow_37 (Nat.le_of_ble_eq_true rfl) rfl rfl ?_
      refine mv_iload_n dX10_wrappedByRow_39 rfl ?_
      refine mv_iload dX10_wrappedByRow_40 rfl ?_
      refine mv_if_ge dX10_wrappedByRow_42 hs (fun _ hs => ?_) (fun _ hs => ?_)
      · refine mv_iconst (-1) dX10_wrappedByRow_45 (by decide) ?_
        refine mv_goto dX10_wrappedByRow_46 ?_
        exact mv_weak (lv' := [.ref 55, .float 0, .int v2, .int v3, .int r817]) (mv_s (mv_k (mv_s (mv_s (mv_s mv_n))))) (BX10_wrappedByRow_55_b55 G d D (by omega) P _ ih _ _ _ _ _ _ hs)
      · refine mv_iconst 1 dX10_wrappedByRow_49 (by decide) ?_
        refine mv_iload dX10_wrappedByRow_50 rfl ?_
        refine mv_ishl dX10_wrappedByRow_52 ?_
        refine mv_iconst (-1) dX10_wrappedByRow_53 (by decide) ?_
        refine mv_ixor dX10_wrappedByRow_54 ?_
        exact mv_weak (lv' := [.ref 55, .float 0, .int v2, .int v3, .int r817]) (mv_s (mv_k (mv_s (mv_s (mv_s mv_n))))) (BX10_wrappedByRow_55_b55 G d D (by omega) P _ ih _ _ _ _ _ _ hs)
    · refine mv_iload_n dX10_wrappedByRow_76 rfl ?_
      exact mv_iret dX10_wrappedByRow_77 rfl ⟨(v2, h), rfl, rfl, rfl, mv_sat_some hs⟩
noncomputable def fX10_wrappedByRow_55 (h : mv_H) : Option (Int32 × mv_H) := mv_let (h 55 2) fun x815 : Int32 => fX10_wrappedByRow_55_b9 mv_F x815 0 0 h
set_option maxRecDepth 100000 in
set_option maxHeartbeats 4000000 in
theorem TX10_wrappedByRow_55 (G : mv_G) (d : Nat) (P : Int32 × mv_H → Prop) (h : mv_H) (hs : mv_sat (fX10_wrappedByRow_55 h) P) : mv_met G (d + 3) mX10_wrappedByRow [.ref 55] mv_SH h (mv_qI mv_SH P) := by
  unfold fX10_wrappedByRow_55 at hs
  obtain ⟨D, hDe⟩ : ∃ D, D = d + 3 := ⟨_, rfl⟩
  rw [← hDe]
  have hD : d + 3 ≤ D := by omega
  refine mv_enter (lv := [.ref 55, .float 0, .float 0, .float 0, .float 0]) 4 (by decide) (by decide +kernel) rfl (Nat.le_of_ble_eq_true rfl) ?_
  refine mv_aload_n dX10_wrappedByRow_0 rfl ?_
  refine mv_geti dX10_wrappedByRow_1 kf_X10_118 gf_55_2 ?_
  refine mv_name hs (fun x815 hs => ?_)
  refine mv_istore_n (lv' := [.ref 55, .int x815, .float 0, .float 0, .float 0]) dX10_wrappedByRow_4 (Nat.le_of_ble_eq_true rfl) rfl rfl ?_
  refine mv_iconst 0 dX10_wrappedByRow_5 (by decide) ?_
  refine mv_istore_n (lv' := [.ref 55, .int x815, .int 0, .float 0, .float 0]) dX10_wrappedByRow_6 (Nat.le_of_ble_eq_true rfl) rfl rfl ?_
  refine mv_iconst 0 dX10_wrappedByRow_7 (by decide) ?_
  refine mv_istore_n (lv' := [.ref 55, .int x815, .int 0, .int 0, .float 0]) dX10_wrappedByRow_8 (Nat.le_of_ble_eq_true rfl) rfl rfl ?_
  exact (BX10_wrappedByRow_55_b9 G d D (by omega) P _ _ _ _ _ hs)
noncomputable def fX10_usedUp_55_b49 : Nat → Int32 → Int32 → Int32 → Int32 → mv_H → Option (Int32 × mv_H)
  | 0, _, _, _, _, _ => none
  | n + 1, v2, v3, v4, v5, h => if v5 < v3 then ((fX10_layRow_55 v5 h).bind fun r813 => if r813.1 = 0 then fX10_usedUp_55_b72 (fX10_usedUp_55_b49 n) v2 v3 v4 v5 (-1) r813.2 else (fX10_wrappedByRow_55 r813.2).bind fun r820 => fX10_usedUp_55_b72 (fX10_usedUp_55_b49 n) v2 v3 v4 v5 r820.1 r820.2) else if v2 = (-1) then some (v4, h) else (fX10_in (Int32.toInt64 v2) (0 : Int64) (Int32.toInt64 ((h 55 37) - 1))).bind fun r821 => if r821 = 0 then some ((-6), h) else if mv_in v2 6 then (if mv_in (h 78 v2.toNatClampNeg) 6 then (some (h 76 (h 78 v2.toNatClampNeg).toNatClampNeg, h)) else none) else none
set_option maxRecDepth 100000 in
set_option maxHeartbeats 4000000 in
theorem BX10_usedUp_55_b49 (G : mv_G) (d D : Nat) (hD : d + 4 ≤ D) (P : Int32 × mv_H → Prop) : ∀ (n : Nat) (v2 : Int32) (v3 : Int32) (v4 : Int32) (v5 : Int32) (h : mv_H), mv_sat (fX10_usedUp_55_b49 n v2 v3 v4 v5 h) P → mv_MW G mX10_usedUp (mv_rm D mX10_usedUp) (mv_Zf G mX10_usedUp (mv_qI mv_SH P)) 0 0 49 [.ref 55, .float 0, .int v2, .int v3, .int v4, .int v5, .float 0, .float 0] [] mv_SH h := by
  intro n
  induction n with
  | zero =>
    intro v2 v3 v4 v5 h hs
    unfold fX10_usedUp_55_b49 at hs
    exact (mv_sat_none hs).elim
  | succ n ih =>
    intro v2 v3 v4 v5 h hs
    unfold fX10_usedUp_55_b49 at hs
    refine mv_iload dX10_usedUp_49 rfl ?_
    refine mv_iload_n dX10_usedUp_51 rfl ?_
    refine mv_icmp_ge dX10_usedUp_52 hs (fun _ hs => ?_) (fun _ hs => ?_)
    · refine mv_aload_n dX10_usedUp_55 rfl ?_
      refine mv_iload dX10_usedUp_56 rfl ?_
      refine mv_cV (st := []) dX10_usedUp_58 kk_X10_301 (TX10_layRow_55 G d _ _ _ (mv_sat_bind hs)) so_55 vc_10 rfl rfl (Nat.le_of_ble_eq_true rfl) (by omega) rfl ⟨Nat.zero_le _, Nat.zero_le _⟩ (mv_kI2 fun r813 hs => ?_)
      refine mv_if_eq dX10_usedUp_61 hs (fun _ hs => ?_) (fun _ hs => ?_)
      · refine mv_iconst (-1) dX10_usedUp_71 (by decide) ?_
        exact (BX10_usedUp_55_b72 G d D (by omega) P _ ih _ _ _ _ _ _ hs)
      · refine mv_aload_n dX10_usedUp_64 rfl ?_
        refine mv_cV (st := []) dX10_usedUp_65 kk_X10_304 (TX10_wrappedByRow_55 G d _ _ (mv_sat_bind hs)) so_55 vc_10 rfl rfl (Nat.le_of_ble_eq_true rfl) (by omega) rfl ⟨Nat.zero_le _, Nat.zero_le _⟩ (mv_kI2 fun r820 hs => ?_)
        refine mv_goto dX10_usedUp_68 ?_
        exact (BX10_usedUp_55_b72 G d D (by omega) P _ ih _ _ _ _ _ _ hs)
    · refine mv_iload_n dX10_usedUp_123 rfl ?_
      refine mv_iconst (-1) dX10_usedUp_124 (by decide) ?_
      refine mv_icmp_ne dX10_usedUp_125 hs (fun _ hs => ?_) (fun _ hs => ?_)
      · refine mv_iload dX10_usedUp_128 rfl ?_
        refine mv_goto dX10_usedUp_130 ?_
        exact mv_iret dX10_usedUp_165 rfl ⟨(v4, h), rfl, rfl, rfl, mv_sat_some hs⟩
      · refine mv_iload_n dX10_usedUp_133 rfl ?_
        refine mv_i2l dX10_usedUp_134 ?_
        refine mv_lconst 0 dX10_usedUp_135 rfl ?_
        refine mv_aload_n dX10_usedUp_136 rfl ?_
        refine mv_geti dX10_usedUp_137 kf_X10_295 gf_55_37 ?_
        refine mv_iconst 1 dX10_usedUp_140 (by decide) ?_
        refine mv_isub dX10_usedUp_141 ?_
        refine mv_i2l dX10_usedUp_142 ?_
        refine mv_cS (st := []) dX10_usedUp_143 kk_X10_104 (TX10_in G d _ _ _ _ _ (mv_sat_bind hs)) rfl rfl (Nat.le_of_ble_eq_true rfl) (by omega) rfl ⟨Nat.zero_le _, Nat.zero_le _⟩ (mv_ki fun r821 hs => ?_)
        refine mv_if_eq dX10_usedUp_146 hs (fun _ hs => ?_) (fun _ hs => ?_)
        · refine mv_bipush (-6) dX10_usedUp_163 (by decide) ?_
          exact mv_iret dX10_usedUp_165 rfl ⟨((-6), h), rfl, rfl, rfl, mv_sat_some hs⟩
        · refine mv_aload_n dX10_usedUp_149 rfl ?_
          refine mv_getr dX10_usedUp_150 kf_X10_70 gf_55_36 ?_
          refine mv_aload_n dX10_usedUp_153 rfl ?_
          refine mv_getr dX10_usedUp_154 kf_X10_76 gf_55_39 ?_
          refine mv_iload_n dX10_usedUp_157 rfl ?_
          refine mv_iaload dX10_usedUp_158 so_78 hs (fun hs => ?_)
          refine mv_iaload dX10_usedUp_159 so_76 hs (fun hs => ?_)
          refine mv_goto dX10_usedUp_160 ?_
          exact mv_iret dX10_usedUp_165 rfl ⟨(h 76 (h 78 v2.toNatClampNeg).toNatClampNeg, h), rfl, rfl, rfl, mv_sat_some hs⟩
noncomputable def fX10_usedUp_55_b21 : Nat → Int32 → Int32 → Int32 → mv_H → Option (Int32 × mv_H)
  | 0, _, _, _, _ => none
  | n + 1, v2, v3, v4, h => if v4 < (h 55 37) then (mv_let (v3 * (h 55 37)) fun x808 : Int32 => (fX10_usedUp_55_b21 n) v2 x808 (v4 + 1) h) else fX10_usedUp_55_b49 mv_F v2 v3 (-1) 0 h
set_option maxRecDepth 100000 in
set_option maxHeartbeats 4000000 in
theorem BX10_usedUp_55_b21 (G : mv_G) (d D : Nat) (hD : d + 4 ≤ D) (P : Int32 × mv_H → Prop) : ∀ (n : Nat) (v2 : Int32) (v3 : Int32) (v4 : Int32) (h : mv_H), mv_sat (fX10_usedUp_55_b21 n v2 v3 v4 h) P → mv_MW G mX10_usedUp (mv_rm D mX10_usedUp) (mv_Zf G mX10_usedUp (mv_qI mv_SH P)) 0 0 21 [.ref 55, .float 0, .int v2, .int v3, .int v4, .float 0, .float 0, .float 0] [] mv_SH h := by
  intro n
  induction n with
  | zero =>
    intro v2 v3 v4 h hs
    unfold fX10_usedUp_55_b21 at hs
    exact (mv_sat_none hs).elim
  | succ n ih =>
    intro v2 v3 v4 h hs
    unfold fX10_usedUp_55_b21 at hs
    refine mv_iload dX10_usedUp_21 rfl ?_
    refine mv_aload_n dX10_usedUp_23 rfl ?_
    refine mv_geti dX10_usedUp_24 kf_X10_295 gf_55_37 ?_
    refine mv_icmp_ge dX10_usedUp_27 hs (fun _ hs => ?_) (fun _ hs => ?_)
    · refine mv_iload_n dX10_usedUp_30 rfl ?_
      refine mv_aload_n dX10_usedUp_31 rfl ?_
      refine mv_geti dX10_usedUp_32 kf_X10_295 gf_55_37 ?_
      refine mv_imul dX10_usedUp_35 ?_
      refine mv_name hs (fun x808 hs => ?_)
      refine mv_istore_n (lv' := [.ref 55, .float 0, .int v2, .int x808, .int v4, .float 0, .float 0, .float 0]) dX10_usedUp_36 (Nat.le_of_ble_eq_true rfl) rfl rfl ?_
      refine mv_iinc (lv' := [.ref 55, .float 0, .int v2, .int x808, .int (v4 + 1), .float 0, .float 0, .float 0]) 1 dX10_usedUp_37 rfl (by decide) (Nat.le_of_ble_eq_true rfl) rfl rfl ?_
      refine mv_goto dX10_usedUp_40 ?_
      exact (ih _ _ _ _ hs)
    · refine mv_iconst (-1) dX10_usedUp_43 (by decide) ?_
      refine mv_istore (lv' := [.ref 55, .float 0, .int v2, .int v3, .int (-1), .float 0, .float 0, .float 0]) dX10_usedUp_44 (Nat.le_of_ble_eq_true rfl) rfl rfl ?_
      refine mv_iconst 0 dX10_usedUp_46 (by decide) ?_
      refine mv_istore (lv' := [.ref 55, .float 0, .int v2, .int v3, .int (-1), .int 0, .float 0, .float 0]) dX10_usedUp_47 (Nat.le_of_ble_eq_true rfl) rfl rfl ?_
      exact (BX10_usedUp_55_b49 G d D (by omega) P _ _ _ _ _ _ hs)
noncomputable def fX10_usedUp_55 (p0 : Int32) (p1 : Int32) (h : mv_H) : Option (Int32 × mv_H) := (fX10_areBoxes_55 p0 h).bind fun r803 => if r803 = 0 then some ((-2), h) else (fX10_layMembers_55 p0 h).bind fun r807 => fX10_usedUp_55_b21 mv_F p1 1 0 r807
set_option maxRecDepth 100000 in
set_option maxHeartbeats 4000000 in
theorem TX10_usedUp_55 (G : mv_G) (d : Nat) (P : Int32 × mv_H → Prop) (p0 : Int32) (p1 : Int32) (h : mv_H) (hs : mv_sat (fX10_usedUp_55 p0 p1 h) P) : mv_met G (d + 4) mX10_usedUp [.ref 55, .int p0, .int p1] mv_SH h (mv_qI mv_SH P) := by
  unfold fX10_usedUp_55 at hs
  obtain ⟨D, hDe⟩ : ∃ D, D = d + 4 := ⟨_, rfl⟩
  rw [← hDe]
  have hD : d + 4 ≤ D := by omega
  refine mv_enter (lv := [.ref 55, .int p0, .int p1, .float 0, .float 0, .float 0, .float 0, .float 0]) 5 (by decide) (by decide +kernel) rfl (Nat.le_of_ble_eq_true rfl) ?_
  refine mv_aload_n dX10_usedUp_0 rfl ?_
  refine mv_iload_n dX10_usedUp_1 rfl ?_
  refine mv_cV (st := []) dX10_usedUp_2 kk_X10_286 (TX10_areBoxes_55 G d _ _ _ (mv_sat_bind hs)) so_55 vc_10 rfl rfl (Nat.le_of_ble_eq_true rfl) (by omega) rfl ⟨Nat.zero_le _, Nat.zero_le _⟩ (mv_ki fun r803 hs => ?_)
  refine mv_if_ne dX10_usedUp_5 hs (fun _ hs => ?_) (fun _ hs => ?_)
  · refine mv_bipush (-2) dX10_usedUp_8 (by decide) ?_
    exact mv_iret dX10_usedUp_10 rfl ⟨((-2), h), rfl, rfl, rfl, mv_sat_some hs⟩
  · refine mv_aload_n dX10_usedUp_11 rfl ?_
    refine mv_iload_n dX10_usedUp_12 rfl ?_
    refine mv_cV (st := []) dX10_usedUp_13 kk_X10_298 (TX10_layMembers_55 G d _ _ _ (mv_sat_bind hs)) so_55 vc_10 rfl rfl (Nat.le_of_ble_eq_true rfl) (by omega) rfl ⟨Nat.zero_le _, Nat.zero_le _⟩ (mv_kv fun r807 hs => ?_)
    refine mv_iconst 1 dX10_usedUp_16 (by decide) ?_
    refine mv_istore_n (lv' := [.ref 55, .int p0, .int p1, .int 1, .float 0, .float 0, .float 0, .float 0]) dX10_usedUp_17 (Nat.le_of_ble_eq_true rfl) rfl rfl ?_
    refine mv_iconst 0 dX10_usedUp_18 (by decide) ?_
    refine mv_istore (lv' := [.ref 55, .int p0, .int p1, .int 1, .int 0, .float 0, .float 0, .float 0]) dX10_usedUp_19 (Nat.le_of_ble_eq_true rfl) rfl rfl ?_
    exact mv_weak (lv' := [.ref 55, .float 0, .int p1, .int 1, .int 0, .float 0, .float 0, .float 0]) (mv_s (mv_k (mv_s (mv_s (mv_s (mv_s (mv_s (mv_s mv_n)))))))) (BX10_usedUp_55_b21 G d D (by omega) P _ _ _ _ _ hs)
noncomputable def fX9_pleatOf_0 (p0 : Int32) (h : mv_H) : Option (Int32) := (fX1_setting_1 (2 : Int32) h).bind fun r826 => if r826 < 1 then some 0 else if ¬ r826 = 0 then mv_let (p0 - p0 / r826 * r826) fun x827 : Int32 => if x827 = 0 then some 0 else some (r826 - x827) else none
set_option maxRecDepth 100000 in
set_option maxHeartbeats 4000000 in
theorem TX9_pleatOf_0 (G : mv_G) (d : Nat) (P : Int32 → Prop) (p0 : Int32) (h : mv_H) (hs : mv_sat (fX9_pleatOf_0 p0 h) P) : mv_met G (d + 1) mX9_pleatOf [.ref 0, .int p0] mv_SH h (mv_qi mv_SH h P) := by
  unfold fX9_pleatOf_0 at hs
  obtain ⟨D, hDe⟩ : ∃ D, D = d + 1 := ⟨_, rfl⟩
  rw [← hDe]
  have hD : d + 1 ≤ D := by omega
  refine mv_enter (lv := [.ref 0, .int p0, .float 0, .float 0]) 2 (by decide) (by decide +kernel) rfl (Nat.le_of_ble_eq_true rfl) ?_
  refine mv_aload_n dX9_pleatOf_0 rfl ?_
  refine mv_getr dX9_pleatOf_1 kf_X9_10 gf_0_0 ?_
  refine mv_iconst 2 dX9_pleatOf_4 (by decide) ?_
  refine mv_cV (st := []) dX9_pleatOf_5 kk_X9_114 (TX1_setting_1 G d _ _ _ (mv_sat_bind hs)) so_1 vc_1 rfl rfl (Nat.le_of_ble_eq_true rfl) (by omega) rfl ⟨Nat.zero_le _, Nat.zero_le _⟩ (mv_ki fun r826 hs => ?_)
  refine mv_istore_n (lv' := [.ref 0, .int p0, .int r826, .float 0]) dX9_pleatOf_8 (Nat.le_of_ble_eq_true rfl) rfl rfl ?_
  refine mv_iload_n dX9_pleatOf_9 rfl ?_
  refine mv_iconst 1 dX9_pleatOf_10 (by decide) ?_
  refine mv_icmp_ge dX9_pleatOf_11 hs (fun _ hs => ?_) (fun _ hs => ?_)
  · refine mv_iconst 0 dX9_pleatOf_14 (by decide) ?_
    exact mv_iret dX9_pleatOf_15 rfl ⟨_, rfl, rfl, rfl, mv_sat_some hs⟩
  · refine mv_iload_n dX9_pleatOf_16 rfl ?_
    refine mv_iload_n dX9_pleatOf_17 rfl ?_
    refine mv_irem dX9_pleatOf_18 hs (fun hs => ?_)
    refine mv_name hs (fun x827 hs => ?_)
    refine mv_istore_n (lv' := [.ref 0, .int p0, .int r826, .int x827]) dX9_pleatOf_19 (Nat.le_of_ble_eq_true rfl) rfl rfl ?_
    refine mv_iload_n dX9_pleatOf_20 rfl ?_
    refine mv_if_ne dX9_pleatOf_21 hs (fun _ hs => ?_) (fun _ hs => ?_)
    · refine mv_iconst 0 dX9_pleatOf_24 (by decide) ?_
      refine mv_goto dX9_pleatOf_25 ?_
      exact mv_iret dX9_pleatOf_31 rfl ⟨_, rfl, rfl, rfl, mv_sat_some hs⟩
    · refine mv_iload_n dX9_pleatOf_28 rfl ?_
      refine mv_iload_n dX9_pleatOf_29 rfl ?_
      refine mv_isub dX9_pleatOf_30 ?_
      exact mv_iret dX9_pleatOf_31 rfl ⟨_, rfl, rfl, rfl, mv_sat_some hs⟩
noncomputable def fX9_pleat_0 (p0 : Int32) (p1 : Int32) (h : mv_H) : Option (Int32 × mv_H) := (fX9_isBoxByAxis_0 p0 p1 h).bind fun r823 => if r823 = 0 then some ((-1), h) else (fX9_wrapOf_0 p0 h).bind fun r824 => (fX8_girth_38 p1 r824).bind fun r825 => (fX9_pleatOf_0 r825 r824).bind fun r828 => some (r828, r824)
set_option maxRecDepth 100000 in
set_option maxHeartbeats 4000000 in
theorem TX9_pleat_0 (G : mv_G) (d : Nat) (P : Int32 × mv_H → Prop) (p0 : Int32) (p1 : Int32) (h : mv_H) (hs : mv_sat (fX9_pleat_0 p0 p1 h) P) : mv_met G (d + 3) mX9_pleat [.ref 0, .int p0, .int p1] mv_SH h (mv_qI mv_SH P) := by
  unfold fX9_pleat_0 at hs
  obtain ⟨D, hDe⟩ : ∃ D, D = d + 3 := ⟨_, rfl⟩
  rw [← hDe]
  have hD : d + 3 ≤ D := by omega
  refine mv_enter (lv := [.ref 0, .int p0, .int p1]) 0 (by decide) (by decide +kernel) rfl (Nat.le_of_ble_eq_true rfl) ?_
  refine mv_aload_n dX9_pleat_0 rfl ?_
  refine mv_iload_n dX9_pleat_1 rfl ?_
  refine mv_iload_n dX9_pleat_2 rfl ?_
  refine mv_cV (st := []) dX9_pleat_3 kk_X9_140 (TX9_isBoxByAxis_0 G d _ _ _ _ (mv_sat_bind hs)) so_0 vc_9 rfl rfl (Nat.le_of_ble_eq_true rfl) (by omega) rfl ⟨Nat.zero_le _, Nat.zero_le _⟩ (mv_ki fun r823 hs => ?_)
  refine mv_if_ne dX9_pleat_6 hs (fun _ hs => ?_) (fun _ hs => ?_)
  · refine mv_iconst (-1) dX9_pleat_9 (by decide) ?_
    exact mv_iret dX9_pleat_10 rfl ⟨((-1), h), rfl, rfl, rfl, mv_sat_some hs⟩
  · refine mv_aload_n dX9_pleat_11 rfl ?_
    refine mv_aload_n dX9_pleat_12 rfl ?_
    refine mv_iload_n dX9_pleat_13 rfl ?_
    refine mv_cV (st := [.ref 0]) dX9_pleat_14 kk_X9_144 (TX9_wrapOf_0 G d _ _ _ (mv_sat_bind hs)) so_0 vc_9 rfl rfl (Nat.le_of_ble_eq_true rfl) (by omega) rfl ⟨Nat.zero_le _, Nat.zero_le _⟩ (mv_kc fun r824 hs => ?_)
    refine mv_iload_n dX9_pleat_17 rfl ?_
    refine mv_cV (st := [.ref 0]) dX9_pleat_18 kk_X9_221 (TX8_girth_38 G d _ _ _ (mv_sat_bind hs)) so_38 vc_8 rfl rfl (Nat.le_of_ble_eq_true rfl) (by omega) rfl ⟨Nat.zero_le _, Nat.zero_le _⟩ (mv_ki fun r825 hs => ?_)
    refine mv_cV (st := []) dX9_pleat_21 kk_X9_266 (TX9_pleatOf_0 G d _ _ _ (mv_sat_bind hs)) so_0 vc_9 rfl rfl (Nat.le_of_ble_eq_true rfl) (by omega) rfl ⟨Nat.zero_le _, Nat.zero_le _⟩ (mv_ki fun r828 hs => ?_)
    exact mv_iret dX9_pleat_24 rfl ⟨(r828, r824), rfl, rfl, rfl, mv_sat_some hs⟩
noncomputable def fX10_pleatBy_55 (p0 : Int32) (h : mv_H) : Option (Int32) := if mv_in p0 3 then (if mv_in p0 3 then (if ¬ (h 55 9) = 0 then mv_let ((2 * ((h 67 p0.toNatClampNeg) + (h 68 p0.toNatClampNeg))) - (2 * ((h 67 p0.toNatClampNeg) + (h 68 p0.toNatClampNeg))) / (h 55 9) * (h 55 9)) fun x833 : Int32 => if x833 = 0 then some 0 else some ((h 55 9) - x833) else none) else none) else none
set_option maxRecDepth 100000 in
set_option maxHeartbeats 4000000 in
theorem TX10_pleatBy_55 (G : mv_G) (d : Nat) (P : Int32 → Prop) (p0 : Int32) (h : mv_H) (hs : mv_sat (fX10_pleatBy_55 p0 h) P) : mv_met G (d + 0) mX10_pleatBy [.ref 55, .int p0] mv_SH h (mv_qi mv_SH h P) := by
  unfold fX10_pleatBy_55 at hs
  obtain ⟨D, hDe⟩ : ∃ D, D = d + 0 := ⟨_, rfl⟩
  rw [← hDe]
  have hD : d + 0 ≤ D := by omega
  refine mv_enter (lv := [.ref 55, .int p0, .float 0]) 1 (by decide) (by decide +kernel) rfl (Nat.le_of_ble_eq_true rfl) ?_
  refine mv_iconst 2 dX10_pleatBy_0 (by decide) ?_
  refine mv_aload_n dX10_pleatBy_1 rfl ?_
  refine mv_getr dX10_pleatBy_2 kf_X10_43 gf_55_25 ?_
  refine mv_iload_n dX10_pleatBy_5 rfl ?_
  refine mv_iaload dX10_pleatBy_6 so_67 hs (fun hs => ?_)
  refine mv_aload_n dX10_pleatBy_7 rfl ?_
  refine mv_getr dX10_pleatBy_8 kf_X10_46 gf_55_26 ?_
  refine mv_iload_n dX10_pleatBy_11 rfl ?_
  refine mv_iaload dX10_pleatBy_12 so_68 hs (fun hs => ?_)
  refine mv_iadd dX10_pleatBy_13 ?_
  refine mv_imul dX10_pleatBy_14 ?_
  refine mv_aload_n dX10_pleatBy_15 rfl ?_
  refine mv_geti dX10_pleatBy_16 kf_X10_96 gf_55_9 ?_
  refine mv_irem dX10_pleatBy_19 hs (fun hs => ?_)
  refine mv_name hs (fun x833 hs => ?_)
  refine mv_istore_n (lv' := [.ref 55, .int p0, .int x833]) dX10_pleatBy_20 (Nat.le_of_ble_eq_true rfl) rfl rfl ?_
  refine mv_iload_n dX10_pleatBy_21 rfl ?_
  refine mv_if_ne dX10_pleatBy_22 hs (fun _ hs => ?_) (fun _ hs => ?_)
  · refine mv_iconst 0 dX10_pleatBy_25 (by decide) ?_
    refine mv_goto dX10_pleatBy_26 ?_
    exact mv_iret dX10_pleatBy_35 rfl ⟨_, rfl, rfl, rfl, mv_sat_some hs⟩
  · refine mv_aload_n dX10_pleatBy_29 rfl ?_
    refine mv_geti dX10_pleatBy_30 kf_X10_96 gf_55_9 ?_
    refine mv_iload_n dX10_pleatBy_33 rfl ?_
    refine mv_isub dX10_pleatBy_34 ?_
    exact mv_iret dX10_pleatBy_35 rfl ⟨_, rfl, rfl, rfl, mv_sat_some hs⟩
noncomputable def fX10_pleat_55 (p0 : Int32) (p1 : Int32) (h : mv_H) : Option (Int32 × mv_H) := (fX10_isBox_55 p0 h).bind fun r830 => if r830 = 0 then some ((-1), h) else (fX10_isAxis p1).bind fun r831 => if r831 = 0 then some ((-1), h) else (fX10_look_55 p0 h).bind fun r832 => (fX10_pleatBy_55 p1 r832).bind fun r834 => some (r834, r832)
set_option maxRecDepth 100000 in
set_option maxHeartbeats 4000000 in
theorem TX10_pleat_55 (G : mv_G) (d : Nat) (P : Int32 × mv_H → Prop) (p0 : Int32) (p1 : Int32) (h : mv_H) (hs : mv_sat (fX10_pleat_55 p0 p1 h) P) : mv_met G (d + 3) mX10_pleat [.ref 55, .int p0, .int p1] mv_SH h (mv_qI mv_SH P) := by
  unfold fX10_pleat_55 at hs
  obtain ⟨D, hDe⟩ : ∃ D, D = d + 3 := ⟨_, rfl⟩
  rw [← hDe]
  have hD : d + 3 ≤ D := by omega
  refine mv_enter (lv := [.ref 55, .int p0, .int p1]) 0 (by decide) (by decide +kernel) rfl (Nat.le_of_ble_eq_true rfl) ?_
  refine mv_aload_n dX10_pleat_0 rfl ?_
  refine mv_iload_n dX10_pleat_1 rfl ?_
  refine mv_cV (st := []) dX10_pleat_2 kk_X10_146 (TX10_isBox_55 G d _ _ _ (mv_sat_bind hs)) so_55 vc_10 rfl rfl (Nat.le_of_ble_eq_true rfl) (by omega) rfl ⟨Nat.zero_le _, Nat.zero_le _⟩ (mv_ki fun r830 hs => ?_)
  refine mv_if_eq dX10_pleat_5 hs (fun _ hs => ?_) (fun _ hs => ?_)
  · refine mv_iconst (-1) dX10_pleat_15 (by decide) ?_
    exact mv_iret dX10_pleat_16 rfl ⟨((-1), h), rfl, rfl, rfl, mv_sat_some hs⟩
  · refine mv_iload_n dX10_pleat_8 rfl ?_
    refine mv_cS (st := []) dX10_pleat_9 kk_X10_206 (TX10_isAxis G d _ _ _ (mv_sat_bind hs)) rfl rfl (Nat.le_of_ble_eq_true rfl) (by omega) rfl ⟨Nat.zero_le _, Nat.zero_le _⟩ (mv_ki fun r831 hs => ?_)
    refine mv_if_ne dX10_pleat_12 hs (fun _ hs => ?_) (fun _ hs => ?_)
    · refine mv_iconst (-1) dX10_pleat_15 (by decide) ?_
      exact mv_iret dX10_pleat_16 rfl ⟨((-1), h), rfl, rfl, rfl, mv_sat_some hs⟩
    · refine mv_aload_n dX10_pleat_17 rfl ?_
      refine mv_iload_n dX10_pleat_18 rfl ?_
      refine mv_cV (st := []) dX10_pleat_19 kk_X10_209 (TX10_look_55 G d _ _ _ (mv_sat_bind hs)) so_55 vc_10 rfl rfl (Nat.le_of_ble_eq_true rfl) (by omega) rfl ⟨Nat.zero_le _, Nat.zero_le _⟩ (mv_kv fun r832 hs => ?_)
      refine mv_aload_n dX10_pleat_22 rfl ?_
      refine mv_iload_n dX10_pleat_23 rfl ?_
      refine mv_cV (st := []) dX10_pleat_24 kk_X10_307 (TX10_pleatBy_55 G d _ _ _ (mv_sat_bind hs)) so_55 vc_10 rfl rfl (Nat.le_of_ble_eq_true rfl) (by omega) rfl ⟨Nat.zero_le _, Nat.zero_le _⟩ (mv_ki fun r834 hs => ?_)
      exact mv_iret dX10_pleat_27 rfl ⟨(r834, r832), rfl, rfl, rfl, mv_sat_some hs⟩
noncomputable def fX9_match_0_b53 (k27 : Int32 → Int32 → mv_H → Option (Int32 × mv_H)) (v3 : Int32) (v4 : Int32) (h : mv_H) : Option (Int32 × mv_H) := k27 v3 (v4 + 1) h
set_option maxRecDepth 100000 in
set_option maxHeartbeats 4000000 in
theorem BX9_match_0_b53 (G : mv_G) (d D : Nat) (hD : d + 0 ≤ D) (P : Int32 × mv_H → Prop) (k27 : Int32 → Int32 → mv_H → Option (Int32 × mv_H)) (hk27 : ∀ (v3 : Int32) (v4 : Int32) (h : mv_H), mv_sat (k27 v3 v4 h) P → mv_MW G mX9_match (mv_rm D mX9_match) (mv_Zf G mX9_match (mv_qI mv_SH P)) 0 0 27 [.ref 0, .float 0, .ref 38, .int v3, .int v4] [] mv_SH h) (v3 : Int32) (v4 : Int32) (h : mv_H) (hs : mv_sat (fX9_match_0_b53 k27 v3 v4 h) P) : mv_MW G mX9_match (mv_rm D mX9_match) (mv_Zf G mX9_match (mv_qI mv_SH P)) 0 0 53 [.ref 0, .float 0, .ref 38, .int v3, .int v4] [] mv_SH h := by
  unfold fX9_match_0_b53 at hs
  refine mv_iinc (lv' := [.ref 0, .float 0, .ref 38, .int v3, .int (v4 + 1)]) 1 dX9_match_53 rfl (by decide) (Nat.le_of_ble_eq_true rfl) rfl rfl ?_
  refine mv_goto dX9_match_56 ?_
  exact (hk27 _ _ _ hs)
noncomputable def fX9_match_0_b27 : Nat → Int32 → Int32 → mv_H → Option (Int32 × mv_H)
  | 0, _, _, _ => none
  | n + 1, v3, v4, h => if v4 < 3 then ((fX8_girth_38 v4 h).bind fun r838 => (fX9_pleatOf_0 r838 h).bind fun r839 => if r839 = 0 then (mv_let (v3 ||| (1 <<< (v4 &&& 31))) fun x840 : Int32 => fX9_match_0_b53 (fX9_match_0_b27 n) x840 v4 h) else fX9_match_0_b53 (fX9_match_0_b27 n) v3 v4 h) else some (v3, h)
set_option maxRecDepth 100000 in
set_option maxHeartbeats 4000000 in
theorem BX9_match_0_b27 (G : mv_G) (d D : Nat) (hD : d + 2 ≤ D) (P : Int32 × mv_H → Prop) : ∀ (n : Nat) (v3 : Int32) (v4 : Int32) (h : mv_H), mv_sat (fX9_match_0_b27 n v3 v4 h) P → mv_MW G mX9_match (mv_rm D mX9_match) (mv_Zf G mX9_match (mv_qI mv_SH P)) 0 0 27 [.ref 0, .float 0, .ref 38, .int v3, .int v4] [] mv_SH h := by
  intro n
  induction n with
  | zero =>
    intro v3 v4 h hs
    unfold fX9_match_0_b27 at hs
    exact (mv_sat_none hs).elim
  | succ n ih =>
    intro v3 v4 h hs
    unfold fX9_match_0_b27 at hs
    refine mv_iload dX9_match_27 rfl ?_
    refine mv_iconst 3 dX9_match_29 (by decide) ?_
    refine mv_icmp_ge dX9_match_30 hs (fun _ hs => ?_) (fun _ hs => ?_)
    · refine mv_aload_n dX9_match_33 rfl ?_
      refine mv_aload_n dX9_match_34 rfl ?_
      refine mv_iload dX9_match_35 rfl ?_
      refine mv_cV (st := [.ref 0]) dX9_match_37 kk_X9_221 (TX8_girth_38 G d _ _ _ (mv_sat_bind hs)) so_38 vc_8 rfl rfl (Nat.le_of_ble_eq_true rfl) (by omega) rfl ⟨Nat.zero_le _, Nat.zero_le _⟩ (mv_ki fun r838 hs => ?_)
      refine mv_cV (st := []) dX9_match_40 kk_X9_266 (TX9_pleatOf_0 G d _ _ _ (mv_sat_bind hs)) so_0 vc_9 rfl rfl (Nat.le_of_ble_eq_true rfl) (by omega) rfl ⟨Nat.zero_le _, Nat.zero_le _⟩ (mv_ki fun r839 hs => ?_)
      refine mv_if_ne dX9_match_43 hs (fun _ hs => ?_) (fun _ hs => ?_)
      · refine mv_iload_n dX9_match_46 rfl ?_
        refine mv_iconst 1 dX9_match_47 (by decide) ?_
        refine mv_iload dX9_match_48 rfl ?_
        refine mv_ishl dX9_match_50 ?_
        refine mv_ior dX9_match_51 ?_
        refine mv_name hs (fun x840 hs => ?_)
        refine mv_istore_n (lv' := [.ref 0, .float 0, .ref 38, .int x840, .int v4]) dX9_match_52 (Nat.le_of_ble_eq_true rfl) rfl rfl ?_
        exact (BX9_match_0_b53 G d D (by omega) P _ ih _ _ _ hs)
      · exact (BX9_match_0_b53 G d D (by omega) P _ ih _ _ _ hs)
    · refine mv_iload_n dX9_match_59 rfl ?_
      exact mv_iret dX9_match_60 rfl ⟨(v3, h), rfl, rfl, rfl, mv_sat_some hs⟩
noncomputable def fX9_match_0 (p0 : Int32) (h : mv_H) : Option (Int32 × mv_H) := (fX7_has_2 p0 h).bind fun r836 => if r836 = 0 then some ((-1), h) else (fX9_wrapOf_0 p0 h).bind fun r837 => fX9_match_0_b27 mv_F 0 0 r837
set_option maxRecDepth 100000 in
set_option maxHeartbeats 4000000 in
theorem TX9_match_0 (G : mv_G) (d : Nat) (P : Int32 × mv_H → Prop) (p0 : Int32) (h : mv_H) (hs : mv_sat (fX9_match_0 p0 h) P) : mv_met G (d + 3) mX9_match [.ref 0, .int p0] mv_SH h (mv_qI mv_SH P) := by
  unfold fX9_match_0 at hs
  obtain ⟨D, hDe⟩ : ∃ D, D = d + 3 := ⟨_, rfl⟩
  rw [← hDe]
  have hD : d + 3 ≤ D := by omega
  refine mv_enter (lv := [.ref 0, .int p0, .float 0, .float 0, .float 0]) 3 (by decide) (by decide +kernel) rfl (Nat.le_of_ble_eq_true rfl) ?_
  refine mv_aload_n dX9_match_0 rfl ?_
  refine mv_getr dX9_match_1 kf_X9_10 gf_0_0 ?_
  refine mv_getr dX9_match_4 kf_X9_64 gf_1_0 ?_
  refine mv_iload_n dX9_match_7 rfl ?_
  refine mv_cV (st := []) dX9_match_8 kk_X9_100 (TX7_has_2 G d _ _ _ (mv_sat_bind hs)) so_2 vc_7 rfl rfl (Nat.le_of_ble_eq_true rfl) (by omega) rfl ⟨Nat.zero_le _, Nat.zero_le _⟩ (mv_ki fun r836 hs => ?_)
  refine mv_if_ne dX9_match_11 hs (fun _ hs => ?_) (fun _ hs => ?_)
  · refine mv_iconst (-1) dX9_match_14 (by decide) ?_
    exact mv_iret dX9_match_15 rfl ⟨((-1), h), rfl, rfl, rfl, mv_sat_some hs⟩
  · refine mv_aload_n dX9_match_16 rfl ?_
    refine mv_iload_n dX9_match_17 rfl ?_
    refine mv_cV (st := []) dX9_match_18 kk_X9_144 (TX9_wrapOf_0 G d _ _ _ (mv_sat_bind hs)) so_0 vc_9 rfl rfl (Nat.le_of_ble_eq_true rfl) (by omega) rfl ⟨Nat.zero_le _, Nat.zero_le _⟩ (mv_kc fun r837 hs => ?_)
    refine mv_astore_n (lv' := [.ref 0, .int p0, .ref 38, .float 0, .float 0]) dX9_match_21 (Nat.le_of_ble_eq_true rfl) rfl rfl ?_
    refine mv_iconst 0 dX9_match_22 (by decide) ?_
    refine mv_istore_n (lv' := [.ref 0, .int p0, .ref 38, .int 0, .float 0]) dX9_match_23 (Nat.le_of_ble_eq_true rfl) rfl rfl ?_
    refine mv_iconst 0 dX9_match_24 (by decide) ?_
    refine mv_istore (lv' := [.ref 0, .int p0, .ref 38, .int 0, .int 0]) dX9_match_25 (Nat.le_of_ble_eq_true rfl) rfl rfl ?_
    exact mv_weak (lv' := [.ref 0, .float 0, .ref 38, .int 0, .int 0]) (mv_s (mv_k (mv_s (mv_s (mv_s mv_n))))) (BX9_match_0_b27 G d D (by omega) P _ _ _ _ hs)
noncomputable def fX10_match_55_b40 (k19 : Int32 → Int32 → mv_H → Option (Int32 × mv_H)) (v3 : Int32) (s0 : Int32) (s1 : Int32) (h : mv_H) : Option (Int32 × mv_H) := mv_let (s1 ||| s0) fun x845 : Int32 => k19 x845 (v3 + 1) h
set_option maxRecDepth 100000 in
set_option maxHeartbeats 4000000 in
theorem BX10_match_55_b40 (G : mv_G) (d D : Nat) (hD : d + 0 ≤ D) (P : Int32 × mv_H → Prop) (k19 : Int32 → Int32 → mv_H → Option (Int32 × mv_H)) (hk19 : ∀ (v2 : Int32) (v3 : Int32) (h : mv_H), mv_sat (k19 v2 v3 h) P → mv_MW G mX10_match (mv_rm D mX10_match) (mv_Zf G mX10_match (mv_qI mv_SH P)) 0 0 19 [.ref 55, .float 0, .int v2, .int v3] [] mv_SH h) (v3 : Int32) (s0 : Int32) (s1 : Int32) (h : mv_H) (hs : mv_sat (fX10_match_55_b40 k19 v3 s0 s1 h) P) : mv_MW G mX10_match (mv_rm D mX10_match) (mv_Zf G mX10_match (mv_qI mv_SH P)) 0 0 40 [.ref 55, .float 0, .float 0, .int v3] [.int s0, .int s1] mv_SH h := by
  unfold fX10_match_55_b40 at hs
  refine mv_ior dX10_match_40 ?_
  refine mv_name hs (fun x845 hs => ?_)
  refine mv_istore_n (lv' := [.ref 55, .float 0, .int x845, .int v3]) dX10_match_41 (Nat.le_of_ble_eq_true rfl) rfl rfl ?_
  refine mv_iinc (lv' := [.ref 55, .float 0, .int x845, .int (v3 + 1)]) 1 dX10_match_42 rfl (by decide) (Nat.le_of_ble_eq_true rfl) rfl rfl ?_
  refine mv_goto dX10_match_45 ?_
  exact (hk19 _ _ _ hs)
noncomputable def fX10_match_55_b19 : Nat → Int32 → Int32 → mv_H → Option (Int32 × mv_H)
  | 0, _, _, _ => none
  | n + 1, v2, v3, h => if v3 < 3 then ((fX10_pleatBy_55 v3 h).bind fun r844 => if r844 = 0 then fX10_match_55_b40 (fX10_match_55_b19 n) v3 (1 <<< (v3 &&& 31)) v2 h else fX10_match_55_b40 (fX10_match_55_b19 n) v3 0 v2 h) else some (v2, h)
set_option maxRecDepth 100000 in
set_option maxHeartbeats 4000000 in
theorem BX10_match_55_b19 (G : mv_G) (d D : Nat) (hD : d + 1 ≤ D) (P : Int32 × mv_H → Prop) : ∀ (n : Nat) (v2 : Int32) (v3 : Int32) (h : mv_H), mv_sat (fX10_match_55_b19 n v2 v3 h) P → mv_MW G mX10_match (mv_rm D mX10_match) (mv_Zf G mX10_match (mv_qI mv_SH P)) 0 0 19 [.ref 55, .float 0, .int v2, .int v3] [] mv_SH h := by
  intro n
  induction n with
  | zero =>
    intro v2 v3 h hs
    unfold fX10_match_55_b19 at hs
    exact (mv_sat_none hs).elim
  | succ n ih =>
    intro v2 v3 h hs
    unfold fX10_match_55_b19 at hs
    refine mv_iload_n dX10_match_19 rfl ?_
    refine mv_iconst 3 dX10_match_20 (by decide) ?_
    refine mv_icmp_ge dX10_match_21 hs (fun _ hs => ?_) (fun _ hs => ?_)
    · refine mv_iload_n dX10_match_24 rfl ?_
      refine mv_aload_n dX10_match_25 rfl ?_
      refine mv_iload_n dX10_match_26 rfl ?_
      refine mv_cV (st := [.int v2]) dX10_match_27 kk_X10_307 (TX10_pleatBy_55 G d _ _ _ (mv_sat_bind hs)) so_55 vc_10 rfl rfl (Nat.le_of_ble_eq_true rfl) (by omega) rfl ⟨Nat.zero_le _, Nat.zero_le _⟩ (mv_ki fun r844 hs => ?_)
      refine mv_if_ne dX10_match_30 hs (fun _ hs => ?_) (fun _ hs => ?_)
      · refine mv_iconst 1 dX10_match_33 (by decide) ?_
        refine mv_iload_n dX10_match_34 rfl ?_
        refine mv_ishl dX10_match_35 ?_
        refine mv_goto dX10_match_36 ?_
        exact mv_weak (lv' := [.ref 55, .float 0, .float 0, .int v3]) (mv_s (mv_s (mv_k (mv_s mv_n)))) (BX10_match_55_b40 G d D (by omega) P _ ih _ _ _ _ hs)
      · refine mv_iconst 0 dX10_match_39 (by decide) ?_
        exact mv_weak (lv' := [.ref 55, .float 0, .float 0, .int v3]) (mv_s (mv_s (mv_k (mv_s mv_n)))) (BX10_match_55_b40 G d D (by omega) P _ ih _ _ _ _ hs)
    · refine mv_iload_n dX10_match_48 rfl ?_
      exact mv_iret dX10_match_49 rfl ⟨(v2, h), rfl, rfl, rfl, mv_sat_some hs⟩
noncomputable def fX10_match_55 (p0 : Int32) (h : mv_H) : Option (Int32 × mv_H) := (fX10_isBox_55 p0 h).bind fun r842 => if r842 = 0 then some ((-1), h) else (fX10_look_55 p0 h).bind fun r843 => fX10_match_55_b19 mv_F 0 0 r843
set_option maxRecDepth 100000 in
set_option maxHeartbeats 4000000 in
theorem TX10_match_55 (G : mv_G) (d : Nat) (P : Int32 × mv_H → Prop) (p0 : Int32) (h : mv_H) (hs : mv_sat (fX10_match_55 p0 h) P) : mv_met G (d + 3) mX10_match [.ref 55, .int p0] mv_SH h (mv_qI mv_SH P) := by
  unfold fX10_match_55 at hs
  obtain ⟨D, hDe⟩ : ∃ D, D = d + 3 := ⟨_, rfl⟩
  rw [← hDe]
  have hD : d + 3 ≤ D := by omega
  refine mv_enter (lv := [.ref 55, .int p0, .float 0, .float 0]) 2 (by decide) (by decide +kernel) rfl (Nat.le_of_ble_eq_true rfl) ?_
  refine mv_aload_n dX10_match_0 rfl ?_
  refine mv_iload_n dX10_match_1 rfl ?_
  refine mv_cV (st := []) dX10_match_2 kk_X10_146 (TX10_isBox_55 G d _ _ _ (mv_sat_bind hs)) so_55 vc_10 rfl rfl (Nat.le_of_ble_eq_true rfl) (by omega) rfl ⟨Nat.zero_le _, Nat.zero_le _⟩ (mv_ki fun r842 hs => ?_)
  refine mv_if_ne dX10_match_5 hs (fun _ hs => ?_) (fun _ hs => ?_)
  · refine mv_iconst (-1) dX10_match_8 (by decide) ?_
    exact mv_iret dX10_match_9 rfl ⟨((-1), h), rfl, rfl, rfl, mv_sat_some hs⟩
  · refine mv_aload_n dX10_match_10 rfl ?_
    refine mv_iload_n dX10_match_11 rfl ?_
    refine mv_cV (st := []) dX10_match_12 kk_X10_209 (TX10_look_55 G d _ _ _ (mv_sat_bind hs)) so_55 vc_10 rfl rfl (Nat.le_of_ble_eq_true rfl) (by omega) rfl ⟨Nat.zero_le _, Nat.zero_le _⟩ (mv_kv fun r843 hs => ?_)
    refine mv_iconst 0 dX10_match_15 (by decide) ?_
    refine mv_istore_n (lv' := [.ref 55, .int p0, .int 0, .float 0]) dX10_match_16 (Nat.le_of_ble_eq_true rfl) rfl rfl ?_
    refine mv_iconst 0 dX10_match_17 (by decide) ?_
    refine mv_istore_n (lv' := [.ref 55, .int p0, .int 0, .int 0]) dX10_match_18 (Nat.le_of_ble_eq_true rfl) rfl rfl ?_
    exact mv_weak (lv' := [.ref 55, .float 0, .int 0, .int 0]) (mv_s (mv_k (mv_s (mv_s mv_n)))) (BX10_match_55_b19 G d D (by omega) P _ _ _ _ hs)
noncomputable def fX9_ribbon_0 (p0 : Int32) (p1 : Int32) (h : mv_H) : Option (Int32 × mv_H) := (fX9_isBoxByAxis_0 p0 p1 h).bind fun r847 => if r847 = 0 then some ((-1), h) else (fX9_wrapOf_0 p0 h).bind fun r848 => (fX8_girth_38 p1 r848).bind fun r849 => (fX8_along_38 p1 r848).bind fun r850 => (fX1_setting_1 (3 : Int32) r848).bind fun r851 => some ((r849 + (4 * r850)) + r851, r848)
set_option maxRecDepth 100000 in
set_option maxHeartbeats 4000000 in
theorem TX9_ribbon_0 (G : mv_G) (d : Nat) (P : Int32 × mv_H → Prop) (p0 : Int32) (p1 : Int32) (h : mv_H) (hs : mv_sat (fX9_ribbon_0 p0 p1 h) P) : mv_met G (d + 3) mX9_ribbon [.ref 0, .int p0, .int p1] mv_SH h (mv_qI mv_SH P) := by
  unfold fX9_ribbon_0 at hs
  obtain ⟨D, hDe⟩ : ∃ D, D = d + 3 := ⟨_, rfl⟩
  rw [← hDe]
  have hD : d + 3 ≤ D := by omega
  refine mv_enter (lv := [.ref 0, .int p0, .int p1, .float 0]) 1 (by decide) (by decide +kernel) rfl (Nat.le_of_ble_eq_true rfl) ?_
  refine mv_aload_n dX9_ribbon_0 rfl ?_
  refine mv_iload_n dX9_ribbon_1 rfl ?_
  refine mv_iload_n dX9_ribbon_2 rfl ?_
  refine mv_cV (st := []) dX9_ribbon_3 kk_X9_140 (TX9_isBoxByAxis_0 G d _ _ _ _ (mv_sat_bind hs)) so_0 vc_9 rfl rfl (Nat.le_of_ble_eq_true rfl) (by omega) rfl ⟨Nat.zero_le _, Nat.zero_le _⟩ (mv_ki fun r847 hs => ?_)
  refine mv_if_ne dX9_ribbon_6 hs (fun _ hs => ?_) (fun _ hs => ?_)
  · refine mv_iconst (-1) dX9_ribbon_9 (by decide) ?_
    exact mv_iret dX9_ribbon_10 rfl ⟨((-1), h), rfl, rfl, rfl, mv_sat_some hs⟩
  · refine mv_aload_n dX9_ribbon_11 rfl ?_
    refine mv_iload_n dX9_ribbon_12 rfl ?_
    refine mv_cV (st := []) dX9_ribbon_13 kk_X9_144 (TX9_wrapOf_0 G d _ _ _ (mv_sat_bind hs)) so_0 vc_9 rfl rfl (Nat.le_of_ble_eq_true rfl) (by omega) rfl ⟨Nat.zero_le _, Nat.zero_le _⟩ (mv_kc fun r848 hs => ?_)
    refine mv_astore_n (lv' := [.ref 0, .int p0, .int p1, .ref 38]) dX9_ribbon_16 (Nat.le_of_ble_eq_true rfl) rfl rfl ?_
    refine mv_aload_n dX9_ribbon_17 rfl ?_
    refine mv_iload_n dX9_ribbon_18 rfl ?_
    refine mv_cV (st := []) dX9_ribbon_19 kk_X9_221 (TX8_girth_38 G d _ _ _ (mv_sat_bind hs)) so_38 vc_8 rfl rfl (Nat.le_of_ble_eq_true rfl) (by omega) rfl ⟨Nat.zero_le _, Nat.zero_le _⟩ (mv_ki fun r849 hs => ?_)
    refine mv_iconst 4 dX9_ribbon_22 (by decide) ?_
    refine mv_aload_n dX9_ribbon_23 rfl ?_
    refine mv_iload_n dX9_ribbon_24 rfl ?_
    refine mv_cV (st := [.int 4, .int r849]) dX9_ribbon_25 kk_X9_269 (TX8_along_38 G d _ _ _ (mv_sat_bind hs)) so_38 vc_8 rfl rfl (Nat.le_of_ble_eq_true rfl) (by omega) rfl ⟨Nat.zero_le _, Nat.zero_le _⟩ (mv_ki fun r850 hs => ?_)
    refine mv_imul dX9_ribbon_28 ?_
    refine mv_iadd dX9_ribbon_29 ?_
    refine mv_aload_n dX9_ribbon_30 rfl ?_
    refine mv_getr dX9_ribbon_31 kf_X9_10 gf_0_0 ?_
    refine mv_iconst 3 dX9_ribbon_34 (by decide) ?_
    refine mv_cV (st := [.int (r849 + (4 * r850))]) dX9_ribbon_35 kk_X9_114 (TX1_setting_1 G d _ _ _ (mv_sat_bind hs)) so_1 vc_1 rfl rfl (Nat.le_of_ble_eq_true rfl) (by omega) rfl ⟨Nat.zero_le _, Nat.zero_le _⟩ (mv_ki fun r851 hs => ?_)
    refine mv_iadd dX9_ribbon_38 ?_
    exact mv_iret dX9_ribbon_39 rfl ⟨((r849 + (4 * r850)) + r851, r848), rfl, rfl, rfl, mv_sat_some hs⟩
noncomputable def fX10_ribbon_55 (p0 : Int32) (p1 : Int32) (h : mv_H) : Option (Int32 × mv_H) := (fX10_isBox_55 p0 h).bind fun r853 => if r853 = 0 then some ((-1), h) else (fX10_isAxis p1).bind fun r854 => if r854 = 0 then some ((-1), h) else (fX10_look_55 p0 h).bind fun r855 => if mv_in p1 3 then (if mv_in p1 3 then (if mv_in p1 3 then (some ((2 * (((r855 67 p1.toNatClampNeg) + (r855 68 p1.toNatClampNeg)) + (2 * (r855 69 p1.toNatClampNeg)))) + (r855 55 10), r855)) else none) else none) else none
set_option maxRecDepth 100000 in
set_option maxHeartbeats 4000000 in
theorem TX10_ribbon_55 (G : mv_G) (d : Nat) (P : Int32 × mv_H → Prop) (p0 : Int32) (p1 : Int32) (h : mv_H) (hs : mv_sat (fX10_ribbon_55 p0 p1 h) P) : mv_met G (d + 3) mX10_ribbon [.ref 55, .int p0, .int p1] mv_SH h (mv_qI mv_SH P) := by
  unfold fX10_ribbon_55 at hs
  obtain ⟨D, hDe⟩ : ∃ D, D = d + 3 := ⟨_, rfl⟩
  rw [← hDe]
  have hD : d + 3 ≤ D := by omega
  refine mv_enter (lv := [.ref 55, .int p0, .int p1]) 0 (by decide) (by decide +kernel) rfl (Nat.le_of_ble_eq_true rfl) ?_
  refine mv_aload_n dX10_ribbon_0 rfl ?_
  refine mv_iload_n dX10_ribbon_1 rfl ?_
  refine mv_cV (st := []) dX10_ribbon_2 kk_X10_146 (TX10_isBox_55 G d _ _ _ (mv_sat_bind hs)) so_55 vc_10 rfl rfl (Nat.le_of_ble_eq_true rfl) (by omega) rfl ⟨Nat.zero_le _, Nat.zero_le _⟩ (mv_ki fun r853 hs => ?_)
  refine mv_if_eq dX10_ribbon_5 hs (fun _ hs => ?_) (fun _ hs => ?_)
  · refine mv_iconst (-1) dX10_ribbon_15 (by decide) ?_
    exact mv_iret dX10_ribbon_16 rfl ⟨((-1), h), rfl, rfl, rfl, mv_sat_some hs⟩
  · refine mv_iload_n dX10_ribbon_8 rfl ?_
    refine mv_cS (st := []) dX10_ribbon_9 kk_X10_206 (TX10_isAxis G d _ _ _ (mv_sat_bind hs)) rfl rfl (Nat.le_of_ble_eq_true rfl) (by omega) rfl ⟨Nat.zero_le _, Nat.zero_le _⟩ (mv_ki fun r854 hs => ?_)
    refine mv_if_ne dX10_ribbon_12 hs (fun _ hs => ?_) (fun _ hs => ?_)
    · refine mv_iconst (-1) dX10_ribbon_15 (by decide) ?_
      exact mv_iret dX10_ribbon_16 rfl ⟨((-1), h), rfl, rfl, rfl, mv_sat_some hs⟩
    · refine mv_aload_n dX10_ribbon_17 rfl ?_
      refine mv_iload_n dX10_ribbon_18 rfl ?_
      refine mv_cV (st := []) dX10_ribbon_19 kk_X10_209 (TX10_look_55 G d _ _ _ (mv_sat_bind hs)) so_55 vc_10 rfl rfl (Nat.le_of_ble_eq_true rfl) (by omega) rfl ⟨Nat.zero_le _, Nat.zero_le _⟩ (mv_kv fun r855 hs => ?_)
      refine mv_iconst 2 dX10_ribbon_22 (by decide) ?_
      refine mv_aload_n dX10_ribbon_23 rfl ?_
      refine mv_getr dX10_ribbon_24 kf_X10_43 gf_55_25 ?_
      refine mv_iload_n dX10_ribbon_27 rfl ?_
      refine mv_iaload dX10_ribbon_28 so_67 hs (fun hs => ?_)
      refine mv_aload_n dX10_ribbon_29 rfl ?_
      refine mv_getr dX10_ribbon_30 kf_X10_46 gf_55_26 ?_
      refine mv_iload_n dX10_ribbon_33 rfl ?_
      refine mv_iaload dX10_ribbon_34 so_68 hs (fun hs => ?_)
      refine mv_iadd dX10_ribbon_35 ?_
      refine mv_iconst 2 dX10_ribbon_36 (by decide) ?_
      refine mv_aload_n dX10_ribbon_37 rfl ?_
      refine mv_getr dX10_ribbon_38 kf_X10_49 gf_55_27 ?_
      refine mv_iload_n dX10_ribbon_41 rfl ?_
      refine mv_iaload dX10_ribbon_42 so_69 hs (fun hs => ?_)
      refine mv_imul dX10_ribbon_43 ?_
      refine mv_iadd dX10_ribbon_44 ?_
      refine mv_imul dX10_ribbon_45 ?_
      refine mv_aload_n dX10_ribbon_46 rfl ?_
      refine mv_geti dX10_ribbon_47 kf_X10_99 gf_55_10 ?_
      refine mv_iadd dX10_ribbon_50 ?_
      exact mv_iret dX10_ribbon_51 rfl ⟨((2 * (((r855 67 p1.toNatClampNeg) + (r855 68 p1.toNatClampNeg)) + (2 * (r855 69 p1.toNatClampNeg)))) + (r855 55 10), r855), rfl, rfl, rfl, mv_sat_some hs⟩
noncomputable def fX8_cornerSquare_38 (p0 : Int32) (h : mv_H) : Option (Int32) := (fX8_u_38 p0 h).bind fun r860 => (fX8_along_38 p0 h).bind fun r861 => mv_let (r860 + r861) fun x862 : Int32 => (fX8_v_38 p0 h).bind fun r863 => (fX8_along_38 p0 h).bind fun r864 => mv_let (r863 + r864) fun x865 : Int32 => some (4 * ((x862 * x862) + (x865 * x865)))
set_option maxRecDepth 100000 in
set_option maxHeartbeats 4000000 in
theorem TX8_cornerSquare_38 (G : mv_G) (d : Nat) (P : Int32 → Prop) (p0 : Int32) (h : mv_H) (hs : mv_sat (fX8_cornerSquare_38 p0 h) P) : mv_met G (d + 1) mX8_cornerSquare [.ref 38, .int p0] mv_SH h (mv_qi mv_SH h P) := by
  unfold fX8_cornerSquare_38 at hs
  obtain ⟨D, hDe⟩ : ∃ D, D = d + 1 := ⟨_, rfl⟩
  rw [← hDe]
  have hD : d + 1 ≤ D := by omega
  refine mv_enter (lv := [.ref 38, .int p0, .float 0, .float 0]) 2 (by decide) (by decide +kernel) rfl (Nat.le_of_ble_eq_true rfl) ?_
  refine mv_aload_n dX8_cornerSquare_0 rfl ?_
  refine mv_iload_n dX8_cornerSquare_1 rfl ?_
  refine mv_cV (st := []) dX8_cornerSquare_2 kk_X8_27 (TX8_u_38 G d _ _ _ (mv_sat_bind hs)) so_38 vc_8 rfl rfl (Nat.le_of_ble_eq_true rfl) (by omega) rfl ⟨Nat.zero_le _, Nat.zero_le _⟩ (mv_ki fun r860 hs => ?_)
  refine mv_aload_n dX8_cornerSquare_5 rfl ?_
  refine mv_iload_n dX8_cornerSquare_6 rfl ?_
  refine mv_cV (st := [.int r860]) dX8_cornerSquare_7 kk_X8_34 (TX8_along_38 G d _ _ _ (mv_sat_bind hs)) so_38 vc_8 rfl rfl (Nat.le_of_ble_eq_true rfl) (by omega) rfl ⟨Nat.zero_le _, Nat.zero_le _⟩ (mv_ki fun r861 hs => ?_)
  refine mv_iadd dX8_cornerSquare_10 ?_
  refine mv_name hs (fun x862 hs => ?_)
  refine mv_istore_n (lv' := [.ref 38, .int p0, .int x862, .float 0]) dX8_cornerSquare_11 (Nat.le_of_ble_eq_true rfl) rfl rfl ?_
  refine mv_aload_n dX8_cornerSquare_12 rfl ?_
  refine mv_iload_n dX8_cornerSquare_13 rfl ?_
  refine mv_cV (st := []) dX8_cornerSquare_14 kk_X8_31 (TX8_v_38 G d _ _ _ (mv_sat_bind hs)) so_38 vc_8 rfl rfl (Nat.le_of_ble_eq_true rfl) (by omega) rfl ⟨Nat.zero_le _, Nat.zero_le _⟩ (mv_ki fun r863 hs => ?_)
  refine mv_aload_n dX8_cornerSquare_17 rfl ?_
  refine mv_iload_n dX8_cornerSquare_18 rfl ?_
  refine mv_cV (st := [.int r863]) dX8_cornerSquare_19 kk_X8_34 (TX8_along_38 G d _ _ _ (mv_sat_bind hs)) so_38 vc_8 rfl rfl (Nat.le_of_ble_eq_true rfl) (by omega) rfl ⟨Nat.zero_le _, Nat.zero_le _⟩ (mv_ki fun r864 hs => ?_)
  refine mv_iadd dX8_cornerSquare_22 ?_
  refine mv_name hs (fun x865 hs => ?_)
  refine mv_istore_n (lv' := [.ref 38, .int p0, .int x862, .int x865]) dX8_cornerSquare_23 (Nat.le_of_ble_eq_true rfl) rfl rfl ?_
  refine mv_iconst 4 dX8_cornerSquare_24 (by decide) ?_
  refine mv_iload_n dX8_cornerSquare_25 rfl ?_
  refine mv_iload_n dX8_cornerSquare_26 rfl ?_
  refine mv_imul dX8_cornerSquare_27 ?_
  refine mv_iload_n dX8_cornerSquare_28 rfl ?_
  refine mv_iload_n dX8_cornerSquare_29 rfl ?_
  refine mv_imul dX8_cornerSquare_30 ?_
  refine mv_iadd dX8_cornerSquare_31 ?_
  refine mv_imul dX8_cornerSquare_32 ?_
  exact mv_iret dX8_cornerSquare_33 rfl ⟨_, rfl, rfl, rfl, mv_sat_some hs⟩
noncomputable def fX9_corners_0 (p0 : Int32) (p1 : Int32) (p2 : Int32) (h : mv_H) : Option (Int32 × mv_H) := (fX9_isBoxByAxis_0 p0 p1 h).bind fun r857 => if r857 = 0 then some ((-1), h) else (fX9_isWithin p2 (0 : Int32) (1 : Int32)).bind fun r858 => if r858 = 0 then some ((-2), h) else (fX9_wrapOf_0 p0 h).bind fun r859 => (fX8_cornerSquare_38 p1 r859).bind fun r866 => if p2 = 0 then ((fX9_rootAbove r866).bind fun r867 => (fX1_setting_1 (3 : Int32) r859).bind fun r868 => some (r867 + r868, r859)) else (fX9_rootBelow (10000 * r866)).bind fun r869 => some (r869, r859)
set_option maxRecDepth 100000 in
set_option maxHeartbeats 4000000 in
theorem TX9_corners_0 (G : mv_G) (d : Nat) (P : Int32 × mv_H → Prop) (p0 : Int32) (p1 : Int32) (p2 : Int32) (h : mv_H) (hs : mv_sat (fX9_corners_0 p0 p1 p2 h) P) : mv_met G (d + 3) mX9_corners [.ref 0, .int p0, .int p1, .int p2] mv_SH h (mv_qI mv_SH P) := by
  unfold fX9_corners_0 at hs
  obtain ⟨D, hDe⟩ : ∃ D, D = d + 3 := ⟨_, rfl⟩
  rw [← hDe]
  have hD : d + 3 ≤ D := by omega
  refine mv_enter (lv := [.ref 0, .int p0, .int p1, .int p2, .float 0]) 1 (by decide) (by decide +kernel) rfl (Nat.le_of_ble_eq_true rfl) ?_
  refine mv_aload_n dX9_corners_0 rfl ?_
  refine mv_iload_n dX9_corners_1 rfl ?_
  refine mv_iload_n dX9_corners_2 rfl ?_
  refine mv_cV (st := []) dX9_corners_3 kk_X9_140 (TX9_isBoxByAxis_0 G d _ _ _ _ (mv_sat_bind hs)) so_0 vc_9 rfl rfl (Nat.le_of_ble_eq_true rfl) (by omega) rfl ⟨Nat.zero_le _, Nat.zero_le _⟩ (mv_ki fun r857 hs => ?_)
  refine mv_if_ne dX9_corners_6 hs (fun _ hs => ?_) (fun _ hs => ?_)
  · refine mv_iconst (-1) dX9_corners_9 (by decide) ?_
    exact mv_iret dX9_corners_10 rfl ⟨((-1), h), rfl, rfl, rfl, mv_sat_some hs⟩
  · refine mv_iload_n dX9_corners_11 rfl ?_
    refine mv_iconst 0 dX9_corners_12 (by decide) ?_
    refine mv_iconst 1 dX9_corners_13 (by decide) ?_
    refine mv_cS (st := []) dX9_corners_14 kk_X9_79 (TX9_isWithin G d _ _ _ _ _ (mv_sat_bind hs)) rfl rfl (Nat.le_of_ble_eq_true rfl) (by omega) rfl ⟨Nat.zero_le _, Nat.zero_le _⟩ (mv_ki fun r858 hs => ?_)
    refine mv_if_ne dX9_corners_17 hs (fun _ hs => ?_) (fun _ hs => ?_)
    · refine mv_bipush (-2) dX9_corners_20 (by decide) ?_
      exact mv_iret dX9_corners_22 rfl ⟨((-2), h), rfl, rfl, rfl, mv_sat_some hs⟩
    · refine mv_aload_n dX9_corners_23 rfl ?_
      refine mv_iload_n dX9_corners_24 rfl ?_
      refine mv_cV (st := []) dX9_corners_25 kk_X9_144 (TX9_wrapOf_0 G d _ _ _ (mv_sat_bind hs)) so_0 vc_9 rfl rfl (Nat.le_of_ble_eq_true rfl) (by omega) rfl ⟨Nat.zero_le _, Nat.zero_le _⟩ (mv_kc fun r859 hs => ?_)
      refine mv_iload_n dX9_corners_28 rfl ?_
      refine mv_cV (st := []) dX9_corners_29 kk_X9_272 (TX8_cornerSquare_38 G d _ _ _ (mv_sat_bind hs)) so_38 vc_8 rfl rfl (Nat.le_of_ble_eq_true rfl) (by omega) rfl ⟨Nat.zero_le _, Nat.zero_le _⟩ (mv_ki fun r866 hs => ?_)
      refine mv_istore (lv' := [.ref 0, .int p0, .int p1, .int p2, .int r866]) dX9_corners_32 (Nat.le_of_ble_eq_true rfl) rfl rfl ?_
      refine mv_iload_n dX9_corners_34 rfl ?_
      refine mv_if_ne dX9_corners_35 hs (fun _ hs => ?_) (fun _ hs => ?_)
      · refine mv_iload dX9_corners_38 rfl ?_
        refine mv_cS (st := []) dX9_corners_40 kk_X9_275 (TX9_rootAbove G d _ _ _ (mv_sat_bind hs)) rfl rfl (Nat.le_of_ble_eq_true rfl) (by omega) rfl ⟨Nat.zero_le _, Nat.zero_le _⟩ (mv_ki fun r867 hs => ?_)
        refine mv_aload_n dX9_corners_43 rfl ?_
        refine mv_getr dX9_corners_44 kf_X9_10 gf_0_0 ?_
        refine mv_iconst 3 dX9_corners_47 (by decide) ?_
        refine mv_cV (st := [.int r867]) dX9_corners_48 kk_X9_114 (TX1_setting_1 G d _ _ _ (mv_sat_bind hs)) so_1 vc_1 rfl rfl (Nat.le_of_ble_eq_true rfl) (by omega) rfl ⟨Nat.zero_le _, Nat.zero_le _⟩ (mv_ki fun r868 hs => ?_)
        refine mv_iadd dX9_corners_51 ?_
        refine mv_goto dX9_corners_52 ?_
        exact mv_iret dX9_corners_64 rfl ⟨(r867 + r868, r859), rfl, rfl, rfl, mv_sat_some hs⟩
      · refine mv_sipush 10000 dX9_corners_55 (by decide) ?_
        refine mv_iload dX9_corners_58 rfl ?_
        refine mv_imul dX9_corners_60 ?_
        refine mv_cS (st := []) dX9_corners_61 kk_X9_278 (TX9_rootBelow G d _ _ _ (mv_sat_bind hs)) rfl rfl (Nat.le_of_ble_eq_true rfl) (by omega) rfl ⟨Nat.zero_le _, Nat.zero_le _⟩ (mv_ki fun r869 hs => ?_)
        exact mv_iret dX9_corners_64 rfl ⟨(r869, r859), rfl, rfl, rfl, mv_sat_some hs⟩
noncomputable def fX10_corners_55 (p0 : Int32) (p1 : Int32) (p2 : Int32) (h : mv_H) : Option (Int32 × mv_H) := (fX10_isBox_55 p0 h).bind fun r871 => if r871 = 0 then some ((-1), h) else (fX10_isAxis p1).bind fun r872 => if r872 = 0 then some ((-1), h) else (fX10_in (Int32.toInt64 p2) (0 : Int64) (1 : Int64)).bind fun r873 => if r873 = 0 then some ((-2), h) else (fX10_look_55 p0 h).bind fun r874 => if mv_in p1 3 then (if mv_in p1 3 then (mv_let ((r874 67 p1.toNatClampNeg) + (r874 69 p1.toNatClampNeg)) fun x875 : Int32 => if mv_in p1 3 then (if mv_in p1 3 then (mv_let ((r874 68 p1.toNatClampNeg) + (r874 69 p1.toNatClampNeg)) fun x876 : Int32 => mv_let (4 * ((x875 * x875) + (x876 * x876))) fun x877 : Int32 => if p2 = 0 then ((fX10_rootOf x877).bind fun r878 => some (r878 + (r874 55 10), r874)) else (fX10_rootOf (10000 * x877)).bind fun r879 => if (10000 * x877) < (r879 * r879) then some (r879 - 1, r874) else some (r879, r874)) else none) else none) else none) else none
set_option maxRecDepth 100000 in
set_option maxHeartbeats 4000000 in
theorem TX10_corners_55 (G : mv_G) (d : Nat) (P : Int32 × mv_H → Prop) (p0 : Int32) (p1 : Int32) (p2 : Int32) (h : mv_H) (hs : mv_sat (fX10_corners_55 p0 p1 p2 h) P) : mv_met G (d + 3) mX10_corners [.ref 55, .int p0, .int p1, .int p2] mv_SH h (mv_qI mv_SH P) := by
  unfold fX10_corners_55 at hs
  obtain ⟨D, hDe⟩ : ∃ D, D = d + 3 := ⟨_, rfl⟩
  rw [← hDe]
  have hD : d + 3 ≤ D := by omega
  refine mv_enter (lv := [.ref 55, .int p0, .int p1, .int p2, .float 0, .float 0, .float 0, .float 0]) 4 (by decide) (by decide +kernel) rfl (Nat.le_of_ble_eq_true rfl) ?_
  refine mv_aload_n dX10_corners_0 rfl ?_
  refine mv_iload_n dX10_corners_1 rfl ?_
  refine mv_cV (st := []) dX10_corners_2 kk_X10_146 (TX10_isBox_55 G d _ _ _ (mv_sat_bind hs)) so_55 vc_10 rfl rfl (Nat.le_of_ble_eq_true rfl) (by omega) rfl ⟨Nat.zero_le _, Nat.zero_le _⟩ (mv_ki fun r871 hs => ?_)
  refine mv_if_eq dX10_corners_5 hs (fun _ hs => ?_) (fun _ hs => ?_)
  · refine mv_iconst (-1) dX10_corners_15 (by decide) ?_
    exact mv_iret dX10_corners_16 rfl ⟨((-1), h), rfl, rfl, rfl, mv_sat_some hs⟩
  · refine mv_iload_n dX10_corners_8 rfl ?_
    refine mv_cS (st := []) dX10_corners_9 kk_X10_206 (TX10_isAxis G d _ _ _ (mv_sat_bind hs)) rfl rfl (Nat.le_of_ble_eq_true rfl) (by omega) rfl ⟨Nat.zero_le _, Nat.zero_le _⟩ (mv_ki fun r872 hs => ?_)
    refine mv_if_ne dX10_corners_12 hs (fun _ hs => ?_) (fun _ hs => ?_)
    · refine mv_iconst (-1) dX10_corners_15 (by decide) ?_
      exact mv_iret dX10_corners_16 rfl ⟨((-1), h), rfl, rfl, rfl, mv_sat_some hs⟩
    · refine mv_iload_n dX10_corners_17 rfl ?_
      refine mv_i2l dX10_corners_18 ?_
      refine mv_lconst 0 dX10_corners_19 rfl ?_
      refine mv_lconst 1 dX10_corners_20 rfl ?_
      refine mv_cS (st := []) dX10_corners_21 kk_X10_104 (TX10_in G d _ _ _ _ _ (mv_sat_bind hs)) rfl rfl (Nat.le_of_ble_eq_true rfl) (by omega) rfl ⟨Nat.zero_le _, Nat.zero_le _⟩ (mv_ki fun r873 hs => ?_)
      refine mv_if_ne dX10_corners_24 hs (fun _ hs => ?_) (fun _ hs => ?_)
      · refine mv_bipush (-2) dX10_corners_27 (by decide) ?_
        exact mv_iret dX10_corners_29 rfl ⟨((-2), h), rfl, rfl, rfl, mv_sat_some hs⟩
      · refine mv_aload_n dX10_corners_30 rfl ?_
        refine mv_iload_n dX10_corners_31 rfl ?_
        refine mv_cV (st := []) dX10_corners_32 kk_X10_209 (TX10_look_55 G d _ _ _ (mv_sat_bind hs)) so_55 vc_10 rfl rfl (Nat.le_of_ble_eq_true rfl) (by omega) rfl ⟨Nat.zero_le _, Nat.zero_le _⟩ (mv_kv fun r874 hs => ?_)
        refine mv_aload_n dX10_corners_35 rfl ?_
        refine mv_getr dX10_corners_36 kf_X10_43 gf_55_25 ?_
        refine mv_iload_n dX10_corners_39 rfl ?_
        refine mv_iaload dX10_corners_40 so_67 hs (fun hs => ?_)
        refine mv_aload_n dX10_corners_41 rfl ?_
        refine mv_getr dX10_corners_42 kf_X10_49 gf_55_27 ?_
        refine mv_iload_n dX10_corners_45 rfl ?_
        refine mv_iaload dX10_corners_46 so_69 hs (fun hs => ?_)
        refine mv_iadd dX10_corners_47 ?_
        refine mv_name hs (fun x875 hs => ?_)
        refine mv_istore (lv' := [.ref 55, .int p0, .int p1, .int p2, .int x875, .float 0, .float 0, .float 0]) dX10_corners_48 (Nat.le_of_ble_eq_true rfl) rfl rfl ?_
        refine mv_aload_n dX10_corners_50 rfl ?_
        refine mv_getr dX10_corners_51 kf_X10_46 gf_55_26 ?_
        refine mv_iload_n dX10_corners_54 rfl ?_
        refine mv_iaload dX10_corners_55 so_68 hs (fun hs => ?_)
        refine mv_aload_n dX10_corners_56 rfl ?_
        refine mv_getr dX10_corners_57 kf_X10_49 gf_55_27 ?_
        refine mv_iload_n dX10_corners_60 rfl ?_
        refine mv_iaload dX10_corners_61 so_69 hs (fun hs => ?_)
        refine mv_iadd dX10_corners_62 ?_
        refine mv_name hs (fun x876 hs => ?_)
        refine mv_istore (lv' := [.ref 55, .int p0, .int p1, .int p2, .int x875, .int x876, .float 0, .float 0]) dX10_corners_63 (Nat.le_of_ble_eq_true rfl) rfl rfl ?_
        refine mv_iconst 4 dX10_corners_65 (by decide) ?_
        refine mv_iload dX10_corners_66 rfl ?_
        refine mv_iload dX10_corners_68 rfl ?_
        refine mv_imul dX10_corners_70 ?_
        refine mv_iload dX10_corners_71 rfl ?_
        refine mv_iload dX10_corners_73 rfl ?_
        refine mv_imul dX10_corners_75 ?_
        refine mv_iadd dX10_corners_76 ?_
        refine mv_imul dX10_corners_77 ?_
        refine mv_name hs (fun x877 hs => ?_)
        refine mv_istore (lv' := [.ref 55, .int p0, .int p1, .int p2, .int x875, .int x876, .int x877, .float 0]) dX10_corners_78 (Nat.le_of_ble_eq_true rfl) rfl rfl ?_
        refine mv_iload_n dX10_corners_80 rfl ?_
        refine mv_if_ne dX10_corners_81 hs (fun _ hs => ?_) (fun _ hs => ?_)
        · refine mv_iload dX10_corners_84 rfl ?_
          refine mv_cS (st := []) dX10_corners_86 kk_X10_228 (TX10_rootOf G d _ _ _ (mv_sat_bind hs)) rfl rfl (Nat.le_of_ble_eq_true rfl) (by omega) rfl ⟨Nat.zero_le _, Nat.zero_le _⟩ (mv_ki fun r878 hs => ?_)
          refine mv_aload_n dX10_corners_89 rfl ?_
          refine mv_geti dX10_corners_90 kf_X10_99 gf_55_10 ?_
          refine mv_iadd dX10_corners_93 ?_
          exact mv_iret dX10_corners_94 rfl ⟨(r878 + (r874 55 10), r874), rfl, rfl, rfl, mv_sat_some hs⟩
        · refine mv_sipush 10000 dX10_corners_95 (by decide) ?_
          refine mv_iload dX10_corners_98 rfl ?_
          refine mv_imul dX10_corners_100 ?_
          refine mv_cS (st := []) dX10_corners_101 kk_X10_228 (TX10_rootOf G d _ _ _ (mv_sat_bind hs)) rfl rfl (Nat.le_of_ble_eq_true rfl) (by omega) rfl ⟨Nat.zero_le _, Nat.zero_le _⟩ (mv_ki fun r879 hs => ?_)
          refine mv_istore (lv' := [.ref 55, .int p0, .int p1, .int p2, .int x875, .int x876, .int x877, .int r879]) dX10_corners_104 (Nat.le_of_ble_eq_true rfl) rfl rfl ?_
          refine mv_iload dX10_corners_106 rfl ?_
          refine mv_iload dX10_corners_108 rfl ?_
          refine mv_imul dX10_corners_110 ?_
          refine mv_sipush 10000 dX10_corners_111 (by decide) ?_
          refine mv_iload dX10_corners_114 rfl ?_
          refine mv_imul dX10_corners_116 ?_
          refine mv_icmp_le dX10_corners_117 hs (fun _ hs => ?_) (fun _ hs => ?_)
          · refine mv_iload dX10_corners_120 rfl ?_
            refine mv_iconst 1 dX10_corners_122 (by decide) ?_
            refine mv_isub dX10_corners_123 ?_
            refine mv_goto dX10_corners_124 ?_
            exact mv_iret dX10_corners_129 rfl ⟨(r879 - 1, r874), rfl, rfl, rfl, mv_sat_some hs⟩
          · refine mv_iload dX10_corners_127 rfl ?_
            exact mv_iret dX10_corners_129 rfl ⟨(r879, r874), rfl, rfl, rfl, mv_sat_some hs⟩
noncomputable def fX7_side_4 (p0 : Int32) (p1 : Int32) (h : mv_H) : Option (Int32) := if p0 < 0 then some 0 else if p0 < 6 then (if p1 < 0 then some 0 else if p1 < 3 then (if mv_in ((p0 * 3) + p1) 18 then (some (h 5 ((p0 * 3) + p1).toNatClampNeg)) else none) else some 0) else some 0
set_option maxRecDepth 100000 in
set_option maxHeartbeats 4000000 in
theorem TX7_side_4 (G : mv_G) (d : Nat) (P : Int32 → Prop) (p0 : Int32) (p1 : Int32) (h : mv_H) (hs : mv_sat (fX7_side_4 p0 p1 h) P) : mv_met G (d + 0) mX7_side [.ref 4, .int p0, .int p1] mv_SH h (mv_qi mv_SH h P) := by
  unfold fX7_side_4 at hs
  obtain ⟨D, hDe⟩ : ∃ D, D = d + 0 := ⟨_, rfl⟩
  rw [← hDe]
  have hD : d + 0 ≤ D := by omega
  refine mv_enter (lv := [.ref 4, .int p0, .int p1]) 0 (by decide) (by decide +kernel) rfl (Nat.le_of_ble_eq_true rfl) ?_
  refine mv_iload_n dX7_side_0 rfl ?_
  refine mv_if_lt dX7_side_1 hs (fun _ hs => ?_) (fun _ hs => ?_)
  · refine mv_iconst 0 dX7_side_19 (by decide) ?_
    exact mv_iret dX7_side_20 rfl ⟨_, rfl, rfl, rfl, mv_sat_some hs⟩
  · refine mv_iload_n dX7_side_4 rfl ?_
    refine mv_bipush 6 dX7_side_5 (by decide) ?_
    refine mv_icmp_ge dX7_side_7 hs (fun _ hs => ?_) (fun _ hs => ?_)
    · refine mv_iload_n dX7_side_10 rfl ?_
      refine mv_if_lt dX7_side_11 hs (fun _ hs => ?_) (fun _ hs => ?_)
      · refine mv_iconst 0 dX7_side_19 (by decide) ?_
        exact mv_iret dX7_side_20 rfl ⟨_, rfl, rfl, rfl, mv_sat_some hs⟩
      · refine mv_iload_n dX7_side_14 rfl ?_
        refine mv_iconst 3 dX7_side_15 (by decide) ?_
        refine mv_icmp_lt dX7_side_16 hs (fun _ hs => ?_) (fun _ hs => ?_)
        · refine mv_aload_n dX7_side_21 rfl ?_
          refine mv_getr dX7_side_22 kf_X7_9 gf_4_1 ?_
          refine mv_iload_n dX7_side_25 rfl ?_
          refine mv_iconst 3 dX7_side_26 (by decide) ?_
          refine mv_imul dX7_side_27 ?_
          refine mv_iload_n dX7_side_28 rfl ?_
          refine mv_iadd dX7_side_29 ?_
          refine mv_iaload dX7_side_30 so_5 hs (fun hs => ?_)
          exact mv_iret dX7_side_31 rfl ⟨_, rfl, rfl, rfl, mv_sat_some hs⟩
        · refine mv_iconst 0 dX7_side_19 (by decide) ?_
          exact mv_iret dX7_side_20 rfl ⟨_, rfl, rfl, rfl, mv_sat_some hs⟩
    · refine mv_iconst 0 dX7_side_19 (by decide) ?_
      exact mv_iret dX7_side_20 rfl ⟨_, rfl, rfl, rfl, mv_sat_some hs⟩
noncomputable def fX7_lesserSide_4 (p0 : Int32) (h : mv_H) : Option (Int32) := (fX7_side_4 p0 (0 : Int32) h).bind fun r883 => (fX7_side_4 p0 (1 : Int32) h).bind fun r884 => (fX7_side_4 p0 (2 : Int32) h).bind fun r885 => some (mv_min r883 (mv_min r884 r885))
set_option maxRecDepth 100000 in
set_option maxHeartbeats 4000000 in
theorem TX7_lesserSide_4 (G : mv_G) (d : Nat) (P : Int32 → Prop) (p0 : Int32) (h : mv_H) (hs : mv_sat (fX7_lesserSide_4 p0 h) P) : mv_met G (d + 1) mX7_lesserSide [.ref 4, .int p0] mv_SH h (mv_qi mv_SH h P) := by
  unfold fX7_lesserSide_4 at hs
  obtain ⟨D, hDe⟩ : ∃ D, D = d + 1 := ⟨_, rfl⟩
  rw [← hDe]
  have hD : d + 1 ≤ D := by omega
  refine mv_enter (lv := [.ref 4, .int p0]) 0 (by decide) (by decide +kernel) rfl (Nat.le_of_ble_eq_true rfl) ?_
  refine mv_aload_n dX7_lesserSide_0 rfl ?_
  refine mv_iload_n dX7_lesserSide_1 rfl ?_
  refine mv_iconst 0 dX7_lesserSide_2 (by decide) ?_
  refine mv_cV (st := []) dX7_lesserSide_3 kk_X7_43 (TX7_side_4 G d _ _ _ _ (mv_sat_bind hs)) so_4 vc_7 rfl rfl (Nat.le_of_ble_eq_true rfl) (by omega) rfl ⟨Nat.zero_le _, Nat.zero_le _⟩ (mv_ki fun r883 hs => ?_)
  refine mv_aload_n dX7_lesserSide_6 rfl ?_
  refine mv_iload_n dX7_lesserSide_7 rfl ?_
  refine mv_iconst 1 dX7_lesserSide_8 (by decide) ?_
  refine mv_cV (st := [.int r883]) dX7_lesserSide_9 kk_X7_43 (TX7_side_4 G d _ _ _ _ (mv_sat_bind hs)) so_4 vc_7 rfl rfl (Nat.le_of_ble_eq_true rfl) (by omega) rfl ⟨Nat.zero_le _, Nat.zero_le _⟩ (mv_ki fun r884 hs => ?_)
  refine mv_aload_n dX7_lesserSide_12 rfl ?_
  refine mv_iload_n dX7_lesserSide_13 rfl ?_
  refine mv_iconst 2 dX7_lesserSide_14 (by decide) ?_
  refine mv_cV (st := [.int r884, .int r883]) dX7_lesserSide_15 kk_X7_43 (TX7_side_4 G d _ _ _ _ (mv_sat_bind hs)) so_4 vc_7 rfl rfl (Nat.le_of_ble_eq_true rfl) (by omega) rfl ⟨Nat.zero_le _, Nat.zero_le _⟩ (mv_ki fun r885 hs => ?_)
  refine mv_mmin dX7_lesserSide_18 kx_X7_50 kx_min_s kx_math kx_min_c (Nat.le_of_ble_eq_true rfl) (by omega) ⟨Nat.zero_le _, Nat.zero_le _⟩ ?_
  refine mv_mmin dX7_lesserSide_21 kx_X7_50 kx_min_s kx_math kx_min_c (Nat.le_of_ble_eq_true rfl) (by omega) ⟨Nat.zero_le _, Nat.zero_le _⟩ ?_
  exact mv_iret dX7_lesserSide_24 rfl ⟨_, rfl, rfl, rfl, mv_sat_some hs⟩
noncomputable def fX7_lesserSide_2 (p0 : Int32) (h : mv_H) : Option (Int32) := (fX7_side_2 p0 (0 : Int32) h).bind fun r887 => (fX7_side_2 p0 (1 : Int32) h).bind fun r888 => (fX7_side_2 p0 (2 : Int32) h).bind fun r889 => some (mv_min r887 (mv_min r888 r889))
set_option maxRecDepth 100000 in
set_option maxHeartbeats 4000000 in
theorem TX7_lesserSide_2 (G : mv_G) (d : Nat) (P : Int32 → Prop) (p0 : Int32) (h : mv_H) (hs : mv_sat (fX7_lesserSide_2 p0 h) P) : mv_met G (d + 1) mX7_lesserSide [.ref 2, .int p0] mv_SH h (mv_qi mv_SH h P) := by
  unfold fX7_lesserSide_2 at hs
  obtain ⟨D, hDe⟩ : ∃ D, D = d + 1 := ⟨_, rfl⟩
  rw [← hDe]
  have hD : d + 1 ≤ D := by omega
  refine mv_enter (lv := [.ref 2, .int p0]) 0 (by decide) (by decide +kernel) rfl (Nat.le_of_ble_eq_true rfl) ?_
  refine mv_aload_n dX7_lesserSide_0 rfl ?_
  refine mv_iload_n dX7_lesserSide_1 rfl ?_
  refine mv_iconst 0 dX7_lesserSide_2 (by decide) ?_
  refine mv_cV (st := []) dX7_lesserSide_3 kk_X7_43 (TX7_side_2 G d _ _ _ _ (mv_sat_bind hs)) so_2 vc_7 rfl rfl (Nat.le_of_ble_eq_true rfl) (by omega) rfl ⟨Nat.zero_le _, Nat.zero_le _⟩ (mv_ki fun r887 hs => ?_)
  refine mv_aload_n dX7_lesserSide_6 rfl ?_
  refine mv_iload_n dX7_lesserSide_7 rfl ?_
  refine mv_iconst 1 dX7_lesserSide_8 (by decide) ?_
  refine mv_cV (st := [.int r887]) dX7_lesserSide_9 kk_X7_43 (TX7_side_2 G d _ _ _ _ (mv_sat_bind hs)) so_2 vc_7 rfl rfl (Nat.le_of_ble_eq_true rfl) (by omega) rfl ⟨Nat.zero_le _, Nat.zero_le _⟩ (mv_ki fun r888 hs => ?_)
  refine mv_aload_n dX7_lesserSide_12 rfl ?_
  refine mv_iload_n dX7_lesserSide_13 rfl ?_
  refine mv_iconst 2 dX7_lesserSide_14 (by decide) ?_
  refine mv_cV (st := [.int r888, .int r887]) dX7_lesserSide_15 kk_X7_43 (TX7_side_2 G d _ _ _ _ (mv_sat_bind hs)) so_2 vc_7 rfl rfl (Nat.le_of_ble_eq_true rfl) (by omega) rfl ⟨Nat.zero_le _, Nat.zero_le _⟩ (mv_ki fun r889 hs => ?_)
  refine mv_mmin dX7_lesserSide_18 kx_X7_50 kx_min_s kx_math kx_min_c (Nat.le_of_ble_eq_true rfl) (by omega) ⟨Nat.zero_le _, Nat.zero_le _⟩ ?_
  refine mv_mmin dX7_lesserSide_21 kx_X7_50 kx_min_s kx_math kx_min_c (Nat.le_of_ble_eq_true rfl) (by omega) ⟨Nat.zero_le _, Nat.zero_le _⟩ ?_
  exact mv_iret dX7_lesserSide_24 rfl ⟨_, rfl, rfl, rfl, mv_sat_some hs⟩
noncomputable def fX7_greaterSide_4 (p0 : Int32) (h : mv_H) : Option (Int32) := (fX7_side_4 p0 (0 : Int32) h).bind fun r896 => (fX7_side_4 p0 (1 : Int32) h).bind fun r897 => (fX7_side_4 p0 (2 : Int32) h).bind fun r898 => some (mv_max r896 (mv_max r897 r898))
set_option maxRecDepth 100000 in
set_option maxHeartbeats 4000000 in
theorem TX7_greaterSide_4 (G : mv_G) (d : Nat) (P : Int32 → Prop) (p0 : Int32) (h : mv_H) (hs : mv_sat (fX7_greaterSide_4 p0 h) P) : mv_met G (d + 1) mX7_greaterSide [.ref 4, .int p0] mv_SH h (mv_qi mv_SH h P) := by
  unfold fX7_greaterSide_4 at hs
  obtain ⟨D, hDe⟩ : ∃ D, D = d + 1 := ⟨_, rfl⟩
  rw [← hDe]
  have hD : d + 1 ≤ D := by omega
  refine mv_enter (lv := [.ref 4, .int p0]) 0 (by decide) (by decide +kernel) rfl (Nat.le_of_ble_eq_true rfl) ?_
  refine mv_aload_n dX7_greaterSide_0 rfl ?_
  refine mv_iload_n dX7_greaterSide_1 rfl ?_
  refine mv_iconst 0 dX7_greaterSide_2 (by decide) ?_
  refine mv_cV (st := []) dX7_greaterSide_3 kk_X7_43 (TX7_side_4 G d _ _ _ _ (mv_sat_bind hs)) so_4 vc_7 rfl rfl (Nat.le_of_ble_eq_true rfl) (by omega) rfl ⟨Nat.zero_le _, Nat.zero_le _⟩ (mv_ki fun r896 hs => ?_)
  refine mv_aload_n dX7_greaterSide_6 rfl ?_
  refine mv_iload_n dX7_greaterSide_7 rfl ?_
  refine mv_iconst 1 dX7_greaterSide_8 (by decide) ?_
  refine mv_cV (st := [.int r896]) dX7_greaterSide_9 kk_X7_43 (TX7_side_4 G d _ _ _ _ (mv_sat_bind hs)) so_4 vc_7 rfl rfl (Nat.le_of_ble_eq_true rfl) (by omega) rfl ⟨Nat.zero_le _, Nat.zero_le _⟩ (mv_ki fun r897 hs => ?_)
  refine mv_aload_n dX7_greaterSide_12 rfl ?_
  refine mv_iload_n dX7_greaterSide_13 rfl ?_
  refine mv_iconst 2 dX7_greaterSide_14 (by decide) ?_
  refine mv_cV (st := [.int r897, .int r896]) dX7_greaterSide_15 kk_X7_43 (TX7_side_4 G d _ _ _ _ (mv_sat_bind hs)) so_4 vc_7 rfl rfl (Nat.le_of_ble_eq_true rfl) (by omega) rfl ⟨Nat.zero_le _, Nat.zero_le _⟩ (mv_ki fun r898 hs => ?_)
  refine mv_mmax dX7_greaterSide_18 kx_X7_55 kx_max_s kx_math kx_max_c (Nat.le_of_ble_eq_true rfl) (by omega) ⟨Nat.zero_le _, Nat.zero_le _⟩ ?_
  refine mv_mmax dX7_greaterSide_21 kx_X7_55 kx_max_s kx_math kx_max_c (Nat.le_of_ble_eq_true rfl) (by omega) ⟨Nat.zero_le _, Nat.zero_le _⟩ ?_
  exact mv_iret dX7_greaterSide_24 rfl ⟨_, rfl, rfl, rfl, mv_sat_some hs⟩
noncomputable def fX7_middleSide_4 (p0 : Int32) (h : mv_H) : Option (Int32) := (fX7_side_4 p0 (0 : Int32) h).bind fun r891 => (fX7_side_4 p0 (1 : Int32) h).bind fun r892 => (fX7_side_4 p0 (2 : Int32) h).bind fun r893 => mv_let ((r891 + r892) + r893) fun x894 : Int32 => (fX7_lesserSide_4 p0 h).bind fun r895 => (fX7_greaterSide_4 p0 h).bind fun r899 => some ((x894 - r895) - r899)
set_option maxRecDepth 100000 in
set_option maxHeartbeats 4000000 in
theorem TX7_middleSide_4 (G : mv_G) (d : Nat) (P : Int32 → Prop) (p0 : Int32) (h : mv_H) (hs : mv_sat (fX7_middleSide_4 p0 h) P) : mv_met G (d + 2) mX7_middleSide [.ref 4, .int p0] mv_SH h (mv_qi mv_SH h P) := by
  unfold fX7_middleSide_4 at hs
  obtain ⟨D, hDe⟩ : ∃ D, D = d + 2 := ⟨_, rfl⟩
  rw [← hDe]
  have hD : d + 2 ≤ D := by omega
  refine mv_enter (lv := [.ref 4, .int p0, .float 0]) 1 (by decide) (by decide +kernel) rfl (Nat.le_of_ble_eq_true rfl) ?_
  refine mv_aload_n dX7_middleSide_0 rfl ?_
  refine mv_iload_n dX7_middleSide_1 rfl ?_
  refine mv_iconst 0 dX7_middleSide_2 (by decide) ?_
  refine mv_cV (st := []) dX7_middleSide_3 kk_X7_43 (TX7_side_4 G d _ _ _ _ (mv_sat_bind hs)) so_4 vc_7 rfl rfl (Nat.le_of_ble_eq_true rfl) (by omega) rfl ⟨Nat.zero_le _, Nat.zero_le _⟩ (mv_ki fun r891 hs => ?_)
  refine mv_aload_n dX7_middleSide_6 rfl ?_
  refine mv_iload_n dX7_middleSide_7 rfl ?_
  refine mv_iconst 1 dX7_middleSide_8 (by decide) ?_
  refine mv_cV (st := [.int r891]) dX7_middleSide_9 kk_X7_43 (TX7_side_4 G d _ _ _ _ (mv_sat_bind hs)) so_4 vc_7 rfl rfl (Nat.le_of_ble_eq_true rfl) (by omega) rfl ⟨Nat.zero_le _, Nat.zero_le _⟩ (mv_ki fun r892 hs => ?_)
  refine mv_iadd dX7_middleSide_12 ?_
  refine mv_aload_n dX7_middleSide_13 rfl ?_
  refine mv_iload_n dX7_middleSide_14 rfl ?_
  refine mv_iconst 2 dX7_middleSide_15 (by decide) ?_
  refine mv_cV (st := [.int (r891 + r892)]) dX7_middleSide_16 kk_X7_43 (TX7_side_4 G d _ _ _ _ (mv_sat_bind hs)) so_4 vc_7 rfl rfl (Nat.le_of_ble_eq_true rfl) (by omega) rfl ⟨Nat.zero_le _, Nat.zero_le _⟩ (mv_ki fun r893 hs => ?_)
  refine mv_iadd dX7_middleSide_19 ?_
  refine mv_name hs (fun x894 hs => ?_)
  refine mv_istore_n (lv' := [.ref 4, .int p0, .int x894]) dX7_middleSide_20 (Nat.le_of_ble_eq_true rfl) rfl rfl ?_
  refine mv_iload_n dX7_middleSide_21 rfl ?_
  refine mv_aload_n dX7_middleSide_22 rfl ?_
  refine mv_iload_n dX7_middleSide_23 rfl ?_
  refine mv_cV (st := [.int x894]) dX7_middleSide_24 kk_X7_58 (TX7_lesserSide_4 G d _ _ _ (mv_sat_bind hs)) so_4 vc_7 rfl rfl (Nat.le_of_ble_eq_true rfl) (by omega) rfl ⟨Nat.zero_le _, Nat.zero_le _⟩ (mv_ki fun r895 hs => ?_)
  refine mv_isub dX7_middleSide_27 ?_
  refine mv_aload_n dX7_middleSide_28 rfl ?_
  refine mv_iload_n dX7_middleSide_29 rfl ?_
  refine mv_cV (st := [.int (x894 - r895)]) dX7_middleSide_30 kk_X7_61 (TX7_greaterSide_4 G d _ _ _ (mv_sat_bind hs)) so_4 vc_7 rfl rfl (Nat.le_of_ble_eq_true rfl) (by omega) rfl ⟨Nat.zero_le _, Nat.zero_le _⟩ (mv_ki fun r899 hs => ?_)
  refine mv_isub dX7_middleSide_33 ?_
  exact mv_iret dX7_middleSide_34 rfl ⟨_, rfl, rfl, rfl, mv_sat_some hs⟩
noncomputable def fX7_greaterSide_2 (p0 : Int32) (h : mv_H) : Option (Int32) := (fX7_side_2 p0 (0 : Int32) h).bind fun r906 => (fX7_side_2 p0 (1 : Int32) h).bind fun r907 => (fX7_side_2 p0 (2 : Int32) h).bind fun r908 => some (mv_max r906 (mv_max r907 r908))
set_option maxRecDepth 100000 in
set_option maxHeartbeats 4000000 in
theorem TX7_greaterSide_2 (G : mv_G) (d : Nat) (P : Int32 → Prop) (p0 : Int32) (h : mv_H) (hs : mv_sat (fX7_greaterSide_2 p0 h) P) : mv_met G (d + 1) mX7_greaterSide [.ref 2, .int p0] mv_SH h (mv_qi mv_SH h P) := by
  unfold fX7_greaterSide_2 at hs
  obtain ⟨D, hDe⟩ : ∃ D, D = d + 1 := ⟨_, rfl⟩
  rw [← hDe]
  have hD : d + 1 ≤ D := by omega
  refine mv_enter (lv := [.ref 2, .int p0]) 0 (by decide) (by decide +kernel) rfl (Nat.le_of_ble_eq_true rfl) ?_
  refine mv_aload_n dX7_greaterSide_0 rfl ?_
  refine mv_iload_n dX7_greaterSide_1 rfl ?_
  refine mv_iconst 0 dX7_greaterSide_2 (by decide) ?_
  refine mv_cV (st := []) dX7_greaterSide_3 kk_X7_43 (TX7_side_2 G d _ _ _ _ (mv_sat_bind hs)) so_2 vc_7 rfl rfl (Nat.le_of_ble_eq_true rfl) (by omega) rfl ⟨Nat.zero_le _, Nat.zero_le _⟩ (mv_ki fun r906 hs => ?_)
  refine mv_aload_n dX7_greaterSide_6 rfl ?_
  refine mv_iload_n dX7_greaterSide_7 rfl ?_
  refine mv_iconst 1 dX7_greaterSide_8 (by decide) ?_
  refine mv_cV (st := [.int r906]) dX7_greaterSide_9 kk_X7_43 (TX7_side_2 G d _ _ _ _ (mv_sat_bind hs)) so_2 vc_7 rfl rfl (Nat.le_of_ble_eq_true rfl) (by omega) rfl ⟨Nat.zero_le _, Nat.zero_le _⟩ (mv_ki fun r907 hs => ?_)
  refine mv_aload_n dX7_greaterSide_12 rfl ?_
  refine mv_iload_n dX7_greaterSide_13 rfl ?_
  refine mv_iconst 2 dX7_greaterSide_14 (by decide) ?_
  refine mv_cV (st := [.int r907, .int r906]) dX7_greaterSide_15 kk_X7_43 (TX7_side_2 G d _ _ _ _ (mv_sat_bind hs)) so_2 vc_7 rfl rfl (Nat.le_of_ble_eq_true rfl) (by omega) rfl ⟨Nat.zero_le _, Nat.zero_le _⟩ (mv_ki fun r908 hs => ?_)
  refine mv_mmax dX7_greaterSide_18 kx_X7_55 kx_max_s kx_math kx_max_c (Nat.le_of_ble_eq_true rfl) (by omega) ⟨Nat.zero_le _, Nat.zero_le _⟩ ?_
  refine mv_mmax dX7_greaterSide_21 kx_X7_55 kx_max_s kx_math kx_max_c (Nat.le_of_ble_eq_true rfl) (by omega) ⟨Nat.zero_le _, Nat.zero_le _⟩ ?_
  exact mv_iret dX7_greaterSide_24 rfl ⟨_, rfl, rfl, rfl, mv_sat_some hs⟩
noncomputable def fX7_middleSide_2 (p0 : Int32) (h : mv_H) : Option (Int32) := (fX7_side_2 p0 (0 : Int32) h).bind fun r901 => (fX7_side_2 p0 (1 : Int32) h).bind fun r902 => (fX7_side_2 p0 (2 : Int32) h).bind fun r903 => mv_let ((r901 + r902) + r903) fun x904 : Int32 => (fX7_lesserSide_2 p0 h).bind fun r905 => (fX7_greaterSide_2 p0 h).bind fun r909 => some ((x904 - r905) - r909)
set_option maxRecDepth 100000 in
set_option maxHeartbeats 4000000 in
theorem TX7_middleSide_2 (G : mv_G) (d : Nat) (P : Int32 → Prop) (p0 : Int32) (h : mv_H) (hs : mv_sat (fX7_middleSide_2 p0 h) P) : mv_met G (d + 2) mX7_middleSide [.ref 2, .int p0] mv_SH h (mv_qi mv_SH h P) := by
  unfold fX7_middleSide_2 at hs
  obtain ⟨D, hDe⟩ : ∃ D, D = d + 2 := ⟨_, rfl⟩
  rw [← hDe]
  have hD : d + 2 ≤ D := by omega
  refine mv_enter (lv := [.ref 2, .int p0, .float 0]) 1 (by decide) (by decide +kernel) rfl (Nat.le_of_ble_eq_true rfl) ?_
  refine mv_aload_n dX7_middleSide_0 rfl ?_
  refine mv_iload_n dX7_middleSide_1 rfl ?_
  refine mv_iconst 0 dX7_middleSide_2 (by decide) ?_
  refine mv_cV (st := []) dX7_middleSide_3 kk_X7_43 (TX7_side_2 G d _ _ _ _ (mv_sat_bind hs)) so_2 vc_7 rfl rfl (Nat.le_of_ble_eq_true rfl) (by omega) rfl ⟨Nat.zero_le _, Nat.zero_le _⟩ (mv_ki fun r901 hs => ?_)
  refine mv_aload_n dX7_middleSide_6 rfl ?_
  refine mv_iload_n dX7_middleSide_7 rfl ?_
  refine mv_iconst 1 dX7_middleSide_8 (by decide) ?_
  refine mv_cV (st := [.int r901]) dX7_middleSide_9 kk_X7_43 (TX7_side_2 G d _ _ _ _ (mv_sat_bind hs)) so_2 vc_7 rfl rfl (Nat.le_of_ble_eq_true rfl) (by omega) rfl ⟨Nat.zero_le _, Nat.zero_le _⟩ (mv_ki fun r902 hs => ?_)
  refine mv_iadd dX7_middleSide_12 ?_
  refine mv_aload_n dX7_middleSide_13 rfl ?_
  refine mv_iload_n dX7_middleSide_14 rfl ?_
  refine mv_iconst 2 dX7_middleSide_15 (by decide) ?_
  refine mv_cV (st := [.int (r901 + r902)]) dX7_middleSide_16 kk_X7_43 (TX7_side_2 G d _ _ _ _ (mv_sat_bind hs)) so_2 vc_7 rfl rfl (Nat.le_of_ble_eq_true rfl) (by omega) rfl ⟨Nat.zero_le _, Nat.zero_le _⟩ (mv_ki fun r903 hs => ?_)
  refine mv_iadd dX7_middleSide_19 ?_
  refine mv_name hs (fun x904 hs => ?_)
  refine mv_istore_n (lv' := [.ref 2, .int p0, .int x904]) dX7_middleSide_20 (Nat.le_of_ble_eq_true rfl) rfl rfl ?_
  refine mv_iload_n dX7_middleSide_21 rfl ?_
  refine mv_aload_n dX7_middleSide_22 rfl ?_
  refine mv_iload_n dX7_middleSide_23 rfl ?_
  refine mv_cV (st := [.int x904]) dX7_middleSide_24 kk_X7_58 (TX7_lesserSide_2 G d _ _ _ (mv_sat_bind hs)) so_2 vc_7 rfl rfl (Nat.le_of_ble_eq_true rfl) (by omega) rfl ⟨Nat.zero_le _, Nat.zero_le _⟩ (mv_ki fun r905 hs => ?_)
  refine mv_isub dX7_middleSide_27 ?_
  refine mv_aload_n dX7_middleSide_28 rfl ?_
  refine mv_iload_n dX7_middleSide_29 rfl ?_
  refine mv_cV (st := [.int (x904 - r905)]) dX7_middleSide_30 kk_X7_61 (TX7_greaterSide_2 G d _ _ _ (mv_sat_bind hs)) so_2 vc_7 rfl rfl (Nat.le_of_ble_eq_true rfl) (by omega) rfl ⟨Nat.zero_le _, Nat.zero_le _⟩ (mv_ki fun r909 hs => ?_)
  refine mv_isub dX7_middleSide_33 ?_
  exact mv_iret dX7_middleSide_34 rfl ⟨_, rfl, rfl, rfl, mv_sat_some hs⟩
noncomputable def fX9_isRoomFor_0 (p0 : Int32) (p1 : Int32) (h : mv_H) : Option (Int32) := (fX7_lesserSide_4 p0 h).bind fun r886 => (fX7_lesserSide_2 p1 h).bind fun r890 => if r890 < r886 then some 0 else (fX7_middleSide_4 p0 h).bind fun r900 => (fX7_middleSide_2 p1 h).bind fun r910 => if r910 < r900 then some 0 else (fX7_greaterSide_4 p0 h).bind fun r911 => (fX7_greaterSide_2 p1 h).bind fun r912 => if r912 < r911 then some 0 else some 1
set_option maxRecDepth 100000 in
set_option maxHeartbeats 4000000 in
theorem TX9_isRoomFor_0 (G : mv_G) (d : Nat) (P : Int32 → Prop) (p0 : Int32) (p1 : Int32) (h : mv_H) (hs : mv_sat (fX9_isRoomFor_0 p0 p1 h) P) : mv_met G (d + 3) mX9_isRoomFor [.ref 0, .int p0, .int p1] mv_SH h (mv_qi mv_SH h P) := by
  unfold fX9_isRoomFor_0 at hs
  obtain ⟨D, hDe⟩ : ∃ D, D = d + 3 := ⟨_, rfl⟩
  rw [← hDe]
  have hD : d + 3 ≤ D := by omega
  refine mv_enter (lv := [.ref 0, .int p0, .int p1, .float 0, .float 0]) 2 (by decide) (by decide +kernel) rfl (Nat.le_of_ble_eq_true rfl) ?_
  refine mv_aload_n dX9_isRoomFor_0 rfl ?_
  refine mv_getr dX9_isRoomFor_1 kf_X9_10 gf_0_0 ?_
  refine mv_getr dX9_isRoomFor_4 kf_X9_72 gf_1_1 ?_
  refine mv_astore_n (lv' := [.ref 0, .int p0, .int p1, .ref 4, .float 0]) dX9_isRoomFor_7 (Nat.le_of_ble_eq_true rfl) rfl rfl ?_
  refine mv_aload_n dX9_isRoomFor_8 rfl ?_
  refine mv_getr dX9_isRoomFor_9 kf_X9_10 gf_0_0 ?_
  refine mv_getr dX9_isRoomFor_12 kf_X9_64 gf_1_0 ?_
  refine mv_astore (lv' := [.ref 0, .int p0, .int p1, .ref 4, .ref 2]) dX9_isRoomFor_15 (Nat.le_of_ble_eq_true rfl) rfl rfl ?_
  refine mv_aload_n dX9_isRoomFor_17 rfl ?_
  refine mv_iload_n dX9_isRoomFor_18 rfl ?_
  refine mv_cV (st := []) dX9_isRoomFor_19 kk_X9_360 (TX7_lesserSide_4 G d _ _ _ (mv_sat_bind hs)) so_4 vc_7 rfl rfl (Nat.le_of_ble_eq_true rfl) (by omega) rfl ⟨Nat.zero_le _, Nat.zero_le _⟩ (mv_ki fun r886 hs => ?_)
  refine mv_aload dX9_isRoomFor_22 rfl ?_
  refine mv_iload_n dX9_isRoomFor_24 rfl ?_
  refine mv_cV (st := [.int r886]) dX9_isRoomFor_25 kk_X9_360 (TX7_lesserSide_2 G d _ _ _ (mv_sat_bind hs)) so_2 vc_7 rfl rfl (Nat.le_of_ble_eq_true rfl) (by omega) rfl ⟨Nat.zero_le _, Nat.zero_le _⟩ (mv_ki fun r890 hs => ?_)
  refine mv_icmp_gt dX9_isRoomFor_28 hs (fun _ hs => ?_) (fun _ hs => ?_)
  · refine mv_iconst 0 dX9_isRoomFor_63 (by decide) ?_
    exact mv_zret dX9_isRoomFor_64 rfl (Or.inl rfl) ⟨_, rfl, rfl, rfl, mv_sat_some hs⟩
  · refine mv_aload_n dX9_isRoomFor_31 rfl ?_
    refine mv_iload_n dX9_isRoomFor_32 rfl ?_
    refine mv_cV (st := []) dX9_isRoomFor_33 kk_X9_363 (TX7_middleSide_4 G d _ _ _ (mv_sat_bind hs)) so_4 vc_7 rfl rfl (Nat.le_of_ble_eq_true rfl) (by omega) rfl ⟨Nat.zero_le _, Nat.zero_le _⟩ (mv_ki fun r900 hs => ?_)
    refine mv_aload dX9_isRoomFor_36 rfl ?_
    refine mv_iload_n dX9_isRoomFor_38 rfl ?_
    refine mv_cV (st := [.int r900]) dX9_isRoomFor_39 kk_X9_363 (TX7_middleSide_2 G d _ _ _ (mv_sat_bind hs)) so_2 vc_7 rfl rfl (Nat.le_of_ble_eq_true rfl) (by omega) rfl ⟨Nat.zero_le _, Nat.zero_le _⟩ (mv_ki fun r910 hs => ?_)
    refine mv_icmp_gt dX9_isRoomFor_42 hs (fun _ hs => ?_) (fun _ hs => ?_)
    · refine mv_iconst 0 dX9_isRoomFor_63 (by decide) ?_
      exact mv_zret dX9_isRoomFor_64 rfl (Or.inl rfl) ⟨_, rfl, rfl, rfl, mv_sat_some hs⟩
    · refine mv_aload_n dX9_isRoomFor_45 rfl ?_
      refine mv_iload_n dX9_isRoomFor_46 rfl ?_
      refine mv_cV (st := []) dX9_isRoomFor_47 kk_X9_366 (TX7_greaterSide_4 G d _ _ _ (mv_sat_bind hs)) so_4 vc_7 rfl rfl (Nat.le_of_ble_eq_true rfl) (by omega) rfl ⟨Nat.zero_le _, Nat.zero_le _⟩ (mv_ki fun r911 hs => ?_)
      refine mv_aload dX9_isRoomFor_50 rfl ?_
      refine mv_iload_n dX9_isRoomFor_52 rfl ?_
      refine mv_cV (st := [.int r911]) dX9_isRoomFor_53 kk_X9_366 (TX7_greaterSide_2 G d _ _ _ (mv_sat_bind hs)) so_2 vc_7 rfl rfl (Nat.le_of_ble_eq_true rfl) (by omega) rfl ⟨Nat.zero_le _, Nat.zero_le _⟩ (mv_ki fun r912 hs => ?_)
      refine mv_icmp_gt dX9_isRoomFor_56 hs (fun _ hs => ?_) (fun _ hs => ?_)
      · refine mv_iconst 0 dX9_isRoomFor_63 (by decide) ?_
        exact mv_zret dX9_isRoomFor_64 rfl (Or.inl rfl) ⟨_, rfl, rfl, rfl, mv_sat_some hs⟩
      · refine mv_iconst 1 dX9_isRoomFor_59 (by decide) ?_
        refine mv_goto dX9_isRoomFor_60 ?_
        exact mv_zret dX9_isRoomFor_64 rfl (Or.inr rfl) ⟨_, rfl, rfl, rfl, mv_sat_some hs⟩
noncomputable def fX9_fits_0 (p0 : Int32) (p1 : Int32) (h : mv_H) : Option (Int32) := (fX7_has_4 p0 h).bind fun r881 => if r881 = 0 then some (-1) else (fX7_has_2 p1 h).bind fun r882 => if r882 = 0 then some (-1) else (fX9_isRoomFor_0 p0 p1 h).bind fun r913 => if r913 = 0 then some 0 else some 1
set_option maxRecDepth 100000 in
set_option maxHeartbeats 4000000 in
theorem TX9_fits_0 (G : mv_G) (d : Nat) (P : Int32 → Prop) (p0 : Int32) (p1 : Int32) (h : mv_H) (hs : mv_sat (fX9_fits_0 p0 p1 h) P) : mv_met G (d + 4) mX9_fits [.ref 0, .int p0, .int p1] mv_SH h (mv_qi mv_SH h P) := by
  unfold fX9_fits_0 at hs
  obtain ⟨D, hDe⟩ : ∃ D, D = d + 4 := ⟨_, rfl⟩
  rw [← hDe]
  have hD : d + 4 ≤ D := by omega
  refine mv_enter (lv := [.ref 0, .int p0, .int p1]) 0 (by decide) (by decide +kernel) rfl (Nat.le_of_ble_eq_true rfl) ?_
  refine mv_aload_n dX9_fits_0 rfl ?_
  refine mv_getr dX9_fits_1 kf_X9_10 gf_0_0 ?_
  refine mv_getr dX9_fits_4 kf_X9_72 gf_1_1 ?_
  refine mv_iload_n dX9_fits_7 rfl ?_
  refine mv_cV (st := []) dX9_fits_8 kk_X9_100 (TX7_has_4 G d _ _ _ (mv_sat_bind hs)) so_4 vc_7 rfl rfl (Nat.le_of_ble_eq_true rfl) (by omega) rfl ⟨Nat.zero_le _, Nat.zero_le _⟩ (mv_ki fun r881 hs => ?_)
  refine mv_if_eq dX9_fits_11 hs (fun _ hs => ?_) (fun _ hs => ?_)
  · refine mv_iconst (-1) dX9_fits_28 (by decide) ?_
    exact mv_iret dX9_fits_29 rfl ⟨_, rfl, rfl, rfl, mv_sat_some hs⟩
  · refine mv_aload_n dX9_fits_14 rfl ?_
    refine mv_getr dX9_fits_15 kf_X9_10 gf_0_0 ?_
    refine mv_getr dX9_fits_18 kf_X9_64 gf_1_0 ?_
    refine mv_iload_n dX9_fits_21 rfl ?_
    refine mv_cV (st := []) dX9_fits_22 kk_X9_100 (TX7_has_2 G d _ _ _ (mv_sat_bind hs)) so_2 vc_7 rfl rfl (Nat.le_of_ble_eq_true rfl) (by omega) rfl ⟨Nat.zero_le _, Nat.zero_le _⟩ (mv_ki fun r882 hs => ?_)
    refine mv_if_ne dX9_fits_25 hs (fun _ hs => ?_) (fun _ hs => ?_)
    · refine mv_iconst (-1) dX9_fits_28 (by decide) ?_
      exact mv_iret dX9_fits_29 rfl ⟨_, rfl, rfl, rfl, mv_sat_some hs⟩
    · refine mv_aload_n dX9_fits_30 rfl ?_
      refine mv_iload_n dX9_fits_31 rfl ?_
      refine mv_iload_n dX9_fits_32 rfl ?_
      refine mv_cV (st := []) dX9_fits_33 kk_X9_281 (TX9_isRoomFor_0 G d _ _ _ _ (mv_sat_bind hs)) so_0 vc_9 rfl rfl (Nat.le_of_ble_eq_true rfl) (by omega) rfl ⟨Nat.zero_le _, Nat.zero_le _⟩ (mv_ki fun r913 hs => ?_)
      refine mv_if_eq dX9_fits_36 hs (fun _ hs => ?_) (fun _ hs => ?_)
      · refine mv_iconst 0 dX9_fits_43 (by decide) ?_
        exact mv_iret dX9_fits_44 rfl ⟨_, rfl, rfl, rfl, mv_sat_some hs⟩
      · refine mv_iconst 1 dX9_fits_39 (by decide) ?_
        refine mv_goto dX9_fits_40 ?_
        exact mv_iret dX9_fits_44 rfl ⟨_, rfl, rfl, rfl, mv_sat_some hs⟩
noncomputable def fX10_sortSides_55_b65 (v1 : Int32) (v2 : Int32) (v3 : Int32) (v4 : Int32) (s0 : Int32) (s1 : Int32) (h : mv_H) : Option (mv_H) := if mv_in s1 6 then mv_let (mv_u h 79 s1.toNatClampNeg s0) fun h918 : mv_H => (if mv_in v1 6 then (if mv_in (v1 + 2) 6 then (if mv_in (v1 + 1) 6 then mv_let (mv_u h918 79 (v1 + 1).toNatClampNeg ((((v2 + v3) + v4) - (h918 79 v1.toNatClampNeg)) - (h918 79 (v1 + 2).toNatClampNeg))) fun h919 : mv_H => (some h919) else none) else none) else none) else none
set_option maxRecDepth 100000 in
set_option maxHeartbeats 4000000 in
theorem BX10_sortSides_55_b65 (G : mv_G) (d D : Nat) (hD : d + 0 ≤ D) (P : mv_H → Prop) (v1 : Int32) (v2 : Int32) (v3 : Int32) (v4 : Int32) (s0 : Int32) (s1 : Int32) (h : mv_H) (hs : mv_sat (fX10_sortSides_55_b65 v1 v2 v3 v4 s0 s1 h) P) : mv_MW G mX10_sortSides (mv_rm D mX10_sortSides) (mv_Zf G mX10_sortSides (mv_qv mv_SH P)) 0 0 65 [.ref 55, .int v1, .int v2, .int v3, .int v4, .float 0, .float 0] [.int s0, .int s1, .ref 79] mv_SH h := by
  unfold fX10_sortSides_55_b65 at hs
  refine mv_iastore dX10_sortSides_65 so_79 hs (fun hs => ?_)
  refine mv_nameH hs (fun h918 hs => ?_)
  refine mv_aload_n dX10_sortSides_66 rfl ?_
  refine mv_getr dX10_sortSides_67 kf_X10_79 gf_55_40 ?_
  refine mv_iload_n dX10_sortSides_70 rfl ?_
  refine mv_iconst 1 dX10_sortSides_71 (by decide) ?_
  refine mv_iadd dX10_sortSides_72 ?_
  refine mv_iload_n dX10_sortSides_73 rfl ?_
  refine mv_iload_n dX10_sortSides_74 rfl ?_
  refine mv_iadd dX10_sortSides_75 ?_
  refine mv_iload dX10_sortSides_76 rfl ?_
  refine mv_iadd dX10_sortSides_78 ?_
  refine mv_aload_n dX10_sortSides_79 rfl ?_
  refine mv_getr dX10_sortSides_80 kf_X10_79 gf_55_40 ?_
  refine mv_iload_n dX10_sortSides_83 rfl ?_
  refine mv_iaload dX10_sortSides_84 so_79 hs (fun hs => ?_)
  refine mv_isub dX10_sortSides_85 ?_
  refine mv_aload_n dX10_sortSides_86 rfl ?_
  refine mv_getr dX10_sortSides_87 kf_X10_79 gf_55_40 ?_
  refine mv_iload_n dX10_sortSides_90 rfl ?_
  refine mv_iconst 2 dX10_sortSides_91 (by decide) ?_
  refine mv_iadd dX10_sortSides_92 ?_
  refine mv_iaload dX10_sortSides_93 so_79 hs (fun hs => ?_)
  refine mv_isub dX10_sortSides_94 ?_
  refine mv_iastore dX10_sortSides_95 so_79 hs (fun hs => ?_)
  refine mv_nameH hs (fun h919 hs => ?_)
  exact mv_vret dX10_sortSides_96 rfl ⟨_, rfl, rfl, rfl, mv_sat_some hs⟩
noncomputable def fX10_sortSides_55_b43 (v1 : Int32) (v2 : Int32) (v3 : Int32) (v4 : Int32) (v6 : Int32) (s0 : Int32) (s1 : Int32) (h : mv_H) : Option (mv_H) := if mv_in s1 6 then mv_let (mv_u h 79 s1.toNatClampNeg s0) fun h917 : mv_H => (if v4 < v6 then fX10_sortSides_55_b65 v1 v2 v3 v4 v6 (v1 + 2) h917 else fX10_sortSides_55_b65 v1 v2 v3 v4 v4 (v1 + 2) h917) else none
set_option maxRecDepth 100000 in
set_option maxHeartbeats 4000000 in
theorem BX10_sortSides_55_b43 (G : mv_G) (d D : Nat) (hD : d + 0 ≤ D) (P : mv_H → Prop) (v1 : Int32) (v2 : Int32) (v3 : Int32) (v4 : Int32) (v6 : Int32) (s0 : Int32) (s1 : Int32) (h : mv_H) (hs : mv_sat (fX10_sortSides_55_b43 v1 v2 v3 v4 v6 s0 s1 h) P) : mv_MW G mX10_sortSides (mv_rm D mX10_sortSides) (mv_Zf G mX10_sortSides (mv_qv mv_SH P)) 0 0 43 [.ref 55, .int v1, .int v2, .int v3, .int v4, .float 0, .int v6] [.int s0, .int s1, .ref 79] mv_SH h := by
  unfold fX10_sortSides_55_b43 at hs
  refine mv_iastore dX10_sortSides_43 so_79 hs (fun hs => ?_)
  refine mv_nameH hs (fun h917 hs => ?_)
  refine mv_aload_n dX10_sortSides_44 rfl ?_
  refine mv_getr dX10_sortSides_45 kf_X10_79 gf_55_40 ?_
  refine mv_iload_n dX10_sortSides_48 rfl ?_
  refine mv_iconst 2 dX10_sortSides_49 (by decide) ?_
  refine mv_iadd dX10_sortSides_50 ?_
  refine mv_iload dX10_sortSides_51 rfl ?_
  refine mv_iload dX10_sortSides_53 rfl ?_
  refine mv_icmp_le dX10_sortSides_55 hs (fun _ hs => ?_) (fun _ hs => ?_)
  · refine mv_iload dX10_sortSides_58 rfl ?_
    refine mv_goto dX10_sortSides_60 ?_
    exact mv_weak (lv' := [.ref 55, .int v1, .int v2, .int v3, .int v4, .float 0, .float 0]) (mv_s (mv_s (mv_s (mv_s (mv_s (mv_s (mv_k mv_n))))))) (BX10_sortSides_55_b65 G d D (by omega) P _ _ _ _ _ _ _ hs)
  · refine mv_iload dX10_sortSides_63 rfl ?_
    exact mv_weak (lv' := [.ref 55, .int v1, .int v2, .int v3, .int v4, .float 0, .float 0]) (mv_s (mv_s (mv_s (mv_s (mv_s (mv_s (mv_k mv_n))))))) (BX10_sortSides_55_b65 G d D (by omega) P _ _ _ _ _ _ _ hs)
noncomputable def fX10_sortSides_55_b22 (v1 : Int32) (v2 : Int32) (v3 : Int32) (v4 : Int32) (v5 : Int32) (s0 : Int32) (h : mv_H) : Option (mv_H) := if v5 < v4 then fX10_sortSides_55_b43 v1 v2 v3 v4 s0 v5 v1 h else fX10_sortSides_55_b43 v1 v2 v3 v4 s0 v4 v1 h
set_option maxRecDepth 100000 in
set_option maxHeartbeats 4000000 in
theorem BX10_sortSides_55_b22 (G : mv_G) (d D : Nat) (hD : d + 0 ≤ D) (P : mv_H → Prop) (v1 : Int32) (v2 : Int32) (v3 : Int32) (v4 : Int32) (v5 : Int32) (s0 : Int32) (h : mv_H) (hs : mv_sat (fX10_sortSides_55_b22 v1 v2 v3 v4 v5 s0 h) P) : mv_MW G mX10_sortSides (mv_rm D mX10_sortSides) (mv_Zf G mX10_sortSides (mv_qv mv_SH P)) 0 0 22 [.ref 55, .int v1, .int v2, .int v3, .int v4, .int v5, .float 0] [.int s0] mv_SH h := by
  unfold fX10_sortSides_55_b22 at hs
  refine mv_istore (lv' := [.ref 55, .int v1, .int v2, .int v3, .int v4, .int v5, .int s0]) dX10_sortSides_22 (Nat.le_of_ble_eq_true rfl) rfl rfl ?_
  refine mv_aload_n dX10_sortSides_24 rfl ?_
  refine mv_getr dX10_sortSides_25 kf_X10_79 gf_55_40 ?_
  refine mv_iload_n dX10_sortSides_28 rfl ?_
  refine mv_iload dX10_sortSides_29 rfl ?_
  refine mv_iload dX10_sortSides_31 rfl ?_
  refine mv_icmp_ge dX10_sortSides_33 hs (fun _ hs => ?_) (fun _ hs => ?_)
  · refine mv_iload dX10_sortSides_36 rfl ?_
    refine mv_goto dX10_sortSides_38 ?_
    exact mv_weak (lv' := [.ref 55, .int v1, .int v2, .int v3, .int v4, .float 0, .int s0]) (mv_s (mv_s (mv_s (mv_s (mv_s (mv_k (mv_s mv_n))))))) (BX10_sortSides_55_b43 G d D (by omega) P _ _ _ _ _ _ _ _ hs)
  · refine mv_iload dX10_sortSides_41 rfl ?_
    exact mv_weak (lv' := [.ref 55, .int v1, .int v2, .int v3, .int v4, .float 0, .int s0]) (mv_s (mv_s (mv_s (mv_s (mv_s (mv_k (mv_s mv_n))))))) (BX10_sortSides_55_b43 G d D (by omega) P _ _ _ _ _ _ _ _ hs)
noncomputable def fX10_sortSides_55_b10 (v1 : Int32) (v2 : Int32) (v3 : Int32) (v4 : Int32) (s0 : Int32) (h : mv_H) : Option (mv_H) := if v2 < v3 then fX10_sortSides_55_b22 v1 v2 v3 v4 s0 v3 h else fX10_sortSides_55_b22 v1 v2 v3 v4 s0 v2 h
set_option maxRecDepth 100000 in
set_option maxHeartbeats 4000000 in
theorem BX10_sortSides_55_b10 (G : mv_G) (d D : Nat) (hD : d + 0 ≤ D) (P : mv_H → Prop) (v1 : Int32) (v2 : Int32) (v3 : Int32) (v4 : Int32) (s0 : Int32) (h : mv_H) (hs : mv_sat (fX10_sortSides_55_b10 v1 v2 v3 v4 s0 h) P) : mv_MW G mX10_sortSides (mv_rm D mX10_sortSides) (mv_Zf G mX10_sortSides (mv_qv mv_SH P)) 0 0 10 [.ref 55, .int v1, .int v2, .int v3, .int v4, .float 0, .float 0] [.int s0] mv_SH h := by
  unfold fX10_sortSides_55_b10 at hs
  refine mv_istore (lv' := [.ref 55, .int v1, .int v2, .int v3, .int v4, .int s0, .float 0]) dX10_sortSides_10 (Nat.le_of_ble_eq_true rfl) rfl rfl ?_
  refine mv_iload_n dX10_sortSides_12 rfl ?_
  refine mv_iload_n dX10_sortSides_13 rfl ?_
  refine mv_icmp_ge dX10_sortSides_14 hs (fun _ hs => ?_) (fun _ hs => ?_)
  · refine mv_iload_n dX10_sortSides_17 rfl ?_
    refine mv_goto dX10_sortSides_18 ?_
    exact (BX10_sortSides_55_b22 G d D (by omega) P _ _ _ _ _ _ _ hs)
  · refine mv_iload_n dX10_sortSides_21 rfl ?_
    exact (BX10_sortSides_55_b22 G d D (by omega) P _ _ _ _ _ _ _ hs)
noncomputable def fX10_sortSides_55 (p0 : Int32) (p1 : Int32) (p2 : Int32) (p3 : Int32) (h : mv_H) : Option (mv_H) := if p1 < p2 then fX10_sortSides_55_b10 p0 p1 p2 p3 p1 h else fX10_sortSides_55_b10 p0 p1 p2 p3 p2 h
set_option maxRecDepth 100000 in
set_option maxHeartbeats 4000000 in
theorem TX10_sortSides_55 (G : mv_G) (d : Nat) (P : mv_H → Prop) (p0 : Int32) (p1 : Int32) (p2 : Int32) (p3 : Int32) (h : mv_H) (hs : mv_sat (fX10_sortSides_55 p0 p1 p2 p3 h) P) : mv_met G (d + 0) mX10_sortSides [.ref 55, .int p0, .int p1, .int p2, .int p3] mv_SH h (mv_qv mv_SH P) := by
  unfold fX10_sortSides_55 at hs
  obtain ⟨D, hDe⟩ : ∃ D, D = d + 0 := ⟨_, rfl⟩
  rw [← hDe]
  have hD : d + 0 ≤ D := by omega
  refine mv_enter (lv := [.ref 55, .int p0, .int p1, .int p2, .int p3, .float 0, .float 0]) 2 (by decide) (by decide +kernel) rfl (Nat.le_of_ble_eq_true rfl) ?_
  refine mv_iload_n dX10_sortSides_0 rfl ?_
  refine mv_iload_n dX10_sortSides_1 rfl ?_
  refine mv_icmp_ge dX10_sortSides_2 hs (fun _ hs => ?_) (fun _ hs => ?_)
  · refine mv_iload_n dX10_sortSides_5 rfl ?_
    refine mv_goto dX10_sortSides_6 ?_
    exact (BX10_sortSides_55_b10 G d D (by omega) P _ _ _ _ _ _ hs)
  · refine mv_iload_n dX10_sortSides_9 rfl ?_
    exact (BX10_sortSides_55_b10 G d D (by omega) P _ _ _ _ _ _ hs)
