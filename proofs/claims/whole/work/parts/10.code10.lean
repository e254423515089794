/-! printed by program: what a method does, as a function, and that it does it -/
noncomputable def fX10_undone_55 (p0 : Int32) (p1 : Int32) (h : mv_H) : Option (Int32) := (fX10_in (Int32.toInt64 p0) (0 : Int64) (89 : Int64)).bind fun r1056 => if r1056 = 0 then some (-2) else (fX10_in (Int32.toInt64 p1) (0 : Int64) (1 : Int64)).bind fun r1057 => if r1057 = 0 then some (-2) else fX10_undone_55_b34 mv_F p0 p1 0 (-6) 1 h
set_option maxRecDepth 100000 in
set_option maxHeartbeats 4000000 in
theorem TX10_undone_55 (G : mv_G) (d : Nat) (P : Int32 → Prop) (p0 : Int32) (p1 : Int32) (h : mv_H) (hs : mv_sat (fX10_undone_55 p0 p1 h) P) : mv_met G (d + 1) mX10_undone [.ref 55, .int p0, .int p1] mv_SH h (mv_qi mv_SH h P) := by
  unfold fX10_undone_55 at hs
  obtain ⟨D, hDe⟩ : ∃ D, D = d + 1 := ⟨_, rfl⟩
  rw [← hDe]
  have hD : d + 1 ≤ D := by omega
  refine mv_enter (lv := [.ref 55, .int p0, .int p1, .float 0, .float 0, .float 0, .float 0, .float 0]) 5 (by decide) (by decide +kernel) rfl (Nat.le_of_ble_eq_true rfl) ?_
  refine mv_iload_n dX10_undone_0 rfl ?_
  refine mv_i2l dX10_undone_1 ?_
  refine mv_lconst 0 dX10_undone_2 rfl ?_
  refine mv_ldc2 dX10_undone_3 kn_X10_336 ?_
  refine mv_cS (st := []) dX10_undone_6 kk_X10_104 (TX10_in G d _ _ _ _ _ (mv_sat_bind hs)) rfl rfl (Nat.le_of_ble_eq_true rfl) (by omega) rfl ⟨Nat.zero_le _, Nat.zero_le _⟩ (mv_ki fun r1056 hs => ?_)
  refine mv_if_eq dX10_undone_9 hs (fun _ hs => ?_) (fun _ hs => ?_)
  · refine mv_bipush (-2) dX10_undone_22 (by decide) ?_
    exact mv_iret dX10_undone_24 rfl ⟨_, rfl, rfl, rfl, mv_sat_some hs⟩
  · refine mv_iload_n dX10_undone_12 rfl ?_
    refine mv_i2l dX10_undone_13 ?_
    refine mv_lconst 0 dX10_undone_14 rfl ?_
    refine mv_lconst 1 dX10_undone_15 rfl ?_
    refine mv_cS (st := []) dX10_undone_16 kk_X10_104 (TX10_in G d _ _ _ _ _ (mv_sat_bind hs)) rfl rfl (Nat.le_of_ble_eq_true rfl) (by omega) rfl ⟨Nat.zero_le _, Nat.zero_le _⟩ (mv_ki fun r1057 hs => ?_)
    refine mv_if_ne dX10_undone_19 hs (fun _ hs => ?_) (fun _ hs => ?_)
    · refine mv_bipush (-2) dX10_undone_22 (by decide) ?_
      exact mv_iret dX10_undone_24 rfl ⟨_, rfl, rfl, rfl, mv_sat_some hs⟩
    · refine mv_iconst 0 dX10_undone_25 (by decide) ?_
      refine mv_istore_n (lv' := [.ref 55, .int p0, .int p1, .int 0, .float 0, .float 0, .float 0, .float 0]) dX10_undone_26 (Nat.le_of_ble_eq_true rfl) rfl rfl ?_
      refine mv_bipush (-6) dX10_undone_27 (by decide) ?_
      refine mv_istore (lv' := [.ref 55, .int p0, .int p1, .int 0, .int (-6), .float 0, .float 0, .float 0]) dX10_undone_29 (Nat.le_of_ble_eq_true rfl) rfl rfl ?_
      refine mv_iconst 1 dX10_undone_31 (by decide) ?_
      refine mv_istore (lv' := [.ref 55, .int p0, .int p1, .int 0, .int (-6), .int 1, .float 0, .float 0]) dX10_undone_32 (Nat.le_of_ble_eq_true rfl) rfl rfl ?_
      exact (BX10_undone_55_b34 G d D (by omega) P _ _ _ _ _ _ _ hs)
noncomputable def fX9_year_0_b204 (k66 : Int32 → Int32 → Int32 → Int32 → Int32 → Int32 → Int32 → Int32 → mv_H → Option (Int32 × mv_H)) (v2 : Int32) (v3 : Int32) (v4 : Int32) (v5 : Int32) (v6 : Int32) (v7 : Int32) (v8 : Int32) (v9 : Int32) (h : mv_H) : Option (Int32 × mv_H) := k66 v2 v3 v4 v5 v6 v7 v8 (v9 + 1) h
set_option maxRecDepth 100000 in
set_option maxHeartbeats 4000000 in
theorem BX9_year_0_b204 (G : mv_G) (d D : Nat) (hD : d + 0 ≤ D) (P : Int32 × mv_H → Prop) (k66 : Int32 → Int32 → Int32 → Int32 → Int32 → Int32 → Int32 → Int32 → mv_H → Option (Int32 × mv_H)) (hk66 : ∀ (v2 : Int32) (v3 : Int32) (v4 : Int32) (v5 : Int32) (v6 : Int32) (v7 : Int32) (v8 : Int32) (v9 : Int32) (h : mv_H), mv_sat (k66 v2 v3 v4 v5 v6 v7 v8 v9 h) P → mv_MW G mX9_year (mv_rm D mX9_year) (mv_Zf G mX9_year (mv_qI mv_SH P)) 0 0 66 [.ref 0, .float 0, .int v2, .int v3, .int v4, .int v5, .int v6, .int v7, .int v8, .int v9, .float 0] [] mv_SH h) (v2 : Int32) (v3 : Int32) (v4 : Int32) (v5 : Int32) (v6 : Int32) (v7 : Int32) (v8 : Int32) (v9 : Int32) (h : mv_H) (hs : mv_sat (fX9_year_0_b204 k66 v2 v3 v4 v5 v6 v7 v8 v9 h) P) : mv_MW G mX9_year (mv_rm D mX9_year) (mv_Zf G mX9_year (mv_qI mv_SH P)) 0 0 204 [.ref 0, .float 0, .int v2, .int v3, .int v4, .int v5, .int v6, .int v7, .int v8, .int v9, .float 0] [] mv_SH h := by
  unfold fX9_year_0_b204 at hs
  refine mv_iinc (lv' := [.ref 0, .float 0, .int v2, .int v3, .int v4, .int v5, .int v6, .int v7, .int v8, .int (v9 + 1), .float 0]) 1 dX9_year_204 rfl (by decide) (Nat.le_of_ble_eq_true rfl) rfl rfl ?_
  refine mv_goto dX9_year_207 ?_
  exact (hk66 _ _ _ _ _ _ _ _ _ hs)
noncomputable def fX9_year_0_b66 : Nat → Int32 → Int32 → Int32 → Int32 → Int32 → Int32 → Int32 → Int32 → mv_H → Option (Int32 × mv_H)
  | 0, _, _, _, _, _, _, _, _, _ => none
  | n + 1, v2, v3, v4, v5, v6, v7, v8, v9, h => if v9 < v2 then (mv_let (((75 * v5) + 74) - ((75 * v5) + 74) / 65537 * 65537) fun x1066 : Int32 => (fX9_measure_0 (1 + (x1066 - x1066 / 20 * 20)) (1 + ((x1066 / 20) - (x1066 / 20) / 20 * 20)) (1 + ((x1066 / 400) - (x1066 / 400) / 20 * 20)) h).bind fun r1067 => (fX8_leastPaper_38 r1067).bind fun r1068 => mv_let (v8 + r1068) fun x1069 : Int32 => (fX7_side_6 v3 (0 : Int32) r1067).bind fun r1070 => (fX7_side_6 v3 (1 : Int32) r1067).bind fun r1071 => (fX8_wayOnSheet_38 r1070 r1071 r1067).bind fun r1072 => if r1072 = (-6) then fX9_year_0_b204 (fX9_year_0_b66 n) v2 v3 v4 x1066 v6 v7 x1069 v9 r1067 else (fX7_area_6 v3 r1067).bind fun r1073 => (fX9_axisOf r1072).bind fun r1074 => (fX8_paper_38 r1074 r1067).bind fun r1075 => mv_let (mv_max v7 (r1073 - r1075)) fun x1076 : Int32 => fX9_year_0_b204 (fX9_year_0_b66 n) v2 v3 v4 x1066 (v6 + 1) x1076 x1069 v9 r1067) else if v4 = 0 then some (v6, h) else if v4 = 1 then some (v7, h) else some (v8, h)
set_option maxRecDepth 100000 in
set_option maxHeartbeats 4000000 in
theorem BX9_year_0_b66 (G : mv_G) (d D : Nat) (hD : d + 5 ≤ D) (P : Int32 × mv_H → Prop) : ∀ (n : Nat) (v2 : Int32) (v3 : Int32) (v4 : Int32) (v5 : Int32) (v6 : Int32) (v7 : Int32) (v8 : Int32) (v9 : Int32) (h : mv_H), mv_sat (fX9_year_0_b66 n v2 v3 v4 v5 v6 v7 v8 v9 h) P → mv_MW G mX9_year (mv_rm D mX9_year) (mv_Zf G mX9_year (mv_qI mv_SH P)) 0 0 66 [.ref 0, .float 0, .int v2, .int v3, .int v4, .int v5, .int v6, .int v7, .int v8, .int v9, .float 0] [] mv_SH h := by
  intro n
  induction n with
  | zero =>
    intro v2 v3 v4 v5 v6 v7 v8 v9 h hs
    unfold fX9_year_0_b66 at hs
    exact (mv_sat_none hs).elim
  | succ n ih =>
    intro v2 v3 v4 v5 v6 v7 v8 v9 h hs
    unfold fX9_year_0_b66 at hs
    refine mv_iload dX9_year_66 rfl ?_
    refine mv_iload_n dX9_year_68 rfl ?_
    refine mv_icmp_ge dX9_year_69 hs (fun _ hs => ?_) (fun _ hs => ?_)
    · refine mv_bipush 75 dX9_year_72 (by decide) ?_
      refine mv_iload dX9_year_74 rfl ?_
      refine mv_imul dX9_year_76 ?_
      refine mv_bipush 74 dX9_year_77 (by decide) ?_
      refine mv_iadd dX9_year_79 ?_
      refine mv_ldcw dX9_year_80 kn_X9_325 ?_
      refine mv_iremk dX9_year_83 (by decide) ?_
      refine mv_name hs (fun x1066 hs => ?_)
      refine mv_istore (lv' := [.ref 0, .float 0, .int v2, .int v3, .int v4, .int x1066, .int v6, .int v7, .int v8, .int v9, .float 0]) dX9_year_84 (Nat.le_of_ble_eq_true rfl) rfl rfl ?_
      refine mv_aload_n dX9_year_86 rfl ?_
      refine mv_iconst 1 dX9_year_87 (by decide) ?_
      refine mv_iload dX9_year_88 rfl ?_
      refine mv_bipush 20 dX9_year_90 (by decide) ?_
      refine mv_iremk dX9_year_92 (by decide) ?_
      refine mv_iadd dX9_year_93 ?_
      refine mv_iconst 1 dX9_year_94 (by decide) ?_
      refine mv_iload dX9_year_95 rfl ?_
      refine mv_bipush 20 dX9_year_97 (by decide) ?_
      refine mv_idivk dX9_year_99 (by decide) ?_
      refine mv_bipush 20 dX9_year_100 (by decide) ?_
      refine mv_iremk dX9_year_102 (by decide) ?_
      refine mv_iadd dX9_year_103 ?_
      refine mv_iconst 1 dX9_year_104 (by decide) ?_
      refine mv_iload dX9_year_105 rfl ?_
      refine mv_sipush 400 dX9_year_107 (by decide) ?_
      refine mv_idivk dX9_year_110 (by decide) ?_
      refine mv_bipush 20 dX9_year_111 (by decide) ?_
      refine mv_iremk dX9_year_113 (by decide) ?_
      refine mv_iadd dX9_year_114 ?_
      refine mv_cV (st := []) dX9_year_115 kk_X9_326 (TX9_measure_0 G d _ _ _ _ _ (mv_sat_bind hs)) so_0 vc_9 rfl rfl (Nat.le_of_ble_eq_true rfl) (by omega) rfl ⟨Nat.zero_le _, Nat.zero_le _⟩ (mv_kv fun r1067 hs => ?_)
      refine mv_iload dX9_year_118 rfl ?_
      refine mv_aload_n dX9_year_120 rfl ?_
      refine mv_getr dX9_year_121 kf_X9_32 gf_0_5 ?_
      refine mv_cV (st := [.int v8]) dX9_year_124 kk_X9_160 (TX8_leastPaper_38 G d _ _ (mv_sat_bind hs)) so_38 vc_8 rfl rfl (Nat.le_of_ble_eq_true rfl) (by omega) rfl ⟨Nat.zero_le _, Nat.zero_le _⟩ (mv_ki fun r1068 hs => ?_)
      refine mv_iadd dX9_year_127 ?_
      refine mv_name hs (fun x1069 hs => ?_)
      refine mv_istore (lv' := [.ref 0, .float 0, .int v2, .int v3, .int v4, .int x1066, .int v6, .int v7, .int x1069, .int v9, .float 0]) dX9_year_128 (Nat.le_of_ble_eq_true rfl) rfl rfl ?_
      refine mv_aload_n dX9_year_130 rfl ?_
      refine mv_getr dX9_year_131 kf_X9_32 gf_0_5 ?_
      refine mv_aload_n dX9_year_134 rfl ?_
      refine mv_getr dX9_year_135 kf_X9_10 gf_0_0 ?_
      refine mv_getr dX9_year_138 kf_X9_83 gf_1_2 ?_
      refine mv_iload_n dX9_year_141 rfl ?_
      refine mv_iconst 0 dX9_year_142 (by decide) ?_
      refine mv_cV (st := [.ref 38]) dX9_year_143 kk_X9_163 (TX7_side_6 G d _ _ _ _ (mv_sat_bind hs)) so_6 vc_7 rfl rfl (Nat.le_of_ble_eq_true rfl) (by omega) rfl ⟨Nat.zero_le _, Nat.zero_le _⟩ (mv_ki fun r1070 hs => ?_)
      refine mv_aload_n dX9_year_146 rfl ?_
      refine mv_getr dX9_year_147 kf_X9_10 gf_0_0 ?_
      refine mv_getr dX9_year_150 kf_X9_83 gf_1_2 ?_
      refine mv_iload_n dX9_year_153 rfl ?_
      refine mv_iconst 1 dX9_year_154 (by decide) ?_
      refine mv_cV (st := [.int r1070, .ref 38]) dX9_year_155 kk_X9_163 (TX7_side_6 G d _ _ _ _ (mv_sat_bind hs)) so_6 vc_7 rfl rfl (Nat.le_of_ble_eq_true rfl) (by omega) rfl ⟨Nat.zero_le _, Nat.zero_le _⟩ (mv_ki fun r1071 hs => ?_)
      refine mv_cV (st := []) dX9_year_158 kk_X9_167 (TX8_wayOnSheet_38 G d _ _ _ _ (mv_sat_bind hs)) so_38 vc_8 rfl rfl (Nat.le_of_ble_eq_true rfl) (by omega) rfl ⟨Nat.zero_le _, Nat.zero_le _⟩ (mv_ki fun r1072 hs => ?_)
      refine mv_istore (lv' := [.ref 0, .float 0, .int v2, .int v3, .int v4, .int x1066, .int v6, .int v7, .int x1069, .int v9, .int r1072]) dX9_year_161 (Nat.le_of_ble_eq_true rfl) rfl rfl ?_
      refine mv_iload dX9_year_163 rfl ?_
      refine mv_bipush (-6) dX9_year_165 (by decide) ?_
      refine mv_icmp_eq dX9_year_167 hs (fun _ hs => ?_) (fun _ hs => ?_)
      · exact mv_weak (lv' := [.ref 0, .float 0, .int v2, .int v3, .int v4, .int x1066, .int v6, .int v7, .int x1069, .int v9, .float 0]) (mv_s (mv_s (mv_s (mv_s (mv_s (mv_s (mv_s (mv_s (mv_s (mv_s (mv_k mv_n))))))))))) (BX9_year_0_b204 G d D (by omega) P _ ih _ _ _ _ _ _ _ _ _ hs)
      · refine mv_iinc (lv' := [.ref 0, .float 0, .int v2, .int v3, .int v4, .int x1066, .int (v6 + 1), .int v7, .int x1069, .int v9, .int r1072]) 1 dX9_year_170 rfl (by decide) (Nat.le_of_ble_eq_true rfl) rfl rfl ?_
        refine mv_iload dX9_year_173 rfl ?_
        refine mv_aload_n dX9_year_175 rfl ?_
        refine mv_getr dX9_year_176 kf_X9_10 gf_0_0 ?_
        refine mv_getr dX9_year_179 kf_X9_83 gf_1_2 ?_
        refine mv_iload_n dX9_year_182 rfl ?_
        refine mv_cV (st := [.int v7]) dX9_year_183 kk_X9_176 (TX7_area_6 G d _ _ _ (mv_sat_bind hs)) so_6 vc_7 rfl rfl (Nat.le_of_ble_eq_true rfl) (by omega) rfl ⟨Nat.zero_le _, Nat.zero_le _⟩ (mv_ki fun r1073 hs => ?_)
        refine mv_aload_n dX9_year_186 rfl ?_
        refine mv_getr dX9_year_187 kf_X9_32 gf_0_5 ?_
        refine mv_iload dX9_year_190 rfl ?_
        refine mv_cS (st := [.ref 38, .int r1073, .int v7]) dX9_year_192 kk_X9_170 (TX9_axisOf G d _ _ _ (mv_sat_bind hs)) rfl rfl (Nat.le_of_ble_eq_true rfl) (by omega) rfl ⟨Nat.zero_le _, Nat.zero_le _⟩ (mv_ki fun r1074 hs => ?_)
        refine mv_cV (st := [.int r1073, .int v7]) dX9_year_195 kk_X9_154 (TX8_paper_38 G d _ _ _ (mv_sat_bind hs)) so_38 vc_8 rfl rfl (Nat.le_of_ble_eq_true rfl) (by omega) rfl ⟨Nat.zero_le _, Nat.zero_le _⟩ (mv_ki fun r1075 hs => ?_)
        refine mv_isub dX9_year_198 ?_
        refine mv_mmax dX9_year_199 kx_X9_330 kx_max_s kx_math kx_max_c (Nat.le_of_ble_eq_true rfl) (by omega) ⟨Nat.zero_le _, Nat.zero_le _⟩ ?_
        refine mv_name hs (fun x1076 hs => ?_)
        refine mv_istore (lv' := [.ref 0, .float 0, .int v2, .int v3, .int v4, .int x1066, .int (v6 + 1), .int x1076, .int x1069, .int v9, .int r1072]) dX9_year_202 (Nat.le_of_ble_eq_true rfl) rfl rfl ?_
        exact mv_weak (lv' := [.ref 0, .float 0, .int v2, .int v3, .int v4, .int x1066, .int (v6 + 1), .int x1076, .int x1069, .int v9, .float 0]) (mv_s (mv_s (mv_s (mv_s (mv_s (mv_s (mv_s (mv_s (mv_s (mv_s (mv_k mv_n))))))))))) (BX9_year_0_b204 G d D (by omega) P _ ih _ _ _ _ _ _ _ _ _ hs)
    · refine mv_iload dX9_year_210 rfl ?_
      refine mv_if_ne dX9_year_212 hs (fun _ hs => ?_) (fun _ hs => ?_)
      · refine mv_iload dX9_year_215 rfl ?_
        exact mv_iret dX9_year_217 rfl ⟨(v6, h), rfl, rfl, rfl, mv_sat_some hs⟩
      · refine mv_iload dX9_year_218 rfl ?_
        refine mv_iconst 1 dX9_year_220 (by decide) ?_
        refine mv_icmp_ne dX9_year_221 hs (fun _ hs => ?_) (fun _ hs => ?_)
        · refine mv_iload dX9_year_224 rfl ?_
          refine mv_goto dX9_year_226 ?_
          exact mv_iret dX9_year_231 rfl ⟨(v7, h), rfl, rfl, rfl, mv_sat_some hs⟩
        · refine mv_iload dX9_year_229 rfl ?_
          exact mv_iret dX9_year_231 rfl ⟨(v8, h), rfl, rfl, rfl, mv_sat_some hs⟩
noncomputable def fX9_year_0 (p0 : Int32) (p1 : Int32) (p2 : Int32) (p3 : Int32) (h : mv_H) : Option (Int32 × mv_H) := (fX7_has_6 p2 h).bind fun r1062 => if r1062 = 0 then some ((-1), h) else (fX9_isWithin p0 (0 : Int32) (9999 : Int32)).bind fun r1063 => if r1063 = 0 then some ((-2), h) else (fX9_isWithin p1 (1 : Int32) (99 : Int32)).bind fun r1064 => if r1064 = 0 then some ((-2), h) else (fX9_isWithin p3 (0 : Int32) (2 : Int32)).bind fun r1065 => if r1065 = 0 then some ((-2), h) else fX9_year_0_b66 mv_F p1 p2 p3 p0 0 (-6) 0 0 h
set_option maxRecDepth 100000 in
set_option maxHeartbeats 4000000 in
theorem TX9_year_0 (G : mv_G) (d : Nat) (P : Int32 × mv_H → Prop) (p0 : Int32) (p1 : Int32) (p2 : Int32) (p3 : Int32) (h : mv_H) (hs : mv_sat (fX9_year_0 p0 p1 p2 p3 h) P) : mv_met G (d + 5) mX9_year [.ref 0, .int p0, .int p1, .int p2, .int p3] mv_SH h (mv_qI mv_SH P) := by
  unfold fX9_year_0 at hs
  obtain ⟨D, hDe⟩ : ∃ D, D = d + 5 := ⟨_, rfl⟩
  rw [← hDe]
  have hD : d + 5 ≤ D := by omega
  refine mv_enter (lv := [.ref 0, .int p0, .int p1, .int p2, .int p3, .float 0, .float 0, .float 0, .float 0, .float 0, .float 0]) 6 (by decide) (by decide +kernel) rfl (Nat.le_of_ble_eq_true rfl) ?_
  refine mv_aload_n dX9_year_0 rfl ?_
  refine mv_getr dX9_year_1 kf_X9_10 gf_0_0 ?_
  refine mv_getr dX9_year_4 kf_X9_83 gf_1_2 ?_
  refine mv_iload_n dX9_year_7 rfl ?_
  refine mv_cV (st := []) dX9_year_8 kk_X9_100 (TX7_has_6 G d _ _ _ (mv_sat_bind hs)) so_6 vc_7 rfl rfl (Nat.le_of_ble_eq_true rfl) (by omega) rfl ⟨Nat.zero_le _, Nat.zero_le _⟩ (mv_ki fun r1062 hs => ?_)
  refine mv_if_ne dX9_year_11 hs (fun _ hs => ?_) (fun _ hs => ?_)
  · refine mv_iconst (-1) dX9_year_14 (by decide) ?_
    exact mv_iret dX9_year_15 rfl ⟨((-1), h), rfl, rfl, rfl, mv_sat_some hs⟩
  · refine mv_iload_n dX9_year_16 rfl ?_
    refine mv_iconst 0 dX9_year_17 (by decide) ?_
    refine mv_sipush 9999 dX9_year_18 (by decide) ?_
    refine mv_cS (st := []) dX9_year_21 kk_X9_79 (TX9_isWithin G d _ _ _ _ _ (mv_sat_bind hs)) rfl rfl (Nat.le_of_ble_eq_true rfl) (by omega) rfl ⟨Nat.zero_le _, Nat.zero_le _⟩ (mv_ki fun r1063 hs => ?_)
    refine mv_if_eq dX9_year_24 hs (fun _ hs => ?_) (fun _ hs => ?_)
    · refine mv_bipush (-2) dX9_year_47 (by decide) ?_
      exact mv_iret dX9_year_49 rfl ⟨((-2), h), rfl, rfl, rfl, mv_sat_some hs⟩
    · refine mv_iload_n dX9_year_27 rfl ?_
      refine mv_iconst 1 dX9_year_28 (by decide) ?_
      refine mv_bipush 99 dX9_year_29 (by decide) ?_
      refine mv_cS (st := []) dX9_year_31 kk_X9_79 (TX9_isWithin G d _ _ _ _ _ (mv_sat_bind hs)) rfl rfl (Nat.le_of_ble_eq_true rfl) (by omega) rfl ⟨Nat.zero_le _, Nat.zero_le _⟩ (mv_ki fun r1064 hs => ?_)
      refine mv_if_eq dX9_year_34 hs (fun _ hs => ?_) (fun _ hs => ?_)
      · refine mv_bipush (-2) dX9_year_47 (by decide) ?_
        exact mv_iret dX9_year_49 rfl ⟨((-2), h), rfl, rfl, rfl, mv_sat_some hs⟩
      · refine mv_iload dX9_year_37 rfl ?_
        refine mv_iconst 0 dX9_year_39 (by decide) ?_
        refine mv_iconst 2 dX9_year_40 (by decide) ?_
        refine mv_cS (st := []) dX9_year_41 kk_X9_79 (TX9_isWithin G d _ _ _ _ _ (mv_sat_bind hs)) rfl rfl (Nat.le_of_ble_eq_true rfl) (by omega) rfl ⟨Nat.zero_le _, Nat.zero_le _⟩ (mv_ki fun r1065 hs => ?_)
        refine mv_if_ne dX9_year_44 hs (fun _ hs => ?_) (fun _ hs => ?_)
        · refine mv_bipush (-2) dX9_year_47 (by decide) ?_
          exact mv_iret dX9_year_49 rfl ⟨((-2), h), rfl, rfl, rfl, mv_sat_some hs⟩
        · refine mv_iload_n dX9_year_50 rfl ?_
          refine mv_istore (lv' := [.ref 0, .int p0, .int p1, .int p2, .int p3, .int p0, .float 0, .float 0, .float 0, .float 0, .float 0]) dX9_year_51 (Nat.le_of_ble_eq_true rfl) rfl rfl ?_
          refine mv_iconst 0 dX9_year_53 (by decide) ?_
          refine mv_istore (lv' := [.ref 0, .int p0, .int p1, .int p2, .int p3, .int p0, .int 0, .float 0, .float 0, .float 0, .float 0]) dX9_year_54 (Nat.le_of_ble_eq_true rfl) rfl rfl ?_
          refine mv_bipush (-6) dX9_year_56 (by decide) ?_
          refine mv_istore (lv' := [.ref 0, .int p0, .int p1, .int p2, .int p3, .int p0, .int 0, .int (-6), .float 0, .float 0, .float 0]) dX9_year_58 (Nat.le_of_ble_eq_true rfl) rfl rfl ?_
          refine mv_iconst 0 dX9_year_60 (by decide) ?_
          refine mv_istore (lv' := [.ref 0, .int p0, .int p1, .int p2, .int p3, .int p0, .int 0, .int (-6), .int 0, .float 0, .float 0]) dX9_year_61 (Nat.le_of_ble_eq_true rfl) rfl rfl ?_
          refine mv_iconst 0 dX9_year_63 (by decide) ?_
          refine mv_istore (lv' := [.ref 0, .int p0, .int p1, .int p2, .int p3, .int p0, .int 0, .int (-6), .int 0, .int 0, .float 0]) dX9_year_64 (Nat.le_of_ble_eq_true rfl) rfl rfl ?_
          exact mv_weak (lv' := [.ref 0, .float 0, .int p1, .int p2, .int p3, .int p0, .int 0, .int (-6), .int 0, .int 0, .float 0]) (mv_s (mv_k (mv_s (mv_s (mv_s (mv_s (mv_s (mv_s (mv_s (mv_s (mv_s mv_n))))))))))) (BX9_year_0_b66 G d D (by omega) P _ _ _ _ _ _ _ _ _ _ hs)
noncomputable def fX10_year_55_b187 (k66 : Int32 → Int32 → Int32 → Int32 → Int32 → Int32 → Int32 → Int32 → mv_H → Option (Int32 × mv_H)) (v2 : Int32) (v3 : Int32) (v4 : Int32) (v5 : Int32) (v6 : Int32) (v7 : Int32) (v8 : Int32) (v9 : Int32) (h : mv_H) : Option (Int32 × mv_H) := k66 v2 v3 v4 v5 v6 v7 v8 (v9 + 1) h
set_option maxRecDepth 100000 in
set_option maxHeartbeats 4000000 in
theorem BX10_year_55_b187 (G : mv_G) (d D : Nat) (hD : d + 0 ≤ D) (P : Int32 × mv_H → Prop) (k66 : Int32 → Int32 → Int32 → Int32 → Int32 → Int32 → Int32 → Int32 → mv_H → Option (Int32 × mv_H)) (hk66 : ∀ (v2 : Int32) (v3 : Int32) (v4 : Int32) (v5 : Int32) (v6 : Int32) (v7 : Int32) (v8 : Int32) (v9 : Int32) (h : mv_H), mv_sat (k66 v2 v3 v4 v5 v6 v7 v8 v9 h) P → mv_MW G mX10_year (mv_rm D mX10_year) (mv_Zf G mX10_year (mv_qI mv_SH P)) 0 0 66 [.ref 55, .float 0, .int v2, .int v3, .int v4, .int v5, .int v6, .int v7, .int v8, .int v9, .float 0, .float 0] [] mv_SH h) (v2 : Int32) (v3 : Int32) (v4 : Int32) (v5 : Int32) (v6 : Int32) (v7 : Int32) (v8 : Int32) (v9 : Int32) (h : mv_H) (hs : mv_sat (fX10_year_55_b187 k66 v2 v3 v4 v5 v6 v7 v8 v9 h) P) : mv_MW G mX10_year (mv_rm D mX10_year) (mv_Zf G mX10_year (mv_qI mv_SH P)) 0 0 187 [.ref 55, .float 0, .int v2, .int v3, .int v4, .int v5, .int v6, .int v7, .int v8, .int v9, .float 0, .float 0] [] mv_SH h := by
  unfold fX10_year_55_b187 at hs
  refine mv_iinc (lv' := [.ref 55, .float 0, .int v2, .int v3, .int v4, .int v5, .int v6, .int v7, .int v8, .int (v9 + 1), .float 0, .float 0]) 1 dX10_year_187 rfl (by decide) (Nat.le_of_ble_eq_true rfl) rfl rfl ?_
  refine mv_goto dX10_year_190 ?_
  exact (hk66 _ _ _ _ _ _ _ _ _ hs)
noncomputable def fX10_year_55_b182 (k66 : Int32 → Int32 → Int32 → Int32 → Int32 → Int32 → Int32 → Int32 → mv_H → Option (Int32 × mv_H)) (v2 : Int32) (v3 : Int32) (v4 : Int32) (v5 : Int32) (v6 : Int32) (v8 : Int32) (v9 : Int32) (s0 : Int32) (h : mv_H) : Option (Int32 × mv_H) := fX10_year_55_b187 k66 v2 v3 v4 v5 (v6 + 1) s0 v8 v9 h
set_option maxRecDepth 100000 in
set_option maxHeartbeats 4000000 in
theorem BX10_year_55_b182 (G : mv_G) (d D : Nat) (hD : d + 0 ≤ D) (P : Int32 × mv_H → Prop) (k66 : Int32 → Int32 → Int32 → Int32 → Int32 → Int32 → Int32 → Int32 → mv_H → Option (Int32 × mv_H)) (hk66 : ∀ (v2 : Int32) (v3 : Int32) (v4 : Int32) (v5 : Int32) (v6 : Int32) (v7 : Int32) (v8 : Int32) (v9 : Int32) (h : mv_H), mv_sat (k66 v2 v3 v4 v5 v6 v7 v8 v9 h) P → mv_MW G mX10_year (mv_rm D mX10_year) (mv_Zf G mX10_year (mv_qI mv_SH P)) 0 0 66 [.ref 55, .float 0, .int v2, .int v3, .int v4, .int v5, .int v6, .int v7, .int v8, .int v9, .float 0, .float 0] [] mv_SH h) (v2 : Int32) (v3 : Int32) (v4 : Int32) (v5 : Int32) (v6 : Int32) (v8 : Int32) (v9 : Int32) (s0 : Int32) (h : mv_H) (hs : mv_sat (fX10_year_55_b182 k66 v2 v3 v4 v5 v6 v8 v9 s0 h) P) : mv_MW G mX10_year (mv_rm D mX10_year) (mv_Zf G mX10_year (mv_qI mv_SH P)) 0 0 182 [.ref 55, .float 0, .int v2, .int v3, .int v4, .int v5, .int v6, .float 0, .int v8, .int v9, .float 0, .float 0] [.int s0] mv_SH h := by
  unfold fX10_year_55_b182 at hs
  refine mv_istore (lv' := [.ref 55, .float 0, .int v2, .int v3, .int v4, .int v5, .int v6, .int s0, .int v8, .int v9, .float 0, .float 0]) dX10_year_182 (Nat.le_of_ble_eq_true rfl) rfl rfl ?_
  refine mv_iinc (lv' := [.ref 55, .float 0, .int v2, .int v3, .int v4, .int v5, .int (v6 + 1), .int s0, .int v8, .int v9, .float 0, .float 0]) 1 dX10_year_184 rfl (by decide) (Nat.le_of_ble_eq_true rfl) rfl rfl ?_
  exact (BX10_year_55_b187 G d D (by omega) P _ hk66 _ _ _ _ _ _ _ _ _ hs)
noncomputable def fX10_year_55_b175 (k66 : Int32 → Int32 → Int32 → Int32 → Int32 → Int32 → Int32 → Int32 → mv_H → Option (Int32 × mv_H)) (v2 : Int32) (v3 : Int32) (v4 : Int32) (v5 : Int32) (v6 : Int32) (v8 : Int32) (v9 : Int32) (v11 : Int32) (h : mv_H) : Option (Int32 × mv_H) := fX10_year_55_b182 k66 v2 v3 v4 v5 v6 v8 v9 v11 h
set_option maxRecDepth 100000 in
set_option maxHeartbeats 4000000 in
theorem BX10_year_55_b175 (G : mv_G) (d D : Nat) (hD : d + 0 ≤ D) (P : Int32 × mv_H → Prop) (k66 : Int32 → Int32 → Int32 → Int32 → Int32 → Int32 → Int32 → Int32 → mv_H → Option (Int32 × mv_H)) (hk66 : ∀ (v2 : Int32) (v3 : Int32) (v4 : Int32) (v5 : Int32) (v6 : Int32) (v7 : Int32) (v8 : Int32) (v9 : Int32) (h : mv_H), mv_sat (k66 v2 v3 v4 v5 v6 v7 v8 v9 h) P → mv_MW G mX10_year (mv_rm D mX10_year) (mv_Zf G mX10_year (mv_qI mv_SH P)) 0 0 66 [.ref 55, .float 0, .int v2, .int v3, .int v4, .int v5, .int v6, .int v7, .int v8, .int v9, .float 0, .float 0] [] mv_SH h) (v2 : Int32) (v3 : Int32) (v4 : Int32) (v5 : Int32) (v6 : Int32) (v8 : Int32) (v9 : Int32) (v11 : Int32) (h : mv_H) (hs : mv_sat (fX10_year_55_b175 k66 v2 v3 v4 v5 v6 v8 v9 v11 h) P) : mv_MW G mX10_year (mv_rm D mX10_year) (mv_Zf G mX10_year (mv_qI mv_SH P)) 0 0 175 [.ref 55, .float 0, .int v2, .int v3, .int v4, .int v5, .int v6, .float 0, .int v8, .int v9, .float 0, .int v11] [] mv_SH h := by
  unfold fX10_year_55_b175 at hs
  refine mv_iload dX10_year_175 rfl ?_
  refine mv_goto dX10_year_177 ?_
  exact mv_weak (lv' := [.ref 55, .float 0, .int v2, .int v3, .int v4, .int v5, .int v6, .float 0, .int v8, .int v9, .float 0, .float 0]) (mv_s (mv_s (mv_s (mv_s (mv_s (mv_s (mv_s (mv_s (mv_s (mv_s (mv_s (mv_k mv_n)))))))))))) (BX10_year_55_b182 G d D (by omega) P _ hk66 _ _ _ _ _ _ _ _ _ hs)
noncomputable def fX10_year_55_b66 : Nat → Int32 → Int32 → Int32 → Int32 → Int32 → Int32 → Int32 → Int32 → mv_H → Option (Int32 × mv_H)
  | 0, _, _, _, _, _, _, _, _, _ => none
  | n + 1, v2, v3, v4, v5, v6, v7, v8, v9, h => if v9 < v2 then (mv_let (Int64.toInt32 (((75 * (Int32.toInt64 v5)) + 74) - ((75 * (Int32.toInt64 v5)) + 74) / 65537 * 65537)) fun x1082 : Int32 => (fX10_layBox_55 (1 + (x1082 - x1082 / 20 * 20)) (1 + ((x1082 / 20) - (x1082 / 20) / 20 * 20)) (1 + ((x1082 / 400) - (x1082 / 400) / 20 * 20)) h).bind fun r1083 => (fX10_doesBy_55 v3 r1083).bind fun r1084 => (fX10_leastAxis_55 r1083).bind fun r1085 => (fX10_paper_55 r1085 r1083).bind fun r1086 => mv_let (v8 + r1086) fun x1087 : Int32 => if r1084 < 0 then fX10_year_55_b187 (fX10_year_55_b66 n) v2 v3 v4 x1082 v6 v7 x1087 v9 r1083 else (fX10_areaOf_55 v3 r1083).bind fun r1088 => (fX10_paper_55 (r1084 / 2) r1083).bind fun r1089 => mv_let (r1088 - r1089) fun x1090 : Int32 => if v6 = 0 then fX10_year_55_b175 (fX10_year_55_b66 n) v2 v3 v4 x1082 v6 x1087 v9 x1090 r1083 else if v7 < x1090 then fX10_year_55_b175 (fX10_year_55_b66 n) v2 v3 v4 x1082 v6 x1087 v9 x1090 r1083 else fX10_year_55_b182 (fX10_year_55_b66 n) v2 v3 v4 x1082 v6 x1087 v9 v7 r1083) else if v4 = 0 then some (v6, h) else if v4 = 1 then some (v7, h) else some (v8, h)
set_option maxRecDepth 100000 in
set_option maxHeartbeats 4000000 in
theorem BX10_year_55_b66 (G : mv_G) (d D : Nat) (hD : d + 2 ≤ D) (P : Int32 × mv_H → Prop) : ∀ (n : Nat) (v2 : Int32) (v3 : Int32) (v4 : Int32) (v5 : Int32) (v6 : Int32) (v7 : Int32) (v8 : Int32) (v9 : Int32) (h : mv_H), mv_sat (fX10_year_55_b66 n v2 v3 v4 v5 v6 v7 v8 v9 h) P → mv_MW G mX10_year (mv_rm D mX10_year) (mv_Zf G mX10_year (mv_qI mv_SH P)) 0 0 66 [.ref 55, .float 0, .int v2, .int v3, .int v4, .int v5, .int v6, .int v7, .int v8, .int v9, .float 0, .float 0] [] mv_SH h := by
  intro n
  induction n with
  | zero =>
    intro v2 v3 v4 v5 v6 v7 v8 v9 h hs
    unfold fX10_year_55_b66 at hs
    exact (mv_sat_none hs).elim
  | succ n ih =>
    intro v2 v3 v4 v5 v6 v7 v8 v9 h hs
    unfold fX10_year_55_b66 at hs
    refine mv_iload dX10_year_66 rfl ?_
    refine mv_iload_n dX10_year_68 rfl ?_
    refine mv_icmp_ge dX10_year_69 hs (fun _ hs => ?_) (fun _ hs => ?_)
    · refine mv_ldc2 dX10_year_72 kn_X10_343 ?_
      refine mv_iload dX10_year_75 rfl ?_
      refine mv_i2l dX10_year_77 ?_
      refine mv_lmul dX10_year_78 ?_
      refine mv_ldc2 dX10_year_79 kn_X10_345 ?_
      refine mv_ladd dX10_year_82 ?_
      refine mv_ldc2 dX10_year_83 kn_X10_347 ?_
      refine mv_lremk dX10_year_86 (by decide) ?_
      refine mv_l2i dX10_year_87 ?_
      refine mv_name hs (fun x1082 hs => ?_)
      refine mv_istore (lv' := [.ref 55, .float 0, .int v2, .int v3, .int v4, .int x1082, .int v6, .int v7, .int v8, .int v9, .float 0, .float 0]) dX10_year_88 (Nat.le_of_ble_eq_true rfl) rfl rfl ?_
      refine mv_aload_n dX10_year_90 rfl ?_
      refine mv_iconst 1 dX10_year_91 (by decide) ?_
      refine mv_iload dX10_year_92 rfl ?_
      refine mv_bipush 20 dX10_year_94 (by decide) ?_
      refine mv_iremk dX10_year_96 (by decide) ?_
      refine mv_iadd dX10_year_97 ?_
      refine mv_iconst 1 dX10_year_98 (by decide) ?_
      refine mv_iload dX10_year_99 rfl ?_
      refine mv_bipush 20 dX10_year_101 (by decide) ?_
      refine mv_idivk dX10_year_103 (by decide) ?_
      refine mv_bipush 20 dX10_year_104 (by decide) ?_
      refine mv_iremk dX10_year_106 (by decide) ?_
      refine mv_iadd dX10_year_107 ?_
      refine mv_iconst 1 dX10_year_108 (by decide) ?_
      refine mv_iload dX10_year_109 rfl ?_
      refine mv_sipush 400 dX10_year_111 (by decide) ?_
      refine mv_idivk dX10_year_114 (by decide) ?_
      refine mv_bipush 20 dX10_year_115 (by decide) ?_
      refine mv_iremk dX10_year_117 (by decide) ?_
      refine mv_iadd dX10_year_118 ?_
      refine mv_cV (st := []) dX10_year_119 kk_X10_200 (TX10_layBox_55 G d _ _ _ _ _ (mv_sat_bind hs)) so_55 vc_10 rfl rfl (Nat.le_of_ble_eq_true rfl) (by omega) rfl ⟨Nat.zero_le _, Nat.zero_le _⟩ (mv_kv fun r1083 hs => ?_)
      refine mv_aload_n dX10_year_122 rfl ?_
      refine mv_iload_n dX10_year_123 rfl ?_
      refine mv_cV (st := []) dX10_year_124 kk_X10_216 (TX10_doesBy_55 G d _ _ _ (mv_sat_bind hs)) so_55 vc_10 rfl rfl (Nat.le_of_ble_eq_true rfl) (by omega) rfl ⟨Nat.zero_le _, Nat.zero_le _⟩ (mv_ki fun r1084 hs => ?_)
      refine mv_istore (lv' := [.ref 55, .float 0, .int v2, .int v3, .int v4, .int x1082, .int v6, .int v7, .int v8, .int v9, .int r1084, .float 0]) dX10_year_127 (Nat.le_of_ble_eq_true rfl) rfl rfl ?_
      refine mv_iload dX10_year_129 rfl ?_
      refine mv_aload_n dX10_year_131 rfl ?_
      refine mv_aload_n dX10_year_132 rfl ?_
      refine mv_cV (st := [.ref 55, .int v8]) dX10_year_133 kk_X10_213 (TX10_leastAxis_55 G d _ _ (mv_sat_bind hs)) so_55 vc_10 rfl rfl (Nat.le_of_ble_eq_true rfl) (by omega) rfl ⟨Nat.zero_le _, Nat.zero_le _⟩ (mv_ki fun r1085 hs => ?_)
      refine mv_cV (st := [.int v8]) dX10_year_136 kk_X10_203 (TX10_paper_55 G d _ _ _ (mv_sat_bind hs)) so_55 vc_10 rfl rfl (Nat.le_of_ble_eq_true rfl) (by omega) rfl ⟨Nat.zero_le _, Nat.zero_le _⟩ (mv_ki fun r1086 hs => ?_)
      refine mv_iadd dX10_year_139 ?_
      refine mv_name hs (fun x1087 hs => ?_)
      refine mv_istore (lv' := [.ref 55, .float 0, .int v2, .int v3, .int v4, .int x1082, .int v6, .int v7, .int x1087, .int v9, .int r1084, .float 0]) dX10_year_140 (Nat.le_of_ble_eq_true rfl) rfl rfl ?_
      refine mv_iload dX10_year_142 rfl ?_
      refine mv_if_lt dX10_year_144 hs (fun _ hs => ?_) (fun _ hs => ?_)
      · exact mv_weak (lv' := [.ref 55, .float 0, .int v2, .int v3, .int v4, .int x1082, .int v6, .int v7, .int x1087, .int v9, .float 0, .float 0]) (mv_s (mv_s (mv_s (mv_s (mv_s (mv_s (mv_s (mv_s (mv_s (mv_s (mv_k (mv_s mv_n)))))))))))) (BX10_year_55_b187 G d D (by omega) P _ ih _ _ _ _ _ _ _ _ _ hs)
      · refine mv_aload_n dX10_year_147 rfl ?_
        refine mv_iload_n dX10_year_148 rfl ?_
        refine mv_cV (st := []) dX10_year_149 kk_X10_219 (TX10_areaOf_55 G d _ _ _ (mv_sat_bind hs)) so_55 vc_10 rfl rfl (Nat.le_of_ble_eq_true rfl) (by omega) rfl ⟨Nat.zero_le _, Nat.zero_le _⟩ (mv_ki fun r1088 hs => ?_)
        refine mv_aload_n dX10_year_152 rfl ?_
        refine mv_iload dX10_year_153 rfl ?_
        refine mv_iconst 2 dX10_year_155 (by decide) ?_
        refine mv_idivk dX10_year_156 (by decide) ?_
        refine mv_cV (st := [.int r1088]) dX10_year_157 kk_X10_203 (TX10_paper_55 G d _ _ _ (mv_sat_bind hs)) so_55 vc_10 rfl rfl (Nat.le_of_ble_eq_true rfl) (by omega) rfl ⟨Nat.zero_le _, Nat.zero_le _⟩ (mv_ki fun r1089 hs => ?_)
        refine mv_isub dX10_year_160 ?_
        refine mv_name hs (fun x1090 hs => ?_)
        refine mv_istore (lv' := [.ref 55, .float 0, .int v2, .int v3, .int v4, .int x1082, .int v6, .int v7, .int x1087, .int v9, .int r1084, .int x1090]) dX10_year_161 (Nat.le_of_ble_eq_true rfl) rfl rfl ?_
        refine mv_iload dX10_year_163 rfl ?_
        refine mv_if_eq dX10_year_165 hs (fun _ hs => ?_) (fun _ hs => ?_)
        · exact mv_weak (lv' := [.ref 55, .float 0, .int v2, .int v3, .int v4, .int x1082, .int v6, .float 0, .int x1087, .int v9, .float 0, .int x1090]) (mv_s (mv_s (mv_s (mv_s (mv_s (mv_s (mv_s (mv_k (mv_s (mv_s (mv_k (mv_s mv_n)))))))))))) (BX10_year_55_b175 G d D (by omega) P _ ih _ _ _ _ _ _ _ _ _ hs)
        · refine mv_iload dX10_year_168 rfl ?_
          refine mv_iload dX10_year_170 rfl ?_
          refine mv_icmp_le dX10_year_172 hs (fun _ hs => ?_) (fun _ hs => ?_)
          · exact mv_weak (lv' := [.ref 55, .float 0, .int v2, .int v3, .int v4, .int x1082, .int v6, .float 0, .int x1087, .int v9, .float 0, .int x1090]) (mv_s (mv_s (mv_s (mv_s (mv_s (mv_s (mv_s (mv_k (mv_s (mv_s (mv_k (mv_s mv_n)))))))))))) (BX10_year_55_b175 G d D (by omega) P _ ih _ _ _ _ _ _ _ _ _ hs)
          · refine mv_iload dX10_year_180 rfl ?_
            exact mv_weak (lv' := [.ref 55, .float 0, .int v2, .int v3, .int v4, .int x1082, .int v6, .float 0, .int x1087, .int v9, .float 0, .float 0]) (mv_s (mv_s (mv_s (mv_s (mv_s (mv_s (mv_s (mv_k (mv_s (mv_s (mv_k (mv_k mv_n)))))))))))) (BX10_year_55_b182 G d D (by omega) P _ ih _ _ _ _ _ _ _ _ _ hs)
    · refine mv_iload dX10_year_193 rfl ?_
      refine mv_if_ne dX10_year_195 hs (fun _ hs => ?_) (fun _ hs => ?_)
      · refine mv_iload dX10_year_198 rfl ?_
        refine mv_goto dX10_year_200 ?_
        exact mv_iret dX10_year_216 rfl ⟨(v6, h), rfl, rfl, rfl, mv_sat_some hs⟩
      · refine mv_iload dX10_year_203 rfl ?_
        refine mv_iconst 1 dX10_year_205 (by decide) ?_
        refine mv_icmp_ne dX10_year_206 hs (fun _ hs => ?_) (fun _ hs => ?_)
        · refine mv_iload dX10_year_209 rfl ?_
          refine mv_goto dX10_year_211 ?_
          exact mv_iret dX10_year_216 rfl ⟨(v7, h), rfl, rfl, rfl, mv_sat_some hs⟩
        · refine mv_iload dX10_year_214 rfl ?_
          exact mv_iret dX10_year_216 rfl ⟨(v8, h), rfl, rfl, rfl, mv_sat_some hs⟩
noncomputable def fX10_year_55 (p0 : Int32) (p1 : Int32) (p2 : Int32) (p3 : Int32) (h : mv_H) : Option (Int32 × mv_H) := (fX10_isSheet_55 p2 h).bind fun r1078 => if r1078 = 0 then some ((-1), h) else (fX10_in (Int32.toInt64 p0) (0 : Int64) (9999 : Int64)).bind fun r1079 => if r1079 = 0 then some ((-2), h) else (fX10_in (Int32.toInt64 p1) (1 : Int64) (99 : Int64)).bind fun r1080 => if r1080 = 0 then some ((-2), h) else (fX10_in (Int32.toInt64 p3) (0 : Int64) (2 : Int64)).bind fun r1081 => if r1081 = 0 then some ((-2), h) else fX10_year_55_b66 mv_F p1 p2 p3 p0 0 (-6) 0 0 h
set_option maxRecDepth 100000 in
set_option maxHeartbeats 4000000 in
theorem TX10_year_55 (G : mv_G) (d : Nat) (P : Int32 × mv_H → Prop) (p0 : Int32) (p1 : Int32) (p2 : Int32) (p3 : Int32) (h : mv_H) (hs : mv_sat (fX10_year_55 p0 p1 p2 p3 h) P) : mv_met G (d + 3) mX10_year [.ref 55, .int p0, .int p1, .int p2, .int p3] mv_SH h (mv_qI mv_SH P) := by
  unfold fX10_year_55 at hs
  obtain ⟨D, hDe⟩ : ∃ D, D = d + 3 := ⟨_, rfl⟩
  rw [← hDe]
  have hD : d + 3 ≤ D := by omega
  refine mv_enter (lv := [.ref 55, .int p0, .int p1, .int p2, .int p3, .float 0, .float 0, .float 0, .float 0, .float 0, .float 0, .float 0]) 7 (by decide) (by decide +kernel) rfl (Nat.le_of_ble_eq_true rfl) ?_
  refine mv_aload_n dX10_year_0 rfl ?_
  refine mv_iload_n dX10_year_1 rfl ?_
  refine mv_cV (st := []) dX10_year_2 kk_X10_152 (TX10_isSheet_55 G d _ _ _ (mv_sat_bind hs)) so_55 vc_10 rfl rfl (Nat.le_of_ble_eq_true rfl) (by omega) rfl ⟨Nat.zero_le _, Nat.zero_le _⟩ (mv_ki fun r1078 hs => ?_)
  refine mv_if_ne dX10_year_5 hs (fun _ hs => ?_) (fun _ hs => ?_)
  · refine mv_iconst (-1) dX10_year_8 (by decide) ?_
    exact mv_iret dX10_year_9 rfl ⟨((-1), h), rfl, rfl, rfl, mv_sat_some hs⟩
  · refine mv_iload_n dX10_year_10 rfl ?_
    refine mv_i2l dX10_year_11 ?_
    refine mv_lconst 0 dX10_year_12 rfl ?_
    refine mv_ldc2 dX10_year_13 kn_X10_341 ?_
    refine mv_cS (st := []) dX10_year_16 kk_X10_104 (TX10_in G d _ _ _ _ _ (mv_sat_bind hs)) rfl rfl (Nat.le_of_ble_eq_true rfl) (by omega) rfl ⟨Nat.zero_le _, Nat.zero_le _⟩ (mv_ki fun r1079 hs => ?_)
    refine mv_if_eq dX10_year_19 hs (fun _ hs => ?_) (fun _ hs => ?_)
    · refine mv_bipush (-2) dX10_year_47 (by decide) ?_
      exact mv_iret dX10_year_49 rfl ⟨((-2), h), rfl, rfl, rfl, mv_sat_some hs⟩
    · refine mv_iload_n dX10_year_22 rfl ?_
      refine mv_i2l dX10_year_23 ?_
      refine mv_lconst 1 dX10_year_24 rfl ?_
      refine mv_ldc2 dX10_year_25 kn_X10_250 ?_
      refine mv_cS (st := []) dX10_year_28 kk_X10_104 (TX10_in G d _ _ _ _ _ (mv_sat_bind hs)) rfl rfl (Nat.le_of_ble_eq_true rfl) (by omega) rfl ⟨Nat.zero_le _, Nat.zero_le _⟩ (mv_ki fun r1080 hs => ?_)
      refine mv_if_eq dX10_year_31 hs (fun _ hs => ?_) (fun _ hs => ?_)
      · refine mv_bipush (-2) dX10_year_47 (by decide) ?_
        exact mv_iret dX10_year_49 rfl ⟨((-2), h), rfl, rfl, rfl, mv_sat_some hs⟩
      · refine mv_iload dX10_year_34 rfl ?_
        refine mv_i2l dX10_year_36 ?_
        refine mv_lconst 0 dX10_year_37 rfl ?_
        refine mv_ldc2 dX10_year_38 kn_X10_144 ?_
        refine mv_cS (st := []) dX10_year_41 kk_X10_104 (TX10_in G d _ _ _ _ _ (mv_sat_bind hs)) rfl rfl (Nat.le_of_ble_eq_true rfl) (by omega) rfl ⟨Nat.zero_le _, Nat.zero_le _⟩ (mv_ki fun r1081 hs => ?_)
        refine mv_if_ne dX10_year_44 hs (fun _ hs => ?_) (fun _ hs => ?_)
        · refine mv_bipush (-2) dX10_year_47 (by decide) ?_
          exact mv_iret dX10_year_49 rfl ⟨((-2), h), rfl, rfl, rfl, mv_sat_some hs⟩
        · refine mv_iload_n dX10_year_50 rfl ?_
          refine mv_istore (lv' := [.ref 55, .int p0, .int p1, .int p2, .int p3, .int p0, .float 0, .float 0, .float 0, .float 0, .float 0, .float 0]) dX10_year_51 (Nat.le_of_ble_eq_true rfl) rfl rfl ?_
          refine mv_iconst 0 dX10_year_53 (by decide) ?_
          refine mv_istore (lv' := [.ref 55, .int p0, .int p1, .int p2, .int p3, .int p0, .int 0, .float 0, .float 0, .float 0, .float 0, .float 0]) dX10_year_54 (Nat.le_of_ble_eq_true rfl) rfl rfl ?_
          refine mv_bipush (-6) dX10_year_56 (by decide) ?_
          refine mv_istore (lv' := [.ref 55, .int p0, .int p1, .int p2, .int p3, .int p0, .int 0, .int (-6), .float 0, .float 0, .float 0, .float 0]) dX10_year_58 (Nat.le_of_ble_eq_true rfl) rfl rfl ?_
          refine mv_iconst 0 dX10_year_60 (by decide) ?_
          refine mv_istore (lv' := [.ref 55, .int p0, .int p1, .int p2, .int p3, .int p0, .int 0, .int (-6), .int 0, .float 0, .float 0, .float 0]) dX10_year_61 (Nat.le_of_ble_eq_true rfl) rfl rfl ?_
          refine mv_iconst 0 dX10_year_63 (by decide) ?_
          refine mv_istore (lv' := [.ref 55, .int p0, .int p1, .int p2, .int p3, .int p0, .int 0, .int (-6), .int 0, .int 0, .float 0, .float 0]) dX10_year_64 (Nat.le_of_ble_eq_true rfl) rfl rfl ?_
          exact mv_weak (lv' := [.ref 55, .float 0, .int p1, .int p2, .int p3, .int p0, .int 0, .int (-6), .int 0, .int 0, .float 0, .float 0]) (mv_s (mv_k (mv_s (mv_s (mv_s (mv_s (mv_s (mv_s (mv_s (mv_s (mv_s (mv_s mv_n)))))))))))) (BX10_year_55_b66 G d D (by omega) P _ _ _ _ _ _ _ _ _ _ hs)
noncomputable def fX9_imageOf_0 (p0 : Int32) (h : mv_H) : Option (Nat) := if p0 = 0 then some 12 else some 23
set_option maxRecDepth 100000 in
set_option maxHeartbeats 4000000 in
theorem TX9_imageOf_0 (G : mv_G) (d : Nat) (P : Nat → Prop) (p0 : Int32) (h : mv_H) (hs : mv_sat (fX9_imageOf_0 p0 h) P) : mv_met G (d + 0) mX9_imageOf [.ref 0, .int p0] mv_SH h (mv_qr mv_SH h P) := by
  unfold fX9_imageOf_0 at hs
  obtain ⟨D, hDe⟩ : ∃ D, D = d + 0 := ⟨_, rfl⟩
  rw [← hDe]
  have hD : d + 0 ≤ D := by omega
  refine mv_enter (lv := [.ref 0, .int p0]) 0 (by decide) (by decide +kernel) rfl (Nat.le_of_ble_eq_true rfl) ?_
  refine mv_iload_n dX9_imageOf_0 rfl ?_
  refine mv_if_ne dX9_imageOf_1 hs (fun _ hs => ?_) (fun _ hs => ?_)
  · refine mv_aload_n dX9_imageOf_4 rfl ?_
    refine mv_getr dX9_imageOf_5 kf_X9_16 gf_0_1 ?_
    refine mv_goto dX9_imageOf_8 ?_
    exact mv_aret dX9_imageOf_15 rfl ⟨_, rfl, rfl, rfl, mv_sat_some hs⟩
  · refine mv_aload_n dX9_imageOf_11 rfl ?_
    refine mv_getr dX9_imageOf_12 kf_X9_19 gf_0_2 ?_
    exact mv_aret dX9_imageOf_15 rfl ⟨_, rfl, rfl, rfl, mv_sat_some hs⟩
noncomputable def fX7_copyFrom_13_2_b2 : Nat → Int32 → mv_H → Option (mv_H)
  | 0, _, _ => none
  | n + 1, v2, h => if v2 < 18 then (if mv_in v2 18 then (if mv_in v2 18 then mv_let (mv_u h 14 v2.toNatClampNeg (h 3 v2.toNatClampNeg)) fun h1094 : mv_H => ((fX7_copyFrom_13_2_b2 n) (v2 + 1) h1094) else none) else none) else mv_let (mv_u h 13 2 (h 2 2)) fun h1095 : mv_H => some h1095
set_option maxRecDepth 100000 in
set_option maxHeartbeats 4000000 in
theorem BX7_copyFrom_13_2_b2 (G : mv_G) (d D : Nat) (hD : d + 0 ≤ D) (P : mv_H → Prop) : ∀ (n : Nat) (v2 : Int32) (h : mv_H), mv_sat (fX7_copyFrom_13_2_b2 n v2 h) P → mv_MW G mX7_copyFrom (mv_rm D mX7_copyFrom) (mv_Zf G mX7_copyFrom (mv_qv mv_SH P)) 0 0 2 [.ref 13, .ref 2, .int v2] [] mv_SH h := by
  intro n
  induction n with
  | zero =>
    intro v2 h hs
    unfold fX7_copyFrom_13_2_b2 at hs
    exact (mv_sat_none hs).elim
  | succ n ih =>
    intro v2 h hs
    unfold fX7_copyFrom_13_2_b2 at hs
    refine mv_iload_n dX7_copyFrom_2 rfl ?_
    refine mv_bipush 18 dX7_copyFrom_3 (by decide) ?_
    refine mv_icmp_ge dX7_copyFrom_5 hs (fun _ hs => ?_) (fun _ hs => ?_)
    · refine mv_aload_n dX7_copyFrom_8 rfl ?_
      refine mv_getr dX7_copyFrom_9 kf_X7_9 gf_13_1 ?_
      refine mv_iload_n dX7_copyFrom_12 rfl ?_
      refine mv_aload_n dX7_copyFrom_13 rfl ?_
      refine mv_getr dX7_copyFrom_14 kf_X7_9 gf_2_1 ?_
      refine mv_iload_n dX7_copyFrom_17 rfl ?_
      refine mv_iaload dX7_copyFrom_18 so_3 hs (fun hs => ?_)
      refine mv_iastore dX7_copyFrom_19 so_14 hs (fun hs => ?_)
      refine mv_nameH hs (fun h1094 hs => ?_)
      refine mv_iinc (lv' := [.ref 13, .ref 2, .int (v2 + 1)]) 1 dX7_copyFrom_20 rfl (by decide) (Nat.le_of_ble_eq_true rfl) rfl rfl ?_
      refine mv_goto dX7_copyFrom_23 ?_
      exact (ih _ _ hs)
    · refine mv_aload_n dX7_copyFrom_26 rfl ?_
      refine mv_aload_n dX7_copyFrom_27 rfl ?_
      refine mv_geti dX7_copyFrom_28 kf_X7_19 gf_2_2 ?_
      refine mv_puti dX7_copyFrom_31 kf_X7_19 (fun q => by cases q) gf_13_2 ?_
      refine mv_nameH hs (fun h1095 hs => ?_)
      exact mv_vret dX7_copyFrom_34 rfl ⟨_, rfl, rfl, rfl, mv_sat_some hs⟩
noncomputable def fX7_copyFrom_13_2 (h : mv_H) : Option (mv_H) := fX7_copyFrom_13_2_b2 mv_F 0 h
set_option maxRecDepth 100000 in
set_option maxHeartbeats 4000000 in
theorem TX7_copyFrom_13_2 (G : mv_G) (d : Nat) (P : mv_H → Prop) (h : mv_H) (hs : mv_sat (fX7_copyFrom_13_2 h) P) : mv_met G (d + 0) mX7_copyFrom [.ref 13, .ref 2] mv_SH h (mv_qv mv_SH P) := by
  unfold fX7_copyFrom_13_2 at hs
  obtain ⟨D, hDe⟩ : ∃ D, D = d + 0 := ⟨_, rfl⟩
  rw [← hDe]
  have hD : d + 0 ≤ D := by omega
  refine mv_enter (lv := [.ref 13, .ref 2, .float 0]) 1 (by decide) (by decide +kernel) rfl (Nat.le_of_ble_eq_true rfl) ?_
  refine mv_iconst 0 dX7_copyFrom_0 (by decide) ?_
  refine mv_istore_n (lv' := [.ref 13, .ref 2, .int 0]) dX7_copyFrom_1 (Nat.le_of_ble_eq_true rfl) rfl rfl ?_
  exact (BX7_copyFrom_13_2_b2 G d D (by omega) P _ _ _ hs)
noncomputable def fX7_copyFrom_15_4_b2 : Nat → Int32 → mv_H → Option (mv_H)
  | 0, _, _ => none
  | n + 1, v2, h => if v2 < 18 then (if mv_in v2 18 then (if mv_in v2 18 then mv_let (mv_u h 16 v2.toNatClampNeg (h 5 v2.toNatClampNeg)) fun h1097 : mv_H => ((fX7_copyFrom_15_4_b2 n) (v2 + 1) h1097) else none) else none) else mv_let (mv_u h 15 2 (h 4 2)) fun h1098 : mv_H => some h1098
set_option maxRecDepth 100000 in
set_option maxHeartbeats 4000000 in
theorem BX7_copyFrom_15_4_b2 (G : mv_G) (d D : Nat) (hD : d + 0 ≤ D) (P : mv_H → Prop) : ∀ (n : Nat) (v2 : Int32) (h : mv_H), mv_sat (fX7_copyFrom_15_4_b2 n v2 h) P → mv_MW G mX7_copyFrom (mv_rm D mX7_copyFrom) (mv_Zf G mX7_copyFrom (mv_qv mv_SH P)) 0 0 2 [.ref 15, .ref 4, .int v2] [] mv_SH h := by
  intro n
  induction n with
  | zero =>
    intro v2 h hs
    unfold fX7_copyFrom_15_4_b2 at hs
    exact (mv_sat_none hs).elim
  | succ n ih =>
    intro v2 h hs
    unfold fX7_copyFrom_15_4_b2 at hs
    refine mv_iload_n dX7_copyFrom_2 rfl ?_
    refine mv_bipush 18 dX7_copyFrom_3 (by decide) ?_
    refine mv_icmp_ge dX7_copyFrom_5 hs (fun _ hs => ?_) (fun _ hs => ?_)
    · refine mv_aload_n dX7_copyFrom_8 rfl ?_
      refine mv_getr dX7_copyFrom_9 kf_X7_9 gf_15_1 ?_
      refine mv_iload_n dX7_copyFrom_12 rfl ?_
      refine mv_aload_n dX7_copyFrom_13 rfl ?_
      refine mv_getr dX7_copyFrom_14 kf_X7_9 gf_4_1 ?_
      refine mv_iload_n dX7_copyFrom_17 rfl ?_
      refine mv_iaload dX7_copyFrom_18 so_5 hs (fun hs => ?_)
      refine mv_iastore dX7_copyFrom_19 so_16 hs (fun hs => ?_)
      refine mv_nameH hs (fun h1097 hs => ?_)
      refine mv_iinc (lv' := [.ref 15, .ref 4, .int (v2 + 1)]) 1 dX7_copyFrom_20 rfl (by decide) (Nat.le_of_ble_eq_true rfl) rfl rfl ?_
      refine mv_goto dX7_copyFrom_23 ?_
      exact (ih _ _ hs)
    · refine mv_aload_n dX7_copyFrom_26 rfl ?_
      refine mv_aload_n dX7_copyFrom_27 rfl ?_
      refine mv_geti dX7_copyFrom_28 kf_X7_19 gf_4_2 ?_
      refine mv_puti dX7_copyFrom_31 kf_X7_19 (fun q => by cases q) gf_15_2 ?_
      refine mv_nameH hs (fun h1098 hs => ?_)
      exact mv_vret dX7_copyFrom_34 rfl ⟨_, rfl, rfl, rfl, mv_sat_some hs⟩
noncomputable def fX7_copyFrom_15_4 (h : mv_H) : Option (mv_H) := fX7_copyFrom_15_4_b2 mv_F 0 h
set_option maxRecDepth 100000 in
set_option maxHeartbeats 4000000 in
theorem TX7_copyFrom_15_4 (G : mv_G) (d : Nat) (P : mv_H → Prop) (h : mv_H) (hs : mv_sat (fX7_copyFrom_15_4 h) P) : mv_met G (d + 0) mX7_copyFrom [.ref 15, .ref 4] mv_SH h (mv_qv mv_SH P) := by
  unfold fX7_copyFrom_15_4 at hs
  obtain ⟨D, hDe⟩ : ∃ D, D = d + 0 := ⟨_, rfl⟩
  rw [← hDe]
  have hD : d + 0 ≤ D := by omega
  refine mv_enter (lv := [.ref 15, .ref 4, .float 0]) 1 (by decide) (by decide +kernel) rfl (Nat.le_of_ble_eq_true rfl) ?_
  refine mv_iconst 0 dX7_copyFrom_0 (by decide) ?_
  refine mv_istore_n (lv' := [.ref 15, .ref 4, .int 0]) dX7_copyFrom_1 (Nat.le_of_ble_eq_true rfl) rfl rfl ?_
  exact (BX7_copyFrom_15_4_b2 G d D (by omega) P _ _ _ hs)
noncomputable def fX7_copyFrom_17_6_b2 : Nat → Int32 → mv_H → Option (mv_H)
  | 0, _, _ => none
  | n + 1, v2, h => if v2 < 18 then (if mv_in v2 18 then (if mv_in v2 18 then mv_let (mv_u h 18 v2.toNatClampNeg (h 7 v2.toNatClampNeg)) fun h1100 : mv_H => ((fX7_copyFrom_17_6_b2 n) (v2 + 1) h1100) else none) else none) else mv_let (mv_u h 17 2 (h 6 2)) fun h1101 : mv_H => some h1101
set_option maxRecDepth 100000 in
set_option maxHeartbeats 4000000 in
theorem BX7_copyFrom_17_6_b2 (G : mv_G) (d D : Nat) (hD : d + 0 ≤ D) (P : mv_H → Prop) : ∀ (n : Nat) (v2 : Int32) (h : mv_H), mv_sat (fX7_copyFrom_17_6_b2 n v2 h) P → mv_MW G mX7_copyFrom (mv_rm D mX7_copyFrom) (mv_Zf G mX7_copyFrom (mv_qv mv_SH P)) 0 0 2 [.ref 17, .ref 6, .int v2] [] mv_SH h := by
  intro n
  induction n with
  | zero =>
    intro v2 h hs
    unfold fX7_copyFrom_17_6_b2 at hs
    exact (mv_sat_none hs).elim
  | succ n ih =>
    intro v2 h hs
    unfold fX7_copyFrom_17_6_b2 at hs
    refine mv_iload_n dX7_copyFrom_2 rfl ?_
    refine mv_bipush 18 dX7_copyFrom_3 (by decide) ?_
    refine mv_icmp_ge dX7_copyFrom_5 hs (fun _ hs => ?_) (fun _ hs => ?_)
    · refine mv_aload_n dX7_copyFrom_8 rfl ?_
      refine mv_getr dX7_copyFrom_9 kf_X7_9 gf_17_1 ?_
      refine mv_iload_n dX7_copyFrom_12 rfl ?_
      refine mv_aload_n dX7_copyFrom_13 rfl ?_
      refine mv_getr dX7_copyFrom_14 kf_X7_9 gf_6_1 ?_
      refine mv_iload_n dX7_copyFrom_17 rfl ?_
      refine mv_iaload dX7_copyFrom_18 so_7 hs (fun hs => ?_)
      refine mv_iastore dX7_copyFrom_19 so_18 hs (fun hs => ?_)
      refine mv_nameH hs (fun h1100 hs => ?_)
      refine mv_iinc (lv' := [.ref 17, .ref 6, .int (v2 + 1)]) 1 dX7_copyFrom_20 rfl (by decide) (Nat.le_of_ble_eq_true rfl) rfl rfl ?_
      refine mv_goto dX7_copyFrom_23 ?_
      exact (ih _ _ hs)
    · refine mv_aload_n dX7_copyFrom_26 rfl ?_
      refine mv_aload_n dX7_copyFrom_27 rfl ?_
      refine mv_geti dX7_copyFrom_28 kf_X7_19 gf_6_2 ?_
      refine mv_puti dX7_copyFrom_31 kf_X7_19 (fun q => by cases q) gf_17_2 ?_
      refine mv_nameH hs (fun h1101 hs => ?_)
      exact mv_vret dX7_copyFrom_34 rfl ⟨_, rfl, rfl, rfl, mv_sat_some hs⟩
noncomputable def fX7_copyFrom_17_6 (h : mv_H) : Option (mv_H) := fX7_copyFrom_17_6_b2 mv_F 0 h
set_option maxRecDepth 100000 in
set_option maxHeartbeats 4000000 in
theorem TX7_copyFrom_17_6 (G : mv_G) (d : Nat) (P : mv_H → Prop) (h : mv_H) (hs : mv_sat (fX7_copyFrom_17_6 h) P) : mv_met G (d + 0) mX7_copyFrom [.ref 17, .ref 6] mv_SH h (mv_qv mv_SH P) := by
  unfold fX7_copyFrom_17_6 at hs
  obtain ⟨D, hDe⟩ : ∃ D, D = d + 0 := ⟨_, rfl⟩
  rw [← hDe]
  have hD : d + 0 ≤ D := by omega
  refine mv_enter (lv := [.ref 17, .ref 6, .float 0]) 1 (by decide) (by decide +kernel) rfl (Nat.le_of_ble_eq_true rfl) ?_
  refine mv_iconst 0 dX7_copyFrom_0 (by decide) ?_
  refine mv_istore_n (lv' := [.ref 17, .ref 6, .int 0]) dX7_copyFrom_1 (Nat.le_of_ble_eq_true rfl) rfl rfl ?_
  exact (BX7_copyFrom_17_6_b2 G d D (by omega) P _ _ _ hs)
noncomputable def fX2_copyFrom_19_8_b2 : Nat → Int32 → mv_H → Option (mv_H)
  | 0, _, _ => none
  | n + 1, v2, h => if v2 < 6 then (if mv_in v2 6 then (if mv_in v2 6 then mv_let (mv_u h 20 v2.toNatClampNeg (h 9 v2.toNatClampNeg)) fun h1103 : mv_H => ((fX2_copyFrom_19_8_b2 n) (v2 + 1) h1103) else none) else none) else mv_let (mv_u h 19 2 (h 8 2)) fun h1104 : mv_H => some h1104
set_option maxRecDepth 100000 in
set_option maxHeartbeats 4000000 in
theorem BX2_copyFrom_19_8_b2 (G : mv_G) (d D : Nat) (hD : d + 0 ≤ D) (P : mv_H → Prop) : ∀ (n : Nat) (v2 : Int32) (h : mv_H), mv_sat (fX2_copyFrom_19_8_b2 n v2 h) P → mv_MW G mX2_copyFrom (mv_rm D mX2_copyFrom) (mv_Zf G mX2_copyFrom (mv_qv mv_SH P)) 0 0 2 [.ref 19, .ref 8, .int v2] [] mv_SH h := by
  intro n
  induction n with
  | zero =>
    intro v2 h hs
    unfold fX2_copyFrom_19_8_b2 at hs
    exact (mv_sat_none hs).elim
  | succ n ih =>
    intro v2 h hs
    unfold fX2_copyFrom_19_8_b2 at hs
    refine mv_iload_n dX2_copyFrom_2 rfl ?_
    refine mv_bipush 6 dX2_copyFrom_3 (by decide) ?_
    refine mv_icmp_ge dX2_copyFrom_5 hs (fun _ hs => ?_) (fun _ hs => ?_)
    · refine mv_aload_n dX2_copyFrom_8 rfl ?_
      refine mv_getr dX2_copyFrom_9 kf_X2_9 gf_19_1 ?_
      refine mv_iload_n dX2_copyFrom_12 rfl ?_
      refine mv_aload_n dX2_copyFrom_13 rfl ?_
      refine mv_getr dX2_copyFrom_14 kf_X2_9 gf_8_1 ?_
      refine mv_iload_n dX2_copyFrom_17 rfl ?_
      refine mv_iaload dX2_copyFrom_18 so_9 hs (fun hs => ?_)
      refine mv_iastore dX2_copyFrom_19 so_20 hs (fun hs => ?_)
      refine mv_nameH hs (fun h1103 hs => ?_)
      refine mv_iinc (lv' := [.ref 19, .ref 8, .int (v2 + 1)]) 1 dX2_copyFrom_20 rfl (by decide) (Nat.le_of_ble_eq_true rfl) rfl rfl ?_
      refine mv_goto dX2_copyFrom_23 ?_
      exact (ih _ _ hs)
    · refine mv_aload_n dX2_copyFrom_26 rfl ?_
      refine mv_aload_n dX2_copyFrom_27 rfl ?_
      refine mv_geti dX2_copyFrom_28 kf_X2_17 gf_8_2 ?_
      refine mv_puti dX2_copyFrom_31 kf_X2_17 (fun q => by cases q) gf_19_2 ?_
      refine mv_nameH hs (fun h1104 hs => ?_)
      exact mv_vret dX2_copyFrom_34 rfl ⟨_, rfl, rfl, rfl, mv_sat_some hs⟩
noncomputable def fX2_copyFrom_19_8 (h : mv_H) : Option (mv_H) := fX2_copyFrom_19_8_b2 mv_F 0 h
set_option maxRecDepth 100000 in
set_option maxHeartbeats 4000000 in
theorem TX2_copyFrom_19_8 (G : mv_G) (d : Nat) (P : mv_H → Prop) (h : mv_H) (hs : mv_sat (fX2_copyFrom_19_8 h) P) : mv_met G (d + 0) mX2_copyFrom [.ref 19, .ref 8] mv_SH h (mv_qv mv_SH P) := by
  unfold fX2_copyFrom_19_8 at hs
  obtain ⟨D, hDe⟩ : ∃ D, D = d + 0 := ⟨_, rfl⟩
  rw [← hDe]
  have hD : d + 0 ≤ D := by omega
  refine mv_enter (lv := [.ref 19, .ref 8, .float 0]) 1 (by decide) (by decide +kernel) rfl (Nat.le_of_ble_eq_true rfl) ?_
  refine mv_iconst 0 dX2_copyFrom_0 (by decide) ?_
  refine mv_istore_n (lv' := [.ref 19, .ref 8, .int 0]) dX2_copyFrom_1 (Nat.le_of_ble_eq_true rfl) rfl rfl ?_
  exact (BX2_copyFrom_19_8_b2 G d D (by omega) P _ _ _ hs)
noncomputable def fX2_copyFrom_21_10_b2 : Nat → Int32 → mv_H → Option (mv_H)
  | 0, _, _ => none
  | n + 1, v2, h => if v2 < 6 then (if mv_in v2 6 then (if mv_in v2 6 then mv_let (mv_u h 22 v2.toNatClampNeg (h 11 v2.toNatClampNeg)) fun h1106 : mv_H => ((fX2_copyFrom_21_10_b2 n) (v2 + 1) h1106) else none) else none) else mv_let (mv_u h 21 2 (h 10 2)) fun h1107 : mv_H => some h1107
set_option maxRecDepth 100000 in
set_option maxHeartbeats 4000000 in
theorem BX2_copyFrom_21_10_b2 (G : mv_G) (d D : Nat) (hD : d + 0 ≤ D) (P : mv_H → Prop) : ∀ (n : Nat) (v2 : Int32) (h : mv_H), mv_sat (fX2_copyFrom_21_10_b2 n v2 h) P → mv_MW G mX2_copyFrom (mv_rm D mX2_copyFrom) (mv_Zf G mX2_copyFrom (mv_qv mv_SH P)) 0 0 2 [.ref 21, .ref 10, .int v2] [] mv_SH h := by
  intro n
  induction n with
  | zero =>
    intro v2 h hs
    unfold fX2_copyFrom_21_10_b2 at hs
    exact (mv_sat_none hs).elim
  | succ n ih =>
    intro v2 h hs
    unfold fX2_copyFrom_21_10_b2 at hs
    refine mv_iload_n dX2_copyFrom_2 rfl ?_
    refine mv_bipush 6 dX2_copyFrom_3 (by decide) ?_
    refine mv_icmp_ge dX2_copyFrom_5 hs (fun _ hs => ?_) (fun _ hs => ?_)
    · refine mv_aload_n dX2_copyFrom_8 rfl ?_
      refine mv_getr dX2_copyFrom_9 kf_X2_9 gf_21_1 ?_
      refine mv_iload_n dX2_copyFrom_12 rfl ?_
      refine mv_aload_n dX2_copyFrom_13 rfl ?_
      refine mv_getr dX2_copyFrom_14 kf_X2_9 gf_10_1 ?_
      refine mv_iload_n dX2_copyFrom_17 rfl ?_
      refine mv_iaload dX2_copyFrom_18 so_11 hs (fun hs => ?_)
      refine mv_iastore dX2_copyFrom_19 so_22 hs (fun hs => ?_)
      refine mv_nameH hs (fun h1106 hs => ?_)
      refine mv_iinc (lv' := [.ref 21, .ref 10, .int (v2 + 1)]) 1 dX2_copyFrom_20 rfl (by decide) (Nat.le_of_ble_eq_true rfl) rfl rfl ?_
      refine mv_goto dX2_copyFrom_23 ?_
      exact (ih _ _ hs)
    · refine mv_aload_n dX2_copyFrom_26 rfl ?_
      refine mv_aload_n dX2_copyFrom_27 rfl ?_
      refine mv_geti dX2_copyFrom_28 kf_X2_17 gf_10_2 ?_
      refine mv_puti dX2_copyFrom_31 kf_X2_17 (fun q => by cases q) gf_21_2 ?_
      refine mv_nameH hs (fun h1107 hs => ?_)
      exact mv_vret dX2_copyFrom_34 rfl ⟨_, rfl, rfl, rfl, mv_sat_some hs⟩
noncomputable def fX2_copyFrom_21_10 (h : mv_H) : Option (mv_H) := fX2_copyFrom_21_10_b2 mv_F 0 h
set_option maxRecDepth 100000 in
set_option maxHeartbeats 4000000 in
theorem TX2_copyFrom_21_10 (G : mv_G) (d : Nat) (P : mv_H → Prop) (h : mv_H) (hs : mv_sat (fX2_copyFrom_21_10 h) P) : mv_met G (d + 0) mX2_copyFrom [.ref 21, .ref 10] mv_SH h (mv_qv mv_SH P) := by
  unfold fX2_copyFrom_21_10 at hs
  obtain ⟨D, hDe⟩ : ∃ D, D = d + 0 := ⟨_, rfl⟩
  rw [← hDe]
  have hD : d + 0 ≤ D := by omega
  refine mv_enter (lv := [.ref 21, .ref 10, .float 0]) 1 (by decide) (by decide +kernel) rfl (Nat.le_of_ble_eq_true rfl) ?_
  refine mv_iconst 0 dX2_copyFrom_0 (by decide) ?_
  refine mv_istore_n (lv' := [.ref 21, .ref 10, .int 0]) dX2_copyFrom_1 (Nat.le_of_ble_eq_true rfl) rfl rfl ?_
  exact (BX2_copyFrom_21_10_b2 G d D (by omega) P _ _ _ hs)
noncomputable def fX1_copyFrom_12_1 (h : mv_H) : Option (mv_H) := (fX7_copyFrom_13_2 h).bind fun r1096 => (fX7_copyFrom_15_4 r1096).bind fun r1099 => (fX7_copyFrom_17_6 r1099).bind fun r1102 => (fX2_copyFrom_19_8 r1102).bind fun r1105 => (fX2_copyFrom_21_10 r1105).bind fun r1108 => mv_let (mv_u r1108 12 5 (r1108 1 5)) fun h1109 : mv_H => mv_let (mv_u h1109 12 6 (h1109 1 6)) fun h1110 : mv_H => mv_let (mv_u h1110 12 7 (h1110 1 7)) fun h1111 : mv_H => mv_let (mv_u h1111 12 8 (h1111 1 8)) fun h1112 : mv_H => some h1112
set_option maxRecDepth 100000 in
set_option maxHeartbeats 4000000 in
theorem TX1_copyFrom_12_1 (G : mv_G) (d : Nat) (P : mv_H → Prop) (h : mv_H) (hs : mv_sat (fX1_copyFrom_12_1 h) P) : mv_met G (d + 1) mX1_copyFrom [.ref 12, .ref 1] mv_SH h (mv_qv mv_SH P) := by
  unfold fX1_copyFrom_12_1 at hs
  obtain ⟨D, hDe⟩ : ∃ D, D = d + 1 := ⟨_, rfl⟩
  rw [← hDe]
  have hD : d + 1 ≤ D := by omega
  refine mv_enter (lv := [.ref 12, .ref 1]) 0 (by decide) (by decide +kernel) rfl (Nat.le_of_ble_eq_true rfl) ?_
  refine mv_aload_n dX1_copyFrom_0 rfl ?_
  refine mv_getr dX1_copyFrom_1 kf_X1_14 gf_12_0 ?_
  refine mv_aload_n dX1_copyFrom_4 rfl ?_
  refine mv_getr dX1_copyFrom_5 kf_X1_14 gf_1_0 ?_
  refine mv_cV (st := []) dX1_copyFrom_8 kk_X1_49 (TX7_copyFrom_13_2 G d _ _ (mv_sat_bind hs)) so_13 vc_7 rfl rfl (Nat.le_of_ble_eq_true rfl) (by omega) rfl ⟨Nat.zero_le _, Nat.zero_le _⟩ (mv_kv fun r1096 hs => ?_)
  refine mv_aload_n dX1_copyFrom_11 rfl ?_
  refine mv_getr dX1_copyFrom_12 kf_X1_20 gf_12_1 ?_
  refine mv_aload_n dX1_copyFrom_15 rfl ?_
  refine mv_getr dX1_copyFrom_16 kf_X1_20 gf_1_1 ?_
  refine mv_cV (st := []) dX1_copyFrom_19 kk_X1_49 (TX7_copyFrom_15_4 G d _ _ (mv_sat_bind hs)) so_15 vc_7 rfl rfl (Nat.le_of_ble_eq_true rfl) (by omega) rfl ⟨Nat.zero_le _, Nat.zero_le _⟩ (mv_kv fun r1099 hs => ?_)
  refine mv_aload_n dX1_copyFrom_22 rfl ?_
  refine mv_getr dX1_copyFrom_23 kf_X1_23 gf_12_2 ?_
  refine mv_aload_n dX1_copyFrom_26 rfl ?_
  refine mv_getr dX1_copyFrom_27 kf_X1_23 gf_1_2 ?_
  refine mv_cV (st := []) dX1_copyFrom_30 kk_X1_49 (TX7_copyFrom_17_6 G d _ _ (mv_sat_bind hs)) so_17 vc_7 rfl rfl (Nat.le_of_ble_eq_true rfl) (by omega) rfl ⟨Nat.zero_le _, Nat.zero_le _⟩ (mv_kv fun r1102 hs => ?_)
  refine mv_aload_n dX1_copyFrom_33 rfl ?_
  refine mv_getr dX1_copyFrom_34 kf_X1_29 gf_12_3 ?_
  refine mv_aload_n dX1_copyFrom_37 rfl ?_
  refine mv_getr dX1_copyFrom_38 kf_X1_29 gf_1_3 ?_
  refine mv_cV (st := []) dX1_copyFrom_41 kk_X1_53 (TX2_copyFrom_19_8 G d _ _ (mv_sat_bind hs)) so_19 vc_2 rfl rfl (Nat.le_of_ble_eq_true rfl) (by omega) rfl ⟨Nat.zero_le _, Nat.zero_le _⟩ (mv_kv fun r1105 hs => ?_)
  refine mv_aload_n dX1_copyFrom_44 rfl ?_
  refine mv_getr dX1_copyFrom_45 kf_X1_33 gf_12_4 ?_
  refine mv_aload_n dX1_copyFrom_48 rfl ?_
  refine mv_getr dX1_copyFrom_49 kf_X1_33 gf_1_4 ?_
  refine mv_cV (st := []) dX1_copyFrom_52 kk_X1_53 (TX2_copyFrom_21_10 G d _ _ (mv_sat_bind hs)) so_21 vc_2 rfl rfl (Nat.le_of_ble_eq_true rfl) (by omega) rfl ⟨Nat.zero_le _, Nat.zero_le _⟩ (mv_kv fun r1108 hs => ?_)
  refine mv_aload_n dX1_copyFrom_55 rfl ?_
  refine mv_aload_n dX1_copyFrom_56 rfl ?_
  refine mv_geti dX1_copyFrom_57 kf_X1_36 gf_1_5 ?_
  refine mv_puti dX1_copyFrom_60 kf_X1_36 (fun q => by cases q) gf_12_5 ?_
  refine mv_nameH hs (fun h1109 hs => ?_)
  refine mv_aload_n dX1_copyFrom_63 rfl ?_
  refine mv_aload_n dX1_copyFrom_64 rfl ?_
  refine mv_geti dX1_copyFrom_65 kf_X1_40 gf_1_6 ?_
  refine mv_puti dX1_copyFrom_68 kf_X1_40 (fun q => by cases q) gf_12_6 ?_
  refine mv_nameH hs (fun h1110 hs => ?_)
  refine mv_aload_n dX1_copyFrom_71 rfl ?_
  refine mv_aload_n dX1_copyFrom_72 rfl ?_
  refine mv_geti dX1_copyFrom_73 kf_X1_43 gf_1_7 ?_
  refine mv_puti dX1_copyFrom_76 kf_X1_43 (fun q => by cases q) gf_12_7 ?_
  refine mv_nameH hs (fun h1111 hs => ?_)
  refine mv_aload_n dX1_copyFrom_79 rfl ?_
  refine mv_aload_n dX1_copyFrom_80 rfl ?_
  refine mv_geti dX1_copyFrom_81 kf_X1_46 gf_1_8 ?_
  refine mv_puti dX1_copyFrom_84 kf_X1_46 (fun q => by cases q) gf_12_8 ?_
  refine mv_nameH hs (fun h1112 hs => ?_)
  exact mv_vret dX1_copyFrom_87 rfl ⟨_, rfl, rfl, rfl, mv_sat_some hs⟩
noncomputable def fX7_copyFrom_24_2_b2 : Nat → Int32 → mv_H → Option (mv_H)
  | 0, _, _ => none
  | n + 1, v2, h => if v2 < 18 then (if mv_in v2 18 then (if mv_in v2 18 then mv_let (mv_u h 25 v2.toNatClampNeg (h 3 v2.toNatClampNeg)) fun h1115 : mv_H => ((fX7_copyFrom_24_2_b2 n) (v2 + 1) h1115) else none) else none) else mv_let (mv_u h 24 2 (h 2 2)) fun h1116 : mv_H => some h1116
set_option maxRecDepth 100000 in
set_option maxHeartbeats 4000000 in
theorem BX7_copyFrom_24_2_b2 (G : mv_G) (d D : Nat) (hD : d + 0 ≤ D) (P : mv_H → Prop) : ∀ (n : Nat) (v2 : Int32) (h : mv_H), mv_sat (fX7_copyFrom_24_2_b2 n v2 h) P → mv_MW G mX7_copyFrom (mv_rm D mX7_copyFrom) (mv_Zf G mX7_copyFrom (mv_qv mv_SH P)) 0 0 2 [.ref 24, .ref 2, .int v2] [] mv_SH h := by
  intro n
  induction n with
  | zero =>
    intro v2 h hs
    unfold fX7_copyFrom_24_2_b2 at hs
    exact (mv_sat_none hs).elim
  | succ n ih =>
    intro v2 h hs
    unfold fX7_copyFrom_24_2_b2 at hs
    refine mv_iload_n dX7_copyFrom_2 rfl ?_
    refine mv_bipush 18 dX7_copyFrom_3 (by decide) ?_
    refine mv_icmp_ge dX7_copyFrom_5 hs (fun _ hs => ?_) (fun _ hs => ?_)
    · refine mv_aload_n dX7_copyFrom_8 rfl ?_
      refine mv_getr dX7_copyFrom_9 kf_X7_9 gf_24_1 ?_
      refine mv_iload_n dX7_copyFrom_12 rfl ?_
      refine mv_aload_n dX7_copyFrom_13 rfl ?_
      refine mv_getr dX7_copyFrom_14 kf_X7_9 gf_2_1 ?_
      refine mv_iload_n dX7_copyFrom_17 rfl ?_
      refine mv_iaload dX7_copyFrom_18 so_3 hs (fun hs => ?_)
      refine mv_iastore dX7_copyFrom_19 so_25 hs (fun hs => ?_)
      refine mv_nameH hs (fun h1115 hs => ?_)
      refine mv_iinc (lv' := [.ref 24, .ref 2, .int (v2 + 1)]) 1 dX7_copyFrom_20 rfl (by decide) (Nat.le_of_ble_eq_true rfl) rfl rfl ?_
      refine mv_goto dX7_copyFrom_23 ?_
      exact (ih _ _ hs)
    · refine mv_aload_n dX7_copyFrom_26 rfl ?_
      refine mv_aload_n dX7_copyFrom_27 rfl ?_
      refine mv_geti dX7_copyFrom_28 kf_X7_19 gf_2_2 ?_
      refine mv_puti dX7_copyFrom_31 kf_X7_19 (fun q => by cases q) gf_24_2 ?_
      refine mv_nameH hs (fun h1116 hs => ?_)
      exact mv_vret dX7_copyFrom_34 rfl ⟨_, rfl, rfl, rfl, mv_sat_some hs⟩
noncomputable def fX7_copyFrom_24_2 (h : mv_H) : Option (mv_H) := fX7_copyFrom_24_2_b2 mv_F 0 h
set_option maxRecDepth 100000 in
set_option maxHeartbeats 4000000 in
theorem TX7_copyFrom_24_2 (G : mv_G) (d : Nat) (P : mv_H → Prop) (h : mv_H) (hs : mv_sat (fX7_copyFrom_24_2 h) P) : mv_met G (d + 0) mX7_copyFrom [.ref 24, .ref 2] mv_SH h (mv_qv mv_SH P) := by
  unfold fX7_copyFrom_24_2 at hs
  obtain ⟨D, hDe⟩ : ∃ D, D = d + 0 := ⟨_, rfl⟩
  rw [← hDe]
  have hD : d + 0 ≤ D := by omega
  refine mv_enter (lv := [.ref 24, .ref 2, .float 0]) 1 (by decide) (by decide +kernel) rfl (Nat.le_of_ble_eq_true rfl) ?_
  refine mv_iconst 0 dX7_copyFrom_0 (by decide) ?_
  refine mv_istore_n (lv' := [.ref 24, .ref 2, .int 0]) dX7_copyFrom_1 (Nat.le_of_ble_eq_true rfl) rfl rfl ?_
  exact (BX7_copyFrom_24_2_b2 G d D (by omega) P _ _ _ hs)
noncomputable def fX7_copyFrom_26_4_b2 : Nat → Int32 → mv_H → Option (mv_H)
  | 0, _, _ => none
  | n + 1, v2, h => if v2 < 18 then (if mv_in v2 18 then (if mv_in v2 18 then mv_let (mv_u h 27 v2.toNatClampNeg (h 5 v2.toNatClampNeg)) fun h1118 : mv_H => ((fX7_copyFrom_26_4_b2 n) (v2 + 1) h1118) else none) else none) else mv_let (mv_u h 26 2 (h 4 2)) fun h1119 : mv_H => some h1119
set_option maxRecDepth 100000 in
set_option maxHeartbeats 4000000 in
theorem BX7_copyFrom_26_4_b2 (G : mv_G) (d D : Nat) (hD : d + 0 ≤ D) (P : mv_H → Prop) : ∀ (n : Nat) (v2 : Int32) (h : mv_H), mv_sat (fX7_copyFrom_26_4_b2 n v2 h) P → mv_MW G mX7_copyFrom (mv_rm D mX7_copyFrom) (mv_Zf G mX7_copyFrom (mv_qv mv_SH P)) 0 0 2 [.ref 26, .ref 4, .int v2] [] mv_SH h := by
  intro n
  induction n with
  | zero =>
    intro v2 h hs
    unfold fX7_copyFrom_26_4_b2 at hs
    exact (mv_sat_none hs).elim
  | succ n ih =>
    intro v2 h hs
    unfold fX7_copyFrom_26_4_b2 at hs
    refine mv_iload_n dX7_copyFrom_2 rfl ?_
    refine mv_bipush 18 dX7_copyFrom_3 (by decide) ?_
    refine mv_icmp_ge dX7_copyFrom_5 hs (fun _ hs => ?_) (fun _ hs => ?_)
    · refine mv_aload_n dX7_copyFrom_8 rfl ?_
      refine mv_getr dX7_copyFrom_9 kf_X7_9 gf_26_1 ?_
      refine mv_iload_n dX7_copyFrom_12 rfl ?_
      refine mv_aload_n dX7_copyFrom_13 rfl ?_
      refine mv_getr dX7_copyFrom_14 kf_X7_9 gf_4_1 ?_
      refine mv_iload_n dX7_copyFrom_17 rfl ?_
      refine mv_iaload dX7_copyFrom_18 so_5 hs (fun hs => ?_)
      refine mv_iastore dX7_copyFrom_19 so_27 hs (fun hs => ?_)
      refine mv_nameH hs (fun h1118 hs => ?_)
      refine mv_iinc (lv' := [.ref 26, .ref 4, .int (v2 + 1)]) 1 dX7_copyFrom_20 rfl (by decide) (Nat.le_of_ble_eq_true rfl) rfl rfl ?_
      refine mv_goto dX7_copyFrom_23 ?_
      exact (ih _ _ hs)
    · refine mv_aload_n dX7_copyFrom_26 rfl ?_
      refine mv_aload_n dX7_copyFrom_27 rfl ?_
      refine mv_geti dX7_copyFrom_28 kf_X7_19 gf_4_2 ?_
      refine mv_puti dX7_copyFrom_31 kf_X7_19 (fun q => by cases q) gf_26_2 ?_
      refine mv_nameH hs (fun h1119 hs => ?_)
      exact mv_vret dX7_copyFrom_34 rfl ⟨_, rfl, rfl, rfl, mv_sat_some hs⟩
noncomputable def fX7_copyFrom_26_4 (h : mv_H) : Option (mv_H) := fX7_copyFrom_26_4_b2 mv_F 0 h
set_option maxRecDepth 100000 in
set_option maxHeartbeats 4000000 in
theorem TX7_copyFrom_26_4 (G : mv_G) (d : Nat) (P : mv_H → Prop) (h : mv_H) (hs : mv_sat (fX7_copyFrom_26_4 h) P) : mv_met G (d + 0) mX7_copyFrom [.ref 26, .ref 4] mv_SH h (mv_qv mv_SH P) := by
  unfold fX7_copyFrom_26_4 at hs
  obtain ⟨D, hDe⟩ : ∃ D, D = d + 0 := ⟨_, rfl⟩
  rw [← hDe]
  have hD : d + 0 ≤ D := by omega
  refine mv_enter (lv := [.ref 26, .ref 4, .float 0]) 1 (by decide) (by decide +kernel) rfl (Nat.le_of_ble_eq_true rfl) ?_
  refine mv_iconst 0 dX7_copyFrom_0 (by decide) ?_
  refine mv_istore_n (lv' := [.ref 26, .ref 4, .int 0]) dX7_copyFrom_1 (Nat.le_of_ble_eq_true rfl) rfl rfl ?_
  exact (BX7_copyFrom_26_4_b2 G d D (by omega) P _ _ _ hs)
noncomputable def fX7_copyFrom_28_6_b2 : Nat → Int32 → mv_H → Option (mv_H)
  | 0, _, _ => none
  | n + 1, v2, h => if v2 < 18 then (if mv_in v2 18 then (if mv_in v2 18 then mv_let (mv_u h 29 v2.toNatClampNeg (h 7 v2.toNatClampNeg)) fun h1121 : mv_H => ((fX7_copyFrom_28_6_b2 n) (v2 + 1) h1121) else none) else none) else mv_let (mv_u h 28 2 (h 6 2)) fun h1122 : mv_H => some h1122
set_option maxRecDepth 100000 in
set_option maxHeartbeats 4000000 in
theorem BX7_copyFrom_28_6_b2 (G : mv_G) (d D : Nat) (hD : d + 0 ≤ D) (P : mv_H → Prop) : ∀ (n : Nat) (v2 : Int32) (h : mv_H), mv_sat (fX7_copyFrom_28_6_b2 n v2 h) P → mv_MW G mX7_copyFrom (mv_rm D mX7_copyFrom) (mv_Zf G mX7_copyFrom (mv_qv mv_SH P)) 0 0 2 [.ref 28, .ref 6, .int v2] [] mv_SH h := by
  intro n
  induction n with
  | zero =>
    intro v2 h hs
    unfold fX7_copyFrom_28_6_b2 at hs
    exact (mv_sat_none hs).elim
  | succ n ih =>
    intro v2 h hs
    unfold fX7_copyFrom_28_6_b2 at hs
    refine mv_iload_n dX7_copyFrom_2 rfl ?_
    refine mv_bipush 18 dX7_copyFrom_3 (by decide) ?_
    refine mv_icmp_ge dX7_copyFrom_5 hs (fun _ hs => ?_) (fun _ hs => ?_)
    · refine mv_aload_n dX7_copyFrom_8 rfl ?_
      refine mv_getr dX7_copyFrom_9 kf_X7_9 gf_28_1 ?_
      refine mv_iload_n dX7_copyFrom_12 rfl ?_
      refine mv_aload_n dX7_copyFrom_13 rfl ?_
      refine mv_getr dX7_copyFrom_14 kf_X7_9 gf_6_1 ?_
      refine mv_iload_n dX7_copyFrom_17 rfl ?_
      refine mv_iaload dX7_copyFrom_18 so_7 hs (fun hs => ?_)
      refine mv_iastore dX7_copyFrom_19 so_29 hs (fun hs => ?_)
      refine mv_nameH hs (fun h1121 hs => ?_)
      refine mv_iinc (lv' := [.ref 28, .ref 6, .int (v2 + 1)]) 1 dX7_copyFrom_20 rfl (by decide) (Nat.le_of_ble_eq_true rfl) rfl rfl ?_
      refine mv_goto dX7_copyFrom_23 ?_
      exact (ih _ _ hs)
    · refine mv_aload_n dX7_copyFrom_26 rfl ?_
      refine mv_aload_n dX7_copyFrom_27 rfl ?_
      refine mv_geti dX7_copyFrom_28 kf_X7_19 gf_6_2 ?_
      refine mv_puti dX7_copyFrom_31 kf_X7_19 (fun q => by cases q) gf_28_2 ?_
      refine mv_nameH hs (fun h1122 hs => ?_)
      exact mv_vret dX7_copyFrom_34 rfl ⟨_, rfl, rfl, rfl, mv_sat_some hs⟩
noncomputable def fX7_copyFrom_28_6 (h : mv_H) : Option (mv_H) := fX7_copyFrom_28_6_b2 mv_F 0 h
set_option maxRecDepth 100000 in
set_option maxHeartbeats 4000000 in
theorem TX7_copyFrom_28_6 (G : mv_G) (d : Nat) (P : mv_H → Prop) (h : mv_H) (hs : mv_sat (fX7_copyFrom_28_6 h) P) : mv_met G (d + 0) mX7_copyFrom [.ref 28, .ref 6] mv_SH h (mv_qv mv_SH P) := by
  unfold fX7_copyFrom_28_6 at hs
  obtain ⟨D, hDe⟩ : ∃ D, D = d + 0 := ⟨_, rfl⟩
  rw [← hDe]
  have hD : d + 0 ≤ D := by omega
  refine mv_enter (lv := [.ref 28, .ref 6, .float 0]) 1 (by decide) (by decide +kernel) rfl (Nat.le_of_ble_eq_true rfl) ?_
  refine mv_iconst 0 dX7_copyFrom_0 (by decide) ?_
  refine mv_istore_n (lv' := [.ref 28, .ref 6, .int 0]) dX7_copyFrom_1 (Nat.le_of_ble_eq_true rfl) rfl rfl ?_
  exact (BX7_copyFrom_28_6_b2 G d D (by omega) P _ _ _ hs)
noncomputable def fX2_copyFrom_30_8_b2 : Nat → Int32 → mv_H → Option (mv_H)
  | 0, _, _ => none
  | n + 1, v2, h => if v2 < 6 then (if mv_in v2 6 then (if mv_in v2 6 then mv_let (mv_u h 31 v2.toNatClampNeg (h 9 v2.toNatClampNeg)) fun h1124 : mv_H => ((fX2_copyFrom_30_8_b2 n) (v2 + 1) h1124) else none) else none) else mv_let (mv_u h 30 2 (h 8 2)) fun h1125 : mv_H => some h1125
set_option maxRecDepth 100000 in
set_option maxHeartbeats 4000000 in
theorem BX2_copyFrom_30_8_b2 (G : mv_G) (d D : Nat) (hD : d + 0 ≤ D) (P : mv_H → Prop) : ∀ (n : Nat) (v2 : Int32) (h : mv_H), mv_sat (fX2_copyFrom_30_8_b2 n v2 h) P → mv_MW G mX2_copyFrom (mv_rm D mX2_copyFrom) (mv_Zf G mX2_copyFrom (mv_qv mv_SH P)) 0 0 2 [.ref 30, .ref 8, .int v2] [] mv_SH h := by
  intro n
  induction n with
  | zero =>
    intro v2 h hs
    unfold fX2_copyFrom_30_8_b2 at hs
    exact (mv_sat_none hs).elim
  | succ n ih =>
    intro v2 h hs
    unfold fX2_copyFrom_30_8_b2 at hs
    refine mv_iload_n dX2_copyFrom_2 rfl ?_
    refine mv_bipush 6 dX2_copyFrom_3 (by decide) ?_
    refine mv_icmp_ge dX2_copyFrom_5 hs (fun _ hs => ?_) (fun _ hs => ?_)
    · refine mv_aload_n dX2_copyFrom_8 rfl ?_
      refine mv_getr dX2_copyFrom_9 kf_X2_9 gf_30_1 ?_
      refine mv_iload_n dX2_copyFrom_12 rfl ?_
      refine mv_aload_n dX2_copyFrom_13 rfl ?_
      refine mv_getr dX2_copyFrom_14 kf_X2_9 gf_8_1 ?_
      refine mv_iload_n dX2_copyFrom_17 rfl ?_
      refine mv_iaload dX2_copyFrom_18 so_9 hs (fun hs => ?_)
      refine mv_iastore dX2_copyFrom_19 so_31 hs (fun hs => ?_)
      refine mv_nameH hs (fun h1124 hs => ?_)
      refine mv_iinc (lv' := [.ref 30, .ref 8, .int (v2 + 1)]) 1 dX2_copyFrom_20 rfl (by decide) (Nat.le_of_ble_eq_true rfl) rfl rfl ?_
      refine mv_goto dX2_copyFrom_23 ?_
      exact (ih _ _ hs)
    · refine mv_aload_n dX2_copyFrom_26 rfl ?_
      refine mv_aload_n dX2_copyFrom_27 rfl ?_
      refine mv_geti dX2_copyFrom_28 kf_X2_17 gf_8_2 ?_
      refine mv_puti dX2_copyFrom_31 kf_X2_17 (fun q => by cases q) gf_30_2 ?_
      refine mv_nameH hs (fun h1125 hs => ?_)
      exact mv_vret dX2_copyFrom_34 rfl ⟨_, rfl, rfl, rfl, mv_sat_some hs⟩
noncomputable def fX2_copyFrom_30_8 (h : mv_H) : Option (mv_H) := fX2_copyFrom_30_8_b2 mv_F 0 h
set_option maxRecDepth 100000 in
set_option maxHeartbeats 4000000 in
theorem TX2_copyFrom_30_8 (G : mv_G) (d : Nat) (P : mv_H → Prop) (h : mv_H) (hs : mv_sat (fX2_copyFrom_30_8 h) P) : mv_met G (d + 0) mX2_copyFrom [.ref 30, .ref 8] mv_SH h (mv_qv mv_SH P) := by
  unfold fX2_copyFrom_30_8 at hs
  obtain ⟨D, hDe⟩ : ∃ D, D = d + 0 := ⟨_, rfl⟩
  rw [← hDe]
  have hD : d + 0 ≤ D := by omega
  refine mv_enter (lv := [.ref 30, .ref 8, .float 0]) 1 (by decide) (by decide +kernel) rfl (Nat.le_of_ble_eq_true rfl) ?_
  refine mv_iconst 0 dX2_copyFrom_0 (by decide) ?_
  refine mv_istore_n (lv' := [.ref 30, .ref 8, .int 0]) dX2_copyFrom_1 (Nat.le_of_ble_eq_true rfl) rfl rfl ?_
  exact (BX2_copyFrom_30_8_b2 G d D (by omega) P _ _ _ hs)
noncomputable def fX2_copyFrom_32_10_b2 : Nat → Int32 → mv_H → Option (mv_H)
  | 0, _, _ => none
  | n + 1, v2, h => if v2 < 6 then (if mv_in v2 6 then (if mv_in v2 6 then mv_let (mv_u h 33 v2.toNatClampNeg (h 11 v2.toNatClampNeg)) fun h1127 : mv_H => ((fX2_copyFrom_32_10_b2 n) (v2 + 1) h1127) else none) else none) else mv_let (mv_u h 32 2 (h 10 2)) fun h1128 : mv_H => some h1128
set_option maxRecDepth 100000 in
set_option maxHeartbeats 4000000 in
theorem BX2_copyFrom_32_10_b2 (G : mv_G) (d D : Nat) (hD : d + 0 ≤ D) (P : mv_H → Prop) : ∀ (n : Nat) (v2 : Int32) (h : mv_H), mv_sat (fX2_copyFrom_32_10_b2 n v2 h) P → mv_MW G mX2_copyFrom (mv_rm D mX2_copyFrom) (mv_Zf G mX2_copyFrom (mv_qv mv_SH P)) 0 0 2 [.ref 32, .ref 10, .int v2] [] mv_SH h := by
  intro n
  induction n with
  | zero =>
    intro v2 h hs
    unfold fX2_copyFrom_32_10_b2 at hs
    exact (mv_sat_none hs).elim
  | succ n ih =>
    intro v2 h hs
    unfold fX2_copyFrom_32_10_b2 at hs
    refine mv_iload_n dX2_copyFrom_2 rfl ?_
    refine mv_bipush 6 dX2_copyFrom_3 (by decide) ?_
    refine mv_icmp_ge dX2_copyFrom_5 hs (fun _ hs => ?_) (fun _ hs => ?_)
    · refine mv_aload_n dX2_copyFrom_8 rfl ?_
      refine mv_getr dX2_copyFrom_9 kf_X2_9 gf_32_1 ?_
      refine mv_iload_n dX2_copyFrom_12 rfl ?_
      refine mv_aload_n dX2_copyFrom_13 rfl ?_
      refine mv_getr dX2_copyFrom_14 kf_X2_9 gf_10_1 ?_
      refine mv_iload_n dX2_copyFrom_17 rfl ?_
      refine mv_iaload dX2_copyFrom_18 so_11 hs (fun hs => ?_)
      refine mv_iastore dX2_copyFrom_19 so_33 hs (fun hs => ?_)
      refine mv_nameH hs (fun h1127 hs => ?_)
      refine mv_iinc (lv' := [.ref 32, .ref 10, .int (v2 + 1)]) 1 dX2_copyFrom_20 rfl (by decide) (Nat.le_of_ble_eq_true rfl) rfl rfl ?_
      refine mv_goto dX2_copyFrom_23 ?_
      exact (ih _ _ hs)
    · refine mv_aload_n dX2_copyFrom_26 rfl ?_
      refine mv_aload_n dX2_copyFrom_27 rfl ?_
      refine mv_geti dX2_copyFrom_28 kf_X2_17 gf_10_2 ?_
      refine mv_puti dX2_copyFrom_31 kf_X2_17 (fun q => by cases q) gf_32_2 ?_
      refine mv_nameH hs (fun h1128 hs => ?_)
      exact mv_vret dX2_copyFrom_34 rfl ⟨_, rfl, rfl, rfl, mv_sat_some hs⟩
noncomputable def fX2_copyFrom_32_10 (h : mv_H) : Option (mv_H) := fX2_copyFrom_32_10_b2 mv_F 0 h
set_option maxRecDepth 100000 in
set_option maxHeartbeats 4000000 in
theorem TX2_copyFrom_32_10 (G : mv_G) (d : Nat) (P : mv_H → Prop) (h : mv_H) (hs : mv_sat (fX2_copyFrom_32_10 h) P) : mv_met G (d + 0) mX2_copyFrom [.ref 32, .ref 10] mv_SH h (mv_qv mv_SH P) := by
  unfold fX2_copyFrom_32_10 at hs
  obtain ⟨D, hDe⟩ : ∃ D, D = d + 0 := ⟨_, rfl⟩
  rw [← hDe]
  have hD : d + 0 ≤ D := by omega
  refine mv_enter (lv := [.ref 32, .ref 10, .float 0]) 1 (by decide) (by decide +kernel) rfl (Nat.le_of_ble_eq_true rfl) ?_
  refine mv_iconst 0 dX2_copyFrom_0 (by decide) ?_
  refine mv_istore_n (lv' := [.ref 32, .ref 10, .int 0]) dX2_copyFrom_1 (Nat.le_of_ble_eq_true rfl) rfl rfl ?_
  exact (BX2_copyFrom_32_10_b2 G d D (by omega) P _ _ _ hs)
noncomputable def fX1_copyFrom_23_1 (h : mv_H) : Option (mv_H) := (fX7_copyFrom_24_2 h).bind fun r1117 => (fX7_copyFrom_26_4 r1117).bind fun r1120 => (fX7_copyFrom_28_6 r1120).bind fun r1123 => (fX2_copyFrom_30_8 r1123).bind fun r1126 => (fX2_copyFrom_32_10 r1126).bind fun r1129 => mv_let (mv_u r1129 23 5 (r1129 1 5)) fun h1130 : mv_H => mv_let (mv_u h1130 23 6 (h1130 1 6)) fun h1131 : mv_H => mv_let (mv_u h1131 23 7 (h1131 1 7)) fun h1132 : mv_H => mv_let (mv_u h1132 23 8 (h1132 1 8)) fun h1133 : mv_H => some h1133
set_option maxRecDepth 100000 in
set_option maxHeartbeats 4000000 in
theorem TX1_copyFrom_23_1 (G : mv_G) (d : Nat) (P : mv_H → Prop) (h : mv_H) (hs : mv_sat (fX1_copyFrom_23_1 h) P) : mv_met G (d + 1) mX1_copyFrom [.ref 23, .ref 1] mv_SH h (mv_qv mv_SH P) := by
  unfold fX1_copyFrom_23_1 at hs
  obtain ⟨D, hDe⟩ : ∃ D, D = d + 1 := ⟨_, rfl⟩
  rw [← hDe]
  have hD : d + 1 ≤ D := by omega
  refine mv_enter (lv := [.ref 23, .ref 1]) 0 (by decide) (by decide +kernel) rfl (Nat.le_of_ble_eq_true rfl) ?_
  refine mv_aload_n dX1_copyFrom_0 rfl ?_
  refine mv_getr dX1_copyFrom_1 kf_X1_14 gf_23_0 ?_
  refine mv_aload_n dX1_copyFrom_4 rfl ?_
  refine mv_getr dX1_copyFrom_5 kf_X1_14 gf_1_0 ?_
  refine mv_cV (st := []) dX1_copyFrom_8 kk_X1_49 (TX7_copyFrom_24_2 G d _ _ (mv_sat_bind hs)) so_24 vc_7 rfl rfl (Nat.le_of_ble_eq_true rfl) (by omega) rfl ⟨Nat.zero_le _, Nat.zero_le _⟩ (mv_kv fun r1117 hs => ?_)
  refine mv_aload_n dX1_copyFrom_11 rfl ?_
  refine mv_getr dX1_copyFrom_12 kf_X1_20 gf_23_1 ?_
  refine mv_aload_n dX1_copyFrom_15 rfl ?_
  refine mv_getr dX1_copyFrom_16 kf_X1_20 gf_1_1 ?_
  refine mv_cV (st := []) dX1_copyFrom_19 kk_X1_49 (TX7_copyFrom_26_4 G d _ _ (mv_sat_bind hs)) so_26 vc_7 rfl rfl (Nat.le_of_ble_eq_true rfl) (by omega) rfl ⟨Nat.zero_le _, Nat.zero_le _⟩ (mv_kv fun r1120 hs => ?_)
  refine mv_aload_n dX1_copyFrom_22 rfl ?_
  refine mv_getr dX1_copyFrom_23 kf_X1_23 gf_23_2 ?_
  refine mv_aload_n dX1_copyFrom_26 rfl ?_
  refine mv_getr dX1_copyFrom_27 kf_X1_23 gf_1_2 ?_
  refine mv_cV (st := []) dX1_copyFrom_30 kk_X1_49 (TX7_copyFrom_28_6 G d _ _ (mv_sat_bind hs)) so_28 vc_7 rfl rfl (Nat.le_of_ble_eq_true rfl) (by omega) rfl ⟨Nat.zero_le _, Nat.zero_le _⟩ (mv_kv fun r1123 hs => ?_)
  refine mv_aload_n dX1_copyFrom_33 rfl ?_
  refine mv_getr dX1_copyFrom_34 kf_X1_29 gf_23_3 ?_
  refine mv_aload_n dX1_copyFrom_37 rfl ?_
  refine mv_getr dX1_copyFrom_38 kf_X1_29 gf_1_3 ?_
  refine mv_cV (st := []) dX1_copyFrom_41 kk_X1_53 (TX2_copyFrom_30_8 G d _ _ (mv_sat_bind hs)) so_30 vc_2 rfl rfl (Nat.le_of_ble_eq_true rfl) (by omega) rfl ⟨Nat.zero_le _, Nat.zero_le _⟩ (mv_kv fun r1126 hs => ?_)
  refine mv_aload_n dX1_copyFrom_44 rfl ?_
  refine mv_getr dX1_copyFrom_45 kf_X1_33 gf_23_4 ?_
  refine mv_aload_n dX1_copyFrom_48 rfl ?_
  refine mv_getr dX1_copyFrom_49 kf_X1_33 gf_1_4 ?_
  refine mv_cV (st := []) dX1_copyFrom_52 kk_X1_53 (TX2_copyFrom_32_10 G d _ _ (mv_sat_bind hs)) so_32 vc_2 rfl rfl (Nat.le_of_ble_eq_true rfl) (by omega) rfl ⟨Nat.zero_le _, Nat.zero_le _⟩ (mv_kv fun r1129 hs => ?_)
  refine mv_aload_n dX1_copyFrom_55 rfl ?_
  refine mv_aload_n dX1_copyFrom_56 rfl ?_
  refine mv_geti dX1_copyFrom_57 kf_X1_36 gf_1_5 ?_
  refine mv_puti dX1_copyFrom_60 kf_X1_36 (fun q => by cases q) gf_23_5 ?_
  refine mv_nameH hs (fun h1130 hs => ?_)
  refine mv_aload_n dX1_copyFrom_63 rfl ?_
  refine mv_aload_n dX1_copyFrom_64 rfl ?_
  refine mv_geti dX1_copyFrom_65 kf_X1_40 gf_1_6 ?_
  refine mv_puti dX1_copyFrom_68 kf_X1_40 (fun q => by cases q) gf_23_6 ?_
  refine mv_nameH hs (fun h1131 hs => ?_)
  refine mv_aload_n dX1_copyFrom_71 rfl ?_
  refine mv_aload_n dX1_copyFrom_72 rfl ?_
  refine mv_geti dX1_copyFrom_73 kf_X1_43 gf_1_7 ?_
  refine mv_puti dX1_copyFrom_76 kf_X1_43 (fun q => by cases q) gf_23_7 ?_
  refine mv_nameH hs (fun h1132 hs => ?_)
  refine mv_aload_n dX1_copyFrom_79 rfl ?_
  refine mv_aload_n dX1_copyFrom_80 rfl ?_
  refine mv_geti dX1_copyFrom_81 kf_X1_46 gf_1_8 ?_
  refine mv_puti dX1_copyFrom_84 kf_X1_46 (fun q => by cases q) gf_23_8 ?_
  refine mv_nameH hs (fun h1133 hs => ?_)
  exact mv_vret dX1_copyFrom_87 rfl ⟨_, rfl, rfl, rfl, mv_sat_some hs⟩
noncomputable def fX9_image_0 (p0 : Int32) (h : mv_H) : Option (Int32 × mv_H) := (fX9_isWithin p0 (0 : Int32) (1 : Int32)).bind fun r1092 => if r1092 = 0 then some ((-2), h) else (fX9_imageOf_0 p0 h).bind fun r1093 => if r1093 = 12 then ((fX1_copyFrom_12_1 h).bind fun r1113 => mv_let (mv_u r1113 0 3 ((r1113 0 3) ||| (1 <<< (p0 &&& 31)))) fun h1114 : mv_H => some (1, h1114)) else if r1093 = 23 then ((fX1_copyFrom_23_1 h).bind fun r1134 => mv_let (mv_u r1134 0 3 ((r1134 0 3) ||| (1 <<< (p0 &&& 31)))) fun h1135 : mv_H => some (1, h1135)) else none
set_option maxRecDepth 100000 in
set_option maxHeartbeats 4000000 in
theorem TX9_image_0 (G : mv_G) (d : Nat) (P : Int32 × mv_H → Prop) (p0 : Int32) (h : mv_H) (hs : mv_sat (fX9_image_0 p0 h) P) : mv_met G (d + 2) mX9_image [.ref 0, .int p0] mv_SH h (mv_qI mv_SH P) := by
  unfold fX9_image_0 at hs
  obtain ⟨D, hDe⟩ : ∃ D, D = d + 2 := ⟨_, rfl⟩
  rw [← hDe]
  have hD : d + 2 ≤ D := by omega
  refine mv_enter (lv := [.ref 0, .int p0]) 0 (by decide) (by decide +kernel) rfl (Nat.le_of_ble_eq_true rfl) ?_
  refine mv_iload_n dX9_image_0 rfl ?_
  refine mv_iconst 0 dX9_image_1 (by decide) ?_
  refine mv_iconst 1 dX9_image_2 (by decide) ?_
  refine mv_cS (st := []) dX9_image_3 kk_X9_79 (TX9_isWithin G d _ _ _ _ _ (mv_sat_bind hs)) rfl rfl (Nat.le_of_ble_eq_true rfl) (by omega) rfl ⟨Nat.zero_le _, Nat.zero_le _⟩ (mv_ki fun r1092 hs => ?_)
  refine mv_if_ne dX9_image_6 hs (fun _ hs => ?_) (fun _ hs => ?_)
  · refine mv_bipush (-2) dX9_image_9 (by decide) ?_
    exact mv_iret dX9_image_11 rfl ⟨((-2), h), rfl, rfl, rfl, mv_sat_some hs⟩
  · refine mv_aload_n dX9_image_12 rfl ?_
    refine mv_iload_n dX9_image_13 rfl ?_
    refine mv_cV (st := []) dX9_image_14 kk_X9_333 (TX9_imageOf_0 G d _ _ _ (mv_sat_bind hs)) so_0 vc_9 rfl rfl (Nat.le_of_ble_eq_true rfl) (by omega) rfl ⟨Nat.zero_le _, Nat.zero_le _⟩ (mv_kr fun r1093 hs => ?_)
    refine mv_case hs (fun e hsn => ?_) (fun _ hs => ?_)
    · subst e
      have hs := hsn
      refine mv_aload_n dX9_image_17 rfl ?_
      refine mv_getr dX9_image_18 kf_X9_10 gf_0_0 ?_
      refine mv_cV (st := []) dX9_image_21 kk_X9_337 (TX1_copyFrom_12_1 G d _ _ (mv_sat_bind hs)) so_12 vc_1 rfl rfl (Nat.le_of_ble_eq_true rfl) (by omega) rfl ⟨Nat.zero_le _, Nat.zero_le _⟩ (mv_kv fun r1113 hs => ?_)
      refine mv_aload_n dX9_image_24 rfl ?_
      refine mv_dup dX9_image_25 rfl ?_
      refine mv_geti dX9_image_26 kf_X9_341 gf_0_3 ?_
      refine mv_iconst 1 dX9_image_29 (by decide) ?_
      refine mv_iload_n dX9_image_30 rfl ?_
      refine mv_ishl dX9_image_31 ?_
      refine mv_ior dX9_image_32 ?_
      refine mv_puti dX9_image_33 kf_X9_341 (fun q => by cases q) gf_0_3 ?_
      refine mv_nameH hs (fun h1114 hs => ?_)
      refine mv_iconst 1 dX9_image_36 (by decide) ?_
      exact mv_iret dX9_image_37 rfl ⟨(1, h1114), rfl, rfl, rfl, mv_sat_some hs⟩
    refine mv_case hs (fun e hsn => ?_) (fun _ hs => ?_)
    · subst e
      have hs := hsn
      refine mv_aload_n dX9_image_17 rfl ?_
      refine mv_getr dX9_image_18 kf_X9_10 gf_0_0 ?_
      refine mv_cV (st := []) dX9_image_21 kk_X9_337 (TX1_copyFrom_23_1 G d _ _ (mv_sat_bind hs)) so_23 vc_1 rfl rfl (Nat.le_of_ble_eq_true rfl) (by omega) rfl ⟨Nat.zero_le _, Nat.zero_le _⟩ (mv_kv fun r1134 hs => ?_)
      refine mv_aload_n dX9_image_24 rfl ?_
      refine mv_dup dX9_image_25 rfl ?_
      refine mv_geti dX9_image_26 kf_X9_341 gf_0_3 ?_
      refine mv_iconst 1 dX9_image_29 (by decide) ?_
      refine mv_iload_n dX9_image_30 rfl ?_
      refine mv_ishl dX9_image_31 ?_
      refine mv_ior dX9_image_32 ?_
      refine mv_puti dX9_image_33 kf_X9_341 (fun q => by cases q) gf_0_3 ?_
      refine mv_nameH hs (fun h1135 hs => ?_)
      refine mv_iconst 1 dX9_image_36 (by decide) ?_
      exact mv_iret dX9_image_37 rfl ⟨(1, h1135), rfl, rfl, rfl, mv_sat_some hs⟩
    exact (mv_sat_none hs).elim
noncomputable def fX10_pass_55_b20 (s0 : Int32) (h : mv_H) : Option (Int32 × mv_H) := if mv_in (h 55 44) 200 then mv_let (mv_u h 81 (h 55 44).toNatClampNeg s0) fun h1140 : mv_H => (mv_let (mv_u h1140 55 44 ((h1140 55 44) + 1)) fun h1141 : mv_H => some (s0, h1141)) else none
set_option maxRecDepth 100000 in
set_option maxHeartbeats 4000000 in
theorem BX10_pass_55_b20 (G : mv_G) (d D : Nat) (hD : d + 0 ≤ D) (P : Int32 × mv_H → Prop) (s0 : Int32) (h : mv_H) (hs : mv_sat (fX10_pass_55_b20 s0 h) P) : mv_MW G mX10_pass (mv_rm D mX10_pass) (mv_Zf G mX10_pass (mv_qI mv_SH P)) 0 0 20 [.ref 55, .float 0, .float 0] [.int s0] mv_SH h := by
  unfold fX10_pass_55_b20 at hs
  refine mv_istore_n (lv' := [.ref 55, .float 0, .int s0]) dX10_pass_20 (Nat.le_of_ble_eq_true rfl) rfl rfl ?_
  refine mv_aload_n dX10_pass_21 rfl ?_
  refine mv_getr dX10_pass_22 kf_X10_85 gf_55_42 ?_
  refine mv_aload_n dX10_pass_25 rfl ?_
  refine mv_geti dX10_pass_26 kf_X10_352 gf_55_44 ?_
  refine mv_iload_n dX10_pass_29 rfl ?_
  refine mv_iastore dX10_pass_30 so_81 hs (fun hs => ?_)
  refine mv_nameH hs (fun h1140 hs => ?_)
  refine mv_aload_n dX10_pass_31 rfl ?_
  refine mv_dup dX10_pass_32 rfl ?_
  refine mv_geti dX10_pass_33 kf_X10_352 gf_55_44 ?_
  refine mv_iconst 1 dX10_pass_36 (by decide) ?_
  refine mv_iadd dX10_pass_37 ?_
  refine mv_puti dX10_pass_38 kf_X10_352 (fun q => by cases q) gf_55_44 ?_
  refine mv_nameH hs (fun h1141 hs => ?_)
  refine mv_iload_n dX10_pass_41 rfl ?_
  exact mv_iret dX10_pass_42 rfl ⟨(s0, h1141), rfl, rfl, rfl, mv_sat_some hs⟩
noncomputable def fX10_pass_55 (p0 : Int32) (h : mv_H) : Option (Int32 × mv_H) := if (h 55 45) = 0 then (if mv_in (h 55 44) 200 then (fX10_pass_55_b20 (h 81 (h 55 44).toNatClampNeg) h) else none) else fX10_pass_55_b20 p0 h
set_option maxRecDepth 100000 in
set_option maxHeartbeats 4000000 in
theorem TX10_pass_55 (G : mv_G) (d : Nat) (P : Int32 × mv_H → Prop) (p0 : Int32) (h : mv_H) (hs : mv_sat (fX10_pass_55 p0 h) P) : mv_met G (d + 0) mX10_pass [.ref 55, .int p0] mv_SH h (mv_qI mv_SH P) := by
  unfold fX10_pass_55 at hs
  obtain ⟨D, hDe⟩ : ∃ D, D = d + 0 := ⟨_, rfl⟩
  rw [← hDe]
  have hD : d + 0 ≤ D := by omega
  refine mv_enter (lv := [.ref 55, .int p0, .float 0]) 1 (by decide) (by decide +kernel) rfl (Nat.le_of_ble_eq_true rfl) ?_
  refine mv_aload_n dX10_pass_0 rfl ?_
  refine mv_geti dX10_pass_1 kf_X10_349 gf_55_45 ?_
  refine mv_if_eq dX10_pass_4 hs (fun _ hs => ?_) (fun _ hs => ?_)
  · refine mv_aload_n dX10_pass_11 rfl ?_
    refine mv_getr dX10_pass_12 kf_X10_85 gf_55_42 ?_
    refine mv_aload_n dX10_pass_15 rfl ?_
    refine mv_geti dX10_pass_16 kf_X10_352 gf_55_44 ?_
    refine mv_iaload dX10_pass_19 so_81 hs (fun hs => ?_)
    exact mv_weak (lv' := [.ref 55, .float 0, .float 0]) (mv_s (mv_k (mv_s mv_n))) (BX10_pass_55_b20 G d D (by omega) P _ _ hs)
  · refine mv_iload_n dX10_pass_7 rfl ?_
    refine mv_goto dX10_pass_8 ?_
    exact mv_weak (lv' := [.ref 55, .float 0, .float 0]) (mv_s (mv_k (mv_s mv_n))) (BX10_pass_55_b20 G d D (by omega) P _ _ hs)
noncomputable def fX10_passAll_55_b156 : Nat → Int32 → mv_H → Option (mv_H)
  | 0, _, _ => none
  | n + 1, v1, h => if v1 < 6 then (if mv_in v1 6 then ((fX10_pass_55 (h 58 v1.toNatClampNeg) h).bind fun r1164 => if mv_in v1 6 then mv_let (mv_u r1164.2 58 v1.toNatClampNeg r1164.1) fun h1165 : mv_H => (if mv_in v1 6 then ((fX10_pass_55 (h1165 59 v1.toNatClampNeg) h1165).bind fun r1166 => if mv_in v1 6 then mv_let (mv_u r1166.2 59 v1.toNatClampNeg r1166.1) fun h1167 : mv_H => (if mv_in v1 6 then ((fX10_pass_55 (h1167 60 v1.toNatClampNeg) h1167).bind fun r1168 => if mv_in v1 6 then mv_let (mv_u r1168.2 60 v1.toNatClampNeg r1168.1) fun h1169 : mv_H => (if mv_in v1 6 then ((fX10_pass_55 (h1169 61 v1.toNatClampNeg) h1169).bind fun r1170 => if mv_in v1 6 then mv_let (mv_u r1170.2 61 v1.toNatClampNeg r1170.1) fun h1171 : mv_H => ((fX10_passAll_55_b156 n) (v1 + 1) h1171) else none) else none) else none) else none) else none) else none) else none) else none) else some h
set_option maxRecDepth 100000 in
set_option maxHeartbeats 4000000 in
theorem BX10_passAll_55_b156 (G : mv_G) (d D : Nat) (hD : d + 1 ≤ D) (P : mv_H → Prop) : ∀ (n : Nat) (v1 : Int32) (h : mv_H), mv_sat (fX10_passAll_55_b156 n v1 h) P → mv_MW G mX10_passAll (mv_rm D mX10_passAll) (mv_Zf G mX10_passAll (mv_qv mv_SH P)) 0 0 156 [.ref 55, .int v1] [] mv_SH h := by
  intro n
  induction n with
  | zero =>
    intro v1 h hs
    unfold fX10_passAll_55_b156 at hs
    exact (mv_sat_none hs).elim
  | succ n ih =>
    intro v1 h hs
    unfold fX10_passAll_55_b156 at hs
    refine mv_iload_n dX10_passAll_156 rfl ?_
    refine mv_bipush 6 dX10_passAll_157 (by decide) ?_
    refine mv_icmp_ge dX10_passAll_159 hs (fun _ hs => ?_) (fun _ hs => ?_)
    · refine mv_aload_n dX10_passAll_162 rfl ?_
      refine mv_getr dX10_passAll_163 kf_X10_16 gf_55_5 ?_
      refine mv_iload_n dX10_passAll_166 rfl ?_
      refine mv_aload_n dX10_passAll_167 rfl ?_
      refine mv_aload_n dX10_passAll_168 rfl ?_
      refine mv_getr dX10_passAll_169 kf_X10_16 gf_55_5 ?_
      refine mv_iload_n dX10_passAll_172 rfl ?_
      refine mv_iaload dX10_passAll_173 so_58 hs (fun hs => ?_)
      refine mv_cV (st := [.int v1, .ref 58]) dX10_passAll_174 kk_X10_355 (TX10_pass_55 G d _ _ _ (mv_sat_bind hs)) so_55 vc_10 rfl rfl (Nat.le_of_ble_eq_true rfl) (by omega) rfl ⟨Nat.zero_le _, Nat.zero_le _⟩ (mv_kI2 fun r1164 hs => ?_)
      refine mv_iastore dX10_passAll_177 so_58 hs (fun hs => ?_)
      refine mv_nameH hs (fun h1165 hs => ?_)
      refine mv_aload_n dX10_passAll_178 rfl ?_
      refine mv_getr dX10_passAll_179 kf_X10_19 gf_55_6 ?_
      refine mv_iload_n dX10_passAll_182 rfl ?_
      refine mv_aload_n dX10_passAll_183 rfl ?_
      refine mv_aload_n dX10_passAll_184 rfl ?_
      refine mv_getr dX10_passAll_185 kf_X10_19 gf_55_6 ?_
      refine mv_iload_n dX10_passAll_188 rfl ?_
      refine mv_iaload dX10_passAll_189 so_59 hs (fun hs => ?_)
      refine mv_cV (st := [.int v1, .ref 59]) dX10_passAll_190 kk_X10_355 (TX10_pass_55 G d _ _ _ (mv_sat_bind hs)) so_55 vc_10 rfl rfl (Nat.le_of_ble_eq_true rfl) (by omega) rfl ⟨Nat.zero_le _, Nat.zero_le _⟩ (mv_kI2 fun r1166 hs => ?_)
      refine mv_iastore dX10_passAll_193 so_59 hs (fun hs => ?_)
      refine mv_nameH hs (fun h1167 hs => ?_)
      refine mv_aload_n dX10_passAll_194 rfl ?_
      refine mv_getr dX10_passAll_195 kf_X10_22 gf_55_11 ?_
      refine mv_iload_n dX10_passAll_198 rfl ?_
      refine mv_aload_n dX10_passAll_199 rfl ?_
      refine mv_aload_n dX10_passAll_200 rfl ?_
      refine mv_getr dX10_passAll_201 kf_X10_22 gf_55_11 ?_
      refine mv_iload_n dX10_passAll_204 rfl ?_
      refine mv_iaload dX10_passAll_205 so_60 hs (fun hs => ?_)
      refine mv_cV (st := [.int v1, .ref 60]) dX10_passAll_206 kk_X10_355 (TX10_pass_55 G d _ _ _ (mv_sat_bind hs)) so_55 vc_10 rfl rfl (Nat.le_of_ble_eq_true rfl) (by omega) rfl ⟨Nat.zero_le _, Nat.zero_le _⟩ (mv_kI2 fun r1168 hs => ?_)
      refine mv_iastore dX10_passAll_209 so_60 hs (fun hs => ?_)
      refine mv_nameH hs (fun h1169 hs => ?_)
      refine mv_aload_n dX10_passAll_210 rfl ?_
      refine mv_getr dX10_passAll_211 kf_X10_25 gf_55_13 ?_
      refine mv_iload_n dX10_passAll_214 rfl ?_
      refine mv_aload_n dX10_passAll_215 rfl ?_
      refine mv_aload_n dX10_passAll_216 rfl ?_
      refine mv_getr dX10_passAll_217 kf_X10_25 gf_55_13 ?_
      refine mv_iload_n dX10_passAll_220 rfl ?_
      refine mv_iaload dX10_passAll_221 so_61 hs (fun hs => ?_)
      refine mv_cV (st := [.int v1, .ref 61]) dX10_passAll_222 kk_X10_355 (TX10_pass_55 G d _ _ _ (mv_sat_bind hs)) so_55 vc_10 rfl rfl (Nat.le_of_ble_eq_true rfl) (by omega) rfl ⟨Nat.zero_le _, Nat.zero_le _⟩ (mv_kI2 fun r1170 hs => ?_)
      refine mv_iastore dX10_passAll_225 so_61 hs (fun hs => ?_)
      refine mv_nameH hs (fun h1171 hs => ?_)
      refine mv_iinc (lv' := [.ref 55, .int (v1 + 1)]) 1 dX10_passAll_226 rfl (by decide) (Nat.le_of_ble_eq_true rfl) rfl rfl ?_
      refine mv_goto dX10_passAll_229 ?_
      exact (ih _ _ hs)
    · exact mv_vret dX10_passAll_232 rfl ⟨_, rfl, rfl, rfl, mv_sat_some hs⟩
noncomputable def fX10_passAll_55_b110 : Nat → Int32 → mv_H → Option (mv_H)
  | 0, _, _ => none
  | n + 1, v1, h => if v1 < 18 then (if mv_in v1 18 then ((fX10_pass_55 (h 56 v1.toNatClampNeg) h).bind fun r1160 => if mv_in v1 18 then mv_let (mv_u r1160.2 56 v1.toNatClampNeg r1160.1) fun h1161 : mv_H => (if mv_in v1 18 then ((fX10_pass_55 (h1161 57 v1.toNatClampNeg) h1161).bind fun r1162 => if mv_in v1 18 then mv_let (mv_u r1162.2 57 v1.toNatClampNeg r1162.1) fun h1163 : mv_H => ((fX10_passAll_55_b110 n) (v1 + 1) h1163) else none) else none) else none) else none) else fX10_passAll_55_b156 mv_F 0 h
set_option maxRecDepth 100000 in
set_option maxHeartbeats 4000000 in
theorem BX10_passAll_55_b110 (G : mv_G) (d D : Nat) (hD : d + 1 ≤ D) (P : mv_H → Prop) : ∀ (n : Nat) (v1 : Int32) (h : mv_H), mv_sat (fX10_passAll_55_b110 n v1 h) P → mv_MW G mX10_passAll (mv_rm D mX10_passAll) (mv_Zf G mX10_passAll (mv_qv mv_SH P)) 0 0 110 [.ref 55, .int v1] [] mv_SH h := by
  intro n
  induction n with
  | zero =>
    intro v1 h hs
    unfold fX10_passAll_55_b110 at hs
    exact (mv_sat_none hs).elim
  | succ n ih =>
    intro v1 h hs
    unfold fX10_passAll_55_b110 at hs
    refine mv_iload_n dX10_passAll_110 rfl ?_
    refine mv_bipush 18 dX10_passAll_111 (by decide) ?_
    refine mv_icmp_ge dX10_passAll_113 hs (fun _ hs => ?_) (fun _ hs => ?_)
    · refine mv_aload_n dX10_passAll_116 rfl ?_
      refine mv_getr dX10_passAll_117 kf_X10_7 gf_55_3 ?_
      refine mv_iload_n dX10_passAll_120 rfl ?_
      refine mv_aload_n dX10_passAll_121 rfl ?_
      refine mv_aload_n dX10_passAll_122 rfl ?_
      refine mv_getr dX10_passAll_123 kf_X10_7 gf_55_3 ?_
      refine mv_iload_n dX10_passAll_126 rfl ?_
      refine mv_iaload dX10_passAll_127 so_56 hs (fun hs => ?_)
      refine mv_cV (st := [.int v1, .ref 56]) dX10_passAll_128 kk_X10_355 (TX10_pass_55 G d _ _ _ (mv_sat_bind hs)) so_55 vc_10 rfl rfl (Nat.le_of_ble_eq_true rfl) (by omega) rfl ⟨Nat.zero_le _, Nat.zero_le _⟩ (mv_kI2 fun r1160 hs => ?_)
      refine mv_iastore dX10_passAll_131 so_56 hs (fun hs => ?_)
      refine mv_nameH hs (fun h1161 hs => ?_)
      refine mv_aload_n dX10_passAll_132 rfl ?_
      refine mv_getr dX10_passAll_133 kf_X10_13 gf_55_4 ?_
      refine mv_iload_n dX10_passAll_136 rfl ?_
      refine mv_aload_n dX10_passAll_137 rfl ?_
      refine mv_aload_n dX10_passAll_138 rfl ?_
      refine mv_getr dX10_passAll_139 kf_X10_13 gf_55_4 ?_
      refine mv_iload_n dX10_passAll_142 rfl ?_
      refine mv_iaload dX10_passAll_143 so_57 hs (fun hs => ?_)
      refine mv_cV (st := [.int v1, .ref 57]) dX10_passAll_144 kk_X10_355 (TX10_pass_55 G d _ _ _ (mv_sat_bind hs)) so_55 vc_10 rfl rfl (Nat.le_of_ble_eq_true rfl) (by omega) rfl ⟨Nat.zero_le _, Nat.zero_le _⟩ (mv_kI2 fun r1162 hs => ?_)
      refine mv_iastore dX10_passAll_147 so_57 hs (fun hs => ?_)
      refine mv_nameH hs (fun h1163 hs => ?_)
      refine mv_iinc (lv' := [.ref 55, .int (v1 + 1)]) 1 dX10_passAll_148 rfl (by decide) (Nat.le_of_ble_eq_true rfl) rfl rfl ?_
      refine mv_goto dX10_passAll_151 ?_
      exact (ih _ _ hs)
    · refine mv_iconst 0 dX10_passAll_154 (by decide) ?_
      refine mv_istore_n (lv' := [.ref 55, .int 0]) dX10_passAll_155 (Nat.le_of_ble_eq_true rfl) rfl rfl ?_
      exact (BX10_passAll_55_b156 G d D (by omega) P _ _ _ hs)
noncomputable def fX10_passAll_55 (h : mv_H) : Option (mv_H) := (fX10_pass_55 (h 55 0) h).bind fun r1142 => mv_let (mv_u r1142.2 55 0 r1142.1) fun h1143 : mv_H => (fX10_pass_55 (h1143 55 1) h1143).bind fun r1144 => mv_let (mv_u r1144.2 55 1 r1144.1) fun h1145 : mv_H => (fX10_pass_55 (h1145 55 2) h1145).bind fun r1146 => mv_let (mv_u r1146.2 55 2 r1146.1) fun h1147 : mv_H => (fX10_pass_55 (h1147 55 7) h1147).bind fun r1148 => mv_let (mv_u r1148.2 55 7 r1148.1) fun h1149 : mv_H => (fX10_pass_55 (h1149 55 8) h1149).bind fun r1150 => mv_let (mv_u r1150.2 55 8 r1150.1) fun h1151 : mv_H => (fX10_pass_55 (h1151 55 9) h1151).bind fun r1152 => mv_let (mv_u r1152.2 55 9 r1152.1) fun h1153 : mv_H => (fX10_pass_55 (h1153 55 10) h1153).bind fun r1154 => mv_let (mv_u r1154.2 55 10 r1154.1) fun h1155 : mv_H => (fX10_pass_55 (h1155 55 12) h1155).bind fun r1156 => mv_let (mv_u r1156.2 55 12 r1156.1) fun h1157 : mv_H => (fX10_pass_55 (h1157 55 14) h1157).bind fun r1158 => mv_let (mv_u r1158.2 55 14 r1158.1) fun h1159 : mv_H => fX10_passAll_55_b110 mv_F 0 h1159
set_option maxRecDepth 100000 in
set_option maxHeartbeats 4000000 in
theorem TX10_passAll_55 (G : mv_G) (d : Nat) (P : mv_H → Prop) (h : mv_H) (hs : mv_sat (fX10_passAll_55 h) P) : mv_met G (d + 1) mX10_passAll [.ref 55] mv_SH h (mv_qv mv_SH P) := by
  unfold fX10_passAll_55 at hs
  obtain ⟨D, hDe⟩ : ∃ D, D = d + 1 := ⟨_, rfl⟩
  rw [← hDe]
  have hD : d + 1 ≤ D := by omega
  refine mv_enter (lv := [.ref 55, .float 0]) 1 (by decide) (by decide +kernel) rfl (Nat.le_of_ble_eq_true rfl) ?_
  refine mv_aload_n dX10_passAll_0 rfl ?_
  refine mv_aload_n dX10_passAll_1 rfl ?_
  refine mv_aload_n dX10_passAll_2 rfl ?_
  refine mv_geti dX10_passAll_3 kf_X10_112 gf_55_0 ?_
  refine mv_cV (st := [.ref 55]) dX10_passAll_6 kk_X10_355 (TX10_pass_55 G d _ _ _ (mv_sat_bind hs)) so_55 vc_10 rfl rfl (Nat.le_of_ble_eq_true rfl) (by omega) rfl ⟨Nat.zero_le _, Nat.zero_le _⟩ (mv_kI2 fun r1142 hs => ?_)
  refine mv_puti dX10_passAll_9 kf_X10_112 (fun q => by cases q) gf_55_0 ?_
  refine mv_nameH hs (fun h1143 hs => ?_)
  refine mv_aload_n dX10_passAll_12 rfl ?_
  refine mv_aload_n dX10_passAll_13 rfl ?_
  refine mv_aload_n dX10_passAll_14 rfl ?_
  refine mv_geti dX10_passAll_15 kf_X10_115 gf_55_1 ?_
  refine mv_cV (st := [.ref 55]) dX10_passAll_18 kk_X10_355 (TX10_pass_55 G d _ _ _ (mv_sat_bind hs)) so_55 vc_10 rfl rfl (Nat.le_of_ble_eq_true rfl) (by omega) rfl ⟨Nat.zero_le _, Nat.zero_le _⟩ (mv_kI2 fun r1144 hs => ?_)
  refine mv_puti dX10_passAll_21 kf_X10_115 (fun q => by cases q) gf_55_1 ?_
  refine mv_nameH hs (fun h1145 hs => ?_)
  refine mv_aload_n dX10_passAll_24 rfl ?_
  refine mv_aload_n dX10_passAll_25 rfl ?_
  refine mv_aload_n dX10_passAll_26 rfl ?_
  refine mv_geti dX10_passAll_27 kf_X10_118 gf_55_2 ?_
  refine mv_cV (st := [.ref 55]) dX10_passAll_30 kk_X10_355 (TX10_pass_55 G d _ _ _ (mv_sat_bind hs)) so_55 vc_10 rfl rfl (Nat.le_of_ble_eq_true rfl) (by omega) rfl ⟨Nat.zero_le _, Nat.zero_le _⟩ (mv_kI2 fun r1146 hs => ?_)
  refine mv_puti dX10_passAll_33 kf_X10_118 (fun q => by cases q) gf_55_2 ?_
  refine mv_nameH hs (fun h1147 hs => ?_)
  refine mv_aload_n dX10_passAll_36 rfl ?_
  refine mv_aload_n dX10_passAll_37 rfl ?_
  refine mv_aload_n dX10_passAll_38 rfl ?_
  refine mv_geti dX10_passAll_39 kf_X10_92 gf_55_7 ?_
  refine mv_cV (st := [.ref 55]) dX10_passAll_42 kk_X10_355 (TX10_pass_55 G d _ _ _ (mv_sat_bind hs)) so_55 vc_10 rfl rfl (Nat.le_of_ble_eq_true rfl) (by omega) rfl ⟨Nat.zero_le _, Nat.zero_le _⟩ (mv_kI2 fun r1148 hs => ?_)
  refine mv_puti dX10_passAll_45 kf_X10_92 (fun q => by cases q) gf_55_7 ?_
  refine mv_nameH hs (fun h1149 hs => ?_)
  refine mv_aload_n dX10_passAll_48 rfl ?_
  refine mv_aload_n dX10_passAll_49 rfl ?_
  refine mv_aload_n dX10_passAll_50 rfl ?_
  refine mv_geti dX10_passAll_51 kf_X10_157 gf_55_8 ?_
  refine mv_cV (st := [.ref 55]) dX10_passAll_54 kk_X10_355 (TX10_pass_55 G d _ _ _ (mv_sat_bind hs)) so_55 vc_10 rfl rfl (Nat.le_of_ble_eq_true rfl) (by omega) rfl ⟨Nat.zero_le _, Nat.zero_le _⟩ (mv_kI2 fun r1150 hs => ?_)
  refine mv_puti dX10_passAll_57 kf_X10_157 (fun q => by cases q) gf_55_8 ?_
  refine mv_nameH hs (fun h1151 hs => ?_)
  refine mv_aload_n dX10_passAll_60 rfl ?_
  refine mv_aload_n dX10_passAll_61 rfl ?_
  refine mv_aload_n dX10_passAll_62 rfl ?_
  refine mv_geti dX10_passAll_63 kf_X10_96 gf_55_9 ?_
  refine mv_cV (st := [.ref 55]) dX10_passAll_66 kk_X10_355 (TX10_pass_55 G d _ _ _ (mv_sat_bind hs)) so_55 vc_10 rfl rfl (Nat.le_of_ble_eq_true rfl) (by omega) rfl ⟨Nat.zero_le _, Nat.zero_le _⟩ (mv_kI2 fun r1152 hs => ?_)
  refine mv_puti dX10_passAll_69 kf_X10_96 (fun q => by cases q) gf_55_9 ?_
  refine mv_nameH hs (fun h1153 hs => ?_)
  refine mv_aload_n dX10_passAll_72 rfl ?_
  refine mv_aload_n dX10_passAll_73 rfl ?_
  refine mv_aload_n dX10_passAll_74 rfl ?_
  refine mv_geti dX10_passAll_75 kf_X10_99 gf_55_10 ?_
  refine mv_cV (st := [.ref 55]) dX10_passAll_78 kk_X10_355 (TX10_pass_55 G d _ _ _ (mv_sat_bind hs)) so_55 vc_10 rfl rfl (Nat.le_of_ble_eq_true rfl) (by omega) rfl ⟨Nat.zero_le _, Nat.zero_le _⟩ (mv_kI2 fun r1154 hs => ?_)
  refine mv_puti dX10_passAll_81 kf_X10_99 (fun q => by cases q) gf_55_10 ?_
  refine mv_nameH hs (fun h1155 hs => ?_)
  refine mv_aload_n dX10_passAll_84 rfl ?_
  refine mv_aload_n dX10_passAll_85 rfl ?_
  refine mv_aload_n dX10_passAll_86 rfl ?_
  refine mv_geti dX10_passAll_87 kf_X10_327 gf_55_12 ?_
  refine mv_cV (st := [.ref 55]) dX10_passAll_90 kk_X10_355 (TX10_pass_55 G d _ _ _ (mv_sat_bind hs)) so_55 vc_10 rfl rfl (Nat.le_of_ble_eq_true rfl) (by omega) rfl ⟨Nat.zero_le _, Nat.zero_le _⟩ (mv_kI2 fun r1156 hs => ?_)
  refine mv_puti dX10_passAll_93 kf_X10_327 (fun q => by cases q) gf_55_12 ?_
  refine mv_nameH hs (fun h1157 hs => ?_)
  refine mv_aload_n dX10_passAll_96 rfl ?_
  refine mv_aload_n dX10_passAll_97 rfl ?_
  refine mv_aload_n dX10_passAll_98 rfl ?_
  refine mv_geti dX10_passAll_99 kf_X10_330 gf_55_14 ?_
  refine mv_cV (st := [.ref 55]) dX10_passAll_102 kk_X10_355 (TX10_pass_55 G d _ _ _ (mv_sat_bind hs)) so_55 vc_10 rfl rfl (Nat.le_of_ble_eq_true rfl) (by omega) rfl ⟨Nat.zero_le _, Nat.zero_le _⟩ (mv_kI2 fun r1158 hs => ?_)
  refine mv_puti dX10_passAll_105 kf_X10_330 (fun q => by cases q) gf_55_14 ?_
  refine mv_nameH hs (fun h1159 hs => ?_)
  refine mv_iconst 0 dX10_passAll_108 (by decide) ?_
  refine mv_istore_n (lv' := [.ref 55, .int 0]) dX10_passAll_109 (Nat.le_of_ble_eq_true rfl) rfl rfl ?_
  exact (BX10_passAll_55_b110 G d D (by omega) P _ _ _ hs)
noncomputable def fX10_image_55 (p0 : Int32) (h : mv_H) : Option (Int32 × mv_H) := (fX10_in (Int32.toInt64 p0) (0 : Int64) (1 : Int64)).bind fun r1137 => if r1137 = 0 then some ((-2), h) else mv_let (mv_u h 55 44 (100 * p0)) fun h1138 : mv_H => mv_let (mv_u h1138 55 45 1) fun h1139 : mv_H => (fX10_passAll_55 h1139).bind fun r1172 => if mv_in p0 2 then mv_let (mv_u r1172 82 p0.toNatClampNeg 1) fun h1173 : mv_H => (some (1, h1173)) else none
set_option maxRecDepth 100000 in
set_option maxHeartbeats 4000000 in
theorem TX10_image_55 (G : mv_G) (d : Nat) (P : Int32 × mv_H → Prop) (p0 : Int32) (h : mv_H) (hs : mv_sat (fX10_image_55 p0 h) P) : mv_met G (d + 2) mX10_image [.ref 55, .int p0] mv_SH h (mv_qI mv_SH P) := by
  unfold fX10_image_55 at hs
  obtain ⟨D, hDe⟩ : ∃ D, D = d + 2 := ⟨_, rfl⟩
  rw [← hDe]
  have hD : d + 2 ≤ D := by omega
  refine mv_enter (lv := [.ref 55, .int p0]) 0 (by decide) (by decide +kernel) rfl (Nat.le_of_ble_eq_true rfl) ?_
  refine mv_iload_n dX10_image_0 rfl ?_
  refine mv_i2l dX10_image_1 ?_
  refine mv_lconst 0 dX10_image_2 rfl ?_
  refine mv_lconst 1 dX10_image_3 rfl ?_
  refine mv_cS (st := []) dX10_image_4 kk_X10_104 (TX10_in G d _ _ _ _ _ (mv_sat_bind hs)) rfl rfl (Nat.le_of_ble_eq_true rfl) (by omega) rfl ⟨Nat.zero_le _, Nat.zero_le _⟩ (mv_ki fun r1137 hs => ?_)
  refine mv_if_ne dX10_image_7 hs (fun _ hs => ?_) (fun _ hs => ?_)
  · refine mv_bipush (-2) dX10_image_10 (by decide) ?_
    exact mv_iret dX10_image_12 rfl ⟨((-2), h), rfl, rfl, rfl, mv_sat_some hs⟩
  · refine mv_aload_n dX10_image_13 rfl ?_
    refine mv_bipush 100 dX10_image_14 (by decide) ?_
    refine mv_iload_n dX10_image_16 rfl ?_
    refine mv_imul dX10_image_17 ?_
    refine mv_puti dX10_image_18 kf_X10_352 (fun q => by cases q) gf_55_44 ?_
    refine mv_nameH hs (fun h1138 hs => ?_)
    refine mv_aload_n dX10_image_21 rfl ?_
    refine mv_iconst 1 dX10_image_22 (by decide) ?_
    refine mv_putz dX10_image_23 kf_X10_349 (fun q => by cases q) gf_55_45 (Or.inr rfl) ?_
    refine mv_nameH hs (fun h1139 hs => ?_)
    refine mv_aload_n dX10_image_26 rfl ?_
    refine mv_cV (st := []) dX10_image_27 kk_X10_358 (TX10_passAll_55 G d _ _ (mv_sat_bind hs)) so_55 vc_10 rfl rfl (Nat.le_of_ble_eq_true rfl) (by omega) rfl ⟨Nat.zero_le _, Nat.zero_le _⟩ (mv_kv fun r1172 hs => ?_)
    refine mv_aload_n dX10_image_30 rfl ?_
    refine mv_getr dX10_image_31 kf_X10_88 gf_55_43 ?_
    refine mv_iload_n dX10_image_34 rfl ?_
    refine mv_iconst 1 dX10_image_35 (by decide) ?_
    refine mv_zastore dX10_image_36 so_82 (Or.inr rfl) hs (fun hs => ?_)
    refine mv_nameH hs (fun h1173 hs => ?_)
    refine mv_iconst 1 dX10_image_37 (by decide) ?_
    exact mv_iret dX10_image_38 rfl ⟨(1, h1173), rfl, rfl, rfl, mv_sat_some hs⟩
noncomputable def fX7_copyFrom_2_13_b2 : Nat → Int32 → mv_H → Option (mv_H)
  | 0, _, _ => none
  | n + 1, v2, h => if v2 < 18 then (if mv_in v2 18 then (if mv_in v2 18 then mv_let (mv_u h 3 v2.toNatClampNeg (h 14 v2.toNatClampNeg)) fun h1178 : mv_H => ((fX7_copyFrom_2_13_b2 n) (v2 + 1) h1178) else none) else none) else mv_let (mv_u h 2 2 (h 13 2)) fun h1179 : mv_H => some h1179
set_option maxRecDepth 100000 in
set_option maxHeartbeats 4000000 in
theorem BX7_copyFrom_2_13_b2 (G : mv_G) (d D : Nat) (hD : d + 0 ≤ D) (P : mv_H → Prop) : ∀ (n : Nat) (v2 : Int32) (h : mv_H), mv_sat (fX7_copyFrom_2_13_b2 n v2 h) P → mv_MW G mX7_copyFrom (mv_rm D mX7_copyFrom) (mv_Zf G mX7_copyFrom (mv_qv mv_SH P)) 0 0 2 [.ref 2, .ref 13, .int v2] [] mv_SH h := by
  intro n
  induction n with
  | zero =>
    intro v2 h hs
    unfold fX7_copyFrom_2_13_b2 at hs
    exact (mv_sat_none hs).elim
  | succ n ih =>
    intro v2 h hs
    unfold fX7_copyFrom_2_13_b2 at hs
    refine mv_iload_n dX7_copyFrom_2 rfl ?_
    refine mv_bipush 18 dX7_copyFrom_3 (by decide) ?_
    refine mv_icmp_ge dX7_copyFrom_5 hs (fun _ hs => ?_) (fun _ hs => ?_)
    · refine mv_aload_n dX7_copyFrom_8 rfl ?_
      refine mv_getr dX7_copyFrom_9 kf_X7_9 gf_2_1 ?_
      refine mv_iload_n dX7_copyFrom_12 rfl ?_
      refine mv_aload_n dX7_copyFrom_13 rfl ?_
      refine mv_getr dX7_copyFrom_14 kf_X7_9 gf_13_1 ?_
      refine mv_iload_n dX7_copyFrom_17 rfl ?_
      refine mv_iaload dX7_copyFrom_18 so_14 hs (fun hs => ?_)
      refine mv_iastore dX7_copyFrom_19 so_3 hs (fun hs => ?_)
      refine mv_nameH hs (fun h1178 hs => ?_)
      refine mv_iinc (lv' := [.ref 2, .ref 13, .int (v2 + 1)]) 1 dX7_copyFrom_20 rfl (by decide) (Nat.le_of_ble_eq_true rfl) rfl rfl ?_
      refine mv_goto dX7_copyFrom_23 ?_
      exact (ih _ _ hs)
    · refine mv_aload_n dX7_copyFrom_26 rfl ?_
      refine mv_aload_n dX7_copyFrom_27 rfl ?_
      refine mv_geti dX7_copyFrom_28 kf_X7_19 gf_13_2 ?_
      refine mv_puti dX7_copyFrom_31 kf_X7_19 (fun q => by cases q) gf_2_2 ?_
      refine mv_nameH hs (fun h1179 hs => ?_)
      exact mv_vret dX7_copyFrom_34 rfl ⟨_, rfl, rfl, rfl, mv_sat_some hs⟩
noncomputable def fX7_copyFrom_2_13 (h : mv_H) : Option (mv_H) := fX7_copyFrom_2_13_b2 mv_F 0 h
set_option maxRecDepth 100000 in
set_option maxHeartbeats 4000000 in
theorem TX7_copyFrom_2_13 (G : mv_G) (d : Nat) (P : mv_H → Prop) (h : mv_H) (hs : mv_sat (fX7_copyFrom_2_13 h) P) : mv_met G (d + 0) mX7_copyFrom [.ref 2, .ref 13] mv_SH h (mv_qv mv_SH P) := by
  unfold fX7_copyFrom_2_13 at hs
  obtain ⟨D, hDe⟩ : ∃ D, D = d + 0 := ⟨_, rfl⟩
  rw [← hDe]
  have hD : d + 0 ≤ D := by omega
  refine mv_enter (lv := [.ref 2, .ref 13, .float 0]) 1 (by decide) (by decide +kernel) rfl (Nat.le_of_ble_eq_true rfl) ?_
  refine mv_iconst 0 dX7_copyFrom_0 (by decide) ?_
  refine mv_istore_n (lv' := [.ref 2, .ref 13, .int 0]) dX7_copyFrom_1 (Nat.le_of_ble_eq_true rfl) rfl rfl ?_
  exact (BX7_copyFrom_2_13_b2 G d D (by omega) P _ _ _ hs)
noncomputable def fX7_copyFrom_4_15_b2 : Nat → Int32 → mv_H → Option (mv_H)
  | 0, _, _ => none
  | n + 1, v2, h => if v2 < 18 then (if mv_in v2 18 then (if mv_in v2 18 then mv_let (mv_u h 5 v2.toNatClampNeg (h 16 v2.toNatClampNeg)) fun h1181 : mv_H => ((fX7_copyFrom_4_15_b2 n) (v2 + 1) h1181) else none) else none) else mv_let (mv_u h 4 2 (h 15 2)) fun h1182 : mv_H => some h1182
set_option maxRecDepth 100000 in
set_option maxHeartbeats 4000000 in
theorem BX7_copyFrom_4_15_b2 (G : mv_G) (d D : Nat) (hD : d + 0 ≤ D) (P : mv_H → Prop) : ∀ (n : Nat) (v2 : Int32) (h : mv_H), mv_sat (fX7_copyFrom_4_15_b2 n v2 h) P → mv_MW G mX7_copyFrom (mv_rm D mX7_copyFrom) (mv_Zf G mX7_copyFrom (mv_qv mv_SH P)) 0 0 2 [.ref 4, .ref 15, .int v2] [] mv_SH h := by
  intro n
  induction n with
  | zero =>
    intro v2 h hs
    unfold fX7_copyFrom_4_15_b2 at hs
    exact (mv_sat_none hs).elim
  | succ n ih =>
    intro v2 h hs
    unfold fX7_copyFrom_4_15_b2 at hs
    refine mv_iload_n dX7_copyFrom_2 rfl ?_
    refine mv_bipush 18 dX7_copyFrom_3 (by decide) ?_
    refine mv_icmp_ge dX7_copyFrom_5 hs (fun _ hs => ?_) (fun _ hs => ?_)
    · refine mv_aload_n dX7_copyFrom_8 rfl ?_
      refine mv_getr dX7_copyFrom_9 kf_X7_9 gf_4_1 ?_
      refine mv_iload_n dX7_copyFrom_12 rfl ?_
      refine mv_aload_n dX7_copyFrom_13 rfl ?_
      refine mv_getr dX7_copyFrom_14 kf_X7_9 gf_15_1 ?_
      refine mv_iload_n dX7_copyFrom_17 rfl ?_
      refine mv_iaload dX7_copyFrom_18 so_16 hs (fun hs => ?_)
      refine mv_iastore dX7_copyFrom_19 so_5 hs (fun hs => ?_)
      refine mv_nameH hs (fun h1181 hs => ?_)
      refine mv_iinc (lv' := [.ref 4, .ref 15, .int (v2 + 1)]) 1 dX7_copyFrom_20 rfl (by decide) (Nat.le_of_ble_eq_true rfl) rfl rfl ?_
      refine mv_goto dX7_copyFrom_23 ?_
      exact (ih _ _ hs)
    · refine mv_aload_n dX7_copyFrom_26 rfl ?_
      refine mv_aload_n dX7_copyFrom_27 rfl ?_
      refine mv_geti dX7_copyFrom_28 kf_X7_19 gf_15_2 ?_
      refine mv_puti dX7_copyFrom_31 kf_X7_19 (fun q => by cases q) gf_4_2 ?_
      refine mv_nameH hs (fun h1182 hs => ?_)
      exact mv_vret dX7_copyFrom_34 rfl ⟨_, rfl, rfl, rfl, mv_sat_some hs⟩
noncomputable def fX7_copyFrom_4_15 (h : mv_H) : Option (mv_H) := fX7_copyFrom_4_15_b2 mv_F 0 h
set_option maxRecDepth 100000 in
set_option maxHeartbeats 4000000 in
theorem TX7_copyFrom_4_15 (G : mv_G) (d : Nat) (P : mv_H → Prop) (h : mv_H) (hs : mv_sat (fX7_copyFrom_4_15 h) P) : mv_met G (d + 0) mX7_copyFrom [.ref 4, .ref 15] mv_SH h (mv_qv mv_SH P) := by
  unfold fX7_copyFrom_4_15 at hs
  obtain ⟨D, hDe⟩ : ∃ D, D = d + 0 := ⟨_, rfl⟩
  rw [← hDe]
  have hD : d + 0 ≤ D := by omega
  refine mv_enter (lv := [.ref 4, .ref 15, .float 0]) 1 (by decide) (by decide +kernel) rfl (Nat.le_of_ble_eq_true rfl) ?_
  refine mv_iconst 0 dX7_copyFrom_0 (by decide) ?_
  refine mv_istore_n (lv' := [.ref 4, .ref 15, .int 0]) dX7_copyFrom_1 (Nat.le_of_ble_eq_true rfl) rfl rfl ?_
  exact (BX7_copyFrom_4_15_b2 G d D (by omega) P _ _ _ hs)
noncomputable def fX7_copyFrom_6_17_b2 : Nat → Int32 → mv_H → Option (mv_H)
  | 0, _, _ => none
  | n + 1, v2, h => if v2 < 18 then (if mv_in v2 18 then (if mv_in v2 18 then mv_let (mv_u h 7 v2.toNatClampNeg (h 18 v2.toNatClampNeg)) fun h1184 : mv_H => ((fX7_copyFrom_6_17_b2 n) (v2 + 1) h1184) else none) else none) else mv_let (mv_u h 6 2 (h 17 2)) fun h1185 : mv_H => some h1185
set_option maxRecDepth 100000 in
set_option maxHeartbeats 4000000 in
theorem BX7_copyFrom_6_17_b2 (G : mv_G) (d D : Nat) (hD : d + 0 ≤ D) (P : mv_H → Prop) : ∀ (n : Nat) (v2 : Int32) (h : mv_H), mv_sat (fX7_copyFrom_6_17_b2 n v2 h) P → mv_MW G mX7_copyFrom (mv_rm D mX7_copyFrom) (mv_Zf G mX7_copyFrom (mv_qv mv_SH P)) 0 0 2 [.ref 6, .ref 17, .int v2] [] mv_SH h := by
  intro n
  induction n with
  | zero =>
    intro v2 h hs
    unfold fX7_copyFrom_6_17_b2 at hs
    exact (mv_sat_none hs).elim
  | succ n ih =>
    intro v2 h hs
    unfold fX7_copyFrom_6_17_b2 at hs
    refine mv_iload_n dX7_copyFrom_2 rfl ?_
    refine mv_bipush 18 dX7_copyFrom_3 (by decide) ?_
    refine mv_icmp_ge dX7_copyFrom_5 hs (fun _ hs => ?_) (fun _ hs => ?_)
    · refine mv_aload_n dX7_copyFrom_8 rfl ?_
      refine mv_getr dX7_copyFrom_9 kf_X7_9 gf_6_1 ?_
      refine mv_iload_n dX7_copyFrom_12 rfl ?_
      refine mv_aload_n dX7_copyFrom_13 rfl ?_
      refine mv_getr dX7_copyFrom_14 kf_X7_9 gf_17_1 ?_
      refine mv_iload_n dX7_copyFrom_17 rfl ?_
      refine mv_iaload dX7_copyFrom_18 so_18 hs (fun hs => ?_)
      refine mv_iastore dX7_copyFrom_19 so_7 hs (fun hs => ?_)
      refine mv_nameH hs (fun h1184 hs => ?_)
      refine mv_iinc (lv' := [.ref 6, .ref 17, .int (v2 + 1)]) 1 dX7_copyFrom_20 rfl (by decide) (Nat.le_of_ble_eq_true rfl) rfl rfl ?_
      refine mv_goto dX7_copyFrom_23 ?_
      exact (ih _ _ hs)
    · refine mv_aload_n dX7_copyFrom_26 rfl ?_
      refine mv_aload_n dX7_copyFrom_27 rfl ?_
      refine mv_geti dX7_copyFrom_28 kf_X7_19 gf_17_2 ?_
      refine mv_puti dX7_copyFrom_31 kf_X7_19 (fun q => by cases q) gf_6_2 ?_
      refine mv_nameH hs (fun h1185 hs => ?_)
      exact mv_vret dX7_copyFrom_34 rfl ⟨_, rfl, rfl, rfl, mv_sat_some hs⟩
noncomputable def fX7_copyFrom_6_17 (h : mv_H) : Option (mv_H) := fX7_copyFrom_6_17_b2 mv_F 0 h
set_option maxRecDepth 100000 in
set_option maxHeartbeats 4000000 in
theorem TX7_copyFrom_6_17 (G : mv_G) (d : Nat) (P : mv_H → Prop) (h : mv_H) (hs : mv_sat (fX7_copyFrom_6_17 h) P) : mv_met G (d + 0) mX7_copyFrom [.ref 6, .ref 17] mv_SH h (mv_qv mv_SH P) := by
  unfold fX7_copyFrom_6_17 at hs
  obtain ⟨D, hDe⟩ : ∃ D, D = d + 0 := ⟨_, rfl⟩
  rw [← hDe]
  have hD : d + 0 ≤ D := by omega
  refine mv_enter (lv := [.ref 6, .ref 17, .float 0]) 1 (by decide) (by decide +kernel) rfl (Nat.le_of_ble_eq_true rfl) ?_
  refine mv_iconst 0 dX7_copyFrom_0 (by decide) ?_
  refine mv_istore_n (lv' := [.ref 6, .ref 17, .int 0]) dX7_copyFrom_1 (Nat.le_of_ble_eq_true rfl) rfl rfl ?_
  exact (BX7_copyFrom_6_17_b2 G d D (by omega) P _ _ _ hs)
noncomputable def fX2_copyFrom_8_19_b2 : Nat → Int32 → mv_H → Option (mv_H)
  | 0, _, _ => none
  | n + 1, v2, h => if v2 < 6 then (if mv_in v2 6 then (if mv_in v2 6 then mv_let (mv_u h 9 v2.toNatClampNeg (h 20 v2.toNatClampNeg)) fun h1187 : mv_H => ((fX2_copyFrom_8_19_b2 n) (v2 + 1) h1187) else none) else none) else mv_let (mv_u h 8 2 (h 19 2)) fun h1188 : mv_H => some h1188
set_option maxRecDepth 100000 in
set_option maxHeartbeats 4000000 in
theorem BX2_copyFrom_8_19_b2 (G : mv_G) (d D : Nat) (hD : d + 0 ≤ D) (P : mv_H → Prop) : ∀ (n : Nat) (v2 : Int32) (h : mv_H), mv_sat (fX2_copyFrom_8_19_b2 n v2 h) P → mv_MW G mX2_copyFrom (mv_rm D mX2_copyFrom) (mv_Zf G mX2_copyFrom (mv_qv mv_SH P)) 0 0 2 [.ref 8, .ref 19, .int v2] [] mv_SH h := by
  intro n
  induction n with
  | zero =>
    intro v2 h hs
    unfold fX2_copyFrom_8_19_b2 at hs
    exact (mv_sat_none hs).elim
  | succ n ih =>
    intro v2 h hs
    unfold fX2_copyFrom_8_19_b2 at hs
    refine mv_iload_n dX2_copyFrom_2 rfl ?_
    refine mv_bipush 6 dX2_copyFrom_3 (by decide) ?_
    refine mv_icmp_ge dX2_copyFrom_5 hs (fun _ hs => ?_) (fun _ hs => ?_)
    · refine mv_aload_n dX2_copyFrom_8 rfl ?_
      refine mv_getr dX2_copyFrom_9 kf_X2_9 gf_8_1 ?_
      refine mv_iload_n dX2_copyFrom_12 rfl ?_
      refine mv_aload_n dX2_copyFrom_13 rfl ?_
      refine mv_getr dX2_copyFrom_14 kf_X2_9 gf_19_1 ?_
      refine mv_iload_n dX2_copyFrom_17 rfl ?_
      refine mv_iaload dX2_copyFrom_18 so_20 hs (fun hs => ?_)
      refine mv_iastore dX2_copyFrom_19 so_9 hs (fun hs => ?_)
      refine mv_nameH hs (fun h1187 hs => ?_)
      refine mv_iinc (lv' := [.ref 8, .ref 19, .int (v2 + 1)]) 1 dX2_copyFrom_20 rfl (by decide) (Nat.le_of_ble_eq_true rfl) rfl rfl ?_
      refine mv_goto dX2_copyFrom_23 ?_
      exact (ih _ _ hs)
    · refine mv_aload_n dX2_copyFrom_26 rfl ?_
      refine mv_aload_n dX2_copyFrom_27 rfl ?_
      refine mv_geti dX2_copyFrom_28 kf_X2_17 gf_19_2 ?_
      refine mv_puti dX2_copyFrom_31 kf_X2_17 (fun q => by cases q) gf_8_2 ?_
      refine mv_nameH hs (fun h1188 hs => ?_)
      exact mv_vret dX2_copyFrom_34 rfl ⟨_, rfl, rfl, rfl, mv_sat_some hs⟩
noncomputable def fX2_copyFrom_8_19 (h : mv_H) : Option (mv_H) := fX2_copyFrom_8_19_b2 mv_F 0 h
set_option maxRecDepth 100000 in
set_option maxHeartbeats 4000000 in
theorem TX2_copyFrom_8_19 (G : mv_G) (d : Nat) (P : mv_H → Prop) (h : mv_H) (hs : mv_sat (fX2_copyFrom_8_19 h) P) : mv_met G (d + 0) mX2_copyFrom [.ref 8, .ref 19] mv_SH h (mv_qv mv_SH P) := by
  unfold fX2_copyFrom_8_19 at hs
  obtain ⟨D, hDe⟩ : ∃ D, D = d + 0 := ⟨_, rfl⟩
  rw [← hDe]
  have hD : d + 0 ≤ D := by omega
  refine mv_enter (lv := [.ref 8, .ref 19, .float 0]) 1 (by decide) (by decide +kernel) rfl (Nat.le_of_ble_eq_true rfl) ?_
  refine mv_iconst 0 dX2_copyFrom_0 (by decide) ?_
  refine mv_istore_n (lv' := [.ref 8, .ref 19, .int 0]) dX2_copyFrom_1 (Nat.le_of_ble_eq_true rfl) rfl rfl ?_
  exact (BX2_copyFrom_8_19_b2 G d D (by omega) P _ _ _ hs)
noncomputable def fX2_copyFrom_10_21_b2 : Nat → Int32 → mv_H → Option (mv_H)
  | 0, _, _ => none
  | n + 1, v2, h => if v2 < 6 then (if mv_in v2 6 then (if mv_in v2 6 then mv_let (mv_u h 11 v2.toNatClampNeg (h 22 v2.toNatClampNeg)) fun h1190 : mv_H => ((fX2_copyFrom_10_21_b2 n) (v2 + 1) h1190) else none) else none) else mv_let (mv_u h 10 2 (h 21 2)) fun h1191 : mv_H => some h1191
set_option maxRecDepth 100000 in
set_option maxHeartbeats 4000000 in
theorem BX2_copyFrom_10_21_b2 (G : mv_G) (d D : Nat) (hD : d + 0 ≤ D) (P : mv_H → Prop) : ∀ (n : Nat) (v2 : Int32) (h : mv_H), mv_sat (fX2_copyFrom_10_21_b2 n v2 h) P → mv_MW G mX2_copyFrom (mv_rm D mX2_copyFrom) (mv_Zf G mX2_copyFrom (mv_qv mv_SH P)) 0 0 2 [.ref 10, .ref 21, .int v2] [] mv_SH h := by
  intro n
  induction n with
  | zero =>
    intro v2 h hs
    unfold fX2_copyFrom_10_21_b2 at hs
    exact (mv_sat_none hs).elim
  | succ n ih =>
    intro v2 h hs
    unfold fX2_copyFrom_10_21_b2 at hs
    refine mv_iload_n dX2_copyFrom_2 rfl ?_
    refine mv_bipush 6 dX2_copyFrom_3 (by decide) ?_
    refine mv_icmp_ge dX2_copyFrom_5 hs (fun _ hs => ?_) (fun _ hs => ?_)
    · refine mv_aload_n dX2_copyFrom_8 rfl ?_
      refine mv_getr dX2_copyFrom_9 kf_X2_9 gf_10_1 ?_
      refine mv_iload_n dX2_copyFrom_12 rfl ?_
      refine mv_aload_n dX2_copyFrom_13 rfl ?_
      refine mv_getr dX2_copyFrom_14 kf_X2_9 gf_21_1 ?_
      refine mv_iload_n dX2_copyFrom_17 rfl ?_
      refine mv_iaload dX2_copyFrom_18 so_22 hs (fun hs => ?_)
      refine mv_iastore dX2_copyFrom_19 so_11 hs (fun hs => ?_)
      refine mv_nameH hs (fun h1190 hs => ?_)
      refine mv_iinc (lv' := [.ref 10, .ref 21, .int (v2 + 1)]) 1 dX2_copyFrom_20 rfl (by decide) (Nat.le_of_ble_eq_true rfl) rfl rfl ?_
      refine mv_goto dX2_copyFrom_23 ?_
      exact (ih _ _ hs)
    · refine mv_aload_n dX2_copyFrom_26 rfl ?_
      refine mv_aload_n dX2_copyFrom_27 rfl ?_
      refine mv_geti dX2_copyFrom_28 kf_X2_17 gf_21_2 ?_
      refine mv_puti dX2_copyFrom_31 kf_X2_17 (fun q => by cases q) gf_10_2 ?_
      refine mv_nameH hs (fun h1191 hs => ?_)
      exact mv_vret dX2_copyFrom_34 rfl ⟨_, rfl, rfl, rfl, mv_sat_some hs⟩
noncomputable def fX2_copyFrom_10_21 (h : mv_H) : Option (mv_H) := fX2_copyFrom_10_21_b2 mv_F 0 h
set_option maxRecDepth 100000 in
set_option maxHeartbeats 4000000 in
theorem TX2_copyFrom_10_21 (G : mv_G) (d : Nat) (P : mv_H → Prop) (h : mv_H) (hs : mv_sat (fX2_copyFrom_10_21 h) P) : mv_met G (d + 0) mX2_copyFrom [.ref 10, .ref 21] mv_SH h (mv_qv mv_SH P) := by
  unfold fX2_copyFrom_10_21 at hs
  obtain ⟨D, hDe⟩ : ∃ D, D = d + 0 := ⟨_, rfl⟩
  rw [← hDe]
  have hD : d + 0 ≤ D := by omega
  refine mv_enter (lv := [.ref 10, .ref 21, .float 0]) 1 (by decide) (by decide +kernel) rfl (Nat.le_of_ble_eq_true rfl) ?_
  refine mv_iconst 0 dX2_copyFrom_0 (by decide) ?_
  refine mv_istore_n (lv' := [.ref 10, .ref 21, .int 0]) dX2_copyFrom_1 (Nat.le_of_ble_eq_true rfl) rfl rfl ?_
  exact (BX2_copyFrom_10_21_b2 G d D (by omega) P _ _ _ hs)
noncomputable def fX1_copyFrom_1_12 (h : mv_H) : Option (mv_H) := (fX7_copyFrom_2_13 h).bind fun r1180 => (fX7_copyFrom_4_15 r1180).bind fun r1183 => (fX7_copyFrom_6_17 r1183).bind fun r1186 => (fX2_copyFrom_8_19 r1186).bind fun r1189 => (fX2_copyFrom_10_21 r1189).bind fun r1192 => mv_let (mv_u r1192 1 5 (r1192 12 5)) fun h1193 : mv_H => mv_let (mv_u h1193 1 6 (h1193 12 6)) fun h1194 : mv_H => mv_let (mv_u h1194 1 7 (h1194 12 7)) fun h1195 : mv_H => mv_let (mv_u h1195 1 8 (h1195 12 8)) fun h1196 : mv_H => some h1196
set_option maxRecDepth 100000 in
set_option maxHeartbeats 4000000 in
theorem TX1_copyFrom_1_12 (G : mv_G) (d : Nat) (P : mv_H → Prop) (h : mv_H) (hs : mv_sat (fX1_copyFrom_1_12 h) P) : mv_met G (d + 1) mX1_copyFrom [.ref 1, .ref 12] mv_SH h (mv_qv mv_SH P) := by
  unfold fX1_copyFrom_1_12 at hs
  obtain ⟨D, hDe⟩ : ∃ D, D = d + 1 := ⟨_, rfl⟩
  rw [← hDe]
  have hD : d + 1 ≤ D := by omega
  refine mv_enter (lv := [.ref 1, .ref 12]) 0 (by decide) (by decide +kernel) rfl (Nat.le_of_ble_eq_true rfl) ?_
  refine mv_aload_n dX1_copyFrom_0 rfl ?_
  refine mv_getr dX1_copyFrom_1 kf_X1_14 gf_1_0 ?_
  refine mv_aload_n dX1_copyFrom_4 rfl ?_
  refine mv_getr dX1_copyFrom_5 kf_X1_14 gf_12_0 ?_
  refine mv_cV (st := []) dX1_copyFrom_8 kk_X1_49 (TX7_copyFrom_2_13 G d _ _ (mv_sat_bind hs)) so_2 vc_7 rfl rfl (Nat.le_of_ble_eq_true rfl) (by omega) rfl ⟨Nat.zero_le _, Nat.zero_le _⟩ (mv_kv fun r1180 hs => ?_)
  refine mv_aload_n dX1_copyFrom_11 rfl ?_
  refine mv_getr dX1_copyFrom_12 kf_X1_20 gf_1_1 ?_
  refine mv_aload_n dX1_copyFrom_15 rfl ?_
  refine mv_getr dX1_copyFrom_16 kf_X1_20 gf_12_1 ?_
  refine mv_cV (st := []) dX1_copyFrom_19 kk_X1_49 (TX7_copyFrom_4_15 G d _ _ (mv_sat_bind hs)) so_4 vc_7 rfl rfl (Nat.le_of_ble_eq_true rfl) (by omega) rfl ⟨Nat.zero_le _, Nat.zero_le _⟩ (mv_kv fun r1183 hs => ?_)
  refine mv_aload_n dX1_copyFrom_22 rfl ?_
  refine mv_getr dX1_copyFrom_23 kf_X1_23 gf_1_2 ?_
  refine mv_aload_n dX1_copyFrom_26 rfl ?_
  refine mv_getr dX1_copyFrom_27 kf_X1_23 gf_12_2 ?_
  refine mv_cV (st := []) dX1_copyFrom_30 kk_X1_49 (TX7_copyFrom_6_17 G d _ _ (mv_sat_bind hs)) so_6 vc_7 rfl rfl (Nat.le_of_ble_eq_true rfl) (by omega) rfl ⟨Nat.zero_le _, Nat.zero_le _⟩ (mv_kv fun r1186 hs => ?_)
  refine mv_aload_n dX1_copyFrom_33 rfl ?_
  refine mv_getr dX1_copyFrom_34 kf_X1_29 gf_1_3 ?_
  refine mv_aload_n dX1_copyFrom_37 rfl ?_
  refine mv_getr dX1_copyFrom_38 kf_X1_29 gf_12_3 ?_
  refine mv_cV (st := []) dX1_copyFrom_41 kk_X1_53 (TX2_copyFrom_8_19 G d _ _ (mv_sat_bind hs)) so_8 vc_2 rfl rfl (Nat.le_of_ble_eq_true rfl) (by omega) rfl ⟨Nat.zero_le _, Nat.zero_le _⟩ (mv_kv fun r1189 hs => ?_)
  refine mv_aload_n dX1_copyFrom_44 rfl ?_
  refine mv_getr dX1_copyFrom_45 kf_X1_33 gf_1_4 ?_
  refine mv_aload_n dX1_copyFrom_48 rfl ?_
  refine mv_getr dX1_copyFrom_49 kf_X1_33 gf_12_4 ?_
  refine mv_cV (st := []) dX1_copyFrom_52 kk_X1_53 (TX2_copyFrom_10_21 G d _ _ (mv_sat_bind hs)) so_10 vc_2 rfl rfl (Nat.le_of_ble_eq_true rfl) (by omega) rfl ⟨Nat.zero_le _, Nat.zero_le _⟩ (mv_kv fun r1192 hs => ?_)
  refine mv_aload_n dX1_copyFrom_55 rfl ?_
  refine mv_aload_n dX1_copyFrom_56 rfl ?_
  refine mv_geti dX1_copyFrom_57 kf_X1_36 gf_12_5 ?_
  refine mv_puti dX1_copyFrom_60 kf_X1_36 (fun q => by cases q) gf_1_5 ?_
  refine mv_nameH hs (fun h1193 hs => ?_)
  refine mv_aload_n dX1_copyFrom_63 rfl ?_
  refine mv_aload_n dX1_copyFrom_64 rfl ?_
  refine mv_geti dX1_copyFrom_65 kf_X1_40 gf_12_6 ?_
  refine mv_puti dX1_copyFrom_68 kf_X1_40 (fun q => by cases q) gf_1_6 ?_
  refine mv_nameH hs (fun h1194 hs => ?_)
  refine mv_aload_n dX1_copyFrom_71 rfl ?_
  refine mv_aload_n dX1_copyFrom_72 rfl ?_
  refine mv_geti dX1_copyFrom_73 kf_X1_43 gf_12_7 ?_
  refine mv_puti dX1_copyFrom_76 kf_X1_43 (fun q => by cases q) gf_1_7 ?_
  refine mv_nameH hs (fun h1195 hs => ?_)
  refine mv_aload_n dX1_copyFrom_79 rfl ?_
  refine mv_aload_n dX1_copyFrom_80 rfl ?_
  refine mv_geti dX1_copyFrom_81 kf_X1_46 gf_12_8 ?_
  refine mv_puti dX1_copyFrom_84 kf_X1_46 (fun q => by cases q) gf_1_8 ?_
  refine mv_nameH hs (fun h1196 hs => ?_)
  exact mv_vret dX1_copyFrom_87 rfl ⟨_, rfl, rfl, rfl, mv_sat_some hs⟩
