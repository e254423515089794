/-! printed by program: what a method does, as a function, and that it does it -/
noncomputable def fX10_isAxis (p0 : Int32) : Option (Int32) := (fX10_in (Int32.toInt64 p0) (0 : Int64) (2 : Int64)).bind fun r407 => if mv_01 r407 then some r407 else none
set_option maxRecDepth 100000 in
set_option maxHeartbeats 4000000 in
theorem TX10_isAxis (G : mv_G) (d : Nat) (P : Int32 → Prop) (p0 : Int32) (h : mv_H) (hs : mv_sat (fX10_isAxis p0) P) : mv_met G (d + 1) mX10_isAxis [.int p0] mv_SH h (mv_qi mv_SH h P) := by
  unfold fX10_isAxis at hs
  obtain ⟨D, hDe⟩ : ∃ D, D = d + 1 := ⟨_, rfl⟩
  rw [← hDe]
  have hD : d + 1 ≤ D := by omega
  refine mv_enter (lv := [.int p0]) 0 (by decide) (by decide +kernel) rfl (Nat.le_of_ble_eq_true rfl) ?_
  refine mv_iload_n dX10_isAxis_0 rfl ?_
  refine mv_i2l dX10_isAxis_1 ?_
  refine mv_lconst 0 dX10_isAxis_2 rfl ?_
  refine mv_ldc2 dX10_isAxis_3 kn_X10_144 ?_
  refine mv_cS (st := []) dX10_isAxis_6 kk_X10_104 (TX10_in G d _ _ _ _ _ (mv_sat_bind hs)) rfl rfl (Nat.le_of_ble_eq_true rfl) (by omega) rfl ⟨Nat.zero_le _, Nat.zero_le _⟩ (mv_ki fun r407 hs => ?_)
  obtain ⟨h01, hs⟩ := mv_sat_g hs
  exact mv_zret dX10_isAxis_9 rfl h01 ⟨_, rfl, rfl, rfl, mv_sat_some hs⟩
noncomputable def fX10_layBox_55_b141 (k24 : Int32 → Int32 → Int32 → Int32 → mv_H → Option (mv_H)) (v1 : Int32) (v2 : Int32) (v3 : Int32) (v4 : Int32) (s0 : Int32) (s1 : Int32) (s2 : Int32) (h : mv_H) : Option (mv_H) := if mv_in s2 3 then mv_let (mv_u h 66 s2.toNatClampNeg ((s1 + s0) + (2 * (h 55 8)))) fun h416 : mv_H => (k24 v1 v2 v3 (v4 + 1) h416) else none
set_option maxRecDepth 100000 in
set_option maxHeartbeats 4000000 in
theorem BX10_layBox_55_b141 (G : mv_G) (d D : Nat) (hD : d + 0 ≤ D) (P : mv_H → Prop) (k24 : Int32 → Int32 → Int32 → Int32 → mv_H → Option (mv_H)) (hk24 : ∀ (v1 : Int32) (v2 : Int32) (v3 : Int32) (v4 : Int32) (h : mv_H), mv_sat (k24 v1 v2 v3 v4 h) P → mv_MW G mX10_layBox (mv_rm D mX10_layBox) (mv_Zf G mX10_layBox (mv_qv mv_SH P)) 0 0 24 [.ref 55, .int v1, .int v2, .int v3, .int v4] [] mv_SH h) (v1 : Int32) (v2 : Int32) (v3 : Int32) (v4 : Int32) (s0 : Int32) (s1 : Int32) (s2 : Int32) (h : mv_H) (hs : mv_sat (fX10_layBox_55_b141 k24 v1 v2 v3 v4 s0 s1 s2 h) P) : mv_MW G mX10_layBox (mv_rm D mX10_layBox) (mv_Zf G mX10_layBox (mv_qv mv_SH P)) 0 0 141 [.ref 55, .int v1, .int v2, .int v3, .int v4] [.int s0, .int s1, .int s2, .ref 66] mv_SH h := by
  unfold fX10_layBox_55_b141 at hs
  refine mv_iadd dX10_layBox_141 ?_
  refine mv_iconst 2 dX10_layBox_142 (by decide) ?_
  refine mv_aload_n dX10_layBox_143 rfl ?_
  refine mv_geti dX10_layBox_144 kf_X10_157 gf_55_8 ?_
  refine mv_imul dX10_layBox_147 ?_
  refine mv_iadd dX10_layBox_148 ?_
  refine mv_iastore dX10_layBox_149 so_66 hs (fun hs => ?_)
  refine mv_nameH hs (fun h416 hs => ?_)
  refine mv_iinc (lv' := [.ref 55, .int v1, .int v2, .int v3, .int (v4 + 1)]) 1 dX10_layBox_150 rfl (by decide) (Nat.le_of_ble_eq_true rfl) rfl rfl ?_
  refine mv_goto dX10_layBox_153 ?_
  exact (hk24 _ _ _ _ _ hs)
noncomputable def fX10_layBox_55_b64 (k24 : Int32 → Int32 → Int32 → Int32 → mv_H → Option (mv_H)) (v1 : Int32) (v2 : Int32) (v3 : Int32) (v4 : Int32) (s0 : Int32) (s1 : Int32) (h : mv_H) : Option (mv_H) := if mv_in s1 3 then mv_let (mv_u h 68 s1.toNatClampNeg s0) fun h414 : mv_H => (if mv_in v4 3 then (if mv_in v4 3 then (if mv_in v4 3 then mv_let (mv_u h414 65 v4.toNatClampNeg ((2 * ((h414 67 v4.toNatClampNeg) + (h414 68 v4.toNatClampNeg))) + (h414 55 7))) fun h415 : mv_H => (if mv_in v4 3 then (if mv_in v4 3 then (if mv_in v4 3 then (if (h415 67 v4.toNatClampNeg) < (h415 68 v4.toNatClampNeg) then (if mv_in v4 3 then (fX10_layBox_55_b141 k24 v1 v2 v3 v4 (h415 67 v4.toNatClampNeg) (h415 69 v4.toNatClampNeg) v4 h415) else none) else if mv_in v4 3 then (fX10_layBox_55_b141 k24 v1 v2 v3 v4 (h415 68 v4.toNatClampNeg) (h415 69 v4.toNatClampNeg) v4 h415) else none) else none) else none) else none) else none) else none) else none) else none
set_option maxRecDepth 100000 in
set_option maxHeartbeats 4000000 in
theorem BX10_layBox_55_b64 (G : mv_G) (d D : Nat) (hD : d + 0 ≤ D) (P : mv_H → Prop) (k24 : Int32 → Int32 → Int32 → Int32 → mv_H → Option (mv_H)) (hk24 : ∀ (v1 : Int32) (v2 : Int32) (v3 : Int32) (v4 : Int32) (h : mv_H), mv_sat (k24 v1 v2 v3 v4 h) P → mv_MW G mX10_layBox (mv_rm D mX10_layBox) (mv_Zf G mX10_layBox (mv_qv mv_SH P)) 0 0 24 [.ref 55, .int v1, .int v2, .int v3, .int v4] [] mv_SH h) (v1 : Int32) (v2 : Int32) (v3 : Int32) (v4 : Int32) (s0 : Int32) (s1 : Int32) (h : mv_H) (hs : mv_sat (fX10_layBox_55_b64 k24 v1 v2 v3 v4 s0 s1 h) P) : mv_MW G mX10_layBox (mv_rm D mX10_layBox) (mv_Zf G mX10_layBox (mv_qv mv_SH P)) 0 0 64 [.ref 55, .int v1, .int v2, .int v3, .int v4] [.int s0, .int s1, .ref 68] mv_SH h := by
  unfold fX10_layBox_55_b64 at hs
  refine mv_iastore dX10_layBox_64 so_68 hs (fun hs => ?_)
  refine mv_nameH hs (fun h414 hs => ?_)
  refine mv_aload_n dX10_layBox_65 rfl ?_
  refine mv_getr dX10_layBox_66 kf_X10_37 gf_55_23 ?_
  refine mv_iload dX10_layBox_69 rfl ?_
  refine mv_iconst 2 dX10_layBox_71 (by decide) ?_
  refine mv_aload_n dX10_layBox_72 rfl ?_
  refine mv_getr dX10_layBox_73 kf_X10_43 gf_55_25 ?_
  refine mv_iload dX10_layBox_76 rfl ?_
  refine mv_iaload dX10_layBox_78 so_67 hs (fun hs => ?_)
  refine mv_aload_n dX10_layBox_79 rfl ?_
  refine mv_getr dX10_layBox_80 kf_X10_46 gf_55_26 ?_
  refine mv_iload dX10_layBox_83 rfl ?_
  refine mv_iaload dX10_layBox_85 so_68 hs (fun hs => ?_)
  refine mv_iadd dX10_layBox_86 ?_
  refine mv_imul dX10_layBox_87 ?_
  refine mv_aload_n dX10_layBox_88 rfl ?_
  refine mv_geti dX10_layBox_89 kf_X10_92 gf_55_7 ?_
  refine mv_iadd dX10_layBox_92 ?_
  refine mv_iastore dX10_layBox_93 so_65 hs (fun hs => ?_)
  refine mv_nameH hs (fun h415 hs => ?_)
  refine mv_aload_n dX10_layBox_94 rfl ?_
  refine mv_getr dX10_layBox_95 kf_X10_40 gf_55_24 ?_
  refine mv_iload dX10_layBox_98 rfl ?_
  refine mv_aload_n dX10_layBox_100 rfl ?_
  refine mv_getr dX10_layBox_101 kf_X10_49 gf_55_27 ?_
  refine mv_iload dX10_layBox_104 rfl ?_
  refine mv_iaload dX10_layBox_106 so_69 hs (fun hs => ?_)
  refine mv_aload_n dX10_layBox_107 rfl ?_
  refine mv_getr dX10_layBox_108 kf_X10_43 gf_55_25 ?_
  refine mv_iload dX10_layBox_111 rfl ?_
  refine mv_iaload dX10_layBox_113 so_67 hs (fun hs => ?_)
  refine mv_aload_n dX10_layBox_114 rfl ?_
  refine mv_getr dX10_layBox_115 kf_X10_46 gf_55_26 ?_
  refine mv_iload dX10_layBox_118 rfl ?_
  refine mv_iaload dX10_layBox_120 so_68 hs (fun hs => ?_)
  refine mv_icmp_ge dX10_layBox_121 hs (fun _ hs => ?_) (fun _ hs => ?_)
  · refine mv_aload_n dX10_layBox_124 rfl ?_
    refine mv_getr dX10_layBox_125 kf_X10_43 gf_55_25 ?_
    refine mv_iload dX10_layBox_128 rfl ?_
    refine mv_iaload dX10_layBox_130 so_67 hs (fun hs => ?_)
    refine mv_goto dX10_layBox_131 ?_
    exact (BX10_layBox_55_b141 G d D (by omega) P _ hk24 _ _ _ _ _ _ _ _ hs)
  · refine mv_aload_n dX10_layBox_134 rfl ?_
    refine mv_getr dX10_layBox_135 kf_X10_46 gf_55_26 ?_
    refine mv_iload dX10_layBox_138 rfl ?_
    refine mv_iaload dX10_layBox_140 so_68 hs (fun hs => ?_)
    exact (BX10_layBox_55_b141 G d D (by omega) P _ hk24 _ _ _ _ _ _ _ _ hs)
noncomputable def fX10_layBox_55_b46 (k24 : Int32 → Int32 → Int32 → Int32 → mv_H → Option (mv_H)) (v1 : Int32) (v2 : Int32) (v3 : Int32) (v4 : Int32) (s0 : Int32) (s1 : Int32) (h : mv_H) : Option (mv_H) := if mv_in s1 3 then mv_let (mv_u h 67 s1.toNatClampNeg s0) fun h413 : mv_H => (if v4 = 2 then fX10_layBox_55_b64 k24 v1 v2 v3 v4 v2 v4 h413 else fX10_layBox_55_b64 k24 v1 v2 v3 v4 v3 v4 h413) else none
set_option maxRecDepth 100000 in
set_option maxHeartbeats 4000000 in
theorem BX10_layBox_55_b46 (G : mv_G) (d D : Nat) (hD : d + 0 ≤ D) (P : mv_H → Prop) (k24 : Int32 → Int32 → Int32 → Int32 → mv_H → Option (mv_H)) (hk24 : ∀ (v1 : Int32) (v2 : Int32) (v3 : Int32) (v4 : Int32) (h : mv_H), mv_sat (k24 v1 v2 v3 v4 h) P → mv_MW G mX10_layBox (mv_rm D mX10_layBox) (mv_Zf G mX10_layBox (mv_qv mv_SH P)) 0 0 24 [.ref 55, .int v1, .int v2, .int v3, .int v4] [] mv_SH h) (v1 : Int32) (v2 : Int32) (v3 : Int32) (v4 : Int32) (s0 : Int32) (s1 : Int32) (h : mv_H) (hs : mv_sat (fX10_layBox_55_b46 k24 v1 v2 v3 v4 s0 s1 h) P) : mv_MW G mX10_layBox (mv_rm D mX10_layBox) (mv_Zf G mX10_layBox (mv_qv mv_SH P)) 0 0 46 [.ref 55, .int v1, .int v2, .int v3, .int v4] [.int s0, .int s1, .ref 67] mv_SH h := by
  unfold fX10_layBox_55_b46 at hs
  refine mv_iastore dX10_layBox_46 so_67 hs (fun hs => ?_)
  refine mv_nameH hs (fun h413 hs => ?_)
  refine mv_aload_n dX10_layBox_47 rfl ?_
  refine mv_getr dX10_layBox_48 kf_X10_46 gf_55_26 ?_
  refine mv_iload dX10_layBox_51 rfl ?_
  refine mv_iload dX10_layBox_53 rfl ?_
  refine mv_iconst 2 dX10_layBox_55 (by decide) ?_
  refine mv_icmp_ne dX10_layBox_56 hs (fun _ hs => ?_) (fun _ hs => ?_)
  · refine mv_iload_n dX10_layBox_59 rfl ?_
    refine mv_goto dX10_layBox_60 ?_
    exact (BX10_layBox_55_b64 G d D (by omega) P _ hk24 _ _ _ _ _ _ _ hs)
  · refine mv_iload_n dX10_layBox_63 rfl ?_
    exact (BX10_layBox_55_b64 G d D (by omega) P _ hk24 _ _ _ _ _ _ _ hs)
noncomputable def fX10_layBox_55_b24 : Nat → Int32 → Int32 → Int32 → Int32 → mv_H → Option (mv_H)
  | 0, _, _, _, _, _ => none
  | n + 1, v1, v2, v3, v4, h => if v4 < 3 then (if v4 = 0 then fX10_layBox_55_b46 (fX10_layBox_55_b24 n) v1 v2 v3 v4 v2 v4 h else fX10_layBox_55_b46 (fX10_layBox_55_b24 n) v1 v2 v3 v4 v1 v4 h) else some h
set_option maxRecDepth 100000 in
set_option maxHeartbeats 4000000 in
theorem BX10_layBox_55_b24 (G : mv_G) (d D : Nat) (hD : d + 0 ≤ D) (P : mv_H → Prop) : ∀ (n : Nat) (v1 : Int32) (v2 : Int32) (v3 : Int32) (v4 : Int32) (h : mv_H), mv_sat (fX10_layBox_55_b24 n v1 v2 v3 v4 h) P → mv_MW G mX10_layBox (mv_rm D mX10_layBox) (mv_Zf G mX10_layBox (mv_qv mv_SH P)) 0 0 24 [.ref 55, .int v1, .int v2, .int v3, .int v4] [] mv_SH h := by
  intro n
  induction n with
  | zero =>
    intro v1 v2 v3 v4 h hs
    unfold fX10_layBox_55_b24 at hs
    exact (mv_sat_none hs).elim
  | succ n ih =>
    intro v1 v2 v3 v4 h hs
    unfold fX10_layBox_55_b24 at hs
    refine mv_iload dX10_layBox_24 rfl ?_
    refine mv_iconst 3 dX10_layBox_26 (by decide) ?_
    refine mv_icmp_ge dX10_layBox_27 hs (fun _ hs => ?_) (fun _ hs => ?_)
    · refine mv_aload_n dX10_layBox_30 rfl ?_
      refine mv_getr dX10_layBox_31 kf_X10_43 gf_55_25 ?_
      refine mv_iload dX10_layBox_34 rfl ?_
      refine mv_iload dX10_layBox_36 rfl ?_
      refine mv_if_ne dX10_layBox_38 hs (fun _ hs => ?_) (fun _ hs => ?_)
      · refine mv_iload_n dX10_layBox_41 rfl ?_
        refine mv_goto dX10_layBox_42 ?_
        exact (BX10_layBox_55_b46 G d D (by omega) P _ ih _ _ _ _ _ _ _ hs)
      · refine mv_iload_n dX10_layBox_45 rfl ?_
        exact (BX10_layBox_55_b46 G d D (by omega) P _ ih _ _ _ _ _ _ _ hs)
    · exact mv_vret dX10_layBox_156 rfl ⟨_, rfl, rfl, rfl, mv_sat_some hs⟩
noncomputable def fX10_layBox_55 (p0 : Int32) (p1 : Int32) (p2 : Int32) (h : mv_H) : Option (mv_H) := if mv_in 0 3 then mv_let (mv_u h 69 (0 : Int32).toNatClampNeg p0) fun h410 : mv_H => (if mv_in 1 3 then mv_let (mv_u h410 69 (1 : Int32).toNatClampNeg p1) fun h411 : mv_H => (if mv_in 2 3 then mv_let (mv_u h411 69 (2 : Int32).toNatClampNeg p2) fun h412 : mv_H => (fX10_layBox_55_b24 mv_F p0 p1 p2 0 h412) else none) else none) else none
set_option maxRecDepth 100000 in
set_option maxHeartbeats 4000000 in
theorem TX10_layBox_55 (G : mv_G) (d : Nat) (P : mv_H → Prop) (p0 : Int32) (p1 : Int32) (p2 : Int32) (h : mv_H) (hs : mv_sat (fX10_layBox_55 p0 p1 p2 h) P) : mv_met G (d + 0) mX10_layBox [.ref 55, .int p0, .int p1, .int p2] mv_SH h (mv_qv mv_SH P) := by
  unfold fX10_layBox_55 at hs
  obtain ⟨D, hDe⟩ : ∃ D, D = d + 0 := ⟨_, rfl⟩
  rw [← hDe]
  have hD : d + 0 ≤ D := by omega
  refine mv_enter (lv := [.ref 55, .int p0, .int p1, .int p2, .float 0]) 1 (by decide) (by decide +kernel) rfl (Nat.le_of_ble_eq_true rfl) ?_
  refine mv_aload_n dX10_layBox_0 rfl ?_
  refine mv_getr dX10_layBox_1 kf_X10_49 gf_55_27 ?_
  refine mv_iconst 0 dX10_layBox_4 (by decide) ?_
  refine mv_iload_n dX10_layBox_5 rfl ?_
  refine mv_iastore dX10_layBox_6 so_69 hs (fun hs => ?_)
  refine mv_nameH hs (fun h410 hs => ?_)
  refine mv_aload_n dX10_layBox_7 rfl ?_
  refine mv_getr dX10_layBox_8 kf_X10_49 gf_55_27 ?_
  refine mv_iconst 1 dX10_layBox_11 (by decide) ?_
  refine mv_iload_n dX10_layBox_12 rfl ?_
  refine mv_iastore dX10_layBox_13 so_69 hs (fun hs => ?_)
  refine mv_nameH hs (fun h411 hs => ?_)
  refine mv_aload_n dX10_layBox_14 rfl ?_
  refine mv_getr dX10_layBox_15 kf_X10_49 gf_55_27 ?_
  refine mv_iconst 2 dX10_layBox_18 (by decide) ?_
  refine mv_iload_n dX10_layBox_19 rfl ?_
  refine mv_iastore dX10_layBox_20 so_69 hs (fun hs => ?_)
  refine mv_nameH hs (fun h412 hs => ?_)
  refine mv_iconst 0 dX10_layBox_21 (by decide) ?_
  refine mv_istore (lv' := [.ref 55, .int p0, .int p1, .int p2, .int 0]) dX10_layBox_22 (Nat.le_of_ble_eq_true rfl) rfl rfl ?_
  exact (BX10_layBox_55_b24 G d D (by omega) P _ _ _ _ _ _ hs)
noncomputable def fX10_look_55 (p0 : Int32) (h : mv_H) : Option (mv_H) := if mv_in (3 * p0) 18 then (if mv_in ((3 * p0) + 1) 18 then (if mv_in ((3 * p0) + 2) 18 then ((fX10_layBox_55 (h 56 (3 * p0).toNatClampNeg) (h 56 ((3 * p0) + 1).toNatClampNeg) (h 56 ((3 * p0) + 2).toNatClampNeg) h).bind fun r417 => some r417) else none) else none) else none
set_option maxRecDepth 100000 in
set_option maxHeartbeats 4000000 in
theorem TX10_look_55 (G : mv_G) (d : Nat) (P : mv_H → Prop) (p0 : Int32) (h : mv_H) (hs : mv_sat (fX10_look_55 p0 h) P) : mv_met G (d + 1) mX10_look [.ref 55, .int p0] mv_SH h (mv_qv mv_SH P) := by
  unfold fX10_look_55 at hs
  obtain ⟨D, hDe⟩ : ∃ D, D = d + 1 := ⟨_, rfl⟩
  rw [← hDe]
  have hD : d + 1 ≤ D := by omega
  refine mv_enter (lv := [.ref 55, .int p0]) 0 (by decide) (by decide +kernel) rfl (Nat.le_of_ble_eq_true rfl) ?_
  refine mv_aload_n dX10_look_0 rfl ?_
  refine mv_aload_n dX10_look_1 rfl ?_
  refine mv_getr dX10_look_2 kf_X10_7 gf_55_3 ?_
  refine mv_iconst 3 dX10_look_5 (by decide) ?_
  refine mv_iload_n dX10_look_6 rfl ?_
  refine mv_imul dX10_look_7 ?_
  refine mv_iaload dX10_look_8 so_56 hs (fun hs => ?_)
  refine mv_aload_n dX10_look_9 rfl ?_
  refine mv_getr dX10_look_10 kf_X10_7 gf_55_3 ?_
  refine mv_iconst 3 dX10_look_13 (by decide) ?_
  refine mv_iload_n dX10_look_14 rfl ?_
  refine mv_imul dX10_look_15 ?_
  refine mv_iconst 1 dX10_look_16 (by decide) ?_
  refine mv_iadd dX10_look_17 ?_
  refine mv_iaload dX10_look_18 so_56 hs (fun hs => ?_)
  refine mv_aload_n dX10_look_19 rfl ?_
  refine mv_getr dX10_look_20 kf_X10_7 gf_55_3 ?_
  refine mv_iconst 3 dX10_look_23 (by decide) ?_
  refine mv_iload_n dX10_look_24 rfl ?_
  refine mv_imul dX10_look_25 ?_
  refine mv_iconst 2 dX10_look_26 (by decide) ?_
  refine mv_iadd dX10_look_27 ?_
  refine mv_iaload dX10_look_28 so_56 hs (fun hs => ?_)
  refine mv_cV (st := []) dX10_look_29 kk_X10_200 (TX10_layBox_55 G d _ _ _ _ _ (mv_sat_bind hs)) so_55 vc_10 rfl rfl (Nat.le_of_ble_eq_true rfl) (by omega) rfl ⟨Nat.zero_le _, Nat.zero_le _⟩ (mv_kv fun r417 hs => ?_)
  exact mv_vret dX10_look_32 rfl ⟨_, rfl, rfl, rfl, mv_sat_some hs⟩
noncomputable def fX10_paper_55 (p0 : Int32) (h : mv_H) : Option (Int32) := if mv_in p0 3 then (if mv_in p0 3 then (some ((h 65 p0.toNatClampNeg) * (h 66 p0.toNatClampNeg))) else none) else none
set_option maxRecDepth 100000 in
set_option maxHeartbeats 4000000 in
theorem TX10_paper_55 (G : mv_G) (d : Nat) (P : Int32 → Prop) (p0 : Int32) (h : mv_H) (hs : mv_sat (fX10_paper_55 p0 h) P) : mv_met G (d + 0) mX10_paper [.ref 55, .int p0] mv_SH h (mv_qi mv_SH h P) := by
  unfold fX10_paper_55 at hs
  obtain ⟨D, hDe⟩ : ∃ D, D = d + 0 := ⟨_, rfl⟩
  rw [← hDe]
  have hD : d + 0 ≤ D := by omega
  refine mv_enter (lv := [.ref 55, .int p0]) 0 (by decide) (by decide +kernel) rfl (Nat.le_of_ble_eq_true rfl) ?_
  refine mv_aload_n dX10_paper_0 rfl ?_
  refine mv_getr dX10_paper_1 kf_X10_37 gf_55_23 ?_
  refine mv_iload_n dX10_paper_4 rfl ?_
  refine mv_iaload dX10_paper_5 so_65 hs (fun hs => ?_)
  refine mv_aload_n dX10_paper_6 rfl ?_
  refine mv_getr dX10_paper_7 kf_X10_40 gf_55_24 ?_
  refine mv_iload_n dX10_paper_10 rfl ?_
  refine mv_iaload dX10_paper_11 so_66 hs (fun hs => ?_)
  refine mv_imul dX10_paper_12 ?_
  exact mv_iret dX10_paper_13 rfl ⟨_, rfl, rfl, rfl, mv_sat_some hs⟩
noncomputable def fX10_need_55 (p0 : Int32) (p1 : Int32) (p2 : Int32) (h : mv_H) : Option (Int32 × mv_H) := (fX10_isBox_55 p0 h).bind fun r406 => if r406 = 0 then some ((-1), h) else (fX10_isAxis p1).bind fun r408 => if r408 = 0 then some ((-1), h) else (fX10_in (Int32.toInt64 p2) (0 : Int64) (2 : Int64)).bind fun r409 => if r409 = 0 then some ((-2), h) else (fX10_look_55 p0 h).bind fun r418 => if p2 = 0 then (if mv_in p1 3 then (some (r418 65 p1.toNatClampNeg, r418)) else none) else if p2 = 1 then (if mv_in p1 3 then (some (r418 66 p1.toNatClampNeg, r418)) else none) else (fX10_paper_55 p1 r418).bind fun r419 => some (r419, r418)
set_option maxRecDepth 100000 in
set_option maxHeartbeats 4000000 in
theorem TX10_need_55 (G : mv_G) (d : Nat) (P : Int32 × mv_H → Prop) (p0 : Int32) (p1 : Int32) (p2 : Int32) (h : mv_H) (hs : mv_sat (fX10_need_55 p0 p1 p2 h) P) : mv_met G (d + 3) mX10_need [.ref 55, .int p0, .int p1, .int p2] mv_SH h (mv_qI mv_SH P) := by
  unfold fX10_need_55 at hs
  obtain ⟨D, hDe⟩ : ∃ D, D = d + 3 := ⟨_, rfl⟩
  rw [← hDe]
  have hD : d + 3 ≤ D := by omega
  refine mv_enter (lv := [.ref 55, .int p0, .int p1, .int p2]) 0 (by decide) (by decide +kernel) rfl (Nat.le_of_ble_eq_true rfl) ?_
  refine mv_aload_n dX10_need_0 rfl ?_
  refine mv_iload_n dX10_need_1 rfl ?_
  refine mv_cV (st := []) dX10_need_2 kk_X10_146 (TX10_isBox_55 G d _ _ _ (mv_sat_bind hs)) so_55 vc_10 rfl rfl (Nat.le_of_ble_eq_true rfl) (by omega) rfl ⟨Nat.zero_le _, Nat.zero_le _⟩ (mv_ki fun r406 hs => ?_)
  refine mv_if_eq dX10_need_5 hs (fun _ hs => ?_) (fun _ hs => ?_)
  · refine mv_iconst (-1) dX10_need_15 (by decide) ?_
    exact mv_iret dX10_need_16 rfl ⟨((-1), h), rfl, rfl, rfl, mv_sat_some hs⟩
  · refine mv_iload_n dX10_need_8 rfl ?_
    refine mv_cS (st := []) dX10_need_9 kk_X10_206 (TX10_isAxis G d _ _ _ (mv_sat_bind hs)) rfl rfl (Nat.le_of_ble_eq_true rfl) (by omega) rfl ⟨Nat.zero_le _, Nat.zero_le _⟩ (mv_ki fun r408 hs => ?_)
    refine mv_if_ne dX10_need_12 hs (fun _ hs => ?_) (fun _ hs => ?_)
    · refine mv_iconst (-1) dX10_need_15 (by decide) ?_
      exact mv_iret dX10_need_16 rfl ⟨((-1), h), rfl, rfl, rfl, mv_sat_some hs⟩
    · refine mv_iload_n dX10_need_17 rfl ?_
      refine mv_i2l dX10_need_18 ?_
      refine mv_lconst 0 dX10_need_19 rfl ?_
      refine mv_ldc2 dX10_need_20 kn_X10_144 ?_
      refine mv_cS (st := []) dX10_need_23 kk_X10_104 (TX10_in G d _ _ _ _ _ (mv_sat_bind hs)) rfl rfl (Nat.le_of_ble_eq_true rfl) (by omega) rfl ⟨Nat.zero_le _, Nat.zero_le _⟩ (mv_ki fun r409 hs => ?_)
      refine mv_if_ne dX10_need_26 hs (fun _ hs => ?_) (fun _ hs => ?_)
      · refine mv_bipush (-2) dX10_need_29 (by decide) ?_
        exact mv_iret dX10_need_31 rfl ⟨((-2), h), rfl, rfl, rfl, mv_sat_some hs⟩
      · refine mv_aload_n dX10_need_32 rfl ?_
        refine mv_iload_n dX10_need_33 rfl ?_
        refine mv_cV (st := []) dX10_need_34 kk_X10_209 (TX10_look_55 G d _ _ _ (mv_sat_bind hs)) so_55 vc_10 rfl rfl (Nat.le_of_ble_eq_true rfl) (by omega) rfl ⟨Nat.zero_le _, Nat.zero_le _⟩ (mv_kv fun r418 hs => ?_)
        refine mv_iload_n dX10_need_37 rfl ?_
        refine mv_if_ne dX10_need_38 hs (fun _ hs => ?_) (fun _ hs => ?_)
        · refine mv_aload_n dX10_need_41 rfl ?_
          refine mv_getr dX10_need_42 kf_X10_37 gf_55_23 ?_
          refine mv_iload_n dX10_need_45 rfl ?_
          refine mv_iaload dX10_need_46 so_65 hs (fun hs => ?_)
          refine mv_goto dX10_need_47 ?_
          exact mv_iret dX10_need_69 rfl ⟨(r418 65 p1.toNatClampNeg, r418), rfl, rfl, rfl, mv_sat_some hs⟩
        · refine mv_iload_n dX10_need_50 rfl ?_
          refine mv_iconst 1 dX10_need_51 (by decide) ?_
          refine mv_icmp_ne dX10_need_52 hs (fun _ hs => ?_) (fun _ hs => ?_)
          · refine mv_aload_n dX10_need_55 rfl ?_
            refine mv_getr dX10_need_56 kf_X10_40 gf_55_24 ?_
            refine mv_iload_n dX10_need_59 rfl ?_
            refine mv_iaload dX10_need_60 so_66 hs (fun hs => ?_)
            refine mv_goto dX10_need_61 ?_
            exact mv_iret dX10_need_69 rfl ⟨(r418 66 p1.toNatClampNeg, r418), rfl, rfl, rfl, mv_sat_some hs⟩
          · refine mv_aload_n dX10_need_64 rfl ?_
            refine mv_iload_n dX10_need_65 rfl ?_
            refine mv_cV (st := []) dX10_need_66 kk_X10_203 (TX10_paper_55 G d _ _ _ (mv_sat_bind hs)) so_55 vc_10 rfl rfl (Nat.le_of_ble_eq_true rfl) (by omega) rfl ⟨Nat.zero_le _, Nat.zero_le _⟩ (mv_ki fun r419 hs => ?_)
            exact mv_iret dX10_need_69 rfl ⟨(r419, r418), rfl, rfl, rfl, mv_sat_some hs⟩
noncomputable def fX8_leastAxis_38_b24 (k4 : Int32 → Int32 → mv_H → Option (Int32)) (v1 : Int32) (v2 : Int32) (h : mv_H) : Option (Int32) := k4 v1 (v2 + 1) h
set_option maxRecDepth 100000 in
set_option maxHeartbeats 4000000 in
theorem BX8_leastAxis_38_b24 (G : mv_G) (d D : Nat) (hD : d + 0 ≤ D) (P : Int32 → Prop) (k4 : Int32 → Int32 → mv_H → Option (Int32)) (h : mv_H) (hk4 : ∀ (v1 : Int32) (v2 : Int32), mv_sat (k4 v1 v2 h) P → mv_MW G mX8_leastAxis (mv_rm D mX8_leastAxis) (mv_Zf G mX8_leastAxis (mv_qi mv_SH h P)) 0 0 4 [.ref 38, .int v1, .int v2] [] mv_SH h) (v1 : Int32) (v2 : Int32) (hs : mv_sat (fX8_leastAxis_38_b24 k4 v1 v2 h) P) : mv_MW G mX8_leastAxis (mv_rm D mX8_leastAxis) (mv_Zf G mX8_leastAxis (mv_qi mv_SH h P)) 0 0 24 [.ref 38, .int v1, .int v2] [] mv_SH h := by
  unfold fX8_leastAxis_38_b24 at hs
  refine mv_iinc (lv' := [.ref 38, .int v1, .int (v2 + 1)]) 1 dX8_leastAxis_24 rfl (by decide) (Nat.le_of_ble_eq_true rfl) rfl rfl ?_
  refine mv_goto dX8_leastAxis_27 ?_
  exact (hk4 _ _ hs)
noncomputable def fX8_leastAxis_38_b4 : Nat → Int32 → Int32 → mv_H → Option (Int32)
  | 0, _, _, _ => none
  | n + 1, v1, v2, h => if v2 < 3 then ((fX8_paper_38 v2 h).bind fun r424 => (fX8_paper_38 v1 h).bind fun r425 => if r424 < r425 then fX8_leastAxis_38_b24 (fX8_leastAxis_38_b4 n) v2 v2 h else fX8_leastAxis_38_b24 (fX8_leastAxis_38_b4 n) v1 v2 h) else some v1
set_option maxRecDepth 100000 in
set_option maxHeartbeats 4000000 in
theorem BX8_leastAxis_38_b4 (G : mv_G) (d D : Nat) (hD : d + 3 ≤ D) (P : Int32 → Prop) (h : mv_H) : ∀ (n : Nat) (v1 : Int32) (v2 : Int32), mv_sat (fX8_leastAxis_38_b4 n v1 v2 h) P → mv_MW G mX8_leastAxis (mv_rm D mX8_leastAxis) (mv_Zf G mX8_leastAxis (mv_qi mv_SH h P)) 0 0 4 [.ref 38, .int v1, .int v2] [] mv_SH h := by
  intro n
  induction n with
  | zero =>
    intro v1 v2 hs
    unfold fX8_leastAxis_38_b4 at hs
    exact (mv_sat_none hs).elim
  | succ n ih =>
    intro v1 v2 hs
    unfold fX8_leastAxis_38_b4 at hs
    refine mv_iload_n dX8_leastAxis_4 rfl ?_
    refine mv_iconst 3 dX8_leastAxis_5 (by decide) ?_
    refine mv_icmp_ge dX8_leastAxis_6 hs (fun _ hs => ?_) (fun _ hs => ?_)
    · refine mv_aload_n dX8_leastAxis_9 rfl ?_
      refine mv_iload_n dX8_leastAxis_10 rfl ?_
      refine mv_cV (st := []) dX8_leastAxis_11 kk_X8_49 (TX8_paper_38 G d _ _ _ (mv_sat_bind hs)) so_38 vc_8 rfl rfl (Nat.le_of_ble_eq_true rfl) (by omega) rfl ⟨Nat.zero_le _, Nat.zero_le _⟩ (mv_ki fun r424 hs => ?_)
      refine mv_aload_n dX8_leastAxis_14 rfl ?_
      refine mv_iload_n dX8_leastAxis_15 rfl ?_
      refine mv_cV (st := [.int r424]) dX8_leastAxis_16 kk_X8_49 (TX8_paper_38 G d _ _ _ (mv_sat_bind hs)) so_38 vc_8 rfl rfl (Nat.le_of_ble_eq_true rfl) (by omega) rfl ⟨Nat.zero_le _, Nat.zero_le _⟩ (mv_ki fun r425 hs => ?_)
      refine mv_icmp_ge dX8_leastAxis_19 hs (fun _ hs => ?_) (fun _ hs => ?_)
      · refine mv_iload_n dX8_leastAxis_22 rfl ?_
        refine mv_istore_n (lv' := [.ref 38, .int v2, .int v2]) dX8_leastAxis_23 (Nat.le_of_ble_eq_true rfl) rfl rfl ?_
        exact (BX8_leastAxis_38_b24 G d D (by omega) P _ _ ih _ _ hs)
      · exact (BX8_leastAxis_38_b24 G d D (by omega) P _ _ ih _ _ hs)
    · refine mv_iload_n dX8_leastAxis_30 rfl ?_
      exact mv_iret dX8_leastAxis_31 rfl ⟨_, rfl, rfl, rfl, mv_sat_some hs⟩
noncomputable def fX8_leastAxis_38 (h : mv_H) : Option (Int32) := fX8_leastAxis_38_b4 mv_F 0 1 h
set_option maxRecDepth 100000 in
set_option maxHeartbeats 4000000 in
theorem TX8_leastAxis_38 (G : mv_G) (d : Nat) (P : Int32 → Prop) (h : mv_H) (hs : mv_sat (fX8_leastAxis_38 h) P) : mv_met G (d + 3) mX8_leastAxis [.ref 38] mv_SH h (mv_qi mv_SH h P) := by
  unfold fX8_leastAxis_38 at hs
  obtain ⟨D, hDe⟩ : ∃ D, D = d + 3 := ⟨_, rfl⟩
  rw [← hDe]
  have hD : d + 3 ≤ D := by omega
  refine mv_enter (lv := [.ref 38, .float 0, .float 0]) 2 (by decide) (by decide +kernel) rfl (Nat.le_of_ble_eq_true rfl) ?_
  refine mv_iconst 0 dX8_leastAxis_0 (by decide) ?_
  refine mv_istore_n (lv' := [.ref 38, .int 0, .float 0]) dX8_leastAxis_1 (Nat.le_of_ble_eq_true rfl) rfl rfl ?_
  refine mv_iconst 1 dX8_leastAxis_2 (by decide) ?_
  refine mv_istore_n (lv' := [.ref 38, .int 0, .int 1]) dX8_leastAxis_3 (Nat.le_of_ble_eq_true rfl) rfl rfl ?_
  exact (BX8_leastAxis_38_b4 G d D (by omega) P _ _ _ _ hs)
noncomputable def fX8_leastPaper_38 (h : mv_H) : Option (Int32) := (fX8_leastAxis_38 h).bind fun r427 => (fX8_paper_38 r427 h).bind fun r428 => some r428
set_option maxRecDepth 100000 in
set_option maxHeartbeats 4000000 in
theorem TX8_leastPaper_38 (G : mv_G) (d : Nat) (P : Int32 → Prop) (h : mv_H) (hs : mv_sat (fX8_leastPaper_38 h) P) : mv_met G (d + 4) mX8_leastPaper [.ref 38] mv_SH h (mv_qi mv_SH h P) := by
  unfold fX8_leastPaper_38 at hs
  obtain ⟨D, hDe⟩ : ∃ D, D = d + 4 := ⟨_, rfl⟩
  rw [← hDe]
  have hD : d + 4 ≤ D := by omega
  refine mv_enter (lv := [.ref 38]) 0 (by decide) (by decide +kernel) rfl (Nat.le_of_ble_eq_true rfl) ?_
  refine mv_aload_n dX8_leastPaper_0 rfl ?_
  refine mv_aload_n dX8_leastPaper_1 rfl ?_
  refine mv_cV (st := [.ref 38]) dX8_leastPaper_2 kk_X8_52 (TX8_leastAxis_38 G d _ _ (mv_sat_bind hs)) so_38 vc_8 rfl rfl (Nat.le_of_ble_eq_true rfl) (by omega) rfl ⟨Nat.zero_le _, Nat.zero_le _⟩ (mv_ki fun r427 hs => ?_)
  refine mv_cV (st := []) dX8_leastPaper_5 kk_X8_49 (TX8_paper_38 G d _ _ _ (mv_sat_bind hs)) so_38 vc_8 rfl rfl (Nat.le_of_ble_eq_true rfl) (by omega) rfl ⟨Nat.zero_le _, Nat.zero_le _⟩ (mv_ki fun r428 hs => ?_)
  exact mv_iret dX8_leastPaper_8 rfl ⟨_, rfl, rfl, rfl, mv_sat_some hs⟩
noncomputable def fX9_least_0 (p0 : Int32) (p1 : Int32) (h : mv_H) : Option (Int32 × mv_H) := (fX7_has_2 p0 h).bind fun r421 => if r421 = 0 then some ((-1), h) else (fX9_isWithin p1 (0 : Int32) (1 : Int32)).bind fun r422 => if r422 = 0 then some ((-2), h) else (fX9_wrapOf_0 p0 h).bind fun r423 => if p1 = 0 then ((fX8_leastAxis_38 r423).bind fun r426 => some (r426, r423)) else (fX8_leastPaper_38 r423).bind fun r429 => some (r429, r423)
set_option maxRecDepth 100000 in
set_option maxHeartbeats 4000000 in
theorem TX9_least_0 (G : mv_G) (d : Nat) (P : Int32 × mv_H → Prop) (p0 : Int32) (p1 : Int32) (h : mv_H) (hs : mv_sat (fX9_least_0 p0 p1 h) P) : mv_met G (d + 5) mX9_least [.ref 0, .int p0, .int p1] mv_SH h (mv_qI mv_SH P) := by
  unfold fX9_least_0 at hs
  obtain ⟨D, hDe⟩ : ∃ D, D = d + 5 := ⟨_, rfl⟩
  rw [← hDe]
  have hD : d + 5 ≤ D := by omega
  refine mv_enter (lv := [.ref 0, .int p0, .int p1, .float 0]) 1 (by decide) (by decide +kernel) rfl (Nat.le_of_ble_eq_true rfl) ?_
  refine mv_aload_n dX9_least_0 rfl ?_
  refine mv_getr dX9_least_1 kf_X9_10 gf_0_0 ?_
  refine mv_getr dX9_least_4 kf_X9_64 gf_1_0 ?_
  refine mv_iload_n dX9_least_7 rfl ?_
  refine mv_cV (st := []) dX9_least_8 kk_X9_100 (TX7_has_2 G d _ _ _ (mv_sat_bind hs)) so_2 vc_7 rfl rfl (Nat.le_of_ble_eq_true rfl) (by omega) rfl ⟨Nat.zero_le _, Nat.zero_le _⟩ (mv_ki fun r421 hs => ?_)
  refine mv_if_ne dX9_least_11 hs (fun _ hs => ?_) (fun _ hs => ?_)
  · refine mv_iconst (-1) dX9_least_14 (by decide) ?_
    exact mv_iret dX9_least_15 rfl ⟨((-1), h), rfl, rfl, rfl, mv_sat_some hs⟩
  · refine mv_iload_n dX9_least_16 rfl ?_
    refine mv_iconst 0 dX9_least_17 (by decide) ?_
    refine mv_iconst 1 dX9_least_18 (by decide) ?_
    refine mv_cS (st := []) dX9_least_19 kk_X9_79 (TX9_isWithin G d _ _ _ _ _ (mv_sat_bind hs)) rfl rfl (Nat.le_of_ble_eq_true rfl) (by omega) rfl ⟨Nat.zero_le _, Nat.zero_le _⟩ (mv_ki fun r422 hs => ?_)
    refine mv_if_ne dX9_least_22 hs (fun _ hs => ?_) (fun _ hs => ?_)
    · refine mv_bipush (-2) dX9_least_25 (by decide) ?_
      exact mv_iret dX9_least_27 rfl ⟨((-2), h), rfl, rfl, rfl, mv_sat_some hs⟩
    · refine mv_aload_n dX9_least_28 rfl ?_
      refine mv_iload_n dX9_least_29 rfl ?_
      refine mv_cV (st := []) dX9_least_30 kk_X9_144 (TX9_wrapOf_0 G d _ _ _ (mv_sat_bind hs)) so_0 vc_9 rfl rfl (Nat.le_of_ble_eq_true rfl) (by omega) rfl ⟨Nat.zero_le _, Nat.zero_le _⟩ (mv_kc fun r423 hs => ?_)
      refine mv_astore_n (lv' := [.ref 0, .int p0, .int p1, .ref 38]) dX9_least_33 (Nat.le_of_ble_eq_true rfl) rfl rfl ?_
      refine mv_iload_n dX9_least_34 rfl ?_
      refine mv_if_ne dX9_least_35 hs (fun _ hs => ?_) (fun _ hs => ?_)
      · refine mv_aload_n dX9_least_38 rfl ?_
        refine mv_cV (st := []) dX9_least_39 kk_X9_157 (TX8_leastAxis_38 G d _ _ (mv_sat_bind hs)) so_38 vc_8 rfl rfl (Nat.le_of_ble_eq_true rfl) (by omega) rfl ⟨Nat.zero_le _, Nat.zero_le _⟩ (mv_ki fun r426 hs => ?_)
        refine mv_goto dX9_least_42 ?_
        exact mv_iret dX9_least_49 rfl ⟨(r426, r423), rfl, rfl, rfl, mv_sat_some hs⟩
      · refine mv_aload_n dX9_least_45 rfl ?_
        refine mv_cV (st := []) dX9_least_46 kk_X9_160 (TX8_leastPaper_38 G d _ _ (mv_sat_bind hs)) so_38 vc_8 rfl rfl (Nat.le_of_ble_eq_true rfl) (by omega) rfl ⟨Nat.zero_le _, Nat.zero_le _⟩ (mv_ki fun r429 hs => ?_)
        exact mv_iret dX9_least_49 rfl ⟨(r429, r423), rfl, rfl, rfl, mv_sat_some hs⟩
noncomputable def fX10_leastAxis_55_b18 (s0 : Int32) (h : mv_H) : Option (Int32) := (fX10_paper_55 (2 : Int32) h).bind fun r436 => (fX10_paper_55 s0 h).bind fun r437 => if r436 < r437 then some 2 else some s0
set_option maxRecDepth 100000 in
set_option maxHeartbeats 4000000 in
theorem BX10_leastAxis_55_b18 (G : mv_G) (d D : Nat) (hD : d + 1 ≤ D) (P : Int32 → Prop) (h : mv_H) (s0 : Int32) (hs : mv_sat (fX10_leastAxis_55_b18 s0 h) P) : mv_MW G mX10_leastAxis (mv_rm D mX10_leastAxis) (mv_Zf G mX10_leastAxis (mv_qi mv_SH h P)) 0 0 18 [.ref 55, .float 0] [.int s0] mv_SH h := by
  unfold fX10_leastAxis_55_b18 at hs
  refine mv_istore_n (lv' := [.ref 55, .int s0]) dX10_leastAxis_18 (Nat.le_of_ble_eq_true rfl) rfl rfl ?_
  refine mv_aload_n dX10_leastAxis_19 rfl ?_
  refine mv_iconst 2 dX10_leastAxis_20 (by decide) ?_
  refine mv_cV (st := []) dX10_leastAxis_21 kk_X10_203 (TX10_paper_55 G d _ _ _ (mv_sat_bind hs)) so_55 vc_10 rfl rfl (Nat.le_of_ble_eq_true rfl) (by omega) rfl ⟨Nat.zero_le _, Nat.zero_le _⟩ (mv_ki fun r436 hs => ?_)
  refine mv_aload_n dX10_leastAxis_24 rfl ?_
  refine mv_iload_n dX10_leastAxis_25 rfl ?_
  refine mv_cV (st := [.int r436]) dX10_leastAxis_26 kk_X10_203 (TX10_paper_55 G d _ _ _ (mv_sat_bind hs)) so_55 vc_10 rfl rfl (Nat.le_of_ble_eq_true rfl) (by omega) rfl ⟨Nat.zero_le _, Nat.zero_le _⟩ (mv_ki fun r437 hs => ?_)
  refine mv_icmp_ge dX10_leastAxis_29 hs (fun _ hs => ?_) (fun _ hs => ?_)
  · refine mv_iconst 2 dX10_leastAxis_32 (by decide) ?_
    refine mv_goto dX10_leastAxis_33 ?_
    exact mv_iret dX10_leastAxis_37 rfl ⟨_, rfl, rfl, rfl, mv_sat_some hs⟩
  · refine mv_iload_n dX10_leastAxis_36 rfl ?_
    exact mv_iret dX10_leastAxis_37 rfl ⟨_, rfl, rfl, rfl, mv_sat_some hs⟩
noncomputable def fX10_leastAxis_55 (h : mv_H) : Option (Int32) := (fX10_paper_55 (1 : Int32) h).bind fun r434 => (fX10_paper_55 (0 : Int32) h).bind fun r435 => if r434 < r435 then fX10_leastAxis_55_b18 1 h else fX10_leastAxis_55_b18 0 h
set_option maxRecDepth 100000 in
set_option maxHeartbeats 4000000 in
theorem TX10_leastAxis_55 (G : mv_G) (d : Nat) (P : Int32 → Prop) (h : mv_H) (hs : mv_sat (fX10_leastAxis_55 h) P) : mv_met G (d + 1) mX10_leastAxis [.ref 55] mv_SH h (mv_qi mv_SH h P) := by
  unfold fX10_leastAxis_55 at hs
  obtain ⟨D, hDe⟩ : ∃ D, D = d + 1 := ⟨_, rfl⟩
  rw [← hDe]
  have hD : d + 1 ≤ D := by omega
  refine mv_enter (lv := [.ref 55, .float 0]) 1 (by decide) (by decide +kernel) rfl (Nat.le_of_ble_eq_true rfl) ?_
  refine mv_aload_n dX10_leastAxis_0 rfl ?_
  refine mv_iconst 1 dX10_leastAxis_1 (by decide) ?_
  refine mv_cV (st := []) dX10_leastAxis_2 kk_X10_203 (TX10_paper_55 G d _ _ _ (mv_sat_bind hs)) so_55 vc_10 rfl rfl (Nat.le_of_ble_eq_true rfl) (by omega) rfl ⟨Nat.zero_le _, Nat.zero_le _⟩ (mv_ki fun r434 hs => ?_)
  refine mv_aload_n dX10_leastAxis_5 rfl ?_
  refine mv_iconst 0 dX10_leastAxis_6 (by decide) ?_
  refine mv_cV (st := [.int r434]) dX10_leastAxis_7 kk_X10_203 (TX10_paper_55 G d _ _ _ (mv_sat_bind hs)) so_55 vc_10 rfl rfl (Nat.le_of_ble_eq_true rfl) (by omega) rfl ⟨Nat.zero_le _, Nat.zero_le _⟩ (mv_ki fun r435 hs => ?_)
  refine mv_icmp_ge dX10_leastAxis_10 hs (fun _ hs => ?_) (fun _ hs => ?_)
  · refine mv_iconst 1 dX10_leastAxis_13 (by decide) ?_
    refine mv_goto dX10_leastAxis_14 ?_
    exact (BX10_leastAxis_55_b18 G d D (by omega) P _ _ hs)
  · refine mv_iconst 0 dX10_leastAxis_17 (by decide) ?_
    exact (BX10_leastAxis_55_b18 G d D (by omega) P _ _ hs)
noncomputable def fX10_least_55 (p0 : Int32) (p1 : Int32) (h : mv_H) : Option (Int32 × mv_H) := (fX10_isBox_55 p0 h).bind fun r431 => if r431 = 0 then some ((-1), h) else (fX10_in (Int32.toInt64 p1) (0 : Int64) (1 : Int64)).bind fun r432 => if r432 = 0 then some ((-2), h) else (fX10_look_55 p0 h).bind fun r433 => if p1 = 0 then ((fX10_leastAxis_55 r433).bind fun r438 => some (r438, r433)) else (fX10_leastAxis_55 r433).bind fun r439 => (fX10_paper_55 r439 r433).bind fun r440 => some (r440, r433)
set_option maxRecDepth 100000 in
set_option maxHeartbeats 4000000 in
theorem TX10_least_55 (G : mv_G) (d : Nat) (P : Int32 × mv_H → Prop) (p0 : Int32) (p1 : Int32) (h : mv_H) (hs : mv_sat (fX10_least_55 p0 p1 h) P) : mv_met G (d + 3) mX10_least [.ref 55, .int p0, .int p1] mv_SH h (mv_qI mv_SH P) := by
  unfold fX10_least_55 at hs
  obtain ⟨D, hDe⟩ : ∃ D, D = d + 3 := ⟨_, rfl⟩
  rw [← hDe]
  have hD : d + 3 ≤ D := by omega
  refine mv_enter (lv := [.ref 55, .int p0, .int p1]) 0 (by decide) (by decide +kernel) rfl (Nat.le_of_ble_eq_true rfl) ?_
  refine mv_aload_n dX10_least_0 rfl ?_
  refine mv_iload_n dX10_least_1 rfl ?_
  refine mv_cV (st := []) dX10_least_2 kk_X10_146 (TX10_isBox_55 G d _ _ _ (mv_sat_bind hs)) so_55 vc_10 rfl rfl (Nat.le_of_ble_eq_true rfl) (by omega) rfl ⟨Nat.zero_le _, Nat.zero_le _⟩ (mv_ki fun r431 hs => ?_)
  refine mv_if_ne dX10_least_5 hs (fun _ hs => ?_) (fun _ hs => ?_)
  · refine mv_iconst (-1) dX10_least_8 (by decide) ?_
    exact mv_iret dX10_least_9 rfl ⟨((-1), h), rfl, rfl, rfl, mv_sat_some hs⟩
  · refine mv_iload_n dX10_least_10 rfl ?_
    refine mv_i2l dX10_least_11 ?_
    refine mv_lconst 0 dX10_least_12 rfl ?_
    refine mv_lconst 1 dX10_least_13 rfl ?_
    refine mv_cS (st := []) dX10_least_14 kk_X10_104 (TX10_in G d _ _ _ _ _ (mv_sat_bind hs)) rfl rfl (Nat.le_of_ble_eq_true rfl) (by omega) rfl ⟨Nat.zero_le _, Nat.zero_le _⟩ (mv_ki fun r432 hs => ?_)
    refine mv_if_ne dX10_least_17 hs (fun _ hs => ?_) (fun _ hs => ?_)
    · refine mv_bipush (-2) dX10_least_20 (by decide) ?_
      exact mv_iret dX10_least_22 rfl ⟨((-2), h), rfl, rfl, rfl, mv_sat_some hs⟩
    · refine mv_aload_n dX10_least_23 rfl ?_
      refine mv_iload_n dX10_least_24 rfl ?_
      refine mv_cV (st := []) dX10_least_25 kk_X10_209 (TX10_look_55 G d _ _ _ (mv_sat_bind hs)) so_55 vc_10 rfl rfl (Nat.le_of_ble_eq_true rfl) (by omega) rfl ⟨Nat.zero_le _, Nat.zero_le _⟩ (mv_kv fun r433 hs => ?_)
      refine mv_iload_n dX10_least_28 rfl ?_
      refine mv_if_ne dX10_least_29 hs (fun _ hs => ?_) (fun _ hs => ?_)
      · refine mv_aload_n dX10_least_32 rfl ?_
        refine mv_cV (st := []) dX10_least_33 kk_X10_213 (TX10_leastAxis_55 G d _ _ (mv_sat_bind hs)) so_55 vc_10 rfl rfl (Nat.le_of_ble_eq_true rfl) (by omega) rfl ⟨Nat.zero_le _, Nat.zero_le _⟩ (mv_ki fun r438 hs => ?_)
        refine mv_goto dX10_least_36 ?_
        exact mv_iret dX10_least_47 rfl ⟨(r438, r433), rfl, rfl, rfl, mv_sat_some hs⟩
      · refine mv_aload_n dX10_least_39 rfl ?_
        refine mv_aload_n dX10_least_40 rfl ?_
        refine mv_cV (st := [.ref 55]) dX10_least_41 kk_X10_213 (TX10_leastAxis_55 G d _ _ (mv_sat_bind hs)) so_55 vc_10 rfl rfl (Nat.le_of_ble_eq_true rfl) (by omega) rfl ⟨Nat.zero_le _, Nat.zero_le _⟩ (mv_ki fun r439 hs => ?_)
        refine mv_cV (st := []) dX10_least_44 kk_X10_203 (TX10_paper_55 G d _ _ _ (mv_sat_bind hs)) so_55 vc_10 rfl rfl (Nat.le_of_ble_eq_true rfl) (by omega) rfl ⟨Nat.zero_le _, Nat.zero_le _⟩ (mv_ki fun r440 hs => ?_)
        exact mv_iret dX10_least_47 rfl ⟨(r440, r433), rfl, rfl, rfl, mv_sat_some hs⟩
noncomputable def fX7_side_6 (p0 : Int32) (p1 : Int32) (h : mv_H) : Option (Int32) := if p0 < 0 then some 0 else if p0 < 6 then (if p1 < 0 then some 0 else if p1 < 3 then (if mv_in ((p0 * 3) + p1) 18 then (some (h 7 ((p0 * 3) + p1).toNatClampNeg)) else none) else some 0) else some 0
set_option maxRecDepth 100000 in
set_option maxHeartbeats 4000000 in
theorem TX7_side_6 (G : mv_G) (d : Nat) (P : Int32 → Prop) (p0 : Int32) (p1 : Int32) (h : mv_H) (hs : mv_sat (fX7_side_6 p0 p1 h) P) : mv_met G (d + 0) mX7_side [.ref 6, .int p0, .int p1] mv_SH h (mv_qi mv_SH h P) := by
  unfold fX7_side_6 at hs
  obtain ⟨D, hDe⟩ : ∃ D, D = d + 0 := ⟨_, rfl⟩
  rw [← hDe]
  have hD : d + 0 ≤ D := by omega
  refine mv_enter (lv := [.ref 6, .int p0, .int p1]) 0 (by decide) (by decide +kernel) rfl (Nat.le_of_ble_eq_true rfl) ?_
  refine mv_iload_n dX7_side_0 rfl ?_
  refine mv_if_lt dX7_side_1 hs (fun _ hs => ?_) (fun _ hs => ?_)
  · refine mv_iconst 0 dX7_side_19 (by decide) ?_
    exact mv_iret dX7_side_20 rfl ⟨_, rfl, rfl, rfl, mv_sat_some hs⟩
  · refine mv_iload_n dX7_side_4 rfl ?_
    refine mv_bipush 6 dX7_side_5 (by decide) ?_
    refine mv_icmp_ge dX7_side_7 hs (fun _ hs => ?_) (fun _ hs => ?_)
    · refine mv_iload_n dX7_side_10 rfl ?_
      refine mv_if_lt dX7_side_11 hs (fun _ hs => ?_) (fun _ hs => ?_)
      · refine mv_iconst 0 dX7_side_19 (by decide) ?_
        exact mv_iret dX7_side_20 rfl ⟨_, rfl, rfl, rfl, mv_sat_some hs⟩
      · refine mv_iload_n dX7_side_14 rfl ?_
        refine mv_iconst 3 dX7_side_15 (by decide) ?_
        refine mv_icmp_lt dX7_side_16 hs (fun _ hs => ?_) (fun _ hs => ?_)
        · refine mv_aload_n dX7_side_21 rfl ?_
          refine mv_getr dX7_side_22 kf_X7_9 gf_6_1 ?_
          refine mv_iload_n dX7_side_25 rfl ?_
          refine mv_iconst 3 dX7_side_26 (by decide) ?_
          refine mv_imul dX7_side_27 ?_
          refine mv_iload_n dX7_side_28 rfl ?_
          refine mv_iadd dX7_side_29 ?_
          refine mv_iaload dX7_side_30 so_7 hs (fun hs => ?_)
          exact mv_iret dX7_side_31 rfl ⟨_, rfl, rfl, rfl, mv_sat_some hs⟩
        · refine mv_iconst 0 dX7_side_19 (by decide) ?_
          exact mv_iret dX7_side_20 rfl ⟨_, rfl, rfl, rfl, mv_sat_some hs⟩
    · refine mv_iconst 0 dX7_side_19 (by decide) ?_
      exact mv_iret dX7_side_20 rfl ⟨_, rfl, rfl, rfl, mv_sat_some hs⟩
noncomputable def fX9_axisOf (p0 : Int32) : Option (Int32) := some (p0 / 2)
set_option maxRecDepth 100000 in
set_option maxHeartbeats 4000000 in
theorem TX9_axisOf (G : mv_G) (d : Nat) (P : Int32 → Prop) (p0 : Int32) (h : mv_H) (hs : mv_sat (fX9_axisOf p0) P) : mv_met G (d + 0) mX9_axisOf [.int p0] mv_SH h (mv_qi mv_SH h P) := by
  unfold fX9_axisOf at hs
  obtain ⟨D, hDe⟩ : ∃ D, D = d + 0 := ⟨_, rfl⟩
  rw [← hDe]
  have hD : d + 0 ≤ D := by omega
  refine mv_enter (lv := [.int p0]) 0 (by decide) (by decide +kernel) rfl (Nat.le_of_ble_eq_true rfl) ?_
  refine mv_iload_n dX9_axisOf_0 rfl ?_
  refine mv_iconst 2 dX9_axisOf_1 (by decide) ?_
  refine mv_idivk dX9_axisOf_2 (by decide) ?_
  exact mv_iret dX9_axisOf_3 rfl ⟨_, rfl, rfl, rfl, mv_sat_some hs⟩
noncomputable def fX9_turnOf (p0 : Int32) : Option (Int32) := some (p0 - p0 / 2 * 2)
set_option maxRecDepth 100000 in
set_option maxHeartbeats 4000000 in
theorem TX9_turnOf (G : mv_G) (d : Nat) (P : Int32 → Prop) (p0 : Int32) (h : mv_H) (hs : mv_sat (fX9_turnOf p0) P) : mv_met G (d + 0) mX9_turnOf [.int p0] mv_SH h (mv_qi mv_SH h P) := by
  unfold fX9_turnOf at hs
  obtain ⟨D, hDe⟩ : ∃ D, D = d + 0 := ⟨_, rfl⟩
  rw [← hDe]
  have hD : d + 0 ≤ D := by omega
  refine mv_enter (lv := [.int p0]) 0 (by decide) (by decide +kernel) rfl (Nat.le_of_ble_eq_true rfl) ?_
  refine mv_iload_n dX9_turnOf_0 rfl ?_
  refine mv_iconst 2 dX9_turnOf_1 (by decide) ?_
  refine mv_iremk dX9_turnOf_2 (by decide) ?_
  exact mv_iret dX9_turnOf_3 rfl ⟨_, rfl, rfl, rfl, mv_sat_some hs⟩
noncomputable def fX8_lackOn_38_b22 (v1 : Int32) (v5 : Int32) (s0 : Int32) (h : mv_H) : Option (Int32) := (fX8_round_38 v1 h).bind fun r450 => (fX8_reach_38 v1 h).bind fun r451 => some ((mv_max 0 (r450 - v5)) + (mv_max 0 (r451 - s0)))
set_option maxRecDepth 100000 in
set_option maxHeartbeats 4000000 in
theorem BX8_lackOn_38_b22 (G : mv_G) (d D : Nat) (hD : d + 2 ≤ D) (P : Int32 → Prop) (h : mv_H) (v1 : Int32) (v5 : Int32) (s0 : Int32) (hs : mv_sat (fX8_lackOn_38_b22 v1 v5 s0 h) P) : mv_MW G mX8_lackOn (mv_rm D mX8_lackOn) (mv_Zf G mX8_lackOn (mv_qi mv_SH h P)) 0 0 22 [.ref 38, .int v1, .float 0, .float 0, .float 0, .int v5, .float 0] [.int s0] mv_SH h := by
  unfold fX8_lackOn_38_b22 at hs
  refine mv_istore (lv' := [.ref 38, .int v1, .float 0, .float 0, .float 0, .int v5, .int s0]) dX8_lackOn_22 (Nat.le_of_ble_eq_true rfl) rfl rfl ?_
  refine mv_iconst 0 dX8_lackOn_24 (by decide) ?_
  refine mv_aload_n dX8_lackOn_25 rfl ?_
  refine mv_iload_n dX8_lackOn_26 rfl ?_
  refine mv_cV (st := [.int 0]) dX8_lackOn_27 kk_X8_43 (TX8_round_38 G d _ _ _ (mv_sat_bind hs)) so_38 vc_8 rfl rfl (Nat.le_of_ble_eq_true rfl) (by omega) rfl ⟨Nat.zero_le _, Nat.zero_le _⟩ (mv_ki fun r450 hs => ?_)
  refine mv_iload dX8_lackOn_30 rfl ?_
  refine mv_isub dX8_lackOn_32 ?_
  refine mv_mmax dX8_lackOn_33 kx_X8_56 kx_max_s kx_math kx_max_c (Nat.le_of_ble_eq_true rfl) (by omega) ⟨Nat.zero_le _, Nat.zero_le _⟩ ?_
  refine mv_iconst 0 dX8_lackOn_36 (by decide) ?_
  refine mv_aload_n dX8_lackOn_37 rfl ?_
  refine mv_iload_n dX8_lackOn_38 rfl ?_
  refine mv_cV (st := [.int 0, .int (mv_max 0 (r450 - v5))]) dX8_lackOn_39 kk_X8_46 (TX8_reach_38 G d _ _ _ (mv_sat_bind hs)) so_38 vc_8 rfl rfl (Nat.le_of_ble_eq_true rfl) (by omega) rfl ⟨Nat.zero_le _, Nat.zero_le _⟩ (mv_ki fun r451 hs => ?_)
  refine mv_iload dX8_lackOn_42 rfl ?_
  refine mv_isub dX8_lackOn_44 ?_
  refine mv_mmax dX8_lackOn_45 kx_X8_56 kx_max_s kx_math kx_max_c (Nat.le_of_ble_eq_true rfl) (by omega) ⟨Nat.zero_le _, Nat.zero_le _⟩ ?_
  refine mv_iadd dX8_lackOn_48 ?_
  exact mv_iret dX8_lackOn_49 rfl ⟨_, rfl, rfl, rfl, mv_sat_some hs⟩
noncomputable def fX8_lackOn_38_b10 (v1 : Int32) (v2 : Int32) (v3 : Int32) (v4 : Int32) (s0 : Int32) (h : mv_H) : Option (Int32) := if v2 = 0 then fX8_lackOn_38_b22 v1 s0 v4 h else fX8_lackOn_38_b22 v1 s0 v3 h
set_option maxRecDepth 100000 in
set_option maxHeartbeats 4000000 in
theorem BX8_lackOn_38_b10 (G : mv_G) (d D : Nat) (hD : d + 2 ≤ D) (P : Int32 → Prop) (h : mv_H) (v1 : Int32) (v2 : Int32) (v3 : Int32) (v4 : Int32) (s0 : Int32) (hs : mv_sat (fX8_lackOn_38_b10 v1 v2 v3 v4 s0 h) P) : mv_MW G mX8_lackOn (mv_rm D mX8_lackOn) (mv_Zf G mX8_lackOn (mv_qi mv_SH h P)) 0 0 10 [.ref 38, .int v1, .int v2, .int v3, .int v4, .float 0, .float 0] [.int s0] mv_SH h := by
  unfold fX8_lackOn_38_b10 at hs
  refine mv_istore (lv' := [.ref 38, .int v1, .int v2, .int v3, .int v4, .int s0, .float 0]) dX8_lackOn_10 (Nat.le_of_ble_eq_true rfl) rfl rfl ?_
  refine mv_iload_n dX8_lackOn_12 rfl ?_
  refine mv_if_ne dX8_lackOn_13 hs (fun _ hs => ?_) (fun _ hs => ?_)
  · refine mv_iload dX8_lackOn_16 rfl ?_
    refine mv_goto dX8_lackOn_18 ?_
    exact mv_weak (lv' := [.ref 38, .int v1, .float 0, .float 0, .float 0, .int s0, .float 0]) (mv_s (mv_s (mv_k (mv_k (mv_k (mv_s (mv_s mv_n))))))) (BX8_lackOn_38_b22 G d D (by omega) P _ _ _ _ hs)
  · refine mv_iload_n dX8_lackOn_21 rfl ?_
    exact mv_weak (lv' := [.ref 38, .int v1, .float 0, .float 0, .float 0, .int s0, .float 0]) (mv_s (mv_s (mv_k (mv_k (mv_k (mv_s (mv_s mv_n))))))) (BX8_lackOn_38_b22 G d D (by omega) P _ _ _ _ hs)
noncomputable def fX8_lackOn_38 (p0 : Int32) (p1 : Int32) (p2 : Int32) (p3 : Int32) (h : mv_H) : Option (Int32) := if p1 = 0 then fX8_lackOn_38_b10 p0 p1 p2 p3 p2 h else fX8_lackOn_38_b10 p0 p1 p2 p3 p3 h
set_option maxRecDepth 100000 in
set_option maxHeartbeats 4000000 in
theorem TX8_lackOn_38 (G : mv_G) (d : Nat) (P : Int32 → Prop) (p0 : Int32) (p1 : Int32) (p2 : Int32) (p3 : Int32) (h : mv_H) (hs : mv_sat (fX8_lackOn_38 p0 p1 p2 p3 h) P) : mv_met G (d + 2) mX8_lackOn [.ref 38, .int p0, .int p1, .int p2, .int p3] mv_SH h (mv_qi mv_SH h P) := by
  unfold fX8_lackOn_38 at hs
  obtain ⟨D, hDe⟩ : ∃ D, D = d + 2 := ⟨_, rfl⟩
  rw [← hDe]
  have hD : d + 2 ≤ D := by omega
  refine mv_enter (lv := [.ref 38, .int p0, .int p1, .int p2, .int p3, .float 0, .float 0]) 2 (by decide) (by decide +kernel) rfl (Nat.le_of_ble_eq_true rfl) ?_
  refine mv_iload_n dX8_lackOn_0 rfl ?_
  refine mv_if_ne dX8_lackOn_1 hs (fun _ hs => ?_) (fun _ hs => ?_)
  · refine mv_iload_n dX8_lackOn_4 rfl ?_
    refine mv_goto dX8_lackOn_5 ?_
    exact (BX8_lackOn_38_b10 G d D (by omega) P _ _ _ _ _ _ hs)
  · refine mv_iload dX8_lackOn_8 rfl ?_
    exact (BX8_lackOn_38_b10 G d D (by omega) P _ _ _ _ _ _ hs)
noncomputable def fX8_wayOnSheet_38_b62 (k6 : Int32 → Int32 → Int32 → Int32 → mv_H → Option (Int32)) (v1 : Int32) (v2 : Int32) (v3 : Int32) (v4 : Int32) (h : mv_H) : Option (Int32) := k6 v1 v2 v3 (v4 + 1) h
set_option maxRecDepth 100000 in
set_option maxHeartbeats 4000000 in
theorem BX8_wayOnSheet_38_b62 (G : mv_G) (d D : Nat) (hD : d + 0 ≤ D) (P : Int32 → Prop) (k6 : Int32 → Int32 → Int32 → Int32 → mv_H → Option (Int32)) (h : mv_H) (hk6 : ∀ (v1 : Int32) (v2 : Int32) (v3 : Int32) (v4 : Int32), mv_sat (k6 v1 v2 v3 v4 h) P → mv_MW G mX8_wayOnSheet (mv_rm D mX8_wayOnSheet) (mv_Zf G mX8_wayOnSheet (mv_qi mv_SH h P)) 0 0 6 [.ref 38, .int v1, .int v2, .int v3, .int v4, .float 0] [] mv_SH h) (v1 : Int32) (v2 : Int32) (v3 : Int32) (v4 : Int32) (hs : mv_sat (fX8_wayOnSheet_38_b62 k6 v1 v2 v3 v4 h) P) : mv_MW G mX8_wayOnSheet (mv_rm D mX8_wayOnSheet) (mv_Zf G mX8_wayOnSheet (mv_qi mv_SH h P)) 0 0 62 [.ref 38, .int v1, .int v2, .int v3, .int v4, .float 0] [] mv_SH h := by
  unfold fX8_wayOnSheet_38_b62 at hs
  refine mv_iinc (lv' := [.ref 38, .int v1, .int v2, .int v3, .int (v4 + 1), .float 0]) 1 dX8_wayOnSheet_62 rfl (by decide) (Nat.le_of_ble_eq_true rfl) rfl rfl ?_
  refine mv_goto dX8_wayOnSheet_65 ?_
  exact (hk6 _ _ _ _ hs)
noncomputable def fX8_wayOnSheet_38_b59 (k6 : Int32 → Int32 → Int32 → Int32 → mv_H → Option (Int32)) (v1 : Int32) (v2 : Int32) (v4 : Int32) (h : mv_H) : Option (Int32) := fX8_wayOnSheet_38_b62 k6 v1 v2 v4 v4 h
set_option maxRecDepth 100000 in
set_option maxHeartbeats 4000000 in
theorem BX8_wayOnSheet_38_b59 (G : mv_G) (d D : Nat) (hD : d + 0 ≤ D) (P : Int32 → Prop) (k6 : Int32 → Int32 → Int32 → Int32 → mv_H → Option (Int32)) (h : mv_H) (hk6 : ∀ (v1 : Int32) (v2 : Int32) (v3 : Int32) (v4 : Int32), mv_sat (k6 v1 v2 v3 v4 h) P → mv_MW G mX8_wayOnSheet (mv_rm D mX8_wayOnSheet) (mv_Zf G mX8_wayOnSheet (mv_qi mv_SH h P)) 0 0 6 [.ref 38, .int v1, .int v2, .int v3, .int v4, .float 0] [] mv_SH h) (v1 : Int32) (v2 : Int32) (v4 : Int32) (hs : mv_sat (fX8_wayOnSheet_38_b59 k6 v1 v2 v4 h) P) : mv_MW G mX8_wayOnSheet (mv_rm D mX8_wayOnSheet) (mv_Zf G mX8_wayOnSheet (mv_qi mv_SH h P)) 0 0 59 [.ref 38, .int v1, .int v2, .float 0, .int v4, .float 0] [] mv_SH h := by
  unfold fX8_wayOnSheet_38_b59 at hs
  refine mv_iload dX8_wayOnSheet_59 rfl ?_
  refine mv_istore_n (lv' := [.ref 38, .int v1, .int v2, .int v4, .int v4, .float 0]) dX8_wayOnSheet_61 (Nat.le_of_ble_eq_true rfl) rfl rfl ?_
  exact (BX8_wayOnSheet_38_b62 G d D (by omega) P _ _ hk6 _ _ _ _ hs)
noncomputable def fX8_wayOnSheet_38_b6 : Nat → Int32 → Int32 → Int32 → Int32 → mv_H → Option (Int32)
  | 0, _, _, _, _, _ => none
  | n + 1, v1, v2, v3, v4, h => if v4 < 6 then ((fX9_axisOf v4).bind fun r448 => (fX9_turnOf v4).bind fun r449 => (fX8_lackOn_38 r448 r449 v1 v2 h).bind fun r452 => if r452 = 0 then (if v3 = (-6) then fX8_wayOnSheet_38_b59 (fX8_wayOnSheet_38_b6 n) v1 v2 v4 h else (fX8_paper_38 r448 h).bind fun r453 => (fX9_axisOf v3).bind fun r454 => (fX8_paper_38 r454 h).bind fun r455 => if r453 < r455 then fX8_wayOnSheet_38_b59 (fX8_wayOnSheet_38_b6 n) v1 v2 v4 h else fX8_wayOnSheet_38_b62 (fX8_wayOnSheet_38_b6 n) v1 v2 v3 v4 h) else fX8_wayOnSheet_38_b62 (fX8_wayOnSheet_38_b6 n) v1 v2 v3 v4 h) else some v3
set_option maxRecDepth 100000 in
set_option maxHeartbeats 4000000 in
theorem BX8_wayOnSheet_38_b6 (G : mv_G) (d D : Nat) (hD : d + 3 ≤ D) (P : Int32 → Prop) (h : mv_H) : ∀ (n : Nat) (v1 : Int32) (v2 : Int32) (v3 : Int32) (v4 : Int32), mv_sat (fX8_wayOnSheet_38_b6 n v1 v2 v3 v4 h) P → mv_MW G mX8_wayOnSheet (mv_rm D mX8_wayOnSheet) (mv_Zf G mX8_wayOnSheet (mv_qi mv_SH h P)) 0 0 6 [.ref 38, .int v1, .int v2, .int v3, .int v4, .float 0] [] mv_SH h := by
  intro n
  induction n with
  | zero =>
    intro v1 v2 v3 v4 hs
    unfold fX8_wayOnSheet_38_b6 at hs
    exact (mv_sat_none hs).elim
  | succ n ih =>
    intro v1 v2 v3 v4 hs
    unfold fX8_wayOnSheet_38_b6 at hs
    refine mv_iload dX8_wayOnSheet_6 rfl ?_
    refine mv_bipush 6 dX8_wayOnSheet_8 (by decide) ?_
    refine mv_icmp_ge dX8_wayOnSheet_10 hs (fun _ hs => ?_) (fun _ hs => ?_)
    · refine mv_iload dX8_wayOnSheet_13 rfl ?_
      refine mv_cS (st := []) dX8_wayOnSheet_15 kk_X8_59 (TX9_axisOf G d _ _ _ (mv_sat_bind hs)) rfl rfl (Nat.le_of_ble_eq_true rfl) (by omega) rfl ⟨Nat.zero_le _, Nat.zero_le _⟩ (mv_ki fun r448 hs => ?_)
      refine mv_istore (lv' := [.ref 38, .int v1, .int v2, .int v3, .int v4, .int r448]) dX8_wayOnSheet_18 (Nat.le_of_ble_eq_true rfl) rfl rfl ?_
      refine mv_aload_n dX8_wayOnSheet_20 rfl ?_
      refine mv_iload dX8_wayOnSheet_21 rfl ?_
      refine mv_iload dX8_wayOnSheet_23 rfl ?_
      refine mv_cS (st := [.int r448, .ref 38]) dX8_wayOnSheet_25 kk_X8_62 (TX9_turnOf G d _ _ _ (mv_sat_bind hs)) rfl rfl (Nat.le_of_ble_eq_true rfl) (by omega) rfl ⟨Nat.zero_le _, Nat.zero_le _⟩ (mv_ki fun r449 hs => ?_)
      refine mv_iload_n dX8_wayOnSheet_28 rfl ?_
      refine mv_iload_n dX8_wayOnSheet_29 rfl ?_
      refine mv_cV (st := []) dX8_wayOnSheet_30 kk_X8_65 (TX8_lackOn_38 G d _ _ _ _ _ _ (mv_sat_bind hs)) so_38 vc_8 rfl rfl (Nat.le_of_ble_eq_true rfl) (by omega) rfl ⟨Nat.zero_le _, Nat.zero_le _⟩ (mv_ki fun r452 hs => ?_)
      refine mv_if_ne dX8_wayOnSheet_33 hs (fun _ hs => ?_) (fun _ hs => ?_)
      · refine mv_iload_n dX8_wayOnSheet_36 rfl ?_
        refine mv_bipush (-6) dX8_wayOnSheet_37 (by decide) ?_
        refine mv_icmp_eq dX8_wayOnSheet_39 hs (fun _ hs => ?_) (fun _ hs => ?_)
        · exact mv_weak (lv' := [.ref 38, .int v1, .int v2, .float 0, .int v4, .float 0]) (mv_s (mv_s (mv_s (mv_k (mv_s (mv_k mv_n)))))) (BX8_wayOnSheet_38_b59 G d D (by omega) P _ _ ih _ _ _ hs)
        · refine mv_aload_n dX8_wayOnSheet_42 rfl ?_
          refine mv_iload dX8_wayOnSheet_43 rfl ?_
          refine mv_cV (st := []) dX8_wayOnSheet_45 kk_X8_49 (TX8_paper_38 G d _ _ _ (mv_sat_bind hs)) so_38 vc_8 rfl rfl (Nat.le_of_ble_eq_true rfl) (by omega) rfl ⟨Nat.zero_le _, Nat.zero_le _⟩ (mv_ki fun r453 hs => ?_)
          refine mv_aload_n dX8_wayOnSheet_48 rfl ?_
          refine mv_iload_n dX8_wayOnSheet_49 rfl ?_
          refine mv_cS (st := [.ref 38, .int r453]) dX8_wayOnSheet_50 kk_X8_59 (TX9_axisOf G d _ _ _ (mv_sat_bind hs)) rfl rfl (Nat.le_of_ble_eq_true rfl) (by omega) rfl ⟨Nat.zero_le _, Nat.zero_le _⟩ (mv_ki fun r454 hs => ?_)
          refine mv_cV (st := [.int r453]) dX8_wayOnSheet_53 kk_X8_49 (TX8_paper_38 G d _ _ _ (mv_sat_bind hs)) so_38 vc_8 rfl rfl (Nat.le_of_ble_eq_true rfl) (by omega) rfl ⟨Nat.zero_le _, Nat.zero_le _⟩ (mv_ki fun r455 hs => ?_)
          refine mv_icmp_ge dX8_wayOnSheet_56 hs (fun _ hs => ?_) (fun _ hs => ?_)
          · exact mv_weak (lv' := [.ref 38, .int v1, .int v2, .float 0, .int v4, .float 0]) (mv_s (mv_s (mv_s (mv_k (mv_s (mv_k mv_n)))))) (BX8_wayOnSheet_38_b59 G d D (by omega) P _ _ ih _ _ _ hs)
          · exact mv_weak (lv' := [.ref 38, .int v1, .int v2, .int v3, .int v4, .float 0]) (mv_s (mv_s (mv_s (mv_s (mv_s (mv_k mv_n)))))) (BX8_wayOnSheet_38_b62 G d D (by omega) P _ _ ih _ _ _ _ hs)
      · exact mv_weak (lv' := [.ref 38, .int v1, .int v2, .int v3, .int v4, .float 0]) (mv_s (mv_s (mv_s (mv_s (mv_s (mv_k mv_n)))))) (BX8_wayOnSheet_38_b62 G d D (by omega) P _ _ ih _ _ _ _ hs)
    · refine mv_iload_n dX8_wayOnSheet_68 rfl ?_
      exact mv_iret dX8_wayOnSheet_69 rfl ⟨_, rfl, rfl, rfl, mv_sat_some hs⟩
noncomputable def fX8_wayOnSheet_38 (p0 : Int32) (p1 : Int32) (h : mv_H) : Option (Int32) := fX8_wayOnSheet_38_b6 mv_F p0 p1 (-6) 0 h
set_option maxRecDepth 100000 in
set_option maxHeartbeats 4000000 in
theorem TX8_wayOnSheet_38 (G : mv_G) (d : Nat) (P : Int32 → Prop) (p0 : Int32) (p1 : Int32) (h : mv_H) (hs : mv_sat (fX8_wayOnSheet_38 p0 p1 h) P) : mv_met G (d + 3) mX8_wayOnSheet [.ref 38, .int p0, .int p1] mv_SH h (mv_qi mv_SH h P) := by
  unfold fX8_wayOnSheet_38 at hs
  obtain ⟨D, hDe⟩ : ∃ D, D = d + 3 := ⟨_, rfl⟩
  rw [← hDe]
  have hD : d + 3 ≤ D := by omega
  refine mv_enter (lv := [.ref 38, .int p0, .int p1, .float 0, .float 0, .float 0]) 3 (by decide) (by decide +kernel) rfl (Nat.le_of_ble_eq_true rfl) ?_
  refine mv_bipush (-6) dX8_wayOnSheet_0 (by decide) ?_
  refine mv_istore_n (lv' := [.ref 38, .int p0, .int p1, .int (-6), .float 0, .float 0]) dX8_wayOnSheet_2 (Nat.le_of_ble_eq_true rfl) rfl rfl ?_
  refine mv_iconst 0 dX8_wayOnSheet_3 (by decide) ?_
  refine mv_istore (lv' := [.ref 38, .int p0, .int p1, .int (-6), .int 0, .float 0]) dX8_wayOnSheet_4 (Nat.le_of_ble_eq_true rfl) rfl rfl ?_
  exact (BX8_wayOnSheet_38_b6 G d D (by omega) P _ _ _ _ _ _ hs)
noncomputable def fX7_area_6 (p0 : Int32) (h : mv_H) : Option (Int32) := (fX7_side_6 p0 (0 : Int32) h).bind fun r459 => (fX7_side_6 p0 (1 : Int32) h).bind fun r460 => some (r459 * r460)
set_option maxRecDepth 100000 in
set_option maxHeartbeats 4000000 in
theorem TX7_area_6 (G : mv_G) (d : Nat) (P : Int32 → Prop) (p0 : Int32) (h : mv_H) (hs : mv_sat (fX7_area_6 p0 h) P) : mv_met G (d + 1) mX7_area [.ref 6, .int p0] mv_SH h (mv_qi mv_SH h P) := by
  unfold fX7_area_6 at hs
  obtain ⟨D, hDe⟩ : ∃ D, D = d + 1 := ⟨_, rfl⟩
  rw [← hDe]
  have hD : d + 1 ≤ D := by omega
  refine mv_enter (lv := [.ref 6, .int p0]) 0 (by decide) (by decide +kernel) rfl (Nat.le_of_ble_eq_true rfl) ?_
  refine mv_aload_n dX7_area_0 rfl ?_
  refine mv_iload_n dX7_area_1 rfl ?_
  refine mv_iconst 0 dX7_area_2 (by decide) ?_
  refine mv_cV (st := []) dX7_area_3 kk_X7_43 (TX7_side_6 G d _ _ _ _ (mv_sat_bind hs)) so_6 vc_7 rfl rfl (Nat.le_of_ble_eq_true rfl) (by omega) rfl ⟨Nat.zero_le _, Nat.zero_le _⟩ (mv_ki fun r459 hs => ?_)
  refine mv_aload_n dX7_area_6 rfl ?_
  refine mv_iload_n dX7_area_7 rfl ?_
  refine mv_iconst 1 dX7_area_8 (by decide) ?_
  refine mv_cV (st := [.int r459]) dX7_area_9 kk_X7_43 (TX7_side_6 G d _ _ _ _ (mv_sat_bind hs)) so_6 vc_7 rfl rfl (Nat.le_of_ble_eq_true rfl) (by omega) rfl ⟨Nat.zero_le _, Nat.zero_le _⟩ (mv_ki fun r460 hs => ?_)
  refine mv_imul dX7_area_12 ?_
  exact mv_iret dX7_area_13 rfl ⟨_, rfl, rfl, rfl, mv_sat_some hs⟩
noncomputable def fX9_does_0 (p0 : Int32) (p1 : Int32) (p2 : Int32) (h : mv_H) : Option (Int32 × mv_H) := (fX7_has_2 p0 h).bind fun r442 => if r442 = 0 then some ((-1), h) else (fX7_has_6 p1 h).bind fun r443 => if r443 = 0 then some ((-1), h) else (fX9_isWithin p2 (0 : Int32) (2 : Int32)).bind fun r444 => if r444 = 0 then some ((-2), h) else (fX9_wrapOf_0 p0 h).bind fun r445 => (fX7_side_6 p1 (0 : Int32) r445).bind fun r446 => (fX7_side_6 p1 (1 : Int32) r445).bind fun r447 => (fX8_wayOnSheet_38 r446 r447 r445).bind fun r456 => if r456 = (-6) then some ((-6), r445) else if p2 = 0 then ((fX9_axisOf r456).bind fun r457 => some (r457, r445)) else if p2 = 1 then ((fX9_turnOf r456).bind fun r458 => some (r458, r445)) else (fX7_area_6 p1 r445).bind fun r461 => (fX9_axisOf r456).bind fun r462 => (fX8_paper_38 r462 r445).bind fun r463 => some (r461 - r463, r445)
set_option maxRecDepth 100000 in
set_option maxHeartbeats 4000000 in
theorem TX9_does_0 (G : mv_G) (d : Nat) (P : Int32 × mv_H → Prop) (p0 : Int32) (p1 : Int32) (p2 : Int32) (h : mv_H) (hs : mv_sat (fX9_does_0 p0 p1 p2 h) P) : mv_met G (d + 4) mX9_does [.ref 0, .int p0, .int p1, .int p2] mv_SH h (mv_qI mv_SH P) := by
  unfold fX9_does_0 at hs
  obtain ⟨D, hDe⟩ : ∃ D, D = d + 4 := ⟨_, rfl⟩
  rw [← hDe]
  have hD : d + 4 ≤ D := by omega
  refine mv_enter (lv := [.ref 0, .int p0, .int p1, .int p2, .float 0, .float 0]) 2 (by decide) (by decide +kernel) rfl (Nat.le_of_ble_eq_true rfl) ?_
  refine mv_aload_n dX9_does_0 rfl ?_
  refine mv_getr dX9_does_1 kf_X9_10 gf_0_0 ?_
  refine mv_getr dX9_does_4 kf_X9_64 gf_1_0 ?_
  refine mv_iload_n dX9_does_7 rfl ?_
  refine mv_cV (st := []) dX9_does_8 kk_X9_100 (TX7_has_2 G d _ _ _ (mv_sat_bind hs)) so_2 vc_7 rfl rfl (Nat.le_of_ble_eq_true rfl) (by omega) rfl ⟨Nat.zero_le _, Nat.zero_le _⟩ (mv_ki fun r442 hs => ?_)
  refine mv_if_eq dX9_does_11 hs (fun _ hs => ?_) (fun _ hs => ?_)
  · refine mv_iconst (-1) dX9_does_28 (by decide) ?_
    exact mv_iret dX9_does_29 rfl ⟨((-1), h), rfl, rfl, rfl, mv_sat_some hs⟩
  · refine mv_aload_n dX9_does_14 rfl ?_
    refine mv_getr dX9_does_15 kf_X9_10 gf_0_0 ?_
    refine mv_getr dX9_does_18 kf_X9_83 gf_1_2 ?_
    refine mv_iload_n dX9_does_21 rfl ?_
    refine mv_cV (st := []) dX9_does_22 kk_X9_100 (TX7_has_6 G d _ _ _ (mv_sat_bind hs)) so_6 vc_7 rfl rfl (Nat.le_of_ble_eq_true rfl) (by omega) rfl ⟨Nat.zero_le _, Nat.zero_le _⟩ (mv_ki fun r443 hs => ?_)
    refine mv_if_ne dX9_does_25 hs (fun _ hs => ?_) (fun _ hs => ?_)
    · refine mv_iconst (-1) dX9_does_28 (by decide) ?_
      exact mv_iret dX9_does_29 rfl ⟨((-1), h), rfl, rfl, rfl, mv_sat_some hs⟩
    · refine mv_iload_n dX9_does_30 rfl ?_
      refine mv_iconst 0 dX9_does_31 (by decide) ?_
      refine mv_iconst 2 dX9_does_32 (by decide) ?_
      refine mv_cS (st := []) dX9_does_33 kk_X9_79 (TX9_isWithin G d _ _ _ _ _ (mv_sat_bind hs)) rfl rfl (Nat.le_of_ble_eq_true rfl) (by omega) rfl ⟨Nat.zero_le _, Nat.zero_le _⟩ (mv_ki fun r444 hs => ?_)
      refine mv_if_ne dX9_does_36 hs (fun _ hs => ?_) (fun _ hs => ?_)
      · refine mv_bipush (-2) dX9_does_39 (by decide) ?_
        exact mv_iret dX9_does_41 rfl ⟨((-2), h), rfl, rfl, rfl, mv_sat_some hs⟩
      · refine mv_aload_n dX9_does_42 rfl ?_
        refine mv_iload_n dX9_does_43 rfl ?_
        refine mv_cV (st := []) dX9_does_44 kk_X9_144 (TX9_wrapOf_0 G d _ _ _ (mv_sat_bind hs)) so_0 vc_9 rfl rfl (Nat.le_of_ble_eq_true rfl) (by omega) rfl ⟨Nat.zero_le _, Nat.zero_le _⟩ (mv_kc fun r445 hs => ?_)
        refine mv_astore (lv' := [.ref 0, .int p0, .int p1, .int p2, .ref 38, .float 0]) dX9_does_47 (Nat.le_of_ble_eq_true rfl) rfl rfl ?_
        refine mv_aload dX9_does_49 rfl ?_
        refine mv_aload_n dX9_does_51 rfl ?_
        refine mv_getr dX9_does_52 kf_X9_10 gf_0_0 ?_
        refine mv_getr dX9_does_55 kf_X9_83 gf_1_2 ?_
        refine mv_iload_n dX9_does_58 rfl ?_
        refine mv_iconst 0 dX9_does_59 (by decide) ?_
        refine mv_cV (st := [.ref 38]) dX9_does_60 kk_X9_163 (TX7_side_6 G d _ _ _ _ (mv_sat_bind hs)) so_6 vc_7 rfl rfl (Nat.le_of_ble_eq_true rfl) (by omega) rfl ⟨Nat.zero_le _, Nat.zero_le _⟩ (mv_ki fun r446 hs => ?_)
        refine mv_aload_n dX9_does_63 rfl ?_
        refine mv_getr dX9_does_64 kf_X9_10 gf_0_0 ?_
        refine mv_getr dX9_does_67 kf_X9_83 gf_1_2 ?_
        refine mv_iload_n dX9_does_70 rfl ?_
        refine mv_iconst 1 dX9_does_71 (by decide) ?_
        refine mv_cV (st := [.int r446, .ref 38]) dX9_does_72 kk_X9_163 (TX7_side_6 G d _ _ _ _ (mv_sat_bind hs)) so_6 vc_7 rfl rfl (Nat.le_of_ble_eq_true rfl) (by omega) rfl ⟨Nat.zero_le _, Nat.zero_le _⟩ (mv_ki fun r447 hs => ?_)
        refine mv_cV (st := []) dX9_does_75 kk_X9_167 (TX8_wayOnSheet_38 G d _ _ _ _ (mv_sat_bind hs)) so_38 vc_8 rfl rfl (Nat.le_of_ble_eq_true rfl) (by omega) rfl ⟨Nat.zero_le _, Nat.zero_le _⟩ (mv_ki fun r456 hs => ?_)
        refine mv_istore (lv' := [.ref 0, .int p0, .int p1, .int p2, .ref 38, .int r456]) dX9_does_78 (Nat.le_of_ble_eq_true rfl) rfl rfl ?_
        refine mv_iload dX9_does_80 rfl ?_
        refine mv_bipush (-6) dX9_does_82 (by decide) ?_
        refine mv_icmp_ne dX9_does_84 hs (fun _ hs => ?_) (fun _ hs => ?_)
        · refine mv_bipush (-6) dX9_does_87 (by decide) ?_
          exact mv_iret dX9_does_89 rfl ⟨((-6), r445), rfl, rfl, rfl, mv_sat_some hs⟩
        · refine mv_iload_n dX9_does_90 rfl ?_
          refine mv_if_ne dX9_does_91 hs (fun _ hs => ?_) (fun _ hs => ?_)
          · refine mv_iload dX9_does_94 rfl ?_
            refine mv_cS (st := []) dX9_does_96 kk_X9_170 (TX9_axisOf G d _ _ _ (mv_sat_bind hs)) rfl rfl (Nat.le_of_ble_eq_true rfl) (by omega) rfl ⟨Nat.zero_le _, Nat.zero_le _⟩ (mv_ki fun r457 hs => ?_)
            exact mv_iret dX9_does_99 rfl ⟨(r457, r445), rfl, rfl, rfl, mv_sat_some hs⟩
          · refine mv_iload_n dX9_does_100 rfl ?_
            refine mv_iconst 1 dX9_does_101 (by decide) ?_
            refine mv_icmp_ne dX9_does_102 hs (fun _ hs => ?_) (fun _ hs => ?_)
            · refine mv_iload dX9_does_105 rfl ?_
              refine mv_cS (st := []) dX9_does_107 kk_X9_173 (TX9_turnOf G d _ _ _ (mv_sat_bind hs)) rfl rfl (Nat.le_of_ble_eq_true rfl) (by omega) rfl ⟨Nat.zero_le _, Nat.zero_le _⟩ (mv_ki fun r458 hs => ?_)
              refine mv_goto dX9_does_110 ?_
              exact mv_iret dX9_does_135 rfl ⟨(r458, r445), rfl, rfl, rfl, mv_sat_some hs⟩
            · refine mv_aload_n dX9_does_113 rfl ?_
              refine mv_getr dX9_does_114 kf_X9_10 gf_0_0 ?_
              refine mv_getr dX9_does_117 kf_X9_83 gf_1_2 ?_
              refine mv_iload_n dX9_does_120 rfl ?_
              refine mv_cV (st := []) dX9_does_121 kk_X9_176 (TX7_area_6 G d _ _ _ (mv_sat_bind hs)) so_6 vc_7 rfl rfl (Nat.le_of_ble_eq_true rfl) (by omega) rfl ⟨Nat.zero_le _, Nat.zero_le _⟩ (mv_ki fun r461 hs => ?_)
              refine mv_aload dX9_does_124 rfl ?_
              refine mv_iload dX9_does_126 rfl ?_
              refine mv_cS (st := [.ref 38, .int r461]) dX9_does_128 kk_X9_170 (TX9_axisOf G d _ _ _ (mv_sat_bind hs)) rfl rfl (Nat.le_of_ble_eq_true rfl) (by omega) rfl ⟨Nat.zero_le _, Nat.zero_le _⟩ (mv_ki fun r462 hs => ?_)
              refine mv_cV (st := [.int r461]) dX9_does_131 kk_X9_154 (TX8_paper_38 G d _ _ _ (mv_sat_bind hs)) so_38 vc_8 rfl rfl (Nat.le_of_ble_eq_true rfl) (by omega) rfl ⟨Nat.zero_le _, Nat.zero_le _⟩ (mv_ki fun r463 hs => ?_)
              refine mv_isub dX9_does_134 ?_
              exact mv_iret dX9_does_135 rfl ⟨(r461 - r463, r445), rfl, rfl, rfl, mv_sat_some hs⟩
noncomputable def fX10_doesBy_55_b143 (k5 : Int32 → Int32 → Int32 → mv_H → Option (Int32)) (v1 : Int32) (v3 : Int32) (s0 : Int32) (h : mv_H) : Option (Int32) := k5 v1 s0 (v3 + 1) h
set_option maxRecDepth 100000 in
set_option maxHeartbeats 4000000 in
theorem BX10_doesBy_55_b143 (G : mv_G) (d D : Nat) (hD : d + 0 ≤ D) (P : Int32 → Prop) (k5 : Int32 → Int32 → Int32 → mv_H → Option (Int32)) (h : mv_H) (hk5 : ∀ (v1 : Int32) (v2 : Int32) (v3 : Int32), mv_sat (k5 v1 v2 v3 h) P → mv_MW G mX10_doesBy (mv_rm D mX10_doesBy) (mv_Zf G mX10_doesBy (mv_qi mv_SH h P)) 0 0 5 [.ref 55, .int v1, .int v2, .int v3, .float 0, .float 0, .float 0] [] mv_SH h) (v1 : Int32) (v3 : Int32) (s0 : Int32) (hs : mv_sat (fX10_doesBy_55_b143 k5 v1 v3 s0 h) P) : mv_MW G mX10_doesBy (mv_rm D mX10_doesBy) (mv_Zf G mX10_doesBy (mv_qi mv_SH h P)) 0 0 143 [.ref 55, .int v1, .float 0, .int v3, .float 0, .float 0, .float 0] [.int s0] mv_SH h := by
  unfold fX10_doesBy_55_b143 at hs
  refine mv_istore_n (lv' := [.ref 55, .int v1, .int s0, .int v3, .float 0, .float 0, .float 0]) dX10_doesBy_143 (Nat.le_of_ble_eq_true rfl) rfl rfl ?_
  refine mv_iinc (lv' := [.ref 55, .int v1, .int s0, .int (v3 + 1), .float 0, .float 0, .float 0]) 1 dX10_doesBy_144 rfl (by decide) (Nat.le_of_ble_eq_true rfl) rfl rfl ?_
  refine mv_goto dX10_doesBy_147 ?_
  exact (hk5 _ _ _ hs)
noncomputable def fX10_doesBy_55_b131 (k5 : Int32 → Int32 → Int32 → mv_H → Option (Int32)) (v1 : Int32) (v2 : Int32) (v3 : Int32) (s0 : Int32) (h : mv_H) : Option (Int32) := if s0 = 0 then fX10_doesBy_55_b143 k5 v1 v3 v2 h else fX10_doesBy_55_b143 k5 v1 v3 v3 h
set_option maxRecDepth 100000 in
set_option maxHeartbeats 4000000 in
theorem BX10_doesBy_55_b131 (G : mv_G) (d D : Nat) (hD : d + 0 ≤ D) (P : Int32 → Prop) (k5 : Int32 → Int32 → Int32 → mv_H → Option (Int32)) (h : mv_H) (hk5 : ∀ (v1 : Int32) (v2 : Int32) (v3 : Int32), mv_sat (k5 v1 v2 v3 h) P → mv_MW G mX10_doesBy (mv_rm D mX10_doesBy) (mv_Zf G mX10_doesBy (mv_qi mv_SH h P)) 0 0 5 [.ref 55, .int v1, .int v2, .int v3, .float 0, .float 0, .float 0] [] mv_SH h) (v1 : Int32) (v2 : Int32) (v3 : Int32) (s0 : Int32) (hs : mv_sat (fX10_doesBy_55_b131 k5 v1 v2 v3 s0 h) P) : mv_MW G mX10_doesBy (mv_rm D mX10_doesBy) (mv_Zf G mX10_doesBy (mv_qi mv_SH h P)) 0 0 131 [.ref 55, .int v1, .int v2, .int v3, .float 0, .float 0, .float 0] [.int s0] mv_SH h := by
  unfold fX10_doesBy_55_b131 at hs
  refine mv_istore (lv' := [.ref 55, .int v1, .int v2, .int v3, .float 0, .float 0, .int s0]) dX10_doesBy_131 (Nat.le_of_ble_eq_true rfl) rfl rfl ?_
  refine mv_iload dX10_doesBy_133 rfl ?_
  refine mv_if_eq dX10_doesBy_135 hs (fun _ hs => ?_) (fun _ hs => ?_)
  · refine mv_iload_n dX10_doesBy_142 rfl ?_
    exact mv_weak (lv' := [.ref 55, .int v1, .float 0, .int v3, .float 0, .float 0, .float 0]) (mv_s (mv_s (mv_k (mv_s (mv_s (mv_s (mv_k mv_n))))))) (BX10_doesBy_55_b143 G d D (by omega) P _ _ hk5 _ _ _ hs)
  · refine mv_iload_n dX10_doesBy_138 rfl ?_
    refine mv_goto dX10_doesBy_139 ?_
    exact mv_weak (lv' := [.ref 55, .int v1, .float 0, .int v3, .float 0, .float 0, .float 0]) (mv_s (mv_s (mv_k (mv_s (mv_s (mv_s (mv_k mv_n))))))) (BX10_doesBy_55_b143 G d D (by omega) P _ _ hk5 _ _ _ hs)
noncomputable def fX10_doesBy_55_b130 (k5 : Int32 → Int32 → Int32 → mv_H → Option (Int32)) (v1 : Int32) (v2 : Int32) (v3 : Int32) (h : mv_H) : Option (Int32) := fX10_doesBy_55_b131 k5 v1 v2 v3 0 h
set_option maxRecDepth 100000 in
set_option maxHeartbeats 4000000 in
theorem BX10_doesBy_55_b130 (G : mv_G) (d D : Nat) (hD : d + 0 ≤ D) (P : Int32 → Prop) (k5 : Int32 → Int32 → Int32 → mv_H → Option (Int32)) (h : mv_H) (hk5 : ∀ (v1 : Int32) (v2 : Int32) (v3 : Int32), mv_sat (k5 v1 v2 v3 h) P → mv_MW G mX10_doesBy (mv_rm D mX10_doesBy) (mv_Zf G mX10_doesBy (mv_qi mv_SH h P)) 0 0 5 [.ref 55, .int v1, .int v2, .int v3, .float 0, .float 0, .float 0] [] mv_SH h) (v1 : Int32) (v2 : Int32) (v3 : Int32) (hs : mv_sat (fX10_doesBy_55_b130 k5 v1 v2 v3 h) P) : mv_MW G mX10_doesBy (mv_rm D mX10_doesBy) (mv_Zf G mX10_doesBy (mv_qi mv_SH h P)) 0 0 130 [.ref 55, .int v1, .int v2, .int v3, .float 0, .float 0, .float 0] [] mv_SH h := by
  unfold fX10_doesBy_55_b130 at hs
  refine mv_iconst 0 dX10_doesBy_130 (by decide) ?_
  exact (BX10_doesBy_55_b131 G d D (by omega) P _ _ hk5 _ _ _ _ hs)
noncomputable def fX10_doesBy_55_b126 (k5 : Int32 → Int32 → Int32 → mv_H → Option (Int32)) (v1 : Int32) (v2 : Int32) (v3 : Int32) (h : mv_H) : Option (Int32) := fX10_doesBy_55_b131 k5 v1 v2 v3 1 h
set_option maxRecDepth 100000 in
set_option maxHeartbeats 4000000 in
theorem BX10_doesBy_55_b126 (G : mv_G) (d D : Nat) (hD : d + 0 ≤ D) (P : Int32 → Prop) (k5 : Int32 → Int32 → Int32 → mv_H → Option (Int32)) (h : mv_H) (hk5 : ∀ (v1 : Int32) (v2 : Int32) (v3 : Int32), mv_sat (k5 v1 v2 v3 h) P → mv_MW G mX10_doesBy (mv_rm D mX10_doesBy) (mv_Zf G mX10_doesBy (mv_qi mv_SH h P)) 0 0 5 [.ref 55, .int v1, .int v2, .int v3, .float 0, .float 0, .float 0] [] mv_SH h) (v1 : Int32) (v2 : Int32) (v3 : Int32) (hs : mv_sat (fX10_doesBy_55_b126 k5 v1 v2 v3 h) P) : mv_MW G mX10_doesBy (mv_rm D mX10_doesBy) (mv_Zf G mX10_doesBy (mv_qi mv_SH h P)) 0 0 126 [.ref 55, .int v1, .int v2, .int v3, .float 0, .float 0, .float 0] [] mv_SH h := by
  unfold fX10_doesBy_55_b126 at hs
  refine mv_iconst 1 dX10_doesBy_126 (by decide) ?_
  refine mv_goto dX10_doesBy_127 ?_
  exact (BX10_doesBy_55_b131 G d D (by omega) P _ _ hk5 _ _ _ _ hs)
noncomputable def fX10_doesBy_55_b99 (k5 : Int32 → Int32 → Int32 → mv_H → Option (Int32)) (v1 : Int32) (v2 : Int32) (v3 : Int32) (v4 : Int32) (s0 : Int32) (h : mv_H) : Option (Int32) := if s0 = 0 then fX10_doesBy_55_b130 k5 v1 v2 v3 h else if v2 < 0 then fX10_doesBy_55_b126 k5 v1 v2 v3 h else (fX10_paper_55 v4 h).bind fun r470 => (fX10_paper_55 (v2 / 2) h).bind fun r471 => if r470 < r471 then fX10_doesBy_55_b126 k5 v1 v2 v3 h else fX10_doesBy_55_b130 k5 v1 v2 v3 h
set_option maxRecDepth 100000 in
set_option maxHeartbeats 4000000 in
theorem BX10_doesBy_55_b99 (G : mv_G) (d D : Nat) (hD : d + 1 ≤ D) (P : Int32 → Prop) (k5 : Int32 → Int32 → Int32 → mv_H → Option (Int32)) (h : mv_H) (hk5 : ∀ (v1 : Int32) (v2 : Int32) (v3 : Int32), mv_sat (k5 v1 v2 v3 h) P → mv_MW G mX10_doesBy (mv_rm D mX10_doesBy) (mv_Zf G mX10_doesBy (mv_qi mv_SH h P)) 0 0 5 [.ref 55, .int v1, .int v2, .int v3, .float 0, .float 0, .float 0] [] mv_SH h) (v1 : Int32) (v2 : Int32) (v3 : Int32) (v4 : Int32) (s0 : Int32) (hs : mv_sat (fX10_doesBy_55_b99 k5 v1 v2 v3 v4 s0 h) P) : mv_MW G mX10_doesBy (mv_rm D mX10_doesBy) (mv_Zf G mX10_doesBy (mv_qi mv_SH h P)) 0 0 99 [.ref 55, .int v1, .int v2, .int v3, .int v4, .float 0, .float 0] [.int s0] mv_SH h := by
  unfold fX10_doesBy_55_b99 at hs
  refine mv_istore (lv' := [.ref 55, .int v1, .int v2, .int v3, .int v4, .int s0, .float 0]) dX10_doesBy_99 (Nat.le_of_ble_eq_true rfl) rfl rfl ?_
  refine mv_iload dX10_doesBy_101 rfl ?_
  refine mv_if_eq dX10_doesBy_103 hs (fun _ hs => ?_) (fun _ hs => ?_)
  · exact mv_weak (lv' := [.ref 55, .int v1, .int v2, .int v3, .float 0, .float 0, .float 0]) (mv_s (mv_s (mv_s (mv_s (mv_k (mv_k (mv_s mv_n))))))) (BX10_doesBy_55_b130 G d D (by omega) P _ _ hk5 _ _ _ hs)
  · refine mv_iload_n dX10_doesBy_106 rfl ?_
    refine mv_if_lt dX10_doesBy_107 hs (fun _ hs => ?_) (fun _ hs => ?_)
    · exact mv_weak (lv' := [.ref 55, .int v1, .int v2, .int v3, .float 0, .float 0, .float 0]) (mv_s (mv_s (mv_s (mv_s (mv_k (mv_k (mv_s mv_n))))))) (BX10_doesBy_55_b126 G d D (by omega) P _ _ hk5 _ _ _ hs)
    · refine mv_aload_n dX10_doesBy_110 rfl ?_
      refine mv_iload dX10_doesBy_111 rfl ?_
      refine mv_cV (st := []) dX10_doesBy_113 kk_X10_203 (TX10_paper_55 G d _ _ _ (mv_sat_bind hs)) so_55 vc_10 rfl rfl (Nat.le_of_ble_eq_true rfl) (by omega) rfl ⟨Nat.zero_le _, Nat.zero_le _⟩ (mv_ki fun r470 hs => ?_)
      refine mv_aload_n dX10_doesBy_116 rfl ?_
      refine mv_iload_n dX10_doesBy_117 rfl ?_
      refine mv_iconst 2 dX10_doesBy_118 (by decide) ?_
      refine mv_idivk dX10_doesBy_119 (by decide) ?_
      refine mv_cV (st := [.int r470]) dX10_doesBy_120 kk_X10_203 (TX10_paper_55 G d _ _ _ (mv_sat_bind hs)) so_55 vc_10 rfl rfl (Nat.le_of_ble_eq_true rfl) (by omega) rfl ⟨Nat.zero_le _, Nat.zero_le _⟩ (mv_ki fun r471 hs => ?_)
      refine mv_icmp_ge dX10_doesBy_123 hs (fun _ hs => ?_) (fun _ hs => ?_)
      · exact mv_weak (lv' := [.ref 55, .int v1, .int v2, .int v3, .float 0, .float 0, .float 0]) (mv_s (mv_s (mv_s (mv_s (mv_k (mv_k (mv_s mv_n))))))) (BX10_doesBy_55_b126 G d D (by omega) P _ _ hk5 _ _ _ hs)
      · exact mv_weak (lv' := [.ref 55, .int v1, .int v2, .int v3, .float 0, .float 0, .float 0]) (mv_s (mv_s (mv_s (mv_s (mv_k (mv_k (mv_s mv_n))))))) (BX10_doesBy_55_b130 G d D (by omega) P _ _ hk5 _ _ _ hs)
noncomputable def fX10_doesBy_55_b58 (k5 : Int32 → Int32 → Int32 → mv_H → Option (Int32)) (v1 : Int32) (v2 : Int32) (v3 : Int32) (v4 : Int32) (h : mv_H) : Option (Int32) := fX10_doesBy_55_b99 k5 v1 v2 v3 v4 0 h
set_option maxRecDepth 100000 in
set_option maxHeartbeats 4000000 in
theorem BX10_doesBy_55_b58 (G : mv_G) (d D : Nat) (hD : d + 1 ≤ D) (P : Int32 → Prop) (k5 : Int32 → Int32 → Int32 → mv_H → Option (Int32)) (h : mv_H) (hk5 : ∀ (v1 : Int32) (v2 : Int32) (v3 : Int32), mv_sat (k5 v1 v2 v3 h) P → mv_MW G mX10_doesBy (mv_rm D mX10_doesBy) (mv_Zf G mX10_doesBy (mv_qi mv_SH h P)) 0 0 5 [.ref 55, .int v1, .int v2, .int v3, .float 0, .float 0, .float 0] [] mv_SH h) (v1 : Int32) (v2 : Int32) (v3 : Int32) (v4 : Int32) (hs : mv_sat (fX10_doesBy_55_b58 k5 v1 v2 v3 v4 h) P) : mv_MW G mX10_doesBy (mv_rm D mX10_doesBy) (mv_Zf G mX10_doesBy (mv_qi mv_SH h P)) 0 0 58 [.ref 55, .int v1, .int v2, .int v3, .int v4, .float 0, .float 0] [] mv_SH h := by
  unfold fX10_doesBy_55_b58 at hs
  refine mv_iconst 0 dX10_doesBy_58 (by decide) ?_
  refine mv_goto dX10_doesBy_59 ?_
  exact (BX10_doesBy_55_b99 G d D (by omega) P _ _ hk5 _ _ _ _ _ hs)
noncomputable def fX10_doesBy_55_b98 (k5 : Int32 → Int32 → Int32 → mv_H → Option (Int32)) (v1 : Int32) (v2 : Int32) (v3 : Int32) (v4 : Int32) (h : mv_H) : Option (Int32) := fX10_doesBy_55_b99 k5 v1 v2 v3 v4 0 h
set_option maxRecDepth 100000 in
set_option maxHeartbeats 4000000 in
theorem BX10_doesBy_55_b98 (G : mv_G) (d D : Nat) (hD : d + 1 ≤ D) (P : Int32 → Prop) (k5 : Int32 → Int32 → Int32 → mv_H → Option (Int32)) (h : mv_H) (hk5 : ∀ (v1 : Int32) (v2 : Int32) (v3 : Int32), mv_sat (k5 v1 v2 v3 h) P → mv_MW G mX10_doesBy (mv_rm D mX10_doesBy) (mv_Zf G mX10_doesBy (mv_qi mv_SH h P)) 0 0 5 [.ref 55, .int v1, .int v2, .int v3, .float 0, .float 0, .float 0] [] mv_SH h) (v1 : Int32) (v2 : Int32) (v3 : Int32) (v4 : Int32) (hs : mv_sat (fX10_doesBy_55_b98 k5 v1 v2 v3 v4 h) P) : mv_MW G mX10_doesBy (mv_rm D mX10_doesBy) (mv_Zf G mX10_doesBy (mv_qi mv_SH h P)) 0 0 98 [.ref 55, .int v1, .int v2, .int v3, .int v4, .float 0, .float 0] [] mv_SH h := by
  unfold fX10_doesBy_55_b98 at hs
  refine mv_iconst 0 dX10_doesBy_98 (by decide) ?_
  exact (BX10_doesBy_55_b99 G d D (by omega) P _ _ hk5 _ _ _ _ _ hs)
noncomputable def fX10_doesBy_55_b5 : Nat → Int32 → Int32 → Int32 → mv_H → Option (Int32)
  | 0, _, _, _, _ => none
  | n + 1, v1, v2, v3, h => if v3 < 6 then (mv_let (v3 / 2) fun x469 : Int32 => if (v3 - v3 / 2 * 2) = 0 then (if mv_in x469 3 then (if mv_in v1 6 then (if (h 58 v1.toNatClampNeg) < (h 65 x469.toNatClampNeg) then fX10_doesBy_55_b58 (fX10_doesBy_55_b5 n) v1 v2 v3 x469 h else if mv_in x469 3 then (if mv_in v1 6 then (if (h 59 v1.toNatClampNeg) < (h 66 x469.toNatClampNeg) then fX10_doesBy_55_b58 (fX10_doesBy_55_b5 n) v1 v2 v3 x469 h else fX10_doesBy_55_b99 (fX10_doesBy_55_b5 n) v1 v2 v3 x469 1 h) else none) else none) else none) else none) else if mv_in x469 3 then (if mv_in v1 6 then (if (h 59 v1.toNatClampNeg) < (h 65 x469.toNatClampNeg) then fX10_doesBy_55_b98 (fX10_doesBy_55_b5 n) v1 v2 v3 x469 h else if mv_in x469 3 then (if mv_in v1 6 then (if (h 58 v1.toNatClampNeg) < (h 66 x469.toNatClampNeg) then fX10_doesBy_55_b98 (fX10_doesBy_55_b5 n) v1 v2 v3 x469 h else fX10_doesBy_55_b99 (fX10_doesBy_55_b5 n) v1 v2 v3 x469 1 h) else none) else none) else none) else none) else some v2
set_option maxRecDepth 100000 in
set_option maxHeartbeats 4000000 in
theorem BX10_doesBy_55_b5 (G : mv_G) (d D : Nat) (hD : d + 1 ≤ D) (P : Int32 → Prop) (h : mv_H) : ∀ (n : Nat) (v1 : Int32) (v2 : Int32) (v3 : Int32), mv_sat (fX10_doesBy_55_b5 n v1 v2 v3 h) P → mv_MW G mX10_doesBy (mv_rm D mX10_doesBy) (mv_Zf G mX10_doesBy (mv_qi mv_SH h P)) 0 0 5 [.ref 55, .int v1, .int v2, .int v3, .float 0, .float 0, .float 0] [] mv_SH h := by
  intro n
  induction n with
  | zero =>
    intro v1 v2 v3 hs
    unfold fX10_doesBy_55_b5 at hs
    exact (mv_sat_none hs).elim
  | succ n ih =>
    intro v1 v2 v3 hs
    unfold fX10_doesBy_55_b5 at hs
    refine mv_iload_n dX10_doesBy_5 rfl ?_
    refine mv_bipush 6 dX10_doesBy_6 (by decide) ?_
    refine mv_icmp_ge dX10_doesBy_8 hs (fun _ hs => ?_) (fun _ hs => ?_)
    · refine mv_iload_n dX10_doesBy_11 rfl ?_
      refine mv_iconst 2 dX10_doesBy_12 (by decide) ?_
      refine mv_idivk dX10_doesBy_13 (by decide) ?_
      refine mv_name hs (fun x469 hs => ?_)
      refine mv_istore (lv' := [.ref 55, .int v1, .int v2, .int v3, .int x469, .float 0, .float 0]) dX10_doesBy_14 (Nat.le_of_ble_eq_true rfl) rfl rfl ?_
      refine mv_iload_n dX10_doesBy_16 rfl ?_
      refine mv_iconst 2 dX10_doesBy_17 (by decide) ?_
      refine mv_iremk dX10_doesBy_18 (by decide) ?_
      refine mv_if_ne dX10_doesBy_19 hs (fun _ hs => ?_) (fun _ hs => ?_)
      · refine mv_aload_n dX10_doesBy_22 rfl ?_
        refine mv_getr dX10_doesBy_23 kf_X10_37 gf_55_23 ?_
        refine mv_iload dX10_doesBy_26 rfl ?_
        refine mv_iaload dX10_doesBy_28 so_65 hs (fun hs => ?_)
        refine mv_aload_n dX10_doesBy_29 rfl ?_
        refine mv_getr dX10_doesBy_30 kf_X10_16 gf_55_5 ?_
        refine mv_iload_n dX10_doesBy_33 rfl ?_
        refine mv_iaload dX10_doesBy_34 so_58 hs (fun hs => ?_)
        refine mv_icmp_gt dX10_doesBy_35 hs (fun _ hs => ?_) (fun _ hs => ?_)
        · exact (BX10_doesBy_55_b58 G d D (by omega) P _ _ ih _ _ _ _ hs)
        · refine mv_aload_n dX10_doesBy_38 rfl ?_
          refine mv_getr dX10_doesBy_39 kf_X10_40 gf_55_24 ?_
          refine mv_iload dX10_doesBy_42 rfl ?_
          refine mv_iaload dX10_doesBy_44 so_66 hs (fun hs => ?_)
          refine mv_aload_n dX10_doesBy_45 rfl ?_
          refine mv_getr dX10_doesBy_46 kf_X10_19 gf_55_6 ?_
          refine mv_iload_n dX10_doesBy_49 rfl ?_
          refine mv_iaload dX10_doesBy_50 so_59 hs (fun hs => ?_)
          refine mv_icmp_gt dX10_doesBy_51 hs (fun _ hs => ?_) (fun _ hs => ?_)
          · exact (BX10_doesBy_55_b58 G d D (by omega) P _ _ ih _ _ _ _ hs)
          · refine mv_iconst 1 dX10_doesBy_54 (by decide) ?_
            refine mv_goto dX10_doesBy_55 ?_
            exact (BX10_doesBy_55_b99 G d D (by omega) P _ _ ih _ _ _ _ _ hs)
      · refine mv_aload_n dX10_doesBy_62 rfl ?_
        refine mv_getr dX10_doesBy_63 kf_X10_37 gf_55_23 ?_
        refine mv_iload dX10_doesBy_66 rfl ?_
        refine mv_iaload dX10_doesBy_68 so_65 hs (fun hs => ?_)
        refine mv_aload_n dX10_doesBy_69 rfl ?_
        refine mv_getr dX10_doesBy_70 kf_X10_19 gf_55_6 ?_
        refine mv_iload_n dX10_doesBy_73 rfl ?_
        refine mv_iaload dX10_doesBy_74 so_59 hs (fun hs => ?_)
        refine mv_icmp_gt dX10_doesBy_75 hs (fun _ hs => ?_) (fun _ hs => ?_)
        · exact (BX10_doesBy_55_b98 G d D (by omega) P _ _ ih _ _ _ _ hs)
        · refine mv_aload_n dX10_doesBy_78 rfl ?_
          refine mv_getr dX10_doesBy_79 kf_X10_40 gf_55_24 ?_
          refine mv_iload dX10_doesBy_82 rfl ?_
          refine mv_iaload dX10_doesBy_84 so_66 hs (fun hs => ?_)
          refine mv_aload_n dX10_doesBy_85 rfl ?_
          refine mv_getr dX10_doesBy_86 kf_X10_16 gf_55_5 ?_
          refine mv_iload_n dX10_doesBy_89 rfl ?_
          refine mv_iaload dX10_doesBy_90 so_58 hs (fun hs => ?_)
          refine mv_icmp_gt dX10_doesBy_91 hs (fun _ hs => ?_) (fun _ hs => ?_)
          · exact (BX10_doesBy_55_b98 G d D (by omega) P _ _ ih _ _ _ _ hs)
          · refine mv_iconst 1 dX10_doesBy_94 (by decide) ?_
            refine mv_goto dX10_doesBy_95 ?_
            exact (BX10_doesBy_55_b99 G d D (by omega) P _ _ ih _ _ _ _ _ hs)
    · refine mv_iload_n dX10_doesBy_150 rfl ?_
      exact mv_iret dX10_doesBy_151 rfl ⟨_, rfl, rfl, rfl, mv_sat_some hs⟩
noncomputable def fX10_doesBy_55 (p0 : Int32) (h : mv_H) : Option (Int32) := fX10_doesBy_55_b5 mv_F p0 (-6) 0 h
set_option maxRecDepth 100000 in
set_option maxHeartbeats 4000000 in
theorem TX10_doesBy_55 (G : mv_G) (d : Nat) (P : Int32 → Prop) (p0 : Int32) (h : mv_H) (hs : mv_sat (fX10_doesBy_55 p0 h) P) : mv_met G (d + 1) mX10_doesBy [.ref 55, .int p0] mv_SH h (mv_qi mv_SH h P) := by
  unfold fX10_doesBy_55 at hs
  obtain ⟨D, hDe⟩ : ∃ D, D = d + 1 := ⟨_, rfl⟩
  rw [← hDe]
  have hD : d + 1 ≤ D := by omega
  refine mv_enter (lv := [.ref 55, .int p0, .float 0, .float 0, .float 0, .float 0, .float 0]) 5 (by decide) (by decide +kernel) rfl (Nat.le_of_ble_eq_true rfl) ?_
  refine mv_bipush (-6) dX10_doesBy_0 (by decide) ?_
  refine mv_istore_n (lv' := [.ref 55, .int p0, .int (-6), .float 0, .float 0, .float 0, .float 0]) dX10_doesBy_2 (Nat.le_of_ble_eq_true rfl) rfl rfl ?_
  refine mv_iconst 0 dX10_doesBy_3 (by decide) ?_
  refine mv_istore_n (lv' := [.ref 55, .int p0, .int (-6), .int 0, .float 0, .float 0, .float 0]) dX10_doesBy_4 (Nat.le_of_ble_eq_true rfl) rfl rfl ?_
  exact (BX10_doesBy_55_b5 G d D (by omega) P _ _ _ _ _ hs)
noncomputable def fX10_areaOf_55 (p0 : Int32) (h : mv_H) : Option (Int32) := if mv_in p0 6 then (if mv_in p0 6 then (some ((h 58 p0.toNatClampNeg) * (h 59 p0.toNatClampNeg))) else none) else none
set_option maxRecDepth 100000 in
set_option maxHeartbeats 4000000 in
theorem TX10_areaOf_55 (G : mv_G) (d : Nat) (P : Int32 → Prop) (p0 : Int32) (h : mv_H) (hs : mv_sat (fX10_areaOf_55 p0 h) P) : mv_met G (d + 0) mX10_areaOf [.ref 55, .int p0] mv_SH h (mv_qi mv_SH h P) := by
  unfold fX10_areaOf_55 at hs
  obtain ⟨D, hDe⟩ : ∃ D, D = d + 0 := ⟨_, rfl⟩
  rw [← hDe]
  have hD : d + 0 ≤ D := by omega
  refine mv_enter (lv := [.ref 55, .int p0]) 0 (by decide) (by decide +kernel) rfl (Nat.le_of_ble_eq_true rfl) ?_
  refine mv_aload_n dX10_areaOf_0 rfl ?_
  refine mv_getr dX10_areaOf_1 kf_X10_16 gf_55_5 ?_
  refine mv_iload_n dX10_areaOf_4 rfl ?_
  refine mv_iaload dX10_areaOf_5 so_58 hs (fun hs => ?_)
  refine mv_aload_n dX10_areaOf_6 rfl ?_
  refine mv_getr dX10_areaOf_7 kf_X10_19 gf_55_6 ?_
  refine mv_iload_n dX10_areaOf_10 rfl ?_
  refine mv_iaload dX10_areaOf_11 so_59 hs (fun hs => ?_)
  refine mv_imul dX10_areaOf_12 ?_
  exact mv_iret dX10_areaOf_13 rfl ⟨_, rfl, rfl, rfl, mv_sat_some hs⟩
noncomputable def fX10_does_55 (p0 : Int32) (p1 : Int32) (p2 : Int32) (h : mv_H) : Option (Int32 × mv_H) := (fX10_isBox_55 p0 h).bind fun r465 => if r465 = 0 then some ((-1), h) else (fX10_isSheet_55 p1 h).bind fun r466 => if r466 = 0 then some ((-1), h) else (fX10_in (Int32.toInt64 p2) (0 : Int64) (2 : Int64)).bind fun r467 => if r467 = 0 then some ((-2), h) else (fX10_look_55 p0 h).bind fun r468 => (fX10_doesBy_55 p1 r468).bind fun r472 => if r472 < 0 then some ((-6), r468) else if p2 = 0 then some (r472 / 2, r468) else if p2 = 1 then some (r472 - r472 / 2 * 2, r468) else (fX10_areaOf_55 p1 r468).bind fun r473 => (fX10_paper_55 (r472 / 2) r468).bind fun r474 => some (r473 - r474, r468)
set_option maxRecDepth 100000 in
set_option maxHeartbeats 4000000 in
theorem TX10_does_55 (G : mv_G) (d : Nat) (P : Int32 × mv_H → Prop) (p0 : Int32) (p1 : Int32) (p2 : Int32) (h : mv_H) (hs : mv_sat (fX10_does_55 p0 p1 p2 h) P) : mv_met G (d + 3) mX10_does [.ref 55, .int p0, .int p1, .int p2] mv_SH h (mv_qI mv_SH P) := by
  unfold fX10_does_55 at hs
  obtain ⟨D, hDe⟩ : ∃ D, D = d + 3 := ⟨_, rfl⟩
  rw [← hDe]
  have hD : d + 3 ≤ D := by omega
  refine mv_enter (lv := [.ref 55, .int p0, .int p1, .int p2, .float 0]) 1 (by decide) (by decide +kernel) rfl (Nat.le_of_ble_eq_true rfl) ?_
  refine mv_aload_n dX10_does_0 rfl ?_
  refine mv_iload_n dX10_does_1 rfl ?_
  refine mv_cV (st := []) dX10_does_2 kk_X10_146 (TX10_isBox_55 G d _ _ _ (mv_sat_bind hs)) so_55 vc_10 rfl rfl (Nat.le_of_ble_eq_true rfl) (by omega) rfl ⟨Nat.zero_le _, Nat.zero_le _⟩ (mv_ki fun r465 hs => ?_)
  refine mv_if_eq dX10_does_5 hs (fun _ hs => ?_) (fun _ hs => ?_)
  · refine mv_iconst (-1) dX10_does_16 (by decide) ?_
    exact mv_iret dX10_does_17 rfl ⟨((-1), h), rfl, rfl, rfl, mv_sat_some hs⟩
  · refine mv_aload_n dX10_does_8 rfl ?_
    refine mv_iload_n dX10_does_9 rfl ?_
    refine mv_cV (st := []) dX10_does_10 kk_X10_152 (TX10_isSheet_55 G d _ _ _ (mv_sat_bind hs)) so_55 vc_10 rfl rfl (Nat.le_of_ble_eq_true rfl) (by omega) rfl ⟨Nat.zero_le _, Nat.zero_le _⟩ (mv_ki fun r466 hs => ?_)
    refine mv_if_ne dX10_does_13 hs (fun _ hs => ?_) (fun _ hs => ?_)
    · refine mv_iconst (-1) dX10_does_16 (by decide) ?_
      exact mv_iret dX10_does_17 rfl ⟨((-1), h), rfl, rfl, rfl, mv_sat_some hs⟩
    · refine mv_iload_n dX10_does_18 rfl ?_
      refine mv_i2l dX10_does_19 ?_
      refine mv_lconst 0 dX10_does_20 rfl ?_
      refine mv_ldc2 dX10_does_21 kn_X10_144 ?_
      refine mv_cS (st := []) dX10_does_24 kk_X10_104 (TX10_in G d _ _ _ _ _ (mv_sat_bind hs)) rfl rfl (Nat.le_of_ble_eq_true rfl) (by omega) rfl ⟨Nat.zero_le _, Nat.zero_le _⟩ (mv_ki fun r467 hs => ?_)
      refine mv_if_ne dX10_does_27 hs (fun _ hs => ?_) (fun _ hs => ?_)
      · refine mv_bipush (-2) dX10_does_30 (by decide) ?_
        exact mv_iret dX10_does_32 rfl ⟨((-2), h), rfl, rfl, rfl, mv_sat_some hs⟩
      · refine mv_aload_n dX10_does_33 rfl ?_
        refine mv_iload_n dX10_does_34 rfl ?_
        refine mv_cV (st := []) dX10_does_35 kk_X10_209 (TX10_look_55 G d _ _ _ (mv_sat_bind hs)) so_55 vc_10 rfl rfl (Nat.le_of_ble_eq_true rfl) (by omega) rfl ⟨Nat.zero_le _, Nat.zero_le _⟩ (mv_kv fun r468 hs => ?_)
        refine mv_aload_n dX10_does_38 rfl ?_
        refine mv_iload_n dX10_does_39 rfl ?_
        refine mv_cV (st := []) dX10_does_40 kk_X10_216 (TX10_doesBy_55 G d _ _ _ (mv_sat_bind hs)) so_55 vc_10 rfl rfl (Nat.le_of_ble_eq_true rfl) (by omega) rfl ⟨Nat.zero_le _, Nat.zero_le _⟩ (mv_ki fun r472 hs => ?_)
        refine mv_istore (lv' := [.ref 55, .int p0, .int p1, .int p2, .int r472]) dX10_does_43 (Nat.le_of_ble_eq_true rfl) rfl rfl ?_
        refine mv_iload dX10_does_45 rfl ?_
        refine mv_if_ge dX10_does_47 hs (fun _ hs => ?_) (fun _ hs => ?_)
        · refine mv_bipush (-6) dX10_does_50 (by decide) ?_
          refine mv_goto dX10_does_52 ?_
          exact mv_iret dX10_does_92 rfl ⟨((-6), r468), rfl, rfl, rfl, mv_sat_some hs⟩
        · refine mv_iload_n dX10_does_55 rfl ?_
          refine mv_if_ne dX10_does_56 hs (fun _ hs => ?_) (fun _ hs => ?_)
          · refine mv_iload dX10_does_59 rfl ?_
            refine mv_iconst 2 dX10_does_61 (by decide) ?_
            refine mv_idivk dX10_does_62 (by decide) ?_
            refine mv_goto dX10_does_63 ?_
            exact mv_iret dX10_does_92 rfl ⟨(r472 / 2, r468), rfl, rfl, rfl, mv_sat_some hs⟩
          · refine mv_iload_n dX10_does_66 rfl ?_
            refine mv_iconst 1 dX10_does_67 (by decide) ?_
            refine mv_icmp_ne dX10_does_68 hs (fun _ hs => ?_) (fun _ hs => ?_)
            · refine mv_iload dX10_does_71 rfl ?_
              refine mv_iconst 2 dX10_does_73 (by decide) ?_
              refine mv_iremk dX10_does_74 (by decide) ?_
              refine mv_goto dX10_does_75 ?_
              exact mv_iret dX10_does_92 rfl ⟨(r472 - r472 / 2 * 2, r468), rfl, rfl, rfl, mv_sat_some hs⟩
            · refine mv_aload_n dX10_does_78 rfl ?_
              refine mv_iload_n dX10_does_79 rfl ?_
              refine mv_cV (st := []) dX10_does_80 kk_X10_219 (TX10_areaOf_55 G d _ _ _ (mv_sat_bind hs)) so_55 vc_10 rfl rfl (Nat.le_of_ble_eq_true rfl) (by omega) rfl ⟨Nat.zero_le _, Nat.zero_le _⟩ (mv_ki fun r473 hs => ?_)
              refine mv_aload_n dX10_does_83 rfl ?_
              refine mv_iload dX10_does_84 rfl ?_
              refine mv_iconst 2 dX10_does_86 (by decide) ?_
              refine mv_idivk dX10_does_87 (by decide) ?_
              refine mv_cV (st := [.int r473]) dX10_does_88 kk_X10_203 (TX10_paper_55 G d _ _ _ (mv_sat_bind hs)) so_55 vc_10 rfl rfl (Nat.le_of_ble_eq_true rfl) (by omega) rfl ⟨Nat.zero_le _, Nat.zero_le _⟩ (mv_ki fun r474 hs => ?_)
              refine mv_isub dX10_does_91 ?_
              exact mv_iret dX10_does_92 rfl ⟨(r473 - r474, r468), rfl, rfl, rfl, mv_sat_some hs⟩
noncomputable def fX9_sheetsDoingFor_0_b75 (k11 : Int32 → Int32 → mv_H → Option (Int32 × mv_H)) (v3 : Int32) (v4 : Int32) (h : mv_H) : Option (Int32 × mv_H) := k11 v3 (v4 + 1) h
set_option maxRecDepth 100000 in
set_option maxHeartbeats 4000000 in
theorem BX9_sheetsDoingFor_0_b75 (G : mv_G) (d D : Nat) (hD : d + 0 ≤ D) (P : Int32 × mv_H → Prop) (k11 : Int32 → Int32 → mv_H → Option (Int32 × mv_H)) (hk11 : ∀ (v3 : Int32) (v4 : Int32) (h : mv_H), mv_sat (k11 v3 v4 h) P → mv_MW G mX9_sheetsDoingFor (mv_rm D mX9_sheetsDoingFor) (mv_Zf G mX9_sheetsDoingFor (mv_qI mv_SH P)) 0 0 11 [.ref 0, .float 0, .ref 38, .int v3, .int v4] [] mv_SH h) (v3 : Int32) (v4 : Int32) (h : mv_H) (hs : mv_sat (fX9_sheetsDoingFor_0_b75 k11 v3 v4 h) P) : mv_MW G mX9_sheetsDoingFor (mv_rm D mX9_sheetsDoingFor) (mv_Zf G mX9_sheetsDoingFor (mv_qI mv_SH P)) 0 0 75 [.ref 0, .float 0, .ref 38, .int v3, .int v4] [] mv_SH h := by
  unfold fX9_sheetsDoingFor_0_b75 at hs
  refine mv_iinc (lv' := [.ref 0, .float 0, .ref 38, .int v3, .int (v4 + 1)]) 1 dX9_sheetsDoingFor_75 rfl (by decide) (Nat.le_of_ble_eq_true rfl) rfl rfl ?_
  refine mv_goto dX9_sheetsDoingFor_78 ?_
  exact (hk11 _ _ _ hs)
noncomputable def fX9_sheetsDoingFor_0_b11 : Nat → Int32 → Int32 → mv_H → Option (Int32 × mv_H)
  | 0, _, _, _ => none
  | n + 1, v3, v4, h => if v4 < 6 then ((fX7_has_6 v4 h).bind fun r478 => if r478 = 0 then fX9_sheetsDoingFor_0_b75 (fX9_sheetsDoingFor_0_b11 n) v3 v4 h else (fX7_side_6 v4 (0 : Int32) h).bind fun r479 => (fX7_side_6 v4 (1 : Int32) h).bind fun r480 => (fX8_wayOnSheet_38 r479 r480 h).bind fun r481 => if r481 = (-6) then fX9_sheetsDoingFor_0_b75 (fX9_sheetsDoingFor_0_b11 n) v3 v4 h else mv_let (v3 ||| (1 <<< (v4 &&& 31))) fun x482 : Int32 => fX9_sheetsDoingFor_0_b75 (fX9_sheetsDoingFor_0_b11 n) x482 v4 h) else some (v3, h)
set_option maxRecDepth 100000 in
set_option maxHeartbeats 4000000 in
theorem BX9_sheetsDoingFor_0_b11 (G : mv_G) (d D : Nat) (hD : d + 4 ≤ D) (P : Int32 × mv_H → Prop) : ∀ (n : Nat) (v3 : Int32) (v4 : Int32) (h : mv_H), mv_sat (fX9_sheetsDoingFor_0_b11 n v3 v4 h) P → mv_MW G mX9_sheetsDoingFor (mv_rm D mX9_sheetsDoingFor) (mv_Zf G mX9_sheetsDoingFor (mv_qI mv_SH P)) 0 0 11 [.ref 0, .float 0, .ref 38, .int v3, .int v4] [] mv_SH h := by
  intro n
  induction n with
  | zero =>
    intro v3 v4 h hs
    unfold fX9_sheetsDoingFor_0_b11 at hs
    exact (mv_sat_none hs).elim
  | succ n ih =>
    intro v3 v4 h hs
    unfold fX9_sheetsDoingFor_0_b11 at hs
    refine mv_iload dX9_sheetsDoingFor_11 rfl ?_
    refine mv_bipush 6 dX9_sheetsDoingFor_13 (by decide) ?_
    refine mv_icmp_ge dX9_sheetsDoingFor_15 hs (fun _ hs => ?_) (fun _ hs => ?_)
    · refine mv_aload_n dX9_sheetsDoingFor_18 rfl ?_
      refine mv_getr dX9_sheetsDoingFor_19 kf_X9_10 gf_0_0 ?_
      refine mv_getr dX9_sheetsDoingFor_22 kf_X9_83 gf_1_2 ?_
      refine mv_iload dX9_sheetsDoingFor_25 rfl ?_
      refine mv_cV (st := []) dX9_sheetsDoingFor_27 kk_X9_100 (TX7_has_6 G d _ _ _ (mv_sat_bind hs)) so_6 vc_7 rfl rfl (Nat.le_of_ble_eq_true rfl) (by omega) rfl ⟨Nat.zero_le _, Nat.zero_le _⟩ (mv_ki fun r478 hs => ?_)
      refine mv_if_eq dX9_sheetsDoingFor_30 hs (fun _ hs => ?_) (fun _ hs => ?_)
      · exact (BX9_sheetsDoingFor_0_b75 G d D (by omega) P _ ih _ _ _ hs)
      · refine mv_aload_n dX9_sheetsDoingFor_33 rfl ?_
        refine mv_aload_n dX9_sheetsDoingFor_34 rfl ?_
        refine mv_getr dX9_sheetsDoingFor_35 kf_X9_10 gf_0_0 ?_
        refine mv_getr dX9_sheetsDoingFor_38 kf_X9_83 gf_1_2 ?_
        refine mv_iload dX9_sheetsDoingFor_41 rfl ?_
        refine mv_iconst 0 dX9_sheetsDoingFor_43 (by decide) ?_
        refine mv_cV (st := [.ref 38]) dX9_sheetsDoingFor_44 kk_X9_163 (TX7_side_6 G d _ _ _ _ (mv_sat_bind hs)) so_6 vc_7 rfl rfl (Nat.le_of_ble_eq_true rfl) (by omega) rfl ⟨Nat.zero_le _, Nat.zero_le _⟩ (mv_ki fun r479 hs => ?_)
        refine mv_aload_n dX9_sheetsDoingFor_47 rfl ?_
        refine mv_getr dX9_sheetsDoingFor_48 kf_X9_10 gf_0_0 ?_
        refine mv_getr dX9_sheetsDoingFor_51 kf_X9_83 gf_1_2 ?_
        refine mv_iload dX9_sheetsDoingFor_54 rfl ?_
        refine mv_iconst 1 dX9_sheetsDoingFor_56 (by decide) ?_
        refine mv_cV (st := [.int r479, .ref 38]) dX9_sheetsDoingFor_57 kk_X9_163 (TX7_side_6 G d _ _ _ _ (mv_sat_bind hs)) so_6 vc_7 rfl rfl (Nat.le_of_ble_eq_true rfl) (by omega) rfl ⟨Nat.zero_le _, Nat.zero_le _⟩ (mv_ki fun r480 hs => ?_)
        refine mv_cV (st := []) dX9_sheetsDoingFor_60 kk_X9_167 (TX8_wayOnSheet_38 G d _ _ _ _ (mv_sat_bind hs)) so_38 vc_8 rfl rfl (Nat.le_of_ble_eq_true rfl) (by omega) rfl ⟨Nat.zero_le _, Nat.zero_le _⟩ (mv_ki fun r481 hs => ?_)
        refine mv_bipush (-6) dX9_sheetsDoingFor_63 (by decide) ?_
        refine mv_icmp_eq dX9_sheetsDoingFor_65 hs (fun _ hs => ?_) (fun _ hs => ?_)
        · exact (BX9_sheetsDoingFor_0_b75 G d D (by omega) P _ ih _ _ _ hs)
        · refine mv_iload_n dX9_sheetsDoingFor_68 rfl ?_
          refine mv_iconst 1 dX9_sheetsDoingFor_69 (by decide) ?_
          refine mv_iload dX9_sheetsDoingFor_70 rfl ?_
          refine mv_ishl dX9_sheetsDoingFor_72 ?_
          refine mv_ior dX9_sheetsDoingFor_73 ?_
          refine mv_name hs (fun x482 hs => ?_)
          refine mv_istore_n (lv' := [.ref 0, .float 0, .ref 38, .int x482, .int v4]) dX9_sheetsDoingFor_74 (Nat.le_of_ble_eq_true rfl) rfl rfl ?_
          exact (BX9_sheetsDoingFor_0_b75 G d D (by omega) P _ ih _ _ _ hs)
    · refine mv_iload_n dX9_sheetsDoingFor_81 rfl ?_
      exact mv_iret dX9_sheetsDoingFor_82 rfl ⟨(v3, h), rfl, rfl, rfl, mv_sat_some hs⟩
noncomputable def fX9_sheetsDoingFor_0 (p0 : Int32) (h : mv_H) : Option (Int32 × mv_H) := (fX9_wrapOf_0 p0 h).bind fun r477 => fX9_sheetsDoingFor_0_b11 mv_F 0 0 r477
set_option maxRecDepth 100000 in
set_option maxHeartbeats 4000000 in
theorem TX9_sheetsDoingFor_0 (G : mv_G) (d : Nat) (P : Int32 × mv_H → Prop) (p0 : Int32) (h : mv_H) (hs : mv_sat (fX9_sheetsDoingFor_0 p0 h) P) : mv_met G (d + 4) mX9_sheetsDoingFor [.ref 0, .int p0] mv_SH h (mv_qI mv_SH P) := by
  unfold fX9_sheetsDoingFor_0 at hs
  obtain ⟨D, hDe⟩ : ∃ D, D = d + 4 := ⟨_, rfl⟩
  rw [← hDe]
  have hD : d + 4 ≤ D := by omega
  refine mv_enter (lv := [.ref 0, .int p0, .float 0, .float 0, .float 0]) 3 (by decide) (by decide +kernel) rfl (Nat.le_of_ble_eq_true rfl) ?_
  refine mv_aload_n dX9_sheetsDoingFor_0 rfl ?_
  refine mv_iload_n dX9_sheetsDoingFor_1 rfl ?_
  refine mv_cV (st := []) dX9_sheetsDoingFor_2 kk_X9_144 (TX9_wrapOf_0 G d _ _ _ (mv_sat_bind hs)) so_0 vc_9 rfl rfl (Nat.le_of_ble_eq_true rfl) (by omega) rfl ⟨Nat.zero_le _, Nat.zero_le _⟩ (mv_kc fun r477 hs => ?_)
  refine mv_astore_n (lv' := [.ref 0, .int p0, .ref 38, .float 0, .float 0]) dX9_sheetsDoingFor_5 (Nat.le_of_ble_eq_true rfl) rfl rfl ?_
  refine mv_iconst 0 dX9_sheetsDoingFor_6 (by decide) ?_
  refine mv_istore_n (lv' := [.ref 0, .int p0, .ref 38, .int 0, .float 0]) dX9_sheetsDoingFor_7 (Nat.le_of_ble_eq_true rfl) rfl rfl ?_
  refine mv_iconst 0 dX9_sheetsDoingFor_8 (by decide) ?_
  refine mv_istore (lv' := [.ref 0, .int p0, .ref 38, .int 0, .int 0]) dX9_sheetsDoingFor_9 (Nat.le_of_ble_eq_true rfl) rfl rfl ?_
  exact mv_weak (lv' := [.ref 0, .float 0, .ref 38, .int 0, .int 0]) (mv_s (mv_k (mv_s (mv_s (mv_s mv_n))))) (BX9_sheetsDoingFor_0_b11 G d D (by omega) P _ _ _ _ hs)
noncomputable def fX7_leastAreaOf_6_b40 (k5 : Int32 → Int32 → Int32 → mv_H → Option (Int32)) (v1 : Int32) (v2 : Int32) (v3 : Int32) (h : mv_H) : Option (Int32) := k5 v1 v2 (v3 + 1) h
set_option maxRecDepth 100000 in
set_option maxHeartbeats 4000000 in
theorem BX7_leastAreaOf_6_b40 (G : mv_G) (d D : Nat) (hD : d + 0 ≤ D) (P : Int32 → Prop) (k5 : Int32 → Int32 → Int32 → mv_H → Option (Int32)) (h : mv_H) (hk5 : ∀ (v1 : Int32) (v2 : Int32) (v3 : Int32), mv_sat (k5 v1 v2 v3 h) P → mv_MW G mX7_leastAreaOf (mv_rm D mX7_leastAreaOf) (mv_Zf G mX7_leastAreaOf (mv_qi mv_SH h P)) 0 0 5 [.ref 6, .int v1, .int v2, .int v3] [] mv_SH h) (v1 : Int32) (v2 : Int32) (v3 : Int32) (hs : mv_sat (fX7_leastAreaOf_6_b40 k5 v1 v2 v3 h) P) : mv_MW G mX7_leastAreaOf (mv_rm D mX7_leastAreaOf) (mv_Zf G mX7_leastAreaOf (mv_qi mv_SH h P)) 0 0 40 [.ref 6, .int v1, .int v2, .int v3] [] mv_SH h := by
  unfold fX7_leastAreaOf_6_b40 at hs
  refine mv_iinc (lv' := [.ref 6, .int v1, .int v2, .int (v3 + 1)]) 1 dX7_leastAreaOf_40 rfl (by decide) (Nat.le_of_ble_eq_true rfl) rfl rfl ?_
  refine mv_goto dX7_leastAreaOf_43 ?_
  exact (hk5 _ _ _ hs)
noncomputable def fX7_leastAreaOf_6_b38 (k5 : Int32 → Int32 → Int32 → mv_H → Option (Int32)) (v1 : Int32) (v3 : Int32) (h : mv_H) : Option (Int32) := fX7_leastAreaOf_6_b40 k5 v1 v3 v3 h
set_option maxRecDepth 100000 in
set_option maxHeartbeats 4000000 in
theorem BX7_leastAreaOf_6_b38 (G : mv_G) (d D : Nat) (hD : d + 0 ≤ D) (P : Int32 → Prop) (k5 : Int32 → Int32 → Int32 → mv_H → Option (Int32)) (h : mv_H) (hk5 : ∀ (v1 : Int32) (v2 : Int32) (v3 : Int32), mv_sat (k5 v1 v2 v3 h) P → mv_MW G mX7_leastAreaOf (mv_rm D mX7_leastAreaOf) (mv_Zf G mX7_leastAreaOf (mv_qi mv_SH h P)) 0 0 5 [.ref 6, .int v1, .int v2, .int v3] [] mv_SH h) (v1 : Int32) (v3 : Int32) (hs : mv_sat (fX7_leastAreaOf_6_b38 k5 v1 v3 h) P) : mv_MW G mX7_leastAreaOf (mv_rm D mX7_leastAreaOf) (mv_Zf G mX7_leastAreaOf (mv_qi mv_SH h P)) 0 0 38 [.ref 6, .int v1, .float 0, .int v3] [] mv_SH h := by
  unfold fX7_leastAreaOf_6_b38 at hs
  refine mv_iload_n dX7_leastAreaOf_38 rfl ?_
  refine mv_istore_n (lv' := [.ref 6, .int v1, .int v3, .int v3]) dX7_leastAreaOf_39 (Nat.le_of_ble_eq_true rfl) rfl rfl ?_
  exact (BX7_leastAreaOf_6_b40 G d D (by omega) P _ _ hk5 _ _ _ hs)
noncomputable def fX7_leastAreaOf_6_b5 : Nat → Int32 → Int32 → Int32 → mv_H → Option (Int32)
  | 0, _, _, _, _ => none
  | n + 1, v1, v2, v3, h => if v3 < 6 then ((fX9_isIn v1 v3).bind fun r484 => if r484 = 0 then fX7_leastAreaOf_6_b40 (fX7_leastAreaOf_6_b5 n) v1 v2 v3 h else if v2 = (-6) then fX7_leastAreaOf_6_b38 (fX7_leastAreaOf_6_b5 n) v1 v3 h else (fX7_area_6 v3 h).bind fun r485 => (fX7_area_6 v2 h).bind fun r486 => if r485 < r486 then fX7_leastAreaOf_6_b38 (fX7_leastAreaOf_6_b5 n) v1 v3 h else fX7_leastAreaOf_6_b40 (fX7_leastAreaOf_6_b5 n) v1 v2 v3 h) else some v2
set_option maxRecDepth 100000 in
set_option maxHeartbeats 4000000 in
theorem BX7_leastAreaOf_6_b5 (G : mv_G) (d D : Nat) (hD : d + 2 ≤ D) (P : Int32 → Prop) (h : mv_H) : ∀ (n : Nat) (v1 : Int32) (v2 : Int32) (v3 : Int32), mv_sat (fX7_leastAreaOf_6_b5 n v1 v2 v3 h) P → mv_MW G mX7_leastAreaOf (mv_rm D mX7_leastAreaOf) (mv_Zf G mX7_leastAreaOf (mv_qi mv_SH h P)) 0 0 5 [.ref 6, .int v1, .int v2, .int v3] [] mv_SH h := by
  intro n
  induction n with
  | zero =>
    intro v1 v2 v3 hs
    unfold fX7_leastAreaOf_6_b5 at hs
    exact (mv_sat_none hs).elim
  | succ n ih =>
    intro v1 v2 v3 hs
    unfold fX7_leastAreaOf_6_b5 at hs
    refine mv_iload_n dX7_leastAreaOf_5 rfl ?_
    refine mv_bipush 6 dX7_leastAreaOf_6 (by decide) ?_
    refine mv_icmp_ge dX7_leastAreaOf_8 hs (fun _ hs => ?_) (fun _ hs => ?_)
    · refine mv_iload_n dX7_leastAreaOf_11 rfl ?_
      refine mv_iload_n dX7_leastAreaOf_12 rfl ?_
      refine mv_cS (st := []) dX7_leastAreaOf_13 kk_X7_32 (TX9_isIn G d _ _ _ _ (mv_sat_bind hs)) rfl rfl (Nat.le_of_ble_eq_true rfl) (by omega) rfl ⟨Nat.zero_le _, Nat.zero_le _⟩ (mv_ki fun r484 hs => ?_)
      refine mv_if_eq dX7_leastAreaOf_16 hs (fun _ hs => ?_) (fun _ hs => ?_)
      · exact (BX7_leastAreaOf_6_b40 G d D (by omega) P _ _ ih _ _ _ hs)
      · refine mv_iload_n dX7_leastAreaOf_19 rfl ?_
        refine mv_bipush (-6) dX7_leastAreaOf_20 (by decide) ?_
        refine mv_icmp_eq dX7_leastAreaOf_22 hs (fun _ hs => ?_) (fun _ hs => ?_)
        · exact mv_weak (lv' := [.ref 6, .int v1, .float 0, .int v3]) (mv_s (mv_s (mv_k (mv_s mv_n)))) (BX7_leastAreaOf_6_b38 G d D (by omega) P _ _ ih _ _ hs)
        · refine mv_aload_n dX7_leastAreaOf_25 rfl ?_
          refine mv_iload_n dX7_leastAreaOf_26 rfl ?_
          refine mv_cV (st := []) dX7_leastAreaOf_27 kk_X7_47 (TX7_area_6 G d _ _ _ (mv_sat_bind hs)) so_6 vc_7 rfl rfl (Nat.le_of_ble_eq_true rfl) (by omega) rfl ⟨Nat.zero_le _, Nat.zero_le _⟩ (mv_ki fun r485 hs => ?_)
          refine mv_aload_n dX7_leastAreaOf_30 rfl ?_
          refine mv_iload_n dX7_leastAreaOf_31 rfl ?_
          refine mv_cV (st := [.int r485]) dX7_leastAreaOf_32 kk_X7_47 (TX7_area_6 G d _ _ _ (mv_sat_bind hs)) so_6 vc_7 rfl rfl (Nat.le_of_ble_eq_true rfl) (by omega) rfl ⟨Nat.zero_le _, Nat.zero_le _⟩ (mv_ki fun r486 hs => ?_)
          refine mv_icmp_ge dX7_leastAreaOf_35 hs (fun _ hs => ?_) (fun _ hs => ?_)
          · exact mv_weak (lv' := [.ref 6, .int v1, .float 0, .int v3]) (mv_s (mv_s (mv_k (mv_s mv_n)))) (BX7_leastAreaOf_6_b38 G d D (by omega) P _ _ ih _ _ hs)
          · exact (BX7_leastAreaOf_6_b40 G d D (by omega) P _ _ ih _ _ _ hs)
    · refine mv_iload_n dX7_leastAreaOf_46 rfl ?_
      exact mv_iret dX7_leastAreaOf_47 rfl ⟨_, rfl, rfl, rfl, mv_sat_some hs⟩
noncomputable def fX7_leastAreaOf_6 (p0 : Int32) (h : mv_H) : Option (Int32) := fX7_leastAreaOf_6_b5 mv_F p0 (-6) 0 h
set_option maxRecDepth 100000 in
set_option maxHeartbeats 4000000 in
theorem TX7_leastAreaOf_6 (G : mv_G) (d : Nat) (P : Int32 → Prop) (p0 : Int32) (h : mv_H) (hs : mv_sat (fX7_leastAreaOf_6 p0 h) P) : mv_met G (d + 2) mX7_leastAreaOf [.ref 6, .int p0] mv_SH h (mv_qi mv_SH h P) := by
  unfold fX7_leastAreaOf_6 at hs
  obtain ⟨D, hDe⟩ : ∃ D, D = d + 2 := ⟨_, rfl⟩
  rw [← hDe]
  have hD : d + 2 ≤ D := by omega
  refine mv_enter (lv := [.ref 6, .int p0, .float 0, .float 0]) 2 (by decide) (by decide +kernel) rfl (Nat.le_of_ble_eq_true rfl) ?_
  refine mv_bipush (-6) dX7_leastAreaOf_0 (by decide) ?_
  refine mv_istore_n (lv' := [.ref 6, .int p0, .int (-6), .float 0]) dX7_leastAreaOf_2 (Nat.le_of_ble_eq_true rfl) rfl rfl ?_
  refine mv_iconst 0 dX7_leastAreaOf_3 (by decide) ?_
  refine mv_istore_n (lv' := [.ref 6, .int p0, .int (-6), .int 0]) dX7_leastAreaOf_4 (Nat.le_of_ble_eq_true rfl) rfl rfl ?_
  exact (BX7_leastAreaOf_6_b5 G d D (by omega) P _ _ _ _ _ hs)
noncomputable def fX9_taken_0 (p0 : Int32) (h : mv_H) : Option (Int32 × mv_H) := (fX7_has_2 p0 h).bind fun r476 => if r476 = 0 then some ((-1), h) else (fX9_sheetsDoingFor_0 p0 h).bind fun r483 => (fX7_leastAreaOf_6 r483.1 r483.2).bind fun r487 => some (r487, r483.2)
set_option maxRecDepth 100000 in
set_option maxHeartbeats 4000000 in
theorem TX9_taken_0 (G : mv_G) (d : Nat) (P : Int32 × mv_H → Prop) (p0 : Int32) (h : mv_H) (hs : mv_sat (fX9_taken_0 p0 h) P) : mv_met G (d + 5) mX9_taken [.ref 0, .int p0] mv_SH h (mv_qI mv_SH P) := by
  unfold fX9_taken_0 at hs
  obtain ⟨D, hDe⟩ : ∃ D, D = d + 5 := ⟨_, rfl⟩
  rw [← hDe]
  have hD : d + 5 ≤ D := by omega
  refine mv_enter (lv := [.ref 0, .int p0]) 0 (by decide) (by decide +kernel) rfl (Nat.le_of_ble_eq_true rfl) ?_
  refine mv_aload_n dX9_taken_0 rfl ?_
  refine mv_getr dX9_taken_1 kf_X9_10 gf_0_0 ?_
  refine mv_getr dX9_taken_4 kf_X9_64 gf_1_0 ?_
  refine mv_iload_n dX9_taken_7 rfl ?_
  refine mv_cV (st := []) dX9_taken_8 kk_X9_100 (TX7_has_2 G d _ _ _ (mv_sat_bind hs)) so_2 vc_7 rfl rfl (Nat.le_of_ble_eq_true rfl) (by omega) rfl ⟨Nat.zero_le _, Nat.zero_le _⟩ (mv_ki fun r476 hs => ?_)
  refine mv_if_ne dX9_taken_11 hs (fun _ hs => ?_) (fun _ hs => ?_)
  · refine mv_iconst (-1) dX9_taken_14 (by decide) ?_
    exact mv_iret dX9_taken_15 rfl ⟨((-1), h), rfl, rfl, rfl, mv_sat_some hs⟩
  · refine mv_aload_n dX9_taken_16 rfl ?_
    refine mv_getr dX9_taken_17 kf_X9_10 gf_0_0 ?_
    refine mv_getr dX9_taken_20 kf_X9_83 gf_1_2 ?_
    refine mv_aload_n dX9_taken_23 rfl ?_
    refine mv_iload_n dX9_taken_24 rfl ?_
    refine mv_cV (st := [.ref 6]) dX9_taken_25 kk_X9_179 (TX9_sheetsDoingFor_0 G d _ _ _ (mv_sat_bind hs)) so_0 vc_9 rfl rfl (Nat.le_of_ble_eq_true rfl) (by omega) rfl ⟨Nat.zero_le _, Nat.zero_le _⟩ (mv_kI2 fun r483 hs => ?_)
    refine mv_cV (st := []) dX9_taken_28 kk_X9_182 (TX7_leastAreaOf_6 G d _ _ _ (mv_sat_bind hs)) so_6 vc_7 rfl rfl (Nat.le_of_ble_eq_true rfl) (by omega) rfl ⟨Nat.zero_le _, Nat.zero_le _⟩ (mv_ki fun r487 hs => ?_)
    exact mv_iret dX9_taken_31 rfl ⟨(r487, r483.2), rfl, rfl, rfl, mv_sat_some hs⟩
noncomputable def fX10_takenOf_55_b62 (k5 : Int32 → Int32 → Int32 → mv_H → Option (Int32)) (v1 : Int32) (v3 : Int32) (s0 : Int32) (h : mv_H) : Option (Int32) := k5 v1 s0 (v3 + 1) h
set_option maxRecDepth 100000 in
set_option maxHeartbeats 4000000 in
theorem BX10_takenOf_55_b62 (G : mv_G) (d D : Nat) (hD : d + 0 ≤ D) (P : Int32 → Prop) (k5 : Int32 → Int32 → Int32 → mv_H → Option (Int32)) (h : mv_H) (hk5 : ∀ (v1 : Int32) (v2 : Int32) (v3 : Int32), mv_sat (k5 v1 v2 v3 h) P → mv_MW G mX10_takenOf (mv_rm D mX10_takenOf) (mv_Zf G mX10_takenOf (mv_qi mv_SH h P)) 0 0 5 [.ref 55, .int v1, .int v2, .int v3, .float 0] [] mv_SH h) (v1 : Int32) (v3 : Int32) (s0 : Int32) (hs : mv_sat (fX10_takenOf_55_b62 k5 v1 v3 s0 h) P) : mv_MW G mX10_takenOf (mv_rm D mX10_takenOf) (mv_Zf G mX10_takenOf (mv_qi mv_SH h P)) 0 0 62 [.ref 55, .int v1, .float 0, .int v3, .float 0] [.int s0] mv_SH h := by
  unfold fX10_takenOf_55_b62 at hs
  refine mv_istore_n (lv' := [.ref 55, .int v1, .int s0, .int v3, .float 0]) dX10_takenOf_62 (Nat.le_of_ble_eq_true rfl) rfl rfl ?_
  refine mv_iinc (lv' := [.ref 55, .int v1, .int s0, .int (v3 + 1), .float 0]) 1 dX10_takenOf_63 rfl (by decide) (Nat.le_of_ble_eq_true rfl) rfl rfl ?_
  refine mv_goto dX10_takenOf_66 ?_
  exact (hk5 _ _ _ hs)
noncomputable def fX10_takenOf_55_b50 (k5 : Int32 → Int32 → Int32 → mv_H → Option (Int32)) (v1 : Int32) (v2 : Int32) (v3 : Int32) (s0 : Int32) (h : mv_H) : Option (Int32) := if s0 = 0 then fX10_takenOf_55_b62 k5 v1 v3 v2 h else fX10_takenOf_55_b62 k5 v1 v3 v3 h
set_option maxRecDepth 100000 in
set_option maxHeartbeats 4000000 in
theorem BX10_takenOf_55_b50 (G : mv_G) (d D : Nat) (hD : d + 0 ≤ D) (P : Int32 → Prop) (k5 : Int32 → Int32 → Int32 → mv_H → Option (Int32)) (h : mv_H) (hk5 : ∀ (v1 : Int32) (v2 : Int32) (v3 : Int32), mv_sat (k5 v1 v2 v3 h) P → mv_MW G mX10_takenOf (mv_rm D mX10_takenOf) (mv_Zf G mX10_takenOf (mv_qi mv_SH h P)) 0 0 5 [.ref 55, .int v1, .int v2, .int v3, .float 0] [] mv_SH h) (v1 : Int32) (v2 : Int32) (v3 : Int32) (s0 : Int32) (hs : mv_sat (fX10_takenOf_55_b50 k5 v1 v2 v3 s0 h) P) : mv_MW G mX10_takenOf (mv_rm D mX10_takenOf) (mv_Zf G mX10_takenOf (mv_qi mv_SH h P)) 0 0 50 [.ref 55, .int v1, .int v2, .int v3, .float 0] [.int s0] mv_SH h := by
  unfold fX10_takenOf_55_b50 at hs
  refine mv_istore (lv' := [.ref 55, .int v1, .int v2, .int v3, .int s0]) dX10_takenOf_50 (Nat.le_of_ble_eq_true rfl) rfl rfl ?_
  refine mv_iload dX10_takenOf_52 rfl ?_
  refine mv_if_eq dX10_takenOf_54 hs (fun _ hs => ?_) (fun _ hs => ?_)
  · refine mv_iload_n dX10_takenOf_61 rfl ?_
    exact mv_weak (lv' := [.ref 55, .int v1, .float 0, .int v3, .float 0]) (mv_s (mv_s (mv_k (mv_s (mv_k mv_n))))) (BX10_takenOf_55_b62 G d D (by omega) P _ _ hk5 _ _ _ hs)
  · refine mv_iload_n dX10_takenOf_57 rfl ?_
    refine mv_goto dX10_takenOf_58 ?_
    exact mv_weak (lv' := [.ref 55, .int v1, .float 0, .int v3, .float 0]) (mv_s (mv_s (mv_k (mv_s (mv_k mv_n))))) (BX10_takenOf_55_b62 G d D (by omega) P _ _ hk5 _ _ _ hs)
noncomputable def fX10_takenOf_55_b49 (k5 : Int32 → Int32 → Int32 → mv_H → Option (Int32)) (v1 : Int32) (v2 : Int32) (v3 : Int32) (h : mv_H) : Option (Int32) := fX10_takenOf_55_b50 k5 v1 v2 v3 0 h
set_option maxRecDepth 100000 in
set_option maxHeartbeats 4000000 in
theorem BX10_takenOf_55_b49 (G : mv_G) (d D : Nat) (hD : d + 0 ≤ D) (P : Int32 → Prop) (k5 : Int32 → Int32 → Int32 → mv_H → Option (Int32)) (h : mv_H) (hk5 : ∀ (v1 : Int32) (v2 : Int32) (v3 : Int32), mv_sat (k5 v1 v2 v3 h) P → mv_MW G mX10_takenOf (mv_rm D mX10_takenOf) (mv_Zf G mX10_takenOf (mv_qi mv_SH h P)) 0 0 5 [.ref 55, .int v1, .int v2, .int v3, .float 0] [] mv_SH h) (v1 : Int32) (v2 : Int32) (v3 : Int32) (hs : mv_sat (fX10_takenOf_55_b49 k5 v1 v2 v3 h) P) : mv_MW G mX10_takenOf (mv_rm D mX10_takenOf) (mv_Zf G mX10_takenOf (mv_qi mv_SH h P)) 0 0 49 [.ref 55, .int v1, .int v2, .int v3, .float 0] [] mv_SH h := by
  unfold fX10_takenOf_55_b49 at hs
  refine mv_iconst 0 dX10_takenOf_49 (by decide) ?_
  exact (BX10_takenOf_55_b50 G d D (by omega) P _ _ hk5 _ _ _ _ hs)
noncomputable def fX10_takenOf_55_b45 (k5 : Int32 → Int32 → Int32 → mv_H → Option (Int32)) (v1 : Int32) (v2 : Int32) (v3 : Int32) (h : mv_H) : Option (Int32) := fX10_takenOf_55_b50 k5 v1 v2 v3 1 h
set_option maxRecDepth 100000 in
set_option maxHeartbeats 4000000 in
theorem BX10_takenOf_55_b45 (G : mv_G) (d D : Nat) (hD : d + 0 ≤ D) (P : Int32 → Prop) (k5 : Int32 → Int32 → Int32 → mv_H → Option (Int32)) (h : mv_H) (hk5 : ∀ (v1 : Int32) (v2 : Int32) (v3 : Int32), mv_sat (k5 v1 v2 v3 h) P → mv_MW G mX10_takenOf (mv_rm D mX10_takenOf) (mv_Zf G mX10_takenOf (mv_qi mv_SH h P)) 0 0 5 [.ref 55, .int v1, .int v2, .int v3, .float 0] [] mv_SH h) (v1 : Int32) (v2 : Int32) (v3 : Int32) (hs : mv_sat (fX10_takenOf_55_b45 k5 v1 v2 v3 h) P) : mv_MW G mX10_takenOf (mv_rm D mX10_takenOf) (mv_Zf G mX10_takenOf (mv_qi mv_SH h P)) 0 0 45 [.ref 55, .int v1, .int v2, .int v3, .float 0] [] mv_SH h := by
  unfold fX10_takenOf_55_b45 at hs
  refine mv_iconst 1 dX10_takenOf_45 (by decide) ?_
  refine mv_goto dX10_takenOf_46 ?_
  exact (BX10_takenOf_55_b50 G d D (by omega) P _ _ hk5 _ _ _ _ hs)
noncomputable def fX10_takenOf_55_b5 : Nat → Int32 → Int32 → Int32 → mv_H → Option (Int32)
  | 0, _, _, _, _ => none
  | n + 1, v1, v2, v3, h => if v3 < 6 then (if ((v1 >>> (v3 &&& 31)) &&& 1) = 1 then ((fX10_doesBy_55 v3 h).bind fun r491 => if r491 < 0 then fX10_takenOf_55_b49 (fX10_takenOf_55_b5 n) v1 v2 v3 h else if v2 < 0 then fX10_takenOf_55_b45 (fX10_takenOf_55_b5 n) v1 v2 v3 h else (fX10_areaOf_55 v3 h).bind fun r492 => (fX10_areaOf_55 v2 h).bind fun r493 => if r492 < r493 then fX10_takenOf_55_b45 (fX10_takenOf_55_b5 n) v1 v2 v3 h else fX10_takenOf_55_b49 (fX10_takenOf_55_b5 n) v1 v2 v3 h) else fX10_takenOf_55_b49 (fX10_takenOf_55_b5 n) v1 v2 v3 h) else some v2
set_option maxRecDepth 100000 in
set_option maxHeartbeats 4000000 in
theorem BX10_takenOf_55_b5 (G : mv_G) (d D : Nat) (hD : d + 2 ≤ D) (P : Int32 → Prop) (h : mv_H) : ∀ (n : Nat) (v1 : Int32) (v2 : Int32) (v3 : Int32), mv_sat (fX10_takenOf_55_b5 n v1 v2 v3 h) P → mv_MW G mX10_takenOf (mv_rm D mX10_takenOf) (mv_Zf G mX10_takenOf (mv_qi mv_SH h P)) 0 0 5 [.ref 55, .int v1, .int v2, .int v3, .float 0] [] mv_SH h := by
  intro n
  induction n with
  | zero =>
    intro v1 v2 v3 hs
    unfold fX10_takenOf_55_b5 at hs
    exact (mv_sat_none hs).elim
  | succ n ih =>
    intro v1 v2 v3 hs
    unfold fX10_takenOf_55_b5 at hs
    refine mv_iload_n dX10_takenOf_5 rfl ?_
    refine mv_bipush 6 dX10_takenOf_6 (by decide) ?_
    refine mv_icmp_ge dX10_takenOf_8 hs (fun _ hs => ?_) (fun _ hs => ?_)
    · refine mv_iload_n dX10_takenOf_11 rfl ?_
      refine mv_iload_n dX10_takenOf_12 rfl ?_
      refine mv_ishr dX10_takenOf_13 ?_
      refine mv_iconst 1 dX10_takenOf_14 (by decide) ?_
      refine mv_iand dX10_takenOf_15 ?_
      refine mv_iconst 1 dX10_takenOf_16 (by decide) ?_
      refine mv_icmp_ne dX10_takenOf_17 hs (fun _ hs => ?_) (fun _ hs => ?_)
      · refine mv_aload_n dX10_takenOf_20 rfl ?_
        refine mv_iload_n dX10_takenOf_21 rfl ?_
        refine mv_cV (st := []) dX10_takenOf_22 kk_X10_216 (TX10_doesBy_55 G d _ _ _ (mv_sat_bind hs)) so_55 vc_10 rfl rfl (Nat.le_of_ble_eq_true rfl) (by omega) rfl ⟨Nat.zero_le _, Nat.zero_le _⟩ (mv_ki fun r491 hs => ?_)
        refine mv_if_lt dX10_takenOf_25 hs (fun _ hs => ?_) (fun _ hs => ?_)
        · exact (BX10_takenOf_55_b49 G d D (by omega) P _ _ ih _ _ _ hs)
        · refine mv_iload_n dX10_takenOf_28 rfl ?_
          refine mv_if_lt dX10_takenOf_29 hs (fun _ hs => ?_) (fun _ hs => ?_)
          · exact (BX10_takenOf_55_b45 G d D (by omega) P _ _ ih _ _ _ hs)
          · refine mv_aload_n dX10_takenOf_32 rfl ?_
            refine mv_iload_n dX10_takenOf_33 rfl ?_
            refine mv_cV (st := []) dX10_takenOf_34 kk_X10_219 (TX10_areaOf_55 G d _ _ _ (mv_sat_bind hs)) so_55 vc_10 rfl rfl (Nat.le_of_ble_eq_true rfl) (by omega) rfl ⟨Nat.zero_le _, Nat.zero_le _⟩ (mv_ki fun r492 hs => ?_)
            refine mv_aload_n dX10_takenOf_37 rfl ?_
            refine mv_iload_n dX10_takenOf_38 rfl ?_
            refine mv_cV (st := [.int r492]) dX10_takenOf_39 kk_X10_219 (TX10_areaOf_55 G d _ _ _ (mv_sat_bind hs)) so_55 vc_10 rfl rfl (Nat.le_of_ble_eq_true rfl) (by omega) rfl ⟨Nat.zero_le _, Nat.zero_le _⟩ (mv_ki fun r493 hs => ?_)
            refine mv_icmp_ge dX10_takenOf_42 hs (fun _ hs => ?_) (fun _ hs => ?_)
            · exact (BX10_takenOf_55_b45 G d D (by omega) P _ _ ih _ _ _ hs)
            · exact (BX10_takenOf_55_b49 G d D (by omega) P _ _ ih _ _ _ hs)
      · exact (BX10_takenOf_55_b49 G d D (by omega) P _ _ ih _ _ _ hs)
    · refine mv_iload_n dX10_takenOf_69 rfl ?_
      exact mv_iret dX10_takenOf_70 rfl ⟨_, rfl, rfl, rfl, mv_sat_some hs⟩
noncomputable def fX10_takenOf_55 (p0 : Int32) (h : mv_H) : Option (Int32) := fX10_takenOf_55_b5 mv_F p0 (-6) 0 h
set_option maxRecDepth 100000 in
set_option maxHeartbeats 4000000 in
theorem TX10_takenOf_55 (G : mv_G) (d : Nat) (P : Int32 → Prop) (p0 : Int32) (h : mv_H) (hs : mv_sat (fX10_takenOf_55 p0 h) P) : mv_met G (d + 2) mX10_takenOf [.ref 55, .int p0] mv_SH h (mv_qi mv_SH h P) := by
  unfold fX10_takenOf_55 at hs
  obtain ⟨D, hDe⟩ : ∃ D, D = d + 2 := ⟨_, rfl⟩
  rw [← hDe]
  have hD : d + 2 ≤ D := by omega
  refine mv_enter (lv := [.ref 55, .int p0, .float 0, .float 0, .float 0]) 3 (by decide) (by decide +kernel) rfl (Nat.le_of_ble_eq_true rfl) ?_
  refine mv_bipush (-6) dX10_takenOf_0 (by decide) ?_
  refine mv_istore_n (lv' := [.ref 55, .int p0, .int (-6), .float 0, .float 0]) dX10_takenOf_2 (Nat.le_of_ble_eq_true rfl) rfl rfl ?_
  refine mv_iconst 0 dX10_takenOf_3 (by decide) ?_
  refine mv_istore_n (lv' := [.ref 55, .int p0, .int (-6), .int 0, .float 0]) dX10_takenOf_4 (Nat.le_of_ble_eq_true rfl) rfl rfl ?_
  exact (BX10_takenOf_55_b5 G d D (by omega) P _ _ _ _ _ hs)
noncomputable def fX10_taken_55 (p0 : Int32) (h : mv_H) : Option (Int32 × mv_H) := (fX10_isBox_55 p0 h).bind fun r489 => if r489 = 0 then some ((-1), h) else (fX10_look_55 p0 h).bind fun r490 => (fX10_takenOf_55 (r490 55 2) r490).bind fun r494 => some (r494, r490)
set_option maxRecDepth 100000 in
set_option maxHeartbeats 4000000 in
theorem TX10_taken_55 (G : mv_G) (d : Nat) (P : Int32 × mv_H → Prop) (p0 : Int32) (h : mv_H) (hs : mv_sat (fX10_taken_55 p0 h) P) : mv_met G (d + 3) mX10_taken [.ref 55, .int p0] mv_SH h (mv_qI mv_SH P) := by
  unfold fX10_taken_55 at hs
  obtain ⟨D, hDe⟩ : ∃ D, D = d + 3 := ⟨_, rfl⟩
  rw [← hDe]
  have hD : d + 3 ≤ D := by omega
  refine mv_enter (lv := [.ref 55, .int p0]) 0 (by decide) (by decide +kernel) rfl (Nat.le_of_ble_eq_true rfl) ?_
  refine mv_aload_n dX10_taken_0 rfl ?_
  refine mv_iload_n dX10_taken_1 rfl ?_
  refine mv_cV (st := []) dX10_taken_2 kk_X10_146 (TX10_isBox_55 G d _ _ _ (mv_sat_bind hs)) so_55 vc_10 rfl rfl (Nat.le_of_ble_eq_true rfl) (by omega) rfl ⟨Nat.zero_le _, Nat.zero_le _⟩ (mv_ki fun r489 hs => ?_)
  refine mv_if_ne dX10_taken_5 hs (fun _ hs => ?_) (fun _ hs => ?_)
  · refine mv_iconst (-1) dX10_taken_8 (by decide) ?_
    exact mv_iret dX10_taken_9 rfl ⟨((-1), h), rfl, rfl, rfl, mv_sat_some hs⟩
  · refine mv_aload_n dX10_taken_10 rfl ?_
    refine mv_iload_n dX10_taken_11 rfl ?_
    refine mv_cV (st := []) dX10_taken_12 kk_X10_209 (TX10_look_55 G d _ _ _ (mv_sat_bind hs)) so_55 vc_10 rfl rfl (Nat.le_of_ble_eq_true rfl) (by omega) rfl ⟨Nat.zero_le _, Nat.zero_le _⟩ (mv_kv fun r490 hs => ?_)
    refine mv_aload_n dX10_taken_15 rfl ?_
    refine mv_aload_n dX10_taken_16 rfl ?_
    refine mv_geti dX10_taken_17 kf_X10_118 gf_55_2 ?_
    refine mv_cV (st := []) dX10_taken_20 kk_X10_222 (TX10_takenOf_55 G d _ _ _ (mv_sat_bind hs)) so_55 vc_10 rfl rfl (Nat.le_of_ble_eq_true rfl) (by omega) rfl ⟨Nat.zero_le _, Nat.zero_le _⟩ (mv_ki fun r494 hs => ?_)
    exact mv_iret dX10_taken_23 rfl ⟨(r494, r490), rfl, rfl, rfl, mv_sat_some hs⟩
noncomputable def fX9_shortBy_0 (p0 : Int32) (p1 : Int32) (p2 : Int32) (p3 : Int32) (h : mv_H) : Option (Int32 × mv_H) := (fX9_isBoxByAxis_0 p0 p2 h).bind fun r496 => if r496 = 0 then some ((-1), h) else (fX7_has_6 p1 h).bind fun r497 => if r497 = 0 then some ((-1), h) else (fX9_isWithin p3 (0 : Int32) (1 : Int32)).bind fun r498 => if r498 = 0 then some ((-2), h) else (fX9_wrapOf_0 p0 h).bind fun r499 => (fX7_side_6 p1 (0 : Int32) r499).bind fun r500 => (fX7_side_6 p1 (1 : Int32) r499).bind fun r501 => (fX8_lackOn_38 p2 p3 r500 r501 r499).bind fun r502 => some (r502, r499)
set_option maxRecDepth 100000 in
set_option maxHeartbeats 4000000 in
theorem TX9_shortBy_0 (G : mv_G) (d : Nat) (P : Int32 × mv_H → Prop) (p0 : Int32) (p1 : Int32) (p2 : Int32) (p3 : Int32) (h : mv_H) (hs : mv_sat (fX9_shortBy_0 p0 p1 p2 p3 h) P) : mv_met G (d + 3) mX9_shortBy [.ref 0, .int p0, .int p1, .int p2, .int p3] mv_SH h (mv_qI mv_SH P) := by
  unfold fX9_shortBy_0 at hs
  obtain ⟨D, hDe⟩ : ∃ D, D = d + 3 := ⟨_, rfl⟩
  rw [← hDe]
  have hD : d + 3 ≤ D := by omega
  refine mv_enter (lv := [.ref 0, .int p0, .int p1, .int p2, .int p3]) 0 (by decide) (by decide +kernel) rfl (Nat.le_of_ble_eq_true rfl) ?_
  refine mv_aload_n dX9_shortBy_0 rfl ?_
  refine mv_iload_n dX9_shortBy_1 rfl ?_
  refine mv_iload_n dX9_shortBy_2 rfl ?_
  refine mv_cV (st := []) dX9_shortBy_3 kk_X9_140 (TX9_isBoxByAxis_0 G d _ _ _ _ (mv_sat_bind hs)) so_0 vc_9 rfl rfl (Nat.le_of_ble_eq_true rfl) (by omega) rfl ⟨Nat.zero_le _, Nat.zero_le _⟩ (mv_ki fun r496 hs => ?_)
  refine mv_if_eq dX9_shortBy_6 hs (fun _ hs => ?_) (fun _ hs => ?_)
  · refine mv_iconst (-1) dX9_shortBy_23 (by decide) ?_
    exact mv_iret dX9_shortBy_24 rfl ⟨((-1), h), rfl, rfl, rfl, mv_sat_some hs⟩
  · refine mv_aload_n dX9_shortBy_9 rfl ?_
    refine mv_getr dX9_shortBy_10 kf_X9_10 gf_0_0 ?_
    refine mv_getr dX9_shortBy_13 kf_X9_83 gf_1_2 ?_
    refine mv_iload_n dX9_shortBy_16 rfl ?_
    refine mv_cV (st := []) dX9_shortBy_17 kk_X9_100 (TX7_has_6 G d _ _ _ (mv_sat_bind hs)) so_6 vc_7 rfl rfl (Nat.le_of_ble_eq_true rfl) (by omega) rfl ⟨Nat.zero_le _, Nat.zero_le _⟩ (mv_ki fun r497 hs => ?_)
    refine mv_if_ne dX9_shortBy_20 hs (fun _ hs => ?_) (fun _ hs => ?_)
    · refine mv_iconst (-1) dX9_shortBy_23 (by decide) ?_
      exact mv_iret dX9_shortBy_24 rfl ⟨((-1), h), rfl, rfl, rfl, mv_sat_some hs⟩
    · refine mv_iload dX9_shortBy_25 rfl ?_
      refine mv_iconst 0 dX9_shortBy_27 (by decide) ?_
      refine mv_iconst 1 dX9_shortBy_28 (by decide) ?_
      refine mv_cS (st := []) dX9_shortBy_29 kk_X9_79 (TX9_isWithin G d _ _ _ _ _ (mv_sat_bind hs)) rfl rfl (Nat.le_of_ble_eq_true rfl) (by omega) rfl ⟨Nat.zero_le _, Nat.zero_le _⟩ (mv_ki fun r498 hs => ?_)
      refine mv_if_ne dX9_shortBy_32 hs (fun _ hs => ?_) (fun _ hs => ?_)
      · refine mv_bipush (-2) dX9_shortBy_35 (by decide) ?_
        exact mv_iret dX9_shortBy_37 rfl ⟨((-2), h), rfl, rfl, rfl, mv_sat_some hs⟩
      · refine mv_aload_n dX9_shortBy_38 rfl ?_
        refine mv_iload_n dX9_shortBy_39 rfl ?_
        refine mv_cV (st := []) dX9_shortBy_40 kk_X9_144 (TX9_wrapOf_0 G d _ _ _ (mv_sat_bind hs)) so_0 vc_9 rfl rfl (Nat.le_of_ble_eq_true rfl) (by omega) rfl ⟨Nat.zero_le _, Nat.zero_le _⟩ (mv_kc fun r499 hs => ?_)
        refine mv_iload_n dX9_shortBy_43 rfl ?_
        refine mv_iload dX9_shortBy_44 rfl ?_
        refine mv_aload_n dX9_shortBy_46 rfl ?_
        refine mv_getr dX9_shortBy_47 kf_X9_10 gf_0_0 ?_
        refine mv_getr dX9_shortBy_50 kf_X9_83 gf_1_2 ?_
        refine mv_iload_n dX9_shortBy_53 rfl ?_
        refine mv_iconst 0 dX9_shortBy_54 (by decide) ?_
        refine mv_cV (st := [.int p3, .int p2, .ref 38]) dX9_shortBy_55 kk_X9_163 (TX7_side_6 G d _ _ _ _ (mv_sat_bind hs)) so_6 vc_7 rfl rfl (Nat.le_of_ble_eq_true rfl) (by omega) rfl ⟨Nat.zero_le _, Nat.zero_le _⟩ (mv_ki fun r500 hs => ?_)
        refine mv_aload_n dX9_shortBy_58 rfl ?_
        refine mv_getr dX9_shortBy_59 kf_X9_10 gf_0_0 ?_
        refine mv_getr dX9_shortBy_62 kf_X9_83 gf_1_2 ?_
        refine mv_iload_n dX9_shortBy_65 rfl ?_
        refine mv_iconst 1 dX9_shortBy_66 (by decide) ?_
        refine mv_cV (st := [.int r500, .int p3, .int p2, .ref 38]) dX9_shortBy_67 kk_X9_163 (TX7_side_6 G d _ _ _ _ (mv_sat_bind hs)) so_6 vc_7 rfl rfl (Nat.le_of_ble_eq_true rfl) (by omega) rfl ⟨Nat.zero_le _, Nat.zero_le _⟩ (mv_ki fun r501 hs => ?_)
        refine mv_cV (st := []) dX9_shortBy_70 kk_X9_185 (TX8_lackOn_38 G d _ _ _ _ _ _ (mv_sat_bind hs)) so_38 vc_8 rfl rfl (Nat.le_of_ble_eq_true rfl) (by omega) rfl ⟨Nat.zero_le _, Nat.zero_le _⟩ (mv_ki fun r502 hs => ?_)
        exact mv_iret dX9_shortBy_73 rfl ⟨(r502, r499), rfl, rfl, rfl, mv_sat_some hs⟩
noncomputable def fX10_above (p0 : Int32) : Option (Int32) := if 0 < p0 then some p0 else some 0
set_option maxRecDepth 100000 in
set_option maxHeartbeats 4000000 in
theorem TX10_above (G : mv_G) (d : Nat) (P : Int32 → Prop) (p0 : Int32) (h : mv_H) (hs : mv_sat (fX10_above p0) P) : mv_met G (d + 0) mX10_above [.int p0] mv_SH h (mv_qi mv_SH h P) := by
  unfold fX10_above at hs
  obtain ⟨D, hDe⟩ : ∃ D, D = d + 0 := ⟨_, rfl⟩
  rw [← hDe]
  have hD : d + 0 ≤ D := by omega
  refine mv_enter (lv := [.int p0]) 0 (by decide) (by decide +kernel) rfl (Nat.le_of_ble_eq_true rfl) ?_
  refine mv_iload_n dX10_above_0 rfl ?_
  refine mv_if_le dX10_above_1 hs (fun _ hs => ?_) (fun _ hs => ?_)
  · refine mv_iload_n dX10_above_4 rfl ?_
    refine mv_goto dX10_above_5 ?_
    exact mv_iret dX10_above_9 rfl ⟨_, rfl, rfl, rfl, mv_sat_some hs⟩
  · refine mv_iconst 0 dX10_above_8 (by decide) ?_
    exact mv_iret dX10_above_9 rfl ⟨_, rfl, rfl, rfl, mv_sat_some hs⟩
