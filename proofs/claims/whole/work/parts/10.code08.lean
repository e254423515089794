/-! printed by program: what a method does, as a function, and that it does it -/
noncomputable def fX10_fitsIn_55 (p0 : Int32) (p1 : Int32) (h : mv_H) : Option (Int32 × mv_H) := if mv_in (3 * p0) 18 then (if mv_in ((3 * p0) + 1) 18 then (if mv_in ((3 * p0) + 2) 18 then ((fX10_sortSides_55 (0 : Int32) (h 57 (3 * p0).toNatClampNeg) (h 57 ((3 * p0) + 1).toNatClampNeg) (h 57 ((3 * p0) + 2).toNatClampNeg) h).bind fun r920 => if mv_in (3 * p1) 18 then (if mv_in ((3 * p1) + 1) 18 then (if mv_in ((3 * p1) + 2) 18 then ((fX10_sortSides_55 (3 : Int32) (r920 56 (3 * p1).toNatClampNeg) (r920 56 ((3 * p1) + 1).toNatClampNeg) (r920 56 ((3 * p1) + 2).toNatClampNeg) r920).bind fun r921 => if mv_in 0 6 then (if mv_in 3 6 then (if (r921 79 (3 : Int32).toNatClampNeg) < (r921 79 (0 : Int32).toNatClampNeg) then some (0, r921) else if mv_in 1 6 then (if mv_in 4 6 then (if (r921 79 (4 : Int32).toNatClampNeg) < (r921 79 (1 : Int32).toNatClampNeg) then some (0, r921) else if mv_in 2 6 then (if mv_in 5 6 then (if (r921 79 (5 : Int32).toNatClampNeg) < (r921 79 (2 : Int32).toNatClampNeg) then some (0, r921) else some (1, r921)) else none) else none) else none) else none) else none) else none) else none) else none) else none) else none) else none) else none
set_option maxRecDepth 100000 in
set_option maxHeartbeats 4000000 in
theorem TX10_fitsIn_55 (G : mv_G) (d : Nat) (P : Int32 × mv_H → Prop) (p0 : Int32) (p1 : Int32) (h : mv_H) (hs : mv_sat (fX10_fitsIn_55 p0 p1 h) P) : mv_met G (d + 1) mX10_fitsIn [.ref 55, .int p0, .int p1] mv_SH h (mv_qI mv_SH P) := by
  unfold fX10_fitsIn_55 at hs
  obtain ⟨D, hDe⟩ : ∃ D, D = d + 1 := ⟨_, rfl⟩
  rw [← hDe]
  have hD : d + 1 ≤ D := by omega
  refine mv_enter (lv := [.ref 55, .int p0, .int p1]) 0 (by decide) (by decide +kernel) rfl (Nat.le_of_ble_eq_true rfl) ?_
  refine mv_aload_n dX10_fitsIn_0 rfl ?_
  refine mv_iconst 0 dX10_fitsIn_1 (by decide) ?_
  refine mv_aload_n dX10_fitsIn_2 rfl ?_
  refine mv_getr dX10_fitsIn_3 kf_X10_13 gf_55_4 ?_
  refine mv_iconst 3 dX10_fitsIn_6 (by decide) ?_
  refine mv_iload_n dX10_fitsIn_7 rfl ?_
  refine mv_imul dX10_fitsIn_8 ?_
  refine mv_iaload dX10_fitsIn_9 so_57 hs (fun hs => ?_)
  refine mv_aload_n dX10_fitsIn_10 rfl ?_
  refine mv_getr dX10_fitsIn_11 kf_X10_13 gf_55_4 ?_
  refine mv_iconst 3 dX10_fitsIn_14 (by decide) ?_
  refine mv_iload_n dX10_fitsIn_15 rfl ?_
  refine mv_imul dX10_fitsIn_16 ?_
  refine mv_iconst 1 dX10_fitsIn_17 (by decide) ?_
  refine mv_iadd dX10_fitsIn_18 ?_
  refine mv_iaload dX10_fitsIn_19 so_57 hs (fun hs => ?_)
  refine mv_aload_n dX10_fitsIn_20 rfl ?_
  refine mv_getr dX10_fitsIn_21 kf_X10_13 gf_55_4 ?_
  refine mv_iconst 3 dX10_fitsIn_24 (by decide) ?_
  refine mv_iload_n dX10_fitsIn_25 rfl ?_
  refine mv_imul dX10_fitsIn_26 ?_
  refine mv_iconst 2 dX10_fitsIn_27 (by decide) ?_
  refine mv_iadd dX10_fitsIn_28 ?_
  refine mv_iaload dX10_fitsIn_29 so_57 hs (fun hs => ?_)
  refine mv_cV (st := []) dX10_fitsIn_30 kk_X10_310 (TX10_sortSides_55 G d _ _ _ _ _ _ (mv_sat_bind hs)) so_55 vc_10 rfl rfl (Nat.le_of_ble_eq_true rfl) (by omega) rfl ⟨Nat.zero_le _, Nat.zero_le _⟩ (mv_kv fun r920 hs => ?_)
  refine mv_aload_n dX10_fitsIn_33 rfl ?_
  refine mv_iconst 3 dX10_fitsIn_34 (by decide) ?_
  refine mv_aload_n dX10_fitsIn_35 rfl ?_
  refine mv_getr dX10_fitsIn_36 kf_X10_7 gf_55_3 ?_
  refine mv_iconst 3 dX10_fitsIn_39 (by decide) ?_
  refine mv_iload_n dX10_fitsIn_40 rfl ?_
  refine mv_imul dX10_fitsIn_41 ?_
  refine mv_iaload dX10_fitsIn_42 so_56 hs (fun hs => ?_)
  refine mv_aload_n dX10_fitsIn_43 rfl ?_
  refine mv_getr dX10_fitsIn_44 kf_X10_7 gf_55_3 ?_
  refine mv_iconst 3 dX10_fitsIn_47 (by decide) ?_
  refine mv_iload_n dX10_fitsIn_48 rfl ?_
  refine mv_imul dX10_fitsIn_49 ?_
  refine mv_iconst 1 dX10_fitsIn_50 (by decide) ?_
  refine mv_iadd dX10_fitsIn_51 ?_
  refine mv_iaload dX10_fitsIn_52 so_56 hs (fun hs => ?_)
  refine mv_aload_n dX10_fitsIn_53 rfl ?_
  refine mv_getr dX10_fitsIn_54 kf_X10_7 gf_55_3 ?_
  refine mv_iconst 3 dX10_fitsIn_57 (by decide) ?_
  refine mv_iload_n dX10_fitsIn_58 rfl ?_
  refine mv_imul dX10_fitsIn_59 ?_
  refine mv_iconst 2 dX10_fitsIn_60 (by decide) ?_
  refine mv_iadd dX10_fitsIn_61 ?_
  refine mv_iaload dX10_fitsIn_62 so_56 hs (fun hs => ?_)
  refine mv_cV (st := []) dX10_fitsIn_63 kk_X10_310 (TX10_sortSides_55 G d _ _ _ _ _ _ (mv_sat_bind hs)) so_55 vc_10 rfl rfl (Nat.le_of_ble_eq_true rfl) (by omega) rfl ⟨Nat.zero_le _, Nat.zero_le _⟩ (mv_kv fun r921 hs => ?_)
  refine mv_aload_n dX10_fitsIn_66 rfl ?_
  refine mv_getr dX10_fitsIn_67 kf_X10_79 gf_55_40 ?_
  refine mv_iconst 0 dX10_fitsIn_70 (by decide) ?_
  refine mv_iaload dX10_fitsIn_71 so_79 hs (fun hs => ?_)
  refine mv_aload_n dX10_fitsIn_72 rfl ?_
  refine mv_getr dX10_fitsIn_73 kf_X10_79 gf_55_40 ?_
  refine mv_iconst 3 dX10_fitsIn_76 (by decide) ?_
  refine mv_iaload dX10_fitsIn_77 so_79 hs (fun hs => ?_)
  refine mv_icmp_gt dX10_fitsIn_78 hs (fun _ hs => ?_) (fun _ hs => ?_)
  · refine mv_iconst 0 dX10_fitsIn_115 (by decide) ?_
    exact mv_zret dX10_fitsIn_116 rfl (Or.inl rfl) ⟨(0, r921), rfl, rfl, rfl, mv_sat_some hs⟩
  · refine mv_aload_n dX10_fitsIn_81 rfl ?_
    refine mv_getr dX10_fitsIn_82 kf_X10_79 gf_55_40 ?_
    refine mv_iconst 1 dX10_fitsIn_85 (by decide) ?_
    refine mv_iaload dX10_fitsIn_86 so_79 hs (fun hs => ?_)
    refine mv_aload_n dX10_fitsIn_87 rfl ?_
    refine mv_getr dX10_fitsIn_88 kf_X10_79 gf_55_40 ?_
    refine mv_iconst 4 dX10_fitsIn_91 (by decide) ?_
    refine mv_iaload dX10_fitsIn_92 so_79 hs (fun hs => ?_)
    refine mv_icmp_gt dX10_fitsIn_93 hs (fun _ hs => ?_) (fun _ hs => ?_)
    · refine mv_iconst 0 dX10_fitsIn_115 (by decide) ?_
      exact mv_zret dX10_fitsIn_116 rfl (Or.inl rfl) ⟨(0, r921), rfl, rfl, rfl, mv_sat_some hs⟩
    · refine mv_aload_n dX10_fitsIn_96 rfl ?_
      refine mv_getr dX10_fitsIn_97 kf_X10_79 gf_55_40 ?_
      refine mv_iconst 2 dX10_fitsIn_100 (by decide) ?_
      refine mv_iaload dX10_fitsIn_101 so_79 hs (fun hs => ?_)
      refine mv_aload_n dX10_fitsIn_102 rfl ?_
      refine mv_getr dX10_fitsIn_103 kf_X10_79 gf_55_40 ?_
      refine mv_iconst 5 dX10_fitsIn_106 (by decide) ?_
      refine mv_iaload dX10_fitsIn_107 so_79 hs (fun hs => ?_)
      refine mv_icmp_gt dX10_fitsIn_108 hs (fun _ hs => ?_) (fun _ hs => ?_)
      · refine mv_iconst 0 dX10_fitsIn_115 (by decide) ?_
        exact mv_zret dX10_fitsIn_116 rfl (Or.inl rfl) ⟨(0, r921), rfl, rfl, rfl, mv_sat_some hs⟩
      · refine mv_iconst 1 dX10_fitsIn_111 (by decide) ?_
        refine mv_goto dX10_fitsIn_112 ?_
        exact mv_zret dX10_fitsIn_116 rfl (Or.inr rfl) ⟨(1, r921), rfl, rfl, rfl, mv_sat_some hs⟩
noncomputable def fX10_fits_55 (p0 : Int32) (p1 : Int32) (h : mv_H) : Option (Int32 × mv_H) := (fX10_isThing_55 p0 h).bind fun r915 => if r915 = 0 then some ((-1), h) else (fX10_isBox_55 p1 h).bind fun r916 => if r916 = 0 then some ((-1), h) else (fX10_fitsIn_55 p0 p1 h).bind fun r922 => if r922.1 = 0 then some (0, r922.2) else some (1, r922.2)
set_option maxRecDepth 100000 in
set_option maxHeartbeats 4000000 in
theorem TX10_fits_55 (G : mv_G) (d : Nat) (P : Int32 × mv_H → Prop) (p0 : Int32) (p1 : Int32) (h : mv_H) (hs : mv_sat (fX10_fits_55 p0 p1 h) P) : mv_met G (d + 3) mX10_fits [.ref 55, .int p0, .int p1] mv_SH h (mv_qI mv_SH P) := by
  unfold fX10_fits_55 at hs
  obtain ⟨D, hDe⟩ : ∃ D, D = d + 3 := ⟨_, rfl⟩
  rw [← hDe]
  have hD : d + 3 ≤ D := by omega
  refine mv_enter (lv := [.ref 55, .int p0, .int p1]) 0 (by decide) (by decide +kernel) rfl (Nat.le_of_ble_eq_true rfl) ?_
  refine mv_aload_n dX10_fits_0 rfl ?_
  refine mv_iload_n dX10_fits_1 rfl ?_
  refine mv_cV (st := []) dX10_fits_2 kk_X10_149 (TX10_isThing_55 G d _ _ _ (mv_sat_bind hs)) so_55 vc_10 rfl rfl (Nat.le_of_ble_eq_true rfl) (by omega) rfl ⟨Nat.zero_le _, Nat.zero_le _⟩ (mv_ki fun r915 hs => ?_)
  refine mv_if_eq dX10_fits_5 hs (fun _ hs => ?_) (fun _ hs => ?_)
  · refine mv_iconst (-1) dX10_fits_16 (by decide) ?_
    exact mv_iret dX10_fits_17 rfl ⟨((-1), h), rfl, rfl, rfl, mv_sat_some hs⟩
  · refine mv_aload_n dX10_fits_8 rfl ?_
    refine mv_iload_n dX10_fits_9 rfl ?_
    refine mv_cV (st := []) dX10_fits_10 kk_X10_146 (TX10_isBox_55 G d _ _ _ (mv_sat_bind hs)) so_55 vc_10 rfl rfl (Nat.le_of_ble_eq_true rfl) (by omega) rfl ⟨Nat.zero_le _, Nat.zero_le _⟩ (mv_ki fun r916 hs => ?_)
    refine mv_if_ne dX10_fits_13 hs (fun _ hs => ?_) (fun _ hs => ?_)
    · refine mv_iconst (-1) dX10_fits_16 (by decide) ?_
      exact mv_iret dX10_fits_17 rfl ⟨((-1), h), rfl, rfl, rfl, mv_sat_some hs⟩
    · refine mv_aload_n dX10_fits_18 rfl ?_
      refine mv_iload_n dX10_fits_19 rfl ?_
      refine mv_iload_n dX10_fits_20 rfl ?_
      refine mv_cV (st := []) dX10_fits_21 kk_X10_313 (TX10_fitsIn_55 G d _ _ _ _ (mv_sat_bind hs)) so_55 vc_10 rfl rfl (Nat.le_of_ble_eq_true rfl) (by omega) rfl ⟨Nat.zero_le _, Nat.zero_le _⟩ (mv_kI2 fun r922 hs => ?_)
      refine mv_if_eq dX10_fits_24 hs (fun _ hs => ?_) (fun _ hs => ?_)
      · refine mv_iconst 0 dX10_fits_31 (by decide) ?_
        exact mv_iret dX10_fits_32 rfl ⟨(0, r922.2), rfl, rfl, rfl, mv_sat_some hs⟩
      · refine mv_iconst 1 dX10_fits_27 (by decide) ?_
        refine mv_goto dX10_fits_28 ?_
        exact mv_iret dX10_fits_32 rfl ⟨(1, r922.2), rfl, rfl, rfl, mv_sat_some hs⟩
noncomputable def fX9_boxesWithRoomFor_0_b39 (k4 : Int32 → Int32 → Int32 → mv_H → Option (Int32)) (v1 : Int32) (v2 : Int32) (v3 : Int32) (h : mv_H) : Option (Int32) := k4 v1 v2 (v3 + 1) h
set_option maxRecDepth 100000 in
set_option maxHeartbeats 4000000 in
theorem BX9_boxesWithRoomFor_0_b39 (G : mv_G) (d D : Nat) (hD : d + 0 ≤ D) (P : Int32 → Prop) (k4 : Int32 → Int32 → Int32 → mv_H → Option (Int32)) (h : mv_H) (hk4 : ∀ (v1 : Int32) (v2 : Int32) (v3 : Int32), mv_sat (k4 v1 v2 v3 h) P → mv_MW G mX9_boxesWithRoomFor (mv_rm D mX9_boxesWithRoomFor) (mv_Zf G mX9_boxesWithRoomFor (mv_qi mv_SH h P)) 0 0 4 [.ref 0, .int v1, .int v2, .int v3] [] mv_SH h) (v1 : Int32) (v2 : Int32) (v3 : Int32) (hs : mv_sat (fX9_boxesWithRoomFor_0_b39 k4 v1 v2 v3 h) P) : mv_MW G mX9_boxesWithRoomFor (mv_rm D mX9_boxesWithRoomFor) (mv_Zf G mX9_boxesWithRoomFor (mv_qi mv_SH h P)) 0 0 39 [.ref 0, .int v1, .int v2, .int v3] [] mv_SH h := by
  unfold fX9_boxesWithRoomFor_0_b39 at hs
  refine mv_iinc (lv' := [.ref 0, .int v1, .int v2, .int (v3 + 1)]) 1 dX9_boxesWithRoomFor_39 rfl (by decide) (Nat.le_of_ble_eq_true rfl) rfl rfl ?_
  refine mv_goto dX9_boxesWithRoomFor_42 ?_
  exact (hk4 _ _ _ hs)
noncomputable def fX9_boxesWithRoomFor_0_b4 : Nat → Int32 → Int32 → Int32 → mv_H → Option (Int32)
  | 0, _, _, _, _ => none
  | n + 1, v1, v2, v3, h => if v3 < 6 then ((fX7_has_2 v3 h).bind fun r925 => if r925 = 0 then fX9_boxesWithRoomFor_0_b39 (fX9_boxesWithRoomFor_0_b4 n) v1 v2 v3 h else (fX9_isRoomFor_0 v1 v3 h).bind fun r926 => if r926 = 0 then fX9_boxesWithRoomFor_0_b39 (fX9_boxesWithRoomFor_0_b4 n) v1 v2 v3 h else mv_let (v2 ||| (1 <<< (v3 &&& 31))) fun x927 : Int32 => fX9_boxesWithRoomFor_0_b39 (fX9_boxesWithRoomFor_0_b4 n) v1 x927 v3 h) else some v2
set_option maxRecDepth 100000 in
set_option maxHeartbeats 4000000 in
theorem BX9_boxesWithRoomFor_0_b4 (G : mv_G) (d D : Nat) (hD : d + 4 ≤ D) (P : Int32 → Prop) (h : mv_H) : ∀ (n : Nat) (v1 : Int32) (v2 : Int32) (v3 : Int32), mv_sat (fX9_boxesWithRoomFor_0_b4 n v1 v2 v3 h) P → mv_MW G mX9_boxesWithRoomFor (mv_rm D mX9_boxesWithRoomFor) (mv_Zf G mX9_boxesWithRoomFor (mv_qi mv_SH h P)) 0 0 4 [.ref 0, .int v1, .int v2, .int v3] [] mv_SH h := by
  intro n
  induction n with
  | zero =>
    intro v1 v2 v3 hs
    unfold fX9_boxesWithRoomFor_0_b4 at hs
    exact (mv_sat_none hs).elim
  | succ n ih =>
    intro v1 v2 v3 hs
    unfold fX9_boxesWithRoomFor_0_b4 at hs
    refine mv_iload_n dX9_boxesWithRoomFor_4 rfl ?_
    refine mv_bipush 6 dX9_boxesWithRoomFor_5 (by decide) ?_
    refine mv_icmp_ge dX9_boxesWithRoomFor_7 hs (fun _ hs => ?_) (fun _ hs => ?_)
    · refine mv_aload_n dX9_boxesWithRoomFor_10 rfl ?_
      refine mv_getr dX9_boxesWithRoomFor_11 kf_X9_10 gf_0_0 ?_
      refine mv_getr dX9_boxesWithRoomFor_14 kf_X9_64 gf_1_0 ?_
      refine mv_iload_n dX9_boxesWithRoomFor_17 rfl ?_
      refine mv_cV (st := []) dX9_boxesWithRoomFor_18 kk_X9_100 (TX7_has_2 G d _ _ _ (mv_sat_bind hs)) so_2 vc_7 rfl rfl (Nat.le_of_ble_eq_true rfl) (by omega) rfl ⟨Nat.zero_le _, Nat.zero_le _⟩ (mv_ki fun r925 hs => ?_)
      refine mv_if_eq dX9_boxesWithRoomFor_21 hs (fun _ hs => ?_) (fun _ hs => ?_)
      · exact (BX9_boxesWithRoomFor_0_b39 G d D (by omega) P _ _ ih _ _ _ hs)
      · refine mv_aload_n dX9_boxesWithRoomFor_24 rfl ?_
        refine mv_iload_n dX9_boxesWithRoomFor_25 rfl ?_
        refine mv_iload_n dX9_boxesWithRoomFor_26 rfl ?_
        refine mv_cV (st := []) dX9_boxesWithRoomFor_27 kk_X9_281 (TX9_isRoomFor_0 G d _ _ _ _ (mv_sat_bind hs)) so_0 vc_9 rfl rfl (Nat.le_of_ble_eq_true rfl) (by omega) rfl ⟨Nat.zero_le _, Nat.zero_le _⟩ (mv_ki fun r926 hs => ?_)
        refine mv_if_eq dX9_boxesWithRoomFor_30 hs (fun _ hs => ?_) (fun _ hs => ?_)
        · exact (BX9_boxesWithRoomFor_0_b39 G d D (by omega) P _ _ ih _ _ _ hs)
        · refine mv_iload_n dX9_boxesWithRoomFor_33 rfl ?_
          refine mv_iconst 1 dX9_boxesWithRoomFor_34 (by decide) ?_
          refine mv_iload_n dX9_boxesWithRoomFor_35 rfl ?_
          refine mv_ishl dX9_boxesWithRoomFor_36 ?_
          refine mv_ior dX9_boxesWithRoomFor_37 ?_
          refine mv_name hs (fun x927 hs => ?_)
          refine mv_istore_n (lv' := [.ref 0, .int v1, .int x927, .int v3]) dX9_boxesWithRoomFor_38 (Nat.le_of_ble_eq_true rfl) rfl rfl ?_
          exact (BX9_boxesWithRoomFor_0_b39 G d D (by omega) P _ _ ih _ _ _ hs)
    · refine mv_iload_n dX9_boxesWithRoomFor_45 rfl ?_
      exact mv_iret dX9_boxesWithRoomFor_46 rfl ⟨_, rfl, rfl, rfl, mv_sat_some hs⟩
noncomputable def fX9_boxesWithRoomFor_0 (p0 : Int32) (h : mv_H) : Option (Int32) := fX9_boxesWithRoomFor_0_b4 mv_F p0 0 0 h
set_option maxRecDepth 100000 in
set_option maxHeartbeats 4000000 in
theorem TX9_boxesWithRoomFor_0 (G : mv_G) (d : Nat) (P : Int32 → Prop) (p0 : Int32) (h : mv_H) (hs : mv_sat (fX9_boxesWithRoomFor_0 p0 h) P) : mv_met G (d + 4) mX9_boxesWithRoomFor [.ref 0, .int p0] mv_SH h (mv_qi mv_SH h P) := by
  unfold fX9_boxesWithRoomFor_0 at hs
  obtain ⟨D, hDe⟩ : ∃ D, D = d + 4 := ⟨_, rfl⟩
  rw [← hDe]
  have hD : d + 4 ≤ D := by omega
  refine mv_enter (lv := [.ref 0, .int p0, .float 0, .float 0]) 2 (by decide) (by decide +kernel) rfl (Nat.le_of_ble_eq_true rfl) ?_
  refine mv_iconst 0 dX9_boxesWithRoomFor_0 (by decide) ?_
  refine mv_istore_n (lv' := [.ref 0, .int p0, .int 0, .float 0]) dX9_boxesWithRoomFor_1 (Nat.le_of_ble_eq_true rfl) rfl rfl ?_
  refine mv_iconst 0 dX9_boxesWithRoomFor_2 (by decide) ?_
  refine mv_istore_n (lv' := [.ref 0, .int p0, .int 0, .int 0]) dX9_boxesWithRoomFor_3 (Nat.le_of_ble_eq_true rfl) rfl rfl ?_
  exact (BX9_boxesWithRoomFor_0_b4 G d D (by omega) P _ _ _ _ _ hs)
noncomputable def fX9_tight_0_b91 (k31 : Int32 → Int32 → Int32 → Int32 → mv_H → Option (Int32 × mv_H)) (v2 : Int32) (v3 : Int32) (v4 : Int32) (v5 : Int32) (h : mv_H) : Option (Int32 × mv_H) := k31 v2 v3 v4 (v5 + 1) h
set_option maxRecDepth 100000 in
set_option maxHeartbeats 4000000 in
theorem BX9_tight_0_b91 (G : mv_G) (d D : Nat) (hD : d + 0 ≤ D) (P : Int32 × mv_H → Prop) (k31 : Int32 → Int32 → Int32 → Int32 → mv_H → Option (Int32 × mv_H)) (hk31 : ∀ (v2 : Int32) (v3 : Int32) (v4 : Int32) (v5 : Int32) (h : mv_H), mv_sat (k31 v2 v3 v4 v5 h) P → mv_MW G mX9_tight (mv_rm D mX9_tight) (mv_Zf G mX9_tight (mv_qI mv_SH P)) 0 0 31 [.ref 0, .float 0, .int v2, .int v3, .int v4, .int v5, .float 0] [] mv_SH h) (v2 : Int32) (v3 : Int32) (v4 : Int32) (v5 : Int32) (h : mv_H) (hs : mv_sat (fX9_tight_0_b91 k31 v2 v3 v4 v5 h) P) : mv_MW G mX9_tight (mv_rm D mX9_tight) (mv_Zf G mX9_tight (mv_qI mv_SH P)) 0 0 91 [.ref 0, .float 0, .int v2, .int v3, .int v4, .int v5, .float 0] [] mv_SH h := by
  unfold fX9_tight_0_b91 at hs
  refine mv_iinc (lv' := [.ref 0, .float 0, .int v2, .int v3, .int v4, .int (v5 + 1), .float 0]) 1 dX9_tight_91 rfl (by decide) (Nat.le_of_ble_eq_true rfl) rfl rfl ?_
  refine mv_goto dX9_tight_94 ?_
  exact (hk31 _ _ _ _ _ hs)
noncomputable def fX9_tight_0_b84 (k31 : Int32 → Int32 → Int32 → Int32 → mv_H → Option (Int32 × mv_H)) (v2 : Int32) (v5 : Int32) (v6 : Int32) (h : mv_H) : Option (Int32 × mv_H) := fX9_tight_0_b91 k31 v2 v5 v6 v5 h
set_option maxRecDepth 100000 in
set_option maxHeartbeats 4000000 in
theorem BX9_tight_0_b84 (G : mv_G) (d D : Nat) (hD : d + 0 ≤ D) (P : Int32 × mv_H → Prop) (k31 : Int32 → Int32 → Int32 → Int32 → mv_H → Option (Int32 × mv_H)) (hk31 : ∀ (v2 : Int32) (v3 : Int32) (v4 : Int32) (v5 : Int32) (h : mv_H), mv_sat (k31 v2 v3 v4 v5 h) P → mv_MW G mX9_tight (mv_rm D mX9_tight) (mv_Zf G mX9_tight (mv_qI mv_SH P)) 0 0 31 [.ref 0, .float 0, .int v2, .int v3, .int v4, .int v5, .float 0] [] mv_SH h) (v2 : Int32) (v5 : Int32) (v6 : Int32) (h : mv_H) (hs : mv_sat (fX9_tight_0_b84 k31 v2 v5 v6 h) P) : mv_MW G mX9_tight (mv_rm D mX9_tight) (mv_Zf G mX9_tight (mv_qI mv_SH P)) 0 0 84 [.ref 0, .float 0, .int v2, .float 0, .float 0, .int v5, .int v6] [] mv_SH h := by
  unfold fX9_tight_0_b84 at hs
  refine mv_iload dX9_tight_84 rfl ?_
  refine mv_istore_n (lv' := [.ref 0, .float 0, .int v2, .int v5, .float 0, .int v5, .int v6]) dX9_tight_86 (Nat.le_of_ble_eq_true rfl) rfl rfl ?_
  refine mv_iload dX9_tight_87 rfl ?_
  refine mv_istore (lv' := [.ref 0, .float 0, .int v2, .int v5, .int v6, .int v5, .int v6]) dX9_tight_89 (Nat.le_of_ble_eq_true rfl) rfl rfl ?_
  exact mv_weak (lv' := [.ref 0, .float 0, .int v2, .int v5, .int v6, .int v5, .float 0]) (mv_s (mv_s (mv_s (mv_s (mv_s (mv_s (mv_k mv_n))))))) (BX9_tight_0_b91 G d D (by omega) P _ hk31 _ _ _ _ _ hs)
noncomputable def fX9_tight_0_b60 (k31 : Int32 → Int32 → Int32 → Int32 → mv_H → Option (Int32 × mv_H)) (v2 : Int32) (v3 : Int32) (v4 : Int32) (v5 : Int32) (s0 : Int32) (h : mv_H) : Option (Int32 × mv_H) := (fX9_isIn v2 v5).bind fun r930 => if r930 = 0 then fX9_tight_0_b91 k31 v2 v3 v4 v5 h else if v3 = (-6) then fX9_tight_0_b84 k31 v2 v5 s0 h else if s0 < v4 then fX9_tight_0_b84 k31 v2 v5 s0 h else fX9_tight_0_b91 k31 v2 v3 v4 v5 h
set_option maxRecDepth 100000 in
set_option maxHeartbeats 4000000 in
theorem BX9_tight_0_b60 (G : mv_G) (d D : Nat) (hD : d + 1 ≤ D) (P : Int32 × mv_H → Prop) (k31 : Int32 → Int32 → Int32 → Int32 → mv_H → Option (Int32 × mv_H)) (hk31 : ∀ (v2 : Int32) (v3 : Int32) (v4 : Int32) (v5 : Int32) (h : mv_H), mv_sat (k31 v2 v3 v4 v5 h) P → mv_MW G mX9_tight (mv_rm D mX9_tight) (mv_Zf G mX9_tight (mv_qI mv_SH P)) 0 0 31 [.ref 0, .float 0, .int v2, .int v3, .int v4, .int v5, .float 0] [] mv_SH h) (v2 : Int32) (v3 : Int32) (v4 : Int32) (v5 : Int32) (s0 : Int32) (h : mv_H) (hs : mv_sat (fX9_tight_0_b60 k31 v2 v3 v4 v5 s0 h) P) : mv_MW G mX9_tight (mv_rm D mX9_tight) (mv_Zf G mX9_tight (mv_qI mv_SH P)) 0 0 60 [.ref 0, .float 0, .int v2, .int v3, .int v4, .int v5, .float 0] [.int s0] mv_SH h := by
  unfold fX9_tight_0_b60 at hs
  refine mv_istore (lv' := [.ref 0, .float 0, .int v2, .int v3, .int v4, .int v5, .int s0]) dX9_tight_60 (Nat.le_of_ble_eq_true rfl) rfl rfl ?_
  refine mv_iload_n dX9_tight_62 rfl ?_
  refine mv_iload dX9_tight_63 rfl ?_
  refine mv_cS (st := []) dX9_tight_65 kk_X9_250 (TX9_isIn G d _ _ _ _ (mv_sat_bind hs)) rfl rfl (Nat.le_of_ble_eq_true rfl) (by omega) rfl ⟨Nat.zero_le _, Nat.zero_le _⟩ (mv_ki fun r930 hs => ?_)
  refine mv_if_eq dX9_tight_68 hs (fun _ hs => ?_) (fun _ hs => ?_)
  · exact mv_weak (lv' := [.ref 0, .float 0, .int v2, .int v3, .int v4, .int v5, .float 0]) (mv_s (mv_s (mv_s (mv_s (mv_s (mv_s (mv_k mv_n))))))) (BX9_tight_0_b91 G d D (by omega) P _ hk31 _ _ _ _ _ hs)
  · refine mv_iload_n dX9_tight_71 rfl ?_
    refine mv_bipush (-6) dX9_tight_72 (by decide) ?_
    refine mv_icmp_eq dX9_tight_74 hs (fun _ hs => ?_) (fun _ hs => ?_)
    · exact mv_weak (lv' := [.ref 0, .float 0, .int v2, .float 0, .float 0, .int v5, .int s0]) (mv_s (mv_s (mv_s (mv_k (mv_k (mv_s (mv_s mv_n))))))) (BX9_tight_0_b84 G d D (by omega) P _ hk31 _ _ _ _ hs)
    · refine mv_iload dX9_tight_77 rfl ?_
      refine mv_iload dX9_tight_79 rfl ?_
      refine mv_icmp_ge dX9_tight_81 hs (fun _ hs => ?_) (fun _ hs => ?_)
      · exact mv_weak (lv' := [.ref 0, .float 0, .int v2, .float 0, .float 0, .int v5, .int s0]) (mv_s (mv_s (mv_s (mv_k (mv_k (mv_s (mv_s mv_n))))))) (BX9_tight_0_b84 G d D (by omega) P _ hk31 _ _ _ _ hs)
      · exact mv_weak (lv' := [.ref 0, .float 0, .int v2, .int v3, .int v4, .int v5, .float 0]) (mv_s (mv_s (mv_s (mv_s (mv_s (mv_s (mv_k mv_n))))))) (BX9_tight_0_b91 G d D (by omega) P _ hk31 _ _ _ _ _ hs)
noncomputable def fX9_tight_0_b31 : Nat → Int32 → Int32 → Int32 → Int32 → mv_H → Option (Int32 × mv_H)
  | 0, _, _, _, _, _ => none
  | n + 1, v2, v3, v4, v5, h => if v5 < 6 then ((fX9_isIn v2 v5).bind fun r929 => if r929 = 0 then fX9_tight_0_b60 (fX9_tight_0_b31 n) v2 v3 v4 v5 0 h else (fX9_wrapOf_0 v5 h).bind fun r931 => (fX8_leastPaper_38 r931).bind fun r932 => fX9_tight_0_b60 (fX9_tight_0_b31 n) v2 v3 v4 v5 r932 r931) else some (v3, h)
set_option maxRecDepth 100000 in
set_option maxHeartbeats 4000000 in
theorem BX9_tight_0_b31 (G : mv_G) (d D : Nat) (hD : d + 5 ≤ D) (P : Int32 × mv_H → Prop) : ∀ (n : Nat) (v2 : Int32) (v3 : Int32) (v4 : Int32) (v5 : Int32) (h : mv_H), mv_sat (fX9_tight_0_b31 n v2 v3 v4 v5 h) P → mv_MW G mX9_tight (mv_rm D mX9_tight) (mv_Zf G mX9_tight (mv_qI mv_SH P)) 0 0 31 [.ref 0, .float 0, .int v2, .int v3, .int v4, .int v5, .float 0] [] mv_SH h := by
  intro n
  induction n with
  | zero =>
    intro v2 v3 v4 v5 h hs
    unfold fX9_tight_0_b31 at hs
    exact (mv_sat_none hs).elim
  | succ n ih =>
    intro v2 v3 v4 v5 h hs
    unfold fX9_tight_0_b31 at hs
    refine mv_iload dX9_tight_31 rfl ?_
    refine mv_bipush 6 dX9_tight_33 (by decide) ?_
    refine mv_icmp_ge dX9_tight_35 hs (fun _ hs => ?_) (fun _ hs => ?_)
    · refine mv_iload_n dX9_tight_38 rfl ?_
      refine mv_iload dX9_tight_39 rfl ?_
      refine mv_cS (st := []) dX9_tight_41 kk_X9_250 (TX9_isIn G d _ _ _ _ (mv_sat_bind hs)) rfl rfl (Nat.le_of_ble_eq_true rfl) (by omega) rfl ⟨Nat.zero_le _, Nat.zero_le _⟩ (mv_ki fun r929 hs => ?_)
      refine mv_if_eq dX9_tight_44 hs (fun _ hs => ?_) (fun _ hs => ?_)
      · refine mv_iconst 0 dX9_tight_59 (by decide) ?_
        exact (BX9_tight_0_b60 G d D (by omega) P _ ih _ _ _ _ _ _ hs)
      · refine mv_aload_n dX9_tight_47 rfl ?_
        refine mv_iload dX9_tight_48 rfl ?_
        refine mv_cV (st := []) dX9_tight_50 kk_X9_144 (TX9_wrapOf_0 G d _ _ _ (mv_sat_bind hs)) so_0 vc_9 rfl rfl (Nat.le_of_ble_eq_true rfl) (by omega) rfl ⟨Nat.zero_le _, Nat.zero_le _⟩ (mv_kc fun r931 hs => ?_)
        refine mv_cV (st := []) dX9_tight_53 kk_X9_160 (TX8_leastPaper_38 G d _ _ (mv_sat_bind hs)) so_38 vc_8 rfl rfl (Nat.le_of_ble_eq_true rfl) (by omega) rfl ⟨Nat.zero_le _, Nat.zero_le _⟩ (mv_ki fun r932 hs => ?_)
        refine mv_goto dX9_tight_56 ?_
        exact (BX9_tight_0_b60 G d D (by omega) P _ ih _ _ _ _ _ _ hs)
    · refine mv_iload_n dX9_tight_97 rfl ?_
      exact mv_iret dX9_tight_98 rfl ⟨(v3, h), rfl, rfl, rfl, mv_sat_some hs⟩
noncomputable def fX9_tight_0 (p0 : Int32) (h : mv_H) : Option (Int32 × mv_H) := (fX7_has_4 p0 h).bind fun r924 => if r924 = 0 then some ((-1), h) else (fX9_boxesWithRoomFor_0 p0 h).bind fun r928 => fX9_tight_0_b31 mv_F r928 (-6) 0 0 h
set_option maxRecDepth 100000 in
set_option maxHeartbeats 4000000 in
theorem TX9_tight_0 (G : mv_G) (d : Nat) (P : Int32 × mv_H → Prop) (p0 : Int32) (h : mv_H) (hs : mv_sat (fX9_tight_0 p0 h) P) : mv_met G (d + 5) mX9_tight [.ref 0, .int p0] mv_SH h (mv_qI mv_SH P) := by
  unfold fX9_tight_0 at hs
  obtain ⟨D, hDe⟩ : ∃ D, D = d + 5 := ⟨_, rfl⟩
  rw [← hDe]
  have hD : d + 5 ≤ D := by omega
  refine mv_enter (lv := [.ref 0, .int p0, .float 0, .float 0, .float 0, .float 0, .float 0]) 5 (by decide) (by decide +kernel) rfl (Nat.le_of_ble_eq_true rfl) ?_
  refine mv_aload_n dX9_tight_0 rfl ?_
  refine mv_getr dX9_tight_1 kf_X9_10 gf_0_0 ?_
  refine mv_getr dX9_tight_4 kf_X9_72 gf_1_1 ?_
  refine mv_iload_n dX9_tight_7 rfl ?_
  refine mv_cV (st := []) dX9_tight_8 kk_X9_100 (TX7_has_4 G d _ _ _ (mv_sat_bind hs)) so_4 vc_7 rfl rfl (Nat.le_of_ble_eq_true rfl) (by omega) rfl ⟨Nat.zero_le _, Nat.zero_le _⟩ (mv_ki fun r924 hs => ?_)
  refine mv_if_ne dX9_tight_11 hs (fun _ hs => ?_) (fun _ hs => ?_)
  · refine mv_iconst (-1) dX9_tight_14 (by decide) ?_
    exact mv_iret dX9_tight_15 rfl ⟨((-1), h), rfl, rfl, rfl, mv_sat_some hs⟩
  · refine mv_aload_n dX9_tight_16 rfl ?_
    refine mv_iload_n dX9_tight_17 rfl ?_
    refine mv_cV (st := []) dX9_tight_18 kk_X9_284 (TX9_boxesWithRoomFor_0 G d _ _ _ (mv_sat_bind hs)) so_0 vc_9 rfl rfl (Nat.le_of_ble_eq_true rfl) (by omega) rfl ⟨Nat.zero_le _, Nat.zero_le _⟩ (mv_ki fun r928 hs => ?_)
    refine mv_istore_n (lv' := [.ref 0, .int p0, .int r928, .float 0, .float 0, .float 0, .float 0]) dX9_tight_21 (Nat.le_of_ble_eq_true rfl) rfl rfl ?_
    refine mv_bipush (-6) dX9_tight_22 (by decide) ?_
    refine mv_istore_n (lv' := [.ref 0, .int p0, .int r928, .int (-6), .float 0, .float 0, .float 0]) dX9_tight_24 (Nat.le_of_ble_eq_true rfl) rfl rfl ?_
    refine mv_iconst 0 dX9_tight_25 (by decide) ?_
    refine mv_istore (lv' := [.ref 0, .int p0, .int r928, .int (-6), .int 0, .float 0, .float 0]) dX9_tight_26 (Nat.le_of_ble_eq_true rfl) rfl rfl ?_
    refine mv_iconst 0 dX9_tight_28 (by decide) ?_
    refine mv_istore (lv' := [.ref 0, .int p0, .int r928, .int (-6), .int 0, .int 0, .float 0]) dX9_tight_29 (Nat.le_of_ble_eq_true rfl) rfl rfl ?_
    exact mv_weak (lv' := [.ref 0, .float 0, .int r928, .int (-6), .int 0, .int 0, .float 0]) (mv_s (mv_k (mv_s (mv_s (mv_s (mv_s (mv_s mv_n))))))) (BX9_tight_0_b31 G d D (by omega) P _ _ _ _ _ _ hs)
noncomputable def fX10_tight_55_b72 (k15 : Int32 → Int32 → Int32 → mv_H → Option (Int32 × mv_H)) (v1 : Int32) (v3 : Int32) (s0 : Int32) (h : mv_H) : Option (Int32 × mv_H) := k15 v1 s0 (v3 + 1) h
set_option maxRecDepth 100000 in
set_option maxHeartbeats 4000000 in
theorem BX10_tight_55_b72 (G : mv_G) (d D : Nat) (hD : d + 0 ≤ D) (P : Int32 × mv_H → Prop) (k15 : Int32 → Int32 → Int32 → mv_H → Option (Int32 × mv_H)) (hk15 : ∀ (v1 : Int32) (v2 : Int32) (v3 : Int32) (h : mv_H), mv_sat (k15 v1 v2 v3 h) P → mv_MW G mX10_tight (mv_rm D mX10_tight) (mv_Zf G mX10_tight (mv_qI mv_SH P)) 0 0 15 [.ref 55, .int v1, .int v2, .int v3, .float 0] [] mv_SH h) (v1 : Int32) (v3 : Int32) (s0 : Int32) (h : mv_H) (hs : mv_sat (fX10_tight_55_b72 k15 v1 v3 s0 h) P) : mv_MW G mX10_tight (mv_rm D mX10_tight) (mv_Zf G mX10_tight (mv_qI mv_SH P)) 0 0 72 [.ref 55, .int v1, .float 0, .int v3, .float 0] [.int s0] mv_SH h := by
  unfold fX10_tight_55_b72 at hs
  refine mv_istore_n (lv' := [.ref 55, .int v1, .int s0, .int v3, .float 0]) dX10_tight_72 (Nat.le_of_ble_eq_true rfl) rfl rfl ?_
  refine mv_iinc (lv' := [.ref 55, .int v1, .int s0, .int (v3 + 1), .float 0]) 1 dX10_tight_73 rfl (by decide) (Nat.le_of_ble_eq_true rfl) rfl rfl ?_
  refine mv_goto dX10_tight_76 ?_
  exact (hk15 _ _ _ _ hs)
noncomputable def fX10_tight_55_b60 (k15 : Int32 → Int32 → Int32 → mv_H → Option (Int32 × mv_H)) (v1 : Int32) (v2 : Int32) (v3 : Int32) (s0 : Int32) (h : mv_H) : Option (Int32 × mv_H) := if s0 = 0 then fX10_tight_55_b72 k15 v1 v3 v2 h else fX10_tight_55_b72 k15 v1 v3 v3 h
set_option maxRecDepth 100000 in
set_option maxHeartbeats 4000000 in
theorem BX10_tight_55_b60 (G : mv_G) (d D : Nat) (hD : d + 0 ≤ D) (P : Int32 × mv_H → Prop) (k15 : Int32 → Int32 → Int32 → mv_H → Option (Int32 × mv_H)) (hk15 : ∀ (v1 : Int32) (v2 : Int32) (v3 : Int32) (h : mv_H), mv_sat (k15 v1 v2 v3 h) P → mv_MW G mX10_tight (mv_rm D mX10_tight) (mv_Zf G mX10_tight (mv_qI mv_SH P)) 0 0 15 [.ref 55, .int v1, .int v2, .int v3, .float 0] [] mv_SH h) (v1 : Int32) (v2 : Int32) (v3 : Int32) (s0 : Int32) (h : mv_H) (hs : mv_sat (fX10_tight_55_b60 k15 v1 v2 v3 s0 h) P) : mv_MW G mX10_tight (mv_rm D mX10_tight) (mv_Zf G mX10_tight (mv_qI mv_SH P)) 0 0 60 [.ref 55, .int v1, .int v2, .int v3, .float 0] [.int s0] mv_SH h := by
  unfold fX10_tight_55_b60 at hs
  refine mv_istore (lv' := [.ref 55, .int v1, .int v2, .int v3, .int s0]) dX10_tight_60 (Nat.le_of_ble_eq_true rfl) rfl rfl ?_
  refine mv_iload dX10_tight_62 rfl ?_
  refine mv_if_eq dX10_tight_64 hs (fun _ hs => ?_) (fun _ hs => ?_)
  · refine mv_iload_n dX10_tight_71 rfl ?_
    exact mv_weak (lv' := [.ref 55, .int v1, .float 0, .int v3, .float 0]) (mv_s (mv_s (mv_k (mv_s (mv_k mv_n))))) (BX10_tight_55_b72 G d D (by omega) P _ hk15 _ _ _ _ hs)
  · refine mv_iload_n dX10_tight_67 rfl ?_
    refine mv_goto dX10_tight_68 ?_
    exact mv_weak (lv' := [.ref 55, .int v1, .float 0, .int v3, .float 0]) (mv_s (mv_s (mv_k (mv_s (mv_k mv_n))))) (BX10_tight_55_b72 G d D (by omega) P _ hk15 _ _ _ _ hs)
noncomputable def fX10_tight_55_b59 (k15 : Int32 → Int32 → Int32 → mv_H → Option (Int32 × mv_H)) (v1 : Int32) (v2 : Int32) (v3 : Int32) (h : mv_H) : Option (Int32 × mv_H) := fX10_tight_55_b60 k15 v1 v2 v3 0 h
set_option maxRecDepth 100000 in
set_option maxHeartbeats 4000000 in
theorem BX10_tight_55_b59 (G : mv_G) (d D : Nat) (hD : d + 0 ≤ D) (P : Int32 × mv_H → Prop) (k15 : Int32 → Int32 → Int32 → mv_H → Option (Int32 × mv_H)) (hk15 : ∀ (v1 : Int32) (v2 : Int32) (v3 : Int32) (h : mv_H), mv_sat (k15 v1 v2 v3 h) P → mv_MW G mX10_tight (mv_rm D mX10_tight) (mv_Zf G mX10_tight (mv_qI mv_SH P)) 0 0 15 [.ref 55, .int v1, .int v2, .int v3, .float 0] [] mv_SH h) (v1 : Int32) (v2 : Int32) (v3 : Int32) (h : mv_H) (hs : mv_sat (fX10_tight_55_b59 k15 v1 v2 v3 h) P) : mv_MW G mX10_tight (mv_rm D mX10_tight) (mv_Zf G mX10_tight (mv_qI mv_SH P)) 0 0 59 [.ref 55, .int v1, .int v2, .int v3, .float 0] [] mv_SH h := by
  unfold fX10_tight_55_b59 at hs
  refine mv_iconst 0 dX10_tight_59 (by decide) ?_
  exact (BX10_tight_55_b60 G d D (by omega) P _ hk15 _ _ _ _ _ hs)
noncomputable def fX10_tight_55_b55 (k15 : Int32 → Int32 → Int32 → mv_H → Option (Int32 × mv_H)) (v1 : Int32) (v2 : Int32) (v3 : Int32) (h : mv_H) : Option (Int32 × mv_H) := fX10_tight_55_b60 k15 v1 v2 v3 1 h
set_option maxRecDepth 100000 in
set_option maxHeartbeats 4000000 in
theorem BX10_tight_55_b55 (G : mv_G) (d D : Nat) (hD : d + 0 ≤ D) (P : Int32 × mv_H → Prop) (k15 : Int32 → Int32 → Int32 → mv_H → Option (Int32 × mv_H)) (hk15 : ∀ (v1 : Int32) (v2 : Int32) (v3 : Int32) (h : mv_H), mv_sat (k15 v1 v2 v3 h) P → mv_MW G mX10_tight (mv_rm D mX10_tight) (mv_Zf G mX10_tight (mv_qI mv_SH P)) 0 0 15 [.ref 55, .int v1, .int v2, .int v3, .float 0] [] mv_SH h) (v1 : Int32) (v2 : Int32) (v3 : Int32) (h : mv_H) (hs : mv_sat (fX10_tight_55_b55 k15 v1 v2 v3 h) P) : mv_MW G mX10_tight (mv_rm D mX10_tight) (mv_Zf G mX10_tight (mv_qI mv_SH P)) 0 0 55 [.ref 55, .int v1, .int v2, .int v3, .float 0] [] mv_SH h := by
  unfold fX10_tight_55_b55 at hs
  refine mv_iconst 1 dX10_tight_55 (by decide) ?_
  refine mv_goto dX10_tight_56 ?_
  exact (BX10_tight_55_b60 G d D (by omega) P _ hk15 _ _ _ _ _ hs)
noncomputable def fX10_leastPaper_55 (p0 : Int32) (h : mv_H) : Option (Int32 × mv_H) := (fX10_look_55 p0 h).bind fun r937 => (fX10_leastAxis_55 r937).bind fun r938 => (fX10_paper_55 r938 r937).bind fun r939 => some (r939, r937)
set_option maxRecDepth 100000 in
set_option maxHeartbeats 4000000 in
theorem TX10_leastPaper_55 (G : mv_G) (d : Nat) (P : Int32 × mv_H → Prop) (p0 : Int32) (h : mv_H) (hs : mv_sat (fX10_leastPaper_55 p0 h) P) : mv_met G (d + 2) mX10_leastPaper [.ref 55, .int p0] mv_SH h (mv_qI mv_SH P) := by
  unfold fX10_leastPaper_55 at hs
  obtain ⟨D, hDe⟩ : ∃ D, D = d + 2 := ⟨_, rfl⟩
  rw [← hDe]
  have hD : d + 2 ≤ D := by omega
  refine mv_enter (lv := [.ref 55, .int p0]) 0 (by decide) (by decide +kernel) rfl (Nat.le_of_ble_eq_true rfl) ?_
  refine mv_aload_n dX10_leastPaper_0 rfl ?_
  refine mv_iload_n dX10_leastPaper_1 rfl ?_
  refine mv_cV (st := []) dX10_leastPaper_2 kk_X10_209 (TX10_look_55 G d _ _ _ (mv_sat_bind hs)) so_55 vc_10 rfl rfl (Nat.le_of_ble_eq_true rfl) (by omega) rfl ⟨Nat.zero_le _, Nat.zero_le _⟩ (mv_kv fun r937 hs => ?_)
  refine mv_aload_n dX10_leastPaper_5 rfl ?_
  refine mv_aload_n dX10_leastPaper_6 rfl ?_
  refine mv_cV (st := [.ref 55]) dX10_leastPaper_7 kk_X10_213 (TX10_leastAxis_55 G d _ _ (mv_sat_bind hs)) so_55 vc_10 rfl rfl (Nat.le_of_ble_eq_true rfl) (by omega) rfl ⟨Nat.zero_le _, Nat.zero_le _⟩ (mv_ki fun r938 hs => ?_)
  refine mv_cV (st := []) dX10_leastPaper_10 kk_X10_203 (TX10_paper_55 G d _ _ _ (mv_sat_bind hs)) so_55 vc_10 rfl rfl (Nat.le_of_ble_eq_true rfl) (by omega) rfl ⟨Nat.zero_le _, Nat.zero_le _⟩ (mv_ki fun r939 hs => ?_)
  exact mv_iret dX10_leastPaper_13 rfl ⟨(r939, r937), rfl, rfl, rfl, mv_sat_some hs⟩
noncomputable def fX10_tight_55_b15 : Nat → Int32 → Int32 → Int32 → mv_H → Option (Int32 × mv_H)
  | 0, _, _, _, _ => none
  | n + 1, v1, v2, v3, h => if v3 < 6 then ((fX10_isBox_55 v3 h).bind fun r935 => if r935 = 0 then fX10_tight_55_b59 (fX10_tight_55_b15 n) v1 v2 v3 h else (fX10_fitsIn_55 v1 v3 h).bind fun r936 => if r936.1 = 0 then fX10_tight_55_b59 (fX10_tight_55_b15 n) v1 v2 v3 r936.2 else if v2 < 0 then fX10_tight_55_b55 (fX10_tight_55_b15 n) v1 v2 v3 r936.2 else (fX10_leastPaper_55 v3 r936.2).bind fun r940 => (fX10_leastPaper_55 v2 r940.2).bind fun r941 => if r940.1 < r941.1 then fX10_tight_55_b55 (fX10_tight_55_b15 n) v1 v2 v3 r941.2 else fX10_tight_55_b59 (fX10_tight_55_b15 n) v1 v2 v3 r941.2) else some (v2, h)
set_option maxRecDepth 100000 in
set_option maxHeartbeats 4000000 in
theorem BX10_tight_55_b15 (G : mv_G) (d D : Nat) (hD : d + 3 ≤ D) (P : Int32 × mv_H → Prop) : ∀ (n : Nat) (v1 : Int32) (v2 : Int32) (v3 : Int32) (h : mv_H), mv_sat (fX10_tight_55_b15 n v1 v2 v3 h) P → mv_MW G mX10_tight (mv_rm D mX10_tight) (mv_Zf G mX10_tight (mv_qI mv_SH P)) 0 0 15 [.ref 55, .int v1, .int v2, .int v3, .float 0] [] mv_SH h := by
  intro n
  induction n with
  | zero =>
    intro v1 v2 v3 h hs
    unfold fX10_tight_55_b15 at hs
    exact (mv_sat_none hs).elim
  | succ n ih =>
    intro v1 v2 v3 h hs
    unfold fX10_tight_55_b15 at hs
    refine mv_iload_n dX10_tight_15 rfl ?_
    refine mv_bipush 6 dX10_tight_16 (by decide) ?_
    refine mv_icmp_ge dX10_tight_18 hs (fun _ hs => ?_) (fun _ hs => ?_)
    · refine mv_aload_n dX10_tight_21 rfl ?_
      refine mv_iload_n dX10_tight_22 rfl ?_
      refine mv_cV (st := []) dX10_tight_23 kk_X10_146 (TX10_isBox_55 G d _ _ _ (mv_sat_bind hs)) so_55 vc_10 rfl rfl (Nat.le_of_ble_eq_true rfl) (by omega) rfl ⟨Nat.zero_le _, Nat.zero_le _⟩ (mv_ki fun r935 hs => ?_)
      refine mv_if_eq dX10_tight_26 hs (fun _ hs => ?_) (fun _ hs => ?_)
      · exact (BX10_tight_55_b59 G d D (by omega) P _ ih _ _ _ _ hs)
      · refine mv_aload_n dX10_tight_29 rfl ?_
        refine mv_iload_n dX10_tight_30 rfl ?_
        refine mv_iload_n dX10_tight_31 rfl ?_
        refine mv_cV (st := []) dX10_tight_32 kk_X10_313 (TX10_fitsIn_55 G d _ _ _ _ (mv_sat_bind hs)) so_55 vc_10 rfl rfl (Nat.le_of_ble_eq_true rfl) (by omega) rfl ⟨Nat.zero_le _, Nat.zero_le _⟩ (mv_kI2 fun r936 hs => ?_)
        refine mv_if_eq dX10_tight_35 hs (fun _ hs => ?_) (fun _ hs => ?_)
        · exact (BX10_tight_55_b59 G d D (by omega) P _ ih _ _ _ _ hs)
        · refine mv_iload_n dX10_tight_38 rfl ?_
          refine mv_if_lt dX10_tight_39 hs (fun _ hs => ?_) (fun _ hs => ?_)
          · exact (BX10_tight_55_b55 G d D (by omega) P _ ih _ _ _ _ hs)
          · refine mv_aload_n dX10_tight_42 rfl ?_
            refine mv_iload_n dX10_tight_43 rfl ?_
            refine mv_cV (st := []) dX10_tight_44 kk_X10_316 (TX10_leastPaper_55 G d _ _ _ (mv_sat_bind hs)) so_55 vc_10 rfl rfl (Nat.le_of_ble_eq_true rfl) (by omega) rfl ⟨Nat.zero_le _, Nat.zero_le _⟩ (mv_kI2 fun r940 hs => ?_)
            refine mv_aload_n dX10_tight_47 rfl ?_
            refine mv_iload_n dX10_tight_48 rfl ?_
            refine mv_cV (st := [.int r940.1]) dX10_tight_49 kk_X10_316 (TX10_leastPaper_55 G d _ _ _ (mv_sat_bind hs)) so_55 vc_10 rfl rfl (Nat.le_of_ble_eq_true rfl) (by omega) rfl ⟨Nat.zero_le _, Nat.zero_le _⟩ (mv_kI2 fun r941 hs => ?_)
            refine mv_icmp_ge dX10_tight_52 hs (fun _ hs => ?_) (fun _ hs => ?_)
            · exact (BX10_tight_55_b55 G d D (by omega) P _ ih _ _ _ _ hs)
            · exact (BX10_tight_55_b59 G d D (by omega) P _ ih _ _ _ _ hs)
    · refine mv_iload_n dX10_tight_79 rfl ?_
      exact mv_iret dX10_tight_80 rfl ⟨(v2, h), rfl, rfl, rfl, mv_sat_some hs⟩
noncomputable def fX10_tight_55 (p0 : Int32) (h : mv_H) : Option (Int32 × mv_H) := (fX10_isThing_55 p0 h).bind fun r934 => if r934 = 0 then some ((-1), h) else fX10_tight_55_b15 mv_F p0 (-6) 0 h
set_option maxRecDepth 100000 in
set_option maxHeartbeats 4000000 in
theorem TX10_tight_55 (G : mv_G) (d : Nat) (P : Int32 × mv_H → Prop) (p0 : Int32) (h : mv_H) (hs : mv_sat (fX10_tight_55 p0 h) P) : mv_met G (d + 3) mX10_tight [.ref 55, .int p0] mv_SH h (mv_qI mv_SH P) := by
  unfold fX10_tight_55 at hs
  obtain ⟨D, hDe⟩ : ∃ D, D = d + 3 := ⟨_, rfl⟩
  rw [← hDe]
  have hD : d + 3 ≤ D := by omega
  refine mv_enter (lv := [.ref 55, .int p0, .float 0, .float 0, .float 0]) 3 (by decide) (by decide +kernel) rfl (Nat.le_of_ble_eq_true rfl) ?_
  refine mv_aload_n dX10_tight_0 rfl ?_
  refine mv_iload_n dX10_tight_1 rfl ?_
  refine mv_cV (st := []) dX10_tight_2 kk_X10_149 (TX10_isThing_55 G d _ _ _ (mv_sat_bind hs)) so_55 vc_10 rfl rfl (Nat.le_of_ble_eq_true rfl) (by omega) rfl ⟨Nat.zero_le _, Nat.zero_le _⟩ (mv_ki fun r934 hs => ?_)
  refine mv_if_ne dX10_tight_5 hs (fun _ hs => ?_) (fun _ hs => ?_)
  · refine mv_iconst (-1) dX10_tight_8 (by decide) ?_
    exact mv_iret dX10_tight_9 rfl ⟨((-1), h), rfl, rfl, rfl, mv_sat_some hs⟩
  · refine mv_bipush (-6) dX10_tight_10 (by decide) ?_
    refine mv_istore_n (lv' := [.ref 55, .int p0, .int (-6), .float 0, .float 0]) dX10_tight_12 (Nat.le_of_ble_eq_true rfl) rfl rfl ?_
    refine mv_iconst 0 dX10_tight_13 (by decide) ?_
    refine mv_istore_n (lv' := [.ref 55, .int p0, .int (-6), .int 0, .float 0]) dX10_tight_14 (Nat.le_of_ble_eq_true rfl) rfl rfl ?_
    exact (BX10_tight_55_b15 G d D (by omega) P _ _ _ _ _ hs)
noncomputable def fX7_holdsAll_4 (p0 : Int32) (h : mv_H) : Option (Int32) := if (p0 &&& ((h 4 2) ^^^ (-1))) = 0 then some 1 else some 0
set_option maxRecDepth 100000 in
set_option maxHeartbeats 4000000 in
theorem TX7_holdsAll_4 (G : mv_G) (d : Nat) (P : Int32 → Prop) (p0 : Int32) (h : mv_H) (hs : mv_sat (fX7_holdsAll_4 p0 h) P) : mv_met G (d + 0) mX7_holdsAll [.ref 4, .int p0] mv_SH h (mv_qi mv_SH h P) := by
  unfold fX7_holdsAll_4 at hs
  obtain ⟨D, hDe⟩ : ∃ D, D = d + 0 := ⟨_, rfl⟩
  rw [← hDe]
  have hD : d + 0 ≤ D := by omega
  refine mv_enter (lv := [.ref 4, .int p0]) 0 (by decide) (by decide +kernel) rfl (Nat.le_of_ble_eq_true rfl) ?_
  refine mv_iload_n dX7_holdsAll_0 rfl ?_
  refine mv_aload_n dX7_holdsAll_1 rfl ?_
  refine mv_geti dX7_holdsAll_2 kf_X7_19 gf_4_2 ?_
  refine mv_iconst (-1) dX7_holdsAll_5 (by decide) ?_
  refine mv_ixor dX7_holdsAll_6 ?_
  refine mv_iand dX7_holdsAll_7 ?_
  refine mv_if_ne dX7_holdsAll_8 hs (fun _ hs => ?_) (fun _ hs => ?_)
  · refine mv_iconst 1 dX7_holdsAll_11 (by decide) ?_
    refine mv_goto dX7_holdsAll_12 ?_
    exact mv_zret dX7_holdsAll_16 rfl (Or.inr rfl) ⟨_, rfl, rfl, rfl, mv_sat_some hs⟩
  · refine mv_iconst 0 dX7_holdsAll_15 (by decide) ?_
    exact mv_zret dX7_holdsAll_16 rfl (Or.inl rfl) ⟨_, rfl, rfl, rfl, mv_sat_some hs⟩
noncomputable def fX5_price_50 (p0 : Int32) (p1 : Int32) (h : mv_H) : Option (mv_H) := (fX9_isNumber p0).bind fun r945 => if r945 = 0 then some h else if mv_in p0 6 then mv_let (mv_u h 51 p0.toNatClampNeg p1) fun h946 : mv_H => (some h946) else none
set_option maxRecDepth 100000 in
set_option maxHeartbeats 4000000 in
theorem TX5_price_50 (G : mv_G) (d : Nat) (P : mv_H → Prop) (p0 : Int32) (p1 : Int32) (h : mv_H) (hs : mv_sat (fX5_price_50 p0 p1 h) P) : mv_met G (d + 1) mX5_price [.ref 50, .int p0, .int p1] mv_SH h (mv_qv mv_SH P) := by
  unfold fX5_price_50 at hs
  obtain ⟨D, hDe⟩ : ∃ D, D = d + 1 := ⟨_, rfl⟩
  rw [← hDe]
  have hD : d + 1 ≤ D := by omega
  refine mv_enter (lv := [.ref 50, .int p0, .int p1]) 0 (by decide) (by decide +kernel) rfl (Nat.le_of_ble_eq_true rfl) ?_
  refine mv_iload_n dX5_price_0 rfl ?_
  refine mv_cS (st := []) dX5_price_1 kk_X5_24 (TX9_isNumber G d _ _ _ (mv_sat_bind hs)) rfl rfl (Nat.le_of_ble_eq_true rfl) (by omega) rfl ⟨Nat.zero_le _, Nat.zero_le _⟩ (mv_ki fun r945 hs => ?_)
  refine mv_if_eq dX5_price_4 hs (fun _ hs => ?_) (fun _ hs => ?_)
  · exact mv_vret dX5_price_14 rfl ⟨_, rfl, rfl, rfl, mv_sat_some hs⟩
  · refine mv_aload_n dX5_price_7 rfl ?_
    refine mv_getr dX5_price_8 kf_X5_9 gf_50_0 ?_
    refine mv_iload_n dX5_price_11 rfl ?_
    refine mv_iload_n dX5_price_12 rfl ?_
    refine mv_iastore dX5_price_13 so_51 hs (fun hs => ?_)
    refine mv_nameH hs (fun h946 hs => ?_)
    exact mv_vret dX5_price_14 rfl ⟨_, rfl, rfl, rfl, mv_sat_some hs⟩
noncomputable def fX9_startPairs_0_b39 (k2 : Int32 → Int32 → mv_H → Option (mv_H)) (v1 : Int32) (v2 : Int32) (s0 : Int32) (s1 : Int32) (h : mv_H) : Option (mv_H) := (fX5_price_50 s1 s0 h).bind fun r947 => k2 v1 (v2 + 1) r947
set_option maxRecDepth 100000 in
set_option maxHeartbeats 4000000 in
theorem BX9_startPairs_0_b39 (G : mv_G) (d D : Nat) (hD : d + 2 ≤ D) (P : mv_H → Prop) (k2 : Int32 → Int32 → mv_H → Option (mv_H)) (hk2 : ∀ (v1 : Int32) (v2 : Int32) (h : mv_H), mv_sat (k2 v1 v2 h) P → mv_MW G mX9_startPairs (mv_rm D mX9_startPairs) (mv_Zf G mX9_startPairs (mv_qv mv_SH P)) 0 0 2 [.ref 0, .int v1, .int v2] [] mv_SH h) (v1 : Int32) (v2 : Int32) (s0 : Int32) (s1 : Int32) (h : mv_H) (hs : mv_sat (fX9_startPairs_0_b39 k2 v1 v2 s0 s1 h) P) : mv_MW G mX9_startPairs (mv_rm D mX9_startPairs) (mv_Zf G mX9_startPairs (mv_qv mv_SH P)) 0 0 39 [.ref 0, .int v1, .int v2] [.int s0, .int s1, .ref 50] mv_SH h := by
  unfold fX9_startPairs_0_b39 at hs
  refine mv_cV (st := []) dX9_startPairs_39 kk_X9_369 (TX5_price_50 G d _ _ _ _ (mv_sat_bind hs)) so_50 vc_5 rfl rfl (Nat.le_of_ble_eq_true rfl) (by omega) rfl ⟨Nat.zero_le _, Nat.zero_le _⟩ (mv_kv fun r947 hs => ?_)
  refine mv_iinc (lv' := [.ref 0, .int v1, .int (v2 + 1)]) 1 dX9_startPairs_42 rfl (by decide) (Nat.le_of_ble_eq_true rfl) rfl rfl ?_
  refine mv_goto dX9_startPairs_45 ?_
  exact (hk2 _ _ _ hs)
noncomputable def fX5_allow_50 (p0 : Int32) (p1 : Int32) (h : mv_H) : Option (mv_H) := (fX9_isNumber p0).bind fun r951 => if r951 = 0 then some h else if mv_in p0 6 then mv_let (mv_u h 52 p0.toNatClampNeg p1) fun h952 : mv_H => (some h952) else none
set_option maxRecDepth 100000 in
set_option maxHeartbeats 4000000 in
theorem TX5_allow_50 (G : mv_G) (d : Nat) (P : mv_H → Prop) (p0 : Int32) (p1 : Int32) (h : mv_H) (hs : mv_sat (fX5_allow_50 p0 p1 h) P) : mv_met G (d + 1) mX5_allow [.ref 50, .int p0, .int p1] mv_SH h (mv_qv mv_SH P) := by
  unfold fX5_allow_50 at hs
  obtain ⟨D, hDe⟩ : ∃ D, D = d + 1 := ⟨_, rfl⟩
  rw [← hDe]
  have hD : d + 1 ≤ D := by omega
  refine mv_enter (lv := [.ref 50, .int p0, .int p1]) 0 (by decide) (by decide +kernel) rfl (Nat.le_of_ble_eq_true rfl) ?_
  refine mv_iload_n dX5_allow_0 rfl ?_
  refine mv_cS (st := []) dX5_allow_1 kk_X5_24 (TX9_isNumber G d _ _ _ (mv_sat_bind hs)) rfl rfl (Nat.le_of_ble_eq_true rfl) (by omega) rfl ⟨Nat.zero_le _, Nat.zero_le _⟩ (mv_ki fun r951 hs => ?_)
  refine mv_if_eq dX5_allow_4 hs (fun _ hs => ?_) (fun _ hs => ?_)
  · exact mv_vret dX5_allow_14 rfl ⟨_, rfl, rfl, rfl, mv_sat_some hs⟩
  · refine mv_aload_n dX5_allow_7 rfl ?_
    refine mv_getr dX5_allow_8 kf_X5_15 gf_50_1 ?_
    refine mv_iload_n dX5_allow_11 rfl ?_
    refine mv_iload_n dX5_allow_12 rfl ?_
    refine mv_iastore dX5_allow_13 so_52 hs (fun hs => ?_)
    refine mv_nameH hs (fun h952 hs => ?_)
    exact mv_vret dX5_allow_14 rfl ⟨_, rfl, rfl, rfl, mv_sat_some hs⟩
noncomputable def fX9_startPairs_0_b78 (k50 : Int32 → Int32 → mv_H → Option (mv_H)) (v1 : Int32) (v2 : Int32) (s0 : Int32) (s1 : Int32) (h : mv_H) : Option (mv_H) := (fX5_allow_50 s1 s0 h).bind fun r953 => k50 v1 (v2 + 1) r953
set_option maxRecDepth 100000 in
set_option maxHeartbeats 4000000 in
theorem BX9_startPairs_0_b78 (G : mv_G) (d D : Nat) (hD : d + 2 ≤ D) (P : mv_H → Prop) (k50 : Int32 → Int32 → mv_H → Option (mv_H)) (hk50 : ∀ (v1 : Int32) (v2 : Int32) (h : mv_H), mv_sat (k50 v1 v2 h) P → mv_MW G mX9_startPairs (mv_rm D mX9_startPairs) (mv_Zf G mX9_startPairs (mv_qv mv_SH P)) 0 0 50 [.ref 0, .int v1, .int v2] [] mv_SH h) (v1 : Int32) (v2 : Int32) (s0 : Int32) (s1 : Int32) (h : mv_H) (hs : mv_sat (fX9_startPairs_0_b78 k50 v1 v2 s0 s1 h) P) : mv_MW G mX9_startPairs (mv_rm D mX9_startPairs) (mv_Zf G mX9_startPairs (mv_qv mv_SH P)) 0 0 78 [.ref 0, .int v1, .int v2] [.int s0, .int s1, .ref 50] mv_SH h := by
  unfold fX9_startPairs_0_b78 at hs
  refine mv_cV (st := []) dX9_startPairs_78 kk_X9_372 (TX5_allow_50 G d _ _ _ _ (mv_sat_bind hs)) so_50 vc_5 rfl rfl (Nat.le_of_ble_eq_true rfl) (by omega) rfl ⟨Nat.zero_le _, Nat.zero_le _⟩ (mv_kv fun r953 hs => ?_)
  refine mv_iinc (lv' := [.ref 0, .int v1, .int (v2 + 1)]) 1 dX9_startPairs_81 rfl (by decide) (Nat.le_of_ble_eq_true rfl) rfl rfl ?_
  refine mv_goto dX9_startPairs_84 ?_
  exact (hk50 _ _ _ hs)
noncomputable def fX9_startPairs_0_b50 : Nat → Int32 → Int32 → mv_H → Option (mv_H)
  | 0, _, _, _ => none
  | n + 1, v1, v2, h => if v2 < 6 then ((fX9_isIn v1 v2).bind fun r950 => if r950 = 0 then fX9_startPairs_0_b78 (fX9_startPairs_0_b50 n) v1 v2 0 v2 h else (fX9_boxesWithRoomFor_0 v2 h).bind fun r954 => fX9_startPairs_0_b78 (fX9_startPairs_0_b50 n) v1 v2 r954 v2 h) else some h
set_option maxRecDepth 100000 in
set_option maxHeartbeats 4000000 in
theorem BX9_startPairs_0_b50 (G : mv_G) (d D : Nat) (hD : d + 5 ≤ D) (P : mv_H → Prop) : ∀ (n : Nat) (v1 : Int32) (v2 : Int32) (h : mv_H), mv_sat (fX9_startPairs_0_b50 n v1 v2 h) P → mv_MW G mX9_startPairs (mv_rm D mX9_startPairs) (mv_Zf G mX9_startPairs (mv_qv mv_SH P)) 0 0 50 [.ref 0, .int v1, .int v2] [] mv_SH h := by
  intro n
  induction n with
  | zero =>
    intro v1 v2 h hs
    unfold fX9_startPairs_0_b50 at hs
    exact (mv_sat_none hs).elim
  | succ n ih =>
    intro v1 v2 h hs
    unfold fX9_startPairs_0_b50 at hs
    refine mv_iload_n dX9_startPairs_50 rfl ?_
    refine mv_bipush 6 dX9_startPairs_51 (by decide) ?_
    refine mv_icmp_ge dX9_startPairs_53 hs (fun _ hs => ?_) (fun _ hs => ?_)
    · refine mv_aload_n dX9_startPairs_56 rfl ?_
      refine mv_getr dX9_startPairs_57 kf_X9_60 gf_0_9 ?_
      refine mv_iload_n dX9_startPairs_60 rfl ?_
      refine mv_iload_n dX9_startPairs_61 rfl ?_
      refine mv_iload_n dX9_startPairs_62 rfl ?_
      refine mv_cS (st := [.int v2, .ref 50]) dX9_startPairs_63 kk_X9_250 (TX9_isIn G d _ _ _ _ (mv_sat_bind hs)) rfl rfl (Nat.le_of_ble_eq_true rfl) (by omega) rfl ⟨Nat.zero_le _, Nat.zero_le _⟩ (mv_ki fun r950 hs => ?_)
      refine mv_if_eq dX9_startPairs_66 hs (fun _ hs => ?_) (fun _ hs => ?_)
      · refine mv_iconst 0 dX9_startPairs_77 (by decide) ?_
        exact (BX9_startPairs_0_b78 G d D (by omega) P _ ih _ _ _ _ _ hs)
      · refine mv_aload_n dX9_startPairs_69 rfl ?_
        refine mv_iload_n dX9_startPairs_70 rfl ?_
        refine mv_cV (st := [.int v2, .ref 50]) dX9_startPairs_71 kk_X9_284 (TX9_boxesWithRoomFor_0 G d _ _ _ (mv_sat_bind hs)) so_0 vc_9 rfl rfl (Nat.le_of_ble_eq_true rfl) (by omega) rfl ⟨Nat.zero_le _, Nat.zero_le _⟩ (mv_ki fun r954 hs => ?_)
        refine mv_goto dX9_startPairs_74 ?_
        exact (BX9_startPairs_0_b78 G d D (by omega) P _ ih _ _ _ _ _ hs)
    · exact mv_vret dX9_startPairs_87 rfl ⟨_, rfl, rfl, rfl, mv_sat_some hs⟩
noncomputable def fX9_startPairs_0_b2 : Nat → Int32 → Int32 → mv_H → Option (mv_H)
  | 0, _, _, _ => none
  | n + 1, v1, v2, h => if v2 < 6 then ((fX7_has_2 v2 h).bind fun r944 => if r944 = 0 then fX9_startPairs_0_b39 (fX9_startPairs_0_b2 n) v1 v2 0 v2 h else (fX9_wrapOf_0 v2 h).bind fun r948 => (fX8_leastPaper_38 r948).bind fun r949 => fX9_startPairs_0_b39 (fX9_startPairs_0_b2 n) v1 v2 r949 v2 r948) else fX9_startPairs_0_b50 mv_F v1 0 h
set_option maxRecDepth 100000 in
set_option maxHeartbeats 4000000 in
theorem BX9_startPairs_0_b2 (G : mv_G) (d D : Nat) (hD : d + 5 ≤ D) (P : mv_H → Prop) : ∀ (n : Nat) (v1 : Int32) (v2 : Int32) (h : mv_H), mv_sat (fX9_startPairs_0_b2 n v1 v2 h) P → mv_MW G mX9_startPairs (mv_rm D mX9_startPairs) (mv_Zf G mX9_startPairs (mv_qv mv_SH P)) 0 0 2 [.ref 0, .int v1, .int v2] [] mv_SH h := by
  intro n
  induction n with
  | zero =>
    intro v1 v2 h hs
    unfold fX9_startPairs_0_b2 at hs
    exact (mv_sat_none hs).elim
  | succ n ih =>
    intro v1 v2 h hs
    unfold fX9_startPairs_0_b2 at hs
    refine mv_iload_n dX9_startPairs_2 rfl ?_
    refine mv_bipush 6 dX9_startPairs_3 (by decide) ?_
    refine mv_icmp_ge dX9_startPairs_5 hs (fun _ hs => ?_) (fun _ hs => ?_)
    · refine mv_aload_n dX9_startPairs_8 rfl ?_
      refine mv_getr dX9_startPairs_9 kf_X9_60 gf_0_9 ?_
      refine mv_iload_n dX9_startPairs_12 rfl ?_
      refine mv_aload_n dX9_startPairs_13 rfl ?_
      refine mv_getr dX9_startPairs_14 kf_X9_10 gf_0_0 ?_
      refine mv_getr dX9_startPairs_17 kf_X9_64 gf_1_0 ?_
      refine mv_iload_n dX9_startPairs_20 rfl ?_
      refine mv_cV (st := [.int v2, .ref 50]) dX9_startPairs_21 kk_X9_100 (TX7_has_2 G d _ _ _ (mv_sat_bind hs)) so_2 vc_7 rfl rfl (Nat.le_of_ble_eq_true rfl) (by omega) rfl ⟨Nat.zero_le _, Nat.zero_le _⟩ (mv_ki fun r944 hs => ?_)
      refine mv_if_eq dX9_startPairs_24 hs (fun _ hs => ?_) (fun _ hs => ?_)
      · refine mv_iconst 0 dX9_startPairs_38 (by decide) ?_
        exact (BX9_startPairs_0_b39 G d D (by omega) P _ ih _ _ _ _ _ hs)
      · refine mv_aload_n dX9_startPairs_27 rfl ?_
        refine mv_iload_n dX9_startPairs_28 rfl ?_
        refine mv_cV (st := [.int v2, .ref 50]) dX9_startPairs_29 kk_X9_144 (TX9_wrapOf_0 G d _ _ _ (mv_sat_bind hs)) so_0 vc_9 rfl rfl (Nat.le_of_ble_eq_true rfl) (by omega) rfl ⟨Nat.zero_le _, Nat.zero_le _⟩ (mv_kc fun r948 hs => ?_)
        refine mv_cV (st := [.int v2, .ref 50]) dX9_startPairs_32 kk_X9_160 (TX8_leastPaper_38 G d _ _ (mv_sat_bind hs)) so_38 vc_8 rfl rfl (Nat.le_of_ble_eq_true rfl) (by omega) rfl ⟨Nat.zero_le _, Nat.zero_le _⟩ (mv_ki fun r949 hs => ?_)
        refine mv_goto dX9_startPairs_35 ?_
        exact (BX9_startPairs_0_b39 G d D (by omega) P _ ih _ _ _ _ _ hs)
    · refine mv_iconst 0 dX9_startPairs_48 (by decide) ?_
      refine mv_istore_n (lv' := [.ref 0, .int v1, .int 0]) dX9_startPairs_49 (Nat.le_of_ble_eq_true rfl) rfl rfl ?_
      exact (BX9_startPairs_0_b50 G d D (by omega) P _ _ _ _ hs)
noncomputable def fX9_startPairs_0 (p0 : Int32) (h : mv_H) : Option (mv_H) := fX9_startPairs_0_b2 mv_F p0 0 h
set_option maxRecDepth 100000 in
set_option maxHeartbeats 4000000 in
theorem TX9_startPairs_0 (G : mv_G) (d : Nat) (P : mv_H → Prop) (p0 : Int32) (h : mv_H) (hs : mv_sat (fX9_startPairs_0 p0 h) P) : mv_met G (d + 5) mX9_startPairs [.ref 0, .int p0] mv_SH h (mv_qv mv_SH P) := by
  unfold fX9_startPairs_0 at hs
  obtain ⟨D, hDe⟩ : ∃ D, D = d + 5 := ⟨_, rfl⟩
  rw [← hDe]
  have hD : d + 5 ≤ D := by omega
  refine mv_enter (lv := [.ref 0, .int p0, .float 0]) 1 (by decide) (by decide +kernel) rfl (Nat.le_of_ble_eq_true rfl) ?_
  refine mv_iconst 0 dX9_startPairs_0 (by decide) ?_
  refine mv_istore_n (lv' := [.ref 0, .int p0, .int 0]) dX9_startPairs_1 (Nat.le_of_ble_eq_true rfl) rfl rfl ?_
  exact (BX9_startPairs_0_b2 G d D (by omega) P _ _ _ _ hs)
noncomputable def fX5_keep_50_b7 : Nat → Int32 → mv_H → Option (mv_H)
  | 0, _, _ => none
  | n + 1, v2, h => if v2 < 6 then (if mv_in v2 6 then (if mv_in v2 6 then mv_let (mv_u h 54 v2.toNatClampNeg (h 53 v2.toNatClampNeg)) fun h960 : mv_H => ((fX5_keep_50_b7 n) (v2 + 1) h960) else none) else none) else some h
set_option maxRecDepth 100000 in
set_option maxHeartbeats 4000000 in
theorem BX5_keep_50_b7 (G : mv_G) (d D : Nat) (hD : d + 0 ≤ D) (P : mv_H → Prop) : ∀ (n : Nat) (v2 : Int32) (h : mv_H), mv_sat (fX5_keep_50_b7 n v2 h) P → mv_MW G mX5_keep (mv_rm D mX5_keep) (mv_Zf G mX5_keep (mv_qv mv_SH P)) 0 0 7 [.ref 50, .float 0, .int v2] [] mv_SH h := by
  intro n
  induction n with
  | zero =>
    intro v2 h hs
    unfold fX5_keep_50_b7 at hs
    exact (mv_sat_none hs).elim
  | succ n ih =>
    intro v2 h hs
    unfold fX5_keep_50_b7 at hs
    refine mv_iload_n dX5_keep_7 rfl ?_
    refine mv_bipush 6 dX5_keep_8 (by decide) ?_
    refine mv_icmp_ge dX5_keep_10 hs (fun _ hs => ?_) (fun _ hs => ?_)
    · refine mv_aload_n dX5_keep_13 rfl ?_
      refine mv_getr dX5_keep_14 kf_X5_21 gf_50_3 ?_
      refine mv_iload_n dX5_keep_17 rfl ?_
      refine mv_aload_n dX5_keep_18 rfl ?_
      refine mv_getr dX5_keep_19 kf_X5_18 gf_50_2 ?_
      refine mv_iload_n dX5_keep_22 rfl ?_
      refine mv_iaload dX5_keep_23 so_53 hs (fun hs => ?_)
      refine mv_iastore dX5_keep_24 so_54 hs (fun hs => ?_)
      refine mv_nameH hs (fun h960 hs => ?_)
      refine mv_iinc (lv' := [.ref 50, .float 0, .int (v2 + 1)]) 1 dX5_keep_25 rfl (by decide) (Nat.le_of_ble_eq_true rfl) rfl rfl ?_
      refine mv_goto dX5_keep_28 ?_
      exact (ih _ _ hs)
    · exact mv_vret dX5_keep_31 rfl ⟨_, rfl, rfl, rfl, mv_sat_some hs⟩
noncomputable def fX5_keep_50 (p0 : Int32) (h : mv_H) : Option (mv_H) := mv_let (mv_u h 50 4 p0) fun h959 : mv_H => fX5_keep_50_b7 mv_F 0 h959
set_option maxRecDepth 100000 in
set_option maxHeartbeats 4000000 in
theorem TX5_keep_50 (G : mv_G) (d : Nat) (P : mv_H → Prop) (p0 : Int32) (h : mv_H) (hs : mv_sat (fX5_keep_50 p0 h) P) : mv_met G (d + 0) mX5_keep [.ref 50, .int p0] mv_SH h (mv_qv mv_SH P) := by
  unfold fX5_keep_50 at hs
  obtain ⟨D, hDe⟩ : ∃ D, D = d + 0 := ⟨_, rfl⟩
  rw [← hDe]
  have hD : d + 0 ≤ D := by omega
  refine mv_enter (lv := [.ref 50, .int p0, .float 0]) 1 (by decide) (by decide +kernel) rfl (Nat.le_of_ble_eq_true rfl) ?_
  refine mv_aload_n dX5_keep_0 rfl ?_
  refine mv_iload_n dX5_keep_1 rfl ?_
  refine mv_puti dX5_keep_2 kf_X5_28 (fun q => by cases q) gf_50_4 ?_
  refine mv_nameH hs (fun h959 hs => ?_)
  refine mv_iconst 0 dX5_keep_5 (by decide) ?_
  refine mv_istore_n (lv' := [.ref 50, .int p0, .int 0]) dX5_keep_6 (Nat.le_of_ble_eq_true rfl) rfl rfl ?_
  exact mv_weak (lv' := [.ref 50, .float 0, .int 0]) (mv_s (mv_k (mv_s mv_n))) (BX5_keep_50_b7 G d D (by omega) P _ _ _ hs)
noncomputable def fX5_extend_50_b113 (rc : Int32 → Int32 → Int32 → Int32 → mv_H → Option (mv_H)) (k56 : Int32 → Int32 → Int32 → Int32 → Int32 → mv_H → Option (mv_H)) (v1 : Int32) (v2 : Int32) (v3 : Int32) (v4 : Int32) (v5 : Int32) (h : mv_H) : Option (mv_H) := k56 v1 v2 v3 v4 (v5 + 1) h
set_option maxRecDepth 100000 in
set_option maxHeartbeats 4000000 in
theorem BX5_extend_50_b113 (G : mv_G) (d D : Nat) (hD : d + 0 ≤ D) (rc : Int32 → Int32 → Int32 → Int32 → mv_H → Option (mv_H)) (Dr : Nat) (hDr : Dr + 1 ≤ D) (hq : d + 20 ≤ Dr) (hrc : ∀ (a0 : Int32) (a1 : Int32) (a2 : Int32) (a3 : Int32) (h : mv_H) (Q : mv_H → Prop), mv_sat (rc a0 a1 a2 a3 h) Q → mv_met G Dr mX5_extend [.ref 50, .int a0, .int a1, .int a2, .int a3] mv_SH h (mv_qv mv_SH Q)) (P : mv_H → Prop) (k56 : Int32 → Int32 → Int32 → Int32 → Int32 → mv_H → Option (mv_H)) (hk56 : ∀ (v1 : Int32) (v2 : Int32) (v3 : Int32) (v4 : Int32) (v5 : Int32) (h : mv_H), mv_sat (k56 v1 v2 v3 v4 v5 h) P → mv_MW G mX5_extend (mv_rm D mX5_extend) (mv_Zf G mX5_extend (mv_qv mv_SH P)) 0 0 56 [.ref 50, .int v1, .int v2, .int v3, .int v4, .int v5] [] mv_SH h) (v1 : Int32) (v2 : Int32) (v3 : Int32) (v4 : Int32) (v5 : Int32) (h : mv_H) (hs : mv_sat (fX5_extend_50_b113 rc k56 v1 v2 v3 v4 v5 h) P) : mv_MW G mX5_extend (mv_rm D mX5_extend) (mv_Zf G mX5_extend (mv_qv mv_SH P)) 0 0 113 [.ref 50, .int v1, .int v2, .int v3, .int v4, .int v5] [] mv_SH h := by
  unfold fX5_extend_50_b113 at hs
  refine mv_iinc (lv' := [.ref 50, .int v1, .int v2, .int v3, .int v4, .int (v5 + 1)]) 1 dX5_extend_113 rfl (by decide) (Nat.le_of_ble_eq_true rfl) rfl rfl ?_
  refine mv_goto dX5_extend_116 ?_
  exact (hk56 _ _ _ _ _ _ hs)
noncomputable def fX5_extend_50_b56 (rc : Int32 → Int32 → Int32 → Int32 → mv_H → Option (mv_H)) : Nat → Int32 → Int32 → Int32 → Int32 → Int32 → mv_H → Option (mv_H)
  | 0, _, _, _, _, _, _ => none
  | n + 1, v1, v2, v3, v4, v5, h => if v5 < 6 then (if mv_in v1 6 then ((fX9_isIn (v3 &&& (h 52 v1.toNatClampNeg)) v5).bind fun r964 => if r964 = 0 then fX5_extend_50_b113 rc (fX5_extend_50_b56 rc n) v1 v2 v3 v4 v5 h else if mv_in v1 6 then mv_let (mv_u h 53 v1.toNatClampNeg v5) fun h965 : mv_H => (if mv_in v5 6 then ((rc (v1 + 1) v2 (v3 &&& ((1 <<< (v5 &&& 31)) ^^^ (-1))) (v4 + (h965 51 v5.toNatClampNeg)) h965).bind fun r966 => fX5_extend_50_b113 rc (fX5_extend_50_b56 rc n) v1 v2 v3 v4 v5 r966) else none) else none) else none) else some h
set_option maxRecDepth 100000 in
set_option maxHeartbeats 4000000 in
theorem BX5_extend_50_b56 (G : mv_G) (d D : Nat) (hD : d + 1 ≤ D) (rc : Int32 → Int32 → Int32 → Int32 → mv_H → Option (mv_H)) (Dr : Nat) (hDr : Dr + 1 ≤ D) (hq : d + 20 ≤ Dr) (hrc : ∀ (a0 : Int32) (a1 : Int32) (a2 : Int32) (a3 : Int32) (h : mv_H) (Q : mv_H → Prop), mv_sat (rc a0 a1 a2 a3 h) Q → mv_met G Dr mX5_extend [.ref 50, .int a0, .int a1, .int a2, .int a3] mv_SH h (mv_qv mv_SH Q)) (P : mv_H → Prop) : ∀ (n : Nat) (v1 : Int32) (v2 : Int32) (v3 : Int32) (v4 : Int32) (v5 : Int32) (h : mv_H), mv_sat (fX5_extend_50_b56 rc n v1 v2 v3 v4 v5 h) P → mv_MW G mX5_extend (mv_rm D mX5_extend) (mv_Zf G mX5_extend (mv_qv mv_SH P)) 0 0 56 [.ref 50, .int v1, .int v2, .int v3, .int v4, .int v5] [] mv_SH h := by
  intro n
  induction n with
  | zero =>
    intro v1 v2 v3 v4 v5 h hs
    unfold fX5_extend_50_b56 at hs
    exact (mv_sat_none hs).elim
  | succ n ih =>
    intro v1 v2 v3 v4 v5 h hs
    unfold fX5_extend_50_b56 at hs
    refine mv_iload dX5_extend_56 rfl ?_
    refine mv_bipush 6 dX5_extend_58 (by decide) ?_
    refine mv_icmp_ge dX5_extend_60 hs (fun _ hs => ?_) (fun _ hs => ?_)
    · refine mv_iload_n dX5_extend_63 rfl ?_
      refine mv_aload_n dX5_extend_64 rfl ?_
      refine mv_getr dX5_extend_65 kf_X5_15 gf_50_1 ?_
      refine mv_iload_n dX5_extend_68 rfl ?_
      refine mv_iaload dX5_extend_69 so_52 hs (fun hs => ?_)
      refine mv_iand dX5_extend_70 ?_
      refine mv_iload dX5_extend_71 rfl ?_
      refine mv_cS (st := []) dX5_extend_73 kk_X5_40 (TX9_isIn G d _ _ _ _ (mv_sat_bind hs)) rfl rfl (Nat.le_of_ble_eq_true rfl) (by omega) rfl ⟨Nat.zero_le _, Nat.zero_le _⟩ (mv_ki fun r964 hs => ?_)
      refine mv_if_eq dX5_extend_76 hs (fun _ hs => ?_) (fun _ hs => ?_)
      · exact (BX5_extend_50_b113 G d D (by omega) _ Dr hDr hq hrc P _ ih _ _ _ _ _ _ hs)
      · refine mv_aload_n dX5_extend_79 rfl ?_
        refine mv_getr dX5_extend_80 kf_X5_18 gf_50_2 ?_
        refine mv_iload_n dX5_extend_83 rfl ?_
        refine mv_iload dX5_extend_84 rfl ?_
        refine mv_iastore dX5_extend_86 so_53 hs (fun hs => ?_)
        refine mv_nameH hs (fun h965 hs => ?_)
        refine mv_aload_n dX5_extend_87 rfl ?_
        refine mv_iload_n dX5_extend_88 rfl ?_
        refine mv_iconst 1 dX5_extend_89 (by decide) ?_
        refine mv_iadd dX5_extend_90 ?_
        refine mv_iload_n dX5_extend_91 rfl ?_
        refine mv_iload_n dX5_extend_92 rfl ?_
        refine mv_iconst 1 dX5_extend_93 (by decide) ?_
        refine mv_iload dX5_extend_94 rfl ?_
        refine mv_ishl dX5_extend_96 ?_
        refine mv_iconst (-1) dX5_extend_97 (by decide) ?_
        refine mv_ixor dX5_extend_98 ?_
        refine mv_iand dX5_extend_99 ?_
        refine mv_iload dX5_extend_100 rfl ?_
        refine mv_aload_n dX5_extend_102 rfl ?_
        refine mv_getr dX5_extend_103 kf_X5_9 gf_50_0 ?_
        refine mv_iload dX5_extend_106 rfl ?_
        refine mv_iaload dX5_extend_108 so_51 hs (fun hs => ?_)
        refine mv_iadd dX5_extend_109 ?_
        refine mv_cV (st := []) dX5_extend_110 kk_X5_32 (hrc _ _ _ _ _ _ (mv_sat_bind hs)) so_50 vc_5 rfl rfl (Nat.le_of_ble_eq_true rfl) (by omega) rfl ⟨Nat.zero_le _, Nat.zero_le _⟩ (mv_kv fun r966 hs => ?_)
        exact (BX5_extend_50_b113 G d D (by omega) _ Dr hDr hq hrc P _ ih _ _ _ _ _ _ hs)
    · exact mv_vret dX5_extend_119 rfl ⟨_, rfl, rfl, rfl, mv_sat_some hs⟩
noncomputable def fX5_extend_50_b19 (rc : Int32 → Int32 → Int32 → Int32 → mv_H → Option (mv_H)) (v1 : Int32) (v2 : Int32) (v3 : Int32) (v4 : Int32) (h : mv_H) : Option (mv_H) := (fX9_isNumber v1).bind fun r958 => if r958 = 0 then ((fX5_keep_50 v4 h).bind fun r961 => some r961) else (fX9_isIn v2 v1).bind fun r962 => if r962 = 0 then ((rc (v1 + 1) v2 v3 v4 h).bind fun r963 => some r963) else fX5_extend_50_b56 rc mv_F v1 v2 v3 v4 0 h
set_option maxRecDepth 100000 in
set_option maxHeartbeats 4000000 in
theorem BX5_extend_50_b19 (G : mv_G) (d D : Nat) (hD : d + 1 ≤ D) (rc : Int32 → Int32 → Int32 → Int32 → mv_H → Option (mv_H)) (Dr : Nat) (hDr : Dr + 1 ≤ D) (hq : d + 20 ≤ Dr) (hrc : ∀ (a0 : Int32) (a1 : Int32) (a2 : Int32) (a3 : Int32) (h : mv_H) (Q : mv_H → Prop), mv_sat (rc a0 a1 a2 a3 h) Q → mv_met G Dr mX5_extend [.ref 50, .int a0, .int a1, .int a2, .int a3] mv_SH h (mv_qv mv_SH Q)) (P : mv_H → Prop) (v1 : Int32) (v2 : Int32) (v3 : Int32) (v4 : Int32) (h : mv_H) (hs : mv_sat (fX5_extend_50_b19 rc v1 v2 v3 v4 h) P) : mv_MW G mX5_extend (mv_rm D mX5_extend) (mv_Zf G mX5_extend (mv_qv mv_SH P)) 0 0 19 [.ref 50, .int v1, .int v2, .int v3, .int v4, .float 0] [] mv_SH h := by
  unfold fX5_extend_50_b19 at hs
  refine mv_iload_n dX5_extend_19 rfl ?_
  refine mv_cS (st := []) dX5_extend_20 kk_X5_24 (TX9_isNumber G d _ _ _ (mv_sat_bind hs)) rfl rfl (Nat.le_of_ble_eq_true rfl) (by omega) rfl ⟨Nat.zero_le _, Nat.zero_le _⟩ (mv_ki fun r958 hs => ?_)
  refine mv_if_ne dX5_extend_23 hs (fun _ hs => ?_) (fun _ hs => ?_)
  · refine mv_aload_n dX5_extend_26 rfl ?_
    refine mv_iload dX5_extend_27 rfl ?_
    refine mv_cV (st := []) dX5_extend_29 kk_X5_36 (TX5_keep_50 G d _ _ _ (mv_sat_bind hs)) so_50 vc_5 rfl rfl (Nat.le_of_ble_eq_true rfl) (by omega) rfl ⟨Nat.zero_le _, Nat.zero_le _⟩ (mv_kv fun r961 hs => ?_)
    exact mv_vret dX5_extend_32 rfl ⟨_, rfl, rfl, rfl, mv_sat_some hs⟩
  · refine mv_iload_n dX5_extend_33 rfl ?_
    refine mv_iload_n dX5_extend_34 rfl ?_
    refine mv_cS (st := []) dX5_extend_35 kk_X5_40 (TX9_isIn G d _ _ _ _ (mv_sat_bind hs)) rfl rfl (Nat.le_of_ble_eq_true rfl) (by omega) rfl ⟨Nat.zero_le _, Nat.zero_le _⟩ (mv_ki fun r962 hs => ?_)
    refine mv_if_ne dX5_extend_38 hs (fun _ hs => ?_) (fun _ hs => ?_)
    · refine mv_aload_n dX5_extend_41 rfl ?_
      refine mv_iload_n dX5_extend_42 rfl ?_
      refine mv_iconst 1 dX5_extend_43 (by decide) ?_
      refine mv_iadd dX5_extend_44 ?_
      refine mv_iload_n dX5_extend_45 rfl ?_
      refine mv_iload_n dX5_extend_46 rfl ?_
      refine mv_iload dX5_extend_47 rfl ?_
      refine mv_cV (st := []) dX5_extend_49 kk_X5_32 (hrc _ _ _ _ _ _ (mv_sat_bind hs)) so_50 vc_5 rfl rfl (Nat.le_of_ble_eq_true rfl) (by omega) rfl ⟨Nat.zero_le _, Nat.zero_le _⟩ (mv_kv fun r963 hs => ?_)
      exact mv_vret dX5_extend_52 rfl ⟨_, rfl, rfl, rfl, mv_sat_some hs⟩
    · refine mv_iconst 0 dX5_extend_53 (by decide) ?_
      refine mv_istore (lv' := [.ref 50, .int v1, .int v2, .int v3, .int v4, .int 0]) dX5_extend_54 (Nat.le_of_ble_eq_true rfl) rfl rfl ?_
      exact (BX5_extend_50_b56 G d D (by omega) _ Dr hDr hq hrc P _ _ _ _ _ _ _ hs)
noncomputable def fX5_extend_50 : Nat → Int32 → Int32 → Int32 → Int32 → mv_H → Option (mv_H)
  | 0, _, _, _, _, _ => none
  | n + 1, p0, p1, p2, p3, h => if (h 50 4) = (-6) then fX5_extend_50_b19 (fX5_extend_50 n) p0 p1 p2 p3 h else if p3 < (h 50 4) then fX5_extend_50_b19 (fX5_extend_50 n) p0 p1 p2 p3 h else some h
set_option maxRecDepth 100000 in
set_option maxHeartbeats 4000000 in
theorem TX5_extend_50 (G : mv_G) (d : Nat) : ∀ (n : Nat) (p0 : Int32) (p1 : Int32) (p2 : Int32) (p3 : Int32) (h : mv_H) (P : mv_H → Prop), mv_sat (fX5_extend_50 n p0 p1 p2 p3 h) P → mv_met G (d + 24 + 1 * n) mX5_extend [.ref 50, .int p0, .int p1, .int p2, .int p3] mv_SH h (mv_qv mv_SH P) := by
  intro n
  induction n with
  | zero =>
    intro p0 p1 p2 p3 h P hs
    unfold fX5_extend_50 at hs
    exact (mv_sat_none hs).elim
  | succ n ih =>
    intro p0 p1 p2 p3 h P hs
    unfold fX5_extend_50 at hs
    obtain ⟨D, hDe⟩ : ∃ D, D = d + 24 + 1 * (n + 1) := ⟨_, rfl⟩
    rw [← hDe]
    obtain ⟨Dr, hDre⟩ : ∃ Dr, Dr = d + 24 + 1 * n := ⟨_, rfl⟩
    rw [← hDre] at ih
    have hD : d + 1 ≤ D := by omega
    have hDr : Dr + 1 ≤ D := by omega
    have hq : d + 20 ≤ Dr := by omega
    refine mv_enter (lv := [.ref 50, .int p0, .int p1, .int p2, .int p3, .float 0]) 1 (by decide) (by decide +kernel) rfl (Nat.le_of_ble_eq_true rfl) ?_
    refine mv_aload_n dX5_extend_0 rfl ?_
    refine mv_geti dX5_extend_1 kf_X5_28 gf_50_4 ?_
    refine mv_bipush (-6) dX5_extend_4 (by decide) ?_
    refine mv_icmp_eq dX5_extend_6 hs (fun _ hs => ?_) (fun _ hs => ?_)
    · exact (BX5_extend_50_b19 G d D (by omega) _ Dr hDr hq ih P _ _ _ _ _ hs)
    · refine mv_iload dX5_extend_9 rfl ?_
      refine mv_aload_n dX5_extend_11 rfl ?_
      refine mv_geti dX5_extend_12 kf_X5_28 gf_50_4 ?_
      refine mv_icmp_lt dX5_extend_15 hs (fun _ hs => ?_) (fun _ hs => ?_)
      · exact (BX5_extend_50_b19 G d D (by omega) _ Dr hDr hq ih P _ _ _ _ _ hs)
      · exact mv_vret dX5_extend_18 rfl ⟨_, rfl, rfl, rfl, mv_sat_some hs⟩
noncomputable def fX5_search_50 (p0 : Int32) (p1 : Int32) (h : mv_H) : Option (mv_H) := mv_let (mv_u h 50 4 (-6)) fun h957 : mv_H => (fX5_extend_50 mv_R (0 : Int32) p0 p1 (0 : Int32) h957).bind fun r967 => some r967
set_option maxRecDepth 100000 in
set_option maxHeartbeats 4000000 in
theorem TX5_search_50 (G : mv_G) (d : Nat) (P : mv_H → Prop) (p0 : Int32) (p1 : Int32) (h : mv_H) (hs : mv_sat (fX5_search_50 p0 p1 h) P) : mv_met G (d + 35) mX5_search [.ref 50, .int p0, .int p1] mv_SH h (mv_qv mv_SH P) := by
  unfold fX5_search_50 at hs
  obtain ⟨D, hDe⟩ : ∃ D, D = d + 35 := ⟨_, rfl⟩
  rw [← hDe]
  have hD : d + 35 ≤ D := by omega
  refine mv_enter (lv := [.ref 50, .int p0, .int p1]) 0 (by decide) (by decide +kernel) rfl (Nat.le_of_ble_eq_true rfl) ?_
  refine mv_aload_n dX5_search_0 rfl ?_
  refine mv_bipush (-6) dX5_search_1 (by decide) ?_
  refine mv_puti dX5_search_3 kf_X5_28 (fun q => by cases q) gf_50_4 ?_
  refine mv_nameH hs (fun h957 hs => ?_)
  refine mv_aload_n dX5_search_6 rfl ?_
  refine mv_iconst 0 dX5_search_7 (by decide) ?_
  refine mv_iload_n dX5_search_8 rfl ?_
  refine mv_iload_n dX5_search_9 rfl ?_
  refine mv_iconst 0 dX5_search_10 (by decide) ?_
  refine mv_cV (st := []) dX5_search_11 kk_X5_32 (TX5_extend_50 G d mv_R _ _ _ _ _ _ (mv_sat_bind hs)) so_50 vc_5 rfl rfl (Nat.le_of_ble_eq_true rfl) (by have := mv_R_eq; omega) rfl ⟨Nat.zero_le _, Nat.zero_le _⟩ (mv_kv fun r967 hs => ?_)
  exact mv_vret dX5_search_14 rfl ⟨_, rfl, rfl, rfl, mv_sat_some hs⟩
noncomputable def fX5_paper_50 (h : mv_H) : Option (Int32) := some (h 50 4)
set_option maxRecDepth 100000 in
set_option maxHeartbeats 4000000 in
theorem TX5_paper_50 (G : mv_G) (d : Nat) (P : Int32 → Prop) (h : mv_H) (hs : mv_sat (fX5_paper_50 h) P) : mv_met G (d + 0) mX5_paper [.ref 50] mv_SH h (mv_qi mv_SH h P) := by
  unfold fX5_paper_50 at hs
  obtain ⟨D, hDe⟩ : ∃ D, D = d + 0 := ⟨_, rfl⟩
  rw [← hDe]
  have hD : d + 0 ≤ D := by omega
  refine mv_enter (lv := [.ref 50]) 0 (by decide) (by decide +kernel) rfl (Nat.le_of_ble_eq_true rfl) ?_
  refine mv_aload_n dX5_paper_0 rfl ?_
  refine mv_geti dX5_paper_1 kf_X5_28 gf_50_4 ?_
  exact mv_iret dX5_paper_4 rfl ⟨_, rfl, rfl, rfl, mv_sat_some hs⟩
noncomputable def fX5_boxOf_50 (p0 : Int32) (h : mv_H) : Option (Int32) := if (h 50 4) = (-6) then some (-6) else (fX9_isNumber p0).bind fun r970 => if r970 = 0 then some (-6) else if mv_in p0 6 then (some (h 54 p0.toNatClampNeg)) else none
set_option maxRecDepth 100000 in
set_option maxHeartbeats 4000000 in
theorem TX5_boxOf_50 (G : mv_G) (d : Nat) (P : Int32 → Prop) (p0 : Int32) (h : mv_H) (hs : mv_sat (fX5_boxOf_50 p0 h) P) : mv_met G (d + 1) mX5_boxOf [.ref 50, .int p0] mv_SH h (mv_qi mv_SH h P) := by
  unfold fX5_boxOf_50 at hs
  obtain ⟨D, hDe⟩ : ∃ D, D = d + 1 := ⟨_, rfl⟩
  rw [← hDe]
  have hD : d + 1 ≤ D := by omega
  refine mv_enter (lv := [.ref 50, .int p0]) 0 (by decide) (by decide +kernel) rfl (Nat.le_of_ble_eq_true rfl) ?_
  refine mv_aload_n dX5_boxOf_0 rfl ?_
  refine mv_geti dX5_boxOf_1 kf_X5_28 gf_50_4 ?_
  refine mv_bipush (-6) dX5_boxOf_4 (by decide) ?_
  refine mv_icmp_eq dX5_boxOf_6 hs (fun _ hs => ?_) (fun _ hs => ?_)
  · refine mv_bipush (-6) dX5_boxOf_25 (by decide) ?_
    exact mv_iret dX5_boxOf_27 rfl ⟨_, rfl, rfl, rfl, mv_sat_some hs⟩
  · refine mv_iload_n dX5_boxOf_9 rfl ?_
    refine mv_cS (st := []) dX5_boxOf_10 kk_X5_24 (TX9_isNumber G d _ _ _ (mv_sat_bind hs)) rfl rfl (Nat.le_of_ble_eq_true rfl) (by omega) rfl ⟨Nat.zero_le _, Nat.zero_le _⟩ (mv_ki fun r970 hs => ?_)
    refine mv_if_eq dX5_boxOf_13 hs (fun _ hs => ?_) (fun _ hs => ?_)
    · refine mv_bipush (-6) dX5_boxOf_25 (by decide) ?_
      exact mv_iret dX5_boxOf_27 rfl ⟨_, rfl, rfl, rfl, mv_sat_some hs⟩
    · refine mv_aload_n dX5_boxOf_16 rfl ?_
      refine mv_getr dX5_boxOf_17 kf_X5_21 gf_50_3 ?_
      refine mv_iload_n dX5_boxOf_20 rfl ?_
      refine mv_iaload dX5_boxOf_21 so_54 hs (fun hs => ?_)
      refine mv_goto dX5_boxOf_22 ?_
      exact mv_iret dX5_boxOf_27 rfl ⟨_, rfl, rfl, rfl, mv_sat_some hs⟩
noncomputable def fX9_paired_0_b39 (v1 : Int32) (v2 : Int32) (h : mv_H) : Option (Int32 × mv_H) := (fX9_startPairs_0 v1 h).bind fun r955 => (fX7_bits_2 r955).bind fun r956 => (fX5_search_50 v1 r956 r955).bind fun r968 => if v2 = (-1) then ((fX5_paper_50 r968).bind fun r969 => some (r969, r968)) else (fX5_boxOf_50 v2 r968).bind fun r971 => some (r971, r968)
set_option maxRecDepth 100000 in
set_option maxHeartbeats 4000000 in
theorem BX9_paired_0_b39 (G : mv_G) (d D : Nat) (hD : d + 36 ≤ D) (P : Int32 × mv_H → Prop) (v1 : Int32) (v2 : Int32) (h : mv_H) (hs : mv_sat (fX9_paired_0_b39 v1 v2 h) P) : mv_MW G mX9_paired (mv_rm D mX9_paired) (mv_Zf G mX9_paired (mv_qI mv_SH P)) 0 0 39 [.ref 0, .int v1, .int v2] [] mv_SH h := by
  unfold fX9_paired_0_b39 at hs
  refine mv_aload_n dX9_paired_39 rfl ?_
  refine mv_iload_n dX9_paired_40 rfl ?_
  refine mv_cV (st := []) dX9_paired_41 kk_X9_287 (TX9_startPairs_0 G d _ _ _ (mv_sat_bind hs)) so_0 vc_9 rfl rfl (Nat.le_of_ble_eq_true rfl) (by omega) rfl ⟨Nat.zero_le _, Nat.zero_le _⟩ (mv_kv fun r955 hs => ?_)
  refine mv_aload_n dX9_paired_44 rfl ?_
  refine mv_getr dX9_paired_45 kf_X9_60 gf_0_9 ?_
  refine mv_iload_n dX9_paired_48 rfl ?_
  refine mv_aload_n dX9_paired_49 rfl ?_
  refine mv_getr dX9_paired_50 kf_X9_10 gf_0_0 ?_
  refine mv_getr dX9_paired_53 kf_X9_64 gf_1_0 ?_
  refine mv_cV (st := [.int v1, .ref 50]) dX9_paired_56 kk_X9_241 (TX7_bits_2 G d _ _ (mv_sat_bind hs)) so_2 vc_7 rfl rfl (Nat.le_of_ble_eq_true rfl) (by omega) rfl ⟨Nat.zero_le _, Nat.zero_le _⟩ (mv_ki fun r956 hs => ?_)
  refine mv_cV (st := []) dX9_paired_59 kk_X9_290 (TX5_search_50 G d _ _ _ _ (mv_sat_bind hs)) so_50 vc_5 rfl rfl (Nat.le_of_ble_eq_true rfl) (by omega) rfl ⟨Nat.zero_le _, Nat.zero_le _⟩ (mv_kv fun r968 hs => ?_)
  refine mv_iload_n dX9_paired_62 rfl ?_
  refine mv_iconst (-1) dX9_paired_63 (by decide) ?_
  refine mv_icmp_ne dX9_paired_64 hs (fun _ hs => ?_) (fun _ hs => ?_)
  · refine mv_aload_n dX9_paired_67 rfl ?_
    refine mv_getr dX9_paired_68 kf_X9_60 gf_0_9 ?_
    refine mv_cV (st := []) dX9_paired_71 kk_X9_292 (TX5_paper_50 G d _ _ (mv_sat_bind hs)) so_50 vc_5 rfl rfl (Nat.le_of_ble_eq_true rfl) (by omega) rfl ⟨Nat.zero_le _, Nat.zero_le _⟩ (mv_ki fun r969 hs => ?_)
    refine mv_goto dX9_paired_74 ?_
    exact mv_iret dX9_paired_85 rfl ⟨(r969, r968), rfl, rfl, rfl, mv_sat_some hs⟩
  · refine mv_aload_n dX9_paired_77 rfl ?_
    refine mv_getr dX9_paired_78 kf_X9_60 gf_0_9 ?_
    refine mv_iload_n dX9_paired_81 rfl ?_
    refine mv_cV (st := []) dX9_paired_82 kk_X9_294 (TX5_boxOf_50 G d _ _ _ (mv_sat_bind hs)) so_50 vc_5 rfl rfl (Nat.le_of_ble_eq_true rfl) (by omega) rfl ⟨Nat.zero_le _, Nat.zero_le _⟩ (mv_ki fun r971 hs => ?_)
    exact mv_iret dX9_paired_85 rfl ⟨(r971, r968), rfl, rfl, rfl, mv_sat_some hs⟩
noncomputable def fX9_paired_0 (p0 : Int32) (p1 : Int32) (h : mv_H) : Option (Int32 × mv_H) := (fX7_holdsAll_4 p0 h).bind fun r943 => if r943 = 0 then some ((-2), h) else if p1 = (-1) then fX9_paired_0_b39 p0 p1 h else (fX9_isNumber p1).bind fun r972 => if r972 = 0 then some ((-1), h) else (fX9_isIn p0 p1).bind fun r973 => if r973 = 0 then some ((-1), h) else fX9_paired_0_b39 p0 p1 h
set_option maxRecDepth 100000 in
set_option maxHeartbeats 4000000 in
theorem TX9_paired_0 (G : mv_G) (d : Nat) (P : Int32 × mv_H → Prop) (p0 : Int32) (p1 : Int32) (h : mv_H) (hs : mv_sat (fX9_paired_0 p0 p1 h) P) : mv_met G (d + 36) mX9_paired [.ref 0, .int p0, .int p1] mv_SH h (mv_qI mv_SH P) := by
  unfold fX9_paired_0 at hs
  obtain ⟨D, hDe⟩ : ∃ D, D = d + 36 := ⟨_, rfl⟩
  rw [← hDe]
  have hD : d + 36 ≤ D := by omega
  refine mv_enter (lv := [.ref 0, .int p0, .int p1]) 0 (by decide) (by decide +kernel) rfl (Nat.le_of_ble_eq_true rfl) ?_
  refine mv_aload_n dX9_paired_0 rfl ?_
  refine mv_getr dX9_paired_1 kf_X9_10 gf_0_0 ?_
  refine mv_getr dX9_paired_4 kf_X9_72 gf_1_1 ?_
  refine mv_iload_n dX9_paired_7 rfl ?_
  refine mv_cV (st := []) dX9_paired_8 kk_X9_232 (TX7_holdsAll_4 G d _ _ _ (mv_sat_bind hs)) so_4 vc_7 rfl rfl (Nat.le_of_ble_eq_true rfl) (by omega) rfl ⟨Nat.zero_le _, Nat.zero_le _⟩ (mv_ki fun r943 hs => ?_)
  refine mv_if_ne dX9_paired_11 hs (fun _ hs => ?_) (fun _ hs => ?_)
  · refine mv_bipush (-2) dX9_paired_14 (by decide) ?_
    exact mv_iret dX9_paired_16 rfl ⟨((-2), h), rfl, rfl, rfl, mv_sat_some hs⟩
  · refine mv_iload_n dX9_paired_17 rfl ?_
    refine mv_iconst (-1) dX9_paired_18 (by decide) ?_
    refine mv_icmp_eq dX9_paired_19 hs (fun _ hs => ?_) (fun _ hs => ?_)
    · exact (BX9_paired_0_b39 G d D (by omega) P _ _ _ hs)
    · refine mv_iload_n dX9_paired_22 rfl ?_
      refine mv_cS (st := []) dX9_paired_23 kk_X9_75 (TX9_isNumber G d _ _ _ (mv_sat_bind hs)) rfl rfl (Nat.le_of_ble_eq_true rfl) (by omega) rfl ⟨Nat.zero_le _, Nat.zero_le _⟩ (mv_ki fun r972 hs => ?_)
      refine mv_if_eq dX9_paired_26 hs (fun _ hs => ?_) (fun _ hs => ?_)
      · refine mv_iconst (-1) dX9_paired_37 (by decide) ?_
        exact mv_iret dX9_paired_38 rfl ⟨((-1), h), rfl, rfl, rfl, mv_sat_some hs⟩
      · refine mv_iload_n dX9_paired_29 rfl ?_
        refine mv_iload_n dX9_paired_30 rfl ?_
        refine mv_cS (st := []) dX9_paired_31 kk_X9_250 (TX9_isIn G d _ _ _ _ (mv_sat_bind hs)) rfl rfl (Nat.le_of_ble_eq_true rfl) (by omega) rfl ⟨Nat.zero_le _, Nat.zero_le _⟩ (mv_ki fun r973 hs => ?_)
        refine mv_if_ne dX9_paired_34 hs (fun _ hs => ?_) (fun _ hs => ?_)
        · refine mv_iconst (-1) dX9_paired_37 (by decide) ?_
          exact mv_iret dX9_paired_38 rfl ⟨((-1), h), rfl, rfl, rfl, mv_sat_some hs⟩
        · exact (BX9_paired_0_b39 G d D (by omega) P _ _ _ hs)
noncomputable def fX10_findPairs_55_b71 (k2 : Int32 → mv_H → Option (mv_H)) (k10 : Int32 → Int32 → mv_H → Option (mv_H)) (v1 : Int32) (v2 : Int32) (s0 : Int32) (s1 : Int32) (h : mv_H) : Option (mv_H) := if mv_in s1 36 then mv_let (mv_u h 80 s1.toNatClampNeg s0) fun h977 : mv_H => (k10 v1 (v2 + 1) h977) else none
set_option maxRecDepth 100000 in
set_option maxHeartbeats 4000000 in
theorem BX10_findPairs_55_b71 (G : mv_G) (d D : Nat) (hD : d + 0 ≤ D) (P : mv_H → Prop) (k2 : Int32 → mv_H → Option (mv_H)) (k10 : Int32 → Int32 → mv_H → Option (mv_H)) (hk2 : ∀ (v1 : Int32) (h : mv_H), mv_sat (k2 v1 h) P → mv_MW G mX10_findPairs (mv_rm D mX10_findPairs) (mv_Zf G mX10_findPairs (mv_qv mv_SH P)) 0 0 2 [.ref 55, .int v1, .float 0, .float 0] [] mv_SH h) (hk10 : ∀ (v1 : Int32) (v2 : Int32) (h : mv_H), mv_sat (k10 v1 v2 h) P → mv_MW G mX10_findPairs (mv_rm D mX10_findPairs) (mv_Zf G mX10_findPairs (mv_qv mv_SH P)) 0 0 10 [.ref 55, .int v1, .int v2, .float 0] [] mv_SH h) (v1 : Int32) (v2 : Int32) (s0 : Int32) (s1 : Int32) (h : mv_H) (hs : mv_sat (fX10_findPairs_55_b71 k2 k10 v1 v2 s0 s1 h) P) : mv_MW G mX10_findPairs (mv_rm D mX10_findPairs) (mv_Zf G mX10_findPairs (mv_qv mv_SH P)) 0 0 71 [.ref 55, .int v1, .int v2, .float 0] [.int s0, .int s1, .ref 80] mv_SH h := by
  unfold fX10_findPairs_55_b71 at hs
  refine mv_iastore dX10_findPairs_71 so_80 hs (fun hs => ?_)
  refine mv_nameH hs (fun h977 hs => ?_)
  refine mv_iinc (lv' := [.ref 55, .int v1, .int (v2 + 1), .float 0]) 1 dX10_findPairs_72 rfl (by decide) (Nat.le_of_ble_eq_true rfl) rfl rfl ?_
  refine mv_goto dX10_findPairs_75 ?_
  exact (hk10 _ _ _ hs)
noncomputable def fX10_findPairs_55_b46 (k2 : Int32 → mv_H → Option (mv_H)) (k10 : Int32 → Int32 → mv_H → Option (mv_H)) (v1 : Int32) (v2 : Int32) (s0 : Int32) (h : mv_H) : Option (mv_H) := if s0 = 0 then fX10_findPairs_55_b71 k2 k10 v1 v2 (-6) ((6 * v1) + v2) h else (fX10_leastPaper_55 v2 h).bind fun r978 => fX10_findPairs_55_b71 k2 k10 v1 v2 r978.1 ((6 * v1) + v2) r978.2
set_option maxRecDepth 100000 in
set_option maxHeartbeats 4000000 in
theorem BX10_findPairs_55_b46 (G : mv_G) (d D : Nat) (hD : d + 3 ≤ D) (P : mv_H → Prop) (k2 : Int32 → mv_H → Option (mv_H)) (k10 : Int32 → Int32 → mv_H → Option (mv_H)) (hk2 : ∀ (v1 : Int32) (h : mv_H), mv_sat (k2 v1 h) P → mv_MW G mX10_findPairs (mv_rm D mX10_findPairs) (mv_Zf G mX10_findPairs (mv_qv mv_SH P)) 0 0 2 [.ref 55, .int v1, .float 0, .float 0] [] mv_SH h) (hk10 : ∀ (v1 : Int32) (v2 : Int32) (h : mv_H), mv_sat (k10 v1 v2 h) P → mv_MW G mX10_findPairs (mv_rm D mX10_findPairs) (mv_Zf G mX10_findPairs (mv_qv mv_SH P)) 0 0 10 [.ref 55, .int v1, .int v2, .float 0] [] mv_SH h) (v1 : Int32) (v2 : Int32) (s0 : Int32) (h : mv_H) (hs : mv_sat (fX10_findPairs_55_b46 k2 k10 v1 v2 s0 h) P) : mv_MW G mX10_findPairs (mv_rm D mX10_findPairs) (mv_Zf G mX10_findPairs (mv_qv mv_SH P)) 0 0 46 [.ref 55, .int v1, .int v2, .float 0] [.int s0] mv_SH h := by
  unfold fX10_findPairs_55_b46 at hs
  refine mv_istore_n (lv' := [.ref 55, .int v1, .int v2, .int s0]) dX10_findPairs_46 (Nat.le_of_ble_eq_true rfl) rfl rfl ?_
  refine mv_aload_n dX10_findPairs_47 rfl ?_
  refine mv_getr dX10_findPairs_48 kf_X10_82 gf_55_41 ?_
  refine mv_bipush 6 dX10_findPairs_51 (by decide) ?_
  refine mv_iload_n dX10_findPairs_53 rfl ?_
  refine mv_imul dX10_findPairs_54 ?_
  refine mv_iload_n dX10_findPairs_55 rfl ?_
  refine mv_iadd dX10_findPairs_56 ?_
  refine mv_iload_n dX10_findPairs_57 rfl ?_
  refine mv_if_eq dX10_findPairs_58 hs (fun _ hs => ?_) (fun _ hs => ?_)
  · refine mv_bipush (-6) dX10_findPairs_69 (by decide) ?_
    exact mv_weak (lv' := [.ref 55, .int v1, .int v2, .float 0]) (mv_s (mv_s (mv_s (mv_k mv_n)))) (BX10_findPairs_55_b71 G d D (by omega) P _ _ hk2 hk10 _ _ _ _ _ hs)
  · refine mv_aload_n dX10_findPairs_61 rfl ?_
    refine mv_iload_n dX10_findPairs_62 rfl ?_
    refine mv_cV (st := [.int ((6 * v1) + v2), .ref 80]) dX10_findPairs_63 kk_X10_316 (TX10_leastPaper_55 G d _ _ _ (mv_sat_bind hs)) so_55 vc_10 rfl rfl (Nat.le_of_ble_eq_true rfl) (by omega) rfl ⟨Nat.zero_le _, Nat.zero_le _⟩ (mv_kI2 fun r978 hs => ?_)
    refine mv_goto dX10_findPairs_66 ?_
    exact mv_weak (lv' := [.ref 55, .int v1, .int v2, .float 0]) (mv_s (mv_s (mv_s (mv_k mv_n)))) (BX10_findPairs_55_b71 G d D (by omega) P _ _ hk2 hk10 _ _ _ _ _ hs)
noncomputable def fX10_findPairs_55_b45 (k2 : Int32 → mv_H → Option (mv_H)) (k10 : Int32 → Int32 → mv_H → Option (mv_H)) (v1 : Int32) (v2 : Int32) (h : mv_H) : Option (mv_H) := fX10_findPairs_55_b46 k2 k10 v1 v2 0 h
set_option maxRecDepth 100000 in
set_option maxHeartbeats 4000000 in
theorem BX10_findPairs_55_b45 (G : mv_G) (d D : Nat) (hD : d + 3 ≤ D) (P : mv_H → Prop) (k2 : Int32 → mv_H → Option (mv_H)) (k10 : Int32 → Int32 → mv_H → Option (mv_H)) (hk2 : ∀ (v1 : Int32) (h : mv_H), mv_sat (k2 v1 h) P → mv_MW G mX10_findPairs (mv_rm D mX10_findPairs) (mv_Zf G mX10_findPairs (mv_qv mv_SH P)) 0 0 2 [.ref 55, .int v1, .float 0, .float 0] [] mv_SH h) (hk10 : ∀ (v1 : Int32) (v2 : Int32) (h : mv_H), mv_sat (k10 v1 v2 h) P → mv_MW G mX10_findPairs (mv_rm D mX10_findPairs) (mv_Zf G mX10_findPairs (mv_qv mv_SH P)) 0 0 10 [.ref 55, .int v1, .int v2, .float 0] [] mv_SH h) (v1 : Int32) (v2 : Int32) (h : mv_H) (hs : mv_sat (fX10_findPairs_55_b45 k2 k10 v1 v2 h) P) : mv_MW G mX10_findPairs (mv_rm D mX10_findPairs) (mv_Zf G mX10_findPairs (mv_qv mv_SH P)) 0 0 45 [.ref 55, .int v1, .int v2, .float 0] [] mv_SH h := by
  unfold fX10_findPairs_55_b45 at hs
  refine mv_iconst 0 dX10_findPairs_45 (by decide) ?_
  exact (BX10_findPairs_55_b46 G d D (by omega) P _ _ hk2 hk10 _ _ _ _ hs)
noncomputable def fX10_findPairs_55_b10 (k2 : Int32 → mv_H → Option (mv_H)) : Nat → Int32 → Int32 → mv_H → Option (mv_H)
  | 0, _, _, _ => none
  | n + 1, v1, v2, h => if v2 < 6 then ((fX10_isThing_55 v1 h).bind fun r976 => if r976 = 0 then fX10_findPairs_55_b45 k2 (fX10_findPairs_55_b10 k2 n) v1 v2 h else (fX10_isBox_55 v2 h).bind fun r979 => if r979 = 0 then fX10_findPairs_55_b45 k2 (fX10_findPairs_55_b10 k2 n) v1 v2 h else (fX10_fitsIn_55 v1 v2 h).bind fun r980 => if r980.1 = 0 then fX10_findPairs_55_b45 k2 (fX10_findPairs_55_b10 k2 n) v1 v2 r980.2 else fX10_findPairs_55_b46 k2 (fX10_findPairs_55_b10 k2 n) v1 v2 1 r980.2) else k2 (v1 + 1) h
set_option maxRecDepth 100000 in
set_option maxHeartbeats 4000000 in
theorem BX10_findPairs_55_b10 (G : mv_G) (d D : Nat) (hD : d + 3 ≤ D) (P : mv_H → Prop) (k2 : Int32 → mv_H → Option (mv_H)) (hk2 : ∀ (v1 : Int32) (h : mv_H), mv_sat (k2 v1 h) P → mv_MW G mX10_findPairs (mv_rm D mX10_findPairs) (mv_Zf G mX10_findPairs (mv_qv mv_SH P)) 0 0 2 [.ref 55, .int v1, .float 0, .float 0] [] mv_SH h) : ∀ (n : Nat) (v1 : Int32) (v2 : Int32) (h : mv_H), mv_sat (fX10_findPairs_55_b10 k2 n v1 v2 h) P → mv_MW G mX10_findPairs (mv_rm D mX10_findPairs) (mv_Zf G mX10_findPairs (mv_qv mv_SH P)) 0 0 10 [.ref 55, .int v1, .int v2, .float 0] [] mv_SH h := by
  intro n
  induction n with
  | zero =>
    intro v1 v2 h hs
    unfold fX10_findPairs_55_b10 at hs
    exact (mv_sat_none hs).elim
  | succ n ih =>
    intro v1 v2 h hs
    unfold fX10_findPairs_55_b10 at hs
    refine mv_iload_n dX10_findPairs_10 rfl ?_
    refine mv_bipush 6 dX10_findPairs_11 (by decide) ?_
    refine mv_icmp_ge dX10_findPairs_13 hs (fun _ hs => ?_) (fun _ hs => ?_)
    · refine mv_aload_n dX10_findPairs_16 rfl ?_
      refine mv_iload_n dX10_findPairs_17 rfl ?_
      refine mv_cV (st := []) dX10_findPairs_18 kk_X10_149 (TX10_isThing_55 G d _ _ _ (mv_sat_bind hs)) so_55 vc_10 rfl rfl (Nat.le_of_ble_eq_true rfl) (by omega) rfl ⟨Nat.zero_le _, Nat.zero_le _⟩ (mv_ki fun r976 hs => ?_)
      refine mv_if_eq dX10_findPairs_21 hs (fun _ hs => ?_) (fun _ hs => ?_)
      · exact (BX10_findPairs_55_b45 G d D (by omega) P _ _ hk2 ih _ _ _ hs)
      · refine mv_aload_n dX10_findPairs_24 rfl ?_
        refine mv_iload_n dX10_findPairs_25 rfl ?_
        refine mv_cV (st := []) dX10_findPairs_26 kk_X10_146 (TX10_isBox_55 G d _ _ _ (mv_sat_bind hs)) so_55 vc_10 rfl rfl (Nat.le_of_ble_eq_true rfl) (by omega) rfl ⟨Nat.zero_le _, Nat.zero_le _⟩ (mv_ki fun r979 hs => ?_)
        refine mv_if_eq dX10_findPairs_29 hs (fun _ hs => ?_) (fun _ hs => ?_)
        · exact (BX10_findPairs_55_b45 G d D (by omega) P _ _ hk2 ih _ _ _ hs)
        · refine mv_aload_n dX10_findPairs_32 rfl ?_
          refine mv_iload_n dX10_findPairs_33 rfl ?_
          refine mv_iload_n dX10_findPairs_34 rfl ?_
          refine mv_cV (st := []) dX10_findPairs_35 kk_X10_313 (TX10_fitsIn_55 G d _ _ _ _ (mv_sat_bind hs)) so_55 vc_10 rfl rfl (Nat.le_of_ble_eq_true rfl) (by omega) rfl ⟨Nat.zero_le _, Nat.zero_le _⟩ (mv_kI2 fun r980 hs => ?_)
          refine mv_if_eq dX10_findPairs_38 hs (fun _ hs => ?_) (fun _ hs => ?_)
          · exact (BX10_findPairs_55_b45 G d D (by omega) P _ _ hk2 ih _ _ _ hs)
          · refine mv_iconst 1 dX10_findPairs_41 (by decide) ?_
            refine mv_goto dX10_findPairs_42 ?_
            exact (BX10_findPairs_55_b46 G d D (by omega) P _ _ hk2 ih _ _ _ _ hs)
    · refine mv_iinc (lv' := [.ref 55, .int (v1 + 1), .int v2, .float 0]) 1 dX10_findPairs_78 rfl (by decide) (Nat.le_of_ble_eq_true rfl) rfl rfl ?_
      refine mv_goto dX10_findPairs_81 ?_
      exact mv_weak (lv' := [.ref 55, .int (v1 + 1), .float 0, .float 0]) (mv_s (mv_s (mv_k (mv_s mv_n)))) (hk2 _ _ hs)
noncomputable def fX10_findPairs_55_b2 : Nat → Int32 → mv_H → Option (mv_H)
  | 0, _, _ => none
  | n + 1, v1, h => if v1 < 6 then fX10_findPairs_55_b10 (fX10_findPairs_55_b2 n) mv_F v1 0 h else some h
set_option maxRecDepth 100000 in
set_option maxHeartbeats 4000000 in
theorem BX10_findPairs_55_b2 (G : mv_G) (d D : Nat) (hD : d + 3 ≤ D) (P : mv_H → Prop) : ∀ (n : Nat) (v1 : Int32) (h : mv_H), mv_sat (fX10_findPairs_55_b2 n v1 h) P → mv_MW G mX10_findPairs (mv_rm D mX10_findPairs) (mv_Zf G mX10_findPairs (mv_qv mv_SH P)) 0 0 2 [.ref 55, .int v1, .float 0, .float 0] [] mv_SH h := by
  intro n
  induction n with
  | zero =>
    intro v1 h hs
    unfold fX10_findPairs_55_b2 at hs
    exact (mv_sat_none hs).elim
  | succ n ih =>
    intro v1 h hs
    unfold fX10_findPairs_55_b2 at hs
    refine mv_iload_n dX10_findPairs_2 rfl ?_
    refine mv_bipush 6 dX10_findPairs_3 (by decide) ?_
    refine mv_icmp_ge dX10_findPairs_5 hs (fun _ hs => ?_) (fun _ hs => ?_)
    · refine mv_iconst 0 dX10_findPairs_8 (by decide) ?_
      refine mv_istore_n (lv' := [.ref 55, .int v1, .int 0, .float 0]) dX10_findPairs_9 (Nat.le_of_ble_eq_true rfl) rfl rfl ?_
      exact (BX10_findPairs_55_b10 G d D (by omega) P _ ih _ _ _ _ hs)
    · exact mv_vret dX10_findPairs_84 rfl ⟨_, rfl, rfl, rfl, mv_sat_some hs⟩
noncomputable def fX10_findPairs_55 (h : mv_H) : Option (mv_H) := fX10_findPairs_55_b2 mv_F 0 h
set_option maxRecDepth 100000 in
set_option maxHeartbeats 4000000 in
theorem TX10_findPairs_55 (G : mv_G) (d : Nat) (P : mv_H → Prop) (h : mv_H) (hs : mv_sat (fX10_findPairs_55 h) P) : mv_met G (d + 3) mX10_findPairs [.ref 55] mv_SH h (mv_qv mv_SH P) := by
  unfold fX10_findPairs_55 at hs
  obtain ⟨D, hDe⟩ : ∃ D, D = d + 3 := ⟨_, rfl⟩
  rw [← hDe]
  have hD : d + 3 ≤ D := by omega
  refine mv_enter (lv := [.ref 55, .float 0, .float 0, .float 0]) 3 (by decide) (by decide +kernel) rfl (Nat.le_of_ble_eq_true rfl) ?_
  refine mv_iconst 0 dX10_findPairs_0 (by decide) ?_
  refine mv_istore_n (lv' := [.ref 55, .int 0, .float 0, .float 0]) dX10_findPairs_1 (Nat.le_of_ble_eq_true rfl) rfl rfl ?_
  exact (BX10_findPairs_55_b2 G d D (by omega) P _ _ _ hs)
noncomputable def fX10_paperOfRow_55_b93 (k18 : Int32 → Int32 → Int32 → Int32 → Int32 → mv_H → Option (Int32 × mv_H)) (v2 : Int32) (v3 : Int32) (v4 : Int32) (v6 : Int32) (v7 : Int32) (s0 : Int32) (h : mv_H) : Option (Int32 × mv_H) := if mv_in v6 6 then (mv_let (v3 ||| (1 <<< ((h 77 v6.toNatClampNeg) &&& 31))) fun x988 : Int32 => mv_let (v4 + v7) fun x989 : Int32 => k18 v2 x988 x989 s0 (v6 + (-1)) h) else none
set_option maxRecDepth 100000 in
set_option maxHeartbeats 4000000 in
theorem BX10_paperOfRow_55_b93 (G : mv_G) (d D : Nat) (hD : d + 0 ≤ D) (P : Int32 × mv_H → Prop) (k18 : Int32 → Int32 → Int32 → Int32 → Int32 → mv_H → Option (Int32 × mv_H)) (hk18 : ∀ (v2 : Int32) (v3 : Int32) (v4 : Int32) (v5 : Int32) (v6 : Int32) (h : mv_H), mv_sat (k18 v2 v3 v4 v5 v6 h) P → mv_MW G mX10_paperOfRow (mv_rm D mX10_paperOfRow) (mv_Zf G mX10_paperOfRow (mv_qI mv_SH P)) 0 0 18 [.ref 55, .float 0, .int v2, .int v3, .int v4, .int v5, .int v6, .float 0] [] mv_SH h) (v2 : Int32) (v3 : Int32) (v4 : Int32) (v6 : Int32) (v7 : Int32) (s0 : Int32) (h : mv_H) (hs : mv_sat (fX10_paperOfRow_55_b93 k18 v2 v3 v4 v6 v7 s0 h) P) : mv_MW G mX10_paperOfRow (mv_rm D mX10_paperOfRow) (mv_Zf G mX10_paperOfRow (mv_qI mv_SH P)) 0 0 93 [.ref 55, .float 0, .int v2, .int v3, .int v4, .float 0, .int v6, .int v7] [.int s0] mv_SH h := by
  unfold fX10_paperOfRow_55_b93 at hs
  refine mv_istore (lv' := [.ref 55, .float 0, .int v2, .int v3, .int v4, .int s0, .int v6, .int v7]) dX10_paperOfRow_93 (Nat.le_of_ble_eq_true rfl) rfl rfl ?_
  refine mv_iload_n dX10_paperOfRow_95 rfl ?_
  refine mv_iconst 1 dX10_paperOfRow_96 (by decide) ?_
  refine mv_aload_n dX10_paperOfRow_97 rfl ?_
  refine mv_getr dX10_paperOfRow_98 kf_X10_73 gf_55_38 ?_
  refine mv_iload dX10_paperOfRow_101 rfl ?_
  refine mv_iaload dX10_paperOfRow_103 so_77 hs (fun hs => ?_)
  refine mv_ishl dX10_paperOfRow_104 ?_
  refine mv_ior dX10_paperOfRow_105 ?_
  refine mv_name hs (fun x988 hs => ?_)
  refine mv_istore_n (lv' := [.ref 55, .float 0, .int v2, .int x988, .int v4, .int s0, .int v6, .int v7]) dX10_paperOfRow_106 (Nat.le_of_ble_eq_true rfl) rfl rfl ?_
  refine mv_iload dX10_paperOfRow_107 rfl ?_
  refine mv_iload dX10_paperOfRow_109 rfl ?_
  refine mv_iadd dX10_paperOfRow_111 ?_
  refine mv_name hs (fun x989 hs => ?_)
  refine mv_istore (lv' := [.ref 55, .float 0, .int v2, .int x988, .int x989, .int s0, .int v6, .int v7]) dX10_paperOfRow_112 (Nat.le_of_ble_eq_true rfl) rfl rfl ?_
  refine mv_iinc (lv' := [.ref 55, .float 0, .int v2, .int x988, .int x989, .int s0, .int (v6 + (-1)), .int v7]) (-1) dX10_paperOfRow_114 rfl (by decide) (Nat.le_of_ble_eq_true rfl) rfl rfl ?_
  refine mv_goto dX10_paperOfRow_117 ?_
  exact mv_weak (lv' := [.ref 55, .float 0, .int v2, .int x988, .int x989, .int s0, .int (v6 + (-1)), .float 0]) (mv_s (mv_s (mv_s (mv_s (mv_s (mv_s (mv_s (mv_k mv_n)))))))) (hk18 _ _ _ _ _ _ hs)
noncomputable def fX10_paperOfRow_55_b92 (k18 : Int32 → Int32 → Int32 → Int32 → Int32 → mv_H → Option (Int32 × mv_H)) (v2 : Int32) (v3 : Int32) (v4 : Int32) (v6 : Int32) (v7 : Int32) (h : mv_H) : Option (Int32 × mv_H) := fX10_paperOfRow_55_b93 k18 v2 v3 v4 v6 v7 0 h
set_option maxRecDepth 100000 in
set_option maxHeartbeats 4000000 in
theorem BX10_paperOfRow_55_b92 (G : mv_G) (d D : Nat) (hD : d + 0 ≤ D) (P : Int32 × mv_H → Prop) (k18 : Int32 → Int32 → Int32 → Int32 → Int32 → mv_H → Option (Int32 × mv_H)) (hk18 : ∀ (v2 : Int32) (v3 : Int32) (v4 : Int32) (v5 : Int32) (v6 : Int32) (h : mv_H), mv_sat (k18 v2 v3 v4 v5 v6 h) P → mv_MW G mX10_paperOfRow (mv_rm D mX10_paperOfRow) (mv_Zf G mX10_paperOfRow (mv_qI mv_SH P)) 0 0 18 [.ref 55, .float 0, .int v2, .int v3, .int v4, .int v5, .int v6, .float 0] [] mv_SH h) (v2 : Int32) (v3 : Int32) (v4 : Int32) (v6 : Int32) (v7 : Int32) (h : mv_H) (hs : mv_sat (fX10_paperOfRow_55_b92 k18 v2 v3 v4 v6 v7 h) P) : mv_MW G mX10_paperOfRow (mv_rm D mX10_paperOfRow) (mv_Zf G mX10_paperOfRow (mv_qI mv_SH P)) 0 0 92 [.ref 55, .float 0, .int v2, .int v3, .int v4, .float 0, .int v6, .int v7] [] mv_SH h := by
  unfold fX10_paperOfRow_55_b92 at hs
  refine mv_iconst 0 dX10_paperOfRow_92 (by decide) ?_
  exact (BX10_paperOfRow_55_b93 G d D (by omega) P _ hk18 _ _ _ _ _ _ _ hs)
noncomputable def fX10_paperOfRow_55_b18 : Nat → Int32 → Int32 → Int32 → Int32 → Int32 → mv_H → Option (Int32 × mv_H)
  | 0, _, _, _, _, _, _ => none
  | n + 1, v2, v3, v4, v5, v6, h => if v6 < 0 then (if v5 = 0 then some ((-6), h) else some (v4, h)) else if mv_in v6 6 then mv_let (mv_u h 77 v6.toNatClampNeg (v2 - v2 / 6 * 6)) fun h985 : mv_H => (mv_let (v2 / 6) fun x986 : Int32 => if mv_in v6 6 then (if mv_in v6 6 then (if mv_in ((6 * (h985 76 v6.toNatClampNeg)) + (h985 77 v6.toNatClampNeg)) 36 then (mv_let (h985 80 ((6 * (h985 76 v6.toNatClampNeg)) + (h985 77 v6.toNatClampNeg)).toNatClampNeg) fun x987 : Int32 => if v5 = 0 then fX10_paperOfRow_55_b92 (fX10_paperOfRow_55_b18 n) x986 v3 v4 v6 x987 h985 else if x987 < 0 then fX10_paperOfRow_55_b92 (fX10_paperOfRow_55_b18 n) x986 v3 v4 v6 x987 h985 else if mv_in v6 6 then (if ((v3 >>> ((h985 77 v6.toNatClampNeg) &&& 31)) &&& 1) = 0 then fX10_paperOfRow_55_b93 (fX10_paperOfRow_55_b18 n) x986 v3 v4 v6 x987 1 h985 else fX10_paperOfRow_55_b92 (fX10_paperOfRow_55_b18 n) x986 v3 v4 v6 x987 h985) else none) else none) else none) else none) else none
set_option maxRecDepth 100000 in
set_option maxHeartbeats 4000000 in
theorem BX10_paperOfRow_55_b18 (G : mv_G) (d D : Nat) (hD : d + 0 ≤ D) (P : Int32 × mv_H → Prop) : ∀ (n : Nat) (v2 : Int32) (v3 : Int32) (v4 : Int32) (v5 : Int32) (v6 : Int32) (h : mv_H), mv_sat (fX10_paperOfRow_55_b18 n v2 v3 v4 v5 v6 h) P → mv_MW G mX10_paperOfRow (mv_rm D mX10_paperOfRow) (mv_Zf G mX10_paperOfRow (mv_qI mv_SH P)) 0 0 18 [.ref 55, .float 0, .int v2, .int v3, .int v4, .int v5, .int v6, .float 0] [] mv_SH h := by
  intro n
  induction n with
  | zero =>
    intro v2 v3 v4 v5 v6 h hs
    unfold fX10_paperOfRow_55_b18 at hs
    exact (mv_sat_none hs).elim
  | succ n ih =>
    intro v2 v3 v4 v5 v6 h hs
    unfold fX10_paperOfRow_55_b18 at hs
    refine mv_iload dX10_paperOfRow_18 rfl ?_
    refine mv_if_lt dX10_paperOfRow_20 hs (fun _ hs => ?_) (fun _ hs => ?_)
    · refine mv_iload dX10_paperOfRow_120 rfl ?_
      refine mv_if_eq dX10_paperOfRow_122 hs (fun _ hs => ?_) (fun _ hs => ?_)
      · refine mv_bipush (-6) dX10_paperOfRow_130 (by decide) ?_
        exact mv_iret dX10_paperOfRow_132 rfl ⟨((-6), h), rfl, rfl, rfl, mv_sat_some hs⟩
      · refine mv_iload dX10_paperOfRow_125 rfl ?_
        refine mv_goto dX10_paperOfRow_127 ?_
        exact mv_iret dX10_paperOfRow_132 rfl ⟨(v4, h), rfl, rfl, rfl, mv_sat_some hs⟩
    · refine mv_aload_n dX10_paperOfRow_23 rfl ?_
      refine mv_getr dX10_paperOfRow_24 kf_X10_73 gf_55_38 ?_
      refine mv_iload dX10_paperOfRow_27 rfl ?_
      refine mv_iload_n dX10_paperOfRow_29 rfl ?_
      refine mv_bipush 6 dX10_paperOfRow_30 (by decide) ?_
      refine mv_iremk dX10_paperOfRow_32 (by decide) ?_
      refine mv_iastore dX10_paperOfRow_33 so_77 hs (fun hs => ?_)
      refine mv_nameH hs (fun h985 hs => ?_)
      refine mv_iload_n dX10_paperOfRow_34 rfl ?_
      refine mv_bipush 6 dX10_paperOfRow_35 (by decide) ?_
      refine mv_idivk dX10_paperOfRow_37 (by decide) ?_
      refine mv_name hs (fun x986 hs => ?_)
      refine mv_istore_n (lv' := [.ref 55, .float 0, .int x986, .int v3, .int v4, .int v5, .int v6, .float 0]) dX10_paperOfRow_38 (Nat.le_of_ble_eq_true rfl) rfl rfl ?_
      refine mv_aload_n dX10_paperOfRow_39 rfl ?_
      refine mv_getr dX10_paperOfRow_40 kf_X10_82 gf_55_41 ?_
      refine mv_bipush 6 dX10_paperOfRow_43 (by decide) ?_
      refine mv_aload_n dX10_paperOfRow_45 rfl ?_
      refine mv_getr dX10_paperOfRow_46 kf_X10_70 gf_55_36 ?_
      refine mv_iload dX10_paperOfRow_49 rfl ?_
      refine mv_iaload dX10_paperOfRow_51 so_76 hs (fun hs => ?_)
      refine mv_imul dX10_paperOfRow_52 ?_
      refine mv_aload_n dX10_paperOfRow_53 rfl ?_
      refine mv_getr dX10_paperOfRow_54 kf_X10_73 gf_55_38 ?_
      refine mv_iload dX10_paperOfRow_57 rfl ?_
      refine mv_iaload dX10_paperOfRow_59 so_77 hs (fun hs => ?_)
      refine mv_iadd dX10_paperOfRow_60 ?_
      refine mv_iaload dX10_paperOfRow_61 so_80 hs (fun hs => ?_)
      refine mv_name hs (fun x987 hs => ?_)
      refine mv_istore (lv' := [.ref 55, .float 0, .int x986, .int v3, .int v4, .int v5, .int v6, .int x987]) dX10_paperOfRow_62 (Nat.le_of_ble_eq_true rfl) rfl rfl ?_
      refine mv_iload dX10_paperOfRow_64 rfl ?_
      refine mv_if_eq dX10_paperOfRow_66 hs (fun _ hs => ?_) (fun _ hs => ?_)
      · exact mv_weak (lv' := [.ref 55, .float 0, .int x986, .int v3, .int v4, .float 0, .int v6, .int x987]) (mv_s (mv_s (mv_s (mv_s (mv_s (mv_k (mv_s (mv_s mv_n)))))))) (BX10_paperOfRow_55_b92 G d D (by omega) P _ ih _ _ _ _ _ _ hs)
      · refine mv_iload dX10_paperOfRow_69 rfl ?_
        refine mv_if_lt dX10_paperOfRow_71 hs (fun _ hs => ?_) (fun _ hs => ?_)
        · exact mv_weak (lv' := [.ref 55, .float 0, .int x986, .int v3, .int v4, .float 0, .int v6, .int x987]) (mv_s (mv_s (mv_s (mv_s (mv_s (mv_k (mv_s (mv_s mv_n)))))))) (BX10_paperOfRow_55_b92 G d D (by omega) P _ ih _ _ _ _ _ _ hs)
        · refine mv_iload_n dX10_paperOfRow_74 rfl ?_
          refine mv_aload_n dX10_paperOfRow_75 rfl ?_
          refine mv_getr dX10_paperOfRow_76 kf_X10_73 gf_55_38 ?_
          refine mv_iload dX10_paperOfRow_79 rfl ?_
          refine mv_iaload dX10_paperOfRow_81 so_77 hs (fun hs => ?_)
          refine mv_ishr dX10_paperOfRow_82 ?_
          refine mv_iconst 1 dX10_paperOfRow_83 (by decide) ?_
          refine mv_iand dX10_paperOfRow_84 ?_
          refine mv_if_ne dX10_paperOfRow_85 hs (fun _ hs => ?_) (fun _ hs => ?_)
          · refine mv_iconst 1 dX10_paperOfRow_88 (by decide) ?_
            refine mv_goto dX10_paperOfRow_89 ?_
            exact mv_weak (lv' := [.ref 55, .float 0, .int x986, .int v3, .int v4, .float 0, .int v6, .int x987]) (mv_s (mv_s (mv_s (mv_s (mv_s (mv_k (mv_s (mv_s mv_n)))))))) (BX10_paperOfRow_55_b93 G d D (by omega) P _ ih _ _ _ _ _ _ _ hs)
          · exact mv_weak (lv' := [.ref 55, .float 0, .int x986, .int v3, .int v4, .float 0, .int v6, .int x987]) (mv_s (mv_s (mv_s (mv_s (mv_s (mv_k (mv_s (mv_s mv_n)))))))) (BX10_paperOfRow_55_b92 G d D (by omega) P _ ih _ _ _ _ _ _ hs)
noncomputable def fX10_paperOfRow_55 (p0 : Int32) (h : mv_H) : Option (Int32 × mv_H) := mv_let ((h 55 37) - 1) fun x984 : Int32 => fX10_paperOfRow_55_b18 mv_F p0 0 0 1 x984 h
set_option maxRecDepth 100000 in
set_option maxHeartbeats 4000000 in
theorem TX10_paperOfRow_55 (G : mv_G) (d : Nat) (P : Int32 × mv_H → Prop) (p0 : Int32) (h : mv_H) (hs : mv_sat (fX10_paperOfRow_55 p0 h) P) : mv_met G (d + 0) mX10_paperOfRow [.ref 55, .int p0] mv_SH h (mv_qI mv_SH P) := by
  unfold fX10_paperOfRow_55 at hs
  obtain ⟨D, hDe⟩ : ∃ D, D = d + 0 := ⟨_, rfl⟩
  rw [← hDe]
  have hD : d + 0 ≤ D := by omega
  refine mv_enter (lv := [.ref 55, .int p0, .float 0, .float 0, .float 0, .float 0, .float 0, .float 0]) 6 (by decide) (by decide +kernel) rfl (Nat.le_of_ble_eq_true rfl) ?_
  refine mv_iload_n dX10_paperOfRow_0 rfl ?_
  refine mv_istore_n (lv' := [.ref 55, .int p0, .int p0, .float 0, .float 0, .float 0, .float 0, .float 0]) dX10_paperOfRow_1 (Nat.le_of_ble_eq_true rfl) rfl rfl ?_
  refine mv_iconst 0 dX10_paperOfRow_2 (by decide) ?_
  refine mv_istore_n (lv' := [.ref 55, .int p0, .int p0, .int 0, .float 0, .float 0, .float 0, .float 0]) dX10_paperOfRow_3 (Nat.le_of_ble_eq_true rfl) rfl rfl ?_
  refine mv_iconst 0 dX10_paperOfRow_4 (by decide) ?_
  refine mv_istore (lv' := [.ref 55, .int p0, .int p0, .int 0, .int 0, .float 0, .float 0, .float 0]) dX10_paperOfRow_5 (Nat.le_of_ble_eq_true rfl) rfl rfl ?_
  refine mv_iconst 1 dX10_paperOfRow_7 (by decide) ?_
  refine mv_istore (lv' := [.ref 55, .int p0, .int p0, .int 0, .int 0, .int 1, .float 0, .float 0]) dX10_paperOfRow_8 (Nat.le_of_ble_eq_true rfl) rfl rfl ?_
  refine mv_aload_n dX10_paperOfRow_10 rfl ?_
  refine mv_geti dX10_paperOfRow_11 kf_X10_295 gf_55_37 ?_
  refine mv_iconst 1 dX10_paperOfRow_14 (by decide) ?_
  refine mv_isub dX10_paperOfRow_15 ?_
  refine mv_name hs (fun x984 hs => ?_)
  refine mv_istore (lv' := [.ref 55, .int p0, .int p0, .int 0, .int 0, .int 1, .int x984, .float 0]) dX10_paperOfRow_16 (Nat.le_of_ble_eq_true rfl) rfl rfl ?_
  exact mv_weak (lv' := [.ref 55, .float 0, .int p0, .int 0, .int 0, .int 1, .int x984, .float 0]) (mv_s (mv_k (mv_s (mv_s (mv_s (mv_s (mv_s (mv_s mv_n)))))))) (BX10_paperOfRow_55_b18 G d D (by omega) P _ _ _ _ _ _ _ hs)
noncomputable def fX10_paired_55_b151 (k89 : Int32 → Int32 → Int32 → Int32 → mv_H → Option (Int32 × mv_H)) (v2 : Int32) (v3 : Int32) (v4 : Int32) (v5 : Int32) (h : mv_H) : Option (Int32 × mv_H) := k89 v2 v3 v4 (v5 + 1) h
set_option maxRecDepth 100000 in
set_option maxHeartbeats 4000000 in
theorem BX10_paired_55_b151 (G : mv_G) (d D : Nat) (hD : d + 0 ≤ D) (P : Int32 × mv_H → Prop) (k89 : Int32 → Int32 → Int32 → Int32 → mv_H → Option (Int32 × mv_H)) (hk89 : ∀ (v2 : Int32) (v3 : Int32) (v4 : Int32) (v5 : Int32) (h : mv_H), mv_sat (k89 v2 v3 v4 v5 h) P → mv_MW G mX10_paired (mv_rm D mX10_paired) (mv_Zf G mX10_paired (mv_qI mv_SH P)) 0 0 89 [.ref 55, .float 0, .int v2, .int v3, .int v4, .int v5, .float 0, .float 0] [] mv_SH h) (v2 : Int32) (v3 : Int32) (v4 : Int32) (v5 : Int32) (h : mv_H) (hs : mv_sat (fX10_paired_55_b151 k89 v2 v3 v4 v5 h) P) : mv_MW G mX10_paired (mv_rm D mX10_paired) (mv_Zf G mX10_paired (mv_qI mv_SH P)) 0 0 151 [.ref 55, .float 0, .int v2, .int v3, .int v4, .int v5, .float 0, .float 0] [] mv_SH h := by
  unfold fX10_paired_55_b151 at hs
  refine mv_iinc (lv' := [.ref 55, .float 0, .int v2, .int v3, .int v4, .int (v5 + 1), .float 0, .float 0]) 1 dX10_paired_151 rfl (by decide) (Nat.le_of_ble_eq_true rfl) rfl rfl ?_
  refine mv_goto dX10_paired_154 ?_
  exact (hk89 _ _ _ _ _ hs)
noncomputable def fX10_paired_55_b122 (k89 : Int32 → Int32 → Int32 → Int32 → mv_H → Option (Int32 × mv_H)) : Nat → Int32 → Int32 → Int32 → Int32 → Int32 → mv_H → Option (Int32 × mv_H)
  | 0, _, _, _, _, _, _ => none
  | n + 1, v2, v3, v4, v5, v7, h => if v7 < (h 55 37) then (if mv_in v7 6 then (if mv_in v7 6 then mv_let (mv_u h 78 v7.toNatClampNeg (h 77 v7.toNatClampNeg)) fun h991 : mv_H => ((fX10_paired_55_b122 k89 n) v2 v3 v4 v5 (v7 + 1) h991) else none) else none) else fX10_paired_55_b151 k89 v2 v3 v4 v5 h
set_option maxRecDepth 100000 in
set_option maxHeartbeats 4000000 in
theorem BX10_paired_55_b122 (G : mv_G) (d D : Nat) (hD : d + 0 ≤ D) (P : Int32 × mv_H → Prop) (k89 : Int32 → Int32 → Int32 → Int32 → mv_H → Option (Int32 × mv_H)) (hk89 : ∀ (v2 : Int32) (v3 : Int32) (v4 : Int32) (v5 : Int32) (h : mv_H), mv_sat (k89 v2 v3 v4 v5 h) P → mv_MW G mX10_paired (mv_rm D mX10_paired) (mv_Zf G mX10_paired (mv_qI mv_SH P)) 0 0 89 [.ref 55, .float 0, .int v2, .int v3, .int v4, .int v5, .float 0, .float 0] [] mv_SH h) : ∀ (n : Nat) (v2 : Int32) (v3 : Int32) (v4 : Int32) (v5 : Int32) (v7 : Int32) (h : mv_H), mv_sat (fX10_paired_55_b122 k89 n v2 v3 v4 v5 v7 h) P → mv_MW G mX10_paired (mv_rm D mX10_paired) (mv_Zf G mX10_paired (mv_qI mv_SH P)) 0 0 122 [.ref 55, .float 0, .int v2, .int v3, .int v4, .int v5, .float 0, .int v7] [] mv_SH h := by
  intro n
  induction n with
  | zero =>
    intro v2 v3 v4 v5 v7 h hs
    unfold fX10_paired_55_b122 at hs
    exact (mv_sat_none hs).elim
  | succ n ih =>
    intro v2 v3 v4 v5 v7 h hs
    unfold fX10_paired_55_b122 at hs
    refine mv_iload dX10_paired_122 rfl ?_
    refine mv_aload_n dX10_paired_124 rfl ?_
    refine mv_geti dX10_paired_125 kf_X10_295 gf_55_37 ?_
    refine mv_icmp_ge dX10_paired_128 hs (fun _ hs => ?_) (fun _ hs => ?_)
    · refine mv_aload_n dX10_paired_131 rfl ?_
      refine mv_getr dX10_paired_132 kf_X10_76 gf_55_39 ?_
      refine mv_iload dX10_paired_135 rfl ?_
      refine mv_aload_n dX10_paired_137 rfl ?_
      refine mv_getr dX10_paired_138 kf_X10_73 gf_55_38 ?_
      refine mv_iload dX10_paired_141 rfl ?_
      refine mv_iaload dX10_paired_143 so_77 hs (fun hs => ?_)
      refine mv_iastore dX10_paired_144 so_78 hs (fun hs => ?_)
      refine mv_nameH hs (fun h991 hs => ?_)
      refine mv_iinc (lv' := [.ref 55, .float 0, .int v2, .int v3, .int v4, .int v5, .float 0, .int (v7 + 1)]) 1 dX10_paired_145 rfl (by decide) (Nat.le_of_ble_eq_true rfl) rfl rfl ?_
      refine mv_goto dX10_paired_148 ?_
      exact (ih _ _ _ _ _ _ hs)
    · exact mv_weak (lv' := [.ref 55, .float 0, .int v2, .int v3, .int v4, .int v5, .float 0, .float 0]) (mv_s (mv_s (mv_s (mv_s (mv_s (mv_s (mv_s (mv_k mv_n)))))))) (BX10_paired_55_b151 G d D (by omega) P _ hk89 _ _ _ _ _ hs)
noncomputable def fX10_paired_55_b169 (v4 : Int32) (h : mv_H) : Option (Int32 × mv_H) := if v4 = 1000000000 then some ((-6), h) else some (v4, h)
set_option maxRecDepth 100000 in
set_option maxHeartbeats 4000000 in
theorem BX10_paired_55_b169 (G : mv_G) (d D : Nat) (hD : d + 0 ≤ D) (P : Int32 × mv_H → Prop) (v4 : Int32) (h : mv_H) (hs : mv_sat (fX10_paired_55_b169 v4 h) P) : mv_MW G mX10_paired (mv_rm D mX10_paired) (mv_Zf G mX10_paired (mv_qI mv_SH P)) 0 0 169 [.float 0, .float 0, .float 0, .float 0, .int v4, .float 0, .float 0, .float 0] [] mv_SH h := by
  unfold fX10_paired_55_b169 at hs
  refine mv_iload dX10_paired_169 rfl ?_
  refine mv_ldc dX10_paired_171 kn_X10_252 ?_
  refine mv_icmp_ne dX10_paired_173 hs (fun _ hs => ?_) (fun _ hs => ?_)
  · refine mv_bipush (-6) dX10_paired_176 (by decide) ?_
    refine mv_goto dX10_paired_178 ?_
    exact mv_iret dX10_paired_183 rfl ⟨((-6), h), rfl, rfl, rfl, mv_sat_some hs⟩
  · refine mv_iload dX10_paired_181 rfl ?_
    exact mv_iret dX10_paired_183 rfl ⟨(v4, h), rfl, rfl, rfl, mv_sat_some hs⟩
noncomputable def fX10_paired_55_b187 : Nat → Int32 → Int32 → mv_H → Option (Int32 × mv_H)
  | 0, _, _, _ => none
  | n + 1, v2, v5, h => if mv_in v5 6 then (if (h 76 v5.toNatClampNeg) = v2 then (if mv_in v5 6 then (some (h 78 v5.toNatClampNeg, h)) else none) else (fX10_paired_55_b187 n) v2 (v5 + 1) h) else none
set_option maxRecDepth 100000 in
set_option maxHeartbeats 4000000 in
theorem BX10_paired_55_b187 (G : mv_G) (d D : Nat) (hD : d + 0 ≤ D) (P : Int32 × mv_H → Prop) : ∀ (n : Nat) (v2 : Int32) (v5 : Int32) (h : mv_H), mv_sat (fX10_paired_55_b187 n v2 v5 h) P → mv_MW G mX10_paired (mv_rm D mX10_paired) (mv_Zf G mX10_paired (mv_qI mv_SH P)) 0 0 187 [.ref 55, .float 0, .int v2, .float 0, .float 0, .int v5, .float 0, .float 0] [] mv_SH h := by
  intro n
  induction n with
  | zero =>
    intro v2 v5 h hs
    unfold fX10_paired_55_b187 at hs
    exact (mv_sat_none hs).elim
  | succ n ih =>
    intro v2 v5 h hs
    unfold fX10_paired_55_b187 at hs
    refine mv_aload_n dX10_paired_187 rfl ?_
    refine mv_getr dX10_paired_188 kf_X10_70 gf_55_36 ?_
    refine mv_iload dX10_paired_191 rfl ?_
    refine mv_iaload dX10_paired_193 so_76 hs (fun hs => ?_)
    refine mv_iload_n dX10_paired_194 rfl ?_
    refine mv_icmp_eq dX10_paired_195 hs (fun _ hs => ?_) (fun _ hs => ?_)
    · refine mv_aload_n dX10_paired_204 rfl ?_
      refine mv_getr dX10_paired_205 kf_X10_76 gf_55_39 ?_
      refine mv_iload dX10_paired_208 rfl ?_
      refine mv_iaload dX10_paired_210 so_78 hs (fun hs => ?_)
      exact mv_iret dX10_paired_211 rfl ⟨(h 78 v5.toNatClampNeg, h), rfl, rfl, rfl, mv_sat_some hs⟩
    · refine mv_iinc (lv' := [.ref 55, .float 0, .int v2, .float 0, .float 0, .int (v5 + 1), .float 0, .float 0]) 1 dX10_paired_198 rfl (by decide) (Nat.le_of_ble_eq_true rfl) rfl rfl ?_
      refine mv_goto dX10_paired_201 ?_
      exact (ih _ _ _ hs)
noncomputable def fX10_paired_55_b89 : Nat → Int32 → Int32 → Int32 → Int32 → mv_H → Option (Int32 × mv_H)
  | 0, _, _, _, _, _ => none
  | n + 1, v2, v3, v4, v5, h => if v5 < v3 then ((fX10_paperOfRow_55 v5 h).bind fun r990 => if r990.1 < 0 then fX10_paired_55_b151 (fX10_paired_55_b89 n) v2 v3 v4 v5 r990.2 else if r990.1 < v4 then fX10_paired_55_b122 (fX10_paired_55_b89 n) mv_F v2 v3 r990.1 v5 0 r990.2 else fX10_paired_55_b151 (fX10_paired_55_b89 n) v2 v3 v4 v5 r990.2) else if v4 = 1000000000 then fX10_paired_55_b169 v4 h else if v2 = (-1) then fX10_paired_55_b169 v4 h else fX10_paired_55_b187 mv_F v2 0 h
set_option maxRecDepth 100000 in
set_option maxHeartbeats 4000000 in
theorem BX10_paired_55_b89 (G : mv_G) (d D : Nat) (hD : d + 1 ≤ D) (P : Int32 × mv_H → Prop) : ∀ (n : Nat) (v2 : Int32) (v3 : Int32) (v4 : Int32) (v5 : Int32) (h : mv_H), mv_sat (fX10_paired_55_b89 n v2 v3 v4 v5 h) P → mv_MW G mX10_paired (mv_rm D mX10_paired) (mv_Zf G mX10_paired (mv_qI mv_SH P)) 0 0 89 [.ref 55, .float 0, .int v2, .int v3, .int v4, .int v5, .float 0, .float 0] [] mv_SH h := by
  intro n
  induction n with
  | zero =>
    intro v2 v3 v4 v5 h hs
    unfold fX10_paired_55_b89 at hs
    exact (mv_sat_none hs).elim
  | succ n ih =>
    intro v2 v3 v4 v5 h hs
    unfold fX10_paired_55_b89 at hs
    refine mv_iload dX10_paired_89 rfl ?_
    refine mv_iload_n dX10_paired_91 rfl ?_
    refine mv_icmp_ge dX10_paired_92 hs (fun _ hs => ?_) (fun _ hs => ?_)
    · refine mv_aload_n dX10_paired_95 rfl ?_
      refine mv_iload dX10_paired_96 rfl ?_
      refine mv_cV (st := []) dX10_paired_98 kk_X10_322 (TX10_paperOfRow_55 G d _ _ _ (mv_sat_bind hs)) so_55 vc_10 rfl rfl (Nat.le_of_ble_eq_true rfl) (by omega) rfl ⟨Nat.zero_le _, Nat.zero_le _⟩ (mv_kI2 fun r990 hs => ?_)
      refine mv_istore (lv' := [.ref 55, .float 0, .int v2, .int v3, .int v4, .int v5, .int r990.1, .float 0]) dX10_paired_101 (Nat.le_of_ble_eq_true rfl) rfl rfl ?_
      refine mv_iload dX10_paired_103 rfl ?_
      refine mv_if_lt dX10_paired_105 hs (fun _ hs => ?_) (fun _ hs => ?_)
      · exact mv_weak (lv' := [.ref 55, .float 0, .int v2, .int v3, .int v4, .int v5, .float 0, .float 0]) (mv_s (mv_s (mv_s (mv_s (mv_s (mv_s (mv_k (mv_s mv_n)))))))) (BX10_paired_55_b151 G d D (by omega) P _ ih _ _ _ _ _ hs)
      · refine mv_iload dX10_paired_108 rfl ?_
        refine mv_iload dX10_paired_110 rfl ?_
        refine mv_icmp_ge dX10_paired_112 hs (fun _ hs => ?_) (fun _ hs => ?_)
        · refine mv_iload dX10_paired_115 rfl ?_
          refine mv_istore (lv' := [.ref 55, .float 0, .int v2, .int v3, .int r990.1, .int v5, .int r990.1, .float 0]) dX10_paired_117 (Nat.le_of_ble_eq_true rfl) rfl rfl ?_
          refine mv_iconst 0 dX10_paired_119 (by decide) ?_
          refine mv_istore (lv' := [.ref 55, .float 0, .int v2, .int v3, .int r990.1, .int v5, .int r990.1, .int 0]) dX10_paired_120 (Nat.le_of_ble_eq_true rfl) rfl rfl ?_
          exact mv_weak (lv' := [.ref 55, .float 0, .int v2, .int v3, .int r990.1, .int v5, .float 0, .int 0]) (mv_s (mv_s (mv_s (mv_s (mv_s (mv_s (mv_k (mv_s mv_n)))))))) (BX10_paired_55_b122 G d D (by omega) P _ ih _ _ _ _ _ _ _ hs)
        · exact mv_weak (lv' := [.ref 55, .float 0, .int v2, .int v3, .int v4, .int v5, .float 0, .float 0]) (mv_s (mv_s (mv_s (mv_s (mv_s (mv_s (mv_k (mv_s mv_n)))))))) (BX10_paired_55_b151 G d D (by omega) P _ ih _ _ _ _ _ hs)
    · refine mv_iload dX10_paired_157 rfl ?_
      refine mv_ldc dX10_paired_159 kn_X10_252 ?_
      refine mv_icmp_eq dX10_paired_161 hs (fun _ hs => ?_) (fun _ hs => ?_)
      · exact mv_weak (lv' := [.float 0, .float 0, .float 0, .float 0, .int v4, .float 0, .float 0, .float 0]) (mv_k (mv_s (mv_k (mv_k (mv_s (mv_k (mv_s (mv_s mv_n)))))))) (BX10_paired_55_b169 G d D (by omega) P _ _ hs)
      · refine mv_iload_n dX10_paired_164 rfl ?_
        refine mv_iconst (-1) dX10_paired_165 (by decide) ?_
        refine mv_icmp_ne dX10_paired_166 hs (fun _ hs => ?_) (fun _ hs => ?_)
        · exact mv_weak (lv' := [.float 0, .float 0, .float 0, .float 0, .int v4, .float 0, .float 0, .float 0]) (mv_k (mv_s (mv_k (mv_k (mv_s (mv_k (mv_s (mv_s mv_n)))))))) (BX10_paired_55_b169 G d D (by omega) P _ _ hs)
        · refine mv_iconst 0 dX10_paired_184 (by decide) ?_
          refine mv_istore (lv' := [.ref 55, .float 0, .int v2, .int v3, .int v4, .int 0, .float 0, .float 0]) dX10_paired_185 (Nat.le_of_ble_eq_true rfl) rfl rfl ?_
          exact mv_weak (lv' := [.ref 55, .float 0, .int v2, .float 0, .float 0, .int 0, .float 0, .float 0]) (mv_s (mv_s (mv_s (mv_k (mv_k (mv_s (mv_s (mv_s mv_n)))))))) (BX10_paired_55_b187 G d D (by omega) P _ _ _ _ hs)
noncomputable def fX10_paired_55_b62 : Nat → Int32 → Int32 → Int32 → mv_H → Option (Int32 × mv_H)
  | 0, _, _, _, _ => none
  | n + 1, v2, v3, v4, h => if v4 < (h 55 37) then (mv_let (v3 * 6) fun x983 : Int32 => (fX10_paired_55_b62 n) v2 x983 (v4 + 1) h) else fX10_paired_55_b89 mv_F v2 v3 1000000000 0 h
set_option maxRecDepth 100000 in
set_option maxHeartbeats 4000000 in
theorem BX10_paired_55_b62 (G : mv_G) (d D : Nat) (hD : d + 1 ≤ D) (P : Int32 × mv_H → Prop) : ∀ (n : Nat) (v2 : Int32) (v3 : Int32) (v4 : Int32) (h : mv_H), mv_sat (fX10_paired_55_b62 n v2 v3 v4 h) P → mv_MW G mX10_paired (mv_rm D mX10_paired) (mv_Zf G mX10_paired (mv_qI mv_SH P)) 0 0 62 [.ref 55, .float 0, .int v2, .int v3, .int v4, .float 0, .float 0, .float 0] [] mv_SH h := by
  intro n
  induction n with
  | zero =>
    intro v2 v3 v4 h hs
    unfold fX10_paired_55_b62 at hs
    exact (mv_sat_none hs).elim
  | succ n ih =>
    intro v2 v3 v4 h hs
    unfold fX10_paired_55_b62 at hs
    refine mv_iload dX10_paired_62 rfl ?_
    refine mv_aload_n dX10_paired_64 rfl ?_
    refine mv_geti dX10_paired_65 kf_X10_295 gf_55_37 ?_
    refine mv_icmp_ge dX10_paired_68 hs (fun _ hs => ?_) (fun _ hs => ?_)
    · refine mv_iload_n dX10_paired_71 rfl ?_
      refine mv_bipush 6 dX10_paired_72 (by decide) ?_
      refine mv_imul dX10_paired_74 ?_
      refine mv_name hs (fun x983 hs => ?_)
      refine mv_istore_n (lv' := [.ref 55, .float 0, .int v2, .int x983, .int v4, .float 0, .float 0, .float 0]) dX10_paired_75 (Nat.le_of_ble_eq_true rfl) rfl rfl ?_
      refine mv_iinc (lv' := [.ref 55, .float 0, .int v2, .int x983, .int (v4 + 1), .float 0, .float 0, .float 0]) 1 dX10_paired_76 rfl (by decide) (Nat.le_of_ble_eq_true rfl) rfl rfl ?_
      refine mv_goto dX10_paired_79 ?_
      exact (ih _ _ _ _ hs)
    · refine mv_ldc dX10_paired_82 kn_X10_252 ?_
      refine mv_istore (lv' := [.ref 55, .float 0, .int v2, .int v3, .int 1000000000, .float 0, .float 0, .float 0]) dX10_paired_84 (Nat.le_of_ble_eq_true rfl) rfl rfl ?_
      refine mv_iconst 0 dX10_paired_86 (by decide) ?_
      refine mv_istore (lv' := [.ref 55, .float 0, .int v2, .int v3, .int 1000000000, .int 0, .float 0, .float 0]) dX10_paired_87 (Nat.le_of_ble_eq_true rfl) rfl rfl ?_
      exact (BX10_paired_55_b89 G d D (by omega) P _ _ _ _ _ _ hs)
noncomputable def fX10_paired_55_b48 (v1 : Int32) (v2 : Int32) (h : mv_H) : Option (Int32 × mv_H) := (fX10_findPairs_55 h).bind fun r981 => (fX10_layMembers_55 v1 r981).bind fun r982 => fX10_paired_55_b62 mv_F v2 1 0 r982
set_option maxRecDepth 100000 in
set_option maxHeartbeats 4000000 in
theorem BX10_paired_55_b48 (G : mv_G) (d D : Nat) (hD : d + 4 ≤ D) (P : Int32 × mv_H → Prop) (v1 : Int32) (v2 : Int32) (h : mv_H) (hs : mv_sat (fX10_paired_55_b48 v1 v2 h) P) : mv_MW G mX10_paired (mv_rm D mX10_paired) (mv_Zf G mX10_paired (mv_qI mv_SH P)) 0 0 48 [.ref 55, .int v1, .int v2, .float 0, .float 0, .float 0, .float 0, .float 0] [] mv_SH h := by
  unfold fX10_paired_55_b48 at hs
  refine mv_aload_n dX10_paired_48 rfl ?_
  refine mv_cV (st := []) dX10_paired_49 kk_X10_319 (TX10_findPairs_55 G d _ _ (mv_sat_bind hs)) so_55 vc_10 rfl rfl (Nat.le_of_ble_eq_true rfl) (by omega) rfl ⟨Nat.zero_le _, Nat.zero_le _⟩ (mv_kv fun r981 hs => ?_)
  refine mv_aload_n dX10_paired_52 rfl ?_
  refine mv_iload_n dX10_paired_53 rfl ?_
  refine mv_cV (st := []) dX10_paired_54 kk_X10_298 (TX10_layMembers_55 G d _ _ _ (mv_sat_bind hs)) so_55 vc_10 rfl rfl (Nat.le_of_ble_eq_true rfl) (by omega) rfl ⟨Nat.zero_le _, Nat.zero_le _⟩ (mv_kv fun r982 hs => ?_)
  refine mv_iconst 1 dX10_paired_57 (by decide) ?_
  refine mv_istore_n (lv' := [.ref 55, .int v1, .int v2, .int 1, .float 0, .float 0, .float 0, .float 0]) dX10_paired_58 (Nat.le_of_ble_eq_true rfl) rfl rfl ?_
  refine mv_iconst 0 dX10_paired_59 (by decide) ?_
  refine mv_istore (lv' := [.ref 55, .int v1, .int v2, .int 1, .int 0, .float 0, .float 0, .float 0]) dX10_paired_60 (Nat.le_of_ble_eq_true rfl) rfl rfl ?_
  exact mv_weak (lv' := [.ref 55, .float 0, .int v2, .int 1, .int 0, .float 0, .float 0, .float 0]) (mv_s (mv_k (mv_s (mv_s (mv_s (mv_s (mv_s (mv_s mv_n)))))))) (BX10_paired_55_b62 G d D (by omega) P _ _ _ _ _ hs)
noncomputable def fX10_paired_55 (p0 : Int32) (p1 : Int32) (h : mv_H) : Option (Int32 × mv_H) := (fX10_in (Int32.toInt64 p0) (0 : Int64) (63 : Int64)).bind fun r975 => if r975 = 0 then some ((-2), h) else if (p0 &&& ((h 55 1) ^^^ (-1))) = 0 then (if p1 = (-1) then fX10_paired_55_b48 p0 p1 h else (fX10_isNumber p1).bind fun r992 => if r992 = 0 then some ((-1), h) else if ((p0 >>> (p1 &&& 31)) &&& 1) = 0 then some ((-1), h) else fX10_paired_55_b48 p0 p1 h) else some ((-2), h)
set_option maxRecDepth 100000 in
set_option maxHeartbeats 4000000 in
theorem TX10_paired_55 (G : mv_G) (d : Nat) (P : Int32 × mv_H → Prop) (p0 : Int32) (p1 : Int32) (h : mv_H) (hs : mv_sat (fX10_paired_55 p0 p1 h) P) : mv_met G (d + 4) mX10_paired [.ref 55, .int p0, .int p1] mv_SH h (mv_qI mv_SH P) := by
  unfold fX10_paired_55 at hs
  obtain ⟨D, hDe⟩ : ∃ D, D = d + 4 := ⟨_, rfl⟩
  rw [← hDe]
  have hD : d + 4 ≤ D := by omega
  refine mv_enter (lv := [.ref 55, .int p0, .int p1, .float 0, .float 0, .float 0, .float 0, .float 0]) 5 (by decide) (by decide +kernel) rfl (Nat.le_of_ble_eq_true rfl) ?_
  refine mv_iload_n dX10_paired_0 rfl ?_
  refine mv_i2l dX10_paired_1 ?_
  refine mv_lconst 0 dX10_paired_2 rfl ?_
  refine mv_ldc2 dX10_paired_3 kn_X10_284 ?_
  refine mv_cS (st := []) dX10_paired_6 kk_X10_104 (TX10_in G d _ _ _ _ _ (mv_sat_bind hs)) rfl rfl (Nat.le_of_ble_eq_true rfl) (by omega) rfl ⟨Nat.zero_le _, Nat.zero_le _⟩ (mv_ki fun r975 hs => ?_)
  refine mv_if_eq dX10_paired_9 hs (fun _ hs => ?_) (fun _ hs => ?_)
  · refine mv_bipush (-2) dX10_paired_23 (by decide) ?_
    exact mv_iret dX10_paired_25 rfl ⟨((-2), h), rfl, rfl, rfl, mv_sat_some hs⟩
  · refine mv_iload_n dX10_paired_12 rfl ?_
    refine mv_aload_n dX10_paired_13 rfl ?_
    refine mv_geti dX10_paired_14 kf_X10_115 gf_55_1 ?_
    refine mv_iconst (-1) dX10_paired_17 (by decide) ?_
    refine mv_ixor dX10_paired_18 ?_
    refine mv_iand dX10_paired_19 ?_
    refine mv_if_eq dX10_paired_20 hs (fun _ hs => ?_) (fun _ hs => ?_)
    · refine mv_iload_n dX10_paired_26 rfl ?_
      refine mv_iconst (-1) dX10_paired_27 (by decide) ?_
      refine mv_icmp_eq dX10_paired_28 hs (fun _ hs => ?_) (fun _ hs => ?_)
      · exact (BX10_paired_55_b48 G d D (by omega) P _ _ _ hs)
      · refine mv_iload_n dX10_paired_31 rfl ?_
        refine mv_cS (st := []) dX10_paired_32 kk_X10_108 (TX10_isNumber G d _ _ _ (mv_sat_bind hs)) rfl rfl (Nat.le_of_ble_eq_true rfl) (by omega) rfl ⟨Nat.zero_le _, Nat.zero_le _⟩ (mv_ki fun r992 hs => ?_)
        refine mv_if_eq dX10_paired_35 hs (fun _ hs => ?_) (fun _ hs => ?_)
        · refine mv_iconst (-1) dX10_paired_46 (by decide) ?_
          exact mv_iret dX10_paired_47 rfl ⟨((-1), h), rfl, rfl, rfl, mv_sat_some hs⟩
        · refine mv_iload_n dX10_paired_38 rfl ?_
          refine mv_iload_n dX10_paired_39 rfl ?_
          refine mv_ishr dX10_paired_40 ?_
          refine mv_iconst 1 dX10_paired_41 (by decide) ?_
          refine mv_iand dX10_paired_42 ?_
          refine mv_if_ne dX10_paired_43 hs (fun _ hs => ?_) (fun _ hs => ?_)
          · refine mv_iconst (-1) dX10_paired_46 (by decide) ?_
            exact mv_iret dX10_paired_47 rfl ⟨((-1), h), rfl, rfl, rfl, mv_sat_some hs⟩
          · exact (BX10_paired_55_b48 G d D (by omega) P _ _ _ hs)
    · refine mv_bipush (-2) dX10_paired_23 (by decide) ?_
      exact mv_iret dX10_paired_25 rfl ⟨((-2), h), rfl, rfl, rfl, mv_sat_some hs⟩
noncomputable def fX1_marks_1 (p0 : Int32) (h : mv_H) : Option (Nat) := if p0 = 0 then some 8 else some 10
set_option maxRecDepth 100000 in
set_option maxHeartbeats 4000000 in
theorem TX1_marks_1 (G : mv_G) (d : Nat) (P : Nat → Prop) (p0 : Int32) (h : mv_H) (hs : mv_sat (fX1_marks_1 p0 h) P) : mv_met G (d + 0) mX1_marks [.ref 1, .int p0] mv_SH h (mv_qr mv_SH h P) := by
  unfold fX1_marks_1 at hs
  obtain ⟨D, hDe⟩ : ∃ D, D = d + 0 := ⟨_, rfl⟩
  rw [← hDe]
  have hD : d + 0 ≤ D := by omega
  refine mv_enter (lv := [.ref 1, .int p0]) 0 (by decide) (by decide +kernel) rfl (Nat.le_of_ble_eq_true rfl) ?_
  refine mv_iload_n dX1_marks_0 rfl ?_
  refine mv_if_ne dX1_marks_1 hs (fun _ hs => ?_) (fun _ hs => ?_)
  · refine mv_aload_n dX1_marks_4 rfl ?_
    refine mv_getr dX1_marks_5 kf_X1_29 gf_1_3 ?_
    refine mv_goto dX1_marks_8 ?_
    exact mv_aret dX1_marks_15 rfl ⟨_, rfl, rfl, rfl, mv_sat_some hs⟩
  · refine mv_aload_n dX1_marks_11 rfl ?_
    refine mv_getr dX1_marks_12 kf_X1_33 gf_1_4 ?_
    exact mv_aret dX1_marks_15 rfl ⟨_, rfl, rfl, rfl, mv_sat_some hs⟩
noncomputable def fX2_farthest_8 (h : mv_H) : Option (Int32) := some (h 8 0)
set_option maxRecDepth 100000 in
set_option maxHeartbeats 4000000 in
theorem TX2_farthest_8 (G : mv_G) (d : Nat) (P : Int32 → Prop) (h : mv_H) (hs : mv_sat (fX2_farthest_8 h) P) : mv_met G (d + 0) mX2_farthest [.ref 8] mv_SH h (mv_qi mv_SH h P) := by
  unfold fX2_farthest_8 at hs
  obtain ⟨D, hDe⟩ : ∃ D, D = d + 0 := ⟨_, rfl⟩
  rw [← hDe]
  have hD : d + 0 ≤ D := by omega
  refine mv_enter (lv := [.ref 8]) 0 (by decide) (by decide +kernel) rfl (Nat.le_of_ble_eq_true rfl) ?_
  refine mv_aload_n dX2_farthest_0 rfl ?_
  refine mv_geti dX2_farthest_1 kf_X2_13 gf_8_0 ?_
  exact mv_iret dX2_farthest_4 rfl ⟨_, rfl, rfl, rfl, mv_sat_some hs⟩
noncomputable def fX2_add_8 (p0 : Int32) (h : mv_H) : Option (Int32 × mv_H) := if (h 8 2) < 0 then some (0, h) else if (h 8 2) < 6 then (if mv_in (h 8 2) 6 then mv_let (mv_u h 9 (h 8 2).toNatClampNeg p0) fun h998 : mv_H => (mv_let (mv_u h998 8 2 ((h998 8 2) + 1)) fun h999 : mv_H => some (1, h999)) else none) else some (0, h)
set_option maxRecDepth 100000 in
set_option maxHeartbeats 4000000 in
theorem TX2_add_8 (G : mv_G) (d : Nat) (P : Int32 × mv_H → Prop) (p0 : Int32) (h : mv_H) (hs : mv_sat (fX2_add_8 p0 h) P) : mv_met G (d + 0) mX2_add [.ref 8, .int p0] mv_SH h (mv_qI mv_SH P) := by
  unfold fX2_add_8 at hs
  obtain ⟨D, hDe⟩ : ∃ D, D = d + 0 := ⟨_, rfl⟩
  rw [← hDe]
  have hD : d + 0 ≤ D := by omega
  refine mv_enter (lv := [.ref 8, .int p0]) 0 (by decide) (by decide +kernel) rfl (Nat.le_of_ble_eq_true rfl) ?_
  refine mv_aload_n dX2_add_0 rfl ?_
  refine mv_geti dX2_add_1 kf_X2_17 gf_8_2 ?_
  refine mv_if_lt dX2_add_4 hs (fun _ hs => ?_) (fun _ hs => ?_)
  · refine mv_iconst 0 dX2_add_16 (by decide) ?_
    exact mv_zret dX2_add_17 rfl (Or.inl rfl) ⟨(0, h), rfl, rfl, rfl, mv_sat_some hs⟩
  · refine mv_aload_n dX2_add_7 rfl ?_
    refine mv_geti dX2_add_8 kf_X2_17 gf_8_2 ?_
    refine mv_bipush 6 dX2_add_11 (by decide) ?_
    refine mv_icmp_lt dX2_add_13 hs (fun _ hs => ?_) (fun _ hs => ?_)
    · refine mv_aload_n dX2_add_18 rfl ?_
      refine mv_getr dX2_add_19 kf_X2_9 gf_8_1 ?_
      refine mv_aload_n dX2_add_22 rfl ?_
      refine mv_geti dX2_add_23 kf_X2_17 gf_8_2 ?_
      refine mv_iload_n dX2_add_26 rfl ?_
      refine mv_iastore dX2_add_27 so_9 hs (fun hs => ?_)
      refine mv_nameH hs (fun h998 hs => ?_)
      refine mv_aload_n dX2_add_28 rfl ?_
      refine mv_dup dX2_add_29 rfl ?_
      refine mv_geti dX2_add_30 kf_X2_17 gf_8_2 ?_
      refine mv_iconst 1 dX2_add_33 (by decide) ?_
      refine mv_iadd dX2_add_34 ?_
      refine mv_puti dX2_add_35 kf_X2_17 (fun q => by cases q) gf_8_2 ?_
      refine mv_nameH hs (fun h999 hs => ?_)
      refine mv_iconst 1 dX2_add_38 (by decide) ?_
      exact mv_zret dX2_add_39 rfl (Or.inr rfl) ⟨(1, h999), rfl, rfl, rfl, mv_sat_some hs⟩
    · refine mv_iconst 0 dX2_add_16 (by decide) ?_
      exact mv_zret dX2_add_17 rfl (Or.inl rfl) ⟨(0, h), rfl, rfl, rfl, mv_sat_some hs⟩
