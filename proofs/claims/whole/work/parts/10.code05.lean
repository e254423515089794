/-! printed by program: what a method does, as a function, and that it does it -/
noncomputable def fX8_leastAcross_38_b50 (k5 : Int32 → Int32 → Int32 → mv_H → Option (Int32)) (v1 : Int32) (v2 : Int32) (v3 : Int32) (h : mv_H) : Option (Int32) := k5 v1 v2 (v3 + 1) h
set_option maxRecDepth 100000 in
set_option maxHeartbeats 4000000 in
theorem BX8_leastAcross_38_b50 (G : mv_G) (d D : Nat) (hD : d + 0 ≤ D) (P : Int32 → Prop) (k5 : Int32 → Int32 → Int32 → mv_H → Option (Int32)) (h : mv_H) (hk5 : ∀ (v1 : Int32) (v2 : Int32) (v3 : Int32), mv_sat (k5 v1 v2 v3 h) P → mv_MW G mX8_leastAcross (mv_rm D mX8_leastAcross) (mv_Zf G mX8_leastAcross (mv_qi mv_SH h P)) 0 0 5 [.ref 38, .int v1, .int v2, .int v3, .float 0] [] mv_SH h) (v1 : Int32) (v2 : Int32) (v3 : Int32) (hs : mv_sat (fX8_leastAcross_38_b50 k5 v1 v2 v3 h) P) : mv_MW G mX8_leastAcross (mv_rm D mX8_leastAcross) (mv_Zf G mX8_leastAcross (mv_qi mv_SH h P)) 0 0 50 [.ref 38, .int v1, .int v2, .int v3, .float 0] [] mv_SH h := by
  unfold fX8_leastAcross_38_b50 at hs
  refine mv_iinc (lv' := [.ref 38, .int v1, .int v2, .int (v3 + 1), .float 0]) 1 dX8_leastAcross_50 rfl (by decide) (Nat.le_of_ble_eq_true rfl) rfl rfl ?_
  refine mv_goto dX8_leastAcross_53 ?_
  exact (hk5 _ _ _ hs)
noncomputable def fX8_leastAcross_38_b47 (k5 : Int32 → Int32 → Int32 → mv_H → Option (Int32)) (v1 : Int32) (v3 : Int32) (v4 : Int32) (h : mv_H) : Option (Int32) := fX8_leastAcross_38_b50 k5 v1 v4 v3 h
set_option maxRecDepth 100000 in
set_option maxHeartbeats 4000000 in
theorem BX8_leastAcross_38_b47 (G : mv_G) (d D : Nat) (hD : d + 0 ≤ D) (P : Int32 → Prop) (k5 : Int32 → Int32 → Int32 → mv_H → Option (Int32)) (h : mv_H) (hk5 : ∀ (v1 : Int32) (v2 : Int32) (v3 : Int32), mv_sat (k5 v1 v2 v3 h) P → mv_MW G mX8_leastAcross (mv_rm D mX8_leastAcross) (mv_Zf G mX8_leastAcross (mv_qi mv_SH h P)) 0 0 5 [.ref 38, .int v1, .int v2, .int v3, .float 0] [] mv_SH h) (v1 : Int32) (v3 : Int32) (v4 : Int32) (hs : mv_sat (fX8_leastAcross_38_b47 k5 v1 v3 v4 h) P) : mv_MW G mX8_leastAcross (mv_rm D mX8_leastAcross) (mv_Zf G mX8_leastAcross (mv_qi mv_SH h P)) 0 0 47 [.ref 38, .int v1, .float 0, .int v3, .int v4] [] mv_SH h := by
  unfold fX8_leastAcross_38_b47 at hs
  refine mv_iload dX8_leastAcross_47 rfl ?_
  refine mv_istore_n (lv' := [.ref 38, .int v1, .int v4, .int v3, .int v4]) dX8_leastAcross_49 (Nat.le_of_ble_eq_true rfl) rfl rfl ?_
  exact mv_weak (lv' := [.ref 38, .int v1, .int v4, .int v3, .float 0]) (mv_s (mv_s (mv_s (mv_s (mv_k mv_n))))) (BX8_leastAcross_38_b50 G d D (by omega) P _ _ hk5 _ _ _ hs)
noncomputable def fX8_leastAcross_38_b5 : Nat → Int32 → Int32 → Int32 → mv_H → Option (Int32)
  | 0, _, _, _, _ => none
  | n + 1, v1, v2, v3, h => if v3 < 6 then ((fX8_acrossOff_38 v3 h).bind fun r618 => (fX8_lengthOff_38 v3 h).bind fun r619 => if v1 < r619 then fX8_leastAcross_38_b50 (fX8_leastAcross_38_b5 n) v1 v2 v3 h else if 150 < r618 then fX8_leastAcross_38_b50 (fX8_leastAcross_38_b5 n) v1 v2 v3 h else if v2 = (-6) then fX8_leastAcross_38_b47 (fX8_leastAcross_38_b5 n) v1 v3 r618 h else if r618 < v2 then fX8_leastAcross_38_b47 (fX8_leastAcross_38_b5 n) v1 v3 r618 h else fX8_leastAcross_38_b50 (fX8_leastAcross_38_b5 n) v1 v2 v3 h) else some v2
set_option maxRecDepth 100000 in
set_option maxHeartbeats 4000000 in
theorem BX8_leastAcross_38_b5 (G : mv_G) (d D : Nat) (hD : d + 3 ≤ D) (P : Int32 → Prop) (h : mv_H) : ∀ (n : Nat) (v1 : Int32) (v2 : Int32) (v3 : Int32), mv_sat (fX8_leastAcross_38_b5 n v1 v2 v3 h) P → mv_MW G mX8_leastAcross (mv_rm D mX8_leastAcross) (mv_Zf G mX8_leastAcross (mv_qi mv_SH h P)) 0 0 5 [.ref 38, .int v1, .int v2, .int v3, .float 0] [] mv_SH h := by
  intro n
  induction n with
  | zero =>
    intro v1 v2 v3 hs
    unfold fX8_leastAcross_38_b5 at hs
    exact (mv_sat_none hs).elim
  | succ n ih =>
    intro v1 v2 v3 hs
    unfold fX8_leastAcross_38_b5 at hs
    refine mv_iload_n dX8_leastAcross_5 rfl ?_
    refine mv_bipush 6 dX8_leastAcross_6 (by decide) ?_
    refine mv_icmp_ge dX8_leastAcross_8 hs (fun _ hs => ?_) (fun _ hs => ?_)
    · refine mv_aload_n dX8_leastAcross_11 rfl ?_
      refine mv_iload_n dX8_leastAcross_12 rfl ?_
      refine mv_cV (st := []) dX8_leastAcross_13 kk_X8_69 (TX8_acrossOff_38 G d _ _ _ (mv_sat_bind hs)) so_38 vc_8 rfl rfl (Nat.le_of_ble_eq_true rfl) (by omega) rfl ⟨Nat.zero_le _, Nat.zero_le _⟩ (mv_ki fun r618 hs => ?_)
      refine mv_istore (lv' := [.ref 38, .int v1, .int v2, .int v3, .int r618]) dX8_leastAcross_16 (Nat.le_of_ble_eq_true rfl) rfl rfl ?_
      refine mv_aload_n dX8_leastAcross_18 rfl ?_
      refine mv_iload_n dX8_leastAcross_19 rfl ?_
      refine mv_cV (st := []) dX8_leastAcross_20 kk_X8_72 (TX8_lengthOff_38 G d _ _ _ (mv_sat_bind hs)) so_38 vc_8 rfl rfl (Nat.le_of_ble_eq_true rfl) (by omega) rfl ⟨Nat.zero_le _, Nat.zero_le _⟩ (mv_ki fun r619 hs => ?_)
      refine mv_iload_n dX8_leastAcross_23 rfl ?_
      refine mv_icmp_gt dX8_leastAcross_24 hs (fun _ hs => ?_) (fun _ hs => ?_)
      · exact mv_weak (lv' := [.ref 38, .int v1, .int v2, .int v3, .float 0]) (mv_s (mv_s (mv_s (mv_s (mv_k mv_n))))) (BX8_leastAcross_38_b50 G d D (by omega) P _ _ ih _ _ _ hs)
      · refine mv_iload dX8_leastAcross_27 rfl ?_
        refine mv_sipush 150 dX8_leastAcross_29 (by decide) ?_
        refine mv_icmp_gt dX8_leastAcross_32 hs (fun _ hs => ?_) (fun _ hs => ?_)
        · exact mv_weak (lv' := [.ref 38, .int v1, .int v2, .int v3, .float 0]) (mv_s (mv_s (mv_s (mv_s (mv_k mv_n))))) (BX8_leastAcross_38_b50 G d D (by omega) P _ _ ih _ _ _ hs)
        · refine mv_iload_n dX8_leastAcross_35 rfl ?_
          refine mv_bipush (-6) dX8_leastAcross_36 (by decide) ?_
          refine mv_icmp_eq dX8_leastAcross_38 hs (fun _ hs => ?_) (fun _ hs => ?_)
          · exact mv_weak (lv' := [.ref 38, .int v1, .float 0, .int v3, .int r618]) (mv_s (mv_s (mv_k (mv_s (mv_s mv_n))))) (BX8_leastAcross_38_b47 G d D (by omega) P _ _ ih _ _ _ hs)
          · refine mv_iload dX8_leastAcross_41 rfl ?_
            refine mv_iload_n dX8_leastAcross_43 rfl ?_
            refine mv_icmp_ge dX8_leastAcross_44 hs (fun _ hs => ?_) (fun _ hs => ?_)
            · exact mv_weak (lv' := [.ref 38, .int v1, .float 0, .int v3, .int r618]) (mv_s (mv_s (mv_k (mv_s (mv_s mv_n))))) (BX8_leastAcross_38_b47 G d D (by omega) P _ _ ih _ _ _ hs)
            · exact mv_weak (lv' := [.ref 38, .int v1, .int v2, .int v3, .float 0]) (mv_s (mv_s (mv_s (mv_s (mv_k mv_n))))) (BX8_leastAcross_38_b50 G d D (by omega) P _ _ ih _ _ _ hs)
    · refine mv_iload_n dX8_leastAcross_56 rfl ?_
      exact mv_iret dX8_leastAcross_57 rfl ⟨_, rfl, rfl, rfl, mv_sat_some hs⟩
noncomputable def fX8_leastAcross_38 (p0 : Int32) (h : mv_H) : Option (Int32) := fX8_leastAcross_38_b5 mv_F p0 (-6) 0 h
set_option maxRecDepth 100000 in
set_option maxHeartbeats 4000000 in
theorem TX8_leastAcross_38 (G : mv_G) (d : Nat) (P : Int32 → Prop) (p0 : Int32) (h : mv_H) (hs : mv_sat (fX8_leastAcross_38 p0 h) P) : mv_met G (d + 3) mX8_leastAcross [.ref 38, .int p0] mv_SH h (mv_qi mv_SH h P) := by
  unfold fX8_leastAcross_38 at hs
  obtain ⟨D, hDe⟩ : ∃ D, D = d + 3 := ⟨_, rfl⟩
  rw [← hDe]
  have hD : d + 3 ≤ D := by omega
  refine mv_enter (lv := [.ref 38, .int p0, .float 0, .float 0, .float 0]) 3 (by decide) (by decide +kernel) rfl (Nat.le_of_ble_eq_true rfl) ?_
  refine mv_bipush (-6) dX8_leastAcross_0 (by decide) ?_
  refine mv_istore_n (lv' := [.ref 38, .int p0, .int (-6), .float 0, .float 0]) dX8_leastAcross_2 (Nat.le_of_ble_eq_true rfl) rfl rfl ?_
  refine mv_iconst 0 dX8_leastAcross_3 (by decide) ?_
  refine mv_istore_n (lv' := [.ref 38, .int p0, .int (-6), .int 0, .float 0]) dX8_leastAcross_4 (Nat.le_of_ble_eq_true rfl) rfl rfl ?_
  exact (BX8_leastAcross_38_b5 G d D (by omega) P _ _ _ _ _ hs)
noncomputable def fX9_narrow_0 (p0 : Int32) (p1 : Int32) (h : mv_H) : Option (Int32 × mv_H) := (fX7_has_2 p0 h).bind fun r615 => if r615 = 0 then some ((-1), h) else (fX9_isWithin p1 (1 : Int32) (300 : Int32)).bind fun r616 => if r616 = 0 then some ((-2), h) else (fX9_wrapOf_0 p0 h).bind fun r617 => (fX8_leastAcross_38 p1 r617).bind fun r620 => some (r620, r617)
set_option maxRecDepth 100000 in
set_option maxHeartbeats 4000000 in
theorem TX9_narrow_0 (G : mv_G) (d : Nat) (P : Int32 × mv_H → Prop) (p0 : Int32) (p1 : Int32) (h : mv_H) (hs : mv_sat (fX9_narrow_0 p0 p1 h) P) : mv_met G (d + 4) mX9_narrow [.ref 0, .int p0, .int p1] mv_SH h (mv_qI mv_SH P) := by
  unfold fX9_narrow_0 at hs
  obtain ⟨D, hDe⟩ : ∃ D, D = d + 4 := ⟨_, rfl⟩
  rw [← hDe]
  have hD : d + 4 ≤ D := by omega
  refine mv_enter (lv := [.ref 0, .int p0, .int p1]) 0 (by decide) (by decide +kernel) rfl (Nat.le_of_ble_eq_true rfl) ?_
  refine mv_aload_n dX9_narrow_0 rfl ?_
  refine mv_getr dX9_narrow_1 kf_X9_10 gf_0_0 ?_
  refine mv_getr dX9_narrow_4 kf_X9_64 gf_1_0 ?_
  refine mv_iload_n dX9_narrow_7 rfl ?_
  refine mv_cV (st := []) dX9_narrow_8 kk_X9_100 (TX7_has_2 G d _ _ _ (mv_sat_bind hs)) so_2 vc_7 rfl rfl (Nat.le_of_ble_eq_true rfl) (by omega) rfl ⟨Nat.zero_le _, Nat.zero_le _⟩ (mv_ki fun r615 hs => ?_)
  refine mv_if_ne dX9_narrow_11 hs (fun _ hs => ?_) (fun _ hs => ?_)
  · refine mv_iconst (-1) dX9_narrow_14 (by decide) ?_
    exact mv_iret dX9_narrow_15 rfl ⟨((-1), h), rfl, rfl, rfl, mv_sat_some hs⟩
  · refine mv_iload_n dX9_narrow_16 rfl ?_
    refine mv_iconst 1 dX9_narrow_17 (by decide) ?_
    refine mv_sipush 300 dX9_narrow_18 (by decide) ?_
    refine mv_cS (st := []) dX9_narrow_21 kk_X9_79 (TX9_isWithin G d _ _ _ _ _ (mv_sat_bind hs)) rfl rfl (Nat.le_of_ble_eq_true rfl) (by omega) rfl ⟨Nat.zero_le _, Nat.zero_le _⟩ (mv_ki fun r616 hs => ?_)
    refine mv_if_ne dX9_narrow_24 hs (fun _ hs => ?_) (fun _ hs => ?_)
    · refine mv_bipush (-2) dX9_narrow_27 (by decide) ?_
      exact mv_iret dX9_narrow_29 rfl ⟨((-2), h), rfl, rfl, rfl, mv_sat_some hs⟩
    · refine mv_aload_n dX9_narrow_30 rfl ?_
      refine mv_iload_n dX9_narrow_31 rfl ?_
      refine mv_cV (st := []) dX9_narrow_32 kk_X9_144 (TX9_wrapOf_0 G d _ _ _ (mv_sat_bind hs)) so_0 vc_9 rfl rfl (Nat.le_of_ble_eq_true rfl) (by omega) rfl ⟨Nat.zero_le _, Nat.zero_le _⟩ (mv_kc fun r617 hs => ?_)
      refine mv_iload_n dX9_narrow_35 rfl ?_
      refine mv_cV (st := []) dX9_narrow_36 kk_X9_214 (TX8_leastAcross_38 G d _ _ _ (mv_sat_bind hs)) so_38 vc_8 rfl rfl (Nat.le_of_ble_eq_true rfl) (by omega) rfl ⟨Nat.zero_le _, Nat.zero_le _⟩ (mv_ki fun r620 hs => ?_)
      exact mv_iret dX9_narrow_39 rfl ⟨(r620, r617), rfl, rfl, rfl, mv_sat_some hs⟩
noncomputable def fX10_narrow_55_b73 (k36 : Int32 → Int32 → Int32 → mv_H → Option (Int32 × mv_H)) (v2 : Int32) (v4 : Int32) (s0 : Int32) (h : mv_H) : Option (Int32 × mv_H) := k36 v2 s0 (v4 + 1) h
set_option maxRecDepth 100000 in
set_option maxHeartbeats 4000000 in
theorem BX10_narrow_55_b73 (G : mv_G) (d D : Nat) (hD : d + 0 ≤ D) (P : Int32 × mv_H → Prop) (k36 : Int32 → Int32 → Int32 → mv_H → Option (Int32 × mv_H)) (hk36 : ∀ (v2 : Int32) (v3 : Int32) (v4 : Int32) (h : mv_H), mv_sat (k36 v2 v3 v4 h) P → mv_MW G mX10_narrow (mv_rm D mX10_narrow) (mv_Zf G mX10_narrow (mv_qI mv_SH P)) 0 0 36 [.ref 55, .float 0, .int v2, .int v3, .int v4] [] mv_SH h) (v2 : Int32) (v4 : Int32) (s0 : Int32) (h : mv_H) (hs : mv_sat (fX10_narrow_55_b73 k36 v2 v4 s0 h) P) : mv_MW G mX10_narrow (mv_rm D mX10_narrow) (mv_Zf G mX10_narrow (mv_qI mv_SH P)) 0 0 73 [.ref 55, .float 0, .int v2, .float 0, .int v4] [.int s0] mv_SH h := by
  unfold fX10_narrow_55_b73 at hs
  refine mv_istore_n (lv' := [.ref 55, .float 0, .int v2, .int s0, .int v4]) dX10_narrow_73 (Nat.le_of_ble_eq_true rfl) rfl rfl ?_
  refine mv_iinc (lv' := [.ref 55, .float 0, .int v2, .int s0, .int (v4 + 1)]) 1 dX10_narrow_74 rfl (by decide) (Nat.le_of_ble_eq_true rfl) rfl rfl ?_
  refine mv_goto dX10_narrow_77 ?_
  exact (hk36 _ _ _ _ hs)
noncomputable def fX10_narrow_55_b72 (k36 : Int32 → Int32 → Int32 → mv_H → Option (Int32 × mv_H)) (v2 : Int32) (v3 : Int32) (v4 : Int32) (h : mv_H) : Option (Int32 × mv_H) := fX10_narrow_55_b73 k36 v2 v4 v3 h
set_option maxRecDepth 100000 in
set_option maxHeartbeats 4000000 in
theorem BX10_narrow_55_b72 (G : mv_G) (d D : Nat) (hD : d + 0 ≤ D) (P : Int32 × mv_H → Prop) (k36 : Int32 → Int32 → Int32 → mv_H → Option (Int32 × mv_H)) (hk36 : ∀ (v2 : Int32) (v3 : Int32) (v4 : Int32) (h : mv_H), mv_sat (k36 v2 v3 v4 h) P → mv_MW G mX10_narrow (mv_rm D mX10_narrow) (mv_Zf G mX10_narrow (mv_qI mv_SH P)) 0 0 36 [.ref 55, .float 0, .int v2, .int v3, .int v4] [] mv_SH h) (v2 : Int32) (v3 : Int32) (v4 : Int32) (h : mv_H) (hs : mv_sat (fX10_narrow_55_b72 k36 v2 v3 v4 h) P) : mv_MW G mX10_narrow (mv_rm D mX10_narrow) (mv_Zf G mX10_narrow (mv_qI mv_SH P)) 0 0 72 [.ref 55, .float 0, .int v2, .int v3, .int v4] [] mv_SH h := by
  unfold fX10_narrow_55_b72 at hs
  refine mv_iload_n dX10_narrow_72 rfl ?_
  exact mv_weak (lv' := [.ref 55, .float 0, .int v2, .float 0, .int v4]) (mv_s (mv_s (mv_s (mv_k (mv_s mv_n))))) (BX10_narrow_55_b73 G d D (by omega) P _ hk36 _ _ _ _ hs)
noncomputable def fX10_narrow_55_b36 : Nat → Int32 → Int32 → Int32 → mv_H → Option (Int32 × mv_H)
  | 0, _, _, _, _ => none
  | n + 1, v2, v3, v4, h => if v4 < 6 then ((fX10_lengthBy_55 v4 h).bind fun r625 => if v2 < r625 then fX10_narrow_55_b72 (fX10_narrow_55_b36 n) v2 v3 v4 h else (fX10_acrossBy_55 v4 h).bind fun r626 => if r626 < v3 then ((fX10_acrossBy_55 v4 h).bind fun r627 => fX10_narrow_55_b73 (fX10_narrow_55_b36 n) v2 v4 r627 h) else fX10_narrow_55_b72 (fX10_narrow_55_b36 n) v2 v3 v4 h) else if 150 < v3 then some ((-6), h) else some (v3, h)
set_option maxRecDepth 100000 in
set_option maxHeartbeats 4000000 in
theorem BX10_narrow_55_b36 (G : mv_G) (d D : Nat) (hD : d + 1 ≤ D) (P : Int32 × mv_H → Prop) : ∀ (n : Nat) (v2 : Int32) (v3 : Int32) (v4 : Int32) (h : mv_H), mv_sat (fX10_narrow_55_b36 n v2 v3 v4 h) P → mv_MW G mX10_narrow (mv_rm D mX10_narrow) (mv_Zf G mX10_narrow (mv_qI mv_SH P)) 0 0 36 [.ref 55, .float 0, .int v2, .int v3, .int v4] [] mv_SH h := by
  intro n
  induction n with
  | zero =>
    intro v2 v3 v4 h hs
    unfold fX10_narrow_55_b36 at hs
    exact (mv_sat_none hs).elim
  | succ n ih =>
    intro v2 v3 v4 h hs
    unfold fX10_narrow_55_b36 at hs
    refine mv_iload dX10_narrow_36 rfl ?_
    refine mv_bipush 6 dX10_narrow_38 (by decide) ?_
    refine mv_icmp_ge dX10_narrow_40 hs (fun _ hs => ?_) (fun _ hs => ?_)
    · refine mv_aload_n dX10_narrow_43 rfl ?_
      refine mv_iload dX10_narrow_44 rfl ?_
      refine mv_cV (st := []) dX10_narrow_46 kk_X10_241 (TX10_lengthBy_55 G d _ _ _ (mv_sat_bind hs)) so_55 vc_10 rfl rfl (Nat.le_of_ble_eq_true rfl) (by omega) rfl ⟨Nat.zero_le _, Nat.zero_le _⟩ (mv_ki fun r625 hs => ?_)
      refine mv_iload_n dX10_narrow_49 rfl ?_
      refine mv_icmp_gt dX10_narrow_50 hs (fun _ hs => ?_) (fun _ hs => ?_)
      · exact (BX10_narrow_55_b72 G d D (by omega) P _ ih _ _ _ _ hs)
      · refine mv_aload_n dX10_narrow_53 rfl ?_
        refine mv_iload dX10_narrow_54 rfl ?_
        refine mv_cV (st := []) dX10_narrow_56 kk_X10_238 (TX10_acrossBy_55 G d _ _ _ (mv_sat_bind hs)) so_55 vc_10 rfl rfl (Nat.le_of_ble_eq_true rfl) (by omega) rfl ⟨Nat.zero_le _, Nat.zero_le _⟩ (mv_ki fun r626 hs => ?_)
        refine mv_iload_n dX10_narrow_59 rfl ?_
        refine mv_icmp_ge dX10_narrow_60 hs (fun _ hs => ?_) (fun _ hs => ?_)
        · refine mv_aload_n dX10_narrow_63 rfl ?_
          refine mv_iload dX10_narrow_64 rfl ?_
          refine mv_cV (st := []) dX10_narrow_66 kk_X10_238 (TX10_acrossBy_55 G d _ _ _ (mv_sat_bind hs)) so_55 vc_10 rfl rfl (Nat.le_of_ble_eq_true rfl) (by omega) rfl ⟨Nat.zero_le _, Nat.zero_le _⟩ (mv_ki fun r627 hs => ?_)
          refine mv_goto dX10_narrow_69 ?_
          exact mv_weak (lv' := [.ref 55, .float 0, .int v2, .float 0, .int v4]) (mv_s (mv_s (mv_s (mv_k (mv_s mv_n))))) (BX10_narrow_55_b73 G d D (by omega) P _ ih _ _ _ _ hs)
        · exact (BX10_narrow_55_b72 G d D (by omega) P _ ih _ _ _ _ hs)
    · refine mv_iload_n dX10_narrow_80 rfl ?_
      refine mv_sipush 150 dX10_narrow_81 (by decide) ?_
      refine mv_icmp_le dX10_narrow_84 hs (fun _ hs => ?_) (fun _ hs => ?_)
      · refine mv_bipush (-6) dX10_narrow_87 (by decide) ?_
        refine mv_goto dX10_narrow_89 ?_
        exact mv_iret dX10_narrow_93 rfl ⟨((-6), h), rfl, rfl, rfl, mv_sat_some hs⟩
      · refine mv_iload_n dX10_narrow_92 rfl ?_
        exact mv_iret dX10_narrow_93 rfl ⟨(v3, h), rfl, rfl, rfl, mv_sat_some hs⟩
noncomputable def fX10_narrow_55 (p0 : Int32) (p1 : Int32) (h : mv_H) : Option (Int32 × mv_H) := (fX10_isBox_55 p0 h).bind fun r622 => if r622 = 0 then some ((-1), h) else (fX10_in (Int32.toInt64 p1) (1 : Int64) (300 : Int64)).bind fun r623 => if r623 = 0 then some ((-2), h) else (fX10_look_55 p0 h).bind fun r624 => fX10_narrow_55_b36 mv_F p1 1000000000 0 r624
set_option maxRecDepth 100000 in
set_option maxHeartbeats 4000000 in
theorem TX10_narrow_55 (G : mv_G) (d : Nat) (P : Int32 × mv_H → Prop) (p0 : Int32) (p1 : Int32) (h : mv_H) (hs : mv_sat (fX10_narrow_55 p0 p1 h) P) : mv_met G (d + 3) mX10_narrow [.ref 55, .int p0, .int p1] mv_SH h (mv_qI mv_SH P) := by
  unfold fX10_narrow_55 at hs
  obtain ⟨D, hDe⟩ : ∃ D, D = d + 3 := ⟨_, rfl⟩
  rw [← hDe]
  have hD : d + 3 ≤ D := by omega
  refine mv_enter (lv := [.ref 55, .int p0, .int p1, .float 0, .float 0]) 2 (by decide) (by decide +kernel) rfl (Nat.le_of_ble_eq_true rfl) ?_
  refine mv_aload_n dX10_narrow_0 rfl ?_
  refine mv_iload_n dX10_narrow_1 rfl ?_
  refine mv_cV (st := []) dX10_narrow_2 kk_X10_146 (TX10_isBox_55 G d _ _ _ (mv_sat_bind hs)) so_55 vc_10 rfl rfl (Nat.le_of_ble_eq_true rfl) (by omega) rfl ⟨Nat.zero_le _, Nat.zero_le _⟩ (mv_ki fun r622 hs => ?_)
  refine mv_if_ne dX10_narrow_5 hs (fun _ hs => ?_) (fun _ hs => ?_)
  · refine mv_iconst (-1) dX10_narrow_8 (by decide) ?_
    exact mv_iret dX10_narrow_9 rfl ⟨((-1), h), rfl, rfl, rfl, mv_sat_some hs⟩
  · refine mv_iload_n dX10_narrow_10 rfl ?_
    refine mv_i2l dX10_narrow_11 ?_
    refine mv_lconst 1 dX10_narrow_12 rfl ?_
    refine mv_ldc2 dX10_narrow_13 kn_X10_253 ?_
    refine mv_cS (st := []) dX10_narrow_16 kk_X10_104 (TX10_in G d _ _ _ _ _ (mv_sat_bind hs)) rfl rfl (Nat.le_of_ble_eq_true rfl) (by omega) rfl ⟨Nat.zero_le _, Nat.zero_le _⟩ (mv_ki fun r623 hs => ?_)
    refine mv_if_ne dX10_narrow_19 hs (fun _ hs => ?_) (fun _ hs => ?_)
    · refine mv_bipush (-2) dX10_narrow_22 (by decide) ?_
      exact mv_iret dX10_narrow_24 rfl ⟨((-2), h), rfl, rfl, rfl, mv_sat_some hs⟩
    · refine mv_aload_n dX10_narrow_25 rfl ?_
      refine mv_iload_n dX10_narrow_26 rfl ?_
      refine mv_cV (st := []) dX10_narrow_27 kk_X10_209 (TX10_look_55 G d _ _ _ (mv_sat_bind hs)) so_55 vc_10 rfl rfl (Nat.le_of_ble_eq_true rfl) (by omega) rfl ⟨Nat.zero_le _, Nat.zero_le _⟩ (mv_kv fun r624 hs => ?_)
      refine mv_ldc dX10_narrow_30 kn_X10_252 ?_
      refine mv_istore_n (lv' := [.ref 55, .int p0, .int p1, .int 1000000000, .float 0]) dX10_narrow_32 (Nat.le_of_ble_eq_true rfl) rfl rfl ?_
      refine mv_iconst 0 dX10_narrow_33 (by decide) ?_
      refine mv_istore (lv' := [.ref 55, .int p0, .int p1, .int 1000000000, .int 0]) dX10_narrow_34 (Nat.le_of_ble_eq_true rfl) rfl rfl ?_
      exact mv_weak (lv' := [.ref 55, .float 0, .int p1, .int 1000000000, .int 0]) (mv_s (mv_k (mv_s (mv_s (mv_s mv_n))))) (BX10_narrow_55_b36 G d D (by omega) P _ _ _ _ _ hs)
noncomputable def fX6_gather_39_6_b76 (k2 : Int32 → Int32 → mv_H → Option (mv_H)) (v2 : Int32) (v3 : Int32) (s0 : Int32) (s1 : Int32) (h : mv_H) : Option (mv_H) := if mv_in s1 6 then mv_let (mv_u h 40 s1.toNatClampNeg s0) fun h636 : mv_H => (k2 v2 (v3 + 1) h636) else none
set_option maxRecDepth 100000 in
set_option maxHeartbeats 4000000 in
theorem BX6_gather_39_6_b76 (G : mv_G) (d D : Nat) (hD : d + 0 ≤ D) (P : mv_H → Prop) (k2 : Int32 → Int32 → mv_H → Option (mv_H)) (hk2 : ∀ (v2 : Int32) (v3 : Int32) (h : mv_H), mv_sat (k2 v2 v3 h) P → mv_MW G mX6_gather (mv_rm D mX6_gather) (mv_Zf G mX6_gather (mv_qv mv_SH P)) 0 0 2 [.ref 39, .ref 6, .int v2, .int v3, .float 0, .float 0, .float 0, .float 0] [] mv_SH h) (v2 : Int32) (v3 : Int32) (s0 : Int32) (s1 : Int32) (h : mv_H) (hs : mv_sat (fX6_gather_39_6_b76 k2 v2 v3 s0 s1 h) P) : mv_MW G mX6_gather (mv_rm D mX6_gather) (mv_Zf G mX6_gather (mv_qv mv_SH P)) 0 0 76 [.ref 39, .ref 6, .int v2, .int v3, .float 0, .float 0, .float 0, .float 0] [.int s0, .int s1, .ref 40] mv_SH h := by
  unfold fX6_gather_39_6_b76 at hs
  refine mv_iastore dX6_gather_76 so_40 hs (fun hs => ?_)
  refine mv_nameH hs (fun h636 hs => ?_)
  refine mv_iinc (lv' := [.ref 39, .ref 6, .int v2, .int (v3 + 1), .float 0, .float 0, .float 0, .float 0]) 1 dX6_gather_77 rfl (by decide) (Nat.le_of_ble_eq_true rfl) rfl rfl ?_
  refine mv_goto dX6_gather_80 ?_
  exact (hk2 _ _ _ hs)
noncomputable def fX6_gather_39_6_b50 (k2 : Int32 → Int32 → mv_H → Option (mv_H)) (v2 : Int32) (v3 : Int32) (v6 : Int32) (s0 : Int32) (h : mv_H) : Option (mv_H) := (fX7_has_6 v3 h).bind fun r635 => if r635 = 0 then fX6_gather_39_6_b76 k2 v2 v3 0 v3 h else fX6_gather_39_6_b76 k2 v2 v3 (mv_max v6 s0) v3 h
set_option maxRecDepth 100000 in
set_option maxHeartbeats 4000000 in
theorem BX6_gather_39_6_b50 (G : mv_G) (d D : Nat) (hD : d + 2 ≤ D) (P : mv_H → Prop) (k2 : Int32 → Int32 → mv_H → Option (mv_H)) (hk2 : ∀ (v2 : Int32) (v3 : Int32) (h : mv_H), mv_sat (k2 v2 v3 h) P → mv_MW G mX6_gather (mv_rm D mX6_gather) (mv_Zf G mX6_gather (mv_qv mv_SH P)) 0 0 2 [.ref 39, .ref 6, .int v2, .int v3, .float 0, .float 0, .float 0, .float 0] [] mv_SH h) (v2 : Int32) (v3 : Int32) (v6 : Int32) (s0 : Int32) (h : mv_H) (hs : mv_sat (fX6_gather_39_6_b50 k2 v2 v3 v6 s0 h) P) : mv_MW G mX6_gather (mv_rm D mX6_gather) (mv_Zf G mX6_gather (mv_qv mv_SH P)) 0 0 50 [.ref 39, .ref 6, .int v2, .int v3, .float 0, .float 0, .int v6, .float 0] [.int s0] mv_SH h := by
  unfold fX6_gather_39_6_b50 at hs
  refine mv_istore (lv' := [.ref 39, .ref 6, .int v2, .int v3, .float 0, .float 0, .int v6, .int s0]) dX6_gather_50 (Nat.le_of_ble_eq_true rfl) rfl rfl ?_
  refine mv_aload_n dX6_gather_52 rfl ?_
  refine mv_getr dX6_gather_53 kf_X6_9 gf_39_0 ?_
  refine mv_iload_n dX6_gather_56 rfl ?_
  refine mv_aload_n dX6_gather_57 rfl ?_
  refine mv_iload_n dX6_gather_58 rfl ?_
  refine mv_cV (st := [.int v3, .ref 40]) dX6_gather_59 kk_X6_21 (TX7_has_6 G d _ _ _ (mv_sat_bind hs)) so_6 vc_7 rfl rfl (Nat.le_of_ble_eq_true rfl) (by omega) rfl ⟨Nat.zero_le _, Nat.zero_le _⟩ (mv_ki fun r635 hs => ?_)
  refine mv_if_eq dX6_gather_62 hs (fun _ hs => ?_) (fun _ hs => ?_)
  · refine mv_iconst 0 dX6_gather_75 (by decide) ?_
    exact mv_weak (lv' := [.ref 39, .ref 6, .int v2, .int v3, .float 0, .float 0, .float 0, .float 0]) (mv_s (mv_s (mv_s (mv_s (mv_s (mv_s (mv_k (mv_k mv_n)))))))) (BX6_gather_39_6_b76 G d D (by omega) P _ hk2 _ _ _ _ _ hs)
  · refine mv_iload dX6_gather_65 rfl ?_
    refine mv_iload dX6_gather_67 rfl ?_
    refine mv_mmax dX6_gather_69 kx_X6_25 kx_max_s kx_math kx_max_c (Nat.le_of_ble_eq_true rfl) (by omega) ⟨Nat.zero_le _, Nat.zero_le _⟩ ?_
    refine mv_goto dX6_gather_72 ?_
    exact mv_weak (lv' := [.ref 39, .ref 6, .int v2, .int v3, .float 0, .float 0, .float 0, .float 0]) (mv_s (mv_s (mv_s (mv_s (mv_s (mv_s (mv_k (mv_k mv_n)))))))) (BX6_gather_39_6_b76 G d D (by omega) P _ hk2 _ _ _ _ _ hs)
noncomputable def fX6_gather_39_6_b36 (k2 : Int32 → Int32 → mv_H → Option (mv_H)) (v2 : Int32) (v3 : Int32) (v4 : Int32) (v5 : Int32) (s0 : Int32) (h : mv_H) : Option (mv_H) := if v4 < v2 then fX6_gather_39_6_b50 k2 v2 v3 s0 0 h else fX6_gather_39_6_b50 k2 v2 v3 s0 v5 h
set_option maxRecDepth 100000 in
set_option maxHeartbeats 4000000 in
theorem BX6_gather_39_6_b36 (G : mv_G) (d D : Nat) (hD : d + 2 ≤ D) (P : mv_H → Prop) (k2 : Int32 → Int32 → mv_H → Option (mv_H)) (hk2 : ∀ (v2 : Int32) (v3 : Int32) (h : mv_H), mv_sat (k2 v2 v3 h) P → mv_MW G mX6_gather (mv_rm D mX6_gather) (mv_Zf G mX6_gather (mv_qv mv_SH P)) 0 0 2 [.ref 39, .ref 6, .int v2, .int v3, .float 0, .float 0, .float 0, .float 0] [] mv_SH h) (v2 : Int32) (v3 : Int32) (v4 : Int32) (v5 : Int32) (s0 : Int32) (h : mv_H) (hs : mv_sat (fX6_gather_39_6_b36 k2 v2 v3 v4 v5 s0 h) P) : mv_MW G mX6_gather (mv_rm D mX6_gather) (mv_Zf G mX6_gather (mv_qv mv_SH P)) 0 0 36 [.ref 39, .ref 6, .int v2, .int v3, .int v4, .int v5, .float 0, .float 0] [.int s0] mv_SH h := by
  unfold fX6_gather_39_6_b36 at hs
  refine mv_istore (lv' := [.ref 39, .ref 6, .int v2, .int v3, .int v4, .int v5, .int s0, .float 0]) dX6_gather_36 (Nat.le_of_ble_eq_true rfl) rfl rfl ?_
  refine mv_iload dX6_gather_38 rfl ?_
  refine mv_iload_n dX6_gather_40 rfl ?_
  refine mv_icmp_lt dX6_gather_41 hs (fun _ hs => ?_) (fun _ hs => ?_)
  · refine mv_iconst 0 dX6_gather_49 (by decide) ?_
    exact mv_weak (lv' := [.ref 39, .ref 6, .int v2, .int v3, .float 0, .float 0, .int s0, .float 0]) (mv_s (mv_s (mv_s (mv_s (mv_k (mv_k (mv_s (mv_s mv_n)))))))) (BX6_gather_39_6_b50 G d D (by omega) P _ hk2 _ _ _ _ _ hs)
  · refine mv_iload dX6_gather_44 rfl ?_
    refine mv_goto dX6_gather_46 ?_
    exact mv_weak (lv' := [.ref 39, .ref 6, .int v2, .int v3, .float 0, .float 0, .int s0, .float 0]) (mv_s (mv_s (mv_s (mv_s (mv_k (mv_k (mv_s (mv_s mv_n)))))))) (BX6_gather_39_6_b50 G d D (by omega) P _ hk2 _ _ _ _ _ hs)
noncomputable def fX6_gather_39_6_b2 : Nat → Int32 → Int32 → mv_H → Option (mv_H)
  | 0, _, _, _ => none
  | n + 1, v2, v3, h => if v3 < 6 then ((fX7_side_6 v3 (0 : Int32) h).bind fun r633 => (fX7_side_6 v3 (1 : Int32) h).bind fun r634 => if r634 < v2 then fX6_gather_39_6_b36 (fX6_gather_39_6_b2 n) v2 v3 r633 r634 0 h else fX6_gather_39_6_b36 (fX6_gather_39_6_b2 n) v2 v3 r633 r634 r633 h) else some h
set_option maxRecDepth 100000 in
set_option maxHeartbeats 4000000 in
theorem BX6_gather_39_6_b2 (G : mv_G) (d D : Nat) (hD : d + 2 ≤ D) (P : mv_H → Prop) : ∀ (n : Nat) (v2 : Int32) (v3 : Int32) (h : mv_H), mv_sat (fX6_gather_39_6_b2 n v2 v3 h) P → mv_MW G mX6_gather (mv_rm D mX6_gather) (mv_Zf G mX6_gather (mv_qv mv_SH P)) 0 0 2 [.ref 39, .ref 6, .int v2, .int v3, .float 0, .float 0, .float 0, .float 0] [] mv_SH h := by
  intro n
  induction n with
  | zero =>
    intro v2 v3 h hs
    unfold fX6_gather_39_6_b2 at hs
    exact (mv_sat_none hs).elim
  | succ n ih =>
    intro v2 v3 h hs
    unfold fX6_gather_39_6_b2 at hs
    refine mv_iload_n dX6_gather_2 rfl ?_
    refine mv_bipush 6 dX6_gather_3 (by decide) ?_
    refine mv_icmp_ge dX6_gather_5 hs (fun _ hs => ?_) (fun _ hs => ?_)
    · refine mv_aload_n dX6_gather_8 rfl ?_
      refine mv_iload_n dX6_gather_9 rfl ?_
      refine mv_iconst 0 dX6_gather_10 (by decide) ?_
      refine mv_cV (st := []) dX6_gather_11 kk_X6_15 (TX7_side_6 G d _ _ _ _ (mv_sat_bind hs)) so_6 vc_7 rfl rfl (Nat.le_of_ble_eq_true rfl) (by omega) rfl ⟨Nat.zero_le _, Nat.zero_le _⟩ (mv_ki fun r633 hs => ?_)
      refine mv_istore (lv' := [.ref 39, .ref 6, .int v2, .int v3, .int r633, .float 0, .float 0, .float 0]) dX6_gather_14 (Nat.le_of_ble_eq_true rfl) rfl rfl ?_
      refine mv_aload_n dX6_gather_16 rfl ?_
      refine mv_iload_n dX6_gather_17 rfl ?_
      refine mv_iconst 1 dX6_gather_18 (by decide) ?_
      refine mv_cV (st := []) dX6_gather_19 kk_X6_15 (TX7_side_6 G d _ _ _ _ (mv_sat_bind hs)) so_6 vc_7 rfl rfl (Nat.le_of_ble_eq_true rfl) (by omega) rfl ⟨Nat.zero_le _, Nat.zero_le _⟩ (mv_ki fun r634 hs => ?_)
      refine mv_istore (lv' := [.ref 39, .ref 6, .int v2, .int v3, .int r633, .int r634, .float 0, .float 0]) dX6_gather_22 (Nat.le_of_ble_eq_true rfl) rfl rfl ?_
      refine mv_iload dX6_gather_24 rfl ?_
      refine mv_iload_n dX6_gather_26 rfl ?_
      refine mv_icmp_lt dX6_gather_27 hs (fun _ hs => ?_) (fun _ hs => ?_)
      · refine mv_iconst 0 dX6_gather_35 (by decide) ?_
        exact (BX6_gather_39_6_b36 G d D (by omega) P _ ih _ _ _ _ _ _ hs)
      · refine mv_iload dX6_gather_30 rfl ?_
        refine mv_goto dX6_gather_32 ?_
        exact (BX6_gather_39_6_b36 G d D (by omega) P _ ih _ _ _ _ _ _ hs)
    · exact mv_vret dX6_gather_83 rfl ⟨_, rfl, rfl, rfl, mv_sat_some hs⟩
noncomputable def fX6_gather_39_6 (p0 : Int32) (h : mv_H) : Option (mv_H) := fX6_gather_39_6_b2 mv_F p0 0 h
set_option maxRecDepth 100000 in
set_option maxHeartbeats 4000000 in
theorem TX6_gather_39_6 (G : mv_G) (d : Nat) (P : mv_H → Prop) (p0 : Int32) (h : mv_H) (hs : mv_sat (fX6_gather_39_6 p0 h) P) : mv_met G (d + 2) mX6_gather [.ref 39, .ref 6, .int p0] mv_SH h (mv_qv mv_SH P) := by
  unfold fX6_gather_39_6 at hs
  obtain ⟨D, hDe⟩ : ∃ D, D = d + 2 := ⟨_, rfl⟩
  rw [← hDe]
  have hD : d + 2 ≤ D := by omega
  refine mv_enter (lv := [.ref 39, .ref 6, .int p0, .float 0, .float 0, .float 0, .float 0, .float 0]) 5 (by decide) (by decide +kernel) rfl (Nat.le_of_ble_eq_true rfl) ?_
  refine mv_iconst 0 dX6_gather_0 (by decide) ?_
  refine mv_istore_n (lv' := [.ref 39, .ref 6, .int p0, .int 0, .float 0, .float 0, .float 0, .float 0]) dX6_gather_1 (Nat.le_of_ble_eq_true rfl) rfl rfl ?_
  exact (BX6_gather_39_6_b2 G d D (by omega) P _ _ _ _ hs)
noncomputable def fX8_girth_38 (p0 : Int32) (h : mv_H) : Option (Int32) := (fX8_u_38 p0 h).bind fun r638 => (fX8_v_38 p0 h).bind fun r639 => some (2 * (r638 + r639))
set_option maxRecDepth 100000 in
set_option maxHeartbeats 4000000 in
theorem TX8_girth_38 (G : mv_G) (d : Nat) (P : Int32 → Prop) (p0 : Int32) (h : mv_H) (hs : mv_sat (fX8_girth_38 p0 h) P) : mv_met G (d + 1) mX8_girth [.ref 38, .int p0] mv_SH h (mv_qi mv_SH h P) := by
  unfold fX8_girth_38 at hs
  obtain ⟨D, hDe⟩ : ∃ D, D = d + 1 := ⟨_, rfl⟩
  rw [← hDe]
  have hD : d + 1 ≤ D := by omega
  refine mv_enter (lv := [.ref 38, .int p0]) 0 (by decide) (by decide +kernel) rfl (Nat.le_of_ble_eq_true rfl) ?_
  refine mv_iconst 2 dX8_girth_0 (by decide) ?_
  refine mv_aload_n dX8_girth_1 rfl ?_
  refine mv_iload_n dX8_girth_2 rfl ?_
  refine mv_cV (st := [.int 2]) dX8_girth_3 kk_X8_27 (TX8_u_38 G d _ _ _ (mv_sat_bind hs)) so_38 vc_8 rfl rfl (Nat.le_of_ble_eq_true rfl) (by omega) rfl ⟨Nat.zero_le _, Nat.zero_le _⟩ (mv_ki fun r638 hs => ?_)
  refine mv_aload_n dX8_girth_6 rfl ?_
  refine mv_iload_n dX8_girth_7 rfl ?_
  refine mv_cV (st := [.int r638, .int 2]) dX8_girth_8 kk_X8_31 (TX8_v_38 G d _ _ _ (mv_sat_bind hs)) so_38 vc_8 rfl rfl (Nat.le_of_ble_eq_true rfl) (by omega) rfl ⟨Nat.zero_le _, Nat.zero_le _⟩ (mv_ki fun r639 hs => ?_)
  refine mv_iadd dX8_girth_11 ?_
  refine mv_imul dX8_girth_12 ?_
  exact mv_iret dX8_girth_13 rfl ⟨_, rfl, rfl, rfl, mv_sat_some hs⟩
noncomputable def fX6_sumOf_39_b38 (k4 : Int32 → Int32 → Int32 → mv_H → Option (Int32)) (v1 : Int32) (v2 : Int32) (v3 : Int32) (h : mv_H) : Option (Int32) := k4 v1 v2 (v3 + 1) h
set_option maxRecDepth 100000 in
set_option maxHeartbeats 4000000 in
theorem BX6_sumOf_39_b38 (G : mv_G) (d D : Nat) (hD : d + 0 ≤ D) (P : Int32 → Prop) (k4 : Int32 → Int32 → Int32 → mv_H → Option (Int32)) (h : mv_H) (hk4 : ∀ (v1 : Int32) (v2 : Int32) (v3 : Int32), mv_sat (k4 v1 v2 v3 h) P → mv_MW G mX6_sumOf (mv_rm D mX6_sumOf) (mv_Zf G mX6_sumOf (mv_qi mv_SH h P)) 0 0 4 [.ref 39, .int v1, .int v2, .int v3] [] mv_SH h) (v1 : Int32) (v2 : Int32) (v3 : Int32) (hs : mv_sat (fX6_sumOf_39_b38 k4 v1 v2 v3 h) P) : mv_MW G mX6_sumOf (mv_rm D mX6_sumOf) (mv_Zf G mX6_sumOf (mv_qi mv_SH h P)) 0 0 38 [.ref 39, .int v1, .int v2, .int v3] [] mv_SH h := by
  unfold fX6_sumOf_39_b38 at hs
  refine mv_iinc (lv' := [.ref 39, .int v1, .int v2, .int (v3 + 1)]) 1 dX6_sumOf_38 rfl (by decide) (Nat.le_of_ble_eq_true rfl) rfl rfl ?_
  refine mv_goto dX6_sumOf_41 ?_
  exact (hk4 _ _ _ hs)
noncomputable def fX6_sumOf_39_b4 : Nat → Int32 → Int32 → Int32 → mv_H → Option (Int32)
  | 0, _, _, _, _ => none
  | n + 1, v1, v2, v3, h => if v3 < 6 then ((fX9_isIn v1 v3).bind fun r643 => if r643 = 0 then fX6_sumOf_39_b38 (fX6_sumOf_39_b4 n) v1 v2 v3 h else if mv_in v3 6 then (if (h 40 v3.toNatClampNeg) = 0 then some 0 else if mv_in v3 6 then (mv_let (v2 + (h 40 v3.toNatClampNeg)) fun x644 : Int32 => fX6_sumOf_39_b38 (fX6_sumOf_39_b4 n) v1 x644 v3 h) else none) else none) else some v2
set_option maxRecDepth 100000 in
set_option maxHeartbeats 4000000 in
theorem BX6_sumOf_39_b4 (G : mv_G) (d D : Nat) (hD : d + 1 ≤ D) (P : Int32 → Prop) (h : mv_H) : ∀ (n : Nat) (v1 : Int32) (v2 : Int32) (v3 : Int32), mv_sat (fX6_sumOf_39_b4 n v1 v2 v3 h) P → mv_MW G mX6_sumOf (mv_rm D mX6_sumOf) (mv_Zf G mX6_sumOf (mv_qi mv_SH h P)) 0 0 4 [.ref 39, .int v1, .int v2, .int v3] [] mv_SH h := by
  intro n
  induction n with
  | zero =>
    intro v1 v2 v3 hs
    unfold fX6_sumOf_39_b4 at hs
    exact (mv_sat_none hs).elim
  | succ n ih =>
    intro v1 v2 v3 hs
    unfold fX6_sumOf_39_b4 at hs
    refine mv_iload_n dX6_sumOf_4 rfl ?_
    refine mv_bipush 6 dX6_sumOf_5 (by decide) ?_
    refine mv_icmp_ge dX6_sumOf_7 hs (fun _ hs => ?_) (fun _ hs => ?_)
    · refine mv_iload_n dX6_sumOf_10 rfl ?_
      refine mv_iload_n dX6_sumOf_11 rfl ?_
      refine mv_cS (st := []) dX6_sumOf_12 kk_X6_39 (TX9_isIn G d _ _ _ _ (mv_sat_bind hs)) rfl rfl (Nat.le_of_ble_eq_true rfl) (by omega) rfl ⟨Nat.zero_le _, Nat.zero_le _⟩ (mv_ki fun r643 hs => ?_)
      refine mv_if_eq dX6_sumOf_15 hs (fun _ hs => ?_) (fun _ hs => ?_)
      · exact (BX6_sumOf_39_b38 G d D (by omega) P _ _ ih _ _ _ hs)
      · refine mv_aload_n dX6_sumOf_18 rfl ?_
        refine mv_getr dX6_sumOf_19 kf_X6_9 gf_39_0 ?_
        refine mv_iload_n dX6_sumOf_22 rfl ?_
        refine mv_iaload dX6_sumOf_23 so_40 hs (fun hs => ?_)
        refine mv_if_ne dX6_sumOf_24 hs (fun _ hs => ?_) (fun _ hs => ?_)
        · refine mv_iconst 0 dX6_sumOf_27 (by decide) ?_
          exact mv_iret dX6_sumOf_28 rfl ⟨_, rfl, rfl, rfl, mv_sat_some hs⟩
        · refine mv_iload_n dX6_sumOf_29 rfl ?_
          refine mv_aload_n dX6_sumOf_30 rfl ?_
          refine mv_getr dX6_sumOf_31 kf_X6_9 gf_39_0 ?_
          refine mv_iload_n dX6_sumOf_34 rfl ?_
          refine mv_iaload dX6_sumOf_35 so_40 hs (fun hs => ?_)
          refine mv_iadd dX6_sumOf_36 ?_
          refine mv_name hs (fun x644 hs => ?_)
          refine mv_istore_n (lv' := [.ref 39, .int v1, .int x644, .int v3]) dX6_sumOf_37 (Nat.le_of_ble_eq_true rfl) rfl rfl ?_
          exact (BX6_sumOf_39_b38 G d D (by omega) P _ _ ih _ _ _ hs)
    · refine mv_iload_n dX6_sumOf_44 rfl ?_
      exact mv_iret dX6_sumOf_45 rfl ⟨_, rfl, rfl, rfl, mv_sat_some hs⟩
noncomputable def fX6_sumOf_39 (p0 : Int32) (h : mv_H) : Option (Int32) := fX6_sumOf_39_b4 mv_F p0 0 0 h
set_option maxRecDepth 100000 in
set_option maxHeartbeats 4000000 in
theorem TX6_sumOf_39 (G : mv_G) (d : Nat) (P : Int32 → Prop) (p0 : Int32) (h : mv_H) (hs : mv_sat (fX6_sumOf_39 p0 h) P) : mv_met G (d + 1) mX6_sumOf [.ref 39, .int p0] mv_SH h (mv_qi mv_SH h P) := by
  unfold fX6_sumOf_39 at hs
  obtain ⟨D, hDe⟩ : ∃ D, D = d + 1 := ⟨_, rfl⟩
  rw [← hDe]
  have hD : d + 1 ≤ D := by omega
  refine mv_enter (lv := [.ref 39, .int p0, .float 0, .float 0]) 2 (by decide) (by decide +kernel) rfl (Nat.le_of_ble_eq_true rfl) ?_
  refine mv_iconst 0 dX6_sumOf_0 (by decide) ?_
  refine mv_istore_n (lv' := [.ref 39, .int p0, .int 0, .float 0]) dX6_sumOf_1 (Nat.le_of_ble_eq_true rfl) rfl rfl ?_
  refine mv_iconst 0 dX6_sumOf_2 (by decide) ?_
  refine mv_istore_n (lv' := [.ref 39, .int p0, .int 0, .int 0]) dX6_sumOf_3 (Nat.le_of_ble_eq_true rfl) rfl rfl ?_
  exact (BX6_sumOf_39_b4 G d D (by omega) P _ _ _ _ _ hs)
noncomputable def fX6_fewest_39_b53 (k6 : Int32 → Int32 → Int32 → Int32 → mv_H → Option (Int32)) (v1 : Int32) (v2 : Int32) (v3 : Int32) (v4 : Int32) (h : mv_H) : Option (Int32) := k6 v1 v2 v3 (v4 + 1) h
set_option maxRecDepth 100000 in
set_option maxHeartbeats 4000000 in
theorem BX6_fewest_39_b53 (G : mv_G) (d D : Nat) (hD : d + 0 ≤ D) (P : Int32 → Prop) (k6 : Int32 → Int32 → Int32 → Int32 → mv_H → Option (Int32)) (h : mv_H) (hk6 : ∀ (v1 : Int32) (v2 : Int32) (v3 : Int32) (v4 : Int32), mv_sat (k6 v1 v2 v3 v4 h) P → mv_MW G mX6_fewest (mv_rm D mX6_fewest) (mv_Zf G mX6_fewest (mv_qi mv_SH h P)) 0 0 6 [.ref 39, .int v1, .int v2, .int v3, .int v4, .float 0] [] mv_SH h) (v1 : Int32) (v2 : Int32) (v3 : Int32) (v4 : Int32) (hs : mv_sat (fX6_fewest_39_b53 k6 v1 v2 v3 v4 h) P) : mv_MW G mX6_fewest (mv_rm D mX6_fewest) (mv_Zf G mX6_fewest (mv_qi mv_SH h P)) 0 0 53 [.ref 39, .int v1, .int v2, .int v3, .int v4, .float 0] [] mv_SH h := by
  unfold fX6_fewest_39_b53 at hs
  refine mv_iinc (lv' := [.ref 39, .int v1, .int v2, .int v3, .int (v4 + 1), .float 0]) 1 dX6_fewest_53 rfl (by decide) (Nat.le_of_ble_eq_true rfl) rfl rfl ?_
  refine mv_goto dX6_fewest_56 ?_
  exact (hk6 _ _ _ _ hs)
noncomputable def fX6_fewest_39_b50 (k6 : Int32 → Int32 → Int32 → Int32 → mv_H → Option (Int32)) (v1 : Int32) (v2 : Int32) (v4 : Int32) (h : mv_H) : Option (Int32) := fX6_fewest_39_b53 k6 v1 v2 v4 v4 h
set_option maxRecDepth 100000 in
set_option maxHeartbeats 4000000 in
theorem BX6_fewest_39_b50 (G : mv_G) (d D : Nat) (hD : d + 0 ≤ D) (P : Int32 → Prop) (k6 : Int32 → Int32 → Int32 → Int32 → mv_H → Option (Int32)) (h : mv_H) (hk6 : ∀ (v1 : Int32) (v2 : Int32) (v3 : Int32) (v4 : Int32), mv_sat (k6 v1 v2 v3 v4 h) P → mv_MW G mX6_fewest (mv_rm D mX6_fewest) (mv_Zf G mX6_fewest (mv_qi mv_SH h P)) 0 0 6 [.ref 39, .int v1, .int v2, .int v3, .int v4, .float 0] [] mv_SH h) (v1 : Int32) (v2 : Int32) (v4 : Int32) (hs : mv_sat (fX6_fewest_39_b50 k6 v1 v2 v4 h) P) : mv_MW G mX6_fewest (mv_rm D mX6_fewest) (mv_Zf G mX6_fewest (mv_qi mv_SH h P)) 0 0 50 [.ref 39, .int v1, .int v2, .float 0, .int v4, .float 0] [] mv_SH h := by
  unfold fX6_fewest_39_b50 at hs
  refine mv_iload dX6_fewest_50 rfl ?_
  refine mv_istore_n (lv' := [.ref 39, .int v1, .int v2, .int v4, .int v4, .float 0]) dX6_fewest_52 (Nat.le_of_ble_eq_true rfl) rfl rfl ?_
  exact (BX6_fewest_39_b53 G d D (by omega) P _ _ hk6 _ _ _ _ hs)
noncomputable def fX6_fewest_39_b6 : Nat → Int32 → Int32 → Int32 → Int32 → mv_H → Option (Int32)
  | 0, _, _, _, _, _ => none
  | n + 1, v1, v2, v3, v4, h => if v4 < 64 then ((fJ6_bitCount_0f7a4 v4).bind fun r642 => (fX6_sumOf_39 v4 h).bind fun r645 => if r645 < (v1 + (v2 * r642)) then fX6_fewest_39_b53 (fX6_fewest_39_b6 n) v1 v2 v3 v4 h else if v3 = (-6) then fX6_fewest_39_b50 (fX6_fewest_39_b6 n) v1 v2 v4 h else (fJ6_bitCount_0f7a4 v3).bind fun r646 => if r642 < r646 then fX6_fewest_39_b50 (fX6_fewest_39_b6 n) v1 v2 v4 h else fX6_fewest_39_b53 (fX6_fewest_39_b6 n) v1 v2 v3 v4 h) else some v3
set_option maxRecDepth 100000 in
set_option maxHeartbeats 4000000 in
theorem BX6_fewest_39_b6 (G : mv_G) (d D : Nat) (hD : d + 2 ≤ D) (P : Int32 → Prop) (h : mv_H) : ∀ (n : Nat) (v1 : Int32) (v2 : Int32) (v3 : Int32) (v4 : Int32), mv_sat (fX6_fewest_39_b6 n v1 v2 v3 v4 h) P → mv_MW G mX6_fewest (mv_rm D mX6_fewest) (mv_Zf G mX6_fewest (mv_qi mv_SH h P)) 0 0 6 [.ref 39, .int v1, .int v2, .int v3, .int v4, .float 0] [] mv_SH h := by
  intro n
  induction n with
  | zero =>
    intro v1 v2 v3 v4 hs
    unfold fX6_fewest_39_b6 at hs
    exact (mv_sat_none hs).elim
  | succ n ih =>
    intro v1 v2 v3 v4 hs
    unfold fX6_fewest_39_b6 at hs
    refine mv_iload dX6_fewest_6 rfl ?_
    refine mv_bipush 64 dX6_fewest_8 (by decide) ?_
    refine mv_icmp_ge dX6_fewest_10 hs (fun _ hs => ?_) (fun _ hs => ?_)
    · refine mv_iload dX6_fewest_13 rfl ?_
      refine mv_cS (st := []) dX6_fewest_15 kk_X6_30 (TJ6_bitCount_0f7a4 G d _ _ _ (mv_sat_bind hs)) rfl rfl (Nat.le_of_ble_eq_true rfl) (by omega) rfl ⟨Nat.zero_le _, Nat.zero_le _⟩ (mv_ki fun r642 hs => ?_)
      refine mv_istore (lv' := [.ref 39, .int v1, .int v2, .int v3, .int v4, .int r642]) dX6_fewest_18 (Nat.le_of_ble_eq_true rfl) rfl rfl ?_
      refine mv_aload_n dX6_fewest_20 rfl ?_
      refine mv_iload dX6_fewest_21 rfl ?_
      refine mv_cV (st := []) dX6_fewest_23 kk_X6_36 (TX6_sumOf_39 G d _ _ _ (mv_sat_bind hs)) so_39 vc_6 rfl rfl (Nat.le_of_ble_eq_true rfl) (by omega) rfl ⟨Nat.zero_le _, Nat.zero_le _⟩ (mv_ki fun r645 hs => ?_)
      refine mv_iload_n dX6_fewest_26 rfl ?_
      refine mv_iload_n dX6_fewest_27 rfl ?_
      refine mv_iload dX6_fewest_28 rfl ?_
      refine mv_imul dX6_fewest_30 ?_
      refine mv_iadd dX6_fewest_31 ?_
      refine mv_icmp_lt dX6_fewest_32 hs (fun _ hs => ?_) (fun _ hs => ?_)
      · exact mv_weak (lv' := [.ref 39, .int v1, .int v2, .int v3, .int v4, .float 0]) (mv_s (mv_s (mv_s (mv_s (mv_s (mv_k mv_n)))))) (BX6_fewest_39_b53 G d D (by omega) P _ _ ih _ _ _ _ hs)
      · refine mv_iload_n dX6_fewest_35 rfl ?_
        refine mv_bipush (-6) dX6_fewest_36 (by decide) ?_
        refine mv_icmp_eq dX6_fewest_38 hs (fun _ hs => ?_) (fun _ hs => ?_)
        · exact mv_weak (lv' := [.ref 39, .int v1, .int v2, .float 0, .int v4, .float 0]) (mv_s (mv_s (mv_s (mv_k (mv_s (mv_k mv_n)))))) (BX6_fewest_39_b50 G d D (by omega) P _ _ ih _ _ _ hs)
        · refine mv_iload dX6_fewest_41 rfl ?_
          refine mv_iload_n dX6_fewest_43 rfl ?_
          refine mv_cS (st := [.int r642]) dX6_fewest_44 kk_X6_30 (TJ6_bitCount_0f7a4 G d _ _ _ (mv_sat_bind hs)) rfl rfl (Nat.le_of_ble_eq_true rfl) (by omega) rfl ⟨Nat.zero_le _, Nat.zero_le _⟩ (mv_ki fun r646 hs => ?_)
          refine mv_icmp_ge dX6_fewest_47 hs (fun _ hs => ?_) (fun _ hs => ?_)
          · exact mv_weak (lv' := [.ref 39, .int v1, .int v2, .float 0, .int v4, .float 0]) (mv_s (mv_s (mv_s (mv_k (mv_s (mv_k mv_n)))))) (BX6_fewest_39_b50 G d D (by omega) P _ _ ih _ _ _ hs)
          · exact mv_weak (lv' := [.ref 39, .int v1, .int v2, .int v3, .int v4, .float 0]) (mv_s (mv_s (mv_s (mv_s (mv_s (mv_k mv_n)))))) (BX6_fewest_39_b53 G d D (by omega) P _ _ ih _ _ _ _ hs)
    · refine mv_iload_n dX6_fewest_59 rfl ?_
      exact mv_iret dX6_fewest_60 rfl ⟨_, rfl, rfl, rfl, mv_sat_some hs⟩
noncomputable def fX6_fewest_39 (p0 : Int32) (p1 : Int32) (h : mv_H) : Option (Int32) := fX6_fewest_39_b6 mv_F p0 p1 (-6) 1 h
set_option maxRecDepth 100000 in
set_option maxHeartbeats 4000000 in
theorem TX6_fewest_39 (G : mv_G) (d : Nat) (P : Int32 → Prop) (p0 : Int32) (p1 : Int32) (h : mv_H) (hs : mv_sat (fX6_fewest_39 p0 p1 h) P) : mv_met G (d + 2) mX6_fewest [.ref 39, .int p0, .int p1] mv_SH h (mv_qi mv_SH h P) := by
  unfold fX6_fewest_39 at hs
  obtain ⟨D, hDe⟩ : ∃ D, D = d + 2 := ⟨_, rfl⟩
  rw [← hDe]
  have hD : d + 2 ≤ D := by omega
  refine mv_enter (lv := [.ref 39, .int p0, .int p1, .float 0, .float 0, .float 0]) 3 (by decide) (by decide +kernel) rfl (Nat.le_of_ble_eq_true rfl) ?_
  refine mv_bipush (-6) dX6_fewest_0 (by decide) ?_
  refine mv_istore_n (lv' := [.ref 39, .int p0, .int p1, .int (-6), .float 0, .float 0]) dX6_fewest_2 (Nat.le_of_ble_eq_true rfl) rfl rfl ?_
  refine mv_iconst 1 dX6_fewest_3 (by decide) ?_
  refine mv_istore (lv' := [.ref 39, .int p0, .int p1, .int (-6), .int 1, .float 0]) dX6_fewest_4 (Nat.le_of_ble_eq_true rfl) rfl rfl ?_
  exact (BX6_fewest_39_b6 G d D (by omega) P _ _ _ _ _ _ hs)
noncomputable def fX9_pieces_0 (p0 : Int32) (p1 : Int32) (p2 : Int32) (h : mv_H) : Option (Int32 × mv_H) := (fX9_isBoxByAxis_0 p0 p1 h).bind fun r629 => if r629 = 0 then some ((-1), h) else (fX9_isWithin p2 (0 : Int32) (1 : Int32)).bind fun r630 => if r630 = 0 then some ((-2), h) else (fX9_wrapOf_0 p0 h).bind fun r631 => (fX8_reach_38 p1 r631).bind fun r632 => (fX6_gather_39_6 r632 r631).bind fun r637 => (fX8_girth_38 p1 r637).bind fun r640 => (fX1_setting_1 (0 : Int32) r637).bind fun r641 => (fX6_fewest_39 r640 r641 r637).bind fun r647 => if r647 = (-6) then some ((-6), r637) else if p2 = 0 then ((fJ6_bitCount_0f7a4 r647).bind fun r648 => some (r648, r637)) else some (r647, r637)
set_option maxRecDepth 100000 in
set_option maxHeartbeats 4000000 in
theorem TX9_pieces_0 (G : mv_G) (d : Nat) (P : Int32 × mv_H → Prop) (p0 : Int32) (p1 : Int32) (p2 : Int32) (h : mv_H) (hs : mv_sat (fX9_pieces_0 p0 p1 p2 h) P) : mv_met G (d + 3) mX9_pieces [.ref 0, .int p0, .int p1, .int p2] mv_SH h (mv_qI mv_SH P) := by
  unfold fX9_pieces_0 at hs
  obtain ⟨D, hDe⟩ : ∃ D, D = d + 3 := ⟨_, rfl⟩
  rw [← hDe]
  have hD : d + 3 ≤ D := by omega
  refine mv_enter (lv := [.ref 0, .int p0, .int p1, .int p2, .float 0, .float 0]) 2 (by decide) (by decide +kernel) rfl (Nat.le_of_ble_eq_true rfl) ?_
  refine mv_aload_n dX9_pieces_0 rfl ?_
  refine mv_iload_n dX9_pieces_1 rfl ?_
  refine mv_iload_n dX9_pieces_2 rfl ?_
  refine mv_cV (st := []) dX9_pieces_3 kk_X9_140 (TX9_isBoxByAxis_0 G d _ _ _ _ (mv_sat_bind hs)) so_0 vc_9 rfl rfl (Nat.le_of_ble_eq_true rfl) (by omega) rfl ⟨Nat.zero_le _, Nat.zero_le _⟩ (mv_ki fun r629 hs => ?_)
  refine mv_if_ne dX9_pieces_6 hs (fun _ hs => ?_) (fun _ hs => ?_)
  · refine mv_iconst (-1) dX9_pieces_9 (by decide) ?_
    exact mv_iret dX9_pieces_10 rfl ⟨((-1), h), rfl, rfl, rfl, mv_sat_some hs⟩
  · refine mv_iload_n dX9_pieces_11 rfl ?_
    refine mv_iconst 0 dX9_pieces_12 (by decide) ?_
    refine mv_iconst 1 dX9_pieces_13 (by decide) ?_
    refine mv_cS (st := []) dX9_pieces_14 kk_X9_79 (TX9_isWithin G d _ _ _ _ _ (mv_sat_bind hs)) rfl rfl (Nat.le_of_ble_eq_true rfl) (by omega) rfl ⟨Nat.zero_le _, Nat.zero_le _⟩ (mv_ki fun r630 hs => ?_)
    refine mv_if_ne dX9_pieces_17 hs (fun _ hs => ?_) (fun _ hs => ?_)
    · refine mv_bipush (-2) dX9_pieces_20 (by decide) ?_
      exact mv_iret dX9_pieces_22 rfl ⟨((-2), h), rfl, rfl, rfl, mv_sat_some hs⟩
    · refine mv_aload_n dX9_pieces_23 rfl ?_
      refine mv_iload_n dX9_pieces_24 rfl ?_
      refine mv_cV (st := []) dX9_pieces_25 kk_X9_144 (TX9_wrapOf_0 G d _ _ _ (mv_sat_bind hs)) so_0 vc_9 rfl rfl (Nat.le_of_ble_eq_true rfl) (by omega) rfl ⟨Nat.zero_le _, Nat.zero_le _⟩ (mv_kc fun r631 hs => ?_)
      refine mv_astore (lv' := [.ref 0, .int p0, .int p1, .int p2, .ref 38, .float 0]) dX9_pieces_28 (Nat.le_of_ble_eq_true rfl) rfl rfl ?_
      refine mv_aload_n dX9_pieces_30 rfl ?_
      refine mv_getr dX9_pieces_31 kf_X9_39 gf_0_6 ?_
      refine mv_aload_n dX9_pieces_34 rfl ?_
      refine mv_getr dX9_pieces_35 kf_X9_10 gf_0_0 ?_
      refine mv_getr dX9_pieces_38 kf_X9_83 gf_1_2 ?_
      refine mv_aload dX9_pieces_41 rfl ?_
      refine mv_iload_n dX9_pieces_43 rfl ?_
      refine mv_cV (st := [.ref 6, .ref 39]) dX9_pieces_44 kk_X9_151 (TX8_reach_38 G d _ _ _ (mv_sat_bind hs)) so_38 vc_8 rfl rfl (Nat.le_of_ble_eq_true rfl) (by omega) rfl ⟨Nat.zero_le _, Nat.zero_le _⟩ (mv_ki fun r632 hs => ?_)
      refine mv_cV (st := []) dX9_pieces_47 kk_X9_217 (TX6_gather_39_6 G d _ _ _ (mv_sat_bind hs)) so_39 vc_6 rfl rfl (Nat.le_of_ble_eq_true rfl) (by omega) rfl ⟨Nat.zero_le _, Nat.zero_le _⟩ (mv_kv fun r637 hs => ?_)
      refine mv_aload_n dX9_pieces_50 rfl ?_
      refine mv_getr dX9_pieces_51 kf_X9_39 gf_0_6 ?_
      refine mv_aload dX9_pieces_54 rfl ?_
      refine mv_iload_n dX9_pieces_56 rfl ?_
      refine mv_cV (st := [.ref 39]) dX9_pieces_57 kk_X9_221 (TX8_girth_38 G d _ _ _ (mv_sat_bind hs)) so_38 vc_8 rfl rfl (Nat.le_of_ble_eq_true rfl) (by omega) rfl ⟨Nat.zero_le _, Nat.zero_le _⟩ (mv_ki fun r640 hs => ?_)
      refine mv_aload_n dX9_pieces_60 rfl ?_
      refine mv_getr dX9_pieces_61 kf_X9_10 gf_0_0 ?_
      refine mv_iconst 0 dX9_pieces_64 (by decide) ?_
      refine mv_cV (st := [.int r640, .ref 39]) dX9_pieces_65 kk_X9_114 (TX1_setting_1 G d _ _ _ (mv_sat_bind hs)) so_1 vc_1 rfl rfl (Nat.le_of_ble_eq_true rfl) (by omega) rfl ⟨Nat.zero_le _, Nat.zero_le _⟩ (mv_ki fun r641 hs => ?_)
      refine mv_cV (st := []) dX9_pieces_68 kk_X9_224 (TX6_fewest_39 G d _ _ _ _ (mv_sat_bind hs)) so_39 vc_6 rfl rfl (Nat.le_of_ble_eq_true rfl) (by omega) rfl ⟨Nat.zero_le _, Nat.zero_le _⟩ (mv_ki fun r647 hs => ?_)
      refine mv_istore (lv' := [.ref 0, .int p0, .int p1, .int p2, .ref 38, .int r647]) dX9_pieces_71 (Nat.le_of_ble_eq_true rfl) rfl rfl ?_
      refine mv_iload dX9_pieces_73 rfl ?_
      refine mv_bipush (-6) dX9_pieces_75 (by decide) ?_
      refine mv_icmp_ne dX9_pieces_77 hs (fun _ hs => ?_) (fun _ hs => ?_)
      · refine mv_bipush (-6) dX9_pieces_80 (by decide) ?_
        exact mv_iret dX9_pieces_82 rfl ⟨((-6), r637), rfl, rfl, rfl, mv_sat_some hs⟩
      · refine mv_iload_n dX9_pieces_83 rfl ?_
        refine mv_if_ne dX9_pieces_84 hs (fun _ hs => ?_) (fun _ hs => ?_)
        · refine mv_iload dX9_pieces_87 rfl ?_
          refine mv_cS (st := []) dX9_pieces_89 kk_X9_227 (TJ6_bitCount_0f7a4 G d _ _ _ (mv_sat_bind hs)) rfl rfl (Nat.le_of_ble_eq_true rfl) (by omega) rfl ⟨Nat.zero_le _, Nat.zero_le _⟩ (mv_ki fun r648 hs => ?_)
          refine mv_goto dX9_pieces_92 ?_
          exact mv_iret dX9_pieces_97 rfl ⟨(r648, r637), rfl, rfl, rfl, mv_sat_some hs⟩
        · refine mv_iload dX9_pieces_95 rfl ?_
          exact mv_iret dX9_pieces_97 rfl ⟨(r647, r637), rfl, rfl, rfl, mv_sat_some hs⟩
noncomputable def fX10_pieces_55_b108 (k42 : Int32 → Int32 → Int32 → Int32 → mv_H → Option (Int32 × mv_H)) (v2 : Int32) (v3 : Int32) (v5 : Int32) (s0 : Int32) (h : mv_H) : Option (Int32 × mv_H) := k42 v2 v3 s0 (v5 + 1) h
set_option maxRecDepth 100000 in
set_option maxHeartbeats 4000000 in
theorem BX10_pieces_55_b108 (G : mv_G) (d D : Nat) (hD : d + 0 ≤ D) (P : Int32 × mv_H → Prop) (k42 : Int32 → Int32 → Int32 → Int32 → mv_H → Option (Int32 × mv_H)) (hk42 : ∀ (v2 : Int32) (v3 : Int32) (v4 : Int32) (v5 : Int32) (h : mv_H), mv_sat (k42 v2 v3 v4 v5 h) P → mv_MW G mX10_pieces (mv_rm D mX10_pieces) (mv_Zf G mX10_pieces (mv_qI mv_SH P)) 0 0 42 [.ref 55, .float 0, .int v2, .int v3, .int v4, .int v5, .float 0] [] mv_SH h) (v2 : Int32) (v3 : Int32) (v5 : Int32) (s0 : Int32) (h : mv_H) (hs : mv_sat (fX10_pieces_55_b108 k42 v2 v3 v5 s0 h) P) : mv_MW G mX10_pieces (mv_rm D mX10_pieces) (mv_Zf G mX10_pieces (mv_qI mv_SH P)) 0 0 108 [.ref 55, .float 0, .int v2, .int v3, .float 0, .int v5, .float 0] [.int s0] mv_SH h := by
  unfold fX10_pieces_55_b108 at hs
  refine mv_istore (lv' := [.ref 55, .float 0, .int v2, .int v3, .int s0, .int v5, .float 0]) dX10_pieces_108 (Nat.le_of_ble_eq_true rfl) rfl rfl ?_
  refine mv_iinc (lv' := [.ref 55, .float 0, .int v2, .int v3, .int s0, .int (v5 + 1), .float 0]) 1 dX10_pieces_110 rfl (by decide) (Nat.le_of_ble_eq_true rfl) rfl rfl ?_
  refine mv_goto dX10_pieces_113 ?_
  exact (hk42 _ _ _ _ _ hs)
noncomputable def fX10_pieces_55_b106 (k42 : Int32 → Int32 → Int32 → Int32 → mv_H → Option (Int32 × mv_H)) (v2 : Int32) (v3 : Int32) (v4 : Int32) (v5 : Int32) (h : mv_H) : Option (Int32 × mv_H) := fX10_pieces_55_b108 k42 v2 v3 v5 v4 h
set_option maxRecDepth 100000 in
set_option maxHeartbeats 4000000 in
theorem BX10_pieces_55_b106 (G : mv_G) (d D : Nat) (hD : d + 0 ≤ D) (P : Int32 × mv_H → Prop) (k42 : Int32 → Int32 → Int32 → Int32 → mv_H → Option (Int32 × mv_H)) (hk42 : ∀ (v2 : Int32) (v3 : Int32) (v4 : Int32) (v5 : Int32) (h : mv_H), mv_sat (k42 v2 v3 v4 v5 h) P → mv_MW G mX10_pieces (mv_rm D mX10_pieces) (mv_Zf G mX10_pieces (mv_qI mv_SH P)) 0 0 42 [.ref 55, .float 0, .int v2, .int v3, .int v4, .int v5, .float 0] [] mv_SH h) (v2 : Int32) (v3 : Int32) (v4 : Int32) (v5 : Int32) (h : mv_H) (hs : mv_sat (fX10_pieces_55_b106 k42 v2 v3 v4 v5 h) P) : mv_MW G mX10_pieces (mv_rm D mX10_pieces) (mv_Zf G mX10_pieces (mv_qI mv_SH P)) 0 0 106 [.ref 55, .float 0, .int v2, .int v3, .int v4, .int v5, .float 0] [] mv_SH h := by
  unfold fX10_pieces_55_b106 at hs
  refine mv_iload dX10_pieces_106 rfl ?_
  exact mv_weak (lv' := [.ref 55, .float 0, .int v2, .int v3, .float 0, .int v5, .float 0]) (mv_s (mv_s (mv_s (mv_s (mv_k (mv_s (mv_s mv_n))))))) (BX10_pieces_55_b108 G d D (by omega) P _ hk42 _ _ _ _ _ hs)
noncomputable def fX10_givenBy_55_b51 (v3 : Int32) (s0 : Int32) (h : mv_H) : Option (Int32) := if s0 < v3 then some v3 else some s0
set_option maxRecDepth 100000 in
set_option maxHeartbeats 4000000 in
theorem BX10_givenBy_55_b51 (G : mv_G) (d D : Nat) (hD : d + 0 ≤ D) (P : Int32 → Prop) (h : mv_H) (v3 : Int32) (s0 : Int32) (hs : mv_sat (fX10_givenBy_55_b51 v3 s0 h) P) : mv_MW G mX10_givenBy (mv_rm D mX10_givenBy) (mv_Zf G mX10_givenBy (mv_qi mv_SH h P)) 0 0 51 [.float 0, .float 0, .float 0, .int v3, .float 0] [.int s0] mv_SH h := by
  unfold fX10_givenBy_55_b51 at hs
  refine mv_istore (lv' := [.float 0, .float 0, .float 0, .int v3, .int s0]) dX10_givenBy_51 (Nat.le_of_ble_eq_true rfl) rfl rfl ?_
  refine mv_iload_n dX10_givenBy_53 rfl ?_
  refine mv_iload dX10_givenBy_54 rfl ?_
  refine mv_icmp_le dX10_givenBy_56 hs (fun _ hs => ?_) (fun _ hs => ?_)
  · refine mv_iload_n dX10_givenBy_59 rfl ?_
    refine mv_goto dX10_givenBy_60 ?_
    exact mv_iret dX10_givenBy_65 rfl ⟨_, rfl, rfl, rfl, mv_sat_some hs⟩
  · refine mv_iload dX10_givenBy_63 rfl ?_
    exact mv_iret dX10_givenBy_65 rfl ⟨_, rfl, rfl, rfl, mv_sat_some hs⟩
noncomputable def fX10_givenBy_55_b25 (v1 : Int32) (v2 : Int32) (s0 : Int32) (h : mv_H) : Option (Int32) := if mv_in v1 6 then (if mv_in v2 3 then (if (h 58 v1.toNatClampNeg) < (h 66 v2.toNatClampNeg) then fX10_givenBy_55_b51 s0 0 h else if mv_in v1 6 then (fX10_givenBy_55_b51 s0 (h 59 v1.toNatClampNeg) h) else none) else none) else none
set_option maxRecDepth 100000 in
set_option maxHeartbeats 4000000 in
theorem BX10_givenBy_55_b25 (G : mv_G) (d D : Nat) (hD : d + 0 ≤ D) (P : Int32 → Prop) (h : mv_H) (v1 : Int32) (v2 : Int32) (s0 : Int32) (hs : mv_sat (fX10_givenBy_55_b25 v1 v2 s0 h) P) : mv_MW G mX10_givenBy (mv_rm D mX10_givenBy) (mv_Zf G mX10_givenBy (mv_qi mv_SH h P)) 0 0 25 [.ref 55, .int v1, .int v2, .float 0, .float 0] [.int s0] mv_SH h := by
  unfold fX10_givenBy_55_b25 at hs
  refine mv_istore_n (lv' := [.ref 55, .int v1, .int v2, .int s0, .float 0]) dX10_givenBy_25 (Nat.le_of_ble_eq_true rfl) rfl rfl ?_
  refine mv_aload_n dX10_givenBy_26 rfl ?_
  refine mv_getr dX10_givenBy_27 kf_X10_16 gf_55_5 ?_
  refine mv_iload_n dX10_givenBy_30 rfl ?_
  refine mv_iaload dX10_givenBy_31 so_58 hs (fun hs => ?_)
  refine mv_aload_n dX10_givenBy_32 rfl ?_
  refine mv_getr dX10_givenBy_33 kf_X10_40 gf_55_24 ?_
  refine mv_iload_n dX10_givenBy_36 rfl ?_
  refine mv_iaload dX10_givenBy_37 so_66 hs (fun hs => ?_)
  refine mv_icmp_lt dX10_givenBy_38 hs (fun _ hs => ?_) (fun _ hs => ?_)
  · refine mv_iconst 0 dX10_givenBy_50 (by decide) ?_
    exact mv_weak (lv' := [.float 0, .float 0, .float 0, .int s0, .float 0]) (mv_k (mv_k (mv_k (mv_s (mv_s mv_n))))) (BX10_givenBy_55_b51 G d D (by omega) P _ _ _ hs)
  · refine mv_aload_n dX10_givenBy_41 rfl ?_
    refine mv_getr dX10_givenBy_42 kf_X10_19 gf_55_6 ?_
    refine mv_iload_n dX10_givenBy_45 rfl ?_
    refine mv_iaload dX10_givenBy_46 so_59 hs (fun hs => ?_)
    refine mv_goto dX10_givenBy_47 ?_
    exact mv_weak (lv' := [.float 0, .float 0, .float 0, .int s0, .float 0]) (mv_k (mv_k (mv_k (mv_s (mv_s mv_n))))) (BX10_givenBy_55_b51 G d D (by omega) P _ _ _ hs)
noncomputable def fX10_givenBy_55 (p0 : Int32) (p1 : Int32) (h : mv_H) : Option (Int32) := if mv_in p0 6 then (if mv_in p1 3 then (if (h 59 p0.toNatClampNeg) < (h 66 p1.toNatClampNeg) then fX10_givenBy_55_b25 p0 p1 0 h else if mv_in p0 6 then (fX10_givenBy_55_b25 p0 p1 (h 58 p0.toNatClampNeg) h) else none) else none) else none
set_option maxRecDepth 100000 in
set_option maxHeartbeats 4000000 in
theorem TX10_givenBy_55 (G : mv_G) (d : Nat) (P : Int32 → Prop) (p0 : Int32) (p1 : Int32) (h : mv_H) (hs : mv_sat (fX10_givenBy_55 p0 p1 h) P) : mv_met G (d + 0) mX10_givenBy [.ref 55, .int p0, .int p1] mv_SH h (mv_qi mv_SH h P) := by
  unfold fX10_givenBy_55 at hs
  obtain ⟨D, hDe⟩ : ∃ D, D = d + 0 := ⟨_, rfl⟩
  rw [← hDe]
  have hD : d + 0 ≤ D := by omega
  refine mv_enter (lv := [.ref 55, .int p0, .int p1, .float 0, .float 0]) 2 (by decide) (by decide +kernel) rfl (Nat.le_of_ble_eq_true rfl) ?_
  refine mv_aload_n dX10_givenBy_0 rfl ?_
  refine mv_getr dX10_givenBy_1 kf_X10_19 gf_55_6 ?_
  refine mv_iload_n dX10_givenBy_4 rfl ?_
  refine mv_iaload dX10_givenBy_5 so_59 hs (fun hs => ?_)
  refine mv_aload_n dX10_givenBy_6 rfl ?_
  refine mv_getr dX10_givenBy_7 kf_X10_40 gf_55_24 ?_
  refine mv_iload_n dX10_givenBy_10 rfl ?_
  refine mv_iaload dX10_givenBy_11 so_66 hs (fun hs => ?_)
  refine mv_icmp_lt dX10_givenBy_12 hs (fun _ hs => ?_) (fun _ hs => ?_)
  · refine mv_iconst 0 dX10_givenBy_24 (by decide) ?_
    exact (BX10_givenBy_55_b25 G d D (by omega) P _ _ _ _ hs)
  · refine mv_aload_n dX10_givenBy_15 rfl ?_
    refine mv_getr dX10_givenBy_16 kf_X10_16 gf_55_5 ?_
    refine mv_iload_n dX10_givenBy_19 rfl ?_
    refine mv_iaload dX10_givenBy_20 so_58 hs (fun hs => ?_)
    refine mv_goto dX10_givenBy_21 ?_
    exact (BX10_givenBy_55_b25 G d D (by omega) P _ _ _ _ hs)
noncomputable def fX10_goRound_55_b56 (k8 : Int32 → Int32 → Int32 → Int32 → Int32 → mv_H → Option (Int32)) (v1 : Int32) (v2 : Int32) (v3 : Int32) (v4 : Int32) (v5 : Int32) (h : mv_H) : Option (Int32) := k8 v1 v2 v3 v4 (v5 + 1) h
set_option maxRecDepth 100000 in
set_option maxHeartbeats 4000000 in
theorem BX10_goRound_55_b56 (G : mv_G) (d D : Nat) (hD : d + 0 ≤ D) (P : Int32 → Prop) (k8 : Int32 → Int32 → Int32 → Int32 → Int32 → mv_H → Option (Int32)) (h : mv_H) (hk8 : ∀ (v1 : Int32) (v2 : Int32) (v3 : Int32) (v4 : Int32) (v5 : Int32), mv_sat (k8 v1 v2 v3 v4 v5 h) P → mv_MW G mX10_goRound (mv_rm D mX10_goRound) (mv_Zf G mX10_goRound (mv_qi mv_SH h P)) 0 0 8 [.ref 55, .int v1, .int v2, .int v3, .int v4, .int v5, .float 0] [] mv_SH h) (v1 : Int32) (v2 : Int32) (v3 : Int32) (v4 : Int32) (v5 : Int32) (hs : mv_sat (fX10_goRound_55_b56 k8 v1 v2 v3 v4 v5 h) P) : mv_MW G mX10_goRound (mv_rm D mX10_goRound) (mv_Zf G mX10_goRound (mv_qi mv_SH h P)) 0 0 56 [.ref 55, .int v1, .int v2, .int v3, .int v4, .int v5, .float 0] [] mv_SH h := by
  unfold fX10_goRound_55_b56 at hs
  refine mv_iinc (lv' := [.ref 55, .int v1, .int v2, .int v3, .int v4, .int (v5 + 1), .float 0]) 1 dX10_goRound_56 rfl (by decide) (Nat.le_of_ble_eq_true rfl) rfl rfl ?_
  refine mv_goto dX10_goRound_59 ?_
  exact (hk8 _ _ _ _ _ hs)
noncomputable def fX10_goRound_55_b49 (k8 : Int32 → Int32 → Int32 → Int32 → Int32 → mv_H → Option (Int32)) (v1 : Int32) (v2 : Int32) (v3 : Int32) (v5 : Int32) (v6 : Int32) (s0 : Int32) (h : mv_H) : Option (Int32) := mv_let (v3 + v6) fun x655 : Int32 => fX10_goRound_55_b56 k8 v1 v2 x655 s0 v5 h
set_option maxRecDepth 100000 in
set_option maxHeartbeats 4000000 in
theorem BX10_goRound_55_b49 (G : mv_G) (d D : Nat) (hD : d + 0 ≤ D) (P : Int32 → Prop) (k8 : Int32 → Int32 → Int32 → Int32 → Int32 → mv_H → Option (Int32)) (h : mv_H) (hk8 : ∀ (v1 : Int32) (v2 : Int32) (v3 : Int32) (v4 : Int32) (v5 : Int32), mv_sat (k8 v1 v2 v3 v4 v5 h) P → mv_MW G mX10_goRound (mv_rm D mX10_goRound) (mv_Zf G mX10_goRound (mv_qi mv_SH h P)) 0 0 8 [.ref 55, .int v1, .int v2, .int v3, .int v4, .int v5, .float 0] [] mv_SH h) (v1 : Int32) (v2 : Int32) (v3 : Int32) (v5 : Int32) (v6 : Int32) (s0 : Int32) (hs : mv_sat (fX10_goRound_55_b49 k8 v1 v2 v3 v5 v6 s0 h) P) : mv_MW G mX10_goRound (mv_rm D mX10_goRound) (mv_Zf G mX10_goRound (mv_qi mv_SH h P)) 0 0 49 [.ref 55, .int v1, .int v2, .int v3, .float 0, .int v5, .int v6] [.int s0] mv_SH h := by
  unfold fX10_goRound_55_b49 at hs
  refine mv_istore (lv' := [.ref 55, .int v1, .int v2, .int v3, .int s0, .int v5, .int v6]) dX10_goRound_49 (Nat.le_of_ble_eq_true rfl) rfl rfl ?_
  refine mv_iload_n dX10_goRound_51 rfl ?_
  refine mv_iload dX10_goRound_52 rfl ?_
  refine mv_iadd dX10_goRound_54 ?_
  refine mv_name hs (fun x655 hs => ?_)
  refine mv_istore_n (lv' := [.ref 55, .int v1, .int v2, .int x655, .int s0, .int v5, .int v6]) dX10_goRound_55 (Nat.le_of_ble_eq_true rfl) rfl rfl ?_
  exact mv_weak (lv' := [.ref 55, .int v1, .int v2, .int x655, .int s0, .int v5, .float 0]) (mv_s (mv_s (mv_s (mv_s (mv_s (mv_s (mv_k mv_n))))))) (BX10_goRound_55_b56 G d D (by omega) P _ _ hk8 _ _ _ _ _ hs)
noncomputable def fX10_goRound_55_b48 (k8 : Int32 → Int32 → Int32 → Int32 → Int32 → mv_H → Option (Int32)) (v1 : Int32) (v2 : Int32) (v3 : Int32) (v5 : Int32) (v6 : Int32) (h : mv_H) : Option (Int32) := fX10_goRound_55_b49 k8 v1 v2 v3 v5 v6 0 h
set_option maxRecDepth 100000 in
set_option maxHeartbeats 4000000 in
theorem BX10_goRound_55_b48 (G : mv_G) (d D : Nat) (hD : d + 0 ≤ D) (P : Int32 → Prop) (k8 : Int32 → Int32 → Int32 → Int32 → Int32 → mv_H → Option (Int32)) (h : mv_H) (hk8 : ∀ (v1 : Int32) (v2 : Int32) (v3 : Int32) (v4 : Int32) (v5 : Int32), mv_sat (k8 v1 v2 v3 v4 v5 h) P → mv_MW G mX10_goRound (mv_rm D mX10_goRound) (mv_Zf G mX10_goRound (mv_qi mv_SH h P)) 0 0 8 [.ref 55, .int v1, .int v2, .int v3, .int v4, .int v5, .float 0] [] mv_SH h) (v1 : Int32) (v2 : Int32) (v3 : Int32) (v5 : Int32) (v6 : Int32) (hs : mv_sat (fX10_goRound_55_b48 k8 v1 v2 v3 v5 v6 h) P) : mv_MW G mX10_goRound (mv_rm D mX10_goRound) (mv_Zf G mX10_goRound (mv_qi mv_SH h P)) 0 0 48 [.ref 55, .int v1, .int v2, .int v3, .float 0, .int v5, .int v6] [] mv_SH h := by
  unfold fX10_goRound_55_b48 at hs
  refine mv_iconst 0 dX10_goRound_48 (by decide) ?_
  exact (BX10_goRound_55_b49 G d D (by omega) P _ _ hk8 _ _ _ _ _ _ hs)
noncomputable def fX10_goRound_55_b8 : Nat → Int32 → Int32 → Int32 → Int32 → Int32 → mv_H → Option (Int32)
  | 0, _, _, _, _, _, _ => none
  | n + 1, v1, v2, v3, v4, v5, h => if v5 < 6 then (if ((v1 >>> (v5 &&& 31)) &&& 1) = 1 then ((fX10_givenBy_55 v5 v2 h).bind fun r654 => if v4 = 0 then fX10_goRound_55_b48 (fX10_goRound_55_b8 n) v1 v2 v3 v5 r654 h else if 0 < r654 then fX10_goRound_55_b49 (fX10_goRound_55_b8 n) v1 v2 v3 v5 r654 1 h else fX10_goRound_55_b48 (fX10_goRound_55_b8 n) v1 v2 v3 v5 r654 h) else fX10_goRound_55_b56 (fX10_goRound_55_b8 n) v1 v2 v3 v4 v5 h) else if v4 = 0 then some 0 else if v1 = 0 then some 0 else if mv_in v2 3 then (if mv_in v2 3 then ((fX10_ones v1).bind fun r656 => if v3 < ((2 * ((h 67 v2.toNatClampNeg) + (h 68 v2.toNatClampNeg))) + ((h 55 7) * r656)) then some 0 else some 1) else none) else none
set_option maxRecDepth 100000 in
set_option maxHeartbeats 4000000 in
theorem BX10_goRound_55_b8 (G : mv_G) (d D : Nat) (hD : d + 1 ≤ D) (P : Int32 → Prop) (h : mv_H) : ∀ (n : Nat) (v1 : Int32) (v2 : Int32) (v3 : Int32) (v4 : Int32) (v5 : Int32), mv_sat (fX10_goRound_55_b8 n v1 v2 v3 v4 v5 h) P → mv_MW G mX10_goRound (mv_rm D mX10_goRound) (mv_Zf G mX10_goRound (mv_qi mv_SH h P)) 0 0 8 [.ref 55, .int v1, .int v2, .int v3, .int v4, .int v5, .float 0] [] mv_SH h := by
  intro n
  induction n with
  | zero =>
    intro v1 v2 v3 v4 v5 hs
    unfold fX10_goRound_55_b8 at hs
    exact (mv_sat_none hs).elim
  | succ n ih =>
    intro v1 v2 v3 v4 v5 hs
    unfold fX10_goRound_55_b8 at hs
    refine mv_iload dX10_goRound_8 rfl ?_
    refine mv_bipush 6 dX10_goRound_10 (by decide) ?_
    refine mv_icmp_ge dX10_goRound_12 hs (fun _ hs => ?_) (fun _ hs => ?_)
    · refine mv_iload_n dX10_goRound_15 rfl ?_
      refine mv_iload dX10_goRound_16 rfl ?_
      refine mv_ishr dX10_goRound_18 ?_
      refine mv_iconst 1 dX10_goRound_19 (by decide) ?_
      refine mv_iand dX10_goRound_20 ?_
      refine mv_iconst 1 dX10_goRound_21 (by decide) ?_
      refine mv_icmp_ne dX10_goRound_22 hs (fun _ hs => ?_) (fun _ hs => ?_)
      · refine mv_aload_n dX10_goRound_25 rfl ?_
        refine mv_iload dX10_goRound_26 rfl ?_
        refine mv_iload_n dX10_goRound_28 rfl ?_
        refine mv_cV (st := []) dX10_goRound_29 kk_X10_255 (TX10_givenBy_55 G d _ _ _ _ (mv_sat_bind hs)) so_55 vc_10 rfl rfl (Nat.le_of_ble_eq_true rfl) (by omega) rfl ⟨Nat.zero_le _, Nat.zero_le _⟩ (mv_ki fun r654 hs => ?_)
        refine mv_istore (lv' := [.ref 55, .int v1, .int v2, .int v3, .int v4, .int v5, .int r654]) dX10_goRound_32 (Nat.le_of_ble_eq_true rfl) rfl rfl ?_
        refine mv_iload dX10_goRound_34 rfl ?_
        refine mv_if_eq dX10_goRound_36 hs (fun _ hs => ?_) (fun _ hs => ?_)
        · exact mv_weak (lv' := [.ref 55, .int v1, .int v2, .int v3, .float 0, .int v5, .int r654]) (mv_s (mv_s (mv_s (mv_s (mv_k (mv_s (mv_s mv_n))))))) (BX10_goRound_55_b48 G d D (by omega) P _ _ ih _ _ _ _ _ hs)
        · refine mv_iload dX10_goRound_39 rfl ?_
          refine mv_if_le dX10_goRound_41 hs (fun _ hs => ?_) (fun _ hs => ?_)
          · refine mv_iconst 1 dX10_goRound_44 (by decide) ?_
            refine mv_goto dX10_goRound_45 ?_
            exact mv_weak (lv' := [.ref 55, .int v1, .int v2, .int v3, .float 0, .int v5, .int r654]) (mv_s (mv_s (mv_s (mv_s (mv_k (mv_s (mv_s mv_n))))))) (BX10_goRound_55_b49 G d D (by omega) P _ _ ih _ _ _ _ _ _ hs)
          · exact mv_weak (lv' := [.ref 55, .int v1, .int v2, .int v3, .float 0, .int v5, .int r654]) (mv_s (mv_s (mv_s (mv_s (mv_k (mv_s (mv_s mv_n))))))) (BX10_goRound_55_b48 G d D (by omega) P _ _ ih _ _ _ _ _ hs)
      · exact (BX10_goRound_55_b56 G d D (by omega) P _ _ ih _ _ _ _ _ hs)
    · refine mv_iload dX10_goRound_62 rfl ?_
      refine mv_if_eq dX10_goRound_64 hs (fun _ hs => ?_) (fun _ hs => ?_)
      · refine mv_iconst 0 dX10_goRound_104 (by decide) ?_
        exact mv_zret dX10_goRound_105 rfl (Or.inl rfl) ⟨_, rfl, rfl, rfl, mv_sat_some hs⟩
      · refine mv_iload_n dX10_goRound_67 rfl ?_
        refine mv_if_eq dX10_goRound_68 hs (fun _ hs => ?_) (fun _ hs => ?_)
        · refine mv_iconst 0 dX10_goRound_104 (by decide) ?_
          exact mv_zret dX10_goRound_105 rfl (Or.inl rfl) ⟨_, rfl, rfl, rfl, mv_sat_some hs⟩
        · refine mv_iload_n dX10_goRound_71 rfl ?_
          refine mv_iconst 2 dX10_goRound_72 (by decide) ?_
          refine mv_aload_n dX10_goRound_73 rfl ?_
          refine mv_getr dX10_goRound_74 kf_X10_43 gf_55_25 ?_
          refine mv_iload_n dX10_goRound_77 rfl ?_
          refine mv_iaload dX10_goRound_78 so_67 hs (fun hs => ?_)
          refine mv_aload_n dX10_goRound_79 rfl ?_
          refine mv_getr dX10_goRound_80 kf_X10_46 gf_55_26 ?_
          refine mv_iload_n dX10_goRound_83 rfl ?_
          refine mv_iaload dX10_goRound_84 so_68 hs (fun hs => ?_)
          refine mv_iadd dX10_goRound_85 ?_
          refine mv_imul dX10_goRound_86 ?_
          refine mv_aload_n dX10_goRound_87 rfl ?_
          refine mv_geti dX10_goRound_88 kf_X10_92 gf_55_7 ?_
          refine mv_iload_n dX10_goRound_91 rfl ?_
          refine mv_cS (st := [.int (h 55 7), .int (2 * ((h 67 v2.toNatClampNeg) + (h 68 v2.toNatClampNeg))), .int v3]) dX10_goRound_92 kk_X10_131 (TX10_ones G d _ _ _ (mv_sat_bind hs)) rfl rfl (Nat.le_of_ble_eq_true rfl) (by omega) rfl ⟨Nat.zero_le _, Nat.zero_le _⟩ (mv_ki fun r656 hs => ?_)
          refine mv_imul dX10_goRound_95 ?_
          refine mv_iadd dX10_goRound_96 ?_
          refine mv_icmp_lt dX10_goRound_97 hs (fun _ hs => ?_) (fun _ hs => ?_)
          · refine mv_iconst 0 dX10_goRound_104 (by decide) ?_
            exact mv_zret dX10_goRound_105 rfl (Or.inl rfl) ⟨_, rfl, rfl, rfl, mv_sat_some hs⟩
          · refine mv_iconst 1 dX10_goRound_100 (by decide) ?_
            refine mv_goto dX10_goRound_101 ?_
            exact mv_zret dX10_goRound_105 rfl (Or.inr rfl) ⟨_, rfl, rfl, rfl, mv_sat_some hs⟩
noncomputable def fX10_goRound_55 (p0 : Int32) (p1 : Int32) (h : mv_H) : Option (Int32) := fX10_goRound_55_b8 mv_F p0 p1 0 1 0 h
set_option maxRecDepth 100000 in
set_option maxHeartbeats 4000000 in
theorem TX10_goRound_55 (G : mv_G) (d : Nat) (P : Int32 → Prop) (p0 : Int32) (p1 : Int32) (h : mv_H) (hs : mv_sat (fX10_goRound_55 p0 p1 h) P) : mv_met G (d + 1) mX10_goRound [.ref 55, .int p0, .int p1] mv_SH h (mv_qi mv_SH h P) := by
  unfold fX10_goRound_55 at hs
  obtain ⟨D, hDe⟩ : ∃ D, D = d + 1 := ⟨_, rfl⟩
  rw [← hDe]
  have hD : d + 1 ≤ D := by omega
  refine mv_enter (lv := [.ref 55, .int p0, .int p1, .float 0, .float 0, .float 0, .float 0]) 4 (by decide) (by decide +kernel) rfl (Nat.le_of_ble_eq_true rfl) ?_
  refine mv_iconst 0 dX10_goRound_0 (by decide) ?_
  refine mv_istore_n (lv' := [.ref 55, .int p0, .int p1, .int 0, .float 0, .float 0, .float 0]) dX10_goRound_1 (Nat.le_of_ble_eq_true rfl) rfl rfl ?_
  refine mv_iconst 1 dX10_goRound_2 (by decide) ?_
  refine mv_istore (lv' := [.ref 55, .int p0, .int p1, .int 0, .int 1, .float 0, .float 0]) dX10_goRound_3 (Nat.le_of_ble_eq_true rfl) rfl rfl ?_
  refine mv_iconst 0 dX10_goRound_5 (by decide) ?_
  refine mv_istore (lv' := [.ref 55, .int p0, .int p1, .int 0, .int 1, .int 0, .float 0]) dX10_goRound_6 (Nat.le_of_ble_eq_true rfl) rfl rfl ?_
  exact (BX10_goRound_55_b8 G d D (by omega) P _ _ _ _ _ _ _ hs)
noncomputable def fX10_pieces_55_b84 (k42 : Int32 → Int32 → Int32 → Int32 → mv_H → Option (Int32 × mv_H)) (v2 : Int32) (v3 : Int32) (v4 : Int32) (v5 : Int32) (s0 : Int32) (h : mv_H) : Option (Int32 × mv_H) := if s0 = 0 then fX10_pieces_55_b106 k42 v2 v3 v4 v5 h else (fX10_goRound_55 v5 v2 h).bind fun r657 => if r657 = 0 then fX10_pieces_55_b106 k42 v2 v3 v4 v5 h else fX10_pieces_55_b108 k42 v2 v3 v5 v5 h
set_option maxRecDepth 100000 in
set_option maxHeartbeats 4000000 in
theorem BX10_pieces_55_b84 (G : mv_G) (d D : Nat) (hD : d + 2 ≤ D) (P : Int32 × mv_H → Prop) (k42 : Int32 → Int32 → Int32 → Int32 → mv_H → Option (Int32 × mv_H)) (hk42 : ∀ (v2 : Int32) (v3 : Int32) (v4 : Int32) (v5 : Int32) (h : mv_H), mv_sat (k42 v2 v3 v4 v5 h) P → mv_MW G mX10_pieces (mv_rm D mX10_pieces) (mv_Zf G mX10_pieces (mv_qI mv_SH P)) 0 0 42 [.ref 55, .float 0, .int v2, .int v3, .int v4, .int v5, .float 0] [] mv_SH h) (v2 : Int32) (v3 : Int32) (v4 : Int32) (v5 : Int32) (s0 : Int32) (h : mv_H) (hs : mv_sat (fX10_pieces_55_b84 k42 v2 v3 v4 v5 s0 h) P) : mv_MW G mX10_pieces (mv_rm D mX10_pieces) (mv_Zf G mX10_pieces (mv_qI mv_SH P)) 0 0 84 [.ref 55, .float 0, .int v2, .int v3, .int v4, .int v5, .float 0] [.int s0] mv_SH h := by
  unfold fX10_pieces_55_b84 at hs
  refine mv_istore (lv' := [.ref 55, .float 0, .int v2, .int v3, .int v4, .int v5, .int s0]) dX10_pieces_84 (Nat.le_of_ble_eq_true rfl) rfl rfl ?_
  refine mv_iload dX10_pieces_86 rfl ?_
  refine mv_if_eq dX10_pieces_88 hs (fun _ hs => ?_) (fun _ hs => ?_)
  · exact mv_weak (lv' := [.ref 55, .float 0, .int v2, .int v3, .int v4, .int v5, .float 0]) (mv_s (mv_s (mv_s (mv_s (mv_s (mv_s (mv_k mv_n))))))) (BX10_pieces_55_b106 G d D (by omega) P _ hk42 _ _ _ _ _ hs)
  · refine mv_aload_n dX10_pieces_91 rfl ?_
    refine mv_iload dX10_pieces_92 rfl ?_
    refine mv_iload_n dX10_pieces_94 rfl ?_
    refine mv_cV (st := []) dX10_pieces_95 kk_X10_259 (TX10_goRound_55 G d _ _ _ _ (mv_sat_bind hs)) so_55 vc_10 rfl rfl (Nat.le_of_ble_eq_true rfl) (by omega) rfl ⟨Nat.zero_le _, Nat.zero_le _⟩ (mv_ki fun r657 hs => ?_)
    refine mv_if_eq dX10_pieces_98 hs (fun _ hs => ?_) (fun _ hs => ?_)
    · exact mv_weak (lv' := [.ref 55, .float 0, .int v2, .int v3, .int v4, .int v5, .float 0]) (mv_s (mv_s (mv_s (mv_s (mv_s (mv_s (mv_k mv_n))))))) (BX10_pieces_55_b106 G d D (by omega) P _ hk42 _ _ _ _ _ hs)
    · refine mv_iload dX10_pieces_101 rfl ?_
      refine mv_goto dX10_pieces_103 ?_
      exact mv_weak (lv' := [.ref 55, .float 0, .int v2, .int v3, .float 0, .int v5, .float 0]) (mv_s (mv_s (mv_s (mv_s (mv_k (mv_s (mv_k mv_n))))))) (BX10_pieces_55_b108 G d D (by omega) P _ hk42 _ _ _ _ _ hs)
noncomputable def fX10_pieces_55_b79 (k42 : Int32 → Int32 → Int32 → Int32 → mv_H → Option (Int32 × mv_H)) (v2 : Int32) (v3 : Int32) (v4 : Int32) (v5 : Int32) (h : mv_H) : Option (Int32 × mv_H) := fX10_pieces_55_b84 k42 v2 v3 v4 v5 1 h
set_option maxRecDepth 100000 in
set_option maxHeartbeats 4000000 in
theorem BX10_pieces_55_b79 (G : mv_G) (d D : Nat) (hD : d + 2 ≤ D) (P : Int32 × mv_H → Prop) (k42 : Int32 → Int32 → Int32 → Int32 → mv_H → Option (Int32 × mv_H)) (hk42 : ∀ (v2 : Int32) (v3 : Int32) (v4 : Int32) (v5 : Int32) (h : mv_H), mv_sat (k42 v2 v3 v4 v5 h) P → mv_MW G mX10_pieces (mv_rm D mX10_pieces) (mv_Zf G mX10_pieces (mv_qI mv_SH P)) 0 0 42 [.ref 55, .float 0, .int v2, .int v3, .int v4, .int v5, .float 0] [] mv_SH h) (v2 : Int32) (v3 : Int32) (v4 : Int32) (v5 : Int32) (h : mv_H) (hs : mv_sat (fX10_pieces_55_b79 k42 v2 v3 v4 v5 h) P) : mv_MW G mX10_pieces (mv_rm D mX10_pieces) (mv_Zf G mX10_pieces (mv_qI mv_SH P)) 0 0 79 [.ref 55, .float 0, .int v2, .int v3, .int v4, .int v5, .float 0] [] mv_SH h := by
  unfold fX10_pieces_55_b79 at hs
  refine mv_iconst 1 dX10_pieces_79 (by decide) ?_
  refine mv_goto dX10_pieces_80 ?_
  exact (BX10_pieces_55_b84 G d D (by omega) P _ hk42 _ _ _ _ _ _ hs)
noncomputable def fX10_pieces_55_b83 (k42 : Int32 → Int32 → Int32 → Int32 → mv_H → Option (Int32 × mv_H)) (v2 : Int32) (v3 : Int32) (v4 : Int32) (v5 : Int32) (h : mv_H) : Option (Int32 × mv_H) := fX10_pieces_55_b84 k42 v2 v3 v4 v5 0 h
set_option maxRecDepth 100000 in
set_option maxHeartbeats 4000000 in
theorem BX10_pieces_55_b83 (G : mv_G) (d D : Nat) (hD : d + 2 ≤ D) (P : Int32 × mv_H → Prop) (k42 : Int32 → Int32 → Int32 → Int32 → mv_H → Option (Int32 × mv_H)) (hk42 : ∀ (v2 : Int32) (v3 : Int32) (v4 : Int32) (v5 : Int32) (h : mv_H), mv_sat (k42 v2 v3 v4 v5 h) P → mv_MW G mX10_pieces (mv_rm D mX10_pieces) (mv_Zf G mX10_pieces (mv_qI mv_SH P)) 0 0 42 [.ref 55, .float 0, .int v2, .int v3, .int v4, .int v5, .float 0] [] mv_SH h) (v2 : Int32) (v3 : Int32) (v4 : Int32) (v5 : Int32) (h : mv_H) (hs : mv_sat (fX10_pieces_55_b83 k42 v2 v3 v4 v5 h) P) : mv_MW G mX10_pieces (mv_rm D mX10_pieces) (mv_Zf G mX10_pieces (mv_qI mv_SH P)) 0 0 83 [.ref 55, .float 0, .int v2, .int v3, .int v4, .int v5, .float 0] [] mv_SH h := by
  unfold fX10_pieces_55_b83 at hs
  refine mv_iconst 0 dX10_pieces_83 (by decide) ?_
  exact (BX10_pieces_55_b84 G d D (by omega) P _ hk42 _ _ _ _ _ _ hs)
noncomputable def fX10_pieces_55_b126 (v4 : Int32) (h : mv_H) : Option (Int32 × mv_H) := some (v4, h)
set_option maxRecDepth 100000 in
set_option maxHeartbeats 4000000 in
theorem BX10_pieces_55_b126 (G : mv_G) (d D : Nat) (hD : d + 0 ≤ D) (P : Int32 × mv_H → Prop) (v4 : Int32) (h : mv_H) (hs : mv_sat (fX10_pieces_55_b126 v4 h) P) : mv_MW G mX10_pieces (mv_rm D mX10_pieces) (mv_Zf G mX10_pieces (mv_qI mv_SH P)) 0 0 126 [.float 0, .float 0, .float 0, .float 0, .int v4, .float 0, .float 0] [] mv_SH h := by
  unfold fX10_pieces_55_b126 at hs
  refine mv_iload dX10_pieces_126 rfl ?_
  refine mv_goto dX10_pieces_128 ?_
  exact mv_iret dX10_pieces_136 rfl ⟨(v4, h), rfl, rfl, rfl, mv_sat_some hs⟩
noncomputable def fX10_pieces_55_b42 : Nat → Int32 → Int32 → Int32 → Int32 → mv_H → Option (Int32 × mv_H)
  | 0, _, _, _, _, _ => none
  | n + 1, v2, v3, v4, v5, h => if v5 < 64 then (if (v5 &&& ((h 55 2) ^^^ (-1))) = 0 then (if v4 < 0 then fX10_pieces_55_b79 (fX10_pieces_55_b42 n) v2 v3 v4 v5 h else (fX10_ones v5).bind fun r658 => (fX10_ones v4).bind fun r659 => if r658 < r659 then fX10_pieces_55_b79 (fX10_pieces_55_b42 n) v2 v3 v4 v5 h else fX10_pieces_55_b83 (fX10_pieces_55_b42 n) v2 v3 v4 v5 h) else fX10_pieces_55_b83 (fX10_pieces_55_b42 n) v2 v3 v4 v5 h) else if v4 < 0 then fX10_pieces_55_b126 v4 h else if v3 = 1 then fX10_pieces_55_b126 v4 h else (fX10_ones v4).bind fun r660 => some (r660, h)
set_option maxRecDepth 100000 in
set_option maxHeartbeats 4000000 in
theorem BX10_pieces_55_b42 (G : mv_G) (d D : Nat) (hD : d + 2 ≤ D) (P : Int32 × mv_H → Prop) : ∀ (n : Nat) (v2 : Int32) (v3 : Int32) (v4 : Int32) (v5 : Int32) (h : mv_H), mv_sat (fX10_pieces_55_b42 n v2 v3 v4 v5 h) P → mv_MW G mX10_pieces (mv_rm D mX10_pieces) (mv_Zf G mX10_pieces (mv_qI mv_SH P)) 0 0 42 [.ref 55, .float 0, .int v2, .int v3, .int v4, .int v5, .float 0] [] mv_SH h := by
  intro n
  induction n with
  | zero =>
    intro v2 v3 v4 v5 h hs
    unfold fX10_pieces_55_b42 at hs
    exact (mv_sat_none hs).elim
  | succ n ih =>
    intro v2 v3 v4 v5 h hs
    unfold fX10_pieces_55_b42 at hs
    refine mv_iload dX10_pieces_42 rfl ?_
    refine mv_bipush 64 dX10_pieces_44 (by decide) ?_
    refine mv_icmp_ge dX10_pieces_46 hs (fun _ hs => ?_) (fun _ hs => ?_)
    · refine mv_iload dX10_pieces_49 rfl ?_
      refine mv_aload_n dX10_pieces_51 rfl ?_
      refine mv_geti dX10_pieces_52 kf_X10_118 gf_55_2 ?_
      refine mv_iconst (-1) dX10_pieces_55 (by decide) ?_
      refine mv_ixor dX10_pieces_56 ?_
      refine mv_iand dX10_pieces_57 ?_
      refine mv_if_ne dX10_pieces_58 hs (fun _ hs => ?_) (fun _ hs => ?_)
      · refine mv_iload dX10_pieces_61 rfl ?_
        refine mv_if_lt dX10_pieces_63 hs (fun _ hs => ?_) (fun _ hs => ?_)
        · exact (BX10_pieces_55_b79 G d D (by omega) P _ ih _ _ _ _ _ hs)
        · refine mv_iload dX10_pieces_66 rfl ?_
          refine mv_cS (st := []) dX10_pieces_68 kk_X10_131 (TX10_ones G d _ _ _ (mv_sat_bind hs)) rfl rfl (Nat.le_of_ble_eq_true rfl) (by omega) rfl ⟨Nat.zero_le _, Nat.zero_le _⟩ (mv_ki fun r658 hs => ?_)
          refine mv_iload dX10_pieces_71 rfl ?_
          refine mv_cS (st := [.int r658]) dX10_pieces_73 kk_X10_131 (TX10_ones G d _ _ _ (mv_sat_bind hs)) rfl rfl (Nat.le_of_ble_eq_true rfl) (by omega) rfl ⟨Nat.zero_le _, Nat.zero_le _⟩ (mv_ki fun r659 hs => ?_)
          refine mv_icmp_ge dX10_pieces_76 hs (fun _ hs => ?_) (fun _ hs => ?_)
          · exact (BX10_pieces_55_b79 G d D (by omega) P _ ih _ _ _ _ _ hs)
          · exact (BX10_pieces_55_b83 G d D (by omega) P _ ih _ _ _ _ _ hs)
      · exact (BX10_pieces_55_b83 G d D (by omega) P _ ih _ _ _ _ _ hs)
    · refine mv_iload dX10_pieces_116 rfl ?_
      refine mv_if_lt dX10_pieces_118 hs (fun _ hs => ?_) (fun _ hs => ?_)
      · exact mv_weak (lv' := [.float 0, .float 0, .float 0, .float 0, .int v4, .float 0, .float 0]) (mv_k (mv_s (mv_k (mv_k (mv_s (mv_k (mv_s mv_n))))))) (BX10_pieces_55_b126 G d D (by omega) P _ _ hs)
      · refine mv_iload_n dX10_pieces_121 rfl ?_
        refine mv_iconst 1 dX10_pieces_122 (by decide) ?_
        refine mv_icmp_ne dX10_pieces_123 hs (fun _ hs => ?_) (fun _ hs => ?_)
        · exact mv_weak (lv' := [.float 0, .float 0, .float 0, .float 0, .int v4, .float 0, .float 0]) (mv_k (mv_s (mv_k (mv_k (mv_s (mv_k (mv_s mv_n))))))) (BX10_pieces_55_b126 G d D (by omega) P _ _ hs)
        · refine mv_iload dX10_pieces_131 rfl ?_
          refine mv_cS (st := []) dX10_pieces_133 kk_X10_131 (TX10_ones G d _ _ _ (mv_sat_bind hs)) rfl rfl (Nat.le_of_ble_eq_true rfl) (by omega) rfl ⟨Nat.zero_le _, Nat.zero_le _⟩ (mv_ki fun r660 hs => ?_)
          exact mv_iret dX10_pieces_136 rfl ⟨(r660, h), rfl, rfl, rfl, mv_sat_some hs⟩
noncomputable def fX10_pieces_55 (p0 : Int32) (p1 : Int32) (p2 : Int32) (h : mv_H) : Option (Int32 × mv_H) := (fX10_isBox_55 p0 h).bind fun r650 => if r650 = 0 then some ((-1), h) else (fX10_isAxis p1).bind fun r651 => if r651 = 0 then some ((-1), h) else (fX10_in (Int32.toInt64 p2) (0 : Int64) (1 : Int64)).bind fun r652 => if r652 = 0 then some ((-2), h) else (fX10_look_55 p0 h).bind fun r653 => fX10_pieces_55_b42 mv_F p1 p2 (-6) 0 r653
set_option maxRecDepth 100000 in
set_option maxHeartbeats 4000000 in
theorem TX10_pieces_55 (G : mv_G) (d : Nat) (P : Int32 × mv_H → Prop) (p0 : Int32) (p1 : Int32) (p2 : Int32) (h : mv_H) (hs : mv_sat (fX10_pieces_55 p0 p1 p2 h) P) : mv_met G (d + 3) mX10_pieces [.ref 55, .int p0, .int p1, .int p2] mv_SH h (mv_qI mv_SH P) := by
  unfold fX10_pieces_55 at hs
  obtain ⟨D, hDe⟩ : ∃ D, D = d + 3 := ⟨_, rfl⟩
  rw [← hDe]
  have hD : d + 3 ≤ D := by omega
  refine mv_enter (lv := [.ref 55, .int p0, .int p1, .int p2, .float 0, .float 0, .float 0]) 3 (by decide) (by decide +kernel) rfl (Nat.le_of_ble_eq_true rfl) ?_
  refine mv_aload_n dX10_pieces_0 rfl ?_
  refine mv_iload_n dX10_pieces_1 rfl ?_
  refine mv_cV (st := []) dX10_pieces_2 kk_X10_146 (TX10_isBox_55 G d _ _ _ (mv_sat_bind hs)) so_55 vc_10 rfl rfl (Nat.le_of_ble_eq_true rfl) (by omega) rfl ⟨Nat.zero_le _, Nat.zero_le _⟩ (mv_ki fun r650 hs => ?_)
  refine mv_if_eq dX10_pieces_5 hs (fun _ hs => ?_) (fun _ hs => ?_)
  · refine mv_iconst (-1) dX10_pieces_15 (by decide) ?_
    exact mv_iret dX10_pieces_16 rfl ⟨((-1), h), rfl, rfl, rfl, mv_sat_some hs⟩
  · refine mv_iload_n dX10_pieces_8 rfl ?_
    refine mv_cS (st := []) dX10_pieces_9 kk_X10_206 (TX10_isAxis G d _ _ _ (mv_sat_bind hs)) rfl rfl (Nat.le_of_ble_eq_true rfl) (by omega) rfl ⟨Nat.zero_le _, Nat.zero_le _⟩ (mv_ki fun r651 hs => ?_)
    refine mv_if_ne dX10_pieces_12 hs (fun _ hs => ?_) (fun _ hs => ?_)
    · refine mv_iconst (-1) dX10_pieces_15 (by decide) ?_
      exact mv_iret dX10_pieces_16 rfl ⟨((-1), h), rfl, rfl, rfl, mv_sat_some hs⟩
    · refine mv_iload_n dX10_pieces_17 rfl ?_
      refine mv_i2l dX10_pieces_18 ?_
      refine mv_lconst 0 dX10_pieces_19 rfl ?_
      refine mv_lconst 1 dX10_pieces_20 rfl ?_
      refine mv_cS (st := []) dX10_pieces_21 kk_X10_104 (TX10_in G d _ _ _ _ _ (mv_sat_bind hs)) rfl rfl (Nat.le_of_ble_eq_true rfl) (by omega) rfl ⟨Nat.zero_le _, Nat.zero_le _⟩ (mv_ki fun r652 hs => ?_)
      refine mv_if_ne dX10_pieces_24 hs (fun _ hs => ?_) (fun _ hs => ?_)
      · refine mv_bipush (-2) dX10_pieces_27 (by decide) ?_
        exact mv_iret dX10_pieces_29 rfl ⟨((-2), h), rfl, rfl, rfl, mv_sat_some hs⟩
      · refine mv_aload_n dX10_pieces_30 rfl ?_
        refine mv_iload_n dX10_pieces_31 rfl ?_
        refine mv_cV (st := []) dX10_pieces_32 kk_X10_209 (TX10_look_55 G d _ _ _ (mv_sat_bind hs)) so_55 vc_10 rfl rfl (Nat.le_of_ble_eq_true rfl) (by omega) rfl ⟨Nat.zero_le _, Nat.zero_le _⟩ (mv_kv fun r653 hs => ?_)
        refine mv_bipush (-6) dX10_pieces_35 (by decide) ?_
        refine mv_istore (lv' := [.ref 55, .int p0, .int p1, .int p2, .int (-6), .float 0, .float 0]) dX10_pieces_37 (Nat.le_of_ble_eq_true rfl) rfl rfl ?_
        refine mv_iconst 0 dX10_pieces_39 (by decide) ?_
        refine mv_istore (lv' := [.ref 55, .int p0, .int p1, .int p2, .int (-6), .int 0, .float 0]) dX10_pieces_40 (Nat.le_of_ble_eq_true rfl) rfl rfl ?_
        exact mv_weak (lv' := [.ref 55, .float 0, .int p1, .int p2, .int (-6), .int 0, .float 0]) (mv_s (mv_k (mv_s (mv_s (mv_s (mv_s (mv_s mv_n))))))) (BX10_pieces_55_b42 G d D (by omega) P _ _ _ _ _ _ hs)
noncomputable def fX7_holdsAll_2 (p0 : Int32) (h : mv_H) : Option (Int32) := if (p0 &&& ((h 2 2) ^^^ (-1))) = 0 then some 1 else some 0
set_option maxRecDepth 100000 in
set_option maxHeartbeats 4000000 in
theorem TX7_holdsAll_2 (G : mv_G) (d : Nat) (P : Int32 → Prop) (p0 : Int32) (h : mv_H) (hs : mv_sat (fX7_holdsAll_2 p0 h) P) : mv_met G (d + 0) mX7_holdsAll [.ref 2, .int p0] mv_SH h (mv_qi mv_SH h P) := by
  unfold fX7_holdsAll_2 at hs
  obtain ⟨D, hDe⟩ : ∃ D, D = d + 0 := ⟨_, rfl⟩
  rw [← hDe]
  have hD : d + 0 ≤ D := by omega
  refine mv_enter (lv := [.ref 2, .int p0]) 0 (by decide) (by decide +kernel) rfl (Nat.le_of_ble_eq_true rfl) ?_
  refine mv_iload_n dX7_holdsAll_0 rfl ?_
  refine mv_aload_n dX7_holdsAll_1 rfl ?_
  refine mv_geti dX7_holdsAll_2 kf_X7_19 gf_2_2 ?_
  refine mv_iconst (-1) dX7_holdsAll_5 (by decide) ?_
  refine mv_ixor dX7_holdsAll_6 ?_
  refine mv_iand dX7_holdsAll_7 ?_
  refine mv_if_ne dX7_holdsAll_8 hs (fun _ hs => ?_) (fun _ hs => ?_)
  · refine mv_iconst 1 dX7_holdsAll_11 (by decide) ?_
    refine mv_goto dX7_holdsAll_12 ?_
    exact mv_zret dX7_holdsAll_16 rfl (Or.inr rfl) ⟨_, rfl, rfl, rfl, mv_sat_some hs⟩
  · refine mv_iconst 0 dX7_holdsAll_15 (by decide) ?_
    exact mv_zret dX7_holdsAll_16 rfl (Or.inl rfl) ⟨_, rfl, rfl, rfl, mv_sat_some hs⟩
noncomputable def fX0_start_41_b12 : Nat → Int32 → mv_H → Option (mv_H)
  | 0, _, _ => none
  | n + 1, v3, h => if v3 < 64 then (if mv_in v3 64 then mv_let (mv_u h 44 v3.toNatClampNeg (-1)) fun h669 : mv_H => (if mv_in v3 64 then mv_let (mv_u h669 45 v3.toNatClampNeg (-1)) fun h670 : mv_H => ((fX0_start_41_b12 n) (v3 + 1) h670) else none) else none) else some h
set_option maxRecDepth 100000 in
set_option maxHeartbeats 4000000 in
theorem BX0_start_41_b12 (G : mv_G) (d D : Nat) (hD : d + 0 ≤ D) (P : mv_H → Prop) : ∀ (n : Nat) (v3 : Int32) (h : mv_H), mv_sat (fX0_start_41_b12 n v3 h) P → mv_MW G mX0_start (mv_rm D mX0_start) (mv_Zf G mX0_start (mv_qv mv_SH P)) 0 0 12 [.ref 41, .float 0, .float 0, .int v3] [] mv_SH h := by
  intro n
  induction n with
  | zero =>
    intro v3 h hs
    unfold fX0_start_41_b12 at hs
    exact (mv_sat_none hs).elim
  | succ n ih =>
    intro v3 h hs
    unfold fX0_start_41_b12 at hs
    refine mv_iload_n dX0_start_12 rfl ?_
    refine mv_bipush 64 dX0_start_13 (by decide) ?_
    refine mv_icmp_ge dX0_start_15 hs (fun _ hs => ?_) (fun _ hs => ?_)
    · refine mv_aload_n dX0_start_18 rfl ?_
      refine mv_getr dX0_start_19 kf_X0_18 gf_41_2 ?_
      refine mv_iload_n dX0_start_22 rfl ?_
      refine mv_iconst (-1) dX0_start_23 (by decide) ?_
      refine mv_iastore dX0_start_24 so_44 hs (fun hs => ?_)
      refine mv_nameH hs (fun h669 hs => ?_)
      refine mv_aload_n dX0_start_25 rfl ?_
      refine mv_getr dX0_start_26 kf_X0_21 gf_41_3 ?_
      refine mv_iload_n dX0_start_29 rfl ?_
      refine mv_iconst (-1) dX0_start_30 (by decide) ?_
      refine mv_iastore dX0_start_31 so_45 hs (fun hs => ?_)
      refine mv_nameH hs (fun h670 hs => ?_)
      refine mv_iinc (lv' := [.ref 41, .float 0, .float 0, .int (v3 + 1)]) 1 dX0_start_32 rfl (by decide) (Nat.le_of_ble_eq_true rfl) rfl rfl ?_
      refine mv_goto dX0_start_35 ?_
      exact (ih _ _ hs)
    · exact mv_vret dX0_start_38 rfl ⟨_, rfl, rfl, rfl, mv_sat_some hs⟩
noncomputable def fX0_start_41 (p0 : Int32) (p1 : Int32) (h : mv_H) : Option (mv_H) := mv_let (mv_u h 41 4 p0) fun h667 : mv_H => mv_let (mv_u h667 41 5 p1) fun h668 : mv_H => fX0_start_41_b12 mv_F 0 h668
set_option maxRecDepth 100000 in
set_option maxHeartbeats 4000000 in
theorem TX0_start_41 (G : mv_G) (d : Nat) (P : mv_H → Prop) (p0 : Int32) (p1 : Int32) (h : mv_H) (hs : mv_sat (fX0_start_41 p0 p1 h) P) : mv_met G (d + 0) mX0_start [.ref 41, .int p0, .int p1] mv_SH h (mv_qv mv_SH P) := by
  unfold fX0_start_41 at hs
  obtain ⟨D, hDe⟩ : ∃ D, D = d + 0 := ⟨_, rfl⟩
  rw [← hDe]
  have hD : d + 0 ≤ D := by omega
  refine mv_enter (lv := [.ref 41, .int p0, .int p1, .float 0]) 1 (by decide) (by decide +kernel) rfl (Nat.le_of_ble_eq_true rfl) ?_
  refine mv_aload_n dX0_start_0 rfl ?_
  refine mv_iload_n dX0_start_1 rfl ?_
  refine mv_puti dX0_start_2 kf_X0_24 (fun q => by cases q) gf_41_4 ?_
  refine mv_nameH hs (fun h667 hs => ?_)
  refine mv_aload_n dX0_start_5 rfl ?_
  refine mv_iload_n dX0_start_6 rfl ?_
  refine mv_puti dX0_start_7 kf_X0_28 (fun q => by cases q) gf_41_5 ?_
  refine mv_nameH hs (fun h668 hs => ?_)
  refine mv_iconst 0 dX0_start_10 (by decide) ?_
  refine mv_istore_n (lv' := [.ref 41, .int p0, .int p1, .int 0]) dX0_start_11 (Nat.le_of_ble_eq_true rfl) rfl rfl ?_
  exact mv_weak (lv' := [.ref 41, .float 0, .float 0, .int 0]) (mv_s (mv_k (mv_k (mv_s mv_n)))) (BX0_start_41_b12 G d D (by omega) P _ _ _ hs)
noncomputable def fX9_startCuts_0_b83 (k33 : Int32 → Int32 → mv_H → Option (mv_H)) (v1 : Int32) (v3 : Int32) (h : mv_H) : Option (mv_H) := k33 v1 (v3 + 1) h
set_option maxRecDepth 100000 in
set_option maxHeartbeats 4000000 in
theorem BX9_startCuts_0_b83 (G : mv_G) (d D : Nat) (hD : d + 0 ≤ D) (P : mv_H → Prop) (k33 : Int32 → Int32 → mv_H → Option (mv_H)) (hk33 : ∀ (v1 : Int32) (v3 : Int32) (h : mv_H), mv_sat (k33 v1 v3 h) P → mv_MW G mX9_startCuts (mv_rm D mX9_startCuts) (mv_Zf G mX9_startCuts (mv_qv mv_SH P)) 0 0 33 [.ref 0, .int v1, .float 0, .int v3, .float 0, .float 0] [] mv_SH h) (v1 : Int32) (v3 : Int32) (h : mv_H) (hs : mv_sat (fX9_startCuts_0_b83 k33 v1 v3 h) P) : mv_MW G mX9_startCuts (mv_rm D mX9_startCuts) (mv_Zf G mX9_startCuts (mv_qv mv_SH P)) 0 0 83 [.ref 0, .int v1, .float 0, .int v3, .float 0, .float 0] [] mv_SH h := by
  unfold fX9_startCuts_0_b83 at hs
  refine mv_iinc (lv' := [.ref 0, .int v1, .float 0, .int (v3 + 1), .float 0, .float 0]) 1 dX9_startCuts_83 rfl (by decide) (Nat.le_of_ble_eq_true rfl) rfl rfl ?_
  refine mv_goto dX9_startCuts_86 ?_
  exact (hk33 _ _ _ hs)
noncomputable def fX0_want_41 (p0 : Int32) (p1 : Int32) (p2 : Int32) (h : mv_H) : Option (mv_H) := (fX9_isNumber p0).bind fun r677 => if r677 = 0 then some h else if mv_in p0 6 then mv_let (mv_u h 42 p0.toNatClampNeg p1) fun h678 : mv_H => (if mv_in p0 6 then mv_let (mv_u h678 43 p0.toNatClampNeg p2) fun h679 : mv_H => (some h679) else none) else none
set_option maxRecDepth 100000 in
set_option maxHeartbeats 4000000 in
theorem TX0_want_41 (G : mv_G) (d : Nat) (P : mv_H → Prop) (p0 : Int32) (p1 : Int32) (p2 : Int32) (h : mv_H) (hs : mv_sat (fX0_want_41 p0 p1 p2 h) P) : mv_met G (d + 1) mX0_want [.ref 41, .int p0, .int p1, .int p2] mv_SH h (mv_qv mv_SH P) := by
  unfold fX0_want_41 at hs
  obtain ⟨D, hDe⟩ : ∃ D, D = d + 1 := ⟨_, rfl⟩
  rw [← hDe]
  have hD : d + 1 ≤ D := by omega
  refine mv_enter (lv := [.ref 41, .int p0, .int p1, .int p2]) 0 (by decide) (by decide +kernel) rfl (Nat.le_of_ble_eq_true rfl) ?_
  refine mv_iload_n dX0_want_0 rfl ?_
  refine mv_cS (st := []) dX0_want_1 kk_X0_31 (TX9_isNumber G d _ _ _ (mv_sat_bind hs)) rfl rfl (Nat.le_of_ble_eq_true rfl) (by omega) rfl ⟨Nat.zero_le _, Nat.zero_le _⟩ (mv_ki fun r677 hs => ?_)
  refine mv_if_eq dX0_want_4 hs (fun _ hs => ?_) (fun _ hs => ?_)
  · exact mv_vret dX0_want_21 rfl ⟨_, rfl, rfl, rfl, mv_sat_some hs⟩
  · refine mv_aload_n dX0_want_7 rfl ?_
    refine mv_getr dX0_want_8 kf_X0_9 gf_41_0 ?_
    refine mv_iload_n dX0_want_11 rfl ?_
    refine mv_iload_n dX0_want_12 rfl ?_
    refine mv_iastore dX0_want_13 so_42 hs (fun hs => ?_)
    refine mv_nameH hs (fun h678 hs => ?_)
    refine mv_aload_n dX0_want_14 rfl ?_
    refine mv_getr dX0_want_15 kf_X0_15 gf_41_1 ?_
    refine mv_iload_n dX0_want_18 rfl ?_
    refine mv_iload_n dX0_want_19 rfl ?_
    refine mv_iastore dX0_want_20 so_43 hs (fun hs => ?_)
    refine mv_nameH hs (fun h679 hs => ?_)
    exact mv_vret dX0_want_21 rfl ⟨_, rfl, rfl, rfl, mv_sat_some hs⟩
noncomputable def fX9_startCuts_0_b33 : Nat → Int32 → Int32 → mv_H → Option (mv_H)
  | 0, _, _, _ => none
  | n + 1, v1, v3, h => if v3 < 6 then ((fX9_isIn v1 v3).bind fun r672 => if r672 = 0 then fX9_startCuts_0_b83 (fX9_startCuts_0_b33 n) v1 v3 h else (fX9_wrapOf_0 v3 h).bind fun r673 => (fX8_leastAxis_38 r673).bind fun r674 => (fX8_round_38 r674 r673).bind fun r675 => (fX8_reach_38 r674 r673).bind fun r676 => (fX0_want_41 v3 r675 r676 r673).bind fun r680 => fX9_startCuts_0_b83 (fX9_startCuts_0_b33 n) v1 v3 r680) else some h
set_option maxRecDepth 100000 in
set_option maxHeartbeats 4000000 in
theorem BX9_startCuts_0_b33 (G : mv_G) (d D : Nat) (hD : d + 4 ≤ D) (P : mv_H → Prop) : ∀ (n : Nat) (v1 : Int32) (v3 : Int32) (h : mv_H), mv_sat (fX9_startCuts_0_b33 n v1 v3 h) P → mv_MW G mX9_startCuts (mv_rm D mX9_startCuts) (mv_Zf G mX9_startCuts (mv_qv mv_SH P)) 0 0 33 [.ref 0, .int v1, .float 0, .int v3, .float 0, .float 0] [] mv_SH h := by
  intro n
  induction n with
  | zero =>
    intro v1 v3 h hs
    unfold fX9_startCuts_0_b33 at hs
    exact (mv_sat_none hs).elim
  | succ n ih =>
    intro v1 v3 h hs
    unfold fX9_startCuts_0_b33 at hs
    refine mv_iload_n dX9_startCuts_33 rfl ?_
    refine mv_bipush 6 dX9_startCuts_34 (by decide) ?_
    refine mv_icmp_ge dX9_startCuts_36 hs (fun _ hs => ?_) (fun _ hs => ?_)
    · refine mv_iload_n dX9_startCuts_39 rfl ?_
      refine mv_iload_n dX9_startCuts_40 rfl ?_
      refine mv_cS (st := []) dX9_startCuts_41 kk_X9_250 (TX9_isIn G d _ _ _ _ (mv_sat_bind hs)) rfl rfl (Nat.le_of_ble_eq_true rfl) (by omega) rfl ⟨Nat.zero_le _, Nat.zero_le _⟩ (mv_ki fun r672 hs => ?_)
      refine mv_if_eq dX9_startCuts_44 hs (fun _ hs => ?_) (fun _ hs => ?_)
      · exact (BX9_startCuts_0_b83 G d D (by omega) P _ ih _ _ _ hs)
      · refine mv_aload_n dX9_startCuts_47 rfl ?_
        refine mv_iload_n dX9_startCuts_48 rfl ?_
        refine mv_cV (st := []) dX9_startCuts_49 kk_X9_144 (TX9_wrapOf_0 G d _ _ _ (mv_sat_bind hs)) so_0 vc_9 rfl rfl (Nat.le_of_ble_eq_true rfl) (by omega) rfl ⟨Nat.zero_le _, Nat.zero_le _⟩ (mv_kc fun r673 hs => ?_)
        refine mv_astore (lv' := [.ref 0, .int v1, .float 0, .int v3, .ref 38, .float 0]) dX9_startCuts_52 (Nat.le_of_ble_eq_true rfl) rfl rfl ?_
        refine mv_aload dX9_startCuts_54 rfl ?_
        refine mv_cV (st := []) dX9_startCuts_56 kk_X9_157 (TX8_leastAxis_38 G d _ _ (mv_sat_bind hs)) so_38 vc_8 rfl rfl (Nat.le_of_ble_eq_true rfl) (by omega) rfl ⟨Nat.zero_le _, Nat.zero_le _⟩ (mv_ki fun r674 hs => ?_)
        refine mv_istore (lv' := [.ref 0, .int v1, .float 0, .int v3, .ref 38, .int r674]) dX9_startCuts_59 (Nat.le_of_ble_eq_true rfl) rfl rfl ?_
        refine mv_aload_n dX9_startCuts_61 rfl ?_
        refine mv_getr dX9_startCuts_62 kf_X9_46 gf_0_7 ?_
        refine mv_iload_n dX9_startCuts_65 rfl ?_
        refine mv_aload dX9_startCuts_66 rfl ?_
        refine mv_iload dX9_startCuts_68 rfl ?_
        refine mv_cV (st := [.int v3, .ref 41]) dX9_startCuts_70 kk_X9_148 (TX8_round_38 G d _ _ _ (mv_sat_bind hs)) so_38 vc_8 rfl rfl (Nat.le_of_ble_eq_true rfl) (by omega) rfl ⟨Nat.zero_le _, Nat.zero_le _⟩ (mv_ki fun r675 hs => ?_)
        refine mv_aload dX9_startCuts_73 rfl ?_
        refine mv_iload dX9_startCuts_75 rfl ?_
        refine mv_cV (st := [.int r675, .int v3, .ref 41]) dX9_startCuts_77 kk_X9_151 (TX8_reach_38 G d _ _ _ (mv_sat_bind hs)) so_38 vc_8 rfl rfl (Nat.le_of_ble_eq_true rfl) (by omega) rfl ⟨Nat.zero_le _, Nat.zero_le _⟩ (mv_ki fun r676 hs => ?_)
        refine mv_cV (st := []) dX9_startCuts_80 kk_X9_357 (TX0_want_41 G d _ _ _ _ _ (mv_sat_bind hs)) so_41 vc_0 rfl rfl (Nat.le_of_ble_eq_true rfl) (by omega) rfl ⟨Nat.zero_le _, Nat.zero_le _⟩ (mv_kv fun r680 hs => ?_)
        exact mv_weak (lv' := [.ref 0, .int v1, .float 0, .int v3, .float 0, .float 0]) (mv_s (mv_s (mv_s (mv_s (mv_k (mv_k mv_n)))))) (BX9_startCuts_0_b83 G d D (by omega) P _ ih _ _ _ hs)
    · exact mv_vret dX9_startCuts_89 rfl ⟨_, rfl, rfl, rfl, mv_sat_some hs⟩
noncomputable def fX9_startCuts_0 (p0 : Int32) (p1 : Int32) (h : mv_H) : Option (mv_H) := (fX7_side_6 p1 (0 : Int32) h).bind fun r665 => (fX7_side_6 p1 (1 : Int32) h).bind fun r666 => (fX0_start_41 r665 r666 h).bind fun r671 => fX9_startCuts_0_b33 mv_F p0 0 r671
set_option maxRecDepth 100000 in
set_option maxHeartbeats 4000000 in
theorem TX9_startCuts_0 (G : mv_G) (d : Nat) (P : mv_H → Prop) (p0 : Int32) (p1 : Int32) (h : mv_H) (hs : mv_sat (fX9_startCuts_0 p0 p1 h) P) : mv_met G (d + 4) mX9_startCuts [.ref 0, .int p0, .int p1] mv_SH h (mv_qv mv_SH P) := by
  unfold fX9_startCuts_0 at hs
  obtain ⟨D, hDe⟩ : ∃ D, D = d + 4 := ⟨_, rfl⟩
  rw [← hDe]
  have hD : d + 4 ≤ D := by omega
  refine mv_enter (lv := [.ref 0, .int p0, .int p1, .float 0, .float 0, .float 0]) 3 (by decide) (by decide +kernel) rfl (Nat.le_of_ble_eq_true rfl) ?_
  refine mv_aload_n dX9_startCuts_0 rfl ?_
  refine mv_getr dX9_startCuts_1 kf_X9_46 gf_0_7 ?_
  refine mv_aload_n dX9_startCuts_4 rfl ?_
  refine mv_getr dX9_startCuts_5 kf_X9_10 gf_0_0 ?_
  refine mv_getr dX9_startCuts_8 kf_X9_83 gf_1_2 ?_
  refine mv_iload_n dX9_startCuts_11 rfl ?_
  refine mv_iconst 0 dX9_startCuts_12 (by decide) ?_
  refine mv_cV (st := [.ref 41]) dX9_startCuts_13 kk_X9_163 (TX7_side_6 G d _ _ _ _ (mv_sat_bind hs)) so_6 vc_7 rfl rfl (Nat.le_of_ble_eq_true rfl) (by omega) rfl ⟨Nat.zero_le _, Nat.zero_le _⟩ (mv_ki fun r665 hs => ?_)
  refine mv_aload_n dX9_startCuts_16 rfl ?_
  refine mv_getr dX9_startCuts_17 kf_X9_10 gf_0_0 ?_
  refine mv_getr dX9_startCuts_20 kf_X9_83 gf_1_2 ?_
  refine mv_iload_n dX9_startCuts_23 rfl ?_
  refine mv_iconst 1 dX9_startCuts_24 (by decide) ?_
  refine mv_cV (st := [.int r665, .ref 41]) dX9_startCuts_25 kk_X9_163 (TX7_side_6 G d _ _ _ _ (mv_sat_bind hs)) so_6 vc_7 rfl rfl (Nat.le_of_ble_eq_true rfl) (by omega) rfl ⟨Nat.zero_le _, Nat.zero_le _⟩ (mv_ki fun r666 hs => ?_)
  refine mv_cV (st := []) dX9_startCuts_28 kk_X9_354 (TX0_start_41 G d _ _ _ _ (mv_sat_bind hs)) so_41 vc_0 rfl rfl (Nat.le_of_ble_eq_true rfl) (by omega) rfl ⟨Nat.zero_le _, Nat.zero_le _⟩ (mv_kv fun r671 hs => ?_)
  refine mv_iconst 0 dX9_startCuts_31 (by decide) ?_
  refine mv_istore_n (lv' := [.ref 0, .int p0, .int p1, .int 0, .float 0, .float 0]) dX9_startCuts_32 (Nat.le_of_ble_eq_true rfl) rfl rfl ?_
  exact mv_weak (lv' := [.ref 0, .int p0, .float 0, .int 0, .float 0, .float 0]) (mv_s (mv_s (mv_k (mv_s (mv_s (mv_s mv_n)))))) (BX9_startCuts_0_b33 G d D (by omega) P _ _ _ _ hs)
noncomputable def fX0_paperOf_41_b34 (k4 : Int32 → Int32 → Int32 → mv_H → Option (Int32)) (v1 : Int32) (v2 : Int32) (v3 : Int32) (h : mv_H) : Option (Int32) := k4 v1 v2 (v3 + 1) h
set_option maxRecDepth 100000 in
set_option maxHeartbeats 4000000 in
theorem BX0_paperOf_41_b34 (G : mv_G) (d D : Nat) (hD : d + 0 ≤ D) (P : Int32 → Prop) (k4 : Int32 → Int32 → Int32 → mv_H → Option (Int32)) (h : mv_H) (hk4 : ∀ (v1 : Int32) (v2 : Int32) (v3 : Int32), mv_sat (k4 v1 v2 v3 h) P → mv_MW G mX0_paperOf (mv_rm D mX0_paperOf) (mv_Zf G mX0_paperOf (mv_qi mv_SH h P)) 0 0 4 [.ref 41, .int v1, .int v2, .int v3] [] mv_SH h) (v1 : Int32) (v2 : Int32) (v3 : Int32) (hs : mv_sat (fX0_paperOf_41_b34 k4 v1 v2 v3 h) P) : mv_MW G mX0_paperOf (mv_rm D mX0_paperOf) (mv_Zf G mX0_paperOf (mv_qi mv_SH h P)) 0 0 34 [.ref 41, .int v1, .int v2, .int v3] [] mv_SH h := by
  unfold fX0_paperOf_41_b34 at hs
  refine mv_iinc (lv' := [.ref 41, .int v1, .int v2, .int (v3 + 1)]) 1 dX0_paperOf_34 rfl (by decide) (Nat.le_of_ble_eq_true rfl) rfl rfl ?_
  refine mv_goto dX0_paperOf_37 ?_
  exact (hk4 _ _ _ hs)
noncomputable def fX0_paperOf_41_b4 : Nat → Int32 → Int32 → Int32 → mv_H → Option (Int32)
  | 0, _, _, _, _ => none
  | n + 1, v1, v2, v3, h => if v3 < 6 then ((fX9_isIn v1 v3).bind fun r682 => if r682 = 0 then fX0_paperOf_41_b34 (fX0_paperOf_41_b4 n) v1 v2 v3 h else if mv_in v3 6 then (if mv_in v3 6 then (mv_let (v2 + ((h 42 v3.toNatClampNeg) * (h 43 v3.toNatClampNeg))) fun x683 : Int32 => fX0_paperOf_41_b34 (fX0_paperOf_41_b4 n) v1 x683 v3 h) else none) else none) else some v2
set_option maxRecDepth 100000 in
set_option maxHeartbeats 4000000 in
theorem BX0_paperOf_41_b4 (G : mv_G) (d D : Nat) (hD : d + 1 ≤ D) (P : Int32 → Prop) (h : mv_H) : ∀ (n : Nat) (v1 : Int32) (v2 : Int32) (v3 : Int32), mv_sat (fX0_paperOf_41_b4 n v1 v2 v3 h) P → mv_MW G mX0_paperOf (mv_rm D mX0_paperOf) (mv_Zf G mX0_paperOf (mv_qi mv_SH h P)) 0 0 4 [.ref 41, .int v1, .int v2, .int v3] [] mv_SH h := by
  intro n
  induction n with
  | zero =>
    intro v1 v2 v3 hs
    unfold fX0_paperOf_41_b4 at hs
    exact (mv_sat_none hs).elim
  | succ n ih =>
    intro v1 v2 v3 hs
    unfold fX0_paperOf_41_b4 at hs
    refine mv_iload_n dX0_paperOf_4 rfl ?_
    refine mv_bipush 6 dX0_paperOf_5 (by decide) ?_
    refine mv_icmp_ge dX0_paperOf_7 hs (fun _ hs => ?_) (fun _ hs => ?_)
    · refine mv_iload_n dX0_paperOf_10 rfl ?_
      refine mv_iload_n dX0_paperOf_11 rfl ?_
      refine mv_cS (st := []) dX0_paperOf_12 kk_X0_35 (TX9_isIn G d _ _ _ _ (mv_sat_bind hs)) rfl rfl (Nat.le_of_ble_eq_true rfl) (by omega) rfl ⟨Nat.zero_le _, Nat.zero_le _⟩ (mv_ki fun r682 hs => ?_)
      refine mv_if_eq dX0_paperOf_15 hs (fun _ hs => ?_) (fun _ hs => ?_)
      · exact (BX0_paperOf_41_b34 G d D (by omega) P _ _ ih _ _ _ hs)
      · refine mv_iload_n dX0_paperOf_18 rfl ?_
        refine mv_aload_n dX0_paperOf_19 rfl ?_
        refine mv_getr dX0_paperOf_20 kf_X0_9 gf_41_0 ?_
        refine mv_iload_n dX0_paperOf_23 rfl ?_
        refine mv_iaload dX0_paperOf_24 so_42 hs (fun hs => ?_)
        refine mv_aload_n dX0_paperOf_25 rfl ?_
        refine mv_getr dX0_paperOf_26 kf_X0_15 gf_41_1 ?_
        refine mv_iload_n dX0_paperOf_29 rfl ?_
        refine mv_iaload dX0_paperOf_30 so_43 hs (fun hs => ?_)
        refine mv_imul dX0_paperOf_31 ?_
        refine mv_iadd dX0_paperOf_32 ?_
        refine mv_name hs (fun x683 hs => ?_)
        refine mv_istore_n (lv' := [.ref 41, .int v1, .int x683, .int v3]) dX0_paperOf_33 (Nat.le_of_ble_eq_true rfl) rfl rfl ?_
        exact (BX0_paperOf_41_b34 G d D (by omega) P _ _ ih _ _ _ hs)
    · refine mv_iload_n dX0_paperOf_40 rfl ?_
      exact mv_iret dX0_paperOf_41 rfl ⟨_, rfl, rfl, rfl, mv_sat_some hs⟩
noncomputable def fX0_paperOf_41 (p0 : Int32) (h : mv_H) : Option (Int32) := fX0_paperOf_41_b4 mv_F p0 0 0 h
set_option maxRecDepth 100000 in
set_option maxHeartbeats 4000000 in
theorem TX0_paperOf_41 (G : mv_G) (d : Nat) (P : Int32 → Prop) (p0 : Int32) (h : mv_H) (hs : mv_sat (fX0_paperOf_41 p0 h) P) : mv_met G (d + 1) mX0_paperOf [.ref 41, .int p0] mv_SH h (mv_qi mv_SH h P) := by
  unfold fX0_paperOf_41 at hs
  obtain ⟨D, hDe⟩ : ∃ D, D = d + 1 := ⟨_, rfl⟩
  rw [← hDe]
  have hD : d + 1 ≤ D := by omega
  refine mv_enter (lv := [.ref 41, .int p0, .float 0, .float 0]) 2 (by decide) (by decide +kernel) rfl (Nat.le_of_ble_eq_true rfl) ?_
  refine mv_iconst 0 dX0_paperOf_0 (by decide) ?_
  refine mv_istore_n (lv' := [.ref 41, .int p0, .int 0, .float 0]) dX0_paperOf_1 (Nat.le_of_ble_eq_true rfl) rfl rfl ?_
  refine mv_iconst 0 dX0_paperOf_2 (by decide) ?_
  refine mv_istore_n (lv' := [.ref 41, .int p0, .int 0, .int 0]) dX0_paperOf_3 (Nat.le_of_ble_eq_true rfl) rfl rfl ?_
  exact (BX0_paperOf_41_b4 G d D (by omega) P _ _ _ _ _ hs)
noncomputable def fX0_strip_41_b74 (rc : Int32 → Int32 → mv_H → Option (Int32)) (k28 : Int32 → Int32 → Int32 → Int32 → Int32 → mv_H → Option (Int32)) (v1 : Int32) (v2 : Int32) (v3 : Int32) (v4 : Int32) (v5 : Int32) (h : mv_H) : Option (Int32) := k28 v1 v2 v3 v4 (v5 + 1) h
set_option maxRecDepth 100000 in
set_option maxHeartbeats 4000000 in
theorem BX0_strip_41_b74 (G : mv_G) (d D : Nat) (hD : d + 0 ≤ D) (rc : Int32 → Int32 → mv_H → Option (Int32)) (Dr : Nat) (hDr : Dr + 2 ≤ D) (hq : d + 20 ≤ Dr) (hrc : ∀ (a0 : Int32) (a1 : Int32) (h : mv_H) (Q : Int32 → Prop), mv_sat (rc a0 a1 h) Q → mv_met G Dr mX0_strip [.ref 41, .int a0, .int a1] mv_SH h (mv_qi mv_SH h Q)) (P : Int32 → Prop) (k28 : Int32 → Int32 → Int32 → Int32 → Int32 → mv_H → Option (Int32)) (h : mv_H) (hk28 : ∀ (v1 : Int32) (v2 : Int32) (v3 : Int32) (v4 : Int32) (v5 : Int32), mv_sat (k28 v1 v2 v3 v4 v5 h) P → mv_MW G mX0_strip (mv_rm D mX0_strip) (mv_Zf G mX0_strip (mv_qi mv_SH h P)) 0 0 28 [.ref 41, .int v1, .int v2, .int v3, .int v4, .int v5] [] mv_SH h) (v1 : Int32) (v2 : Int32) (v3 : Int32) (v4 : Int32) (v5 : Int32) (hs : mv_sat (fX0_strip_41_b74 rc k28 v1 v2 v3 v4 v5 h) P) : mv_MW G mX0_strip (mv_rm D mX0_strip) (mv_Zf G mX0_strip (mv_qi mv_SH h P)) 0 0 74 [.ref 41, .int v1, .int v2, .int v3, .int v4, .int v5] [] mv_SH h := by
  unfold fX0_strip_41_b74 at hs
  refine mv_iinc (lv' := [.ref 41, .int v1, .int v2, .int v3, .int v4, .int (v5 + 1)]) 1 dX0_strip_74 rfl (by decide) (Nat.le_of_ble_eq_true rfl) rfl rfl ?_
  refine mv_goto dX0_strip_77 ?_
  exact (hk28 _ _ _ _ _ hs)
noncomputable def fX0_stripParted_41_b89 (rc : Int32 → Int32 → mv_H → Option (Int32)) (v1 : Int32) (v2 : Int32) (v3 : Int32) (v6 : Int32) (h : mv_H) : Option (Int32) := if v2 = 0 then some v6 else (rc (1 <<< (v1 &&& 31)) v3 h).bind fun r691 => (rc v2 v3 h).bind fun r692 => mv_let (mv_min v6 (r691 + r692)) fun x693 : Int32 => some x693
set_option maxRecDepth 100000 in
set_option maxHeartbeats 4000000 in
theorem BX0_stripParted_41_b89 (G : mv_G) (d D : Nat) (hD : d + 1 ≤ D) (rc : Int32 → Int32 → mv_H → Option (Int32)) (Dr : Nat) (hDr : Dr + 1 ≤ D) (hq : d + 20 ≤ Dr) (hrc : ∀ (a0 : Int32) (a1 : Int32) (h : mv_H) (Q : Int32 → Prop), mv_sat (rc a0 a1 h) Q → mv_met G Dr mX0_strip [.ref 41, .int a0, .int a1] mv_SH h (mv_qi mv_SH h Q)) (P : Int32 → Prop) (h : mv_H) (v1 : Int32) (v2 : Int32) (v3 : Int32) (v6 : Int32) (hs : mv_sat (fX0_stripParted_41_b89 rc v1 v2 v3 v6 h) P) : mv_MW G mX0_stripParted (mv_rm D mX0_stripParted) (mv_Zf G mX0_stripParted (mv_qi mv_SH h P)) 0 0 89 [.ref 41, .int v1, .int v2, .int v3, .float 0, .float 0, .int v6] [] mv_SH h := by
  unfold fX0_stripParted_41_b89 at hs
  refine mv_iload_n dX0_stripParted_89 rfl ?_
  refine mv_if_eq dX0_stripParted_90 hs (fun _ hs => ?_) (fun _ hs => ?_)
  · refine mv_iload dX0_stripParted_115 rfl ?_
    exact mv_iret dX0_stripParted_117 rfl ⟨_, rfl, rfl, rfl, mv_sat_some hs⟩
  · refine mv_iload dX0_stripParted_93 rfl ?_
    refine mv_aload_n dX0_stripParted_95 rfl ?_
    refine mv_iconst 1 dX0_stripParted_96 (by decide) ?_
    refine mv_iload_n dX0_stripParted_97 rfl ?_
    refine mv_ishl dX0_stripParted_98 ?_
    refine mv_iload_n dX0_stripParted_99 rfl ?_
    refine mv_cV (st := [.int v6]) dX0_stripParted_100 kk_X0_64 (hrc _ _ _ _ (mv_sat_bind hs)) so_41 vc_0 rfl rfl (Nat.le_of_ble_eq_true rfl) (by omega) rfl ⟨Nat.zero_le _, Nat.zero_le _⟩ (mv_ki fun r691 hs => ?_)
    refine mv_aload_n dX0_stripParted_103 rfl ?_
    refine mv_iload_n dX0_stripParted_104 rfl ?_
    refine mv_iload_n dX0_stripParted_105 rfl ?_
    refine mv_cV (st := [.int r691, .int v6]) dX0_stripParted_106 kk_X0_64 (hrc _ _ _ _ (mv_sat_bind hs)) so_41 vc_0 rfl rfl (Nat.le_of_ble_eq_true rfl) (by omega) rfl ⟨Nat.zero_le _, Nat.zero_le _⟩ (mv_ki fun r692 hs => ?_)
    refine mv_iadd dX0_stripParted_109 ?_
    refine mv_mmin dX0_stripParted_110 kx_X0_72 kx_min_s kx_math kx_min_c (Nat.le_of_ble_eq_true rfl) (by omega) ⟨Nat.zero_le _, Nat.zero_le _⟩ ?_
    refine mv_name hs (fun x693 hs => ?_)
    refine mv_istore (lv' := [.ref 41, .int v1, .int v2, .int v3, .float 0, .float 0, .int x693]) dX0_stripParted_113 (Nat.le_of_ble_eq_true rfl) rfl rfl ?_
    refine mv_iload dX0_stripParted_115 rfl ?_
    exact mv_iret dX0_stripParted_117 rfl ⟨_, rfl, rfl, rfl, mv_sat_some hs⟩
noncomputable def fX0_stripParted_41_b62 (rc : Int32 → Int32 → mv_H → Option (Int32)) (v1 : Int32) (v2 : Int32) (v3 : Int32) (v4 : Int32) (v5 : Int32) (v6 : Int32) (h : mv_H) : Option (Int32) := if v3 < v5 then fX0_stripParted_41_b89 rc v1 v2 v3 v6 h else (rc v2 (v3 - v5) h).bind fun r694 => mv_let (mv_min v6 (mv_max v4 r694)) fun x695 : Int32 => fX0_stripParted_41_b89 rc v1 v2 v3 x695 h
set_option maxRecDepth 100000 in
set_option maxHeartbeats 4000000 in
theorem BX0_stripParted_41_b62 (G : mv_G) (d D : Nat) (hD : d + 1 ≤ D) (rc : Int32 → Int32 → mv_H → Option (Int32)) (Dr : Nat) (hDr : Dr + 1 ≤ D) (hq : d + 20 ≤ Dr) (hrc : ∀ (a0 : Int32) (a1 : Int32) (h : mv_H) (Q : Int32 → Prop), mv_sat (rc a0 a1 h) Q → mv_met G Dr mX0_strip [.ref 41, .int a0, .int a1] mv_SH h (mv_qi mv_SH h Q)) (P : Int32 → Prop) (h : mv_H) (v1 : Int32) (v2 : Int32) (v3 : Int32) (v4 : Int32) (v5 : Int32) (v6 : Int32) (hs : mv_sat (fX0_stripParted_41_b62 rc v1 v2 v3 v4 v5 v6 h) P) : mv_MW G mX0_stripParted (mv_rm D mX0_stripParted) (mv_Zf G mX0_stripParted (mv_qi mv_SH h P)) 0 0 62 [.ref 41, .int v1, .int v2, .int v3, .int v4, .int v5, .int v6] [] mv_SH h := by
  unfold fX0_stripParted_41_b62 at hs
  refine mv_iload dX0_stripParted_62 rfl ?_
  refine mv_iload_n dX0_stripParted_64 rfl ?_
  refine mv_icmp_gt dX0_stripParted_65 hs (fun _ hs => ?_) (fun _ hs => ?_)
  · exact mv_weak (lv' := [.ref 41, .int v1, .int v2, .int v3, .float 0, .float 0, .int v6]) (mv_s (mv_s (mv_s (mv_s (mv_k (mv_k (mv_s mv_n))))))) (BX0_stripParted_41_b89 G d D (by omega) _ Dr hDr hq hrc P _ _ _ _ _ hs)
  · refine mv_iload dX0_stripParted_68 rfl ?_
    refine mv_iload dX0_stripParted_70 rfl ?_
    refine mv_aload_n dX0_stripParted_72 rfl ?_
    refine mv_iload_n dX0_stripParted_73 rfl ?_
    refine mv_iload_n dX0_stripParted_74 rfl ?_
    refine mv_iload dX0_stripParted_75 rfl ?_
    refine mv_isub dX0_stripParted_77 ?_
    refine mv_cV (st := [.int v4, .int v6]) dX0_stripParted_78 kk_X0_64 (hrc _ _ _ _ (mv_sat_bind hs)) so_41 vc_0 rfl rfl (Nat.le_of_ble_eq_true rfl) (by omega) rfl ⟨Nat.zero_le _, Nat.zero_le _⟩ (mv_ki fun r694 hs => ?_)
    refine mv_mmax dX0_stripParted_81 kx_X0_77 kx_max_s kx_math kx_max_c (Nat.le_of_ble_eq_true rfl) (by omega) ⟨Nat.zero_le _, Nat.zero_le _⟩ ?_
    refine mv_mmin dX0_stripParted_84 kx_X0_72 kx_min_s kx_math kx_min_c (Nat.le_of_ble_eq_true rfl) (by omega) ⟨Nat.zero_le _, Nat.zero_le _⟩ ?_
    refine mv_name hs (fun x695 hs => ?_)
    refine mv_istore (lv' := [.ref 41, .int v1, .int v2, .int v3, .int v4, .int v5, .int x695]) dX0_stripParted_87 (Nat.le_of_ble_eq_true rfl) rfl rfl ?_
    exact mv_weak (lv' := [.ref 41, .int v1, .int v2, .int v3, .float 0, .float 0, .int x695]) (mv_s (mv_s (mv_s (mv_s (mv_k (mv_k (mv_s mv_n))))))) (BX0_stripParted_41_b89 G d D (by omega) _ Dr hDr hq hrc P _ _ _ _ _ hs)
noncomputable def fX0_stripParted_41 (rc : Int32 → Int32 → mv_H → Option (Int32)) (p0 : Int32) (p1 : Int32) (p2 : Int32) (h : mv_H) : Option (Int32) := if p0 < 0 then some 1000 else if p0 < 6 then (if mv_in p0 6 then (mv_let (h 42 p0.toNatClampNeg) fun x689 : Int32 => if mv_in p0 6 then (mv_let (h 43 p0.toNatClampNeg) fun x690 : Int32 => if p2 < x689 then fX0_stripParted_41_b62 rc p0 p1 p2 x689 x690 1000 h else (rc p1 (p2 - x689) h).bind fun r696 => mv_let (mv_min 1000 (mv_max x690 r696)) fun x697 : Int32 => fX0_stripParted_41_b62 rc p0 p1 p2 x689 x690 x697 h) else none) else none) else some 1000
set_option maxRecDepth 100000 in
set_option maxHeartbeats 4000000 in
theorem TX0_stripParted_41 (G : mv_G) (d D : Nat) (rc : Int32 → Int32 → mv_H → Option (Int32)) (Dr : Nat) (hDr : Dr + 1 ≤ D) (hq : d + 20 ≤ Dr) (hrc : ∀ (a0 : Int32) (a1 : Int32) (h : mv_H) (Q : Int32 → Prop), mv_sat (rc a0 a1 h) Q → mv_met G Dr mX0_strip [.ref 41, .int a0, .int a1] mv_SH h (mv_qi mv_SH h Q)) (P : Int32 → Prop) (p0 : Int32) (p1 : Int32) (p2 : Int32) (h : mv_H) (hs : mv_sat (fX0_stripParted_41 rc p0 p1 p2 h) P) : mv_met G D mX0_stripParted [.ref 41, .int p0, .int p1, .int p2] mv_SH h (mv_qi mv_SH h P) := by
  unfold fX0_stripParted_41 at hs
  have hD : d + 1 ≤ D := by omega
  refine mv_enter (lv := [.ref 41, .int p0, .int p1, .int p2, .float 0, .float 0, .float 0]) 3 (by decide) (by decide +kernel) rfl (Nat.le_of_ble_eq_true rfl) ?_
  refine mv_iload_n dX0_stripParted_0 rfl ?_
  refine mv_if_lt dX0_stripParted_1 hs (fun _ hs => ?_) (fun _ hs => ?_)
  · refine mv_sipush 1000 dX0_stripParted_10 (by decide) ?_
    exact mv_iret dX0_stripParted_13 rfl ⟨_, rfl, rfl, rfl, mv_sat_some hs⟩
  · refine mv_iload_n dX0_stripParted_4 rfl ?_
    refine mv_bipush 6 dX0_stripParted_5 (by decide) ?_
    refine mv_icmp_lt dX0_stripParted_7 hs (fun _ hs => ?_) (fun _ hs => ?_)
    · refine mv_aload_n dX0_stripParted_14 rfl ?_
      refine mv_getr dX0_stripParted_15 kf_X0_9 gf_41_0 ?_
      refine mv_iload_n dX0_stripParted_18 rfl ?_
      refine mv_iaload dX0_stripParted_19 so_42 hs (fun hs => ?_)
      refine mv_name hs (fun x689 hs => ?_)
      refine mv_istore (lv' := [.ref 41, .int p0, .int p1, .int p2, .int x689, .float 0, .float 0]) dX0_stripParted_20 (Nat.le_of_ble_eq_true rfl) rfl rfl ?_
      refine mv_aload_n dX0_stripParted_22 rfl ?_
      refine mv_getr dX0_stripParted_23 kf_X0_15 gf_41_1 ?_
      refine mv_iload_n dX0_stripParted_26 rfl ?_
      refine mv_iaload dX0_stripParted_27 so_43 hs (fun hs => ?_)
      refine mv_name hs (fun x690 hs => ?_)
      refine mv_istore (lv' := [.ref 41, .int p0, .int p1, .int p2, .int x689, .int x690, .float 0]) dX0_stripParted_28 (Nat.le_of_ble_eq_true rfl) rfl rfl ?_
      refine mv_sipush 1000 dX0_stripParted_30 (by decide) ?_
      refine mv_istore (lv' := [.ref 41, .int p0, .int p1, .int p2, .int x689, .int x690, .int 1000]) dX0_stripParted_33 (Nat.le_of_ble_eq_true rfl) rfl rfl ?_
      refine mv_iload dX0_stripParted_35 rfl ?_
      refine mv_iload_n dX0_stripParted_37 rfl ?_
      refine mv_icmp_gt dX0_stripParted_38 hs (fun _ hs => ?_) (fun _ hs => ?_)
      · exact (BX0_stripParted_41_b62 G d D (by omega) _ Dr hDr hq hrc P _ _ _ _ _ _ _ hs)
      · refine mv_iload dX0_stripParted_41 rfl ?_
        refine mv_iload dX0_stripParted_43 rfl ?_
        refine mv_aload_n dX0_stripParted_45 rfl ?_
        refine mv_iload_n dX0_stripParted_46 rfl ?_
        refine mv_iload_n dX0_stripParted_47 rfl ?_
        refine mv_iload dX0_stripParted_48 rfl ?_
        refine mv_isub dX0_stripParted_50 ?_
        refine mv_cV (st := [.int x690, .int 1000]) dX0_stripParted_51 kk_X0_64 (hrc _ _ _ _ (mv_sat_bind hs)) so_41 vc_0 rfl rfl (Nat.le_of_ble_eq_true rfl) (by omega) rfl ⟨Nat.zero_le _, Nat.zero_le _⟩ (mv_ki fun r696 hs => ?_)
        refine mv_mmax dX0_stripParted_54 kx_X0_77 kx_max_s kx_math kx_max_c (Nat.le_of_ble_eq_true rfl) (by omega) ⟨Nat.zero_le _, Nat.zero_le _⟩ ?_
        refine mv_mmin dX0_stripParted_57 kx_X0_72 kx_min_s kx_math kx_min_c (Nat.le_of_ble_eq_true rfl) (by omega) ⟨Nat.zero_le _, Nat.zero_le _⟩ ?_
        refine mv_name hs (fun x697 hs => ?_)
        refine mv_istore (lv' := [.ref 41, .int p0, .int p1, .int p2, .int x689, .int x690, .int x697]) dX0_stripParted_60 (Nat.le_of_ble_eq_true rfl) rfl rfl ?_
        exact (BX0_stripParted_41_b62 G d D (by omega) _ Dr hDr hq hrc P _ _ _ _ _ _ _ hs)
    · refine mv_sipush 1000 dX0_stripParted_10 (by decide) ?_
      exact mv_iret dX0_stripParted_13 rfl ⟨_, rfl, rfl, rfl, mv_sat_some hs⟩
noncomputable def fX0_strip_41_b28 (rc : Int32 → Int32 → mv_H → Option (Int32)) : Nat → Int32 → Int32 → Int32 → Int32 → Int32 → mv_H → Option (Int32)
  | 0, _, _, _, _, _, _ => none
  | n + 1, v1, v2, v3, v4, v5, h => if v5 < 6 then ((fX9_isIn v1 v5).bind fun r688 => if r688 = 0 then fX0_strip_41_b74 rc (fX0_strip_41_b28 rc n) v1 v2 v3 v4 v5 h else (fX0_stripParted_41 rc v5 (v1 &&& ((1 <<< (v5 &&& 31)) ^^^ (-1))) v2 h).bind fun r698 => mv_let (mv_min v4 r698) fun x699 : Int32 => if v3 = 2 then some x699 else fX0_strip_41_b74 rc (fX0_strip_41_b28 rc n) v1 v2 v3 x699 v5 h) else some v4
set_option maxRecDepth 100000 in
set_option maxHeartbeats 4000000 in
theorem BX0_strip_41_b28 (G : mv_G) (d D : Nat) (hD : d + 1 ≤ D) (rc : Int32 → Int32 → mv_H → Option (Int32)) (Dr : Nat) (hDr : Dr + 2 ≤ D) (hq : d + 20 ≤ Dr) (hrc : ∀ (a0 : Int32) (a1 : Int32) (h : mv_H) (Q : Int32 → Prop), mv_sat (rc a0 a1 h) Q → mv_met G Dr mX0_strip [.ref 41, .int a0, .int a1] mv_SH h (mv_qi mv_SH h Q)) (P : Int32 → Prop) (h : mv_H) : ∀ (n : Nat) (v1 : Int32) (v2 : Int32) (v3 : Int32) (v4 : Int32) (v5 : Int32), mv_sat (fX0_strip_41_b28 rc n v1 v2 v3 v4 v5 h) P → mv_MW G mX0_strip (mv_rm D mX0_strip) (mv_Zf G mX0_strip (mv_qi mv_SH h P)) 0 0 28 [.ref 41, .int v1, .int v2, .int v3, .int v4, .int v5] [] mv_SH h := by
  intro n
  induction n with
  | zero =>
    intro v1 v2 v3 v4 v5 hs
    unfold fX0_strip_41_b28 at hs
    exact (mv_sat_none hs).elim
  | succ n ih =>
    intro v1 v2 v3 v4 v5 hs
    unfold fX0_strip_41_b28 at hs
    refine mv_iload dX0_strip_28 rfl ?_
    refine mv_bipush 6 dX0_strip_30 (by decide) ?_
    refine mv_icmp_ge dX0_strip_32 hs (fun _ hs => ?_) (fun _ hs => ?_)
    · refine mv_iload_n dX0_strip_35 rfl ?_
      refine mv_iload dX0_strip_36 rfl ?_
      refine mv_cS (st := []) dX0_strip_38 kk_X0_35 (TX9_isIn G d _ _ _ _ (mv_sat_bind hs)) rfl rfl (Nat.le_of_ble_eq_true rfl) (by omega) rfl ⟨Nat.zero_le _, Nat.zero_le _⟩ (mv_ki fun r688 hs => ?_)
      refine mv_if_eq dX0_strip_41 hs (fun _ hs => ?_) (fun _ hs => ?_)
      · exact (BX0_strip_41_b74 G d D (by omega) _ Dr hDr hq hrc P _ _ ih _ _ _ _ _ hs)
      · refine mv_iload dX0_strip_44 rfl ?_
        refine mv_aload_n dX0_strip_46 rfl ?_
        refine mv_iload dX0_strip_47 rfl ?_
        refine mv_iload_n dX0_strip_49 rfl ?_
        refine mv_iconst 1 dX0_strip_50 (by decide) ?_
        refine mv_iload dX0_strip_51 rfl ?_
        refine mv_ishl dX0_strip_53 ?_
        refine mv_iconst (-1) dX0_strip_54 (by decide) ?_
        refine mv_ixor dX0_strip_55 ?_
        refine mv_iand dX0_strip_56 ?_
        refine mv_iload_n dX0_strip_57 rfl ?_
        refine mv_cV (st := [.int v4]) dX0_strip_58 kk_X0_68 (TX0_stripParted_41 G d (Dr + 1) _ Dr (by omega) hq hrc _ _ _ _ _ (mv_sat_bind hs)) so_41 vc_0 rfl rfl (Nat.le_of_ble_eq_true rfl) (by omega) rfl ⟨Nat.zero_le _, Nat.zero_le _⟩ (mv_ki fun r698 hs => ?_)
        refine mv_mmin dX0_strip_61 kx_X0_72 kx_min_s kx_math kx_min_c (Nat.le_of_ble_eq_true rfl) (by omega) ⟨Nat.zero_le _, Nat.zero_le _⟩ ?_
        refine mv_name hs (fun x699 hs => ?_)
        refine mv_istore (lv' := [.ref 41, .int v1, .int v2, .int v3, .int x699, .int v5]) dX0_strip_64 (Nat.le_of_ble_eq_true rfl) rfl rfl ?_
        refine mv_iload_n dX0_strip_66 rfl ?_
        refine mv_iconst 2 dX0_strip_67 (by decide) ?_
        refine mv_icmp_ne dX0_strip_68 hs (fun _ hs => ?_) (fun _ hs => ?_)
        · refine mv_iload dX0_strip_71 rfl ?_
          exact mv_iret dX0_strip_73 rfl ⟨_, rfl, rfl, rfl, mv_sat_some hs⟩
        · exact (BX0_strip_41_b74 G d D (by omega) _ Dr hDr hq hrc P _ _ ih _ _ _ _ _ hs)
    · refine mv_iload dX0_strip_80 rfl ?_
      exact mv_iret dX0_strip_82 rfl ⟨_, rfl, rfl, rfl, mv_sat_some hs⟩
noncomputable def fX0_strip_41 : Nat → Int32 → Int32 → mv_H → Option (Int32)
  | 0, _, _, _ => none
  | n + 1, p0, p1, h => (fJ6_bitCount_0f7a4 p0).bind fun r687 => if r687 = 0 then some 0 else if r687 < 4 then fX0_strip_41_b28 (fX0_strip_41 n) mv_F p0 p1 r687 1000 0 h else some 1000
set_option maxRecDepth 100000 in
set_option maxHeartbeats 4000000 in
theorem TX0_strip_41 (G : mv_G) (d : Nat) : ∀ (n : Nat) (p0 : Int32) (p1 : Int32) (h : mv_H) (P : Int32 → Prop), mv_sat (fX0_strip_41 n p0 p1 h) P → mv_met G (d + 24 + 2 * n) mX0_strip [.ref 41, .int p0, .int p1] mv_SH h (mv_qi mv_SH h P) := by
  intro n
  induction n with
  | zero =>
    intro p0 p1 h P hs
    unfold fX0_strip_41 at hs
    exact (mv_sat_none hs).elim
  | succ n ih =>
    intro p0 p1 h P hs
    unfold fX0_strip_41 at hs
    obtain ⟨D, hDe⟩ : ∃ D, D = d + 24 + 2 * (n + 1) := ⟨_, rfl⟩
    rw [← hDe]
    obtain ⟨Dr, hDre⟩ : ∃ Dr, Dr = d + 24 + 2 * n := ⟨_, rfl⟩
    rw [← hDre] at ih
    have hD : d + 1 ≤ D := by omega
    have hDr : Dr + 2 ≤ D := by omega
    have hq : d + 20 ≤ Dr := by omega
    refine mv_enter (lv := [.ref 41, .int p0, .int p1, .float 0, .float 0, .float 0]) 3 (by decide) (by decide +kernel) rfl (Nat.le_of_ble_eq_true rfl) ?_
    refine mv_iload_n dX0_strip_0 rfl ?_
    refine mv_cS (st := []) dX0_strip_1 kk_X0_39 (TJ6_bitCount_0f7a4 G d _ _ _ (mv_sat_bind hs)) rfl rfl (Nat.le_of_ble_eq_true rfl) (by omega) rfl ⟨Nat.zero_le _, Nat.zero_le _⟩ (mv_ki fun r687 hs => ?_)
    refine mv_istore_n (lv' := [.ref 41, .int p0, .int p1, .int r687, .float 0, .float 0]) dX0_strip_4 (Nat.le_of_ble_eq_true rfl) rfl rfl ?_
    refine mv_iload_n dX0_strip_5 rfl ?_
    refine mv_if_ne dX0_strip_6 hs (fun _ hs => ?_) (fun _ hs => ?_)
    · refine mv_iconst 0 dX0_strip_9 (by decide) ?_
      exact mv_iret dX0_strip_10 rfl ⟨_, rfl, rfl, rfl, mv_sat_some hs⟩
    · refine mv_iload_n dX0_strip_11 rfl ?_
      refine mv_iconst 4 dX0_strip_12 (by decide) ?_
      refine mv_icmp_lt dX0_strip_13 hs (fun _ hs => ?_) (fun _ hs => ?_)
      · refine mv_sipush 1000 dX0_strip_20 (by decide) ?_
        refine mv_istore (lv' := [.ref 41, .int p0, .int p1, .int r687, .int 1000, .float 0]) dX0_strip_23 (Nat.le_of_ble_eq_true rfl) rfl rfl ?_
        refine mv_iconst 0 dX0_strip_25 (by decide) ?_
        refine mv_istore (lv' := [.ref 41, .int p0, .int p1, .int r687, .int 1000, .int 0]) dX0_strip_26 (Nat.le_of_ble_eq_true rfl) rfl rfl ?_
        exact (BX0_strip_41_b28 G d D (by omega) _ Dr hDr hq ih P _ _ _ _ _ _ _ hs)
      · refine mv_sipush 1000 dX0_strip_16 (by decide) ?_
        exact mv_iret dX0_strip_19 rfl ⟨_, rfl, rfl, rfl, mv_sat_some hs⟩
noncomputable def fX0_stripByHeight_41_b39 (v1 : Int32) (h : mv_H) : Option (Int32 × mv_H) := if mv_in v1 64 then (some (h 45 v1.toNatClampNeg, h)) else none
set_option maxRecDepth 100000 in
set_option maxHeartbeats 4000000 in
theorem BX0_stripByHeight_41_b39 (G : mv_G) (d D : Nat) (hD : d + 0 ≤ D) (P : Int32 × mv_H → Prop) (v1 : Int32) (h : mv_H) (hs : mv_sat (fX0_stripByHeight_41_b39 v1 h) P) : mv_MW G mX0_stripByHeight (mv_rm D mX0_stripByHeight) (mv_Zf G mX0_stripByHeight (mv_qI mv_SH P)) 0 0 39 [.ref 41, .int v1] [] mv_SH h := by
  unfold fX0_stripByHeight_41_b39 at hs
  refine mv_aload_n dX0_stripByHeight_39 rfl ?_
  refine mv_getr dX0_stripByHeight_40 kf_X0_21 gf_41_3 ?_
  refine mv_iload_n dX0_stripByHeight_43 rfl ?_
  refine mv_iaload dX0_stripByHeight_44 so_45 hs (fun hs => ?_)
  exact mv_iret dX0_stripByHeight_45 rfl ⟨(h 45 v1.toNatClampNeg, h), rfl, rfl, rfl, mv_sat_some hs⟩
noncomputable def fX0_stripByHeight_41 (p0 : Int32) (h : mv_H) : Option (Int32 × mv_H) := (fX9_isWithin p0 (0 : Int32) (63 : Int32)).bind fun r686 => if r686 = 0 then some (1000, h) else if mv_in p0 64 then (if (h 45 p0.toNatClampNeg) = (-1) then ((fX0_strip_41 mv_R p0 (h 41 5) h).bind fun r700 => if mv_in p0 64 then mv_let (mv_u h 45 p0.toNatClampNeg r700) fun h701 : mv_H => (fX0_stripByHeight_41_b39 p0 h701) else none) else fX0_stripByHeight_41_b39 p0 h) else none
set_option maxRecDepth 100000 in
set_option maxHeartbeats 4000000 in
theorem TX0_stripByHeight_41 (G : mv_G) (d : Nat) (P : Int32 × mv_H → Prop) (p0 : Int32) (h : mv_H) (hs : mv_sat (fX0_stripByHeight_41 p0 h) P) : mv_met G (d + 45) mX0_stripByHeight [.ref 41, .int p0] mv_SH h (mv_qI mv_SH P) := by
  unfold fX0_stripByHeight_41 at hs
  obtain ⟨D, hDe⟩ : ∃ D, D = d + 45 := ⟨_, rfl⟩
  rw [← hDe]
  have hD : d + 45 ≤ D := by omega
  refine mv_enter (lv := [.ref 41, .int p0]) 0 (by decide) (by decide +kernel) rfl (Nat.le_of_ble_eq_true rfl) ?_
  refine mv_iload_n dX0_stripByHeight_0 rfl ?_
  refine mv_iconst 0 dX0_stripByHeight_1 (by decide) ?_
  refine mv_bipush 63 dX0_stripByHeight_2 (by decide) ?_
  refine mv_cS (st := []) dX0_stripByHeight_4 kk_X0_60 (TX9_isWithin G d _ _ _ _ _ (mv_sat_bind hs)) rfl rfl (Nat.le_of_ble_eq_true rfl) (by omega) rfl ⟨Nat.zero_le _, Nat.zero_le _⟩ (mv_ki fun r686 hs => ?_)
  refine mv_if_ne dX0_stripByHeight_7 hs (fun _ hs => ?_) (fun _ hs => ?_)
  · refine mv_sipush 1000 dX0_stripByHeight_10 (by decide) ?_
    exact mv_iret dX0_stripByHeight_13 rfl ⟨(1000, h), rfl, rfl, rfl, mv_sat_some hs⟩
  · refine mv_aload_n dX0_stripByHeight_14 rfl ?_
    refine mv_getr dX0_stripByHeight_15 kf_X0_21 gf_41_3 ?_
    refine mv_iload_n dX0_stripByHeight_18 rfl ?_
    refine mv_iaload dX0_stripByHeight_19 so_45 hs (fun hs => ?_)
    refine mv_iconst (-1) dX0_stripByHeight_20 (by decide) ?_
    refine mv_icmp_ne dX0_stripByHeight_21 hs (fun _ hs => ?_) (fun _ hs => ?_)
    · refine mv_aload_n dX0_stripByHeight_24 rfl ?_
      refine mv_getr dX0_stripByHeight_25 kf_X0_21 gf_41_3 ?_
      refine mv_iload_n dX0_stripByHeight_28 rfl ?_
      refine mv_aload_n dX0_stripByHeight_29 rfl ?_
      refine mv_iload_n dX0_stripByHeight_30 rfl ?_
      refine mv_aload_n dX0_stripByHeight_31 rfl ?_
      refine mv_geti dX0_stripByHeight_32 kf_X0_28 gf_41_5 ?_
      refine mv_cV (st := [.int p0, .ref 45]) dX0_stripByHeight_35 kk_X0_64 (TX0_strip_41 G d mv_R _ _ _ _ (mv_sat_bind hs)) so_41 vc_0 rfl rfl (Nat.le_of_ble_eq_true rfl) (by have := mv_R_eq; omega) rfl ⟨Nat.zero_le _, Nat.zero_le _⟩ (mv_ki fun r700 hs => ?_)
      refine mv_iastore dX0_stripByHeight_38 so_45 hs (fun hs => ?_)
      refine mv_nameH hs (fun h701 hs => ?_)
      exact (BX0_stripByHeight_41_b39 G d D (by omega) P _ _ hs)
    · exact (BX0_stripByHeight_41_b39 G d D (by omega) P _ _ hs)
