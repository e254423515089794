/-! printed by program: what a method does, as a function, and that it does it -/
noncomputable def fX10_isNumber (p0 : Int32) : Option (Int32) := (fX10_in (Int32.toInt64 p0) (0 : Int64) (5 : Int64)).bind fun r161 => if mv_01 r161 then some r161 else none
set_option maxRecDepth 100000 in
set_option maxHeartbeats 4000000 in
theorem TX10_isNumber (G : mv_G) (d : Nat) (P : Int32 → Prop) (p0 : Int32) (h : mv_H) (hs : mv_sat (fX10_isNumber p0) P) : mv_met G (d + 1) mX10_isNumber [.int p0] mv_SH h (mv_qi mv_SH h P) := by
  unfold fX10_isNumber at hs
  obtain ⟨D, hDe⟩ : ∃ D, D = d + 1 := ⟨_, rfl⟩
  rw [← hDe]
  have hD : d + 1 ≤ D := by omega
  refine mv_enter (lv := [.int p0]) 0 (by decide) (by decide +kernel) rfl (Nat.le_of_ble_eq_true rfl) ?_
  refine mv_iload_n dX10_isNumber_0 rfl ?_
  refine mv_i2l dX10_isNumber_1 ?_
  refine mv_lconst 0 dX10_isNumber_2 rfl ?_
  refine mv_ldc2 dX10_isNumber_3 kn_X10_102 ?_
  refine mv_cS (st := []) dX10_isNumber_6 kk_X10_104 (TX10_in G d _ _ _ _ _ (mv_sat_bind hs)) rfl rfl (Nat.le_of_ble_eq_true rfl) (by omega) rfl ⟨Nat.zero_le _, Nat.zero_le _⟩ (mv_ki fun r161 hs => ?_)
  obtain ⟨h01, hs⟩ := mv_sat_g hs
  exact mv_zret dX10_isNumber_9 rfl h01 ⟨_, rfl, rfl, rfl, mv_sat_some hs⟩
noncomputable def fX10_areSides (p0 : Int32) (p1 : Int32) (p2 : Int32) : Option (Int32) := (fX10_in (Int32.toInt64 p0) (1 : Int64) (20 : Int64)).bind fun r163 => if r163 = 0 then some 0 else (fX10_in (Int32.toInt64 p1) (1 : Int64) (20 : Int64)).bind fun r164 => if r164 = 0 then some 0 else (fX10_in (Int32.toInt64 p2) (1 : Int64) (20 : Int64)).bind fun r165 => if r165 = 0 then some 0 else some 1
set_option maxRecDepth 100000 in
set_option maxHeartbeats 4000000 in
theorem TX10_areSides (G : mv_G) (d : Nat) (P : Int32 → Prop) (p0 : Int32) (p1 : Int32) (p2 : Int32) (h : mv_H) (hs : mv_sat (fX10_areSides p0 p1 p2) P) : mv_met G (d + 1) mX10_areSides [.int p0, .int p1, .int p2] mv_SH h (mv_qi mv_SH h P) := by
  unfold fX10_areSides at hs
  obtain ⟨D, hDe⟩ : ∃ D, D = d + 1 := ⟨_, rfl⟩
  rw [← hDe]
  have hD : d + 1 ≤ D := by omega
  refine mv_enter (lv := [.int p0, .int p1, .int p2]) 0 (by decide) (by decide +kernel) rfl (Nat.le_of_ble_eq_true rfl) ?_
  refine mv_iload_n dX10_areSides_0 rfl ?_
  refine mv_i2l dX10_areSides_1 ?_
  refine mv_lconst 1 dX10_areSides_2 rfl ?_
  refine mv_ldc2 dX10_areSides_3 kn_X10_121 ?_
  refine mv_cS (st := []) dX10_areSides_6 kk_X10_104 (TX10_in G d _ _ _ _ _ (mv_sat_bind hs)) rfl rfl (Nat.le_of_ble_eq_true rfl) (by omega) rfl ⟨Nat.zero_le _, Nat.zero_le _⟩ (mv_ki fun r163 hs => ?_)
  refine mv_if_eq dX10_areSides_9 hs (fun _ hs => ?_) (fun _ hs => ?_)
  · refine mv_iconst 0 dX10_areSides_40 (by decide) ?_
    exact mv_zret dX10_areSides_41 rfl (Or.inl rfl) ⟨_, rfl, rfl, rfl, mv_sat_some hs⟩
  · refine mv_iload_n dX10_areSides_12 rfl ?_
    refine mv_i2l dX10_areSides_13 ?_
    refine mv_lconst 1 dX10_areSides_14 rfl ?_
    refine mv_ldc2 dX10_areSides_15 kn_X10_121 ?_
    refine mv_cS (st := []) dX10_areSides_18 kk_X10_104 (TX10_in G d _ _ _ _ _ (mv_sat_bind hs)) rfl rfl (Nat.le_of_ble_eq_true rfl) (by omega) rfl ⟨Nat.zero_le _, Nat.zero_le _⟩ (mv_ki fun r164 hs => ?_)
    refine mv_if_eq dX10_areSides_21 hs (fun _ hs => ?_) (fun _ hs => ?_)
    · refine mv_iconst 0 dX10_areSides_40 (by decide) ?_
      exact mv_zret dX10_areSides_41 rfl (Or.inl rfl) ⟨_, rfl, rfl, rfl, mv_sat_some hs⟩
    · refine mv_iload_n dX10_areSides_24 rfl ?_
      refine mv_i2l dX10_areSides_25 ?_
      refine mv_lconst 1 dX10_areSides_26 rfl ?_
      refine mv_ldc2 dX10_areSides_27 kn_X10_121 ?_
      refine mv_cS (st := []) dX10_areSides_30 kk_X10_104 (TX10_in G d _ _ _ _ _ (mv_sat_bind hs)) rfl rfl (Nat.le_of_ble_eq_true rfl) (by omega) rfl ⟨Nat.zero_le _, Nat.zero_le _⟩ (mv_ki fun r165 hs => ?_)
      refine mv_if_eq dX10_areSides_33 hs (fun _ hs => ?_) (fun _ hs => ?_)
      · refine mv_iconst 0 dX10_areSides_40 (by decide) ?_
        exact mv_zret dX10_areSides_41 rfl (Or.inl rfl) ⟨_, rfl, rfl, rfl, mv_sat_some hs⟩
      · refine mv_iconst 1 dX10_areSides_36 (by decide) ?_
        refine mv_goto dX10_areSides_37 ?_
        exact mv_zret dX10_areSides_41 rfl (Or.inr rfl) ⟨_, rfl, rfl, rfl, mv_sat_some hs⟩
noncomputable def fX10_putBox_55 (p0 : Int32) (p1 : Int32) (p2 : Int32) (p3 : Int32) (h : mv_H) : Option (mv_H) := if mv_in (3 * p0) 18 then mv_let (mv_u h 56 (3 * p0).toNatClampNeg p1) fun h167 : mv_H => (if mv_in ((3 * p0) + 1) 18 then mv_let (mv_u h167 56 ((3 * p0) + 1).toNatClampNeg p2) fun h168 : mv_H => (if mv_in ((3 * p0) + 2) 18 then mv_let (mv_u h168 56 ((3 * p0) + 2).toNatClampNeg p3) fun h169 : mv_H => (mv_let (mv_u h169 55 0 ((h169 55 0) ||| (1 <<< (p0 &&& 31)))) fun h170 : mv_H => some h170) else none) else none) else none
set_option maxRecDepth 100000 in
set_option maxHeartbeats 4000000 in
theorem TX10_putBox_55 (G : mv_G) (d : Nat) (P : mv_H → Prop) (p0 : Int32) (p1 : Int32) (p2 : Int32) (p3 : Int32) (h : mv_H) (hs : mv_sat (fX10_putBox_55 p0 p1 p2 p3 h) P) : mv_met G (d + 0) mX10_putBox [.ref 55, .int p0, .int p1, .int p2, .int p3] mv_SH h (mv_qv mv_SH P) := by
  unfold fX10_putBox_55 at hs
  obtain ⟨D, hDe⟩ : ∃ D, D = d + 0 := ⟨_, rfl⟩
  rw [← hDe]
  have hD : d + 0 ≤ D := by omega
  refine mv_enter (lv := [.ref 55, .int p0, .int p1, .int p2, .int p3]) 0 (by decide) (by decide +kernel) rfl (Nat.le_of_ble_eq_true rfl) ?_
  refine mv_aload_n dX10_putBox_0 rfl ?_
  refine mv_getr dX10_putBox_1 kf_X10_7 gf_55_3 ?_
  refine mv_iconst 3 dX10_putBox_4 (by decide) ?_
  refine mv_iload_n dX10_putBox_5 rfl ?_
  refine mv_imul dX10_putBox_6 ?_
  refine mv_iload_n dX10_putBox_7 rfl ?_
  refine mv_iastore dX10_putBox_8 so_56 hs (fun hs => ?_)
  refine mv_nameH hs (fun h167 hs => ?_)
  refine mv_aload_n dX10_putBox_9 rfl ?_
  refine mv_getr dX10_putBox_10 kf_X10_7 gf_55_3 ?_
  refine mv_iconst 3 dX10_putBox_13 (by decide) ?_
  refine mv_iload_n dX10_putBox_14 rfl ?_
  refine mv_imul dX10_putBox_15 ?_
  refine mv_iconst 1 dX10_putBox_16 (by decide) ?_
  refine mv_iadd dX10_putBox_17 ?_
  refine mv_iload_n dX10_putBox_18 rfl ?_
  refine mv_iastore dX10_putBox_19 so_56 hs (fun hs => ?_)
  refine mv_nameH hs (fun h168 hs => ?_)
  refine mv_aload_n dX10_putBox_20 rfl ?_
  refine mv_getr dX10_putBox_21 kf_X10_7 gf_55_3 ?_
  refine mv_iconst 3 dX10_putBox_24 (by decide) ?_
  refine mv_iload_n dX10_putBox_25 rfl ?_
  refine mv_imul dX10_putBox_26 ?_
  refine mv_iconst 2 dX10_putBox_27 (by decide) ?_
  refine mv_iadd dX10_putBox_28 ?_
  refine mv_iload dX10_putBox_29 rfl ?_
  refine mv_iastore dX10_putBox_31 so_56 hs (fun hs => ?_)
  refine mv_nameH hs (fun h169 hs => ?_)
  refine mv_aload_n dX10_putBox_32 rfl ?_
  refine mv_dup dX10_putBox_33 rfl ?_
  refine mv_geti dX10_putBox_34 kf_X10_112 gf_55_0 ?_
  refine mv_iconst 1 dX10_putBox_37 (by decide) ?_
  refine mv_iload_n dX10_putBox_38 rfl ?_
  refine mv_ishl dX10_putBox_39 ?_
  refine mv_ior dX10_putBox_40 ?_
  refine mv_puti dX10_putBox_41 kf_X10_112 (fun q => by cases q) gf_55_0 ?_
  refine mv_nameH hs (fun h170 hs => ?_)
  exact mv_vret dX10_putBox_44 rfl ⟨_, rfl, rfl, rfl, mv_sat_some hs⟩
noncomputable def fX10_ones_b4 : Nat → Int32 → Int32 → Option (Int32)
  | 0, _, _ => none
  | n + 1, v1, v2 => if v2 = 0 then some v1 else mv_let (v2 &&& (v2 - 1)) fun x172 : Int32 => (fX10_ones_b4 n) (v1 + 1) x172
set_option maxRecDepth 100000 in
set_option maxHeartbeats 4000000 in
theorem BX10_ones_b4 (G : mv_G) (d D : Nat) (hD : d + 0 ≤ D) (P : Int32 → Prop) (h : mv_H) : ∀ (n : Nat) (v1 : Int32) (v2 : Int32), mv_sat (fX10_ones_b4 n v1 v2) P → mv_MW G mX10_ones (mv_rm D mX10_ones) (mv_Zf G mX10_ones (mv_qi mv_SH h P)) 0 0 4 [.float 0, .int v1, .int v2] [] mv_SH h := by
  intro n
  induction n with
  | zero =>
    intro v1 v2 hs
    unfold fX10_ones_b4 at hs
    exact (mv_sat_none hs).elim
  | succ n ih =>
    intro v1 v2 hs
    unfold fX10_ones_b4 at hs
    refine mv_iload_n dX10_ones_4 rfl ?_
    refine mv_if_eq dX10_ones_5 hs (fun _ hs => ?_) (fun _ hs => ?_)
    · refine mv_iload_n dX10_ones_20 rfl ?_
      exact mv_iret dX10_ones_21 rfl ⟨_, rfl, rfl, rfl, mv_sat_some hs⟩
    · refine mv_iinc (lv' := [.float 0, .int (v1 + 1), .int v2]) 1 dX10_ones_8 rfl (by decide) (Nat.le_of_ble_eq_true rfl) rfl rfl ?_
      refine mv_iload_n dX10_ones_11 rfl ?_
      refine mv_iload_n dX10_ones_12 rfl ?_
      refine mv_iconst 1 dX10_ones_13 (by decide) ?_
      refine mv_isub dX10_ones_14 ?_
      refine mv_iand dX10_ones_15 ?_
      refine mv_name hs (fun x172 hs => ?_)
      refine mv_istore_n (lv' := [.float 0, .int (v1 + 1), .int x172]) dX10_ones_16 (Nat.le_of_ble_eq_true rfl) rfl rfl ?_
      refine mv_goto dX10_ones_17 ?_
      exact (ih _ _ hs)
noncomputable def fX10_ones (p0 : Int32) : Option (Int32) := fX10_ones_b4 mv_F 0 p0
set_option maxRecDepth 100000 in
set_option maxHeartbeats 4000000 in
theorem TX10_ones (G : mv_G) (d : Nat) (P : Int32 → Prop) (p0 : Int32) (h : mv_H) (hs : mv_sat (fX10_ones p0) P) : mv_met G (d + 0) mX10_ones [.int p0] mv_SH h (mv_qi mv_SH h P) := by
  unfold fX10_ones at hs
  obtain ⟨D, hDe⟩ : ∃ D, D = d + 0 := ⟨_, rfl⟩
  rw [← hDe]
  have hD : d + 0 ≤ D := by omega
  refine mv_enter (lv := [.int p0, .float 0, .float 0]) 2 (by decide) (by decide +kernel) rfl (Nat.le_of_ble_eq_true rfl) ?_
  refine mv_iconst 0 dX10_ones_0 (by decide) ?_
  refine mv_istore_n (lv' := [.int p0, .int 0, .float 0]) dX10_ones_1 (Nat.le_of_ble_eq_true rfl) rfl rfl ?_
  refine mv_iload_n dX10_ones_2 rfl ?_
  refine mv_istore_n (lv' := [.int p0, .int 0, .int p0]) dX10_ones_3 (Nat.le_of_ble_eq_true rfl) rfl rfl ?_
  exact mv_weak (lv' := [.float 0, .int 0, .int p0]) (mv_k (mv_s (mv_s mv_n))) (BX10_ones_b4 G d D (by omega) P _ _ _ _ hs)
noncomputable def fX10_box_55 (p0 : Int32) (p1 : Int32) (p2 : Int32) (p3 : Int32) (h : mv_H) : Option (Int32 × mv_H) := (fX10_isNumber p0).bind fun r162 => if r162 = 0 then some ((-1), h) else (fX10_areSides p1 p2 p3).bind fun r166 => if r166 = 0 then some ((-2), h) else (fX10_putBox_55 p0 p1 p2 p3 h).bind fun r171 => (fX10_ones (r171 55 0)).bind fun r173 => some (r173, r171)
set_option maxRecDepth 100000 in
set_option maxHeartbeats 4000000 in
theorem TX10_box_55 (G : mv_G) (d : Nat) (P : Int32 × mv_H → Prop) (p0 : Int32) (p1 : Int32) (p2 : Int32) (p3 : Int32) (h : mv_H) (hs : mv_sat (fX10_box_55 p0 p1 p2 p3 h) P) : mv_met G (d + 2) mX10_box [.ref 55, .int p0, .int p1, .int p2, .int p3] mv_SH h (mv_qI mv_SH P) := by
  unfold fX10_box_55 at hs
  obtain ⟨D, hDe⟩ : ∃ D, D = d + 2 := ⟨_, rfl⟩
  rw [← hDe]
  have hD : d + 2 ≤ D := by omega
  refine mv_enter (lv := [.ref 55, .int p0, .int p1, .int p2, .int p3]) 0 (by decide) (by decide +kernel) rfl (Nat.le_of_ble_eq_true rfl) ?_
  refine mv_iload_n dX10_box_0 rfl ?_
  refine mv_cS (st := []) dX10_box_1 kk_X10_108 (TX10_isNumber G d _ _ _ (mv_sat_bind hs)) rfl rfl (Nat.le_of_ble_eq_true rfl) (by omega) rfl ⟨Nat.zero_le _, Nat.zero_le _⟩ (mv_ki fun r162 hs => ?_)
  refine mv_if_ne dX10_box_4 hs (fun _ hs => ?_) (fun _ hs => ?_)
  · refine mv_iconst (-1) dX10_box_7 (by decide) ?_
    exact mv_iret dX10_box_8 rfl ⟨((-1), h), rfl, rfl, rfl, mv_sat_some hs⟩
  · refine mv_iload_n dX10_box_9 rfl ?_
    refine mv_iload_n dX10_box_10 rfl ?_
    refine mv_iload dX10_box_11 rfl ?_
    refine mv_cS (st := []) dX10_box_13 kk_X10_123 (TX10_areSides G d _ _ _ _ _ (mv_sat_bind hs)) rfl rfl (Nat.le_of_ble_eq_true rfl) (by omega) rfl ⟨Nat.zero_le _, Nat.zero_le _⟩ (mv_ki fun r166 hs => ?_)
    refine mv_if_ne dX10_box_16 hs (fun _ hs => ?_) (fun _ hs => ?_)
    · refine mv_bipush (-2) dX10_box_19 (by decide) ?_
      exact mv_iret dX10_box_21 rfl ⟨((-2), h), rfl, rfl, rfl, mv_sat_some hs⟩
    · refine mv_aload_n dX10_box_22 rfl ?_
      refine mv_iload_n dX10_box_23 rfl ?_
      refine mv_iload_n dX10_box_24 rfl ?_
      refine mv_iload_n dX10_box_25 rfl ?_
      refine mv_iload dX10_box_26 rfl ?_
      refine mv_cV (st := []) dX10_box_28 kk_X10_127 (TX10_putBox_55 G d _ _ _ _ _ _ (mv_sat_bind hs)) so_55 vc_10 rfl rfl (Nat.le_of_ble_eq_true rfl) (by omega) rfl ⟨Nat.zero_le _, Nat.zero_le _⟩ (mv_kv fun r171 hs => ?_)
      refine mv_aload_n dX10_box_31 rfl ?_
      refine mv_geti dX10_box_32 kf_X10_112 gf_55_0 ?_
      refine mv_cS (st := []) dX10_box_35 kk_X10_131 (TX10_ones G d _ _ _ (mv_sat_bind hs)) rfl rfl (Nat.le_of_ble_eq_true rfl) (by omega) rfl ⟨Nat.zero_le _, Nat.zero_le _⟩ (mv_ki fun r173 hs => ?_)
      exact mv_iret dX10_box_38 rfl ⟨(r173, r171), rfl, rfl, rfl, mv_sat_some hs⟩
noncomputable def fX7_put_4 (p0 : Int32) (p1 : Int32) (p2 : Int32) (p3 : Int32) (h : mv_H) : Option (mv_H) := (fX9_isNumber p0).bind fun r179 => if r179 = 0 then some h else if mv_in (p0 * 3) 18 then mv_let (mv_u h 5 (p0 * 3).toNatClampNeg p1) fun h180 : mv_H => (if mv_in ((p0 * 3) + 1) 18 then mv_let (mv_u h180 5 ((p0 * 3) + 1).toNatClampNeg p2) fun h181 : mv_H => (if mv_in ((p0 * 3) + 2) 18 then mv_let (mv_u h181 5 ((p0 * 3) + 2).toNatClampNeg p3) fun h182 : mv_H => (mv_let (mv_u h182 4 2 ((h182 4 2) ||| (1 <<< (p0 &&& 31)))) fun h183 : mv_H => some h183) else none) else none) else none
set_option maxRecDepth 100000 in
set_option maxHeartbeats 4000000 in
theorem TX7_put_4 (G : mv_G) (d : Nat) (P : mv_H → Prop) (p0 : Int32) (p1 : Int32) (p2 : Int32) (p3 : Int32) (h : mv_H) (hs : mv_sat (fX7_put_4 p0 p1 p2 p3 h) P) : mv_met G (d + 1) mX7_put [.ref 4, .int p0, .int p1, .int p2, .int p3] mv_SH h (mv_qv mv_SH P) := by
  unfold fX7_put_4 at hs
  obtain ⟨D, hDe⟩ : ∃ D, D = d + 1 := ⟨_, rfl⟩
  rw [← hDe]
  have hD : d + 1 ≤ D := by omega
  refine mv_enter (lv := [.ref 4, .int p0, .int p1, .int p2, .int p3]) 0 (by decide) (by decide +kernel) rfl (Nat.le_of_ble_eq_true rfl) ?_
  refine mv_iload_n dX7_put_0 rfl ?_
  refine mv_cS (st := []) dX7_put_1 kk_X7_28 (TX9_isNumber G d _ _ _ (mv_sat_bind hs)) rfl rfl (Nat.le_of_ble_eq_true rfl) (by omega) rfl ⟨Nat.zero_le _, Nat.zero_le _⟩ (mv_ki fun r179 hs => ?_)
  refine mv_if_eq dX7_put_4 hs (fun _ hs => ?_) (fun _ hs => ?_)
  · exact mv_vret dX7_put_51 rfl ⟨_, rfl, rfl, rfl, mv_sat_some hs⟩
  · refine mv_aload_n dX7_put_7 rfl ?_
    refine mv_getr dX7_put_8 kf_X7_9 gf_4_1 ?_
    refine mv_iload_n dX7_put_11 rfl ?_
    refine mv_iconst 3 dX7_put_12 (by decide) ?_
    refine mv_imul dX7_put_13 ?_
    refine mv_iload_n dX7_put_14 rfl ?_
    refine mv_iastore dX7_put_15 so_5 hs (fun hs => ?_)
    refine mv_nameH hs (fun h180 hs => ?_)
    refine mv_aload_n dX7_put_16 rfl ?_
    refine mv_getr dX7_put_17 kf_X7_9 gf_4_1 ?_
    refine mv_iload_n dX7_put_20 rfl ?_
    refine mv_iconst 3 dX7_put_21 (by decide) ?_
    refine mv_imul dX7_put_22 ?_
    refine mv_iconst 1 dX7_put_23 (by decide) ?_
    refine mv_iadd dX7_put_24 ?_
    refine mv_iload_n dX7_put_25 rfl ?_
    refine mv_iastore dX7_put_26 so_5 hs (fun hs => ?_)
    refine mv_nameH hs (fun h181 hs => ?_)
    refine mv_aload_n dX7_put_27 rfl ?_
    refine mv_getr dX7_put_28 kf_X7_9 gf_4_1 ?_
    refine mv_iload_n dX7_put_31 rfl ?_
    refine mv_iconst 3 dX7_put_32 (by decide) ?_
    refine mv_imul dX7_put_33 ?_
    refine mv_iconst 2 dX7_put_34 (by decide) ?_
    refine mv_iadd dX7_put_35 ?_
    refine mv_iload dX7_put_36 rfl ?_
    refine mv_iastore dX7_put_38 so_5 hs (fun hs => ?_)
    refine mv_nameH hs (fun h182 hs => ?_)
    refine mv_aload_n dX7_put_39 rfl ?_
    refine mv_dup dX7_put_40 rfl ?_
    refine mv_geti dX7_put_41 kf_X7_19 gf_4_2 ?_
    refine mv_iconst 1 dX7_put_44 (by decide) ?_
    refine mv_iload_n dX7_put_45 rfl ?_
    refine mv_ishl dX7_put_46 ?_
    refine mv_ior dX7_put_47 ?_
    refine mv_puti dX7_put_48 kf_X7_19 (fun q => by cases q) gf_4_2 ?_
    refine mv_nameH hs (fun h183 hs => ?_)
    exact mv_vret dX7_put_51 rfl ⟨_, rfl, rfl, rfl, mv_sat_some hs⟩
noncomputable def fX7_count_4 (h : mv_H) : Option (Int32) := (fJ6_bitCount_0f7a4 (h 4 2)).bind fun r185 => some r185
set_option maxRecDepth 100000 in
set_option maxHeartbeats 4000000 in
theorem TX7_count_4 (G : mv_G) (d : Nat) (P : Int32 → Prop) (h : mv_H) (hs : mv_sat (fX7_count_4 h) P) : mv_met G (d + 1) mX7_count [.ref 4] mv_SH h (mv_qi mv_SH h P) := by
  unfold fX7_count_4 at hs
  obtain ⟨D, hDe⟩ : ∃ D, D = d + 1 := ⟨_, rfl⟩
  rw [← hDe]
  have hD : d + 1 ≤ D := by omega
  refine mv_enter (lv := [.ref 4]) 0 (by decide) (by decide +kernel) rfl (Nat.le_of_ble_eq_true rfl) ?_
  refine mv_aload_n dX7_count_0 rfl ?_
  refine mv_geti dX7_count_1 kf_X7_19 gf_4_2 ?_
  refine mv_cS (st := []) dX7_count_4 kk_X7_22 (TJ6_bitCount_0f7a4 G d _ _ _ (mv_sat_bind hs)) rfl rfl (Nat.le_of_ble_eq_true rfl) (by omega) rfl ⟨Nat.zero_le _, Nat.zero_le _⟩ (mv_ki fun r185 hs => ?_)
  exact mv_iret dX7_count_7 rfl ⟨_, rfl, rfl, rfl, mv_sat_some hs⟩
noncomputable def fX9_putSolid_0_4 (p0 : Int32) (p1 : Int32) (p2 : Int32) (p3 : Int32) (h : mv_H) : Option (Int32 × mv_H) := (fX9_isNumber p0).bind fun r175 => if r175 = 0 then some ((-1), h) else (fX9_isSide p1).bind fun r176 => if r176 = 0 then some ((-2), h) else (fX9_isSide p2).bind fun r177 => if r177 = 0 then some ((-2), h) else (fX9_isSide p3).bind fun r178 => if r178 = 0 then some ((-2), h) else (fX7_put_4 p0 p1 p2 p3 h).bind fun r184 => (fX7_count_4 r184).bind fun r186 => some (r186, r184)
set_option maxRecDepth 100000 in
set_option maxHeartbeats 4000000 in
theorem TX9_putSolid_0_4 (G : mv_G) (d : Nat) (P : Int32 × mv_H → Prop) (p0 : Int32) (p1 : Int32) (p2 : Int32) (p3 : Int32) (h : mv_H) (hs : mv_sat (fX9_putSolid_0_4 p0 p1 p2 p3 h) P) : mv_met G (d + 2) mX9_putSolid [.ref 0, .ref 4, .int p0, .int p1, .int p2, .int p3] mv_SH h (mv_qI mv_SH P) := by
  unfold fX9_putSolid_0_4 at hs
  obtain ⟨D, hDe⟩ : ∃ D, D = d + 2 := ⟨_, rfl⟩
  rw [← hDe]
  have hD : d + 2 ≤ D := by omega
  refine mv_enter (lv := [.ref 0, .ref 4, .int p0, .int p1, .int p2, .int p3]) 0 (by decide) (by decide +kernel) rfl (Nat.le_of_ble_eq_true rfl) ?_
  refine mv_iload_n dX9_putSolid_0 rfl ?_
  refine mv_cS (st := []) dX9_putSolid_1 kk_X9_75 (TX9_isNumber G d _ _ _ (mv_sat_bind hs)) rfl rfl (Nat.le_of_ble_eq_true rfl) (by omega) rfl ⟨Nat.zero_le _, Nat.zero_le _⟩ (mv_ki fun r175 hs => ?_)
  refine mv_if_ne dX9_putSolid_4 hs (fun _ hs => ?_) (fun _ hs => ?_)
  · refine mv_iconst (-1) dX9_putSolid_7 (by decide) ?_
    exact mv_iret dX9_putSolid_8 rfl ⟨((-1), h), rfl, rfl, rfl, mv_sat_some hs⟩
  · refine mv_iload_n dX9_putSolid_9 rfl ?_
    refine mv_cS (st := []) dX9_putSolid_10 kk_X9_348 (TX9_isSide G d _ _ _ (mv_sat_bind hs)) rfl rfl (Nat.le_of_ble_eq_true rfl) (by omega) rfl ⟨Nat.zero_le _, Nat.zero_le _⟩ (mv_ki fun r176 hs => ?_)
    refine mv_if_eq dX9_putSolid_13 hs (fun _ hs => ?_) (fun _ hs => ?_)
    · refine mv_bipush (-2) dX9_putSolid_32 (by decide) ?_
      exact mv_iret dX9_putSolid_34 rfl ⟨((-2), h), rfl, rfl, rfl, mv_sat_some hs⟩
    · refine mv_iload dX9_putSolid_16 rfl ?_
      refine mv_cS (st := []) dX9_putSolid_18 kk_X9_348 (TX9_isSide G d _ _ _ (mv_sat_bind hs)) rfl rfl (Nat.le_of_ble_eq_true rfl) (by omega) rfl ⟨Nat.zero_le _, Nat.zero_le _⟩ (mv_ki fun r177 hs => ?_)
      refine mv_if_eq dX9_putSolid_21 hs (fun _ hs => ?_) (fun _ hs => ?_)
      · refine mv_bipush (-2) dX9_putSolid_32 (by decide) ?_
        exact mv_iret dX9_putSolid_34 rfl ⟨((-2), h), rfl, rfl, rfl, mv_sat_some hs⟩
      · refine mv_iload dX9_putSolid_24 rfl ?_
        refine mv_cS (st := []) dX9_putSolid_26 kk_X9_348 (TX9_isSide G d _ _ _ (mv_sat_bind hs)) rfl rfl (Nat.le_of_ble_eq_true rfl) (by omega) rfl ⟨Nat.zero_le _, Nat.zero_le _⟩ (mv_ki fun r178 hs => ?_)
        refine mv_if_ne dX9_putSolid_29 hs (fun _ hs => ?_) (fun _ hs => ?_)
        · refine mv_bipush (-2) dX9_putSolid_32 (by decide) ?_
          exact mv_iret dX9_putSolid_34 rfl ⟨((-2), h), rfl, rfl, rfl, mv_sat_some hs⟩
        · refine mv_aload_n dX9_putSolid_35 rfl ?_
          refine mv_iload_n dX9_putSolid_36 rfl ?_
          refine mv_iload_n dX9_putSolid_37 rfl ?_
          refine mv_iload dX9_putSolid_38 rfl ?_
          refine mv_iload dX9_putSolid_40 rfl ?_
          refine mv_cV (st := []) dX9_putSolid_42 kk_X9_86 (TX7_put_4 G d _ _ _ _ _ _ (mv_sat_bind hs)) so_4 vc_7 rfl rfl (Nat.le_of_ble_eq_true rfl) (by omega) rfl ⟨Nat.zero_le _, Nat.zero_le _⟩ (mv_kv fun r184 hs => ?_)
          refine mv_aload_n dX9_putSolid_45 rfl ?_
          refine mv_cV (st := []) dX9_putSolid_46 kk_X9_92 (TX7_count_4 G d _ _ (mv_sat_bind hs)) so_4 vc_7 rfl rfl (Nat.le_of_ble_eq_true rfl) (by omega) rfl ⟨Nat.zero_le _, Nat.zero_le _⟩ (mv_ki fun r186 hs => ?_)
          exact mv_iret dX9_putSolid_49 rfl ⟨(r186, r184), rfl, rfl, rfl, mv_sat_some hs⟩
noncomputable def fX9_thing_0 (p0 : Int32) (p1 : Int32) (p2 : Int32) (p3 : Int32) (h : mv_H) : Option (Int32 × mv_H) := (fX9_putSolid_0_4 p0 p1 p2 p3 h).bind fun r187 => some (r187.1, r187.2)
set_option maxRecDepth 100000 in
set_option maxHeartbeats 4000000 in
theorem TX9_thing_0 (G : mv_G) (d : Nat) (P : Int32 × mv_H → Prop) (p0 : Int32) (p1 : Int32) (p2 : Int32) (p3 : Int32) (h : mv_H) (hs : mv_sat (fX9_thing_0 p0 p1 p2 p3 h) P) : mv_met G (d + 3) mX9_thing [.ref 0, .int p0, .int p1, .int p2, .int p3] mv_SH h (mv_qI mv_SH P) := by
  unfold fX9_thing_0 at hs
  obtain ⟨D, hDe⟩ : ∃ D, D = d + 3 := ⟨_, rfl⟩
  rw [← hDe]
  have hD : d + 3 ≤ D := by omega
  refine mv_enter (lv := [.ref 0, .int p0, .int p1, .int p2, .int p3]) 0 (by decide) (by decide +kernel) rfl (Nat.le_of_ble_eq_true rfl) ?_
  refine mv_aload_n dX9_thing_0 rfl ?_
  refine mv_aload_n dX9_thing_1 rfl ?_
  refine mv_getr dX9_thing_2 kf_X9_10 gf_0_0 ?_
  refine mv_getr dX9_thing_5 kf_X9_72 gf_1_1 ?_
  refine mv_iload_n dX9_thing_8 rfl ?_
  refine mv_iload_n dX9_thing_9 rfl ?_
  refine mv_iload_n dX9_thing_10 rfl ?_
  refine mv_iload dX9_thing_11 rfl ?_
  refine mv_cV (st := []) dX9_thing_13 kk_X9_68 (TX9_putSolid_0_4 G d _ _ _ _ _ _ (mv_sat_bind hs)) so_0 vc_9 rfl rfl (Nat.le_of_ble_eq_true rfl) (by omega) rfl ⟨Nat.zero_le _, Nat.zero_le _⟩ (mv_kI2 fun r187 hs => ?_)
  exact mv_iret dX9_thing_16 rfl ⟨(r187.1, r187.2), rfl, rfl, rfl, mv_sat_some hs⟩
noncomputable def fX10_putThing_55 (p0 : Int32) (p1 : Int32) (p2 : Int32) (p3 : Int32) (h : mv_H) : Option (mv_H) := if mv_in (3 * p0) 18 then mv_let (mv_u h 57 (3 * p0).toNatClampNeg p1) fun h191 : mv_H => (if mv_in ((3 * p0) + 1) 18 then mv_let (mv_u h191 57 ((3 * p0) + 1).toNatClampNeg p2) fun h192 : mv_H => (if mv_in ((3 * p0) + 2) 18 then mv_let (mv_u h192 57 ((3 * p0) + 2).toNatClampNeg p3) fun h193 : mv_H => (mv_let (mv_u h193 55 1 ((h193 55 1) ||| (1 <<< (p0 &&& 31)))) fun h194 : mv_H => some h194) else none) else none) else none
set_option maxRecDepth 100000 in
set_option maxHeartbeats 4000000 in
theorem TX10_putThing_55 (G : mv_G) (d : Nat) (P : mv_H → Prop) (p0 : Int32) (p1 : Int32) (p2 : Int32) (p3 : Int32) (h : mv_H) (hs : mv_sat (fX10_putThing_55 p0 p1 p2 p3 h) P) : mv_met G (d + 0) mX10_putThing [.ref 55, .int p0, .int p1, .int p2, .int p3] mv_SH h (mv_qv mv_SH P) := by
  unfold fX10_putThing_55 at hs
  obtain ⟨D, hDe⟩ : ∃ D, D = d + 0 := ⟨_, rfl⟩
  rw [← hDe]
  have hD : d + 0 ≤ D := by omega
  refine mv_enter (lv := [.ref 55, .int p0, .int p1, .int p2, .int p3]) 0 (by decide) (by decide +kernel) rfl (Nat.le_of_ble_eq_true rfl) ?_
  refine mv_aload_n dX10_putThing_0 rfl ?_
  refine mv_getr dX10_putThing_1 kf_X10_13 gf_55_4 ?_
  refine mv_iconst 3 dX10_putThing_4 (by decide) ?_
  refine mv_iload_n dX10_putThing_5 rfl ?_
  refine mv_imul dX10_putThing_6 ?_
  refine mv_iload_n dX10_putThing_7 rfl ?_
  refine mv_iastore dX10_putThing_8 so_57 hs (fun hs => ?_)
  refine mv_nameH hs (fun h191 hs => ?_)
  refine mv_aload_n dX10_putThing_9 rfl ?_
  refine mv_getr dX10_putThing_10 kf_X10_13 gf_55_4 ?_
  refine mv_iconst 3 dX10_putThing_13 (by decide) ?_
  refine mv_iload_n dX10_putThing_14 rfl ?_
  refine mv_imul dX10_putThing_15 ?_
  refine mv_iconst 1 dX10_putThing_16 (by decide) ?_
  refine mv_iadd dX10_putThing_17 ?_
  refine mv_iload_n dX10_putThing_18 rfl ?_
  refine mv_iastore dX10_putThing_19 so_57 hs (fun hs => ?_)
  refine mv_nameH hs (fun h192 hs => ?_)
  refine mv_aload_n dX10_putThing_20 rfl ?_
  refine mv_getr dX10_putThing_21 kf_X10_13 gf_55_4 ?_
  refine mv_iconst 3 dX10_putThing_24 (by decide) ?_
  refine mv_iload_n dX10_putThing_25 rfl ?_
  refine mv_imul dX10_putThing_26 ?_
  refine mv_iconst 2 dX10_putThing_27 (by decide) ?_
  refine mv_iadd dX10_putThing_28 ?_
  refine mv_iload dX10_putThing_29 rfl ?_
  refine mv_iastore dX10_putThing_31 so_57 hs (fun hs => ?_)
  refine mv_nameH hs (fun h193 hs => ?_)
  refine mv_aload_n dX10_putThing_32 rfl ?_
  refine mv_dup dX10_putThing_33 rfl ?_
  refine mv_geti dX10_putThing_34 kf_X10_115 gf_55_1 ?_
  refine mv_iconst 1 dX10_putThing_37 (by decide) ?_
  refine mv_iload_n dX10_putThing_38 rfl ?_
  refine mv_ishl dX10_putThing_39 ?_
  refine mv_ior dX10_putThing_40 ?_
  refine mv_puti dX10_putThing_41 kf_X10_115 (fun q => by cases q) gf_55_1 ?_
  refine mv_nameH hs (fun h194 hs => ?_)
  exact mv_vret dX10_putThing_44 rfl ⟨_, rfl, rfl, rfl, mv_sat_some hs⟩
noncomputable def fX10_thing_55 (p0 : Int32) (p1 : Int32) (p2 : Int32) (p3 : Int32) (h : mv_H) : Option (Int32 × mv_H) := (fX10_isNumber p0).bind fun r189 => if r189 = 0 then some ((-1), h) else (fX10_areSides p1 p2 p3).bind fun r190 => if r190 = 0 then some ((-2), h) else (fX10_putThing_55 p0 p1 p2 p3 h).bind fun r195 => (fX10_ones (r195 55 1)).bind fun r196 => some (r196, r195)
set_option maxRecDepth 100000 in
set_option maxHeartbeats 4000000 in
theorem TX10_thing_55 (G : mv_G) (d : Nat) (P : Int32 × mv_H → Prop) (p0 : Int32) (p1 : Int32) (p2 : Int32) (p3 : Int32) (h : mv_H) (hs : mv_sat (fX10_thing_55 p0 p1 p2 p3 h) P) : mv_met G (d + 2) mX10_thing [.ref 55, .int p0, .int p1, .int p2, .int p3] mv_SH h (mv_qI mv_SH P) := by
  unfold fX10_thing_55 at hs
  obtain ⟨D, hDe⟩ : ∃ D, D = d + 2 := ⟨_, rfl⟩
  rw [← hDe]
  have hD : d + 2 ≤ D := by omega
  refine mv_enter (lv := [.ref 55, .int p0, .int p1, .int p2, .int p3]) 0 (by decide) (by decide +kernel) rfl (Nat.le_of_ble_eq_true rfl) ?_
  refine mv_iload_n dX10_thing_0 rfl ?_
  refine mv_cS (st := []) dX10_thing_1 kk_X10_108 (TX10_isNumber G d _ _ _ (mv_sat_bind hs)) rfl rfl (Nat.le_of_ble_eq_true rfl) (by omega) rfl ⟨Nat.zero_le _, Nat.zero_le _⟩ (mv_ki fun r189 hs => ?_)
  refine mv_if_ne dX10_thing_4 hs (fun _ hs => ?_) (fun _ hs => ?_)
  · refine mv_iconst (-1) dX10_thing_7 (by decide) ?_
    exact mv_iret dX10_thing_8 rfl ⟨((-1), h), rfl, rfl, rfl, mv_sat_some hs⟩
  · refine mv_iload_n dX10_thing_9 rfl ?_
    refine mv_iload_n dX10_thing_10 rfl ?_
    refine mv_iload dX10_thing_11 rfl ?_
    refine mv_cS (st := []) dX10_thing_13 kk_X10_123 (TX10_areSides G d _ _ _ _ _ (mv_sat_bind hs)) rfl rfl (Nat.le_of_ble_eq_true rfl) (by omega) rfl ⟨Nat.zero_le _, Nat.zero_le _⟩ (mv_ki fun r190 hs => ?_)
    refine mv_if_ne dX10_thing_16 hs (fun _ hs => ?_) (fun _ hs => ?_)
    · refine mv_bipush (-2) dX10_thing_19 (by decide) ?_
      exact mv_iret dX10_thing_21 rfl ⟨((-2), h), rfl, rfl, rfl, mv_sat_some hs⟩
    · refine mv_aload_n dX10_thing_22 rfl ?_
      refine mv_iload_n dX10_thing_23 rfl ?_
      refine mv_iload_n dX10_thing_24 rfl ?_
      refine mv_iload_n dX10_thing_25 rfl ?_
      refine mv_iload dX10_thing_26 rfl ?_
      refine mv_cV (st := []) dX10_thing_28 kk_X10_135 (TX10_putThing_55 G d _ _ _ _ _ _ (mv_sat_bind hs)) so_55 vc_10 rfl rfl (Nat.le_of_ble_eq_true rfl) (by omega) rfl ⟨Nat.zero_le _, Nat.zero_le _⟩ (mv_kv fun r195 hs => ?_)
      refine mv_aload_n dX10_thing_31 rfl ?_
      refine mv_geti dX10_thing_32 kf_X10_115 gf_55_1 ?_
      refine mv_cS (st := []) dX10_thing_35 kk_X10_131 (TX10_ones G d _ _ _ (mv_sat_bind hs)) rfl rfl (Nat.le_of_ble_eq_true rfl) (by omega) rfl ⟨Nat.zero_le _, Nat.zero_le _⟩ (mv_ki fun r196 hs => ?_)
      exact mv_iret dX10_thing_38 rfl ⟨(r196, r195), rfl, rfl, rfl, mv_sat_some hs⟩
noncomputable def fX7_put_6 (p0 : Int32) (p1 : Int32) (p2 : Int32) (p3 : Int32) (h : mv_H) : Option (mv_H) := (fX9_isNumber p0).bind fun r201 => if r201 = 0 then some h else if mv_in (p0 * 3) 18 then mv_let (mv_u h 7 (p0 * 3).toNatClampNeg p1) fun h202 : mv_H => (if mv_in ((p0 * 3) + 1) 18 then mv_let (mv_u h202 7 ((p0 * 3) + 1).toNatClampNeg p2) fun h203 : mv_H => (if mv_in ((p0 * 3) + 2) 18 then mv_let (mv_u h203 7 ((p0 * 3) + 2).toNatClampNeg p3) fun h204 : mv_H => (mv_let (mv_u h204 6 2 ((h204 6 2) ||| (1 <<< (p0 &&& 31)))) fun h205 : mv_H => some h205) else none) else none) else none
set_option maxRecDepth 100000 in
set_option maxHeartbeats 4000000 in
theorem TX7_put_6 (G : mv_G) (d : Nat) (P : mv_H → Prop) (p0 : Int32) (p1 : Int32) (p2 : Int32) (p3 : Int32) (h : mv_H) (hs : mv_sat (fX7_put_6 p0 p1 p2 p3 h) P) : mv_met G (d + 1) mX7_put [.ref 6, .int p0, .int p1, .int p2, .int p3] mv_SH h (mv_qv mv_SH P) := by
  unfold fX7_put_6 at hs
  obtain ⟨D, hDe⟩ : ∃ D, D = d + 1 := ⟨_, rfl⟩
  rw [← hDe]
  have hD : d + 1 ≤ D := by omega
  refine mv_enter (lv := [.ref 6, .int p0, .int p1, .int p2, .int p3]) 0 (by decide) (by decide +kernel) rfl (Nat.le_of_ble_eq_true rfl) ?_
  refine mv_iload_n dX7_put_0 rfl ?_
  refine mv_cS (st := []) dX7_put_1 kk_X7_28 (TX9_isNumber G d _ _ _ (mv_sat_bind hs)) rfl rfl (Nat.le_of_ble_eq_true rfl) (by omega) rfl ⟨Nat.zero_le _, Nat.zero_le _⟩ (mv_ki fun r201 hs => ?_)
  refine mv_if_eq dX7_put_4 hs (fun _ hs => ?_) (fun _ hs => ?_)
  · exact mv_vret dX7_put_51 rfl ⟨_, rfl, rfl, rfl, mv_sat_some hs⟩
  · refine mv_aload_n dX7_put_7 rfl ?_
    refine mv_getr dX7_put_8 kf_X7_9 gf_6_1 ?_
    refine mv_iload_n dX7_put_11 rfl ?_
    refine mv_iconst 3 dX7_put_12 (by decide) ?_
    refine mv_imul dX7_put_13 ?_
    refine mv_iload_n dX7_put_14 rfl ?_
    refine mv_iastore dX7_put_15 so_7 hs (fun hs => ?_)
    refine mv_nameH hs (fun h202 hs => ?_)
    refine mv_aload_n dX7_put_16 rfl ?_
    refine mv_getr dX7_put_17 kf_X7_9 gf_6_1 ?_
    refine mv_iload_n dX7_put_20 rfl ?_
    refine mv_iconst 3 dX7_put_21 (by decide) ?_
    refine mv_imul dX7_put_22 ?_
    refine mv_iconst 1 dX7_put_23 (by decide) ?_
    refine mv_iadd dX7_put_24 ?_
    refine mv_iload_n dX7_put_25 rfl ?_
    refine mv_iastore dX7_put_26 so_7 hs (fun hs => ?_)
    refine mv_nameH hs (fun h203 hs => ?_)
    refine mv_aload_n dX7_put_27 rfl ?_
    refine mv_getr dX7_put_28 kf_X7_9 gf_6_1 ?_
    refine mv_iload_n dX7_put_31 rfl ?_
    refine mv_iconst 3 dX7_put_32 (by decide) ?_
    refine mv_imul dX7_put_33 ?_
    refine mv_iconst 2 dX7_put_34 (by decide) ?_
    refine mv_iadd dX7_put_35 ?_
    refine mv_iload dX7_put_36 rfl ?_
    refine mv_iastore dX7_put_38 so_7 hs (fun hs => ?_)
    refine mv_nameH hs (fun h204 hs => ?_)
    refine mv_aload_n dX7_put_39 rfl ?_
    refine mv_dup dX7_put_40 rfl ?_
    refine mv_geti dX7_put_41 kf_X7_19 gf_6_2 ?_
    refine mv_iconst 1 dX7_put_44 (by decide) ?_
    refine mv_iload_n dX7_put_45 rfl ?_
    refine mv_ishl dX7_put_46 ?_
    refine mv_ior dX7_put_47 ?_
    refine mv_puti dX7_put_48 kf_X7_19 (fun q => by cases q) gf_6_2 ?_
    refine mv_nameH hs (fun h205 hs => ?_)
    exact mv_vret dX7_put_51 rfl ⟨_, rfl, rfl, rfl, mv_sat_some hs⟩
noncomputable def fX7_count_6 (h : mv_H) : Option (Int32) := (fJ6_bitCount_0f7a4 (h 6 2)).bind fun r207 => some r207
set_option maxRecDepth 100000 in
set_option maxHeartbeats 4000000 in
theorem TX7_count_6 (G : mv_G) (d : Nat) (P : Int32 → Prop) (h : mv_H) (hs : mv_sat (fX7_count_6 h) P) : mv_met G (d + 1) mX7_count [.ref 6] mv_SH h (mv_qi mv_SH h P) := by
  unfold fX7_count_6 at hs
  obtain ⟨D, hDe⟩ : ∃ D, D = d + 1 := ⟨_, rfl⟩
  rw [← hDe]
  have hD : d + 1 ≤ D := by omega
  refine mv_enter (lv := [.ref 6]) 0 (by decide) (by decide +kernel) rfl (Nat.le_of_ble_eq_true rfl) ?_
  refine mv_aload_n dX7_count_0 rfl ?_
  refine mv_geti dX7_count_1 kf_X7_19 gf_6_2 ?_
  refine mv_cS (st := []) dX7_count_4 kk_X7_22 (TJ6_bitCount_0f7a4 G d _ _ _ (mv_sat_bind hs)) rfl rfl (Nat.le_of_ble_eq_true rfl) (by omega) rfl ⟨Nat.zero_le _, Nat.zero_le _⟩ (mv_ki fun r207 hs => ?_)
  exact mv_iret dX7_count_7 rfl ⟨_, rfl, rfl, rfl, mv_sat_some hs⟩
noncomputable def fX9_sheet_0 (p0 : Int32) (p1 : Int32) (p2 : Int32) (h : mv_H) : Option (Int32 × mv_H) := (fX9_isNumber p0).bind fun r198 => if r198 = 0 then some ((-1), h) else (fX9_isWithin p1 (1 : Int32) (150 : Int32)).bind fun r199 => if r199 = 0 then some ((-2), h) else (fX9_isWithin p2 (1 : Int32) (150 : Int32)).bind fun r200 => if r200 = 0 then some ((-2), h) else (fX7_put_6 p0 p1 p2 (0 : Int32) h).bind fun r206 => (fX7_count_6 r206).bind fun r208 => some (r208, r206)
set_option maxRecDepth 100000 in
set_option maxHeartbeats 4000000 in
theorem TX9_sheet_0 (G : mv_G) (d : Nat) (P : Int32 × mv_H → Prop) (p0 : Int32) (p1 : Int32) (p2 : Int32) (h : mv_H) (hs : mv_sat (fX9_sheet_0 p0 p1 p2 h) P) : mv_met G (d + 2) mX9_sheet [.ref 0, .int p0, .int p1, .int p2] mv_SH h (mv_qI mv_SH P) := by
  unfold fX9_sheet_0 at hs
  obtain ⟨D, hDe⟩ : ∃ D, D = d + 2 := ⟨_, rfl⟩
  rw [← hDe]
  have hD : d + 2 ≤ D := by omega
  refine mv_enter (lv := [.ref 0, .int p0, .int p1, .int p2]) 0 (by decide) (by decide +kernel) rfl (Nat.le_of_ble_eq_true rfl) ?_
  refine mv_iload_n dX9_sheet_0 rfl ?_
  refine mv_cS (st := []) dX9_sheet_1 kk_X9_75 (TX9_isNumber G d _ _ _ (mv_sat_bind hs)) rfl rfl (Nat.le_of_ble_eq_true rfl) (by omega) rfl ⟨Nat.zero_le _, Nat.zero_le _⟩ (mv_ki fun r198 hs => ?_)
  refine mv_if_ne dX9_sheet_4 hs (fun _ hs => ?_) (fun _ hs => ?_)
  · refine mv_iconst (-1) dX9_sheet_7 (by decide) ?_
    exact mv_iret dX9_sheet_8 rfl ⟨((-1), h), rfl, rfl, rfl, mv_sat_some hs⟩
  · refine mv_iload_n dX9_sheet_9 rfl ?_
    refine mv_iconst 1 dX9_sheet_10 (by decide) ?_
    refine mv_sipush 150 dX9_sheet_11 (by decide) ?_
    refine mv_cS (st := []) dX9_sheet_14 kk_X9_79 (TX9_isWithin G d _ _ _ _ _ (mv_sat_bind hs)) rfl rfl (Nat.le_of_ble_eq_true rfl) (by omega) rfl ⟨Nat.zero_le _, Nat.zero_le _⟩ (mv_ki fun r199 hs => ?_)
    refine mv_if_eq dX9_sheet_17 hs (fun _ hs => ?_) (fun _ hs => ?_)
    · refine mv_bipush (-2) dX9_sheet_31 (by decide) ?_
      exact mv_iret dX9_sheet_33 rfl ⟨((-2), h), rfl, rfl, rfl, mv_sat_some hs⟩
    · refine mv_iload_n dX9_sheet_20 rfl ?_
      refine mv_iconst 1 dX9_sheet_21 (by decide) ?_
      refine mv_sipush 150 dX9_sheet_22 (by decide) ?_
      refine mv_cS (st := []) dX9_sheet_25 kk_X9_79 (TX9_isWithin G d _ _ _ _ _ (mv_sat_bind hs)) rfl rfl (Nat.le_of_ble_eq_true rfl) (by omega) rfl ⟨Nat.zero_le _, Nat.zero_le _⟩ (mv_ki fun r200 hs => ?_)
      refine mv_if_ne dX9_sheet_28 hs (fun _ hs => ?_) (fun _ hs => ?_)
      · refine mv_bipush (-2) dX9_sheet_31 (by decide) ?_
        exact mv_iret dX9_sheet_33 rfl ⟨((-2), h), rfl, rfl, rfl, mv_sat_some hs⟩
      · refine mv_aload_n dX9_sheet_34 rfl ?_
        refine mv_getr dX9_sheet_35 kf_X9_10 gf_0_0 ?_
        refine mv_getr dX9_sheet_38 kf_X9_83 gf_1_2 ?_
        refine mv_iload_n dX9_sheet_41 rfl ?_
        refine mv_iload_n dX9_sheet_42 rfl ?_
        refine mv_iload_n dX9_sheet_43 rfl ?_
        refine mv_iconst 0 dX9_sheet_44 (by decide) ?_
        refine mv_cV (st := []) dX9_sheet_45 kk_X9_86 (TX7_put_6 G d _ _ _ _ _ _ (mv_sat_bind hs)) so_6 vc_7 rfl rfl (Nat.le_of_ble_eq_true rfl) (by omega) rfl ⟨Nat.zero_le _, Nat.zero_le _⟩ (mv_kv fun r206 hs => ?_)
        refine mv_aload_n dX9_sheet_48 rfl ?_
        refine mv_getr dX9_sheet_49 kf_X9_10 gf_0_0 ?_
        refine mv_getr dX9_sheet_52 kf_X9_83 gf_1_2 ?_
        refine mv_cV (st := []) dX9_sheet_55 kk_X9_92 (TX7_count_6 G d _ _ (mv_sat_bind hs)) so_6 vc_7 rfl rfl (Nat.le_of_ble_eq_true rfl) (by omega) rfl ⟨Nat.zero_le _, Nat.zero_le _⟩ (mv_ki fun r208 hs => ?_)
        exact mv_iret dX9_sheet_58 rfl ⟨(r208, r206), rfl, rfl, rfl, mv_sat_some hs⟩
noncomputable def fX10_putSheet_55 (p0 : Int32) (p1 : Int32) (p2 : Int32) (h : mv_H) : Option (mv_H) := if mv_in p0 6 then mv_let (mv_u h 58 p0.toNatClampNeg p1) fun h213 : mv_H => (if mv_in p0 6 then mv_let (mv_u h213 59 p0.toNatClampNeg p2) fun h214 : mv_H => (mv_let (mv_u h214 55 2 ((h214 55 2) ||| (1 <<< (p0 &&& 31)))) fun h215 : mv_H => some h215) else none) else none
set_option maxRecDepth 100000 in
set_option maxHeartbeats 4000000 in
theorem TX10_putSheet_55 (G : mv_G) (d : Nat) (P : mv_H → Prop) (p0 : Int32) (p1 : Int32) (p2 : Int32) (h : mv_H) (hs : mv_sat (fX10_putSheet_55 p0 p1 p2 h) P) : mv_met G (d + 0) mX10_putSheet [.ref 55, .int p0, .int p1, .int p2] mv_SH h (mv_qv mv_SH P) := by
  unfold fX10_putSheet_55 at hs
  obtain ⟨D, hDe⟩ : ∃ D, D = d + 0 := ⟨_, rfl⟩
  rw [← hDe]
  have hD : d + 0 ≤ D := by omega
  refine mv_enter (lv := [.ref 55, .int p0, .int p1, .int p2]) 0 (by decide) (by decide +kernel) rfl (Nat.le_of_ble_eq_true rfl) ?_
  refine mv_aload_n dX10_putSheet_0 rfl ?_
  refine mv_getr dX10_putSheet_1 kf_X10_16 gf_55_5 ?_
  refine mv_iload_n dX10_putSheet_4 rfl ?_
  refine mv_iload_n dX10_putSheet_5 rfl ?_
  refine mv_iastore dX10_putSheet_6 so_58 hs (fun hs => ?_)
  refine mv_nameH hs (fun h213 hs => ?_)
  refine mv_aload_n dX10_putSheet_7 rfl ?_
  refine mv_getr dX10_putSheet_8 kf_X10_19 gf_55_6 ?_
  refine mv_iload_n dX10_putSheet_11 rfl ?_
  refine mv_iload_n dX10_putSheet_12 rfl ?_
  refine mv_iastore dX10_putSheet_13 so_59 hs (fun hs => ?_)
  refine mv_nameH hs (fun h214 hs => ?_)
  refine mv_aload_n dX10_putSheet_14 rfl ?_
  refine mv_dup dX10_putSheet_15 rfl ?_
  refine mv_geti dX10_putSheet_16 kf_X10_118 gf_55_2 ?_
  refine mv_iconst 1 dX10_putSheet_19 (by decide) ?_
  refine mv_iload_n dX10_putSheet_20 rfl ?_
  refine mv_ishl dX10_putSheet_21 ?_
  refine mv_ior dX10_putSheet_22 ?_
  refine mv_puti dX10_putSheet_23 kf_X10_118 (fun q => by cases q) gf_55_2 ?_
  refine mv_nameH hs (fun h215 hs => ?_)
  exact mv_vret dX10_putSheet_26 rfl ⟨_, rfl, rfl, rfl, mv_sat_some hs⟩
noncomputable def fX10_sheet_55 (p0 : Int32) (p1 : Int32) (p2 : Int32) (h : mv_H) : Option (Int32 × mv_H) := (fX10_isNumber p0).bind fun r210 => if r210 = 0 then some ((-1), h) else (fX10_in (Int32.toInt64 p1) (1 : Int64) (150 : Int64)).bind fun r211 => if r211 = 0 then some ((-2), h) else (fX10_in (Int32.toInt64 p2) (1 : Int64) (150 : Int64)).bind fun r212 => if r212 = 0 then some ((-2), h) else (fX10_putSheet_55 p0 p1 p2 h).bind fun r216 => (fX10_ones (r216 55 2)).bind fun r217 => some (r217, r216)
set_option maxRecDepth 100000 in
set_option maxHeartbeats 4000000 in
theorem TX10_sheet_55 (G : mv_G) (d : Nat) (P : Int32 × mv_H → Prop) (p0 : Int32) (p1 : Int32) (p2 : Int32) (h : mv_H) (hs : mv_sat (fX10_sheet_55 p0 p1 p2 h) P) : mv_met G (d + 2) mX10_sheet [.ref 55, .int p0, .int p1, .int p2] mv_SH h (mv_qI mv_SH P) := by
  unfold fX10_sheet_55 at hs
  obtain ⟨D, hDe⟩ : ∃ D, D = d + 2 := ⟨_, rfl⟩
  rw [← hDe]
  have hD : d + 2 ≤ D := by omega
  refine mv_enter (lv := [.ref 55, .int p0, .int p1, .int p2]) 0 (by decide) (by decide +kernel) rfl (Nat.le_of_ble_eq_true rfl) ?_
  refine mv_iload_n dX10_sheet_0 rfl ?_
  refine mv_cS (st := []) dX10_sheet_1 kk_X10_108 (TX10_isNumber G d _ _ _ (mv_sat_bind hs)) rfl rfl (Nat.le_of_ble_eq_true rfl) (by omega) rfl ⟨Nat.zero_le _, Nat.zero_le _⟩ (mv_ki fun r210 hs => ?_)
  refine mv_if_ne dX10_sheet_4 hs (fun _ hs => ?_) (fun _ hs => ?_)
  · refine mv_iconst (-1) dX10_sheet_7 (by decide) ?_
    exact mv_iret dX10_sheet_8 rfl ⟨((-1), h), rfl, rfl, rfl, mv_sat_some hs⟩
  · refine mv_iload_n dX10_sheet_9 rfl ?_
    refine mv_i2l dX10_sheet_10 ?_
    refine mv_lconst 1 dX10_sheet_11 rfl ?_
    refine mv_ldc2 dX10_sheet_12 kn_X10_138 ?_
    refine mv_cS (st := []) dX10_sheet_15 kk_X10_104 (TX10_in G d _ _ _ _ _ (mv_sat_bind hs)) rfl rfl (Nat.le_of_ble_eq_true rfl) (by omega) rfl ⟨Nat.zero_le _, Nat.zero_le _⟩ (mv_ki fun r211 hs => ?_)
    refine mv_if_eq dX10_sheet_18 hs (fun _ hs => ?_) (fun _ hs => ?_)
    · refine mv_bipush (-2) dX10_sheet_33 (by decide) ?_
      exact mv_iret dX10_sheet_35 rfl ⟨((-2), h), rfl, rfl, rfl, mv_sat_some hs⟩
    · refine mv_iload_n dX10_sheet_21 rfl ?_
      refine mv_i2l dX10_sheet_22 ?_
      refine mv_lconst 1 dX10_sheet_23 rfl ?_
      refine mv_ldc2 dX10_sheet_24 kn_X10_138 ?_
      refine mv_cS (st := []) dX10_sheet_27 kk_X10_104 (TX10_in G d _ _ _ _ _ (mv_sat_bind hs)) rfl rfl (Nat.le_of_ble_eq_true rfl) (by omega) rfl ⟨Nat.zero_le _, Nat.zero_le _⟩ (mv_ki fun r212 hs => ?_)
      refine mv_if_ne dX10_sheet_30 hs (fun _ hs => ?_) (fun _ hs => ?_)
      · refine mv_bipush (-2) dX10_sheet_33 (by decide) ?_
        exact mv_iret dX10_sheet_35 rfl ⟨((-2), h), rfl, rfl, rfl, mv_sat_some hs⟩
      · refine mv_aload_n dX10_sheet_36 rfl ?_
        refine mv_iload_n dX10_sheet_37 rfl ?_
        refine mv_iload_n dX10_sheet_38 rfl ?_
        refine mv_iload_n dX10_sheet_39 rfl ?_
        refine mv_cV (st := []) dX10_sheet_40 kk_X10_140 (TX10_putSheet_55 G d _ _ _ _ _ (mv_sat_bind hs)) so_55 vc_10 rfl rfl (Nat.le_of_ble_eq_true rfl) (by omega) rfl ⟨Nat.zero_le _, Nat.zero_le _⟩ (mv_kv fun r216 hs => ?_)
        refine mv_aload_n dX10_sheet_43 rfl ?_
        refine mv_geti dX10_sheet_44 kf_X10_118 gf_55_2 ?_
        refine mv_cS (st := []) dX10_sheet_47 kk_X10_131 (TX10_ones G d _ _ _ (mv_sat_bind hs)) rfl rfl (Nat.le_of_ble_eq_true rfl) (by omega) rfl ⟨Nat.zero_le _, Nat.zero_le _⟩ (mv_ki fun r217 hs => ?_)
        exact mv_iret dX10_sheet_50 rfl ⟨(r217, r216), rfl, rfl, rfl, mv_sat_some hs⟩
noncomputable def fX1_shelf_1 (p0 : Int32) (h : mv_H) : Option (Nat) := if p0 = 0 then some 2 else if p0 = 1 then some 4 else some 6
set_option maxRecDepth 100000 in
set_option maxHeartbeats 4000000 in
theorem TX1_shelf_1 (G : mv_G) (d : Nat) (P : Nat → Prop) (p0 : Int32) (h : mv_H) (hs : mv_sat (fX1_shelf_1 p0 h) P) : mv_met G (d + 0) mX1_shelf [.ref 1, .int p0] mv_SH h (mv_qr mv_SH h P) := by
  unfold fX1_shelf_1 at hs
  obtain ⟨D, hDe⟩ : ∃ D, D = d + 0 := ⟨_, rfl⟩
  rw [← hDe]
  have hD : d + 0 ≤ D := by omega
  refine mv_enter (lv := [.ref 1, .int p0]) 0 (by decide) (by decide +kernel) rfl (Nat.le_of_ble_eq_true rfl) ?_
  refine mv_iload_n dX1_shelf_0 rfl ?_
  refine mv_if_ne dX1_shelf_1 hs (fun _ hs => ?_) (fun _ hs => ?_)
  · refine mv_aload_n dX1_shelf_4 rfl ?_
    refine mv_getr dX1_shelf_5 kf_X1_14 gf_1_0 ?_
    exact mv_aret dX1_shelf_8 rfl ⟨_, rfl, rfl, rfl, mv_sat_some hs⟩
  · refine mv_iload_n dX1_shelf_9 rfl ?_
    refine mv_iconst 1 dX1_shelf_10 (by decide) ?_
    refine mv_icmp_ne dX1_shelf_11 hs (fun _ hs => ?_) (fun _ hs => ?_)
    · refine mv_aload_n dX1_shelf_14 rfl ?_
      refine mv_getr dX1_shelf_15 kf_X1_20 gf_1_1 ?_
      refine mv_goto dX1_shelf_18 ?_
      exact mv_aret dX1_shelf_25 rfl ⟨_, rfl, rfl, rfl, mv_sat_some hs⟩
    · refine mv_aload_n dX1_shelf_21 rfl ?_
      refine mv_getr dX1_shelf_22 kf_X1_23 gf_1_2 ?_
      exact mv_aret dX1_shelf_25 rfl ⟨_, rfl, rfl, rfl, mv_sat_some hs⟩
noncomputable def fX9_isIn (p0 : Int32) (p1 : Int32) : Option (Int32) := if ((p0 >>> (p1 &&& 31)) &&& 1) = 1 then some 1 else some 0
set_option maxRecDepth 100000 in
set_option maxHeartbeats 4000000 in
theorem TX9_isIn (G : mv_G) (d : Nat) (P : Int32 → Prop) (p0 : Int32) (p1 : Int32) (h : mv_H) (hs : mv_sat (fX9_isIn p0 p1) P) : mv_met G (d + 0) mX9_isIn [.int p0, .int p1] mv_SH h (mv_qi mv_SH h P) := by
  unfold fX9_isIn at hs
  obtain ⟨D, hDe⟩ : ∃ D, D = d + 0 := ⟨_, rfl⟩
  rw [← hDe]
  have hD : d + 0 ≤ D := by omega
  refine mv_enter (lv := [.int p0, .int p1]) 0 (by decide) (by decide +kernel) rfl (Nat.le_of_ble_eq_true rfl) ?_
  refine mv_iload_n dX9_isIn_0 rfl ?_
  refine mv_iload_n dX9_isIn_1 rfl ?_
  refine mv_ishr dX9_isIn_2 ?_
  refine mv_iconst 1 dX9_isIn_3 (by decide) ?_
  refine mv_iand dX9_isIn_4 ?_
  refine mv_iconst 1 dX9_isIn_5 (by decide) ?_
  refine mv_icmp_ne dX9_isIn_6 hs (fun _ hs => ?_) (fun _ hs => ?_)
  · refine mv_iconst 1 dX9_isIn_9 (by decide) ?_
    refine mv_goto dX9_isIn_10 ?_
    exact mv_zret dX9_isIn_14 rfl (Or.inr rfl) ⟨_, rfl, rfl, rfl, mv_sat_some hs⟩
  · refine mv_iconst 0 dX9_isIn_13 (by decide) ?_
    exact mv_zret dX9_isIn_14 rfl (Or.inl rfl) ⟨_, rfl, rfl, rfl, mv_sat_some hs⟩
noncomputable def fX7_has_2 (p0 : Int32) (h : mv_H) : Option (Int32) := (fX9_isNumber p0).bind fun r221 => if r221 = 0 then some 0 else (fX9_isIn (h 2 2) p0).bind fun r222 => if r222 = 0 then some 0 else some 1
set_option maxRecDepth 100000 in
set_option maxHeartbeats 4000000 in
theorem TX7_has_2 (G : mv_G) (d : Nat) (P : Int32 → Prop) (p0 : Int32) (h : mv_H) (hs : mv_sat (fX7_has_2 p0 h) P) : mv_met G (d + 1) mX7_has [.ref 2, .int p0] mv_SH h (mv_qi mv_SH h P) := by
  unfold fX7_has_2 at hs
  obtain ⟨D, hDe⟩ : ∃ D, D = d + 1 := ⟨_, rfl⟩
  rw [← hDe]
  have hD : d + 1 ≤ D := by omega
  refine mv_enter (lv := [.ref 2, .int p0]) 0 (by decide) (by decide +kernel) rfl (Nat.le_of_ble_eq_true rfl) ?_
  refine mv_iload_n dX7_has_0 rfl ?_
  refine mv_cS (st := []) dX7_has_1 kk_X7_28 (TX9_isNumber G d _ _ _ (mv_sat_bind hs)) rfl rfl (Nat.le_of_ble_eq_true rfl) (by omega) rfl ⟨Nat.zero_le _, Nat.zero_le _⟩ (mv_ki fun r221 hs => ?_)
  refine mv_if_eq dX7_has_4 hs (fun _ hs => ?_) (fun _ hs => ?_)
  · refine mv_iconst 0 dX7_has_22 (by decide) ?_
    exact mv_zret dX7_has_23 rfl (Or.inl rfl) ⟨_, rfl, rfl, rfl, mv_sat_some hs⟩
  · refine mv_aload_n dX7_has_7 rfl ?_
    refine mv_geti dX7_has_8 kf_X7_19 gf_2_2 ?_
    refine mv_iload_n dX7_has_11 rfl ?_
    refine mv_cS (st := []) dX7_has_12 kk_X7_32 (TX9_isIn G d _ _ _ _ (mv_sat_bind hs)) rfl rfl (Nat.le_of_ble_eq_true rfl) (by omega) rfl ⟨Nat.zero_le _, Nat.zero_le _⟩ (mv_ki fun r222 hs => ?_)
    refine mv_if_eq dX7_has_15 hs (fun _ hs => ?_) (fun _ hs => ?_)
    · refine mv_iconst 0 dX7_has_22 (by decide) ?_
      exact mv_zret dX7_has_23 rfl (Or.inl rfl) ⟨_, rfl, rfl, rfl, mv_sat_some hs⟩
    · refine mv_iconst 1 dX7_has_18 (by decide) ?_
      refine mv_goto dX7_has_19 ?_
      exact mv_zret dX7_has_23 rfl (Or.inr rfl) ⟨_, rfl, rfl, rfl, mv_sat_some hs⟩
noncomputable def fX7_remove_2 (p0 : Int32) (h : mv_H) : Option (mv_H) := (fX9_isNumber p0).bind fun r224 => if r224 = 0 then some h else mv_let (mv_u h 2 2 ((h 2 2) &&& ((1 <<< (p0 &&& 31)) ^^^ (-1)))) fun h225 : mv_H => some h225
set_option maxRecDepth 100000 in
set_option maxHeartbeats 4000000 in
theorem TX7_remove_2 (G : mv_G) (d : Nat) (P : mv_H → Prop) (p0 : Int32) (h : mv_H) (hs : mv_sat (fX7_remove_2 p0 h) P) : mv_met G (d + 1) mX7_remove [.ref 2, .int p0] mv_SH h (mv_qv mv_SH P) := by
  unfold fX7_remove_2 at hs
  obtain ⟨D, hDe⟩ : ∃ D, D = d + 1 := ⟨_, rfl⟩
  rw [← hDe]
  have hD : d + 1 ≤ D := by omega
  refine mv_enter (lv := [.ref 2, .int p0]) 0 (by decide) (by decide +kernel) rfl (Nat.le_of_ble_eq_true rfl) ?_
  refine mv_iload_n dX7_remove_0 rfl ?_
  refine mv_cS (st := []) dX7_remove_1 kk_X7_28 (TX9_isNumber G d _ _ _ (mv_sat_bind hs)) rfl rfl (Nat.le_of_ble_eq_true rfl) (by omega) rfl ⟨Nat.zero_le _, Nat.zero_le _⟩ (mv_ki fun r224 hs => ?_)
  refine mv_if_eq dX7_remove_4 hs (fun _ hs => ?_) (fun _ hs => ?_)
  · exact mv_vret dX7_remove_21 rfl ⟨_, rfl, rfl, rfl, mv_sat_some hs⟩
  · refine mv_aload_n dX7_remove_7 rfl ?_
    refine mv_dup dX7_remove_8 rfl ?_
    refine mv_geti dX7_remove_9 kf_X7_19 gf_2_2 ?_
    refine mv_iconst 1 dX7_remove_12 (by decide) ?_
    refine mv_iload_n dX7_remove_13 rfl ?_
    refine mv_ishl dX7_remove_14 ?_
    refine mv_iconst (-1) dX7_remove_15 (by decide) ?_
    refine mv_ixor dX7_remove_16 ?_
    refine mv_iand dX7_remove_17 ?_
    refine mv_puti dX7_remove_18 kf_X7_19 (fun q => by cases q) gf_2_2 ?_
    refine mv_nameH hs (fun h225 hs => ?_)
    exact mv_vret dX7_remove_21 rfl ⟨_, rfl, rfl, rfl, mv_sat_some hs⟩
noncomputable def fX7_has_4 (p0 : Int32) (h : mv_H) : Option (Int32) := (fX9_isNumber p0).bind fun r228 => if r228 = 0 then some 0 else (fX9_isIn (h 4 2) p0).bind fun r229 => if r229 = 0 then some 0 else some 1
set_option maxRecDepth 100000 in
set_option maxHeartbeats 4000000 in
theorem TX7_has_4 (G : mv_G) (d : Nat) (P : Int32 → Prop) (p0 : Int32) (h : mv_H) (hs : mv_sat (fX7_has_4 p0 h) P) : mv_met G (d + 1) mX7_has [.ref 4, .int p0] mv_SH h (mv_qi mv_SH h P) := by
  unfold fX7_has_4 at hs
  obtain ⟨D, hDe⟩ : ∃ D, D = d + 1 := ⟨_, rfl⟩
  rw [← hDe]
  have hD : d + 1 ≤ D := by omega
  refine mv_enter (lv := [.ref 4, .int p0]) 0 (by decide) (by decide +kernel) rfl (Nat.le_of_ble_eq_true rfl) ?_
  refine mv_iload_n dX7_has_0 rfl ?_
  refine mv_cS (st := []) dX7_has_1 kk_X7_28 (TX9_isNumber G d _ _ _ (mv_sat_bind hs)) rfl rfl (Nat.le_of_ble_eq_true rfl) (by omega) rfl ⟨Nat.zero_le _, Nat.zero_le _⟩ (mv_ki fun r228 hs => ?_)
  refine mv_if_eq dX7_has_4 hs (fun _ hs => ?_) (fun _ hs => ?_)
  · refine mv_iconst 0 dX7_has_22 (by decide) ?_
    exact mv_zret dX7_has_23 rfl (Or.inl rfl) ⟨_, rfl, rfl, rfl, mv_sat_some hs⟩
  · refine mv_aload_n dX7_has_7 rfl ?_
    refine mv_geti dX7_has_8 kf_X7_19 gf_4_2 ?_
    refine mv_iload_n dX7_has_11 rfl ?_
    refine mv_cS (st := []) dX7_has_12 kk_X7_32 (TX9_isIn G d _ _ _ _ (mv_sat_bind hs)) rfl rfl (Nat.le_of_ble_eq_true rfl) (by omega) rfl ⟨Nat.zero_le _, Nat.zero_le _⟩ (mv_ki fun r229 hs => ?_)
    refine mv_if_eq dX7_has_15 hs (fun _ hs => ?_) (fun _ hs => ?_)
    · refine mv_iconst 0 dX7_has_22 (by decide) ?_
      exact mv_zret dX7_has_23 rfl (Or.inl rfl) ⟨_, rfl, rfl, rfl, mv_sat_some hs⟩
    · refine mv_iconst 1 dX7_has_18 (by decide) ?_
      refine mv_goto dX7_has_19 ?_
      exact mv_zret dX7_has_23 rfl (Or.inr rfl) ⟨_, rfl, rfl, rfl, mv_sat_some hs⟩
noncomputable def fX7_remove_4 (p0 : Int32) (h : mv_H) : Option (mv_H) := (fX9_isNumber p0).bind fun r231 => if r231 = 0 then some h else mv_let (mv_u h 4 2 ((h 4 2) &&& ((1 <<< (p0 &&& 31)) ^^^ (-1)))) fun h232 : mv_H => some h232
set_option maxRecDepth 100000 in
set_option maxHeartbeats 4000000 in
theorem TX7_remove_4 (G : mv_G) (d : Nat) (P : mv_H → Prop) (p0 : Int32) (h : mv_H) (hs : mv_sat (fX7_remove_4 p0 h) P) : mv_met G (d + 1) mX7_remove [.ref 4, .int p0] mv_SH h (mv_qv mv_SH P) := by
  unfold fX7_remove_4 at hs
  obtain ⟨D, hDe⟩ : ∃ D, D = d + 1 := ⟨_, rfl⟩
  rw [← hDe]
  have hD : d + 1 ≤ D := by omega
  refine mv_enter (lv := [.ref 4, .int p0]) 0 (by decide) (by decide +kernel) rfl (Nat.le_of_ble_eq_true rfl) ?_
  refine mv_iload_n dX7_remove_0 rfl ?_
  refine mv_cS (st := []) dX7_remove_1 kk_X7_28 (TX9_isNumber G d _ _ _ (mv_sat_bind hs)) rfl rfl (Nat.le_of_ble_eq_true rfl) (by omega) rfl ⟨Nat.zero_le _, Nat.zero_le _⟩ (mv_ki fun r231 hs => ?_)
  refine mv_if_eq dX7_remove_4 hs (fun _ hs => ?_) (fun _ hs => ?_)
  · exact mv_vret dX7_remove_21 rfl ⟨_, rfl, rfl, rfl, mv_sat_some hs⟩
  · refine mv_aload_n dX7_remove_7 rfl ?_
    refine mv_dup dX7_remove_8 rfl ?_
    refine mv_geti dX7_remove_9 kf_X7_19 gf_4_2 ?_
    refine mv_iconst 1 dX7_remove_12 (by decide) ?_
    refine mv_iload_n dX7_remove_13 rfl ?_
    refine mv_ishl dX7_remove_14 ?_
    refine mv_iconst (-1) dX7_remove_15 (by decide) ?_
    refine mv_ixor dX7_remove_16 ?_
    refine mv_iand dX7_remove_17 ?_
    refine mv_puti dX7_remove_18 kf_X7_19 (fun q => by cases q) gf_4_2 ?_
    refine mv_nameH hs (fun h232 hs => ?_)
    exact mv_vret dX7_remove_21 rfl ⟨_, rfl, rfl, rfl, mv_sat_some hs⟩
noncomputable def fX7_has_6 (p0 : Int32) (h : mv_H) : Option (Int32) := (fX9_isNumber p0).bind fun r235 => if r235 = 0 then some 0 else (fX9_isIn (h 6 2) p0).bind fun r236 => if r236 = 0 then some 0 else some 1
set_option maxRecDepth 100000 in
set_option maxHeartbeats 4000000 in
theorem TX7_has_6 (G : mv_G) (d : Nat) (P : Int32 → Prop) (p0 : Int32) (h : mv_H) (hs : mv_sat (fX7_has_6 p0 h) P) : mv_met G (d + 1) mX7_has [.ref 6, .int p0] mv_SH h (mv_qi mv_SH h P) := by
  unfold fX7_has_6 at hs
  obtain ⟨D, hDe⟩ : ∃ D, D = d + 1 := ⟨_, rfl⟩
  rw [← hDe]
  have hD : d + 1 ≤ D := by omega
  refine mv_enter (lv := [.ref 6, .int p0]) 0 (by decide) (by decide +kernel) rfl (Nat.le_of_ble_eq_true rfl) ?_
  refine mv_iload_n dX7_has_0 rfl ?_
  refine mv_cS (st := []) dX7_has_1 kk_X7_28 (TX9_isNumber G d _ _ _ (mv_sat_bind hs)) rfl rfl (Nat.le_of_ble_eq_true rfl) (by omega) rfl ⟨Nat.zero_le _, Nat.zero_le _⟩ (mv_ki fun r235 hs => ?_)
  refine mv_if_eq dX7_has_4 hs (fun _ hs => ?_) (fun _ hs => ?_)
  · refine mv_iconst 0 dX7_has_22 (by decide) ?_
    exact mv_zret dX7_has_23 rfl (Or.inl rfl) ⟨_, rfl, rfl, rfl, mv_sat_some hs⟩
  · refine mv_aload_n dX7_has_7 rfl ?_
    refine mv_geti dX7_has_8 kf_X7_19 gf_6_2 ?_
    refine mv_iload_n dX7_has_11 rfl ?_
    refine mv_cS (st := []) dX7_has_12 kk_X7_32 (TX9_isIn G d _ _ _ _ (mv_sat_bind hs)) rfl rfl (Nat.le_of_ble_eq_true rfl) (by omega) rfl ⟨Nat.zero_le _, Nat.zero_le _⟩ (mv_ki fun r236 hs => ?_)
    refine mv_if_eq dX7_has_15 hs (fun _ hs => ?_) (fun _ hs => ?_)
    · refine mv_iconst 0 dX7_has_22 (by decide) ?_
      exact mv_zret dX7_has_23 rfl (Or.inl rfl) ⟨_, rfl, rfl, rfl, mv_sat_some hs⟩
    · refine mv_iconst 1 dX7_has_18 (by decide) ?_
      refine mv_goto dX7_has_19 ?_
      exact mv_zret dX7_has_23 rfl (Or.inr rfl) ⟨_, rfl, rfl, rfl, mv_sat_some hs⟩
noncomputable def fX7_remove_6 (p0 : Int32) (h : mv_H) : Option (mv_H) := (fX9_isNumber p0).bind fun r238 => if r238 = 0 then some h else mv_let (mv_u h 6 2 ((h 6 2) &&& ((1 <<< (p0 &&& 31)) ^^^ (-1)))) fun h239 : mv_H => some h239
set_option maxRecDepth 100000 in
set_option maxHeartbeats 4000000 in
theorem TX7_remove_6 (G : mv_G) (d : Nat) (P : mv_H → Prop) (p0 : Int32) (h : mv_H) (hs : mv_sat (fX7_remove_6 p0 h) P) : mv_met G (d + 1) mX7_remove [.ref 6, .int p0] mv_SH h (mv_qv mv_SH P) := by
  unfold fX7_remove_6 at hs
  obtain ⟨D, hDe⟩ : ∃ D, D = d + 1 := ⟨_, rfl⟩
  rw [← hDe]
  have hD : d + 1 ≤ D := by omega
  refine mv_enter (lv := [.ref 6, .int p0]) 0 (by decide) (by decide +kernel) rfl (Nat.le_of_ble_eq_true rfl) ?_
  refine mv_iload_n dX7_remove_0 rfl ?_
  refine mv_cS (st := []) dX7_remove_1 kk_X7_28 (TX9_isNumber G d _ _ _ (mv_sat_bind hs)) rfl rfl (Nat.le_of_ble_eq_true rfl) (by omega) rfl ⟨Nat.zero_le _, Nat.zero_le _⟩ (mv_ki fun r238 hs => ?_)
  refine mv_if_eq dX7_remove_4 hs (fun _ hs => ?_) (fun _ hs => ?_)
  · exact mv_vret dX7_remove_21 rfl ⟨_, rfl, rfl, rfl, mv_sat_some hs⟩
  · refine mv_aload_n dX7_remove_7 rfl ?_
    refine mv_dup dX7_remove_8 rfl ?_
    refine mv_geti dX7_remove_9 kf_X7_19 gf_6_2 ?_
    refine mv_iconst 1 dX7_remove_12 (by decide) ?_
    refine mv_iload_n dX7_remove_13 rfl ?_
    refine mv_ishl dX7_remove_14 ?_
    refine mv_iconst (-1) dX7_remove_15 (by decide) ?_
    refine mv_ixor dX7_remove_16 ?_
    refine mv_iand dX7_remove_17 ?_
    refine mv_puti dX7_remove_18 kf_X7_19 (fun q => by cases q) gf_6_2 ?_
    refine mv_nameH hs (fun h239 hs => ?_)
    exact mv_vret dX7_remove_21 rfl ⟨_, rfl, rfl, rfl, mv_sat_some hs⟩
noncomputable def fX9_drop_0 (p0 : Int32) (p1 : Int32) (h : mv_H) : Option (Int32 × mv_H) := (fX9_isWithin p0 (0 : Int32) (2 : Int32)).bind fun r219 => if r219 = 0 then some ((-2), h) else (fX1_shelf_1 p0 h).bind fun r220 => if r220 = 2 then ((fX7_has_2 p1 h).bind fun r223 => if r223 = 0 then some ((-1), h) else (fX7_remove_2 p1 h).bind fun r226 => (fX7_count_2 r226).bind fun r227 => some (r227, r226)) else if r220 = 4 then ((fX7_has_4 p1 h).bind fun r230 => if r230 = 0 then some ((-1), h) else (fX7_remove_4 p1 h).bind fun r233 => (fX7_count_4 r233).bind fun r234 => some (r234, r233)) else if r220 = 6 then ((fX7_has_6 p1 h).bind fun r237 => if r237 = 0 then some ((-1), h) else (fX7_remove_6 p1 h).bind fun r240 => (fX7_count_6 r240).bind fun r241 => some (r241, r240)) else none
set_option maxRecDepth 100000 in
set_option maxHeartbeats 4000000 in
theorem TX9_drop_0 (G : mv_G) (d : Nat) (P : Int32 × mv_H → Prop) (p0 : Int32) (p1 : Int32) (h : mv_H) (hs : mv_sat (fX9_drop_0 p0 p1 h) P) : mv_met G (d + 2) mX9_drop [.ref 0, .int p0, .int p1] mv_SH h (mv_qI mv_SH P) := by
  unfold fX9_drop_0 at hs
  obtain ⟨D, hDe⟩ : ∃ D, D = d + 2 := ⟨_, rfl⟩
  rw [← hDe]
  have hD : d + 2 ≤ D := by omega
  refine mv_enter (lv := [.ref 0, .int p0, .int p1, .float 0]) 1 (by decide) (by decide +kernel) rfl (Nat.le_of_ble_eq_true rfl) ?_
  refine mv_iload_n dX9_drop_0 rfl ?_
  refine mv_iconst 0 dX9_drop_1 (by decide) ?_
  refine mv_iconst 2 dX9_drop_2 (by decide) ?_
  refine mv_cS (st := []) dX9_drop_3 kk_X9_79 (TX9_isWithin G d _ _ _ _ _ (mv_sat_bind hs)) rfl rfl (Nat.le_of_ble_eq_true rfl) (by omega) rfl ⟨Nat.zero_le _, Nat.zero_le _⟩ (mv_ki fun r219 hs => ?_)
  refine mv_if_ne dX9_drop_6 hs (fun _ hs => ?_) (fun _ hs => ?_)
  · refine mv_bipush (-2) dX9_drop_9 (by decide) ?_
    exact mv_iret dX9_drop_11 rfl ⟨((-2), h), rfl, rfl, rfl, mv_sat_some hs⟩
  · refine mv_aload_n dX9_drop_12 rfl ?_
    refine mv_getr dX9_drop_13 kf_X9_10 gf_0_0 ?_
    refine mv_iload_n dX9_drop_16 rfl ?_
    refine mv_cV (st := []) dX9_drop_17 kk_X9_96 (TX1_shelf_1 G d _ _ _ (mv_sat_bind hs)) so_1 vc_1 rfl rfl (Nat.le_of_ble_eq_true rfl) (by omega) rfl ⟨Nat.zero_le _, Nat.zero_le _⟩ (mv_kr fun r220 hs => ?_)
    refine mv_case hs (fun e hsn => ?_) (fun _ hs => ?_)
    · subst e
      have hs := hsn
      refine mv_astore_n (lv' := [.ref 0, .int p0, .int p1, .ref 2]) dX9_drop_20 (Nat.le_of_ble_eq_true rfl) rfl rfl ?_
      refine mv_aload_n dX9_drop_21 rfl ?_
      refine mv_iload_n dX9_drop_22 rfl ?_
      refine mv_cV (st := []) dX9_drop_23 kk_X9_100 (TX7_has_2 G d _ _ _ (mv_sat_bind hs)) so_2 vc_7 rfl rfl (Nat.le_of_ble_eq_true rfl) (by omega) rfl ⟨Nat.zero_le _, Nat.zero_le _⟩ (mv_ki fun r223 hs => ?_)
      refine mv_if_ne dX9_drop_26 hs (fun _ hs => ?_) (fun _ hs => ?_)
      · refine mv_iconst (-1) dX9_drop_29 (by decide) ?_
        exact mv_iret dX9_drop_30 rfl ⟨((-1), h), rfl, rfl, rfl, mv_sat_some hs⟩
      · refine mv_aload_n dX9_drop_31 rfl ?_
        refine mv_iload_n dX9_drop_32 rfl ?_
        refine mv_cV (st := []) dX9_drop_33 kk_X9_103 (TX7_remove_2 G d _ _ _ (mv_sat_bind hs)) so_2 vc_7 rfl rfl (Nat.le_of_ble_eq_true rfl) (by omega) rfl ⟨Nat.zero_le _, Nat.zero_le _⟩ (mv_kv fun r226 hs => ?_)
        refine mv_aload_n dX9_drop_36 rfl ?_
        refine mv_cV (st := []) dX9_drop_37 kk_X9_92 (TX7_count_2 G d _ _ (mv_sat_bind hs)) so_2 vc_7 rfl rfl (Nat.le_of_ble_eq_true rfl) (by omega) rfl ⟨Nat.zero_le _, Nat.zero_le _⟩ (mv_ki fun r227 hs => ?_)
        exact mv_iret dX9_drop_40 rfl ⟨(r227, r226), rfl, rfl, rfl, mv_sat_some hs⟩
    refine mv_case hs (fun e hsn => ?_) (fun _ hs => ?_)
    · subst e
      have hs := hsn
      refine mv_astore_n (lv' := [.ref 0, .int p0, .int p1, .ref 4]) dX9_drop_20 (Nat.le_of_ble_eq_true rfl) rfl rfl ?_
      refine mv_aload_n dX9_drop_21 rfl ?_
      refine mv_iload_n dX9_drop_22 rfl ?_
      refine mv_cV (st := []) dX9_drop_23 kk_X9_100 (TX7_has_4 G d _ _ _ (mv_sat_bind hs)) so_4 vc_7 rfl rfl (Nat.le_of_ble_eq_true rfl) (by omega) rfl ⟨Nat.zero_le _, Nat.zero_le _⟩ (mv_ki fun r230 hs => ?_)
      refine mv_if_ne dX9_drop_26 hs (fun _ hs => ?_) (fun _ hs => ?_)
      · refine mv_iconst (-1) dX9_drop_29 (by decide) ?_
        exact mv_iret dX9_drop_30 rfl ⟨((-1), h), rfl, rfl, rfl, mv_sat_some hs⟩
      · refine mv_aload_n dX9_drop_31 rfl ?_
        refine mv_iload_n dX9_drop_32 rfl ?_
        refine mv_cV (st := []) dX9_drop_33 kk_X9_103 (TX7_remove_4 G d _ _ _ (mv_sat_bind hs)) so_4 vc_7 rfl rfl (Nat.le_of_ble_eq_true rfl) (by omega) rfl ⟨Nat.zero_le _, Nat.zero_le _⟩ (mv_kv fun r233 hs => ?_)
        refine mv_aload_n dX9_drop_36 rfl ?_
        refine mv_cV (st := []) dX9_drop_37 kk_X9_92 (TX7_count_4 G d _ _ (mv_sat_bind hs)) so_4 vc_7 rfl rfl (Nat.le_of_ble_eq_true rfl) (by omega) rfl ⟨Nat.zero_le _, Nat.zero_le _⟩ (mv_ki fun r234 hs => ?_)
        exact mv_iret dX9_drop_40 rfl ⟨(r234, r233), rfl, rfl, rfl, mv_sat_some hs⟩
    refine mv_case hs (fun e hsn => ?_) (fun _ hs => ?_)
    · subst e
      have hs := hsn
      refine mv_astore_n (lv' := [.ref 0, .int p0, .int p1, .ref 6]) dX9_drop_20 (Nat.le_of_ble_eq_true rfl) rfl rfl ?_
      refine mv_aload_n dX9_drop_21 rfl ?_
      refine mv_iload_n dX9_drop_22 rfl ?_
      refine mv_cV (st := []) dX9_drop_23 kk_X9_100 (TX7_has_6 G d _ _ _ (mv_sat_bind hs)) so_6 vc_7 rfl rfl (Nat.le_of_ble_eq_true rfl) (by omega) rfl ⟨Nat.zero_le _, Nat.zero_le _⟩ (mv_ki fun r237 hs => ?_)
      refine mv_if_ne dX9_drop_26 hs (fun _ hs => ?_) (fun _ hs => ?_)
      · refine mv_iconst (-1) dX9_drop_29 (by decide) ?_
        exact mv_iret dX9_drop_30 rfl ⟨((-1), h), rfl, rfl, rfl, mv_sat_some hs⟩
      · refine mv_aload_n dX9_drop_31 rfl ?_
        refine mv_iload_n dX9_drop_32 rfl ?_
        refine mv_cV (st := []) dX9_drop_33 kk_X9_103 (TX7_remove_6 G d _ _ _ (mv_sat_bind hs)) so_6 vc_7 rfl rfl (Nat.le_of_ble_eq_true rfl) (by omega) rfl ⟨Nat.zero_le _, Nat.zero_le _⟩ (mv_kv fun r240 hs => ?_)
        refine mv_aload_n dX9_drop_36 rfl ?_
        refine mv_cV (st := []) dX9_drop_37 kk_X9_92 (TX7_count_6 G d _ _ (mv_sat_bind hs)) so_6 vc_7 rfl rfl (Nat.le_of_ble_eq_true rfl) (by omega) rfl ⟨Nat.zero_le _, Nat.zero_le _⟩ (mv_ki fun r241 hs => ?_)
        exact mv_iret dX9_drop_40 rfl ⟨(r241, r240), rfl, rfl, rfl, mv_sat_some hs⟩
    exact (mv_sat_none hs).elim
noncomputable def fX10_isBox_55 (p0 : Int32) (h : mv_H) : Option (Int32) := (fX10_isNumber p0).bind fun r244 => if r244 = 0 then some 0 else if (((h 55 0) >>> (p0 &&& 31)) &&& 1) = 1 then some 1 else some 0
set_option maxRecDepth 100000 in
set_option maxHeartbeats 4000000 in
theorem TX10_isBox_55 (G : mv_G) (d : Nat) (P : Int32 → Prop) (p0 : Int32) (h : mv_H) (hs : mv_sat (fX10_isBox_55 p0 h) P) : mv_met G (d + 2) mX10_isBox [.ref 55, .int p0] mv_SH h (mv_qi mv_SH h P) := by
  unfold fX10_isBox_55 at hs
  obtain ⟨D, hDe⟩ : ∃ D, D = d + 2 := ⟨_, rfl⟩
  rw [← hDe]
  have hD : d + 2 ≤ D := by omega
  refine mv_enter (lv := [.ref 55, .int p0]) 0 (by decide) (by decide +kernel) rfl (Nat.le_of_ble_eq_true rfl) ?_
  refine mv_iload_n dX10_isBox_0 rfl ?_
  refine mv_cS (st := []) dX10_isBox_1 kk_X10_108 (TX10_isNumber G d _ _ _ (mv_sat_bind hs)) rfl rfl (Nat.le_of_ble_eq_true rfl) (by omega) rfl ⟨Nat.zero_le _, Nat.zero_le _⟩ (mv_ki fun r244 hs => ?_)
  refine mv_if_eq dX10_isBox_4 hs (fun _ hs => ?_) (fun _ hs => ?_)
  · refine mv_iconst 0 dX10_isBox_23 (by decide) ?_
    exact mv_zret dX10_isBox_24 rfl (Or.inl rfl) ⟨_, rfl, rfl, rfl, mv_sat_some hs⟩
  · refine mv_aload_n dX10_isBox_7 rfl ?_
    refine mv_geti dX10_isBox_8 kf_X10_112 gf_55_0 ?_
    refine mv_iload_n dX10_isBox_11 rfl ?_
    refine mv_ishr dX10_isBox_12 ?_
    refine mv_iconst 1 dX10_isBox_13 (by decide) ?_
    refine mv_iand dX10_isBox_14 ?_
    refine mv_iconst 1 dX10_isBox_15 (by decide) ?_
    refine mv_icmp_ne dX10_isBox_16 hs (fun _ hs => ?_) (fun _ hs => ?_)
    · refine mv_iconst 1 dX10_isBox_19 (by decide) ?_
      refine mv_goto dX10_isBox_20 ?_
      exact mv_zret dX10_isBox_24 rfl (Or.inr rfl) ⟨_, rfl, rfl, rfl, mv_sat_some hs⟩
    · refine mv_iconst 0 dX10_isBox_23 (by decide) ?_
      exact mv_zret dX10_isBox_24 rfl (Or.inl rfl) ⟨_, rfl, rfl, rfl, mv_sat_some hs⟩
noncomputable def fX10_drop_55_b147 (s0 : Int32) (h : mv_H) : Option (Int32 × mv_H) := (fX10_ones s0).bind fun r249 => some (r249, h)
set_option maxRecDepth 100000 in
set_option maxHeartbeats 4000000 in
theorem BX10_drop_55_b147 (G : mv_G) (d D : Nat) (hD : d + 1 ≤ D) (P : Int32 × mv_H → Prop) (s0 : Int32) (h : mv_H) (hs : mv_sat (fX10_drop_55_b147 s0 h) P) : mv_MW G mX10_drop (mv_rm D mX10_drop) (mv_Zf G mX10_drop (mv_qI mv_SH P)) 0 0 147 [.float 0, .float 0, .float 0, .float 0] [.int s0] mv_SH h := by
  unfold fX10_drop_55_b147 at hs
  refine mv_cS (st := []) dX10_drop_147 kk_X10_131 (TX10_ones G d _ _ _ (mv_sat_bind hs)) rfl rfl (Nat.le_of_ble_eq_true rfl) (by omega) rfl ⟨Nat.zero_le _, Nat.zero_le _⟩ (mv_ki fun r249 hs => ?_)
  exact mv_iret dX10_drop_150 rfl ⟨(r249, h), rfl, rfl, rfl, mv_sat_some hs⟩
noncomputable def fX10_drop_55_b116 (v1 : Int32) (s0 : Int32) (s1 : Int32) (h : mv_H) : Option (Int32 × mv_H) := mv_let (mv_u h 55 2 (s1 &&& s0)) fun h248 : mv_H => if v1 = 0 then fX10_drop_55_b147 (h248 55 0) h248 else if v1 = 1 then fX10_drop_55_b147 (h248 55 1) h248 else fX10_drop_55_b147 (h248 55 2) h248
set_option maxRecDepth 100000 in
set_option maxHeartbeats 4000000 in
theorem BX10_drop_55_b116 (G : mv_G) (d D : Nat) (hD : d + 1 ≤ D) (P : Int32 × mv_H → Prop) (v1 : Int32) (s0 : Int32) (s1 : Int32) (h : mv_H) (hs : mv_sat (fX10_drop_55_b116 v1 s0 s1 h) P) : mv_MW G mX10_drop (mv_rm D mX10_drop) (mv_Zf G mX10_drop (mv_qI mv_SH P)) 0 0 116 [.ref 55, .int v1, .float 0, .float 0] [.int s0, .int s1, .ref 55] mv_SH h := by
  unfold fX10_drop_55_b116 at hs
  refine mv_iand dX10_drop_116 ?_
  refine mv_puti dX10_drop_117 kf_X10_118 (fun q => by cases q) gf_55_2 ?_
  refine mv_nameH hs (fun h248 hs => ?_)
  refine mv_iload_n dX10_drop_120 rfl ?_
  refine mv_if_ne dX10_drop_121 hs (fun _ hs => ?_) (fun _ hs => ?_)
  · refine mv_aload_n dX10_drop_124 rfl ?_
    refine mv_geti dX10_drop_125 kf_X10_112 gf_55_0 ?_
    refine mv_goto dX10_drop_128 ?_
    exact mv_weak (lv' := [.float 0, .float 0, .float 0, .float 0]) (mv_k (mv_k (mv_s (mv_s mv_n)))) (BX10_drop_55_b147 G d D (by omega) P _ _ hs)
  · refine mv_iload_n dX10_drop_131 rfl ?_
    refine mv_iconst 1 dX10_drop_132 (by decide) ?_
    refine mv_icmp_ne dX10_drop_133 hs (fun _ hs => ?_) (fun _ hs => ?_)
    · refine mv_aload_n dX10_drop_136 rfl ?_
      refine mv_geti dX10_drop_137 kf_X10_115 gf_55_1 ?_
      refine mv_goto dX10_drop_140 ?_
      exact mv_weak (lv' := [.float 0, .float 0, .float 0, .float 0]) (mv_k (mv_k (mv_s (mv_s mv_n)))) (BX10_drop_55_b147 G d D (by omega) P _ _ hs)
    · refine mv_aload_n dX10_drop_143 rfl ?_
      refine mv_geti dX10_drop_144 kf_X10_118 gf_55_2 ?_
      exact mv_weak (lv' := [.float 0, .float 0, .float 0, .float 0]) (mv_k (mv_k (mv_s (mv_s mv_n)))) (BX10_drop_55_b147 G d D (by omega) P _ _ hs)
noncomputable def fX10_drop_55_b93 (v1 : Int32) (v2 : Int32) (s0 : Int32) (s1 : Int32) (h : mv_H) : Option (Int32 × mv_H) := mv_let (mv_u h 55 1 (s1 &&& s0)) fun h247 : mv_H => if v1 = 2 then fX10_drop_55_b116 v1 ((1 <<< (v2 &&& 31)) ^^^ (-1)) (h247 55 2) h247 else fX10_drop_55_b116 v1 (-1) (h247 55 2) h247
set_option maxRecDepth 100000 in
set_option maxHeartbeats 4000000 in
theorem BX10_drop_55_b93 (G : mv_G) (d D : Nat) (hD : d + 1 ≤ D) (P : Int32 × mv_H → Prop) (v1 : Int32) (v2 : Int32) (s0 : Int32) (s1 : Int32) (h : mv_H) (hs : mv_sat (fX10_drop_55_b93 v1 v2 s0 s1 h) P) : mv_MW G mX10_drop (mv_rm D mX10_drop) (mv_Zf G mX10_drop (mv_qI mv_SH P)) 0 0 93 [.ref 55, .int v1, .int v2, .float 0] [.int s0, .int s1, .ref 55] mv_SH h := by
  unfold fX10_drop_55_b93 at hs
  refine mv_iand dX10_drop_93 ?_
  refine mv_puti dX10_drop_94 kf_X10_115 (fun q => by cases q) gf_55_1 ?_
  refine mv_nameH hs (fun h247 hs => ?_)
  refine mv_aload_n dX10_drop_97 rfl ?_
  refine mv_dup dX10_drop_98 rfl ?_
  refine mv_geti dX10_drop_99 kf_X10_118 gf_55_2 ?_
  refine mv_iload_n dX10_drop_102 rfl ?_
  refine mv_iconst 2 dX10_drop_103 (by decide) ?_
  refine mv_icmp_ne dX10_drop_104 hs (fun _ hs => ?_) (fun _ hs => ?_)
  · refine mv_iconst 1 dX10_drop_107 (by decide) ?_
    refine mv_iload_n dX10_drop_108 rfl ?_
    refine mv_ishl dX10_drop_109 ?_
    refine mv_iconst (-1) dX10_drop_110 (by decide) ?_
    refine mv_ixor dX10_drop_111 ?_
    refine mv_goto dX10_drop_112 ?_
    exact mv_weak (lv' := [.ref 55, .int v1, .float 0, .float 0]) (mv_s (mv_s (mv_k (mv_s mv_n)))) (BX10_drop_55_b116 G d D (by omega) P _ _ _ _ hs)
  · refine mv_iconst (-1) dX10_drop_115 (by decide) ?_
    exact mv_weak (lv' := [.ref 55, .int v1, .float 0, .float 0]) (mv_s (mv_s (mv_k (mv_s mv_n)))) (BX10_drop_55_b116 G d D (by omega) P _ _ _ _ hs)
noncomputable def fX10_drop_55_b70 (v1 : Int32) (v2 : Int32) (s0 : Int32) (s1 : Int32) (h : mv_H) : Option (Int32 × mv_H) := mv_let (mv_u h 55 0 (s1 &&& s0)) fun h246 : mv_H => if v1 = 1 then fX10_drop_55_b93 v1 v2 ((1 <<< (v2 &&& 31)) ^^^ (-1)) (h246 55 1) h246 else fX10_drop_55_b93 v1 v2 (-1) (h246 55 1) h246
set_option maxRecDepth 100000 in
set_option maxHeartbeats 4000000 in
theorem BX10_drop_55_b70 (G : mv_G) (d D : Nat) (hD : d + 1 ≤ D) (P : Int32 × mv_H → Prop) (v1 : Int32) (v2 : Int32) (s0 : Int32) (s1 : Int32) (h : mv_H) (hs : mv_sat (fX10_drop_55_b70 v1 v2 s0 s1 h) P) : mv_MW G mX10_drop (mv_rm D mX10_drop) (mv_Zf G mX10_drop (mv_qI mv_SH P)) 0 0 70 [.ref 55, .int v1, .int v2, .float 0] [.int s0, .int s1, .ref 55] mv_SH h := by
  unfold fX10_drop_55_b70 at hs
  refine mv_iand dX10_drop_70 ?_
  refine mv_puti dX10_drop_71 kf_X10_112 (fun q => by cases q) gf_55_0 ?_
  refine mv_nameH hs (fun h246 hs => ?_)
  refine mv_aload_n dX10_drop_74 rfl ?_
  refine mv_dup dX10_drop_75 rfl ?_
  refine mv_geti dX10_drop_76 kf_X10_115 gf_55_1 ?_
  refine mv_iload_n dX10_drop_79 rfl ?_
  refine mv_iconst 1 dX10_drop_80 (by decide) ?_
  refine mv_icmp_ne dX10_drop_81 hs (fun _ hs => ?_) (fun _ hs => ?_)
  · refine mv_iconst 1 dX10_drop_84 (by decide) ?_
    refine mv_iload_n dX10_drop_85 rfl ?_
    refine mv_ishl dX10_drop_86 ?_
    refine mv_iconst (-1) dX10_drop_87 (by decide) ?_
    refine mv_ixor dX10_drop_88 ?_
    refine mv_goto dX10_drop_89 ?_
    exact (BX10_drop_55_b93 G d D (by omega) P _ _ _ _ _ hs)
  · refine mv_iconst (-1) dX10_drop_92 (by decide) ?_
    exact (BX10_drop_55_b93 G d D (by omega) P _ _ _ _ _ hs)
noncomputable def fX10_drop_55_b45 (v1 : Int32) (v2 : Int32) (s0 : Int32) (h : mv_H) : Option (Int32 × mv_H) := if s0 = 0 then some ((-1), h) else if v1 = 0 then fX10_drop_55_b70 v1 v2 ((1 <<< (v2 &&& 31)) ^^^ (-1)) (h 55 0) h else fX10_drop_55_b70 v1 v2 (-1) (h 55 0) h
set_option maxRecDepth 100000 in
set_option maxHeartbeats 4000000 in
theorem BX10_drop_55_b45 (G : mv_G) (d D : Nat) (hD : d + 1 ≤ D) (P : Int32 × mv_H → Prop) (v1 : Int32) (v2 : Int32) (s0 : Int32) (h : mv_H) (hs : mv_sat (fX10_drop_55_b45 v1 v2 s0 h) P) : mv_MW G mX10_drop (mv_rm D mX10_drop) (mv_Zf G mX10_drop (mv_qI mv_SH P)) 0 0 45 [.ref 55, .int v1, .int v2, .float 0] [.int s0] mv_SH h := by
  unfold fX10_drop_55_b45 at hs
  refine mv_istore_n (lv' := [.ref 55, .int v1, .int v2, .int s0]) dX10_drop_45 (Nat.le_of_ble_eq_true rfl) rfl rfl ?_
  refine mv_iload_n dX10_drop_46 rfl ?_
  refine mv_if_ne dX10_drop_47 hs (fun _ hs => ?_) (fun _ hs => ?_)
  · refine mv_iconst (-1) dX10_drop_50 (by decide) ?_
    exact mv_iret dX10_drop_51 rfl ⟨((-1), h), rfl, rfl, rfl, mv_sat_some hs⟩
  · refine mv_aload_n dX10_drop_52 rfl ?_
    refine mv_dup dX10_drop_53 rfl ?_
    refine mv_geti dX10_drop_54 kf_X10_112 gf_55_0 ?_
    refine mv_iload_n dX10_drop_57 rfl ?_
    refine mv_if_ne dX10_drop_58 hs (fun _ hs => ?_) (fun _ hs => ?_)
    · refine mv_iconst 1 dX10_drop_61 (by decide) ?_
      refine mv_iload_n dX10_drop_62 rfl ?_
      refine mv_ishl dX10_drop_63 ?_
      refine mv_iconst (-1) dX10_drop_64 (by decide) ?_
      refine mv_ixor dX10_drop_65 ?_
      refine mv_goto dX10_drop_66 ?_
      exact mv_weak (lv' := [.ref 55, .int v1, .int v2, .float 0]) (mv_s (mv_s (mv_s (mv_k mv_n)))) (BX10_drop_55_b70 G d D (by omega) P _ _ _ _ _ hs)
    · refine mv_iconst (-1) dX10_drop_69 (by decide) ?_
      exact mv_weak (lv' := [.ref 55, .int v1, .int v2, .float 0]) (mv_s (mv_s (mv_s (mv_k mv_n)))) (BX10_drop_55_b70 G d D (by omega) P _ _ _ _ _ hs)
noncomputable def fX10_isThing_55 (p0 : Int32) (h : mv_H) : Option (Int32) := (fX10_isNumber p0).bind fun r250 => if r250 = 0 then some 0 else if (((h 55 1) >>> (p0 &&& 31)) &&& 1) = 1 then some 1 else some 0
set_option maxRecDepth 100000 in
set_option maxHeartbeats 4000000 in
theorem TX10_isThing_55 (G : mv_G) (d : Nat) (P : Int32 → Prop) (p0 : Int32) (h : mv_H) (hs : mv_sat (fX10_isThing_55 p0 h) P) : mv_met G (d + 2) mX10_isThing [.ref 55, .int p0] mv_SH h (mv_qi mv_SH h P) := by
  unfold fX10_isThing_55 at hs
  obtain ⟨D, hDe⟩ : ∃ D, D = d + 2 := ⟨_, rfl⟩
  rw [← hDe]
  have hD : d + 2 ≤ D := by omega
  refine mv_enter (lv := [.ref 55, .int p0]) 0 (by decide) (by decide +kernel) rfl (Nat.le_of_ble_eq_true rfl) ?_
  refine mv_iload_n dX10_isThing_0 rfl ?_
  refine mv_cS (st := []) dX10_isThing_1 kk_X10_108 (TX10_isNumber G d _ _ _ (mv_sat_bind hs)) rfl rfl (Nat.le_of_ble_eq_true rfl) (by omega) rfl ⟨Nat.zero_le _, Nat.zero_le _⟩ (mv_ki fun r250 hs => ?_)
  refine mv_if_eq dX10_isThing_4 hs (fun _ hs => ?_) (fun _ hs => ?_)
  · refine mv_iconst 0 dX10_isThing_23 (by decide) ?_
    exact mv_zret dX10_isThing_24 rfl (Or.inl rfl) ⟨_, rfl, rfl, rfl, mv_sat_some hs⟩
  · refine mv_aload_n dX10_isThing_7 rfl ?_
    refine mv_geti dX10_isThing_8 kf_X10_115 gf_55_1 ?_
    refine mv_iload_n dX10_isThing_11 rfl ?_
    refine mv_ishr dX10_isThing_12 ?_
    refine mv_iconst 1 dX10_isThing_13 (by decide) ?_
    refine mv_iand dX10_isThing_14 ?_
    refine mv_iconst 1 dX10_isThing_15 (by decide) ?_
    refine mv_icmp_ne dX10_isThing_16 hs (fun _ hs => ?_) (fun _ hs => ?_)
    · refine mv_iconst 1 dX10_isThing_19 (by decide) ?_
      refine mv_goto dX10_isThing_20 ?_
      exact mv_zret dX10_isThing_24 rfl (Or.inr rfl) ⟨_, rfl, rfl, rfl, mv_sat_some hs⟩
    · refine mv_iconst 0 dX10_isThing_23 (by decide) ?_
      exact mv_zret dX10_isThing_24 rfl (Or.inl rfl) ⟨_, rfl, rfl, rfl, mv_sat_some hs⟩
noncomputable def fX10_isSheet_55 (p0 : Int32) (h : mv_H) : Option (Int32) := (fX10_isNumber p0).bind fun r252 => if r252 = 0 then some 0 else if (((h 55 2) >>> (p0 &&& 31)) &&& 1) = 1 then some 1 else some 0
set_option maxRecDepth 100000 in
set_option maxHeartbeats 4000000 in
theorem TX10_isSheet_55 (G : mv_G) (d : Nat) (P : Int32 → Prop) (p0 : Int32) (h : mv_H) (hs : mv_sat (fX10_isSheet_55 p0 h) P) : mv_met G (d + 2) mX10_isSheet [.ref 55, .int p0] mv_SH h (mv_qi mv_SH h P) := by
  unfold fX10_isSheet_55 at hs
  obtain ⟨D, hDe⟩ : ∃ D, D = d + 2 := ⟨_, rfl⟩
  rw [← hDe]
  have hD : d + 2 ≤ D := by omega
  refine mv_enter (lv := [.ref 55, .int p0]) 0 (by decide) (by decide +kernel) rfl (Nat.le_of_ble_eq_true rfl) ?_
  refine mv_iload_n dX10_isSheet_0 rfl ?_
  refine mv_cS (st := []) dX10_isSheet_1 kk_X10_108 (TX10_isNumber G d _ _ _ (mv_sat_bind hs)) rfl rfl (Nat.le_of_ble_eq_true rfl) (by omega) rfl ⟨Nat.zero_le _, Nat.zero_le _⟩ (mv_ki fun r252 hs => ?_)
  refine mv_if_eq dX10_isSheet_4 hs (fun _ hs => ?_) (fun _ hs => ?_)
  · refine mv_iconst 0 dX10_isSheet_23 (by decide) ?_
    exact mv_zret dX10_isSheet_24 rfl (Or.inl rfl) ⟨_, rfl, rfl, rfl, mv_sat_some hs⟩
  · refine mv_aload_n dX10_isSheet_7 rfl ?_
    refine mv_geti dX10_isSheet_8 kf_X10_118 gf_55_2 ?_
    refine mv_iload_n dX10_isSheet_11 rfl ?_
    refine mv_ishr dX10_isSheet_12 ?_
    refine mv_iconst 1 dX10_isSheet_13 (by decide) ?_
    refine mv_iand dX10_isSheet_14 ?_
    refine mv_iconst 1 dX10_isSheet_15 (by decide) ?_
    refine mv_icmp_ne dX10_isSheet_16 hs (fun _ hs => ?_) (fun _ hs => ?_)
    · refine mv_iconst 1 dX10_isSheet_19 (by decide) ?_
      refine mv_goto dX10_isSheet_20 ?_
      exact mv_zret dX10_isSheet_24 rfl (Or.inr rfl) ⟨_, rfl, rfl, rfl, mv_sat_some hs⟩
    · refine mv_iconst 0 dX10_isSheet_23 (by decide) ?_
      exact mv_zret dX10_isSheet_24 rfl (Or.inl rfl) ⟨_, rfl, rfl, rfl, mv_sat_some hs⟩
noncomputable def fX10_drop_55 (p0 : Int32) (p1 : Int32) (h : mv_H) : Option (Int32 × mv_H) := (fX10_in (Int32.toInt64 p0) (0 : Int64) (2 : Int64)).bind fun r243 => if r243 = 0 then some ((-2), h) else if p0 = 0 then ((fX10_isBox_55 p1 h).bind fun r245 => fX10_drop_55_b45 p0 p1 r245 h) else if p0 = 1 then ((fX10_isThing_55 p1 h).bind fun r251 => fX10_drop_55_b45 p0 p1 r251 h) else (fX10_isSheet_55 p1 h).bind fun r253 => fX10_drop_55_b45 p0 p1 r253 h
set_option maxRecDepth 100000 in
set_option maxHeartbeats 4000000 in
theorem TX10_drop_55 (G : mv_G) (d : Nat) (P : Int32 × mv_H → Prop) (p0 : Int32) (p1 : Int32) (h : mv_H) (hs : mv_sat (fX10_drop_55 p0 p1 h) P) : mv_met G (d + 3) mX10_drop [.ref 55, .int p0, .int p1] mv_SH h (mv_qI mv_SH P) := by
  unfold fX10_drop_55 at hs
  obtain ⟨D, hDe⟩ : ∃ D, D = d + 3 := ⟨_, rfl⟩
  rw [← hDe]
  have hD : d + 3 ≤ D := by omega
  refine mv_enter (lv := [.ref 55, .int p0, .int p1, .float 0]) 1 (by decide) (by decide +kernel) rfl (Nat.le_of_ble_eq_true rfl) ?_
  refine mv_iload_n dX10_drop_0 rfl ?_
  refine mv_i2l dX10_drop_1 ?_
  refine mv_lconst 0 dX10_drop_2 rfl ?_
  refine mv_ldc2 dX10_drop_3 kn_X10_144 ?_
  refine mv_cS (st := []) dX10_drop_6 kk_X10_104 (TX10_in G d _ _ _ _ _ (mv_sat_bind hs)) rfl rfl (Nat.le_of_ble_eq_true rfl) (by omega) rfl ⟨Nat.zero_le _, Nat.zero_le _⟩ (mv_ki fun r243 hs => ?_)
  refine mv_if_ne dX10_drop_9 hs (fun _ hs => ?_) (fun _ hs => ?_)
  · refine mv_bipush (-2) dX10_drop_12 (by decide) ?_
    exact mv_iret dX10_drop_14 rfl ⟨((-2), h), rfl, rfl, rfl, mv_sat_some hs⟩
  · refine mv_iload_n dX10_drop_15 rfl ?_
    refine mv_if_ne dX10_drop_16 hs (fun _ hs => ?_) (fun _ hs => ?_)
    · refine mv_aload_n dX10_drop_19 rfl ?_
      refine mv_iload_n dX10_drop_20 rfl ?_
      refine mv_cV (st := []) dX10_drop_21 kk_X10_146 (TX10_isBox_55 G d _ _ _ (mv_sat_bind hs)) so_55 vc_10 rfl rfl (Nat.le_of_ble_eq_true rfl) (by omega) rfl ⟨Nat.zero_le _, Nat.zero_le _⟩ (mv_ki fun r245 hs => ?_)
      refine mv_goto dX10_drop_24 ?_
      exact (BX10_drop_55_b45 G d D (by omega) P _ _ _ _ hs)
    · refine mv_iload_n dX10_drop_27 rfl ?_
      refine mv_iconst 1 dX10_drop_28 (by decide) ?_
      refine mv_icmp_ne dX10_drop_29 hs (fun _ hs => ?_) (fun _ hs => ?_)
      · refine mv_aload_n dX10_drop_32 rfl ?_
        refine mv_iload_n dX10_drop_33 rfl ?_
        refine mv_cV (st := []) dX10_drop_34 kk_X10_149 (TX10_isThing_55 G d _ _ _ (mv_sat_bind hs)) so_55 vc_10 rfl rfl (Nat.le_of_ble_eq_true rfl) (by omega) rfl ⟨Nat.zero_le _, Nat.zero_le _⟩ (mv_ki fun r251 hs => ?_)
        refine mv_goto dX10_drop_37 ?_
        exact (BX10_drop_55_b45 G d D (by omega) P _ _ _ _ hs)
      · refine mv_aload_n dX10_drop_40 rfl ?_
        refine mv_iload_n dX10_drop_41 rfl ?_
        refine mv_cV (st := []) dX10_drop_42 kk_X10_152 (TX10_isSheet_55 G d _ _ _ (mv_sat_bind hs)) so_55 vc_10 rfl rfl (Nat.le_of_ble_eq_true rfl) (by omega) rfl ⟨Nat.zero_le _, Nat.zero_le _⟩ (mv_ki fun r253 hs => ?_)
        exact (BX10_drop_55_b45 G d D (by omega) P _ _ _ _ hs)
noncomputable def fX1_setting_1 (p0 : Int32) (h : mv_H) : Option (Int32) := if p0 = 0 then (some (h 1 5)) else if p0 = 1 then (some (h 1 6)) else if p0 = 2 then (some (h 1 7)) else some (h 1 8)
set_option maxRecDepth 100000 in
set_option maxHeartbeats 4000000 in
theorem TX1_setting_1 (G : mv_G) (d : Nat) (P : Int32 → Prop) (p0 : Int32) (h : mv_H) (hs : mv_sat (fX1_setting_1 p0 h) P) : mv_met G (d + 0) mX1_setting [.ref 1, .int p0] mv_SH h (mv_qi mv_SH h P) := by
  unfold fX1_setting_1 at hs
  obtain ⟨D, hDe⟩ : ∃ D, D = d + 0 := ⟨_, rfl⟩
  rw [← hDe]
  have hD : d + 0 ≤ D := by omega
  refine mv_enter (lv := [.ref 1, .int p0]) 0 (by decide) (by decide +kernel) rfl (Nat.le_of_ble_eq_true rfl) ?_
  refine mv_iload_n dX1_setting_0 rfl ?_
  refine mv_case hs (fun e hs => ?_) (fun n0 hs => ?_)
  · refine mv_tsw (off := 27) 0 e dX1_setting_1 (by decide) (tgt := 28) (by decide) ?_
    refine mv_aload_n dX1_setting_28 rfl ?_
    refine mv_geti dX1_setting_29 kf_X1_36 gf_1_5 ?_
    exact mv_iret dX1_setting_32 rfl ⟨_, rfl, rfl, rfl, mv_sat_some hs⟩
  refine mv_case hs (fun e hs => ?_) (fun n1 hs => ?_)
  · refine mv_tsw (off := 32) 1 e dX1_setting_1 (by decide) (tgt := 33) (by decide) ?_
    refine mv_aload_n dX1_setting_33 rfl ?_
    refine mv_geti dX1_setting_34 kf_X1_40 gf_1_6 ?_
    exact mv_iret dX1_setting_37 rfl ⟨_, rfl, rfl, rfl, mv_sat_some hs⟩
  refine mv_case hs (fun e hs => ?_) (fun n2 hs => ?_)
  · refine mv_tsw (off := 37) 2 e dX1_setting_1 (by decide) (tgt := 38) (by decide) ?_
    refine mv_aload_n dX1_setting_38 rfl ?_
    refine mv_geti dX1_setting_39 kf_X1_43 gf_1_7 ?_
    exact mv_iret dX1_setting_42 rfl ⟨_, rfl, rfl, rfl, mv_sat_some hs⟩
  have n0i := lv_neT (a := 0) n0 (by decide)
  have n1i := lv_neT (a := 1) n1 (by decide)
  have n2i := lv_neT (a := 2) n2 (by decide)
  refine mv_tswd dX1_setting_1 (by omega) (tgt := 43) (by decide) ?_
  refine mv_aload_n dX1_setting_43 rfl ?_
  refine mv_geti dX1_setting_44 kf_X1_46 gf_1_8 ?_
  exact mv_iret dX1_setting_47 rfl ⟨_, rfl, rfl, rfl, mv_sat_some hs⟩
noncomputable def fX1_change_1 (p0 : Int32) (p1 : Int32) (h : mv_H) : Option (mv_H) := if p0 = 0 then (mv_let (mv_u h 1 5 p1) fun h258 : mv_H => some h258) else if p0 = 1 then (mv_let (mv_u h 1 6 p1) fun h259 : mv_H => some h259) else if p0 = 2 then (mv_let (mv_u h 1 7 p1) fun h260 : mv_H => some h260) else mv_let (mv_u h 1 8 p1) fun h261 : mv_H => some h261
set_option maxRecDepth 100000 in
set_option maxHeartbeats 4000000 in
theorem TX1_change_1 (G : mv_G) (d : Nat) (P : mv_H → Prop) (p0 : Int32) (p1 : Int32) (h : mv_H) (hs : mv_sat (fX1_change_1 p0 p1 h) P) : mv_met G (d + 0) mX1_change [.ref 1, .int p0, .int p1] mv_SH h (mv_qv mv_SH P) := by
  unfold fX1_change_1 at hs
  obtain ⟨D, hDe⟩ : ∃ D, D = d + 0 := ⟨_, rfl⟩
  rw [← hDe]
  have hD : d + 0 ≤ D := by omega
  refine mv_enter (lv := [.ref 1, .int p0, .int p1]) 0 (by decide) (by decide +kernel) rfl (Nat.le_of_ble_eq_true rfl) ?_
  refine mv_iload_n dX1_change_0 rfl ?_
  refine mv_case hs (fun e hs => ?_) (fun n0 hs => ?_)
  · refine mv_tsw (off := 27) 0 e dX1_change_1 (by decide) (tgt := 28) (by decide) ?_
    refine mv_aload_n dX1_change_28 rfl ?_
    refine mv_iload_n dX1_change_29 rfl ?_
    refine mv_puti dX1_change_30 kf_X1_36 (fun q => by cases q) gf_1_5 ?_
    refine mv_nameH hs (fun h258 hs => ?_)
    refine mv_goto dX1_change_33 ?_
    exact mv_vret dX1_change_57 rfl ⟨_, rfl, rfl, rfl, mv_sat_some hs⟩
  refine mv_case hs (fun e hs => ?_) (fun n1 hs => ?_)
  · refine mv_tsw (off := 35) 1 e dX1_change_1 (by decide) (tgt := 36) (by decide) ?_
    refine mv_aload_n dX1_change_36 rfl ?_
    refine mv_iload_n dX1_change_37 rfl ?_
    refine mv_puti dX1_change_38 kf_X1_40 (fun q => by cases q) gf_1_6 ?_
    refine mv_nameH hs (fun h259 hs => ?_)
    refine mv_goto dX1_change_41 ?_
    exact mv_vret dX1_change_57 rfl ⟨_, rfl, rfl, rfl, mv_sat_some hs⟩
  refine mv_case hs (fun e hs => ?_) (fun n2 hs => ?_)
  · refine mv_tsw (off := 43) 2 e dX1_change_1 (by decide) (tgt := 44) (by decide) ?_
    refine mv_aload_n dX1_change_44 rfl ?_
    refine mv_iload_n dX1_change_45 rfl ?_
    refine mv_puti dX1_change_46 kf_X1_43 (fun q => by cases q) gf_1_7 ?_
    refine mv_nameH hs (fun h260 hs => ?_)
    refine mv_goto dX1_change_49 ?_
    exact mv_vret dX1_change_57 rfl ⟨_, rfl, rfl, rfl, mv_sat_some hs⟩
  have n0i := lv_neT (a := 0) n0 (by decide)
  have n1i := lv_neT (a := 1) n1 (by decide)
  have n2i := lv_neT (a := 2) n2 (by decide)
  refine mv_tswd dX1_change_1 (by omega) (tgt := 52) (by decide) ?_
  refine mv_aload_n dX1_change_52 rfl ?_
  refine mv_iload_n dX1_change_53 rfl ?_
  refine mv_puti dX1_change_54 kf_X1_46 (fun q => by cases q) gf_1_8 ?_
  refine mv_nameH hs (fun h261 hs => ?_)
  exact mv_vret dX1_change_57 rfl ⟨_, rfl, rfl, rfl, mv_sat_some hs⟩
noncomputable def fX9_set_0 (p0 : Int32) (p1 : Int32) (h : mv_H) : Option (Int32 × mv_H) := (fX9_isWithin p0 (0 : Int32) (3 : Int32)).bind fun r255 => if r255 = 0 then some ((-2), h) else if mv_in p0 4 then (if mv_in p0 4 then ((fX9_isWithin p1 (mv_least p0.toNatClampNeg) (mv_most p0.toNatClampNeg)).bind fun r256 => if r256 = 0 then some ((-2), h) else (fX1_setting_1 p0 h).bind fun r257 => (fX1_change_1 p0 p1 h).bind fun r262 => some (r257, r262)) else none) else none
set_option maxRecDepth 100000 in
set_option maxHeartbeats 4000000 in
theorem TX9_set_0 (G : mv_G) (d : Nat) (P : Int32 × mv_H → Prop) (p0 : Int32) (p1 : Int32) (h : mv_H) (hs : mv_sat (fX9_set_0 p0 p1 h) P) : mv_met G (d + 1) mX9_set [.ref 0, .int p0, .int p1] mv_SH h (mv_qI mv_SH P) := by
  unfold fX9_set_0 at hs
  obtain ⟨D, hDe⟩ : ∃ D, D = d + 1 := ⟨_, rfl⟩
  rw [← hDe]
  have hD : d + 1 ≤ D := by omega
  refine mv_enter (lv := [.ref 0, .int p0, .int p1, .float 0]) 1 (by decide) (by decide +kernel) rfl (Nat.le_of_ble_eq_true rfl) ?_
  refine mv_iload_n dX9_set_0 rfl ?_
  refine mv_iconst 0 dX9_set_1 (by decide) ?_
  refine mv_iconst 3 dX9_set_2 (by decide) ?_
  refine mv_cS (st := []) dX9_set_3 kk_X9_79 (TX9_isWithin G d _ _ _ _ _ (mv_sat_bind hs)) rfl rfl (Nat.le_of_ble_eq_true rfl) (by omega) rfl ⟨Nat.zero_le _, Nat.zero_le _⟩ (mv_ki fun r255 hs => ?_)
  refine mv_if_ne dX9_set_6 hs (fun _ hs => ?_) (fun _ hs => ?_)
  · refine mv_bipush (-2) dX9_set_9 (by decide) ?_
    exact mv_iret dX9_set_11 rfl ⟨((-2), h), rfl, rfl, rfl, mv_sat_some hs⟩
  · refine mv_iload_n dX9_set_12 rfl ?_
    refine mv_gets1 dX9_set_13 ks_1 ?_
    refine mv_iload_n dX9_set_16 rfl ?_
    refine mv_xl1 dX9_set_17 hs (fun hs => ?_)
    refine mv_gets2 dX9_set_18 ks_2 ?_
    refine mv_iload_n dX9_set_21 rfl ?_
    refine mv_xl2 dX9_set_22 hs (fun hs => ?_)
    refine mv_cS (st := []) dX9_set_23 kk_X9_79 (TX9_isWithin G d _ _ _ _ _ (mv_sat_bind hs)) rfl rfl (Nat.le_of_ble_eq_true rfl) (by omega) rfl ⟨Nat.zero_le _, Nat.zero_le _⟩ (mv_ki fun r256 hs => ?_)
    refine mv_if_ne dX9_set_26 hs (fun _ hs => ?_) (fun _ hs => ?_)
    · refine mv_bipush (-2) dX9_set_29 (by decide) ?_
      exact mv_iret dX9_set_31 rfl ⟨((-2), h), rfl, rfl, rfl, mv_sat_some hs⟩
    · refine mv_aload_n dX9_set_32 rfl ?_
      refine mv_getr dX9_set_33 kf_X9_10 gf_0_0 ?_
      refine mv_iload_n dX9_set_36 rfl ?_
      refine mv_cV (st := []) dX9_set_37 kk_X9_114 (TX1_setting_1 G d _ _ _ (mv_sat_bind hs)) so_1 vc_1 rfl rfl (Nat.le_of_ble_eq_true rfl) (by omega) rfl ⟨Nat.zero_le _, Nat.zero_le _⟩ (mv_ki fun r257 hs => ?_)
      refine mv_istore_n (lv' := [.ref 0, .int p0, .int p1, .int r257]) dX9_set_40 (Nat.le_of_ble_eq_true rfl) rfl rfl ?_
      refine mv_aload_n dX9_set_41 rfl ?_
      refine mv_getr dX9_set_42 kf_X9_10 gf_0_0 ?_
      refine mv_iload_n dX9_set_45 rfl ?_
      refine mv_iload_n dX9_set_46 rfl ?_
      refine mv_cV (st := []) dX9_set_47 kk_X9_118 (TX1_change_1 G d _ _ _ _ (mv_sat_bind hs)) so_1 vc_1 rfl rfl (Nat.le_of_ble_eq_true rfl) (by omega) rfl ⟨Nat.zero_le _, Nat.zero_le _⟩ (mv_kv fun r262 hs => ?_)
      refine mv_iload_n dX9_set_50 rfl ?_
      exact mv_iret dX9_set_51 rfl ⟨(r257, r262), rfl, rfl, rfl, mv_sat_some hs⟩
noncomputable def fX10_set_55_b163 (v4 : Int32) (s0 : Int32) (h : mv_H) : Option (Int32 × mv_H) := mv_let (mv_u h 55 10 s0) fun h269 : mv_H => some (v4, h269)
set_option maxRecDepth 100000 in
set_option maxHeartbeats 4000000 in
theorem BX10_set_55_b163 (G : mv_G) (d D : Nat) (hD : d + 0 ≤ D) (P : Int32 × mv_H → Prop) (v4 : Int32) (s0 : Int32) (h : mv_H) (hs : mv_sat (fX10_set_55_b163 v4 s0 h) P) : mv_MW G mX10_set (mv_rm D mX10_set) (mv_Zf G mX10_set (mv_qI mv_SH P)) 0 0 163 [.float 0, .float 0, .float 0, .float 0, .int v4] [.int s0, .ref 55] mv_SH h := by
  unfold fX10_set_55_b163 at hs
  refine mv_puti dX10_set_163 kf_X10_99 (fun q => by cases q) gf_55_10 ?_
  refine mv_nameH hs (fun h269 hs => ?_)
  refine mv_iload dX10_set_166 rfl ?_
  exact mv_iret dX10_set_168 rfl ⟨(v4, h269), rfl, rfl, rfl, mv_sat_some hs⟩
noncomputable def fX10_set_55_b146 (v1 : Int32) (v2 : Int32) (v4 : Int32) (s0 : Int32) (h : mv_H) : Option (Int32 × mv_H) := mv_let (mv_u h 55 9 s0) fun h268 : mv_H => if v1 = 3 then fX10_set_55_b163 v4 v2 h268 else fX10_set_55_b163 v4 (h268 55 10) h268
set_option maxRecDepth 100000 in
set_option maxHeartbeats 4000000 in
theorem BX10_set_55_b146 (G : mv_G) (d D : Nat) (hD : d + 0 ≤ D) (P : Int32 × mv_H → Prop) (v1 : Int32) (v2 : Int32) (v4 : Int32) (s0 : Int32) (h : mv_H) (hs : mv_sat (fX10_set_55_b146 v1 v2 v4 s0 h) P) : mv_MW G mX10_set (mv_rm D mX10_set) (mv_Zf G mX10_set (mv_qI mv_SH P)) 0 0 146 [.ref 55, .int v1, .int v2, .float 0, .int v4] [.int s0, .ref 55] mv_SH h := by
  unfold fX10_set_55_b146 at hs
  refine mv_puti dX10_set_146 kf_X10_96 (fun q => by cases q) gf_55_9 ?_
  refine mv_nameH hs (fun h268 hs => ?_)
  refine mv_aload_n dX10_set_149 rfl ?_
  refine mv_iload_n dX10_set_150 rfl ?_
  refine mv_iconst 3 dX10_set_151 (by decide) ?_
  refine mv_icmp_ne dX10_set_152 hs (fun _ hs => ?_) (fun _ hs => ?_)
  · refine mv_iload_n dX10_set_155 rfl ?_
    refine mv_goto dX10_set_156 ?_
    exact mv_weak (lv' := [.float 0, .float 0, .float 0, .float 0, .int v4]) (mv_k (mv_k (mv_k (mv_s (mv_s mv_n))))) (BX10_set_55_b163 G d D (by omega) P _ _ _ hs)
  · refine mv_aload_n dX10_set_159 rfl ?_
    refine mv_geti dX10_set_160 kf_X10_99 gf_55_10 ?_
    exact mv_weak (lv' := [.float 0, .float 0, .float 0, .float 0, .int v4]) (mv_k (mv_k (mv_k (mv_s (mv_s mv_n))))) (BX10_set_55_b163 G d D (by omega) P _ _ _ hs)
noncomputable def fX10_set_55_b129 (v1 : Int32) (v2 : Int32) (v4 : Int32) (s0 : Int32) (h : mv_H) : Option (Int32 × mv_H) := mv_let (mv_u h 55 8 s0) fun h267 : mv_H => if v1 = 2 then fX10_set_55_b146 v1 v2 v4 v2 h267 else fX10_set_55_b146 v1 v2 v4 (h267 55 9) h267
set_option maxRecDepth 100000 in
set_option maxHeartbeats 4000000 in
theorem BX10_set_55_b129 (G : mv_G) (d D : Nat) (hD : d + 0 ≤ D) (P : Int32 × mv_H → Prop) (v1 : Int32) (v2 : Int32) (v4 : Int32) (s0 : Int32) (h : mv_H) (hs : mv_sat (fX10_set_55_b129 v1 v2 v4 s0 h) P) : mv_MW G mX10_set (mv_rm D mX10_set) (mv_Zf G mX10_set (mv_qI mv_SH P)) 0 0 129 [.ref 55, .int v1, .int v2, .float 0, .int v4] [.int s0, .ref 55] mv_SH h := by
  unfold fX10_set_55_b129 at hs
  refine mv_puti dX10_set_129 kf_X10_157 (fun q => by cases q) gf_55_8 ?_
  refine mv_nameH hs (fun h267 hs => ?_)
  refine mv_aload_n dX10_set_132 rfl ?_
  refine mv_iload_n dX10_set_133 rfl ?_
  refine mv_iconst 2 dX10_set_134 (by decide) ?_
  refine mv_icmp_ne dX10_set_135 hs (fun _ hs => ?_) (fun _ hs => ?_)
  · refine mv_iload_n dX10_set_138 rfl ?_
    refine mv_goto dX10_set_139 ?_
    exact (BX10_set_55_b146 G d D (by omega) P _ _ _ _ _ hs)
  · refine mv_aload_n dX10_set_142 rfl ?_
    refine mv_geti dX10_set_143 kf_X10_96 gf_55_9 ?_
    exact (BX10_set_55_b146 G d D (by omega) P _ _ _ _ _ hs)
noncomputable def fX10_set_55_b112 (v1 : Int32) (v2 : Int32) (v4 : Int32) (s0 : Int32) (h : mv_H) : Option (Int32 × mv_H) := mv_let (mv_u h 55 7 s0) fun h266 : mv_H => if v1 = 1 then fX10_set_55_b129 v1 v2 v4 v2 h266 else fX10_set_55_b129 v1 v2 v4 (h266 55 8) h266
set_option maxRecDepth 100000 in
set_option maxHeartbeats 4000000 in
theorem BX10_set_55_b112 (G : mv_G) (d D : Nat) (hD : d + 0 ≤ D) (P : Int32 × mv_H → Prop) (v1 : Int32) (v2 : Int32) (v4 : Int32) (s0 : Int32) (h : mv_H) (hs : mv_sat (fX10_set_55_b112 v1 v2 v4 s0 h) P) : mv_MW G mX10_set (mv_rm D mX10_set) (mv_Zf G mX10_set (mv_qI mv_SH P)) 0 0 112 [.ref 55, .int v1, .int v2, .float 0, .int v4] [.int s0, .ref 55] mv_SH h := by
  unfold fX10_set_55_b112 at hs
  refine mv_puti dX10_set_112 kf_X10_92 (fun q => by cases q) gf_55_7 ?_
  refine mv_nameH hs (fun h266 hs => ?_)
  refine mv_aload_n dX10_set_115 rfl ?_
  refine mv_iload_n dX10_set_116 rfl ?_
  refine mv_iconst 1 dX10_set_117 (by decide) ?_
  refine mv_icmp_ne dX10_set_118 hs (fun _ hs => ?_) (fun _ hs => ?_)
  · refine mv_iload_n dX10_set_121 rfl ?_
    refine mv_goto dX10_set_122 ?_
    exact (BX10_set_55_b129 G d D (by omega) P _ _ _ _ _ hs)
  · refine mv_aload_n dX10_set_125 rfl ?_
    refine mv_geti dX10_set_126 kf_X10_157 gf_55_8 ?_
    exact (BX10_set_55_b129 G d D (by omega) P _ _ _ _ _ hs)
noncomputable def fX10_set_55_b97 (v1 : Int32) (v2 : Int32) (s0 : Int32) (h : mv_H) : Option (Int32 × mv_H) := if v1 = 0 then fX10_set_55_b112 v1 v2 s0 v2 h else fX10_set_55_b112 v1 v2 s0 (h 55 7) h
set_option maxRecDepth 100000 in
set_option maxHeartbeats 4000000 in
theorem BX10_set_55_b97 (G : mv_G) (d D : Nat) (hD : d + 0 ≤ D) (P : Int32 × mv_H → Prop) (v1 : Int32) (v2 : Int32) (s0 : Int32) (h : mv_H) (hs : mv_sat (fX10_set_55_b97 v1 v2 s0 h) P) : mv_MW G mX10_set (mv_rm D mX10_set) (mv_Zf G mX10_set (mv_qI mv_SH P)) 0 0 97 [.ref 55, .int v1, .int v2, .float 0, .float 0] [.int s0] mv_SH h := by
  unfold fX10_set_55_b97 at hs
  refine mv_istore (lv' := [.ref 55, .int v1, .int v2, .float 0, .int s0]) dX10_set_97 (Nat.le_of_ble_eq_true rfl) rfl rfl ?_
  refine mv_aload_n dX10_set_99 rfl ?_
  refine mv_iload_n dX10_set_100 rfl ?_
  refine mv_if_ne dX10_set_101 hs (fun _ hs => ?_) (fun _ hs => ?_)
  · refine mv_iload_n dX10_set_104 rfl ?_
    refine mv_goto dX10_set_105 ?_
    exact (BX10_set_55_b112 G d D (by omega) P _ _ _ _ _ hs)
  · refine mv_aload_n dX10_set_108 rfl ?_
    refine mv_geti dX10_set_109 kf_X10_92 gf_55_7 ?_
    exact (BX10_set_55_b112 G d D (by omega) P _ _ _ _ _ hs)
noncomputable def fX10_set_55_b47 (v1 : Int32) (v2 : Int32) (v3 : Int32) (s0 : Int64) (s1 : Int64) (h : mv_H) : Option (Int32 × mv_H) := (fX10_in s1 s0 (Int32.toInt64 v3)).bind fun r265 => if r265 = 0 then some ((-2), h) else if v1 = 0 then fX10_set_55_b97 v1 v2 (h 55 7) h else if v1 = 1 then fX10_set_55_b97 v1 v2 (h 55 8) h else if v1 = 2 then fX10_set_55_b97 v1 v2 (h 55 9) h else fX10_set_55_b97 v1 v2 (h 55 10) h
set_option maxRecDepth 100000 in
set_option maxHeartbeats 4000000 in
theorem BX10_set_55_b47 (G : mv_G) (d D : Nat) (hD : d + 1 ≤ D) (P : Int32 × mv_H → Prop) (v1 : Int32) (v2 : Int32) (v3 : Int32) (s0 : Int64) (s1 : Int64) (h : mv_H) (hs : mv_sat (fX10_set_55_b47 v1 v2 v3 s0 s1 h) P) : mv_MW G mX10_set (mv_rm D mX10_set) (mv_Zf G mX10_set (mv_qI mv_SH P)) 0 0 47 [.ref 55, .int v1, .int v2, .int v3, .float 0] [.long s0, .long s1] mv_SH h := by
  unfold fX10_set_55_b47 at hs
  refine mv_iload_n dX10_set_47 rfl ?_
  refine mv_i2l dX10_set_48 ?_
  refine mv_cS (st := []) dX10_set_49 kk_X10_104 (TX10_in G d _ _ _ _ _ (mv_sat_bind hs)) rfl rfl (Nat.le_of_ble_eq_true rfl) (by omega) rfl ⟨Nat.zero_le _, Nat.zero_le _⟩ (mv_ki fun r265 hs => ?_)
  refine mv_if_ne dX10_set_52 hs (fun _ hs => ?_) (fun _ hs => ?_)
  · refine mv_bipush (-2) dX10_set_55 (by decide) ?_
    exact mv_iret dX10_set_57 rfl ⟨((-2), h), rfl, rfl, rfl, mv_sat_some hs⟩
  · refine mv_iload_n dX10_set_58 rfl ?_
    refine mv_if_ne dX10_set_59 hs (fun _ hs => ?_) (fun _ hs => ?_)
    · refine mv_aload_n dX10_set_62 rfl ?_
      refine mv_geti dX10_set_63 kf_X10_92 gf_55_7 ?_
      refine mv_goto dX10_set_66 ?_
      exact mv_weak (lv' := [.ref 55, .int v1, .int v2, .float 0, .float 0]) (mv_s (mv_s (mv_s (mv_k (mv_s mv_n))))) (BX10_set_55_b97 G d D (by omega) P _ _ _ _ hs)
    · refine mv_iload_n dX10_set_69 rfl ?_
      refine mv_iconst 1 dX10_set_70 (by decide) ?_
      refine mv_icmp_ne dX10_set_71 hs (fun _ hs => ?_) (fun _ hs => ?_)
      · refine mv_aload_n dX10_set_74 rfl ?_
        refine mv_geti dX10_set_75 kf_X10_157 gf_55_8 ?_
        refine mv_goto dX10_set_78 ?_
        exact mv_weak (lv' := [.ref 55, .int v1, .int v2, .float 0, .float 0]) (mv_s (mv_s (mv_s (mv_k (mv_s mv_n))))) (BX10_set_55_b97 G d D (by omega) P _ _ _ _ hs)
      · refine mv_iload_n dX10_set_81 rfl ?_
        refine mv_iconst 2 dX10_set_82 (by decide) ?_
        refine mv_icmp_ne dX10_set_83 hs (fun _ hs => ?_) (fun _ hs => ?_)
        · refine mv_aload_n dX10_set_86 rfl ?_
          refine mv_geti dX10_set_87 kf_X10_96 gf_55_9 ?_
          refine mv_goto dX10_set_90 ?_
          exact mv_weak (lv' := [.ref 55, .int v1, .int v2, .float 0, .float 0]) (mv_s (mv_s (mv_s (mv_k (mv_s mv_n))))) (BX10_set_55_b97 G d D (by omega) P _ _ _ _ hs)
        · refine mv_aload_n dX10_set_93 rfl ?_
          refine mv_geti dX10_set_94 kf_X10_99 gf_55_10 ?_
          exact mv_weak (lv' := [.ref 55, .int v1, .int v2, .float 0, .float 0]) (mv_s (mv_s (mv_s (mv_k (mv_s mv_n))))) (BX10_set_55_b97 G d D (by omega) P _ _ _ _ hs)
noncomputable def fX10_set_55_b22 (v1 : Int32) (v2 : Int32) (s0 : Int32) (h : mv_H) : Option (Int32 × mv_H) := (fX10_in (Int32.toInt64 v1) (0 : Int64) (3 : Int64)).bind fun r264 => if r264 = 0 then some ((-2), h) else if v1 = 2 then fX10_set_55_b47 v1 v2 s0 1 (Int32.toInt64 v2) h else fX10_set_55_b47 v1 v2 s0 0 (Int32.toInt64 v2) h
set_option maxRecDepth 100000 in
set_option maxHeartbeats 4000000 in
theorem BX10_set_55_b22 (G : mv_G) (d D : Nat) (hD : d + 1 ≤ D) (P : Int32 × mv_H → Prop) (v1 : Int32) (v2 : Int32) (s0 : Int32) (h : mv_H) (hs : mv_sat (fX10_set_55_b22 v1 v2 s0 h) P) : mv_MW G mX10_set (mv_rm D mX10_set) (mv_Zf G mX10_set (mv_qI mv_SH P)) 0 0 22 [.ref 55, .int v1, .int v2, .float 0, .float 0] [.int s0] mv_SH h := by
  unfold fX10_set_55_b22 at hs
  refine mv_istore_n (lv' := [.ref 55, .int v1, .int v2, .int s0, .float 0]) dX10_set_22 (Nat.le_of_ble_eq_true rfl) rfl rfl ?_
  refine mv_iload_n dX10_set_23 rfl ?_
  refine mv_i2l dX10_set_24 ?_
  refine mv_lconst 0 dX10_set_25 rfl ?_
  refine mv_ldc2 dX10_set_26 kn_X10_155 ?_
  refine mv_cS (st := []) dX10_set_29 kk_X10_104 (TX10_in G d _ _ _ _ _ (mv_sat_bind hs)) rfl rfl (Nat.le_of_ble_eq_true rfl) (by omega) rfl ⟨Nat.zero_le _, Nat.zero_le _⟩ (mv_ki fun r264 hs => ?_)
  refine mv_if_eq dX10_set_32 hs (fun _ hs => ?_) (fun _ hs => ?_)
  · refine mv_bipush (-2) dX10_set_55 (by decide) ?_
    exact mv_iret dX10_set_57 rfl ⟨((-2), h), rfl, rfl, rfl, mv_sat_some hs⟩
  · refine mv_iload_n dX10_set_35 rfl ?_
    refine mv_i2l dX10_set_36 ?_
    refine mv_iload_n dX10_set_37 rfl ?_
    refine mv_iconst 2 dX10_set_38 (by decide) ?_
    refine mv_icmp_ne dX10_set_39 hs (fun _ hs => ?_) (fun _ hs => ?_)
    · refine mv_lconst 1 dX10_set_42 rfl ?_
      refine mv_goto dX10_set_43 ?_
      exact (BX10_set_55_b47 G d D (by omega) P _ _ _ _ _ _ hs)
    · refine mv_lconst 0 dX10_set_46 rfl ?_
      exact (BX10_set_55_b47 G d D (by omega) P _ _ _ _ _ _ hs)
noncomputable def fX10_set_55 (p0 : Int32) (p1 : Int32) (h : mv_H) : Option (Int32 × mv_H) := if p0 = 2 then fX10_set_55_b22 p0 p1 40 h else if p0 = 3 then fX10_set_55_b22 p0 p1 60 h else fX10_set_55_b22 p0 p1 9 h
set_option maxRecDepth 100000 in
set_option maxHeartbeats 4000000 in
theorem TX10_set_55 (G : mv_G) (d : Nat) (P : Int32 × mv_H → Prop) (p0 : Int32) (p1 : Int32) (h : mv_H) (hs : mv_sat (fX10_set_55 p0 p1 h) P) : mv_met G (d + 1) mX10_set [.ref 55, .int p0, .int p1] mv_SH h (mv_qI mv_SH P) := by
  unfold fX10_set_55 at hs
  obtain ⟨D, hDe⟩ : ∃ D, D = d + 1 := ⟨_, rfl⟩
  rw [← hDe]
  have hD : d + 1 ≤ D := by omega
  refine mv_enter (lv := [.ref 55, .int p0, .int p1, .float 0, .float 0]) 2 (by decide) (by decide +kernel) rfl (Nat.le_of_ble_eq_true rfl) ?_
  refine mv_iload_n dX10_set_0 rfl ?_
  refine mv_iconst 2 dX10_set_1 (by decide) ?_
  refine mv_icmp_ne dX10_set_2 hs (fun _ hs => ?_) (fun _ hs => ?_)
  · refine mv_bipush 40 dX10_set_5 (by decide) ?_
    refine mv_goto dX10_set_7 ?_
    exact (BX10_set_55_b22 G d D (by omega) P _ _ _ _ hs)
  · refine mv_iload_n dX10_set_10 rfl ?_
    refine mv_iconst 3 dX10_set_11 (by decide) ?_
    refine mv_icmp_ne dX10_set_12 hs (fun _ hs => ?_) (fun _ hs => ?_)
    · refine mv_bipush 60 dX10_set_15 (by decide) ?_
      refine mv_goto dX10_set_17 ?_
      exact (BX10_set_55_b22 G d D (by omega) P _ _ _ _ hs)
    · refine mv_bipush 9 dX10_set_20 (by decide) ?_
      exact (BX10_set_55_b22 G d D (by omega) P _ _ _ _ hs)
noncomputable def fX4_add_34 (p0 : Int32) (h : mv_H) : Option (Int32 × mv_H) := if (h 34 1) < 0 then some (0, h) else if (h 34 1) < 60 then (if mv_in (h 34 1) 60 then mv_let (mv_u h 35 (h 34 1).toNatClampNeg p0) fun h272 : mv_H => (mv_let (mv_u h272 34 1 ((h272 34 1) + 1)) fun h273 : mv_H => some (1, h273)) else none) else some (0, h)
set_option maxRecDepth 100000 in
set_option maxHeartbeats 4000000 in
theorem TX4_add_34 (G : mv_G) (d : Nat) (P : Int32 × mv_H → Prop) (p0 : Int32) (h : mv_H) (hs : mv_sat (fX4_add_34 p0 h) P) : mv_met G (d + 0) mX4_add [.ref 34, .int p0] mv_SH h (mv_qI mv_SH P) := by
  unfold fX4_add_34 at hs
  obtain ⟨D, hDe⟩ : ∃ D, D = d + 0 := ⟨_, rfl⟩
  rw [← hDe]
  have hD : d + 0 ≤ D := by omega
  refine mv_enter (lv := [.ref 34, .int p0]) 0 (by decide) (by decide +kernel) rfl (Nat.le_of_ble_eq_true rfl) ?_
  refine mv_aload_n dX4_add_0 rfl ?_
  refine mv_geti dX4_add_1 kf_X4_25 gf_34_1 ?_
  refine mv_if_lt dX4_add_4 hs (fun _ hs => ?_) (fun _ hs => ?_)
  · refine mv_iconst 0 dX4_add_16 (by decide) ?_
    exact mv_zret dX4_add_17 rfl (Or.inl rfl) ⟨(0, h), rfl, rfl, rfl, mv_sat_some hs⟩
  · refine mv_aload_n dX4_add_7 rfl ?_
    refine mv_geti dX4_add_8 kf_X4_25 gf_34_1 ?_
    refine mv_bipush 60 dX4_add_11 (by decide) ?_
    refine mv_icmp_lt dX4_add_13 hs (fun _ hs => ?_) (fun _ hs => ?_)
    · refine mv_aload_n dX4_add_18 rfl ?_
      refine mv_getr dX4_add_19 kf_X4_11 gf_34_0 ?_
      refine mv_aload_n dX4_add_22 rfl ?_
      refine mv_geti dX4_add_23 kf_X4_25 gf_34_1 ?_
      refine mv_iload_n dX4_add_26 rfl ?_
      refine mv_iastore dX4_add_27 so_35 hs (fun hs => ?_)
      refine mv_nameH hs (fun h272 hs => ?_)
      refine mv_aload_n dX4_add_28 rfl ?_
      refine mv_dup dX4_add_29 rfl ?_
      refine mv_geti dX4_add_30 kf_X4_25 gf_34_1 ?_
      refine mv_iconst 1 dX4_add_33 (by decide) ?_
      refine mv_iadd dX4_add_34 ?_
      refine mv_puti dX4_add_35 kf_X4_25 (fun q => by cases q) gf_34_1 ?_
      refine mv_nameH hs (fun h273 hs => ?_)
      refine mv_iconst 1 dX4_add_38 (by decide) ?_
      exact mv_zret dX4_add_39 rfl (Or.inr rfl) ⟨(1, h273), rfl, rfl, rfl, mv_sat_some hs⟩
    · refine mv_iconst 0 dX4_add_16 (by decide) ?_
      exact mv_zret dX4_add_17 rfl (Or.inl rfl) ⟨(0, h), rfl, rfl, rfl, mv_sat_some hs⟩
noncomputable def fX4_count_34 (h : mv_H) : Option (Int32) := some (h 34 1)
set_option maxRecDepth 100000 in
set_option maxHeartbeats 4000000 in
theorem TX4_count_34 (G : mv_G) (d : Nat) (P : Int32 → Prop) (h : mv_H) (hs : mv_sat (fX4_count_34 h) P) : mv_met G (d + 0) mX4_count [.ref 34] mv_SH h (mv_qi mv_SH h P) := by
  unfold fX4_count_34 at hs
  obtain ⟨D, hDe⟩ : ∃ D, D = d + 0 := ⟨_, rfl⟩
  rw [← hDe]
  have hD : d + 0 ≤ D := by omega
  refine mv_enter (lv := [.ref 34]) 0 (by decide) (by decide +kernel) rfl (Nat.le_of_ble_eq_true rfl) ?_
  refine mv_aload_n dX4_count_0 rfl ?_
  refine mv_geti dX4_count_1 kf_X4_25 gf_34_1 ?_
  exact mv_iret dX4_count_4 rfl ⟨_, rfl, rfl, rfl, mv_sat_some hs⟩
noncomputable def fX9_say_0 (p0 : Int32) (h : mv_H) : Option (Int32 × mv_H) := (fX9_isWithin p0 (33 : Int32) (126 : Int32)).bind fun r271 => if r271 = 0 then some ((-2), h) else (fX4_add_34 p0 h).bind fun r274 => if r274.1 = 0 then some ((-4), r274.2) else (fX4_count_34 r274.2).bind fun r275 => some (r275, r274.2)
set_option maxRecDepth 100000 in
set_option maxHeartbeats 4000000 in
theorem TX9_say_0 (G : mv_G) (d : Nat) (P : Int32 × mv_H → Prop) (p0 : Int32) (h : mv_H) (hs : mv_sat (fX9_say_0 p0 h) P) : mv_met G (d + 1) mX9_say [.ref 0, .int p0] mv_SH h (mv_qI mv_SH P) := by
  unfold fX9_say_0 at hs
  obtain ⟨D, hDe⟩ : ∃ D, D = d + 1 := ⟨_, rfl⟩
  rw [← hDe]
  have hD : d + 1 ≤ D := by omega
  refine mv_enter (lv := [.ref 0, .int p0]) 0 (by decide) (by decide +kernel) rfl (Nat.le_of_ble_eq_true rfl) ?_
  refine mv_iload_n dX9_say_0 rfl ?_
  refine mv_bipush 33 dX9_say_1 (by decide) ?_
  refine mv_bipush 126 dX9_say_3 (by decide) ?_
  refine mv_cS (st := []) dX9_say_5 kk_X9_79 (TX9_isWithin G d _ _ _ _ _ (mv_sat_bind hs)) rfl rfl (Nat.le_of_ble_eq_true rfl) (by omega) rfl ⟨Nat.zero_le _, Nat.zero_le _⟩ (mv_ki fun r271 hs => ?_)
  refine mv_if_ne dX9_say_8 hs (fun _ hs => ?_) (fun _ hs => ?_)
  · refine mv_bipush (-2) dX9_say_11 (by decide) ?_
    exact mv_iret dX9_say_13 rfl ⟨((-2), h), rfl, rfl, rfl, mv_sat_some hs⟩
  · refine mv_aload_n dX9_say_14 rfl ?_
    refine mv_getr dX9_say_15 kf_X9_25 gf_0_4 ?_
    refine mv_iload_n dX9_say_18 rfl ?_
    refine mv_cV (st := []) dX9_say_19 kk_X9_122 (TX4_add_34 G d _ _ _ (mv_sat_bind hs)) so_34 vc_4 rfl rfl (Nat.le_of_ble_eq_true rfl) (by omega) rfl ⟨Nat.zero_le _, Nat.zero_le _⟩ (mv_kI2 fun r274 hs => ?_)
    refine mv_if_eq dX9_say_22 hs (fun _ hs => ?_) (fun _ hs => ?_)
    · refine mv_bipush (-4) dX9_say_35 (by decide) ?_
      exact mv_iret dX9_say_37 rfl ⟨((-4), r274.2), rfl, rfl, rfl, mv_sat_some hs⟩
    · refine mv_aload_n dX9_say_25 rfl ?_
      refine mv_getr dX9_say_26 kf_X9_25 gf_0_4 ?_
      refine mv_cV (st := []) dX9_say_29 kk_X9_125 (TX4_count_34 G d _ _ (mv_sat_bind hs)) so_34 vc_4 rfl rfl (Nat.le_of_ble_eq_true rfl) (by omega) rfl ⟨Nat.zero_le _, Nat.zero_le _⟩ (mv_ki fun r275 hs => ?_)
      refine mv_goto dX9_say_32 ?_
      exact mv_iret dX9_say_37 rfl ⟨(r275, r274.2), rfl, rfl, rfl, mv_sat_some hs⟩
noncomputable def fX10_say_55 (p0 : Int32) (h : mv_H) : Option (Int32 × mv_H) := (fX10_in (Int32.toInt64 p0) (33 : Int64) (126 : Int64)).bind fun r277 => if r277 = 0 then some ((-2), h) else if (h 55 16) = 60 then some ((-4), h) else if mv_in (h 55 16) 60 then mv_let (mv_u h 62 (h 55 16).toNatClampNeg p0) fun h278 : mv_H => (mv_let (mv_u h278 55 16 ((h278 55 16) + 1)) fun h279 : mv_H => some (h279 55 16, h279)) else none
set_option maxRecDepth 100000 in
set_option maxHeartbeats 4000000 in
theorem TX10_say_55 (G : mv_G) (d : Nat) (P : Int32 × mv_H → Prop) (p0 : Int32) (h : mv_H) (hs : mv_sat (fX10_say_55 p0 h) P) : mv_met G (d + 1) mX10_say [.ref 55, .int p0] mv_SH h (mv_qI mv_SH P) := by
  unfold fX10_say_55 at hs
  obtain ⟨D, hDe⟩ : ∃ D, D = d + 1 := ⟨_, rfl⟩
  rw [← hDe]
  have hD : d + 1 ≤ D := by omega
  refine mv_enter (lv := [.ref 55, .int p0]) 0 (by decide) (by decide +kernel) rfl (Nat.le_of_ble_eq_true rfl) ?_
  refine mv_iload_n dX10_say_0 rfl ?_
  refine mv_i2l dX10_say_1 ?_
  refine mv_ldc2 dX10_say_2 kn_X10_160 ?_
  refine mv_ldc2 dX10_say_5 kn_X10_162 ?_
  refine mv_cS (st := []) dX10_say_8 kk_X10_104 (TX10_in G d _ _ _ _ _ (mv_sat_bind hs)) rfl rfl (Nat.le_of_ble_eq_true rfl) (by omega) rfl ⟨Nat.zero_le _, Nat.zero_le _⟩ (mv_ki fun r277 hs => ?_)
  refine mv_if_ne dX10_say_11 hs (fun _ hs => ?_) (fun _ hs => ?_)
  · refine mv_bipush (-2) dX10_say_14 (by decide) ?_
    exact mv_iret dX10_say_16 rfl ⟨((-2), h), rfl, rfl, rfl, mv_sat_some hs⟩
  · refine mv_aload_n dX10_say_17 rfl ?_
    refine mv_geti dX10_say_18 kf_X10_164 gf_55_16 ?_
    refine mv_bipush 60 dX10_say_21 (by decide) ?_
    refine mv_icmp_ne dX10_say_23 hs (fun _ hs => ?_) (fun _ hs => ?_)
    · refine mv_bipush (-4) dX10_say_26 (by decide) ?_
      exact mv_iret dX10_say_28 rfl ⟨((-4), h), rfl, rfl, rfl, mv_sat_some hs⟩
    · refine mv_aload_n dX10_say_29 rfl ?_
      refine mv_getr dX10_say_30 kf_X10_28 gf_55_15 ?_
      refine mv_aload_n dX10_say_33 rfl ?_
      refine mv_geti dX10_say_34 kf_X10_164 gf_55_16 ?_
      refine mv_iload_n dX10_say_37 rfl ?_
      refine mv_iastore dX10_say_38 so_62 hs (fun hs => ?_)
      refine mv_nameH hs (fun h278 hs => ?_)
      refine mv_aload_n dX10_say_39 rfl ?_
      refine mv_dup dX10_say_40 rfl ?_
      refine mv_geti dX10_say_41 kf_X10_164 gf_55_16 ?_
      refine mv_iconst 1 dX10_say_44 (by decide) ?_
      refine mv_iadd dX10_say_45 ?_
      refine mv_puti dX10_say_46 kf_X10_164 (fun q => by cases q) gf_55_16 ?_
      refine mv_nameH hs (fun h279 hs => ?_)
      refine mv_aload_n dX10_say_49 rfl ?_
      refine mv_geti dX10_say_50 kf_X10_164 gf_55_16 ?_
      exact mv_iret dX10_say_53 rfl ⟨(h279 55 16, h279), rfl, rfl, rfl, mv_sat_some hs⟩
noncomputable def fX4_clear_34 (h : mv_H) : Option (mv_H) := mv_let (mv_u h 34 1 0) fun h282 : mv_H => some h282
set_option maxRecDepth 100000 in
set_option maxHeartbeats 4000000 in
theorem TX4_clear_34 (G : mv_G) (d : Nat) (P : mv_H → Prop) (h : mv_H) (hs : mv_sat (fX4_clear_34 h) P) : mv_met G (d + 0) mX4_clear [.ref 34] mv_SH h (mv_qv mv_SH P) := by
  unfold fX4_clear_34 at hs
  obtain ⟨D, hDe⟩ : ∃ D, D = d + 0 := ⟨_, rfl⟩
  rw [← hDe]
  have hD : d + 0 ≤ D := by omega
  refine mv_enter (lv := [.ref 34]) 0 (by decide) (by decide +kernel) rfl (Nat.le_of_ble_eq_true rfl) ?_
  refine mv_aload_n dX4_clear_0 rfl ?_
  refine mv_iconst 0 dX4_clear_1 (by decide) ?_
  refine mv_puti dX4_clear_2 kf_X4_25 (fun q => by cases q) gf_34_1 ?_
  refine mv_nameH hs (fun h282 hs => ?_)
  exact mv_vret dX4_clear_5 rfl ⟨_, rfl, rfl, rfl, mv_sat_some hs⟩
noncomputable def fX9_wipe_0 (h : mv_H) : Option (Int32 × mv_H) := (fX4_count_34 h).bind fun r281 => (fX4_clear_34 h).bind fun r283 => some (r281, r283)
set_option maxRecDepth 100000 in
set_option maxHeartbeats 4000000 in
theorem TX9_wipe_0 (G : mv_G) (d : Nat) (P : Int32 × mv_H → Prop) (h : mv_H) (hs : mv_sat (fX9_wipe_0 h) P) : mv_met G (d + 1) mX9_wipe [.ref 0] mv_SH h (mv_qI mv_SH P) := by
  unfold fX9_wipe_0 at hs
  obtain ⟨D, hDe⟩ : ∃ D, D = d + 1 := ⟨_, rfl⟩
  rw [← hDe]
  have hD : d + 1 ≤ D := by omega
  refine mv_enter (lv := [.ref 0, .float 0]) 1 (by decide) (by decide +kernel) rfl (Nat.le_of_ble_eq_true rfl) ?_
  refine mv_aload_n dX9_wipe_0 rfl ?_
  refine mv_getr dX9_wipe_1 kf_X9_25 gf_0_4 ?_
  refine mv_cV (st := []) dX9_wipe_4 kk_X9_125 (TX4_count_34 G d _ _ (mv_sat_bind hs)) so_34 vc_4 rfl rfl (Nat.le_of_ble_eq_true rfl) (by omega) rfl ⟨Nat.zero_le _, Nat.zero_le _⟩ (mv_ki fun r281 hs => ?_)
  refine mv_istore_n (lv' := [.ref 0, .int r281]) dX9_wipe_7 (Nat.le_of_ble_eq_true rfl) rfl rfl ?_
  refine mv_aload_n dX9_wipe_8 rfl ?_
  refine mv_getr dX9_wipe_9 kf_X9_25 gf_0_4 ?_
  refine mv_cV (st := []) dX9_wipe_12 kk_X9_126 (TX4_clear_34 G d _ _ (mv_sat_bind hs)) so_34 vc_4 rfl rfl (Nat.le_of_ble_eq_true rfl) (by omega) rfl ⟨Nat.zero_le _, Nat.zero_le _⟩ (mv_kv fun r283 hs => ?_)
  refine mv_iload_n dX9_wipe_15 rfl ?_
  exact mv_iret dX9_wipe_16 rfl ⟨(r281, r283), rfl, rfl, rfl, mv_sat_some hs⟩
noncomputable def fX10_wipe_55 (h : mv_H) : Option (Int32 × mv_H) := mv_let (h 55 16) fun x285 : Int32 => mv_let (mv_u h 55 16 0) fun h286 : mv_H => some (x285, h286)
set_option maxRecDepth 100000 in
set_option maxHeartbeats 4000000 in
theorem TX10_wipe_55 (G : mv_G) (d : Nat) (P : Int32 × mv_H → Prop) (h : mv_H) (hs : mv_sat (fX10_wipe_55 h) P) : mv_met G (d + 0) mX10_wipe [.ref 55] mv_SH h (mv_qI mv_SH P) := by
  unfold fX10_wipe_55 at hs
  obtain ⟨D, hDe⟩ : ∃ D, D = d + 0 := ⟨_, rfl⟩
  rw [← hDe]
  have hD : d + 0 ≤ D := by omega
  refine mv_enter (lv := [.ref 55, .float 0]) 1 (by decide) (by decide +kernel) rfl (Nat.le_of_ble_eq_true rfl) ?_
  refine mv_aload_n dX10_wipe_0 rfl ?_
  refine mv_geti dX10_wipe_1 kf_X10_164 gf_55_16 ?_
  refine mv_name hs (fun x285 hs => ?_)
  refine mv_istore_n (lv' := [.ref 55, .int x285]) dX10_wipe_4 (Nat.le_of_ble_eq_true rfl) rfl rfl ?_
  refine mv_aload_n dX10_wipe_5 rfl ?_
  refine mv_iconst 0 dX10_wipe_6 (by decide) ?_
  refine mv_puti dX10_wipe_7 kf_X10_164 (fun q => by cases q) gf_55_16 ?_
  refine mv_nameH hs (fun h286 hs => ?_)
  refine mv_iload_n dX10_wipe_10 rfl ?_
  exact mv_iret dX10_wipe_11 rfl ⟨(x285, h286), rfl, rfl, rfl, mv_sat_some hs⟩
noncomputable def fX4_startList_34_b7 : Nat → Int32 → mv_H → Option (mv_H)
  | 0, _, _ => none
  | n + 1, v1, h => if v1 < 3 then (if mv_in v1 3 then mv_let (mv_u h 37 v1.toNatClampNeg 0) fun h289 : mv_H => ((fX4_startList_34_b7 n) (v1 + 1) h289) else none) else some h
set_option maxRecDepth 100000 in
set_option maxHeartbeats 4000000 in
theorem BX4_startList_34_b7 (G : mv_G) (d D : Nat) (hD : d + 0 ≤ D) (P : mv_H → Prop) : ∀ (n : Nat) (v1 : Int32) (h : mv_H), mv_sat (fX4_startList_34_b7 n v1 h) P → mv_MW G mX4_startList (mv_rm D mX4_startList) (mv_Zf G mX4_startList (mv_qv mv_SH P)) 0 0 7 [.ref 34, .int v1] [] mv_SH h := by
  intro n
  induction n with
  | zero =>
    intro v1 h hs
    unfold fX4_startList_34_b7 at hs
    exact (mv_sat_none hs).elim
  | succ n ih =>
    intro v1 h hs
    unfold fX4_startList_34_b7 at hs
    refine mv_iload_n dX4_startList_7 rfl ?_
    refine mv_iconst 3 dX4_startList_8 (by decide) ?_
    refine mv_icmp_ge dX4_startList_9 hs (fun _ hs => ?_) (fun _ hs => ?_)
    · refine mv_aload_n dX4_startList_12 rfl ?_
      refine mv_getr dX4_startList_13 kf_X4_22 gf_34_8 ?_
      refine mv_iload_n dX4_startList_16 rfl ?_
      refine mv_iconst 0 dX4_startList_17 (by decide) ?_
      refine mv_iastore dX4_startList_18 so_37 hs (fun hs => ?_)
      refine mv_nameH hs (fun h289 hs => ?_)
      refine mv_iinc (lv' := [.ref 34, .int (v1 + 1)]) 1 dX4_startList_19 rfl (by decide) (Nat.le_of_ble_eq_true rfl) rfl rfl ?_
      refine mv_goto dX4_startList_22 ?_
      exact (ih _ _ hs)
    · exact mv_vret dX4_startList_25 rfl ⟨_, rfl, rfl, rfl, mv_sat_some hs⟩
noncomputable def fX4_startList_34 (h : mv_H) : Option (mv_H) := mv_let (mv_u h 34 2 (-1)) fun h288 : mv_H => fX4_startList_34_b7 mv_F 0 h288
set_option maxRecDepth 100000 in
set_option maxHeartbeats 4000000 in
theorem TX4_startList_34 (G : mv_G) (d : Nat) (P : mv_H → Prop) (h : mv_H) (hs : mv_sat (fX4_startList_34 h) P) : mv_met G (d + 0) mX4_startList [.ref 34] mv_SH h (mv_qv mv_SH P) := by
  unfold fX4_startList_34 at hs
  obtain ⟨D, hDe⟩ : ∃ D, D = d + 0 := ⟨_, rfl⟩
  rw [← hDe]
  have hD : d + 0 ≤ D := by omega
  refine mv_enter (lv := [.ref 34, .float 0]) 1 (by decide) (by decide +kernel) rfl (Nat.le_of_ble_eq_true rfl) ?_
  refine mv_aload_n dX4_startList_0 rfl ?_
  refine mv_iconst (-1) dX4_startList_1 (by decide) ?_
  refine mv_puti dX4_startList_2 kf_X4_15 (fun q => by cases q) gf_34_2 ?_
  refine mv_nameH hs (fun h288 hs => ?_)
  refine mv_iconst 0 dX4_startList_5 (by decide) ?_
  refine mv_istore_n (lv' := [.ref 34, .int 0]) dX4_startList_6 (Nat.le_of_ble_eq_true rfl) rfl rfl ?_
  exact (BX4_startList_34_b7 G d D (by omega) P _ _ _ hs)
noncomputable def fX4_startPart_34 (p0 : Int32) (p1 : Int32) (p2 : Int32) (h : mv_H) : Option (mv_H) := mv_let (mv_u h 34 2 p0) fun h291 : mv_H => mv_let (mv_u h291 34 3 p1) fun h292 : mv_H => mv_let (mv_u h292 34 4 p2) fun h293 : mv_H => mv_let (mv_u h293 34 5 0) fun h294 : mv_H => mv_let (mv_u h294 34 6 0) fun h295 : mv_H => some h295
set_option maxRecDepth 100000 in
set_option maxHeartbeats 4000000 in
theorem TX4_startPart_34 (G : mv_G) (d : Nat) (P : mv_H → Prop) (p0 : Int32) (p1 : Int32) (p2 : Int32) (h : mv_H) (hs : mv_sat (fX4_startPart_34 p0 p1 p2 h) P) : mv_met G (d + 0) mX4_startPart [.ref 34, .int p0, .int p1, .int p2] mv_SH h (mv_qv mv_SH P) := by
  unfold fX4_startPart_34 at hs
  obtain ⟨D, hDe⟩ : ∃ D, D = d + 0 := ⟨_, rfl⟩
  rw [← hDe]
  have hD : d + 0 ≤ D := by omega
  refine mv_enter (lv := [.ref 34, .int p0, .int p1, .int p2]) 0 (by decide) (by decide +kernel) rfl (Nat.le_of_ble_eq_true rfl) ?_
  refine mv_aload_n dX4_startPart_0 rfl ?_
  refine mv_iload_n dX4_startPart_1 rfl ?_
  refine mv_puti dX4_startPart_2 kf_X4_15 (fun q => by cases q) gf_34_2 ?_
  refine mv_nameH hs (fun h291 hs => ?_)
  refine mv_aload_n dX4_startPart_5 rfl ?_
  refine mv_iload_n dX4_startPart_6 rfl ?_
  refine mv_puti dX4_startPart_7 kf_X4_63 (fun q => by cases q) gf_34_3 ?_
  refine mv_nameH hs (fun h292 hs => ?_)
  refine mv_aload_n dX4_startPart_10 rfl ?_
  refine mv_iload_n dX4_startPart_11 rfl ?_
  refine mv_puti dX4_startPart_12 kf_X4_76 (fun q => by cases q) gf_34_4 ?_
  refine mv_nameH hs (fun h293 hs => ?_)
  refine mv_aload_n dX4_startPart_15 rfl ?_
  refine mv_iconst 0 dX4_startPart_16 (by decide) ?_
  refine mv_puti dX4_startPart_17 kf_X4_60 (fun q => by cases q) gf_34_5 ?_
  refine mv_nameH hs (fun h294 hs => ?_)
  refine mv_aload_n dX4_startPart_20 rfl ?_
  refine mv_iconst 0 dX4_startPart_21 (by decide) ?_
  refine mv_puti dX4_startPart_22 kf_X4_66 (fun q => by cases q) gf_34_6 ?_
  refine mv_nameH hs (fun h295 hs => ?_)
  exact mv_vret dX4_startPart_25 rfl ⟨_, rfl, rfl, rfl, mv_sat_some hs⟩
noncomputable def fX4_acceptsLetter_34 (p0 : Int32) (h : mv_H) : Option (Int32 × mv_H) := if p0 = 66 then ((fX4_startPart_34 (0 : Int32) (3 : Int32) (20 : Int32) h).bind fun r296 => some (1, r296)) else if p0 = 83 then ((fX4_startPart_34 (2 : Int32) (2 : Int32) (150 : Int32) h).bind fun r297 => some (1, r297)) else if p0 = 84 then ((fX4_startPart_34 (1 : Int32) (3 : Int32) (20 : Int32) h).bind fun r298 => some (1, r298)) else some (0, h)
set_option maxRecDepth 100000 in
set_option maxHeartbeats 4000000 in
theorem TX4_acceptsLetter_34 (G : mv_G) (d : Nat) (P : Int32 × mv_H → Prop) (p0 : Int32) (h : mv_H) (hs : mv_sat (fX4_acceptsLetter_34 p0 h) P) : mv_met G (d + 1) mX4_acceptsLetter [.ref 34, .int p0] mv_SH h (mv_qI mv_SH P) := by
  unfold fX4_acceptsLetter_34 at hs
  obtain ⟨D, hDe⟩ : ∃ D, D = d + 1 := ⟨_, rfl⟩
  rw [← hDe]
  have hD : d + 1 ≤ D := by omega
  refine mv_enter (lv := [.ref 34, .int p0]) 0 (by decide) (by decide +kernel) rfl (Nat.le_of_ble_eq_true rfl) ?_
  refine mv_iload_n dX4_acceptsLetter_0 rfl ?_
  refine mv_case hs (fun e hs => ?_) (fun n0 hs => ?_)
  · refine mv_lsw (off := 35) (tgt := 36) dX4_acceptsLetter_1 (by decide) (by rw [e]; decide) (by decide) ?_
    refine mv_aload_n dX4_acceptsLetter_36 rfl ?_
    refine mv_iconst 0 dX4_acceptsLetter_37 (by decide) ?_
    refine mv_iconst 3 dX4_acceptsLetter_38 (by decide) ?_
    refine mv_bipush 20 dX4_acceptsLetter_39 (by decide) ?_
    refine mv_cV (st := []) dX4_acceptsLetter_41 kk_X4_72 (TX4_startPart_34 G d _ _ _ _ _ (mv_sat_bind hs)) so_34 vc_4 rfl rfl (Nat.le_of_ble_eq_true rfl) (by omega) rfl ⟨Nat.zero_le _, Nat.zero_le _⟩ (mv_kv fun r296 hs => ?_)
    refine mv_iconst 1 dX4_acceptsLetter_44 (by decide) ?_
    exact mv_zret dX4_acceptsLetter_45 rfl (Or.inr rfl) ⟨(1, r296), rfl, rfl, rfl, mv_sat_some hs⟩
  refine mv_case hs (fun e hs => ?_) (fun n1 hs => ?_)
  · refine mv_lsw (off := 55) (tgt := 56) dX4_acceptsLetter_1 (by decide) (by rw [e]; decide) (by decide) ?_
    refine mv_aload_n dX4_acceptsLetter_56 rfl ?_
    refine mv_iconst 2 dX4_acceptsLetter_57 (by decide) ?_
    refine mv_iconst 2 dX4_acceptsLetter_58 (by decide) ?_
    refine mv_sipush 150 dX4_acceptsLetter_59 (by decide) ?_
    refine mv_cV (st := []) dX4_acceptsLetter_62 kk_X4_72 (TX4_startPart_34 G d _ _ _ _ _ (mv_sat_bind hs)) so_34 vc_4 rfl rfl (Nat.le_of_ble_eq_true rfl) (by omega) rfl ⟨Nat.zero_le _, Nat.zero_le _⟩ (mv_kv fun r297 hs => ?_)
    refine mv_iconst 1 dX4_acceptsLetter_65 (by decide) ?_
    exact mv_zret dX4_acceptsLetter_66 rfl (Or.inr rfl) ⟨(1, r297), rfl, rfl, rfl, mv_sat_some hs⟩
  refine mv_case hs (fun e hs => ?_) (fun n2 hs => ?_)
  · refine mv_lsw (off := 45) (tgt := 46) dX4_acceptsLetter_1 (by decide) (by rw [e]; decide) (by decide) ?_
    refine mv_aload_n dX4_acceptsLetter_46 rfl ?_
    refine mv_iconst 1 dX4_acceptsLetter_47 (by decide) ?_
    refine mv_iconst 3 dX4_acceptsLetter_48 (by decide) ?_
    refine mv_bipush 20 dX4_acceptsLetter_49 (by decide) ?_
    refine mv_cV (st := []) dX4_acceptsLetter_51 kk_X4_72 (TX4_startPart_34 G d _ _ _ _ _ (mv_sat_bind hs)) so_34 vc_4 rfl rfl (Nat.le_of_ble_eq_true rfl) (by omega) rfl ⟨Nat.zero_le _, Nat.zero_le _⟩ (mv_kv fun r298 hs => ?_)
    refine mv_iconst 1 dX4_acceptsLetter_54 (by decide) ?_
    exact mv_zret dX4_acceptsLetter_55 rfl (Or.inr rfl) ⟨(1, r298), rfl, rfl, rfl, mv_sat_some hs⟩
  refine mv_lsw (off := 66) (tgt := 67) dX4_acceptsLetter_1 (by decide) (by show Op.lookupswitch.offset [(66, 35), (83, 55), (84, 45)] _ _ = _; rw [lv_osw n0 (by decide), lv_osw n1 (by decide), lv_osw n2 (by decide)]; rfl) (by decide) ?_
  refine mv_iconst 0 dX4_acceptsLetter_67 (by decide) ?_
  exact mv_zret dX4_acceptsLetter_68 rfl (Or.inl rfl) ⟨(0, h), rfl, rfl, rfl, mv_sat_some hs⟩
noncomputable def fX4_keepNumber_34_b25 (h : mv_H) : Option (mv_H) := mv_let (mv_u h 34 5 ((h 34 5) + 1)) fun h302 : mv_H => mv_let (mv_u h302 34 6 0) fun h303 : mv_H => some h303
set_option maxRecDepth 100000 in
set_option maxHeartbeats 4000000 in
theorem BX4_keepNumber_34_b25 (G : mv_G) (d D : Nat) (hD : d + 0 ≤ D) (P : mv_H → Prop) (h : mv_H) (hs : mv_sat (fX4_keepNumber_34_b25 h) P) : mv_MW G mX4_keepNumber (mv_rm D mX4_keepNumber) (mv_Zf G mX4_keepNumber (mv_qv mv_SH P)) 0 0 25 [.ref 34] [] mv_SH h := by
  unfold fX4_keepNumber_34_b25 at hs
  refine mv_aload_n dX4_keepNumber_25 rfl ?_
  refine mv_dup dX4_keepNumber_26 rfl ?_
  refine mv_geti dX4_keepNumber_27 kf_X4_60 gf_34_5 ?_
  refine mv_iconst 1 dX4_keepNumber_30 (by decide) ?_
  refine mv_iadd dX4_keepNumber_31 ?_
  refine mv_puti dX4_keepNumber_32 kf_X4_60 (fun q => by cases q) gf_34_5 ?_
  refine mv_nameH hs (fun h302 hs => ?_)
  refine mv_aload_n dX4_keepNumber_35 rfl ?_
  refine mv_iconst 0 dX4_keepNumber_36 (by decide) ?_
  refine mv_puti dX4_keepNumber_37 kf_X4_66 (fun q => by cases q) gf_34_6 ?_
  refine mv_nameH hs (fun h303 hs => ?_)
  exact mv_vret dX4_keepNumber_40 rfl ⟨_, rfl, rfl, rfl, mv_sat_some hs⟩
noncomputable def fX4_keepNumber_34 (h : mv_H) : Option (mv_H) := (fX9_isWithin (h 34 5) (0 : Int32) (2 : Int32)).bind fun r301 => if r301 = 0 then fX4_keepNumber_34_b25 h else if mv_in (h 34 5) 3 then mv_let (mv_u h 36 (h 34 5).toNatClampNeg (h 34 6)) fun h304 : mv_H => (fX4_keepNumber_34_b25 h304) else none
set_option maxRecDepth 100000 in
set_option maxHeartbeats 4000000 in
theorem TX4_keepNumber_34 (G : mv_G) (d : Nat) (P : mv_H → Prop) (h : mv_H) (hs : mv_sat (fX4_keepNumber_34 h) P) : mv_met G (d + 1) mX4_keepNumber [.ref 34] mv_SH h (mv_qv mv_SH P) := by
  unfold fX4_keepNumber_34 at hs
  obtain ⟨D, hDe⟩ : ∃ D, D = d + 1 := ⟨_, rfl⟩
  rw [← hDe]
  have hD : d + 1 ≤ D := by omega
  refine mv_enter (lv := [.ref 34]) 0 (by decide) (by decide +kernel) rfl (Nat.le_of_ble_eq_true rfl) ?_
  refine mv_aload_n dX4_keepNumber_0 rfl ?_
  refine mv_geti dX4_keepNumber_1 kf_X4_60 gf_34_5 ?_
  refine mv_iconst 0 dX4_keepNumber_4 (by decide) ?_
  refine mv_iconst 2 dX4_keepNumber_5 (by decide) ?_
  refine mv_cS (st := []) dX4_keepNumber_6 kk_X4_53 (TX9_isWithin G d _ _ _ _ _ (mv_sat_bind hs)) rfl rfl (Nat.le_of_ble_eq_true rfl) (by omega) rfl ⟨Nat.zero_le _, Nat.zero_le _⟩ (mv_ki fun r301 hs => ?_)
  refine mv_if_eq dX4_keepNumber_9 hs (fun _ hs => ?_) (fun _ hs => ?_)
  · exact (BX4_keepNumber_34_b25 G d D (by omega) P _ hs)
  · refine mv_aload_n dX4_keepNumber_12 rfl ?_
    refine mv_getr dX4_keepNumber_13 kf_X4_19 gf_34_7 ?_
    refine mv_aload_n dX4_keepNumber_16 rfl ?_
    refine mv_geti dX4_keepNumber_17 kf_X4_60 gf_34_5 ?_
    refine mv_aload_n dX4_keepNumber_20 rfl ?_
    refine mv_geti dX4_keepNumber_21 kf_X4_66 gf_34_6 ?_
    refine mv_iastore dX4_keepNumber_24 so_36 hs (fun hs => ?_)
    refine mv_nameH hs (fun h304 hs => ?_)
    exact (BX4_keepNumber_34_b25 G d D (by omega) P _ hs)
