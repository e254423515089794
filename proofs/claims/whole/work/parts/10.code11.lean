/-! printed by program: what a method does, as a function, and that it does it -/
noncomputable def fX7_copyFrom_2_24_b2 : Nat → Int32 → mv_H → Option (mv_H)
  | 0, _, _ => none
  | n + 1, v2, h => if v2 < 18 then (if mv_in v2 18 then (if mv_in v2 18 then mv_let (mv_u h 3 v2.toNatClampNeg (h 25 v2.toNatClampNeg)) fun h1198 : mv_H => ((fX7_copyFrom_2_24_b2 n) (v2 + 1) h1198) else none) else none) else mv_let (mv_u h 2 2 (h 24 2)) fun h1199 : mv_H => some h1199
set_option maxRecDepth 100000 in
set_option maxHeartbeats 4000000 in
theorem BX7_copyFrom_2_24_b2 (G : mv_G) (d D : Nat) (hD : d + 0 ≤ D) (P : mv_H → Prop) : ∀ (n : Nat) (v2 : Int32) (h : mv_H), mv_sat (fX7_copyFrom_2_24_b2 n v2 h) P → mv_MW G mX7_copyFrom (mv_rm D mX7_copyFrom) (mv_Zf G mX7_copyFrom (mv_qv mv_SH P)) 0 0 2 [.ref 2, .ref 24, .int v2] [] mv_SH h := by
  intro n
  induction n with
  | zero =>
    intro v2 h hs
    unfold fX7_copyFrom_2_24_b2 at hs
    exact (mv_sat_none hs).elim
  | succ n ih =>
    intro v2 h hs
    unfold fX7_copyFrom_2_24_b2 at hs
    refine mv_iload_n dX7_copyFrom_2 rfl ?_
    refine mv_bipush 18 dX7_copyFrom_3 (by decide) ?_
    refine mv_icmp_ge dX7_copyFrom_5 hs (fun _ hs => ?_) (fun _ hs => ?_)
    · refine mv_aload_n dX7_copyFrom_8 rfl ?_
      refine mv_getr dX7_copyFrom_9 kf_X7_9 gf_2_1 ?_
      refine mv_iload_n dX7_copyFrom_12 rfl ?_
      refine mv_aload_n dX7_copyFrom_13 rfl ?_
      refine mv_getr dX7_copyFrom_14 kf_X7_9 gf_24_1 ?_
      refine mv_iload_n dX7_copyFrom_17 rfl ?_
      refine mv_iaload dX7_copyFrom_18 so_25 hs (fun hs => ?_)
      refine mv_iastore dX7_copyFrom_19 so_3 hs (fun hs => ?_)
      refine mv_nameH hs (fun h1198 hs => ?_)
      refine mv_iinc (lv' := [.ref 2, .ref 24, .int (v2 + 1)]) 1 dX7_copyFrom_20 rfl (by decide) (Nat.le_of_ble_eq_true rfl) rfl rfl ?_
      refine mv_goto dX7_copyFrom_23 ?_
      exact (ih _ _ hs)
    · refine mv_aload_n dX7_copyFrom_26 rfl ?_
      refine mv_aload_n dX7_copyFrom_27 rfl ?_
      refine mv_geti dX7_copyFrom_28 kf_X7_19 gf_24_2 ?_
      refine mv_puti dX7_copyFrom_31 kf_X7_19 (fun q => by cases q) gf_2_2 ?_
      refine mv_nameH hs (fun h1199 hs => ?_)
      exact mv_vret dX7_copyFrom_34 rfl ⟨_, rfl, rfl, rfl, mv_sat_some hs⟩
noncomputable def fX7_copyFrom_2_24 (h : mv_H) : Option (mv_H) := fX7_copyFrom_2_24_b2 mv_F 0 h
set_option maxRecDepth 100000 in
set_option maxHeartbeats 4000000 in
theorem TX7_copyFrom_2_24 (G : mv_G) (d : Nat) (P : mv_H → Prop) (h : mv_H) (hs : mv_sat (fX7_copyFrom_2_24 h) P) : mv_met G (d + 0) mX7_copyFrom [.ref 2, .ref 24] mv_SH h (mv_qv mv_SH P) := by
  unfold fX7_copyFrom_2_24 at hs
  obtain ⟨D, hDe⟩ : ∃ D, D = d + 0 := ⟨_, rfl⟩
  rw [← hDe]
  have hD : d + 0 ≤ D := by omega
  refine mv_enter (lv := [.ref 2, .ref 24, .float 0]) 1 (by decide) (by decide +kernel) rfl (Nat.le_of_ble_eq_true rfl) ?_
  refine mv_iconst 0 dX7_copyFrom_0 (by decide) ?_
  refine mv_istore_n (lv' := [.ref 2, .ref 24, .int 0]) dX7_copyFrom_1 (Nat.le_of_ble_eq_true rfl) rfl rfl ?_
  exact (BX7_copyFrom_2_24_b2 G d D (by omega) P _ _ _ hs)
noncomputable def fX7_copyFrom_4_26_b2 : Nat → Int32 → mv_H → Option (mv_H)
  | 0, _, _ => none
  | n + 1, v2, h => if v2 < 18 then (if mv_in v2 18 then (if mv_in v2 18 then mv_let (mv_u h 5 v2.toNatClampNeg (h 27 v2.toNatClampNeg)) fun h1201 : mv_H => ((fX7_copyFrom_4_26_b2 n) (v2 + 1) h1201) else none) else none) else mv_let (mv_u h 4 2 (h 26 2)) fun h1202 : mv_H => some h1202
set_option maxRecDepth 100000 in
set_option maxHeartbeats 4000000 in
theorem BX7_copyFrom_4_26_b2 (G : mv_G) (d D : Nat) (hD : d + 0 ≤ D) (P : mv_H → Prop) : ∀ (n : Nat) (v2 : Int32) (h : mv_H), mv_sat (fX7_copyFrom_4_26_b2 n v2 h) P → mv_MW G mX7_copyFrom (mv_rm D mX7_copyFrom) (mv_Zf G mX7_copyFrom (mv_qv mv_SH P)) 0 0 2 [.ref 4, .ref 26, .int v2] [] mv_SH h := by
  intro n
  induction n with
  | zero =>
    intro v2 h hs
    unfold fX7_copyFrom_4_26_b2 at hs
    exact (mv_sat_none hs).elim
  | succ n ih =>
    intro v2 h hs
    unfold fX7_copyFrom_4_26_b2 at hs
    refine mv_iload_n dX7_copyFrom_2 rfl ?_
    refine mv_bipush 18 dX7_copyFrom_3 (by decide) ?_
    refine mv_icmp_ge dX7_copyFrom_5 hs (fun _ hs => ?_) (fun _ hs => ?_)
    · refine mv_aload_n dX7_copyFrom_8 rfl ?_
      refine mv_getr dX7_copyFrom_9 kf_X7_9 gf_4_1 ?_
      refine mv_iload_n dX7_copyFrom_12 rfl ?_
      refine mv_aload_n dX7_copyFrom_13 rfl ?_
      refine mv_getr dX7_copyFrom_14 kf_X7_9 gf_26_1 ?_
      refine mv_iload_n dX7_copyFrom_17 rfl ?_
      refine mv_iaload dX7_copyFrom_18 so_27 hs (fun hs => ?_)
      refine mv_iastore dX7_copyFrom_19 so_5 hs (fun hs => ?_)
      refine mv_nameH hs (fun h1201 hs => ?_)
      refine mv_iinc (lv' := [.ref 4, .ref 26, .int (v2 + 1)]) 1 dX7_copyFrom_20 rfl (by decide) (Nat.le_of_ble_eq_true rfl) rfl rfl ?_
      refine mv_goto dX7_copyFrom_23 ?_
      exact (ih _ _ hs)
    · refine mv_aload_n dX7_copyFrom_26 rfl ?_
      refine mv_aload_n dX7_copyFrom_27 rfl ?_
      refine mv_geti dX7_copyFrom_28 kf_X7_19 gf_26_2 ?_
      refine mv_puti dX7_copyFrom_31 kf_X7_19 (fun q => by cases q) gf_4_2 ?_
      refine mv_nameH hs (fun h1202 hs => ?_)
      exact mv_vret dX7_copyFrom_34 rfl ⟨_, rfl, rfl, rfl, mv_sat_some hs⟩
noncomputable def fX7_copyFrom_4_26 (h : mv_H) : Option (mv_H) := fX7_copyFrom_4_26_b2 mv_F 0 h
set_option maxRecDepth 100000 in
set_option maxHeartbeats 4000000 in
theorem TX7_copyFrom_4_26 (G : mv_G) (d : Nat) (P : mv_H → Prop) (h : mv_H) (hs : mv_sat (fX7_copyFrom_4_26 h) P) : mv_met G (d + 0) mX7_copyFrom [.ref 4, .ref 26] mv_SH h (mv_qv mv_SH P) := by
  unfold fX7_copyFrom_4_26 at hs
  obtain ⟨D, hDe⟩ : ∃ D, D = d + 0 := ⟨_, rfl⟩
  rw [← hDe]
  have hD : d + 0 ≤ D := by omega
  refine mv_enter (lv := [.ref 4, .ref 26, .float 0]) 1 (by decide) (by decide +kernel) rfl (Nat.le_of_ble_eq_true rfl) ?_
  refine mv_iconst 0 dX7_copyFrom_0 (by decide) ?_
  refine mv_istore_n (lv' := [.ref 4, .ref 26, .int 0]) dX7_copyFrom_1 (Nat.le_of_ble_eq_true rfl) rfl rfl ?_
  exact (BX7_copyFrom_4_26_b2 G d D (by omega) P _ _ _ hs)
noncomputable def fX7_copyFrom_6_28_b2 : Nat → Int32 → mv_H → Option (mv_H)
  | 0, _, _ => none
  | n + 1, v2, h => if v2 < 18 then (if mv_in v2 18 then (if mv_in v2 18 then mv_let (mv_u h 7 v2.toNatClampNeg (h 29 v2.toNatClampNeg)) fun h1204 : mv_H => ((fX7_copyFrom_6_28_b2 n) (v2 + 1) h1204) else none) else none) else mv_let (mv_u h 6 2 (h 28 2)) fun h1205 : mv_H => some h1205
set_option maxRecDepth 100000 in
set_option maxHeartbeats 4000000 in
theorem BX7_copyFrom_6_28_b2 (G : mv_G) (d D : Nat) (hD : d + 0 ≤ D) (P : mv_H → Prop) : ∀ (n : Nat) (v2 : Int32) (h : mv_H), mv_sat (fX7_copyFrom_6_28_b2 n v2 h) P → mv_MW G mX7_copyFrom (mv_rm D mX7_copyFrom) (mv_Zf G mX7_copyFrom (mv_qv mv_SH P)) 0 0 2 [.ref 6, .ref 28, .int v2] [] mv_SH h := by
  intro n
  induction n with
  | zero =>
    intro v2 h hs
    unfold fX7_copyFrom_6_28_b2 at hs
    exact (mv_sat_none hs).elim
  | succ n ih =>
    intro v2 h hs
    unfold fX7_copyFrom_6_28_b2 at hs
    refine mv_iload_n dX7_copyFrom_2 rfl ?_
    refine mv_bipush 18 dX7_copyFrom_3 (by decide) ?_
    refine mv_icmp_ge dX7_copyFrom_5 hs (fun _ hs => ?_) (fun _ hs => ?_)
    · refine mv_aload_n dX7_copyFrom_8 rfl ?_
      refine mv_getr dX7_copyFrom_9 kf_X7_9 gf_6_1 ?_
      refine mv_iload_n dX7_copyFrom_12 rfl ?_
      refine mv_aload_n dX7_copyFrom_13 rfl ?_
      refine mv_getr dX7_copyFrom_14 kf_X7_9 gf_28_1 ?_
      refine mv_iload_n dX7_copyFrom_17 rfl ?_
      refine mv_iaload dX7_copyFrom_18 so_29 hs (fun hs => ?_)
      refine mv_iastore dX7_copyFrom_19 so_7 hs (fun hs => ?_)
      refine mv_nameH hs (fun h1204 hs => ?_)
      refine mv_iinc (lv' := [.ref 6, .ref 28, .int (v2 + 1)]) 1 dX7_copyFrom_20 rfl (by decide) (Nat.le_of_ble_eq_true rfl) rfl rfl ?_
      refine mv_goto dX7_copyFrom_23 ?_
      exact (ih _ _ hs)
    · refine mv_aload_n dX7_copyFrom_26 rfl ?_
      refine mv_aload_n dX7_copyFrom_27 rfl ?_
      refine mv_geti dX7_copyFrom_28 kf_X7_19 gf_28_2 ?_
      refine mv_puti dX7_copyFrom_31 kf_X7_19 (fun q => by cases q) gf_6_2 ?_
      refine mv_nameH hs (fun h1205 hs => ?_)
      exact mv_vret dX7_copyFrom_34 rfl ⟨_, rfl, rfl, rfl, mv_sat_some hs⟩
noncomputable def fX7_copyFrom_6_28 (h : mv_H) : Option (mv_H) := fX7_copyFrom_6_28_b2 mv_F 0 h
set_option maxRecDepth 100000 in
set_option maxHeartbeats 4000000 in
theorem TX7_copyFrom_6_28 (G : mv_G) (d : Nat) (P : mv_H → Prop) (h : mv_H) (hs : mv_sat (fX7_copyFrom_6_28 h) P) : mv_met G (d + 0) mX7_copyFrom [.ref 6, .ref 28] mv_SH h (mv_qv mv_SH P) := by
  unfold fX7_copyFrom_6_28 at hs
  obtain ⟨D, hDe⟩ : ∃ D, D = d + 0 := ⟨_, rfl⟩
  rw [← hDe]
  have hD : d + 0 ≤ D := by omega
  refine mv_enter (lv := [.ref 6, .ref 28, .float 0]) 1 (by decide) (by decide +kernel) rfl (Nat.le_of_ble_eq_true rfl) ?_
  refine mv_iconst 0 dX7_copyFrom_0 (by decide) ?_
  refine mv_istore_n (lv' := [.ref 6, .ref 28, .int 0]) dX7_copyFrom_1 (Nat.le_of_ble_eq_true rfl) rfl rfl ?_
  exact (BX7_copyFrom_6_28_b2 G d D (by omega) P _ _ _ hs)
noncomputable def fX2_copyFrom_8_30_b2 : Nat → Int32 → mv_H → Option (mv_H)
  | 0, _, _ => none
  | n + 1, v2, h => if v2 < 6 then (if mv_in v2 6 then (if mv_in v2 6 then mv_let (mv_u h 9 v2.toNatClampNeg (h 31 v2.toNatClampNeg)) fun h1207 : mv_H => ((fX2_copyFrom_8_30_b2 n) (v2 + 1) h1207) else none) else none) else mv_let (mv_u h 8 2 (h 30 2)) fun h1208 : mv_H => some h1208
set_option maxRecDepth 100000 in
set_option maxHeartbeats 4000000 in
theorem BX2_copyFrom_8_30_b2 (G : mv_G) (d D : Nat) (hD : d + 0 ≤ D) (P : mv_H → Prop) : ∀ (n : Nat) (v2 : Int32) (h : mv_H), mv_sat (fX2_copyFrom_8_30_b2 n v2 h) P → mv_MW G mX2_copyFrom (mv_rm D mX2_copyFrom) (mv_Zf G mX2_copyFrom (mv_qv mv_SH P)) 0 0 2 [.ref 8, .ref 30, .int v2] [] mv_SH h := by
  intro n
  induction n with
  | zero =>
    intro v2 h hs
    unfold fX2_copyFrom_8_30_b2 at hs
    exact (mv_sat_none hs).elim
  | succ n ih =>
    intro v2 h hs
    unfold fX2_copyFrom_8_30_b2 at hs
    refine mv_iload_n dX2_copyFrom_2 rfl ?_
    refine mv_bipush 6 dX2_copyFrom_3 (by decide) ?_
    refine mv_icmp_ge dX2_copyFrom_5 hs (fun _ hs => ?_) (fun _ hs => ?_)
    · refine mv_aload_n dX2_copyFrom_8 rfl ?_
      refine mv_getr dX2_copyFrom_9 kf_X2_9 gf_8_1 ?_
      refine mv_iload_n dX2_copyFrom_12 rfl ?_
      refine mv_aload_n dX2_copyFrom_13 rfl ?_
      refine mv_getr dX2_copyFrom_14 kf_X2_9 gf_30_1 ?_
      refine mv_iload_n dX2_copyFrom_17 rfl ?_
      refine mv_iaload dX2_copyFrom_18 so_31 hs (fun hs => ?_)
      refine mv_iastore dX2_copyFrom_19 so_9 hs (fun hs => ?_)
      refine mv_nameH hs (fun h1207 hs => ?_)
      refine mv_iinc (lv' := [.ref 8, .ref 30, .int (v2 + 1)]) 1 dX2_copyFrom_20 rfl (by decide) (Nat.le_of_ble_eq_true rfl) rfl rfl ?_
      refine mv_goto dX2_copyFrom_23 ?_
      exact (ih _ _ hs)
    · refine mv_aload_n dX2_copyFrom_26 rfl ?_
      refine mv_aload_n dX2_copyFrom_27 rfl ?_
      refine mv_geti dX2_copyFrom_28 kf_X2_17 gf_30_2 ?_
      refine mv_puti dX2_copyFrom_31 kf_X2_17 (fun q => by cases q) gf_8_2 ?_
      refine mv_nameH hs (fun h1208 hs => ?_)
      exact mv_vret dX2_copyFrom_34 rfl ⟨_, rfl, rfl, rfl, mv_sat_some hs⟩
noncomputable def fX2_copyFrom_8_30 (h : mv_H) : Option (mv_H) := fX2_copyFrom_8_30_b2 mv_F 0 h
set_option maxRecDepth 100000 in
set_option maxHeartbeats 4000000 in
theorem TX2_copyFrom_8_30 (G : mv_G) (d : Nat) (P : mv_H → Prop) (h : mv_H) (hs : mv_sat (fX2_copyFrom_8_30 h) P) : mv_met G (d + 0) mX2_copyFrom [.ref 8, .ref 30] mv_SH h (mv_qv mv_SH P) := by
  unfold fX2_copyFrom_8_30 at hs
  obtain ⟨D, hDe⟩ : ∃ D, D = d + 0 := ⟨_, rfl⟩
  rw [← hDe]
  have hD : d + 0 ≤ D := by omega
  refine mv_enter (lv := [.ref 8, .ref 30, .float 0]) 1 (by decide) (by decide +kernel) rfl (Nat.le_of_ble_eq_true rfl) ?_
  refine mv_iconst 0 dX2_copyFrom_0 (by decide) ?_
  refine mv_istore_n (lv' := [.ref 8, .ref 30, .int 0]) dX2_copyFrom_1 (Nat.le_of_ble_eq_true rfl) rfl rfl ?_
  exact (BX2_copyFrom_8_30_b2 G d D (by omega) P _ _ _ hs)
noncomputable def fX2_copyFrom_10_32_b2 : Nat → Int32 → mv_H → Option (mv_H)
  | 0, _, _ => none
  | n + 1, v2, h => if v2 < 6 then (if mv_in v2 6 then (if mv_in v2 6 then mv_let (mv_u h 11 v2.toNatClampNeg (h 33 v2.toNatClampNeg)) fun h1210 : mv_H => ((fX2_copyFrom_10_32_b2 n) (v2 + 1) h1210) else none) else none) else mv_let (mv_u h 10 2 (h 32 2)) fun h1211 : mv_H => some h1211
set_option maxRecDepth 100000 in
set_option maxHeartbeats 4000000 in
theorem BX2_copyFrom_10_32_b2 (G : mv_G) (d D : Nat) (hD : d + 0 ≤ D) (P : mv_H → Prop) : ∀ (n : Nat) (v2 : Int32) (h : mv_H), mv_sat (fX2_copyFrom_10_32_b2 n v2 h) P → mv_MW G mX2_copyFrom (mv_rm D mX2_copyFrom) (mv_Zf G mX2_copyFrom (mv_qv mv_SH P)) 0 0 2 [.ref 10, .ref 32, .int v2] [] mv_SH h := by
  intro n
  induction n with
  | zero =>
    intro v2 h hs
    unfold fX2_copyFrom_10_32_b2 at hs
    exact (mv_sat_none hs).elim
  | succ n ih =>
    intro v2 h hs
    unfold fX2_copyFrom_10_32_b2 at hs
    refine mv_iload_n dX2_copyFrom_2 rfl ?_
    refine mv_bipush 6 dX2_copyFrom_3 (by decide) ?_
    refine mv_icmp_ge dX2_copyFrom_5 hs (fun _ hs => ?_) (fun _ hs => ?_)
    · refine mv_aload_n dX2_copyFrom_8 rfl ?_
      refine mv_getr dX2_copyFrom_9 kf_X2_9 gf_10_1 ?_
      refine mv_iload_n dX2_copyFrom_12 rfl ?_
      refine mv_aload_n dX2_copyFrom_13 rfl ?_
      refine mv_getr dX2_copyFrom_14 kf_X2_9 gf_32_1 ?_
      refine mv_iload_n dX2_copyFrom_17 rfl ?_
      refine mv_iaload dX2_copyFrom_18 so_33 hs (fun hs => ?_)
      refine mv_iastore dX2_copyFrom_19 so_11 hs (fun hs => ?_)
      refine mv_nameH hs (fun h1210 hs => ?_)
      refine mv_iinc (lv' := [.ref 10, .ref 32, .int (v2 + 1)]) 1 dX2_copyFrom_20 rfl (by decide) (Nat.le_of_ble_eq_true rfl) rfl rfl ?_
      refine mv_goto dX2_copyFrom_23 ?_
      exact (ih _ _ hs)
    · refine mv_aload_n dX2_copyFrom_26 rfl ?_
      refine mv_aload_n dX2_copyFrom_27 rfl ?_
      refine mv_geti dX2_copyFrom_28 kf_X2_17 gf_32_2 ?_
      refine mv_puti dX2_copyFrom_31 kf_X2_17 (fun q => by cases q) gf_10_2 ?_
      refine mv_nameH hs (fun h1211 hs => ?_)
      exact mv_vret dX2_copyFrom_34 rfl ⟨_, rfl, rfl, rfl, mv_sat_some hs⟩
noncomputable def fX2_copyFrom_10_32 (h : mv_H) : Option (mv_H) := fX2_copyFrom_10_32_b2 mv_F 0 h
set_option maxRecDepth 100000 in
set_option maxHeartbeats 4000000 in
theorem TX2_copyFrom_10_32 (G : mv_G) (d : Nat) (P : mv_H → Prop) (h : mv_H) (hs : mv_sat (fX2_copyFrom_10_32 h) P) : mv_met G (d + 0) mX2_copyFrom [.ref 10, .ref 32] mv_SH h (mv_qv mv_SH P) := by
  unfold fX2_copyFrom_10_32 at hs
  obtain ⟨D, hDe⟩ : ∃ D, D = d + 0 := ⟨_, rfl⟩
  rw [← hDe]
  have hD : d + 0 ≤ D := by omega
  refine mv_enter (lv := [.ref 10, .ref 32, .float 0]) 1 (by decide) (by decide +kernel) rfl (Nat.le_of_ble_eq_true rfl) ?_
  refine mv_iconst 0 dX2_copyFrom_0 (by decide) ?_
  refine mv_istore_n (lv' := [.ref 10, .ref 32, .int 0]) dX2_copyFrom_1 (Nat.le_of_ble_eq_true rfl) rfl rfl ?_
  exact (BX2_copyFrom_10_32_b2 G d D (by omega) P _ _ _ hs)
noncomputable def fX1_copyFrom_1_23 (h : mv_H) : Option (mv_H) := (fX7_copyFrom_2_24 h).bind fun r1200 => (fX7_copyFrom_4_26 r1200).bind fun r1203 => (fX7_copyFrom_6_28 r1203).bind fun r1206 => (fX2_copyFrom_8_30 r1206).bind fun r1209 => (fX2_copyFrom_10_32 r1209).bind fun r1212 => mv_let (mv_u r1212 1 5 (r1212 23 5)) fun h1213 : mv_H => mv_let (mv_u h1213 1 6 (h1213 23 6)) fun h1214 : mv_H => mv_let (mv_u h1214 1 7 (h1214 23 7)) fun h1215 : mv_H => mv_let (mv_u h1215 1 8 (h1215 23 8)) fun h1216 : mv_H => some h1216
set_option maxRecDepth 100000 in
set_option maxHeartbeats 4000000 in
theorem TX1_copyFrom_1_23 (G : mv_G) (d : Nat) (P : mv_H → Prop) (h : mv_H) (hs : mv_sat (fX1_copyFrom_1_23 h) P) : mv_met G (d + 1) mX1_copyFrom [.ref 1, .ref 23] mv_SH h (mv_qv mv_SH P) := by
  unfold fX1_copyFrom_1_23 at hs
  obtain ⟨D, hDe⟩ : ∃ D, D = d + 1 := ⟨_, rfl⟩
  rw [← hDe]
  have hD : d + 1 ≤ D := by omega
  refine mv_enter (lv := [.ref 1, .ref 23]) 0 (by decide) (by decide +kernel) rfl (Nat.le_of_ble_eq_true rfl) ?_
  refine mv_aload_n dX1_copyFrom_0 rfl ?_
  refine mv_getr dX1_copyFrom_1 kf_X1_14 gf_1_0 ?_
  refine mv_aload_n dX1_copyFrom_4 rfl ?_
  refine mv_getr dX1_copyFrom_5 kf_X1_14 gf_23_0 ?_
  refine mv_cV (st := []) dX1_copyFrom_8 kk_X1_49 (TX7_copyFrom_2_24 G d _ _ (mv_sat_bind hs)) so_2 vc_7 rfl rfl (Nat.le_of_ble_eq_true rfl) (by omega) rfl ⟨Nat.zero_le _, Nat.zero_le _⟩ (mv_kv fun r1200 hs => ?_)
  refine mv_aload_n dX1_copyFrom_11 rfl ?_
  refine mv_getr dX1_copyFrom_12 kf_X1_20 gf_1_1 ?_
  refine mv_aload_n dX1_copyFrom_15 rfl ?_
  refine mv_getr dX1_copyFrom_16 kf_X1_20 gf_23_1 ?_
  refine mv_cV (st := []) dX1_copyFrom_19 kk_X1_49 (TX7_copyFrom_4_26 G d _ _ (mv_sat_bind hs)) so_4 vc_7 rfl rfl (Nat.le_of_ble_eq_true rfl) (by omega) rfl ⟨Nat.zero_le _, Nat.zero_le _⟩ (mv_kv fun r1203 hs => ?_)
  refine mv_aload_n dX1_copyFrom_22 rfl ?_
  refine mv_getr dX1_copyFrom_23 kf_X1_23 gf_1_2 ?_
  refine mv_aload_n dX1_copyFrom_26 rfl ?_
  refine mv_getr dX1_copyFrom_27 kf_X1_23 gf_23_2 ?_
  refine mv_cV (st := []) dX1_copyFrom_30 kk_X1_49 (TX7_copyFrom_6_28 G d _ _ (mv_sat_bind hs)) so_6 vc_7 rfl rfl (Nat.le_of_ble_eq_true rfl) (by omega) rfl ⟨Nat.zero_le _, Nat.zero_le _⟩ (mv_kv fun r1206 hs => ?_)
  refine mv_aload_n dX1_copyFrom_33 rfl ?_
  refine mv_getr dX1_copyFrom_34 kf_X1_29 gf_1_3 ?_
  refine mv_aload_n dX1_copyFrom_37 rfl ?_
  refine mv_getr dX1_copyFrom_38 kf_X1_29 gf_23_3 ?_
  refine mv_cV (st := []) dX1_copyFrom_41 kk_X1_53 (TX2_copyFrom_8_30 G d _ _ (mv_sat_bind hs)) so_8 vc_2 rfl rfl (Nat.le_of_ble_eq_true rfl) (by omega) rfl ⟨Nat.zero_le _, Nat.zero_le _⟩ (mv_kv fun r1209 hs => ?_)
  refine mv_aload_n dX1_copyFrom_44 rfl ?_
  refine mv_getr dX1_copyFrom_45 kf_X1_33 gf_1_4 ?_
  refine mv_aload_n dX1_copyFrom_48 rfl ?_
  refine mv_getr dX1_copyFrom_49 kf_X1_33 gf_23_4 ?_
  refine mv_cV (st := []) dX1_copyFrom_52 kk_X1_53 (TX2_copyFrom_10_32 G d _ _ (mv_sat_bind hs)) so_10 vc_2 rfl rfl (Nat.le_of_ble_eq_true rfl) (by omega) rfl ⟨Nat.zero_le _, Nat.zero_le _⟩ (mv_kv fun r1212 hs => ?_)
  refine mv_aload_n dX1_copyFrom_55 rfl ?_
  refine mv_aload_n dX1_copyFrom_56 rfl ?_
  refine mv_geti dX1_copyFrom_57 kf_X1_36 gf_23_5 ?_
  refine mv_puti dX1_copyFrom_60 kf_X1_36 (fun q => by cases q) gf_1_5 ?_
  refine mv_nameH hs (fun h1213 hs => ?_)
  refine mv_aload_n dX1_copyFrom_63 rfl ?_
  refine mv_aload_n dX1_copyFrom_64 rfl ?_
  refine mv_geti dX1_copyFrom_65 kf_X1_40 gf_23_6 ?_
  refine mv_puti dX1_copyFrom_68 kf_X1_40 (fun q => by cases q) gf_1_6 ?_
  refine mv_nameH hs (fun h1214 hs => ?_)
  refine mv_aload_n dX1_copyFrom_71 rfl ?_
  refine mv_aload_n dX1_copyFrom_72 rfl ?_
  refine mv_geti dX1_copyFrom_73 kf_X1_43 gf_23_7 ?_
  refine mv_puti dX1_copyFrom_76 kf_X1_43 (fun q => by cases q) gf_1_7 ?_
  refine mv_nameH hs (fun h1215 hs => ?_)
  refine mv_aload_n dX1_copyFrom_79 rfl ?_
  refine mv_aload_n dX1_copyFrom_80 rfl ?_
  refine mv_geti dX1_copyFrom_81 kf_X1_46 gf_23_8 ?_
  refine mv_puti dX1_copyFrom_84 kf_X1_46 (fun q => by cases q) gf_1_8 ?_
  refine mv_nameH hs (fun h1216 hs => ?_)
  exact mv_vret dX1_copyFrom_87 rfl ⟨_, rfl, rfl, rfl, mv_sat_some hs⟩
noncomputable def fX9_restore_0 (p0 : Int32) (h : mv_H) : Option (Int32 × mv_H) := (fX9_isWithin p0 (0 : Int32) (1 : Int32)).bind fun r1175 => if r1175 = 0 then some ((-2), h) else (fX9_isIn (h 0 3) p0).bind fun r1176 => if r1176 = 0 then some ((-3), h) else (fX9_imageOf_0 p0 h).bind fun r1177 => if r1177 = 12 then ((fX1_copyFrom_1_12 h).bind fun r1197 => some (1, r1197)) else if r1177 = 23 then ((fX1_copyFrom_1_23 h).bind fun r1217 => some (1, r1217)) else none
set_option maxRecDepth 100000 in
set_option maxHeartbeats 4000000 in
theorem TX9_restore_0 (G : mv_G) (d : Nat) (P : Int32 × mv_H → Prop) (p0 : Int32) (h : mv_H) (hs : mv_sat (fX9_restore_0 p0 h) P) : mv_met G (d + 2) mX9_restore [.ref 0, .int p0] mv_SH h (mv_qI mv_SH P) := by
  unfold fX9_restore_0 at hs
  obtain ⟨D, hDe⟩ : ∃ D, D = d + 2 := ⟨_, rfl⟩
  rw [← hDe]
  have hD : d + 2 ≤ D := by omega
  refine mv_enter (lv := [.ref 0, .int p0]) 0 (by decide) (by decide +kernel) rfl (Nat.le_of_ble_eq_true rfl) ?_
  refine mv_iload_n dX9_restore_0 rfl ?_
  refine mv_iconst 0 dX9_restore_1 (by decide) ?_
  refine mv_iconst 1 dX9_restore_2 (by decide) ?_
  refine mv_cS (st := []) dX9_restore_3 kk_X9_79 (TX9_isWithin G d _ _ _ _ _ (mv_sat_bind hs)) rfl rfl (Nat.le_of_ble_eq_true rfl) (by omega) rfl ⟨Nat.zero_le _, Nat.zero_le _⟩ (mv_ki fun r1175 hs => ?_)
  refine mv_if_ne dX9_restore_6 hs (fun _ hs => ?_) (fun _ hs => ?_)
  · refine mv_bipush (-2) dX9_restore_9 (by decide) ?_
    exact mv_iret dX9_restore_11 rfl ⟨((-2), h), rfl, rfl, rfl, mv_sat_some hs⟩
  · refine mv_aload_n dX9_restore_12 rfl ?_
    refine mv_geti dX9_restore_13 kf_X9_341 gf_0_3 ?_
    refine mv_iload_n dX9_restore_16 rfl ?_
    refine mv_cS (st := []) dX9_restore_17 kk_X9_250 (TX9_isIn G d _ _ _ _ (mv_sat_bind hs)) rfl rfl (Nat.le_of_ble_eq_true rfl) (by omega) rfl ⟨Nat.zero_le _, Nat.zero_le _⟩ (mv_ki fun r1176 hs => ?_)
    refine mv_if_ne dX9_restore_20 hs (fun _ hs => ?_) (fun _ hs => ?_)
    · refine mv_bipush (-3) dX9_restore_23 (by decide) ?_
      exact mv_iret dX9_restore_25 rfl ⟨((-3), h), rfl, rfl, rfl, mv_sat_some hs⟩
    · refine mv_aload_n dX9_restore_26 rfl ?_
      refine mv_getr dX9_restore_27 kf_X9_10 gf_0_0 ?_
      refine mv_aload_n dX9_restore_30 rfl ?_
      refine mv_iload_n dX9_restore_31 rfl ?_
      refine mv_cV (st := [.ref 1]) dX9_restore_32 kk_X9_333 (TX9_imageOf_0 G d _ _ _ (mv_sat_bind hs)) so_0 vc_9 rfl rfl (Nat.le_of_ble_eq_true rfl) (by omega) rfl ⟨Nat.zero_le _, Nat.zero_le _⟩ (mv_kr fun r1177 hs => ?_)
      refine mv_case hs (fun e hsn => ?_) (fun _ hs => ?_)
      · subst e
        have hs := hsn
        refine mv_cV (st := []) dX9_restore_35 kk_X9_337 (TX1_copyFrom_1_12 G d _ _ (mv_sat_bind hs)) so_1 vc_1 rfl rfl (Nat.le_of_ble_eq_true rfl) (by omega) rfl ⟨Nat.zero_le _, Nat.zero_le _⟩ (mv_kv fun r1197 hs => ?_)
        refine mv_iconst 1 dX9_restore_38 (by decide) ?_
        exact mv_iret dX9_restore_39 rfl ⟨(1, r1197), rfl, rfl, rfl, mv_sat_some hs⟩
      refine mv_case hs (fun e hsn => ?_) (fun _ hs => ?_)
      · subst e
        have hs := hsn
        refine mv_cV (st := []) dX9_restore_35 kk_X9_337 (TX1_copyFrom_1_23 G d _ _ (mv_sat_bind hs)) so_1 vc_1 rfl rfl (Nat.le_of_ble_eq_true rfl) (by omega) rfl ⟨Nat.zero_le _, Nat.zero_le _⟩ (mv_kv fun r1217 hs => ?_)
        refine mv_iconst 1 dX9_restore_38 (by decide) ?_
        exact mv_iret dX9_restore_39 rfl ⟨(1, r1217), rfl, rfl, rfl, mv_sat_some hs⟩
      exact (mv_sat_none hs).elim
noncomputable def fX10_restore_55 (p0 : Int32) (h : mv_H) : Option (Int32 × mv_H) := (fX10_in (Int32.toInt64 p0) (0 : Int64) (1 : Int64)).bind fun r1219 => if r1219 = 0 then some ((-2), h) else if mv_in p0 2 then (if (h 82 p0.toNatClampNeg) = 0 then some ((-3), h) else mv_let (mv_u h 55 44 (100 * p0)) fun h1220 : mv_H => mv_let (mv_u h1220 55 45 0) fun h1221 : mv_H => (fX10_passAll_55 h1221).bind fun r1222 => some (1, r1222)) else none
set_option maxRecDepth 100000 in
set_option maxHeartbeats 4000000 in
theorem TX10_restore_55 (G : mv_G) (d : Nat) (P : Int32 × mv_H → Prop) (p0 : Int32) (h : mv_H) (hs : mv_sat (fX10_restore_55 p0 h) P) : mv_met G (d + 2) mX10_restore [.ref 55, .int p0] mv_SH h (mv_qI mv_SH P) := by
  unfold fX10_restore_55 at hs
  obtain ⟨D, hDe⟩ : ∃ D, D = d + 2 := ⟨_, rfl⟩
  rw [← hDe]
  have hD : d + 2 ≤ D := by omega
  refine mv_enter (lv := [.ref 55, .int p0]) 0 (by decide) (by decide +kernel) rfl (Nat.le_of_ble_eq_true rfl) ?_
  refine mv_iload_n dX10_restore_0 rfl ?_
  refine mv_i2l dX10_restore_1 ?_
  refine mv_lconst 0 dX10_restore_2 rfl ?_
  refine mv_lconst 1 dX10_restore_3 rfl ?_
  refine mv_cS (st := []) dX10_restore_4 kk_X10_104 (TX10_in G d _ _ _ _ _ (mv_sat_bind hs)) rfl rfl (Nat.le_of_ble_eq_true rfl) (by omega) rfl ⟨Nat.zero_le _, Nat.zero_le _⟩ (mv_ki fun r1219 hs => ?_)
  refine mv_if_ne dX10_restore_7 hs (fun _ hs => ?_) (fun _ hs => ?_)
  · refine mv_bipush (-2) dX10_restore_10 (by decide) ?_
    exact mv_iret dX10_restore_12 rfl ⟨((-2), h), rfl, rfl, rfl, mv_sat_some hs⟩
  · refine mv_aload_n dX10_restore_13 rfl ?_
    refine mv_getr dX10_restore_14 kf_X10_88 gf_55_43 ?_
    refine mv_iload_n dX10_restore_17 rfl ?_
    refine mv_zaload dX10_restore_18 so_82 hs (fun hs => ?_)
    refine mv_if_ne dX10_restore_19 hs (fun _ hs => ?_) (fun _ hs => ?_)
    · refine mv_bipush (-3) dX10_restore_22 (by decide) ?_
      exact mv_iret dX10_restore_24 rfl ⟨((-3), h), rfl, rfl, rfl, mv_sat_some hs⟩
    · refine mv_aload_n dX10_restore_25 rfl ?_
      refine mv_bipush 100 dX10_restore_26 (by decide) ?_
      refine mv_iload_n dX10_restore_28 rfl ?_
      refine mv_imul dX10_restore_29 ?_
      refine mv_puti dX10_restore_30 kf_X10_352 (fun q => by cases q) gf_55_44 ?_
      refine mv_nameH hs (fun h1220 hs => ?_)
      refine mv_aload_n dX10_restore_33 rfl ?_
      refine mv_iconst 0 dX10_restore_34 (by decide) ?_
      refine mv_putz dX10_restore_35 kf_X10_349 (fun q => by cases q) gf_55_45 (Or.inl rfl) ?_
      refine mv_nameH hs (fun h1221 hs => ?_)
      refine mv_aload_n dX10_restore_38 rfl ?_
      refine mv_cV (st := []) dX10_restore_39 kk_X10_358 (TX10_passAll_55 G d _ _ (mv_sat_bind hs)) so_55 vc_10 rfl rfl (Nat.le_of_ble_eq_true rfl) (by omega) rfl ⟨Nat.zero_le _, Nat.zero_le _⟩ (mv_kv fun r1222 hs => ?_)
      refine mv_iconst 1 dX10_restore_42 (by decide) ?_
      exact mv_iret dX10_restore_43 rfl ⟨(1, r1222), rfl, rfl, rfl, mv_sat_some hs⟩
noncomputable def fX7_bits_4 (h : mv_H) : Option (Int32) := some (h 4 2)
set_option maxRecDepth 100000 in
set_option maxHeartbeats 4000000 in
theorem TX7_bits_4 (G : mv_G) (d : Nat) (P : Int32 → Prop) (h : mv_H) (hs : mv_sat (fX7_bits_4 h) P) : mv_met G (d + 0) mX7_bits [.ref 4] mv_SH h (mv_qi mv_SH h P) := by
  unfold fX7_bits_4 at hs
  obtain ⟨D, hDe⟩ : ∃ D, D = d + 0 := ⟨_, rfl⟩
  rw [← hDe]
  have hD : d + 0 ≤ D := by omega
  refine mv_enter (lv := [.ref 4]) 0 (by decide) (by decide +kernel) rfl (Nat.le_of_ble_eq_true rfl) ?_
  refine mv_aload_n dX7_bits_0 rfl ?_
  refine mv_geti dX7_bits_1 kf_X7_19 gf_4_2 ?_
  exact mv_iret dX7_bits_4 rfl ⟨_, rfl, rfl, rfl, mv_sat_some hs⟩
noncomputable def fX7_columns_2 (h : mv_H) : Option (Int32) := some (h 2 0)
set_option maxRecDepth 100000 in
set_option maxHeartbeats 4000000 in
theorem TX7_columns_2 (G : mv_G) (d : Nat) (P : Int32 → Prop) (h : mv_H) (hs : mv_sat (fX7_columns_2 h) P) : mv_met G (d + 0) mX7_columns [.ref 2] mv_SH h (mv_qi mv_SH h P) := by
  unfold fX7_columns_2 at hs
  obtain ⟨D, hDe⟩ : ∃ D, D = d + 0 := ⟨_, rfl⟩
  rw [← hDe]
  have hD : d + 0 ≤ D := by omega
  refine mv_enter (lv := [.ref 2]) 0 (by decide) (by decide +kernel) rfl (Nat.le_of_ble_eq_true rfl) ?_
  refine mv_aload_n dX7_columns_0 rfl ?_
  refine mv_geti dX7_columns_1 kf_X7_15 gf_2_0 ?_
  exact mv_iret dX7_columns_4 rfl ⟨_, rfl, rfl, rfl, mv_sat_some hs⟩
noncomputable def fX7_columns_4 (h : mv_H) : Option (Int32) := some (h 4 0)
set_option maxRecDepth 100000 in
set_option maxHeartbeats 4000000 in
theorem TX7_columns_4 (G : mv_G) (d : Nat) (P : Int32 → Prop) (h : mv_H) (hs : mv_sat (fX7_columns_4 h) P) : mv_met G (d + 0) mX7_columns [.ref 4] mv_SH h (mv_qi mv_SH h P) := by
  unfold fX7_columns_4 at hs
  obtain ⟨D, hDe⟩ : ∃ D, D = d + 0 := ⟨_, rfl⟩
  rw [← hDe]
  have hD : d + 0 ≤ D := by omega
  refine mv_enter (lv := [.ref 4]) 0 (by decide) (by decide +kernel) rfl (Nat.le_of_ble_eq_true rfl) ?_
  refine mv_aload_n dX7_columns_0 rfl ?_
  refine mv_geti dX7_columns_1 kf_X7_15 gf_4_0 ?_
  exact mv_iret dX7_columns_4 rfl ⟨_, rfl, rfl, rfl, mv_sat_some hs⟩
noncomputable def fX7_columns_6 (h : mv_H) : Option (Int32) := some (h 6 0)
set_option maxRecDepth 100000 in
set_option maxHeartbeats 4000000 in
theorem TX7_columns_6 (G : mv_G) (d : Nat) (P : Int32 → Prop) (h : mv_H) (hs : mv_sat (fX7_columns_6 h) P) : mv_met G (d + 0) mX7_columns [.ref 6] mv_SH h (mv_qi mv_SH h P) := by
  unfold fX7_columns_6 at hs
  obtain ⟨D, hDe⟩ : ∃ D, D = d + 0 := ⟨_, rfl⟩
  rw [← hDe]
  have hD : d + 0 ≤ D := by omega
  refine mv_enter (lv := [.ref 6]) 0 (by decide) (by decide +kernel) rfl (Nat.le_of_ble_eq_true rfl) ?_
  refine mv_aload_n dX7_columns_0 rfl ?_
  refine mv_geti dX7_columns_1 kf_X7_15 gf_6_0 ?_
  exact mv_iret dX7_columns_4 rfl ⟨_, rfl, rfl, rfl, mv_sat_some hs⟩
noncomputable def fX9_toldSide_0 (p0 : Int32) (p1 : Int32) (h : mv_H) : Option (Int32) := mv_let (p1 / 10) fun x1234 : Int32 => mv_let (p1 - p1 / 10 * 10) fun x1235 : Int32 => (fX9_isWithin x1234 (0 : Int32) (2 : Int32)).bind fun r1236 => if r1236 = 0 then some (-2) else (fX1_shelf_1 x1234 h).bind fun r1237 => if r1237 = 2 then ((fX7_has_2 p0 h).bind fun r1238 => if r1238 = 0 then some (-2) else (fX7_columns_2 h).bind fun r1239 => if x1235 < r1239 then ((fX7_side_2 p0 x1235 h).bind fun r1240 => some r1240) else some (-2)) else if r1237 = 4 then ((fX7_has_4 p0 h).bind fun r1241 => if r1241 = 0 then some (-2) else (fX7_columns_4 h).bind fun r1242 => if x1235 < r1242 then ((fX7_side_4 p0 x1235 h).bind fun r1243 => some r1243) else some (-2)) else if r1237 = 6 then ((fX7_has_6 p0 h).bind fun r1244 => if r1244 = 0 then some (-2) else (fX7_columns_6 h).bind fun r1245 => if x1235 < r1245 then ((fX7_side_6 p0 x1235 h).bind fun r1246 => some r1246) else some (-2)) else none
set_option maxRecDepth 100000 in
set_option maxHeartbeats 4000000 in
theorem TX9_toldSide_0 (G : mv_G) (d : Nat) (P : Int32 → Prop) (p0 : Int32) (p1 : Int32) (h : mv_H) (hs : mv_sat (fX9_toldSide_0 p0 p1 h) P) : mv_met G (d + 2) mX9_toldSide [.ref 0, .int p0, .int p1] mv_SH h (mv_qi mv_SH h P) := by
  unfold fX9_toldSide_0 at hs
  obtain ⟨D, hDe⟩ : ∃ D, D = d + 2 := ⟨_, rfl⟩
  rw [← hDe]
  have hD : d + 2 ≤ D := by omega
  refine mv_enter (lv := [.ref 0, .int p0, .int p1, .float 0, .float 0, .float 0]) 3 (by decide) (by decide +kernel) rfl (Nat.le_of_ble_eq_true rfl) ?_
  refine mv_iload_n dX9_toldSide_0 rfl ?_
  refine mv_bipush 10 dX9_toldSide_1 (by decide) ?_
  refine mv_idivk dX9_toldSide_3 (by decide) ?_
  refine mv_name hs (fun x1234 hs => ?_)
  refine mv_istore_n (lv' := [.ref 0, .int p0, .int p1, .int x1234, .float 0, .float 0]) dX9_toldSide_4 (Nat.le_of_ble_eq_true rfl) rfl rfl ?_
  refine mv_iload_n dX9_toldSide_5 rfl ?_
  refine mv_bipush 10 dX9_toldSide_6 (by decide) ?_
  refine mv_iremk dX9_toldSide_8 (by decide) ?_
  refine mv_name hs (fun x1235 hs => ?_)
  refine mv_istore (lv' := [.ref 0, .int p0, .int p1, .int x1234, .int x1235, .float 0]) dX9_toldSide_9 (Nat.le_of_ble_eq_true rfl) rfl rfl ?_
  refine mv_iload_n dX9_toldSide_11 rfl ?_
  refine mv_iconst 0 dX9_toldSide_12 (by decide) ?_
  refine mv_iconst 2 dX9_toldSide_13 (by decide) ?_
  refine mv_cS (st := []) dX9_toldSide_14 kk_X9_79 (TX9_isWithin G d _ _ _ _ _ (mv_sat_bind hs)) rfl rfl (Nat.le_of_ble_eq_true rfl) (by omega) rfl ⟨Nat.zero_le _, Nat.zero_le _⟩ (mv_ki fun r1236 hs => ?_)
  refine mv_if_ne dX9_toldSide_17 hs (fun _ hs => ?_) (fun _ hs => ?_)
  · refine mv_bipush (-2) dX9_toldSide_20 (by decide) ?_
    exact mv_iret dX9_toldSide_22 rfl ⟨_, rfl, rfl, rfl, mv_sat_some hs⟩
  · refine mv_aload_n dX9_toldSide_23 rfl ?_
    refine mv_getr dX9_toldSide_24 kf_X9_10 gf_0_0 ?_
    refine mv_iload_n dX9_toldSide_27 rfl ?_
    refine mv_cV (st := []) dX9_toldSide_28 kk_X9_96 (TX1_shelf_1 G d _ _ _ (mv_sat_bind hs)) so_1 vc_1 rfl rfl (Nat.le_of_ble_eq_true rfl) (by omega) rfl ⟨Nat.zero_le _, Nat.zero_le _⟩ (mv_kr fun r1237 hs => ?_)
    refine mv_case hs (fun e hsn => ?_) (fun _ hs => ?_)
    · subst e
      have hs := hsn
      refine mv_astore (lv' := [.ref 0, .int p0, .int p1, .int x1234, .int x1235, .ref 2]) dX9_toldSide_31 (Nat.le_of_ble_eq_true rfl) rfl rfl ?_
      refine mv_aload dX9_toldSide_33 rfl ?_
      refine mv_iload_n dX9_toldSide_35 rfl ?_
      refine mv_cV (st := []) dX9_toldSide_36 kk_X9_100 (TX7_has_2 G d _ _ _ (mv_sat_bind hs)) so_2 vc_7 rfl rfl (Nat.le_of_ble_eq_true rfl) (by omega) rfl ⟨Nat.zero_le _, Nat.zero_le _⟩ (mv_ki fun r1238 hs => ?_)
      refine mv_if_eq dX9_toldSide_39 hs (fun _ hs => ?_) (fun _ hs => ?_)
      · refine mv_bipush (-2) dX9_toldSide_52 (by decide) ?_
        exact mv_iret dX9_toldSide_54 rfl ⟨_, rfl, rfl, rfl, mv_sat_some hs⟩
      · refine mv_iload dX9_toldSide_42 rfl ?_
        refine mv_aload dX9_toldSide_44 rfl ?_
        refine mv_cV (st := [.int x1235]) dX9_toldSide_46 kk_X9_375 (TX7_columns_2 G d _ _ (mv_sat_bind hs)) so_2 vc_7 rfl rfl (Nat.le_of_ble_eq_true rfl) (by omega) rfl ⟨Nat.zero_le _, Nat.zero_le _⟩ (mv_ki fun r1239 hs => ?_)
        refine mv_icmp_lt dX9_toldSide_49 hs (fun _ hs => ?_) (fun _ hs => ?_)
        · refine mv_aload dX9_toldSide_55 rfl ?_
          refine mv_iload_n dX9_toldSide_57 rfl ?_
          refine mv_iload dX9_toldSide_58 rfl ?_
          refine mv_cV (st := []) dX9_toldSide_60 kk_X9_163 (TX7_side_2 G d _ _ _ _ (mv_sat_bind hs)) so_2 vc_7 rfl rfl (Nat.le_of_ble_eq_true rfl) (by omega) rfl ⟨Nat.zero_le _, Nat.zero_le _⟩ (mv_ki fun r1240 hs => ?_)
          exact mv_iret dX9_toldSide_63 rfl ⟨_, rfl, rfl, rfl, mv_sat_some hs⟩
        · refine mv_bipush (-2) dX9_toldSide_52 (by decide) ?_
          exact mv_iret dX9_toldSide_54 rfl ⟨_, rfl, rfl, rfl, mv_sat_some hs⟩
    refine mv_case hs (fun e hsn => ?_) (fun _ hs => ?_)
    · subst e
      have hs := hsn
      refine mv_astore (lv' := [.ref 0, .int p0, .int p1, .int x1234, .int x1235, .ref 4]) dX9_toldSide_31 (Nat.le_of_ble_eq_true rfl) rfl rfl ?_
      refine mv_aload dX9_toldSide_33 rfl ?_
      refine mv_iload_n dX9_toldSide_35 rfl ?_
      refine mv_cV (st := []) dX9_toldSide_36 kk_X9_100 (TX7_has_4 G d _ _ _ (mv_sat_bind hs)) so_4 vc_7 rfl rfl (Nat.le_of_ble_eq_true rfl) (by omega) rfl ⟨Nat.zero_le _, Nat.zero_le _⟩ (mv_ki fun r1241 hs => ?_)
      refine mv_if_eq dX9_toldSide_39 hs (fun _ hs => ?_) (fun _ hs => ?_)
      · refine mv_bipush (-2) dX9_toldSide_52 (by decide) ?_
        exact mv_iret dX9_toldSide_54 rfl ⟨_, rfl, rfl, rfl, mv_sat_some hs⟩
      · refine mv_iload dX9_toldSide_42 rfl ?_
        refine mv_aload dX9_toldSide_44 rfl ?_
        refine mv_cV (st := [.int x1235]) dX9_toldSide_46 kk_X9_375 (TX7_columns_4 G d _ _ (mv_sat_bind hs)) so_4 vc_7 rfl rfl (Nat.le_of_ble_eq_true rfl) (by omega) rfl ⟨Nat.zero_le _, Nat.zero_le _⟩ (mv_ki fun r1242 hs => ?_)
        refine mv_icmp_lt dX9_toldSide_49 hs (fun _ hs => ?_) (fun _ hs => ?_)
        · refine mv_aload dX9_toldSide_55 rfl ?_
          refine mv_iload_n dX9_toldSide_57 rfl ?_
          refine mv_iload dX9_toldSide_58 rfl ?_
          refine mv_cV (st := []) dX9_toldSide_60 kk_X9_163 (TX7_side_4 G d _ _ _ _ (mv_sat_bind hs)) so_4 vc_7 rfl rfl (Nat.le_of_ble_eq_true rfl) (by omega) rfl ⟨Nat.zero_le _, Nat.zero_le _⟩ (mv_ki fun r1243 hs => ?_)
          exact mv_iret dX9_toldSide_63 rfl ⟨_, rfl, rfl, rfl, mv_sat_some hs⟩
        · refine mv_bipush (-2) dX9_toldSide_52 (by decide) ?_
          exact mv_iret dX9_toldSide_54 rfl ⟨_, rfl, rfl, rfl, mv_sat_some hs⟩
    refine mv_case hs (fun e hsn => ?_) (fun _ hs => ?_)
    · subst e
      have hs := hsn
      refine mv_astore (lv' := [.ref 0, .int p0, .int p1, .int x1234, .int x1235, .ref 6]) dX9_toldSide_31 (Nat.le_of_ble_eq_true rfl) rfl rfl ?_
      refine mv_aload dX9_toldSide_33 rfl ?_
      refine mv_iload_n dX9_toldSide_35 rfl ?_
      refine mv_cV (st := []) dX9_toldSide_36 kk_X9_100 (TX7_has_6 G d _ _ _ (mv_sat_bind hs)) so_6 vc_7 rfl rfl (Nat.le_of_ble_eq_true rfl) (by omega) rfl ⟨Nat.zero_le _, Nat.zero_le _⟩ (mv_ki fun r1244 hs => ?_)
      refine mv_if_eq dX9_toldSide_39 hs (fun _ hs => ?_) (fun _ hs => ?_)
      · refine mv_bipush (-2) dX9_toldSide_52 (by decide) ?_
        exact mv_iret dX9_toldSide_54 rfl ⟨_, rfl, rfl, rfl, mv_sat_some hs⟩
      · refine mv_iload dX9_toldSide_42 rfl ?_
        refine mv_aload dX9_toldSide_44 rfl ?_
        refine mv_cV (st := [.int x1235]) dX9_toldSide_46 kk_X9_375 (TX7_columns_6 G d _ _ (mv_sat_bind hs)) so_6 vc_7 rfl rfl (Nat.le_of_ble_eq_true rfl) (by omega) rfl ⟨Nat.zero_le _, Nat.zero_le _⟩ (mv_ki fun r1245 hs => ?_)
        refine mv_icmp_lt dX9_toldSide_49 hs (fun _ hs => ?_) (fun _ hs => ?_)
        · refine mv_aload dX9_toldSide_55 rfl ?_
          refine mv_iload_n dX9_toldSide_57 rfl ?_
          refine mv_iload dX9_toldSide_58 rfl ?_
          refine mv_cV (st := []) dX9_toldSide_60 kk_X9_163 (TX7_side_6 G d _ _ _ _ (mv_sat_bind hs)) so_6 vc_7 rfl rfl (Nat.le_of_ble_eq_true rfl) (by omega) rfl ⟨Nat.zero_le _, Nat.zero_le _⟩ (mv_ki fun r1246 hs => ?_)
          exact mv_iret dX9_toldSide_63 rfl ⟨_, rfl, rfl, rfl, mv_sat_some hs⟩
        · refine mv_bipush (-2) dX9_toldSide_52 (by decide) ?_
          exact mv_iret dX9_toldSide_54 rfl ⟨_, rfl, rfl, rfl, mv_sat_some hs⟩
    exact (mv_sat_none hs).elim
noncomputable def fX9_told_0 (p0 : Int32) (h : mv_H) : Option (Int32) := if p0 < 100 then (if p0 = 0 then ((fX4_count_34 h).bind fun r1224 => some r1224) else if p0 = 1 then ((fX7_bits_2 h).bind fun r1225 => some r1225) else if p0 = 2 then ((fX7_bits_4 h).bind fun r1226 => some r1226) else if p0 = 3 then ((fX7_bits_6 h).bind fun r1227 => some r1227) else if p0 = 4 then ((fX1_setting_1 (0 : Int32) h).bind fun r1228 => some r1228) else if p0 = 5 then ((fX1_setting_1 (1 : Int32) h).bind fun r1229 => some r1229) else if p0 = 6 then ((fX1_setting_1 (2 : Int32) h).bind fun r1230 => some r1230) else if p0 = 7 then ((fX1_setting_1 (3 : Int32) h).bind fun r1231 => some r1231) else if p0 = 8 then ((fX2_count_8 h).bind fun r1232 => some r1232) else if p0 = 9 then ((fX2_count_10 h).bind fun r1233 => some r1233) else some (-2)) else (fX9_toldSide_0 ((p0 / 100) - 1) (p0 - p0 / 100 * 100) h).bind fun r1247 => some r1247
set_option maxRecDepth 100000 in
set_option maxHeartbeats 4000000 in
theorem TX9_told_0 (G : mv_G) (d : Nat) (P : Int32 → Prop) (p0 : Int32) (h : mv_H) (hs : mv_sat (fX9_told_0 p0 h) P) : mv_met G (d + 3) mX9_told [.ref 0, .int p0] mv_SH h (mv_qi mv_SH h P) := by
  unfold fX9_told_0 at hs
  obtain ⟨D, hDe⟩ : ∃ D, D = d + 3 := ⟨_, rfl⟩
  rw [← hDe]
  have hD : d + 3 ≤ D := by omega
  refine mv_enter (lv := [.ref 0, .int p0]) 0 (by decide) (by decide +kernel) rfl (Nat.le_of_ble_eq_true rfl) ?_
  refine mv_iload_n dX9_told_0 rfl ?_
  refine mv_bipush 100 dX9_told_1 (by decide) ?_
  refine mv_icmp_lt dX9_told_3 hs (fun _ hs => ?_) (fun _ hs => ?_)
  · refine mv_iload_n dX9_told_21 rfl ?_
    refine mv_case hs (fun e hs => ?_) (fun n0 hs => ?_)
    · refine mv_tsw (off := 54) 0 e dX9_told_22 (by decide) (tgt := 76) (by decide) ?_
      refine mv_aload_n dX9_told_76 rfl ?_
      refine mv_getr dX9_told_77 kf_X9_25 gf_0_4 ?_
      refine mv_cV (st := []) dX9_told_80 kk_X9_125 (TX4_count_34 G d _ _ (mv_sat_bind hs)) so_34 vc_4 rfl rfl (Nat.le_of_ble_eq_true rfl) (by omega) rfl ⟨Nat.zero_le _, Nat.zero_le _⟩ (mv_ki fun r1224 hs => ?_)
      exact mv_iret dX9_told_83 rfl ⟨_, rfl, rfl, rfl, mv_sat_some hs⟩
    refine mv_case hs (fun e hs => ?_) (fun n1 hs => ?_)
    · refine mv_tsw (off := 62) 1 e dX9_told_22 (by decide) (tgt := 84) (by decide) ?_
      refine mv_aload_n dX9_told_84 rfl ?_
      refine mv_getr dX9_told_85 kf_X9_10 gf_0_0 ?_
      refine mv_getr dX9_told_88 kf_X9_64 gf_1_0 ?_
      refine mv_cV (st := []) dX9_told_91 kk_X9_241 (TX7_bits_2 G d _ _ (mv_sat_bind hs)) so_2 vc_7 rfl rfl (Nat.le_of_ble_eq_true rfl) (by omega) rfl ⟨Nat.zero_le _, Nat.zero_le _⟩ (mv_ki fun r1225 hs => ?_)
      exact mv_iret dX9_told_94 rfl ⟨_, rfl, rfl, rfl, mv_sat_some hs⟩
    refine mv_case hs (fun e hs => ?_) (fun n2 hs => ?_)
    · refine mv_tsw (off := 73) 2 e dX9_told_22 (by decide) (tgt := 95) (by decide) ?_
      refine mv_aload_n dX9_told_95 rfl ?_
      refine mv_getr dX9_told_96 kf_X9_10 gf_0_0 ?_
      refine mv_getr dX9_told_99 kf_X9_72 gf_1_1 ?_
      refine mv_cV (st := []) dX9_told_102 kk_X9_241 (TX7_bits_4 G d _ _ (mv_sat_bind hs)) so_4 vc_7 rfl rfl (Nat.le_of_ble_eq_true rfl) (by omega) rfl ⟨Nat.zero_le _, Nat.zero_le _⟩ (mv_ki fun r1226 hs => ?_)
      exact mv_iret dX9_told_105 rfl ⟨_, rfl, rfl, rfl, mv_sat_some hs⟩
    refine mv_case hs (fun e hs => ?_) (fun n3 hs => ?_)
    · refine mv_tsw (off := 84) 3 e dX9_told_22 (by decide) (tgt := 106) (by decide) ?_
      refine mv_aload_n dX9_told_106 rfl ?_
      refine mv_getr dX9_told_107 kf_X9_10 gf_0_0 ?_
      refine mv_getr dX9_told_110 kf_X9_83 gf_1_2 ?_
      refine mv_cV (st := []) dX9_told_113 kk_X9_241 (TX7_bits_6 G d _ _ (mv_sat_bind hs)) so_6 vc_7 rfl rfl (Nat.le_of_ble_eq_true rfl) (by omega) rfl ⟨Nat.zero_le _, Nat.zero_le _⟩ (mv_ki fun r1227 hs => ?_)
      exact mv_iret dX9_told_116 rfl ⟨_, rfl, rfl, rfl, mv_sat_some hs⟩
    refine mv_case hs (fun e hs => ?_) (fun n4 hs => ?_)
    · refine mv_tsw (off := 95) 4 e dX9_told_22 (by decide) (tgt := 117) (by decide) ?_
      refine mv_aload_n dX9_told_117 rfl ?_
      refine mv_getr dX9_told_118 kf_X9_10 gf_0_0 ?_
      refine mv_iconst 0 dX9_told_121 (by decide) ?_
      refine mv_cV (st := []) dX9_told_122 kk_X9_114 (TX1_setting_1 G d _ _ _ (mv_sat_bind hs)) so_1 vc_1 rfl rfl (Nat.le_of_ble_eq_true rfl) (by omega) rfl ⟨Nat.zero_le _, Nat.zero_le _⟩ (mv_ki fun r1228 hs => ?_)
      exact mv_iret dX9_told_125 rfl ⟨_, rfl, rfl, rfl, mv_sat_some hs⟩
    refine mv_case hs (fun e hs => ?_) (fun n5 hs => ?_)
    · refine mv_tsw (off := 104) 5 e dX9_told_22 (by decide) (tgt := 126) (by decide) ?_
      refine mv_aload_n dX9_told_126 rfl ?_
      refine mv_getr dX9_told_127 kf_X9_10 gf_0_0 ?_
      refine mv_iconst 1 dX9_told_130 (by decide) ?_
      refine mv_cV (st := []) dX9_told_131 kk_X9_114 (TX1_setting_1 G d _ _ _ (mv_sat_bind hs)) so_1 vc_1 rfl rfl (Nat.le_of_ble_eq_true rfl) (by omega) rfl ⟨Nat.zero_le _, Nat.zero_le _⟩ (mv_ki fun r1229 hs => ?_)
      exact mv_iret dX9_told_134 rfl ⟨_, rfl, rfl, rfl, mv_sat_some hs⟩
    refine mv_case hs (fun e hs => ?_) (fun n6 hs => ?_)
    · refine mv_tsw (off := 113) 6 e dX9_told_22 (by decide) (tgt := 135) (by decide) ?_
      refine mv_aload_n dX9_told_135 rfl ?_
      refine mv_getr dX9_told_136 kf_X9_10 gf_0_0 ?_
      refine mv_iconst 2 dX9_told_139 (by decide) ?_
      refine mv_cV (st := []) dX9_told_140 kk_X9_114 (TX1_setting_1 G d _ _ _ (mv_sat_bind hs)) so_1 vc_1 rfl rfl (Nat.le_of_ble_eq_true rfl) (by omega) rfl ⟨Nat.zero_le _, Nat.zero_le _⟩ (mv_ki fun r1230 hs => ?_)
      exact mv_iret dX9_told_143 rfl ⟨_, rfl, rfl, rfl, mv_sat_some hs⟩
    refine mv_case hs (fun e hs => ?_) (fun n7 hs => ?_)
    · refine mv_tsw (off := 122) 7 e dX9_told_22 (by decide) (tgt := 144) (by decide) ?_
      refine mv_aload_n dX9_told_144 rfl ?_
      refine mv_getr dX9_told_145 kf_X9_10 gf_0_0 ?_
      refine mv_iconst 3 dX9_told_148 (by decide) ?_
      refine mv_cV (st := []) dX9_told_149 kk_X9_114 (TX1_setting_1 G d _ _ _ (mv_sat_bind hs)) so_1 vc_1 rfl rfl (Nat.le_of_ble_eq_true rfl) (by omega) rfl ⟨Nat.zero_le _, Nat.zero_le _⟩ (mv_ki fun r1231 hs => ?_)
      exact mv_iret dX9_told_152 rfl ⟨_, rfl, rfl, rfl, mv_sat_some hs⟩
    refine mv_case hs (fun e hs => ?_) (fun n8 hs => ?_)
    · refine mv_tsw (off := 131) 8 e dX9_told_22 (by decide) (tgt := 153) (by decide) ?_
      refine mv_aload_n dX9_told_153 rfl ?_
      refine mv_getr dX9_told_154 kf_X9_10 gf_0_0 ?_
      refine mv_getr dX9_told_157 kf_X9_312 gf_1_3 ?_
      refine mv_cV (st := []) dX9_told_160 kk_X9_307 (TX2_count_8 G d _ _ (mv_sat_bind hs)) so_8 vc_2 rfl rfl (Nat.le_of_ble_eq_true rfl) (by omega) rfl ⟨Nat.zero_le _, Nat.zero_le _⟩ (mv_ki fun r1232 hs => ?_)
      exact mv_iret dX9_told_163 rfl ⟨_, rfl, rfl, rfl, mv_sat_some hs⟩
    refine mv_case hs (fun e hs => ?_) (fun n9 hs => ?_)
    · refine mv_tsw (off := 142) 9 e dX9_told_22 (by decide) (tgt := 164) (by decide) ?_
      refine mv_aload_n dX9_told_164 rfl ?_
      refine mv_getr dX9_told_165 kf_X9_10 gf_0_0 ?_
      refine mv_getr dX9_told_168 kf_X9_319 gf_1_4 ?_
      refine mv_cV (st := []) dX9_told_171 kk_X9_307 (TX2_count_10 G d _ _ (mv_sat_bind hs)) so_10 vc_2 rfl rfl (Nat.le_of_ble_eq_true rfl) (by omega) rfl ⟨Nat.zero_le _, Nat.zero_le _⟩ (mv_ki fun r1233 hs => ?_)
      exact mv_iret dX9_told_174 rfl ⟨_, rfl, rfl, rfl, mv_sat_some hs⟩
    have n0i := lv_neT (a := 0) n0 (by decide)
    have n1i := lv_neT (a := 1) n1 (by decide)
    have n2i := lv_neT (a := 2) n2 (by decide)
    have n3i := lv_neT (a := 3) n3 (by decide)
    have n4i := lv_neT (a := 4) n4 (by decide)
    have n5i := lv_neT (a := 5) n5 (by decide)
    have n6i := lv_neT (a := 6) n6 (by decide)
    have n7i := lv_neT (a := 7) n7 (by decide)
    have n8i := lv_neT (a := 8) n8 (by decide)
    have n9i := lv_neT (a := 9) n9 (by decide)
    refine mv_tswd dX9_told_22 (by omega) (tgt := 175) (by decide) ?_
    refine mv_bipush (-2) dX9_told_175 (by decide) ?_
    exact mv_iret dX9_told_177 rfl ⟨_, rfl, rfl, rfl, mv_sat_some hs⟩
  · refine mv_aload_n dX9_told_6 rfl ?_
    refine mv_iload_n dX9_told_7 rfl ?_
    refine mv_bipush 100 dX9_told_8 (by decide) ?_
    refine mv_idivk dX9_told_10 (by decide) ?_
    refine mv_iconst 1 dX9_told_11 (by decide) ?_
    refine mv_isub dX9_told_12 ?_
    refine mv_iload_n dX9_told_13 rfl ?_
    refine mv_bipush 100 dX9_told_14 (by decide) ?_
    refine mv_iremk dX9_told_16 (by decide) ?_
    refine mv_cV (st := []) dX9_told_17 kk_X9_345 (TX9_toldSide_0 G d _ _ _ _ (mv_sat_bind hs)) so_0 vc_9 rfl rfl (Nat.le_of_ble_eq_true rfl) (by omega) rfl ⟨Nat.zero_le _, Nat.zero_le _⟩ (mv_ki fun r1247 hs => ?_)
    exact mv_iret dX9_told_20 rfl ⟨_, rfl, rfl, rfl, mv_sat_some hs⟩
noncomputable def fX10_toldOf_55 (p0 : Int32) (p1 : Int32) (h : mv_H) : Option (Int32) := (fX10_in (Int32.toInt64 p1) (0 : Int64) (2 : Int64)).bind fun r1250 => if r1250 = 0 then ((fX10_in (Int32.toInt64 p1) (10 : Int64) (12 : Int64)).bind fun r1251 => if r1251 = 0 then ((fX10_in (Int32.toInt64 p1) (20 : Int64) (21 : Int64)).bind fun r1252 => if r1252 = 0 then some (-2) else (fX10_isSheet_55 p0 h).bind fun r1253 => if r1253 = 0 then some (-2) else if p1 = 20 then (if mv_in p0 6 then (some (h 58 p0.toNatClampNeg)) else none) else if mv_in p0 6 then (some (h 59 p0.toNatClampNeg)) else none) else (fX10_isThing_55 p0 h).bind fun r1254 => if r1254 = 0 then some (-2) else if mv_in (((3 * p0) + p1) - 10) 18 then (some (h 57 (((3 * p0) + p1) - 10).toNatClampNeg)) else none) else (fX10_isBox_55 p0 h).bind fun r1255 => if r1255 = 0 then some (-2) else if mv_in ((3 * p0) + p1) 18 then (some (h 56 ((3 * p0) + p1).toNatClampNeg)) else none
set_option maxRecDepth 100000 in
set_option maxHeartbeats 4000000 in
theorem TX10_toldOf_55 (G : mv_G) (d : Nat) (P : Int32 → Prop) (p0 : Int32) (p1 : Int32) (h : mv_H) (hs : mv_sat (fX10_toldOf_55 p0 p1 h) P) : mv_met G (d + 3) mX10_toldOf [.ref 55, .int p0, .int p1] mv_SH h (mv_qi mv_SH h P) := by
  unfold fX10_toldOf_55 at hs
  obtain ⟨D, hDe⟩ : ∃ D, D = d + 3 := ⟨_, rfl⟩
  rw [← hDe]
  have hD : d + 3 ≤ D := by omega
  refine mv_enter (lv := [.ref 55, .int p0, .int p1]) 0 (by decide) (by decide +kernel) rfl (Nat.le_of_ble_eq_true rfl) ?_
  refine mv_iload_n dX10_toldOf_0 rfl ?_
  refine mv_i2l dX10_toldOf_1 ?_
  refine mv_lconst 0 dX10_toldOf_2 rfl ?_
  refine mv_ldc2 dX10_toldOf_3 kn_X10_144 ?_
  refine mv_cS (st := []) dX10_toldOf_6 kk_X10_104 (TX10_in G d _ _ _ _ _ (mv_sat_bind hs)) rfl rfl (Nat.le_of_ble_eq_true rfl) (by omega) rfl ⟨Nat.zero_le _, Nat.zero_le _⟩ (mv_ki fun r1250 hs => ?_)
  refine mv_if_eq dX10_toldOf_9 hs (fun _ hs => ?_) (fun _ hs => ?_)
  · refine mv_iload_n dX10_toldOf_36 rfl ?_
    refine mv_i2l dX10_toldOf_37 ?_
    refine mv_ldc2 dX10_toldOf_38 kn_X10_361 ?_
    refine mv_ldc2 dX10_toldOf_41 kn_X10_363 ?_
    refine mv_cS (st := []) dX10_toldOf_44 kk_X10_104 (TX10_in G d _ _ _ _ _ (mv_sat_bind hs)) rfl rfl (Nat.le_of_ble_eq_true rfl) (by omega) rfl ⟨Nat.zero_le _, Nat.zero_le _⟩ (mv_ki fun r1251 hs => ?_)
    refine mv_if_eq dX10_toldOf_47 hs (fun _ hs => ?_) (fun _ hs => ?_)
    · refine mv_iload_n dX10_toldOf_77 rfl ?_
      refine mv_i2l dX10_toldOf_78 ?_
      refine mv_ldc2 dX10_toldOf_79 kn_X10_121 ?_
      refine mv_ldc2 dX10_toldOf_82 kn_X10_365 ?_
      refine mv_cS (st := []) dX10_toldOf_85 kk_X10_104 (TX10_in G d _ _ _ _ _ (mv_sat_bind hs)) rfl rfl (Nat.le_of_ble_eq_true rfl) (by omega) rfl ⟨Nat.zero_le _, Nat.zero_le _⟩ (mv_ki fun r1252 hs => ?_)
      refine mv_if_eq dX10_toldOf_88 hs (fun _ hs => ?_) (fun _ hs => ?_)
      · refine mv_bipush (-2) dX10_toldOf_126 (by decide) ?_
        exact mv_iret dX10_toldOf_128 rfl ⟨_, rfl, rfl, rfl, mv_sat_some hs⟩
      · refine mv_aload_n dX10_toldOf_91 rfl ?_
        refine mv_iload_n dX10_toldOf_92 rfl ?_
        refine mv_cV (st := []) dX10_toldOf_93 kk_X10_152 (TX10_isSheet_55 G d _ _ _ (mv_sat_bind hs)) so_55 vc_10 rfl rfl (Nat.le_of_ble_eq_true rfl) (by omega) rfl ⟨Nat.zero_le _, Nat.zero_le _⟩ (mv_ki fun r1253 hs => ?_)
        refine mv_if_eq dX10_toldOf_96 hs (fun _ hs => ?_) (fun _ hs => ?_)
        · refine mv_bipush (-2) dX10_toldOf_123 (by decide) ?_
          exact mv_iret dX10_toldOf_125 rfl ⟨_, rfl, rfl, rfl, mv_sat_some hs⟩
        · refine mv_iload_n dX10_toldOf_99 rfl ?_
          refine mv_bipush 20 dX10_toldOf_100 (by decide) ?_
          refine mv_icmp_ne dX10_toldOf_102 hs (fun _ hs => ?_) (fun _ hs => ?_)
          · refine mv_aload_n dX10_toldOf_105 rfl ?_
            refine mv_getr dX10_toldOf_106 kf_X10_16 gf_55_5 ?_
            refine mv_iload_n dX10_toldOf_109 rfl ?_
            refine mv_iaload dX10_toldOf_110 so_58 hs (fun hs => ?_)
            refine mv_goto dX10_toldOf_111 ?_
            exact mv_iret dX10_toldOf_125 rfl ⟨_, rfl, rfl, rfl, mv_sat_some hs⟩
          · refine mv_aload_n dX10_toldOf_114 rfl ?_
            refine mv_getr dX10_toldOf_115 kf_X10_19 gf_55_6 ?_
            refine mv_iload_n dX10_toldOf_118 rfl ?_
            refine mv_iaload dX10_toldOf_119 so_59 hs (fun hs => ?_)
            refine mv_goto dX10_toldOf_120 ?_
            exact mv_iret dX10_toldOf_125 rfl ⟨_, rfl, rfl, rfl, mv_sat_some hs⟩
    · refine mv_aload_n dX10_toldOf_50 rfl ?_
      refine mv_iload_n dX10_toldOf_51 rfl ?_
      refine mv_cV (st := []) dX10_toldOf_52 kk_X10_149 (TX10_isThing_55 G d _ _ _ (mv_sat_bind hs)) so_55 vc_10 rfl rfl (Nat.le_of_ble_eq_true rfl) (by omega) rfl ⟨Nat.zero_le _, Nat.zero_le _⟩ (mv_ki fun r1254 hs => ?_)
      refine mv_if_eq dX10_toldOf_55 hs (fun _ hs => ?_) (fun _ hs => ?_)
      · refine mv_bipush (-2) dX10_toldOf_74 (by decide) ?_
        exact mv_iret dX10_toldOf_76 rfl ⟨_, rfl, rfl, rfl, mv_sat_some hs⟩
      · refine mv_aload_n dX10_toldOf_58 rfl ?_
        refine mv_getr dX10_toldOf_59 kf_X10_13 gf_55_4 ?_
        refine mv_iconst 3 dX10_toldOf_62 (by decide) ?_
        refine mv_iload_n dX10_toldOf_63 rfl ?_
        refine mv_imul dX10_toldOf_64 ?_
        refine mv_iload_n dX10_toldOf_65 rfl ?_
        refine mv_iadd dX10_toldOf_66 ?_
        refine mv_bipush 10 dX10_toldOf_67 (by decide) ?_
        refine mv_isub dX10_toldOf_69 ?_
        refine mv_iaload dX10_toldOf_70 so_57 hs (fun hs => ?_)
        refine mv_goto dX10_toldOf_71 ?_
        exact mv_iret dX10_toldOf_76 rfl ⟨_, rfl, rfl, rfl, mv_sat_some hs⟩
  · refine mv_aload_n dX10_toldOf_12 rfl ?_
    refine mv_iload_n dX10_toldOf_13 rfl ?_
    refine mv_cV (st := []) dX10_toldOf_14 kk_X10_146 (TX10_isBox_55 G d _ _ _ (mv_sat_bind hs)) so_55 vc_10 rfl rfl (Nat.le_of_ble_eq_true rfl) (by omega) rfl ⟨Nat.zero_le _, Nat.zero_le _⟩ (mv_ki fun r1255 hs => ?_)
    refine mv_if_eq dX10_toldOf_17 hs (fun _ hs => ?_) (fun _ hs => ?_)
    · refine mv_bipush (-2) dX10_toldOf_33 (by decide) ?_
      exact mv_iret dX10_toldOf_35 rfl ⟨_, rfl, rfl, rfl, mv_sat_some hs⟩
    · refine mv_aload_n dX10_toldOf_20 rfl ?_
      refine mv_getr dX10_toldOf_21 kf_X10_7 gf_55_3 ?_
      refine mv_iconst 3 dX10_toldOf_24 (by decide) ?_
      refine mv_iload_n dX10_toldOf_25 rfl ?_
      refine mv_imul dX10_toldOf_26 ?_
      refine mv_iload_n dX10_toldOf_27 rfl ?_
      refine mv_iadd dX10_toldOf_28 ?_
      refine mv_iaload dX10_toldOf_29 so_56 hs (fun hs => ?_)
      refine mv_goto dX10_toldOf_30 ?_
      exact mv_iret dX10_toldOf_35 rfl ⟨_, rfl, rfl, rfl, mv_sat_some hs⟩
noncomputable def fX10_told_55 (p0 : Int32) (h : mv_H) : Option (Int32) := (fX10_in (Int32.toInt64 p0) (100 : Int64) (699 : Int64)).bind fun r1249 => if r1249 = 0 then (if p0 = 0 then (some (h 55 16)) else if p0 = 1 then (some (h 55 0)) else if p0 = 2 then (some (h 55 1)) else if p0 = 3 then (some (h 55 2)) else if p0 = 4 then (some (h 55 7)) else if p0 = 5 then (some (h 55 8)) else if p0 = 6 then (some (h 55 9)) else if p0 = 7 then (some (h 55 10)) else if p0 = 8 then (some (h 55 12)) else if p0 = 9 then (some (h 55 14)) else some (-2)) else (fX10_toldOf_55 ((p0 / 100) - 1) (p0 - p0 / 100 * 100) h).bind fun r1256 => some r1256
set_option maxRecDepth 100000 in
set_option maxHeartbeats 4000000 in
theorem TX10_told_55 (G : mv_G) (d : Nat) (P : Int32 → Prop) (p0 : Int32) (h : mv_H) (hs : mv_sat (fX10_told_55 p0 h) P) : mv_met G (d + 4) mX10_told [.ref 55, .int p0] mv_SH h (mv_qi mv_SH h P) := by
  unfold fX10_told_55 at hs
  obtain ⟨D, hDe⟩ : ∃ D, D = d + 4 := ⟨_, rfl⟩
  rw [← hDe]
  have hD : d + 4 ≤ D := by omega
  refine mv_enter (lv := [.ref 55, .int p0]) 0 (by decide) (by decide +kernel) rfl (Nat.le_of_ble_eq_true rfl) ?_
  refine mv_iload_n dX10_told_0 rfl ?_
  refine mv_i2l dX10_told_1 ?_
  refine mv_ldc2 dX10_told_2 kn_X10_367 ?_
  refine mv_ldc2 dX10_told_5 kn_X10_369 ?_
  refine mv_cS (st := []) dX10_told_8 kk_X10_104 (TX10_in G d _ _ _ _ _ (mv_sat_bind hs)) rfl rfl (Nat.le_of_ble_eq_true rfl) (by omega) rfl ⟨Nat.zero_le _, Nat.zero_le _⟩ (mv_ki fun r1249 hs => ?_)
  refine mv_if_eq dX10_told_11 hs (fun _ hs => ?_) (fun _ hs => ?_)
  · refine mv_iload_n dX10_told_29 rfl ?_
    refine mv_case hs (fun e hs => ?_) (fun n0 hs => ?_)
    · refine mv_tsw (off := 54) 0 e dX10_told_30 (by decide) (tgt := 84) (by decide) ?_
      refine mv_aload_n dX10_told_84 rfl ?_
      refine mv_geti dX10_told_85 kf_X10_164 gf_55_16 ?_
      exact mv_iret dX10_told_88 rfl ⟨_, rfl, rfl, rfl, mv_sat_some hs⟩
    refine mv_case hs (fun e hs => ?_) (fun n1 hs => ?_)
    · refine mv_tsw (off := 59) 1 e dX10_told_30 (by decide) (tgt := 89) (by decide) ?_
      refine mv_aload_n dX10_told_89 rfl ?_
      refine mv_geti dX10_told_90 kf_X10_112 gf_55_0 ?_
      exact mv_iret dX10_told_93 rfl ⟨_, rfl, rfl, rfl, mv_sat_some hs⟩
    refine mv_case hs (fun e hs => ?_) (fun n2 hs => ?_)
    · refine mv_tsw (off := 64) 2 e dX10_told_30 (by decide) (tgt := 94) (by decide) ?_
      refine mv_aload_n dX10_told_94 rfl ?_
      refine mv_geti dX10_told_95 kf_X10_115 gf_55_1 ?_
      exact mv_iret dX10_told_98 rfl ⟨_, rfl, rfl, rfl, mv_sat_some hs⟩
    refine mv_case hs (fun e hs => ?_) (fun n3 hs => ?_)
    · refine mv_tsw (off := 69) 3 e dX10_told_30 (by decide) (tgt := 99) (by decide) ?_
      refine mv_aload_n dX10_told_99 rfl ?_
      refine mv_geti dX10_told_100 kf_X10_118 gf_55_2 ?_
      exact mv_iret dX10_told_103 rfl ⟨_, rfl, rfl, rfl, mv_sat_some hs⟩
    refine mv_case hs (fun e hs => ?_) (fun n4 hs => ?_)
    · refine mv_tsw (off := 74) 4 e dX10_told_30 (by decide) (tgt := 104) (by decide) ?_
      refine mv_aload_n dX10_told_104 rfl ?_
      refine mv_geti dX10_told_105 kf_X10_92 gf_55_7 ?_
      exact mv_iret dX10_told_108 rfl ⟨_, rfl, rfl, rfl, mv_sat_some hs⟩
    refine mv_case hs (fun e hs => ?_) (fun n5 hs => ?_)
    · refine mv_tsw (off := 79) 5 e dX10_told_30 (by decide) (tgt := 109) (by decide) ?_
      refine mv_aload_n dX10_told_109 rfl ?_
      refine mv_geti dX10_told_110 kf_X10_157 gf_55_8 ?_
      exact mv_iret dX10_told_113 rfl ⟨_, rfl, rfl, rfl, mv_sat_some hs⟩
    refine mv_case hs (fun e hs => ?_) (fun n6 hs => ?_)
    · refine mv_tsw (off := 84) 6 e dX10_told_30 (by decide) (tgt := 114) (by decide) ?_
      refine mv_aload_n dX10_told_114 rfl ?_
      refine mv_geti dX10_told_115 kf_X10_96 gf_55_9 ?_
      exact mv_iret dX10_told_118 rfl ⟨_, rfl, rfl, rfl, mv_sat_some hs⟩
    refine mv_case hs (fun e hs => ?_) (fun n7 hs => ?_)
    · refine mv_tsw (off := 89) 7 e dX10_told_30 (by decide) (tgt := 119) (by decide) ?_
      refine mv_aload_n dX10_told_119 rfl ?_
      refine mv_geti dX10_told_120 kf_X10_99 gf_55_10 ?_
      exact mv_iret dX10_told_123 rfl ⟨_, rfl, rfl, rfl, mv_sat_some hs⟩
    refine mv_case hs (fun e hs => ?_) (fun n8 hs => ?_)
    · refine mv_tsw (off := 94) 8 e dX10_told_30 (by decide) (tgt := 124) (by decide) ?_
      refine mv_aload_n dX10_told_124 rfl ?_
      refine mv_geti dX10_told_125 kf_X10_327 gf_55_12 ?_
      exact mv_iret dX10_told_128 rfl ⟨_, rfl, rfl, rfl, mv_sat_some hs⟩
    refine mv_case hs (fun e hs => ?_) (fun n9 hs => ?_)
    · refine mv_tsw (off := 99) 9 e dX10_told_30 (by decide) (tgt := 129) (by decide) ?_
      refine mv_aload_n dX10_told_129 rfl ?_
      refine mv_geti dX10_told_130 kf_X10_330 gf_55_14 ?_
      exact mv_iret dX10_told_133 rfl ⟨_, rfl, rfl, rfl, mv_sat_some hs⟩
    have n0i := lv_neT (a := 0) n0 (by decide)
    have n1i := lv_neT (a := 1) n1 (by decide)
    have n2i := lv_neT (a := 2) n2 (by decide)
    have n3i := lv_neT (a := 3) n3 (by decide)
    have n4i := lv_neT (a := 4) n4 (by decide)
    have n5i := lv_neT (a := 5) n5 (by decide)
    have n6i := lv_neT (a := 6) n6 (by decide)
    have n7i := lv_neT (a := 7) n7 (by decide)
    have n8i := lv_neT (a := 8) n8 (by decide)
    have n9i := lv_neT (a := 9) n9 (by decide)
    refine mv_tswd dX10_told_30 (by omega) (tgt := 134) (by decide) ?_
    refine mv_bipush (-2) dX10_told_134 (by decide) ?_
    exact mv_iret dX10_told_136 rfl ⟨_, rfl, rfl, rfl, mv_sat_some hs⟩
  · refine mv_aload_n dX10_told_14 rfl ?_
    refine mv_iload_n dX10_told_15 rfl ?_
    refine mv_bipush 100 dX10_told_16 (by decide) ?_
    refine mv_idivk dX10_told_18 (by decide) ?_
    refine mv_iconst 1 dX10_told_19 (by decide) ?_
    refine mv_isub dX10_told_20 ?_
    refine mv_iload_n dX10_told_21 rfl ?_
    refine mv_bipush 100 dX10_told_22 (by decide) ?_
    refine mv_iremk dX10_told_24 (by decide) ?_
    refine mv_cV (st := []) dX10_told_25 kk_X10_371 (TX10_toldOf_55 G d _ _ _ _ (mv_sat_bind hs)) so_55 vc_10 rfl rfl (Nat.le_of_ble_eq_true rfl) (by omega) rfl ⟨Nat.zero_le _, Nat.zero_le _⟩ (mv_ki fun r1256 hs => ?_)
    exact mv_iret dX10_told_28 rfl ⟨_, rfl, rfl, rfl, mv_sat_some hs⟩
