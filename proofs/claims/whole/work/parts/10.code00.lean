/-! printed by program: what a method does, as a function, and that it does it -/
noncomputable def fX7_init_at2 (p0 : Int32) (h : mv_H) : Option (mv_H) := mv_let (mv_z h 3) fun h4 : mv_H => mv_let (mv_u h4 2 0 p0) fun h5 : mv_H => some h5
set_option maxRecDepth 100000 in
set_option maxHeartbeats 4000000 in
theorem TX7_init_at2 (G : mv_G) (d : Nat) (P : mv_H → Prop) (p0 : Int32) (h : mv_H) (hs : mv_sat (fX7_init_at2 p0 h) P) : mv_met G (d + 1) mX7_init [.ref 2, .int p0] sh_3 h (mv_qv sh_5 P) := by
  unfold fX7_init_at2 at hs
  obtain ⟨D, hDe⟩ : ∃ D, D = d + 1 := ⟨_, rfl⟩
  rw [← hDe]
  have hD : d + 1 ≤ D := by omega
  refine mv_enter (lv := [.ref 2, .int p0]) 0 (by decide) (by decide +kernel) rfl (Nat.le_of_ble_eq_true rfl) ?_
  refine mv_aload_n dX7_init_0 rfl ?_
  refine mv_objInit dX7_init_1 (mv_t1 33 rfl rfl) (mv_t1 20 rfl rfl) (mv_t1 21 rfl rfl) (Nat.le_of_ble_eq_true rfl) ⟨by show 1 ≤ D; omega, by show 64 ≤ 64 * D; omega⟩ ?_
  refine mv_aload_n dX7_init_4 rfl ?_
  refine mv_bipush 18 dX7_init_5 (by decide) ?_
  refine mv_newa (N := 18) (o := 3) (sh' := sh_4) (c' := 1) (s' := 18) dX7_init_7 (mv_t1 44 rfl rfl) (by decide) (by decide) (by decide) (by decide +kernel) (by decide) (by decide +kernel) rfl rfl ⟨Nat.le_of_ble_eq_true rfl, Nat.le_of_ble_eq_true rfl⟩ ?_
  refine mv_nameH hs (fun h4 hs => ?_)
  refine mv_putr (fl := [none, some none, none]) (sh' := sh_5) dX7_init_9 kf_X7_9 (fun _ => ⟨rfl, by decide +kernel⟩) (by decide +kernel) (by decide) (Or.inr ⟨_, rfl⟩) rfl ?_
  refine mv_aload_n dX7_init_12 rfl ?_
  refine mv_iload_n dX7_init_13 rfl ?_
  refine mv_puti dX7_init_14 kf_X7_15 (fun _ => ⟨rfl, by decide +kernel⟩) (show mv_gf sh_5 2 7 0 none from ⟨_, rfl, rfl⟩) ?_
  refine mv_nameH hs (fun h5 hs => ?_)
  exact mv_vret dX7_init_17 rfl ⟨_, rfl, rfl, rfl, mv_sat_some hs⟩
noncomputable def fX7_init_at4 (p0 : Int32) (h : mv_H) : Option (mv_H) := mv_let (mv_z h 5) fun h8 : mv_H => mv_let (mv_u h8 4 0 p0) fun h9 : mv_H => some h9
set_option maxRecDepth 100000 in
set_option maxHeartbeats 4000000 in
theorem TX7_init_at4 (G : mv_G) (d : Nat) (P : mv_H → Prop) (p0 : Int32) (h : mv_H) (hs : mv_sat (fX7_init_at4 p0 h) P) : mv_met G (d + 1) mX7_init [.ref 4, .int p0] sh_7 h (mv_qv sh_9 P) := by
  unfold fX7_init_at4 at hs
  obtain ⟨D, hDe⟩ : ∃ D, D = d + 1 := ⟨_, rfl⟩
  rw [← hDe]
  have hD : d + 1 ≤ D := by omega
  refine mv_enter (lv := [.ref 4, .int p0]) 0 (by decide) (by decide +kernel) rfl (Nat.le_of_ble_eq_true rfl) ?_
  refine mv_aload_n dX7_init_0 rfl ?_
  refine mv_objInit dX7_init_1 (mv_t1 33 rfl rfl) (mv_t1 20 rfl rfl) (mv_t1 21 rfl rfl) (Nat.le_of_ble_eq_true rfl) ⟨by show 1 ≤ D; omega, by show 64 ≤ 64 * D; omega⟩ ?_
  refine mv_aload_n dX7_init_4 rfl ?_
  refine mv_bipush 18 dX7_init_5 (by decide) ?_
  refine mv_newa (N := 18) (o := 5) (sh' := sh_8) (c' := 1) (s' := 18) dX7_init_7 (mv_t1 44 rfl rfl) (by decide) (by decide) (by decide) (by decide +kernel) (by decide) (by decide +kernel) rfl rfl ⟨Nat.le_of_ble_eq_true rfl, Nat.le_of_ble_eq_true rfl⟩ ?_
  refine mv_nameH hs (fun h8 hs => ?_)
  refine mv_putr (fl := [none, some none, none]) (sh' := sh_9) dX7_init_9 kf_X7_9 (fun _ => ⟨rfl, by decide +kernel⟩) (by decide +kernel) (by decide) (Or.inr ⟨_, rfl⟩) rfl ?_
  refine mv_aload_n dX7_init_12 rfl ?_
  refine mv_iload_n dX7_init_13 rfl ?_
  refine mv_puti dX7_init_14 kf_X7_15 (fun _ => ⟨rfl, by decide +kernel⟩) (show mv_gf sh_9 4 7 0 none from ⟨_, rfl, rfl⟩) ?_
  refine mv_nameH hs (fun h9 hs => ?_)
  exact mv_vret dX7_init_17 rfl ⟨_, rfl, rfl, rfl, mv_sat_some hs⟩
noncomputable def fX7_init_at6 (p0 : Int32) (h : mv_H) : Option (mv_H) := mv_let (mv_z h 7) fun h12 : mv_H => mv_let (mv_u h12 6 0 p0) fun h13 : mv_H => some h13
set_option maxRecDepth 100000 in
set_option maxHeartbeats 4000000 in
theorem TX7_init_at6 (G : mv_G) (d : Nat) (P : mv_H → Prop) (p0 : Int32) (h : mv_H) (hs : mv_sat (fX7_init_at6 p0 h) P) : mv_met G (d + 1) mX7_init [.ref 6, .int p0] sh_11 h (mv_qv sh_13 P) := by
  unfold fX7_init_at6 at hs
  obtain ⟨D, hDe⟩ : ∃ D, D = d + 1 := ⟨_, rfl⟩
  rw [← hDe]
  have hD : d + 1 ≤ D := by omega
  refine mv_enter (lv := [.ref 6, .int p0]) 0 (by decide) (by decide +kernel) rfl (Nat.le_of_ble_eq_true rfl) ?_
  refine mv_aload_n dX7_init_0 rfl ?_
  refine mv_objInit dX7_init_1 (mv_t1 33 rfl rfl) (mv_t1 20 rfl rfl) (mv_t1 21 rfl rfl) (Nat.le_of_ble_eq_true rfl) ⟨by show 1 ≤ D; omega, by show 64 ≤ 64 * D; omega⟩ ?_
  refine mv_aload_n dX7_init_4 rfl ?_
  refine mv_bipush 18 dX7_init_5 (by decide) ?_
  refine mv_newa (N := 18) (o := 7) (sh' := sh_12) (c' := 1) (s' := 18) dX7_init_7 (mv_t1 44 rfl rfl) (by decide) (by decide) (by decide) (by decide +kernel) (by decide) (by decide +kernel) rfl rfl ⟨Nat.le_of_ble_eq_true rfl, Nat.le_of_ble_eq_true rfl⟩ ?_
  refine mv_nameH hs (fun h12 hs => ?_)
  refine mv_putr (fl := [none, some none, none]) (sh' := sh_13) dX7_init_9 kf_X7_9 (fun _ => ⟨rfl, by decide +kernel⟩) (by decide +kernel) (by decide) (Or.inr ⟨_, rfl⟩) rfl ?_
  refine mv_aload_n dX7_init_12 rfl ?_
  refine mv_iload_n dX7_init_13 rfl ?_
  refine mv_puti dX7_init_14 kf_X7_15 (fun _ => ⟨rfl, by decide +kernel⟩) (show mv_gf sh_13 6 7 0 none from ⟨_, rfl, rfl⟩) ?_
  refine mv_nameH hs (fun h13 hs => ?_)
  exact mv_vret dX7_init_17 rfl ⟨_, rfl, rfl, rfl, mv_sat_some hs⟩
noncomputable def fX2_init_at8 (p0 : Int32) (h : mv_H) : Option (mv_H) := mv_let (mv_z h 9) fun h16 : mv_H => mv_let (mv_u h16 8 0 p0) fun h17 : mv_H => some h17
set_option maxRecDepth 100000 in
set_option maxHeartbeats 4000000 in
theorem TX2_init_at8 (G : mv_G) (d : Nat) (P : mv_H → Prop) (p0 : Int32) (h : mv_H) (hs : mv_sat (fX2_init_at8 p0 h) P) : mv_met G (d + 1) mX2_init [.ref 8, .int p0] sh_15 h (mv_qv sh_17 P) := by
  unfold fX2_init_at8 at hs
  obtain ⟨D, hDe⟩ : ∃ D, D = d + 1 := ⟨_, rfl⟩
  rw [← hDe]
  have hD : d + 1 ≤ D := by omega
  refine mv_enter (lv := [.ref 8, .int p0]) 0 (by decide) (by decide +kernel) rfl (Nat.le_of_ble_eq_true rfl) ?_
  refine mv_aload_n dX2_init_0 rfl ?_
  refine mv_objInit dX2_init_1 (mv_t1 50 rfl rfl) (mv_t1 20 rfl rfl) (mv_t1 21 rfl rfl) (Nat.le_of_ble_eq_true rfl) ⟨by show 1 ≤ D; omega, by show 64 ≤ 64 * D; omega⟩ ?_
  refine mv_aload_n dX2_init_4 rfl ?_
  refine mv_bipush 6 dX2_init_5 (by decide) ?_
  refine mv_newa (N := 6) (o := 9) (sh' := sh_16) (c' := 1) (s' := 6) dX2_init_7 (mv_t1 44 rfl rfl) (by decide) (by decide) (by decide) (by decide +kernel) (by decide) (by decide +kernel) rfl rfl ⟨Nat.le_of_ble_eq_true rfl, Nat.le_of_ble_eq_true rfl⟩ ?_
  refine mv_nameH hs (fun h16 hs => ?_)
  refine mv_putr (fl := [none, some none, none]) (sh' := sh_17) dX2_init_9 kf_X2_9 (fun _ => ⟨rfl, by decide +kernel⟩) (by decide +kernel) (by decide) (Or.inr ⟨_, rfl⟩) rfl ?_
  refine mv_aload_n dX2_init_12 rfl ?_
  refine mv_iload_n dX2_init_13 rfl ?_
  refine mv_puti dX2_init_14 kf_X2_13 (fun _ => ⟨rfl, by decide +kernel⟩) (show mv_gf sh_17 8 2 0 none from ⟨_, rfl, rfl⟩) ?_
  refine mv_nameH hs (fun h17 hs => ?_)
  exact mv_vret dX2_init_17 rfl ⟨_, rfl, rfl, rfl, mv_sat_some hs⟩
noncomputable def fX2_init_at10 (p0 : Int32) (h : mv_H) : Option (mv_H) := mv_let (mv_z h 11) fun h20 : mv_H => mv_let (mv_u h20 10 0 p0) fun h21 : mv_H => some h21
set_option maxRecDepth 100000 in
set_option maxHeartbeats 4000000 in
theorem TX2_init_at10 (G : mv_G) (d : Nat) (P : mv_H → Prop) (p0 : Int32) (h : mv_H) (hs : mv_sat (fX2_init_at10 p0 h) P) : mv_met G (d + 1) mX2_init [.ref 10, .int p0] sh_19 h (mv_qv sh_21 P) := by
  unfold fX2_init_at10 at hs
  obtain ⟨D, hDe⟩ : ∃ D, D = d + 1 := ⟨_, rfl⟩
  rw [← hDe]
  have hD : d + 1 ≤ D := by omega
  refine mv_enter (lv := [.ref 10, .int p0]) 0 (by decide) (by decide +kernel) rfl (Nat.le_of_ble_eq_true rfl) ?_
  refine mv_aload_n dX2_init_0 rfl ?_
  refine mv_objInit dX2_init_1 (mv_t1 50 rfl rfl) (mv_t1 20 rfl rfl) (mv_t1 21 rfl rfl) (Nat.le_of_ble_eq_true rfl) ⟨by show 1 ≤ D; omega, by show 64 ≤ 64 * D; omega⟩ ?_
  refine mv_aload_n dX2_init_4 rfl ?_
  refine mv_bipush 6 dX2_init_5 (by decide) ?_
  refine mv_newa (N := 6) (o := 11) (sh' := sh_20) (c' := 1) (s' := 6) dX2_init_7 (mv_t1 44 rfl rfl) (by decide) (by decide) (by decide) (by decide +kernel) (by decide) (by decide +kernel) rfl rfl ⟨Nat.le_of_ble_eq_true rfl, Nat.le_of_ble_eq_true rfl⟩ ?_
  refine mv_nameH hs (fun h20 hs => ?_)
  refine mv_putr (fl := [none, some none, none]) (sh' := sh_21) dX2_init_9 kf_X2_9 (fun _ => ⟨rfl, by decide +kernel⟩) (by decide +kernel) (by decide) (Or.inr ⟨_, rfl⟩) rfl ?_
  refine mv_aload_n dX2_init_12 rfl ?_
  refine mv_iload_n dX2_init_13 rfl ?_
  refine mv_puti dX2_init_14 kf_X2_13 (fun _ => ⟨rfl, by decide +kernel⟩) (show mv_gf sh_21 10 2 0 none from ⟨_, rfl, rfl⟩) ?_
  refine mv_nameH hs (fun h21 hs => ?_)
  exact mv_vret dX2_init_17 rfl ⟨_, rfl, rfl, rfl, mv_sat_some hs⟩
noncomputable def fX1_init_at1 (h : mv_H) : Option (mv_H) := mv_let (mv_z h 2) fun h3 : mv_H => (fX7_init_at2 (3 : Int32) h3).bind fun r6 => mv_let (mv_z r6 4) fun h7 : mv_H => (fX7_init_at4 (3 : Int32) h7).bind fun r10 => mv_let (mv_z r10 6) fun h11 : mv_H => (fX7_init_at6 (2 : Int32) h11).bind fun r14 => mv_let (mv_z r14 8) fun h15 : mv_H => (fX2_init_at8 (150 : Int32) h15).bind fun r18 => mv_let (mv_z r18 10) fun h19 : mv_H => (fX2_init_at10 (90 : Int32) h19).bind fun r22 => mv_let (mv_u r22 1 5 1) fun h23 : mv_H => mv_let (mv_u h23 1 6 0) fun h24 : mv_H => mv_let (mv_u h24 1 7 1) fun h25 : mv_H => mv_let (mv_u h25 1 8 10) fun h26 : mv_H => some h26
set_option maxRecDepth 100000 in
set_option maxHeartbeats 4000000 in
theorem TX1_init_at1 (G : mv_G) (d : Nat) (P : mv_H → Prop) (h : mv_H) (hs : mv_sat (fX1_init_at1 h) P) : mv_met G (d + 2) mX1_init [.ref 1] sh_2 h (mv_qv sh_22 P) := by
  unfold fX1_init_at1 at hs
  obtain ⟨D, hDe⟩ : ∃ D, D = d + 2 := ⟨_, rfl⟩
  rw [← hDe]
  have hD : d + 2 ≤ D := by omega
  refine mv_enter (lv := [.ref 1]) 0 (by decide) (by decide +kernel) rfl (Nat.le_of_ble_eq_true rfl) ?_
  refine mv_aload_n dX1_init_0 rfl ?_
  refine mv_objInit dX1_init_1 (mv_t1 27 rfl rfl) (mv_t1 20 rfl rfl) (mv_t1 21 rfl rfl) (Nat.le_of_ble_eq_true rfl) ⟨by show 1 ≤ D; omega, by show 64 ≤ 64 * D; omega⟩ ?_
  refine mv_aload_n dX1_init_4 rfl ?_
  refine mv_new (o := 2) (sh' := sh_3) (c' := 1) (s' := 3) dX1_init_5 kc_7 (mv_t1 28 rfl rfl) (mv_t1 29 rfl rfl) (mv_t1 3 rfl rfl) (by decide) (by decide +kernel) (by decide) (by decide +kernel) rfl rfl ⟨Nat.le_of_ble_eq_true rfl, Nat.le_of_ble_eq_true rfl⟩ ?_
  refine mv_nameH hs (fun h3 hs => ?_)
  refine mv_dup dX1_init_8 rfl ?_
  refine mv_iconst 3 dX1_init_9 (by decide) ?_
  refine mv_cI' (st := [.ref 2, .ref 1]) (c' := 2) (s' := 21) dX1_init_10 kk_X1_11 rfl (TX7_init_at2 G d _ _ _ (mv_sat_bind hs)) rfl rfl (Nat.le_of_ble_eq_true rfl) (by omega) rfl rfl ⟨Nat.le_of_ble_eq_true rfl, Nat.le_of_ble_eq_true rfl⟩ (mv_kv fun r6 hs => ?_)
  refine mv_putr (fl := [some none, some none, some none, some none, some none, none, none, none, none]) (sh' := sh_6) dX1_init_13 kf_X1_14 (fun _ => ⟨rfl, by decide +kernel⟩) (by decide +kernel) (by decide) (Or.inl ⟨_, rfl⟩) rfl ?_
  refine mv_aload_n dX1_init_16 rfl ?_
  refine mv_new (o := 4) (sh' := sh_7) (c' := 3) (s' := 24) dX1_init_17 kc_7 (mv_t1 28 rfl rfl) (mv_t1 29 rfl rfl) (mv_t1 3 rfl rfl) (by decide) (by decide +kernel) (by decide) (by decide +kernel) rfl rfl ⟨Nat.le_of_ble_eq_true rfl, Nat.le_of_ble_eq_true rfl⟩ ?_
  refine mv_nameH hs (fun h7 hs => ?_)
  refine mv_dup dX1_init_20 rfl ?_
  refine mv_iconst 3 dX1_init_21 (by decide) ?_
  refine mv_cI' (st := [.ref 4, .ref 1]) (c' := 4) (s' := 42) dX1_init_22 kk_X1_11 rfl (TX7_init_at4 G d _ _ _ (mv_sat_bind hs)) rfl rfl (Nat.le_of_ble_eq_true rfl) (by omega) rfl rfl ⟨Nat.le_of_ble_eq_true rfl, Nat.le_of_ble_eq_true rfl⟩ (mv_kv fun r10 hs => ?_)
  refine mv_putr (fl := [some (some 2), some none, some none, some none, some none, none, none, none, none]) (sh' := sh_10) dX1_init_25 kf_X1_20 (fun _ => ⟨rfl, by decide +kernel⟩) (by decide +kernel) (by decide) (Or.inl ⟨_, rfl⟩) rfl ?_
  refine mv_aload_n dX1_init_28 rfl ?_
  refine mv_new (o := 6) (sh' := sh_11) (c' := 5) (s' := 45) dX1_init_29 kc_7 (mv_t1 28 rfl rfl) (mv_t1 29 rfl rfl) (mv_t1 3 rfl rfl) (by decide) (by decide +kernel) (by decide) (by decide +kernel) rfl rfl ⟨Nat.le_of_ble_eq_true rfl, Nat.le_of_ble_eq_true rfl⟩ ?_
  refine mv_nameH hs (fun h11 hs => ?_)
  refine mv_dup dX1_init_32 rfl ?_
  refine mv_iconst 2 dX1_init_33 (by decide) ?_
  refine mv_cI' (st := [.ref 6, .ref 1]) (c' := 6) (s' := 63) dX1_init_34 kk_X1_11 rfl (TX7_init_at6 G d _ _ _ (mv_sat_bind hs)) rfl rfl (Nat.le_of_ble_eq_true rfl) (by omega) rfl rfl ⟨Nat.le_of_ble_eq_true rfl, Nat.le_of_ble_eq_true rfl⟩ (mv_kv fun r14 hs => ?_)
  refine mv_putr (fl := [some (some 2), some (some 4), some none, some none, some none, none, none, none, none]) (sh' := sh_14) dX1_init_37 kf_X1_23 (fun _ => ⟨rfl, by decide +kernel⟩) (by decide +kernel) (by decide) (Or.inl ⟨_, rfl⟩) rfl ?_
  refine mv_aload_n dX1_init_40 rfl ?_
  refine mv_new (o := 8) (sh' := sh_15) (c' := 7) (s' := 66) dX1_init_41 kc_2 (mv_t1 45 rfl rfl) (mv_t1 46 rfl rfl) (mv_t1 4 rfl rfl) (by decide) (by decide +kernel) (by decide) (by decide +kernel) rfl rfl ⟨Nat.le_of_ble_eq_true rfl, Nat.le_of_ble_eq_true rfl⟩ ?_
  refine mv_nameH hs (fun h15 hs => ?_)
  refine mv_dup dX1_init_44 rfl ?_
  refine mv_sipush 150 dX1_init_45 (by decide) ?_
  refine mv_cI' (st := [.ref 8, .ref 1]) (c' := 8) (s' := 72) dX1_init_48 kk_X1_28 rfl (TX2_init_at8 G d _ _ _ (mv_sat_bind hs)) rfl rfl (Nat.le_of_ble_eq_true rfl) (by omega) rfl rfl ⟨Nat.le_of_ble_eq_true rfl, Nat.le_of_ble_eq_true rfl⟩ (mv_kv fun r18 hs => ?_)
  refine mv_putr (fl := [some (some 2), some (some 4), some (some 6), some none, some none, none, none, none, none]) (sh' := sh_18) dX1_init_51 kf_X1_29 (fun _ => ⟨rfl, by decide +kernel⟩) (by decide +kernel) (by decide) (Or.inl ⟨_, rfl⟩) rfl ?_
  refine mv_aload_n dX1_init_54 rfl ?_
  refine mv_new (o := 10) (sh' := sh_19) (c' := 9) (s' := 75) dX1_init_55 kc_2 (mv_t1 45 rfl rfl) (mv_t1 46 rfl rfl) (mv_t1 4 rfl rfl) (by decide) (by decide +kernel) (by decide) (by decide +kernel) rfl rfl ⟨Nat.le_of_ble_eq_true rfl, Nat.le_of_ble_eq_true rfl⟩ ?_
  refine mv_nameH hs (fun h19 hs => ?_)
  refine mv_dup dX1_init_58 rfl ?_
  refine mv_bipush 90 dX1_init_59 (by decide) ?_
  refine mv_cI' (st := [.ref 10, .ref 1]) (c' := 10) (s' := 81) dX1_init_61 kk_X1_28 rfl (TX2_init_at10 G d _ _ _ (mv_sat_bind hs)) rfl rfl (Nat.le_of_ble_eq_true rfl) (by omega) rfl rfl ⟨Nat.le_of_ble_eq_true rfl, Nat.le_of_ble_eq_true rfl⟩ (mv_kv fun r22 hs => ?_)
  refine mv_putr (fl := [some (some 2), some (some 4), some (some 6), some (some 8), some none, none, none, none, none]) (sh' := sh_22) dX1_init_64 kf_X1_33 (fun _ => ⟨rfl, by decide +kernel⟩) (by decide +kernel) (by decide) (Or.inl ⟨_, rfl⟩) rfl ?_
  refine mv_aload_n dX1_init_67 rfl ?_
  refine mv_iconst 1 dX1_init_68 (by decide) ?_
  refine mv_puti dX1_init_69 kf_X1_36 (fun q => by cases q) (show mv_gf sh_22 1 1 5 none from ⟨_, rfl, rfl⟩) ?_
  refine mv_nameH hs (fun h23 hs => ?_)
  refine mv_aload_n dX1_init_72 rfl ?_
  refine mv_iconst 0 dX1_init_73 (by decide) ?_
  refine mv_puti dX1_init_74 kf_X1_40 (fun q => by cases q) (show mv_gf sh_22 1 1 6 none from ⟨_, rfl, rfl⟩) ?_
  refine mv_nameH hs (fun h24 hs => ?_)
  refine mv_aload_n dX1_init_77 rfl ?_
  refine mv_iconst 1 dX1_init_78 (by decide) ?_
  refine mv_puti dX1_init_79 kf_X1_43 (fun q => by cases q) (show mv_gf sh_22 1 1 7 none from ⟨_, rfl, rfl⟩) ?_
  refine mv_nameH hs (fun h25 hs => ?_)
  refine mv_aload_n dX1_init_82 rfl ?_
  refine mv_bipush 10 dX1_init_83 (by decide) ?_
  refine mv_puti dX1_init_85 kf_X1_46 (fun q => by cases q) (show mv_gf sh_22 1 1 8 none from ⟨_, rfl, rfl⟩) ?_
  refine mv_nameH hs (fun h26 hs => ?_)
  exact mv_vret dX1_init_88 rfl ⟨_, rfl, rfl, rfl, mv_sat_some hs⟩
noncomputable def fX7_init_at13 (p0 : Int32) (h : mv_H) : Option (mv_H) := mv_let (mv_z h 14) fun h30 : mv_H => mv_let (mv_u h30 13 0 p0) fun h31 : mv_H => some h31
set_option maxRecDepth 100000 in
set_option maxHeartbeats 4000000 in
theorem TX7_init_at13 (G : mv_G) (d : Nat) (P : mv_H → Prop) (p0 : Int32) (h : mv_H) (hs : mv_sat (fX7_init_at13 p0 h) P) : mv_met G (d + 1) mX7_init [.ref 13, .int p0] sh_25 h (mv_qv sh_27 P) := by
  unfold fX7_init_at13 at hs
  obtain ⟨D, hDe⟩ : ∃ D, D = d + 1 := ⟨_, rfl⟩
  rw [← hDe]
  have hD : d + 1 ≤ D := by omega
  refine mv_enter (lv := [.ref 13, .int p0]) 0 (by decide) (by decide +kernel) rfl (Nat.le_of_ble_eq_true rfl) ?_
  refine mv_aload_n dX7_init_0 rfl ?_
  refine mv_objInit dX7_init_1 (mv_t1 33 rfl rfl) (mv_t1 20 rfl rfl) (mv_t1 21 rfl rfl) (Nat.le_of_ble_eq_true rfl) ⟨by show 1 ≤ D; omega, by show 64 ≤ 64 * D; omega⟩ ?_
  refine mv_aload_n dX7_init_4 rfl ?_
  refine mv_bipush 18 dX7_init_5 (by decide) ?_
  refine mv_newa (N := 18) (o := 14) (sh' := sh_26) (c' := 1) (s' := 18) dX7_init_7 (mv_t1 44 rfl rfl) (by decide) (by decide) (by decide) (by decide +kernel) (by decide) (by decide +kernel) rfl rfl ⟨Nat.le_of_ble_eq_true rfl, Nat.le_of_ble_eq_true rfl⟩ ?_
  refine mv_nameH hs (fun h30 hs => ?_)
  refine mv_putr (fl := [none, some none, none]) (sh' := sh_27) dX7_init_9 kf_X7_9 (fun _ => ⟨rfl, by decide +kernel⟩) (by decide +kernel) (by decide) (Or.inr ⟨_, rfl⟩) rfl ?_
  refine mv_aload_n dX7_init_12 rfl ?_
  refine mv_iload_n dX7_init_13 rfl ?_
  refine mv_puti dX7_init_14 kf_X7_15 (fun _ => ⟨rfl, by decide +kernel⟩) (show mv_gf sh_27 13 7 0 none from ⟨_, rfl, rfl⟩) ?_
  refine mv_nameH hs (fun h31 hs => ?_)
  exact mv_vret dX7_init_17 rfl ⟨_, rfl, rfl, rfl, mv_sat_some hs⟩
noncomputable def fX7_init_at15 (p0 : Int32) (h : mv_H) : Option (mv_H) := mv_let (mv_z h 16) fun h34 : mv_H => mv_let (mv_u h34 15 0 p0) fun h35 : mv_H => some h35
set_option maxRecDepth 100000 in
set_option maxHeartbeats 4000000 in
theorem TX7_init_at15 (G : mv_G) (d : Nat) (P : mv_H → Prop) (p0 : Int32) (h : mv_H) (hs : mv_sat (fX7_init_at15 p0 h) P) : mv_met G (d + 1) mX7_init [.ref 15, .int p0] sh_29 h (mv_qv sh_31 P) := by
  unfold fX7_init_at15 at hs
  obtain ⟨D, hDe⟩ : ∃ D, D = d + 1 := ⟨_, rfl⟩
  rw [← hDe]
  have hD : d + 1 ≤ D := by omega
  refine mv_enter (lv := [.ref 15, .int p0]) 0 (by decide) (by decide +kernel) rfl (Nat.le_of_ble_eq_true rfl) ?_
  refine mv_aload_n dX7_init_0 rfl ?_
  refine mv_objInit dX7_init_1 (mv_t1 33 rfl rfl) (mv_t1 20 rfl rfl) (mv_t1 21 rfl rfl) (Nat.le_of_ble_eq_true rfl) ⟨by show 1 ≤ D; omega, by show 64 ≤ 64 * D; omega⟩ ?_
  refine mv_aload_n dX7_init_4 rfl ?_
  refine mv_bipush 18 dX7_init_5 (by decide) ?_
  refine mv_newa (N := 18) (o := 16) (sh' := sh_30) (c' := 1) (s' := 18) dX7_init_7 (mv_t1 44 rfl rfl) (by decide) (by decide) (by decide) (by decide +kernel) (by decide) (by decide +kernel) rfl rfl ⟨Nat.le_of_ble_eq_true rfl, Nat.le_of_ble_eq_true rfl⟩ ?_
  refine mv_nameH hs (fun h34 hs => ?_)
  refine mv_putr (fl := [none, some none, none]) (sh' := sh_31) dX7_init_9 kf_X7_9 (fun _ => ⟨rfl, by decide +kernel⟩) (by decide +kernel) (by decide) (Or.inr ⟨_, rfl⟩) rfl ?_
  refine mv_aload_n dX7_init_12 rfl ?_
  refine mv_iload_n dX7_init_13 rfl ?_
  refine mv_puti dX7_init_14 kf_X7_15 (fun _ => ⟨rfl, by decide +kernel⟩) (show mv_gf sh_31 15 7 0 none from ⟨_, rfl, rfl⟩) ?_
  refine mv_nameH hs (fun h35 hs => ?_)
  exact mv_vret dX7_init_17 rfl ⟨_, rfl, rfl, rfl, mv_sat_some hs⟩
noncomputable def fX7_init_at17 (p0 : Int32) (h : mv_H) : Option (mv_H) := mv_let (mv_z h 18) fun h38 : mv_H => mv_let (mv_u h38 17 0 p0) fun h39 : mv_H => some h39
set_option maxRecDepth 100000 in
set_option maxHeartbeats 4000000 in
theorem TX7_init_at17 (G : mv_G) (d : Nat) (P : mv_H → Prop) (p0 : Int32) (h : mv_H) (hs : mv_sat (fX7_init_at17 p0 h) P) : mv_met G (d + 1) mX7_init [.ref 17, .int p0] sh_33 h (mv_qv sh_35 P) := by
  unfold fX7_init_at17 at hs
  obtain ⟨D, hDe⟩ : ∃ D, D = d + 1 := ⟨_, rfl⟩
  rw [← hDe]
  have hD : d + 1 ≤ D := by omega
  refine mv_enter (lv := [.ref 17, .int p0]) 0 (by decide) (by decide +kernel) rfl (Nat.le_of_ble_eq_true rfl) ?_
  refine mv_aload_n dX7_init_0 rfl ?_
  refine mv_objInit dX7_init_1 (mv_t1 33 rfl rfl) (mv_t1 20 rfl rfl) (mv_t1 21 rfl rfl) (Nat.le_of_ble_eq_true rfl) ⟨by show 1 ≤ D; omega, by show 64 ≤ 64 * D; omega⟩ ?_
  refine mv_aload_n dX7_init_4 rfl ?_
  refine mv_bipush 18 dX7_init_5 (by decide) ?_
  refine mv_newa (N := 18) (o := 18) (sh' := sh_34) (c' := 1) (s' := 18) dX7_init_7 (mv_t1 44 rfl rfl) (by decide) (by decide) (by decide) (by decide +kernel) (by decide) (by decide +kernel) rfl rfl ⟨Nat.le_of_ble_eq_true rfl, Nat.le_of_ble_eq_true rfl⟩ ?_
  refine mv_nameH hs (fun h38 hs => ?_)
  refine mv_putr (fl := [none, some none, none]) (sh' := sh_35) dX7_init_9 kf_X7_9 (fun _ => ⟨rfl, by decide +kernel⟩) (by decide +kernel) (by decide) (Or.inr ⟨_, rfl⟩) rfl ?_
  refine mv_aload_n dX7_init_12 rfl ?_
  refine mv_iload_n dX7_init_13 rfl ?_
  refine mv_puti dX7_init_14 kf_X7_15 (fun _ => ⟨rfl, by decide +kernel⟩) (show mv_gf sh_35 17 7 0 none from ⟨_, rfl, rfl⟩) ?_
  refine mv_nameH hs (fun h39 hs => ?_)
  exact mv_vret dX7_init_17 rfl ⟨_, rfl, rfl, rfl, mv_sat_some hs⟩
noncomputable def fX2_init_at19 (p0 : Int32) (h : mv_H) : Option (mv_H) := mv_let (mv_z h 20) fun h42 : mv_H => mv_let (mv_u h42 19 0 p0) fun h43 : mv_H => some h43
set_option maxRecDepth 100000 in
set_option maxHeartbeats 4000000 in
theorem TX2_init_at19 (G : mv_G) (d : Nat) (P : mv_H → Prop) (p0 : Int32) (h : mv_H) (hs : mv_sat (fX2_init_at19 p0 h) P) : mv_met G (d + 1) mX2_init [.ref 19, .int p0] sh_37 h (mv_qv sh_39 P) := by
  unfold fX2_init_at19 at hs
  obtain ⟨D, hDe⟩ : ∃ D, D = d + 1 := ⟨_, rfl⟩
  rw [← hDe]
  have hD : d + 1 ≤ D := by omega
  refine mv_enter (lv := [.ref 19, .int p0]) 0 (by decide) (by decide +kernel) rfl (Nat.le_of_ble_eq_true rfl) ?_
  refine mv_aload_n dX2_init_0 rfl ?_
  refine mv_objInit dX2_init_1 (mv_t1 50 rfl rfl) (mv_t1 20 rfl rfl) (mv_t1 21 rfl rfl) (Nat.le_of_ble_eq_true rfl) ⟨by show 1 ≤ D; omega, by show 64 ≤ 64 * D; omega⟩ ?_
  refine mv_aload_n dX2_init_4 rfl ?_
  refine mv_bipush 6 dX2_init_5 (by decide) ?_
  refine mv_newa (N := 6) (o := 20) (sh' := sh_38) (c' := 1) (s' := 6) dX2_init_7 (mv_t1 44 rfl rfl) (by decide) (by decide) (by decide) (by decide +kernel) (by decide) (by decide +kernel) rfl rfl ⟨Nat.le_of_ble_eq_true rfl, Nat.le_of_ble_eq_true rfl⟩ ?_
  refine mv_nameH hs (fun h42 hs => ?_)
  refine mv_putr (fl := [none, some none, none]) (sh' := sh_39) dX2_init_9 kf_X2_9 (fun _ => ⟨rfl, by decide +kernel⟩) (by decide +kernel) (by decide) (Or.inr ⟨_, rfl⟩) rfl ?_
  refine mv_aload_n dX2_init_12 rfl ?_
  refine mv_iload_n dX2_init_13 rfl ?_
  refine mv_puti dX2_init_14 kf_X2_13 (fun _ => ⟨rfl, by decide +kernel⟩) (show mv_gf sh_39 19 2 0 none from ⟨_, rfl, rfl⟩) ?_
  refine mv_nameH hs (fun h43 hs => ?_)
  exact mv_vret dX2_init_17 rfl ⟨_, rfl, rfl, rfl, mv_sat_some hs⟩
noncomputable def fX2_init_at21 (p0 : Int32) (h : mv_H) : Option (mv_H) := mv_let (mv_z h 22) fun h46 : mv_H => mv_let (mv_u h46 21 0 p0) fun h47 : mv_H => some h47
set_option maxRecDepth 100000 in
set_option maxHeartbeats 4000000 in
theorem TX2_init_at21 (G : mv_G) (d : Nat) (P : mv_H → Prop) (p0 : Int32) (h : mv_H) (hs : mv_sat (fX2_init_at21 p0 h) P) : mv_met G (d + 1) mX2_init [.ref 21, .int p0] sh_41 h (mv_qv sh_43 P) := by
  unfold fX2_init_at21 at hs
  obtain ⟨D, hDe⟩ : ∃ D, D = d + 1 := ⟨_, rfl⟩
  rw [← hDe]
  have hD : d + 1 ≤ D := by omega
  refine mv_enter (lv := [.ref 21, .int p0]) 0 (by decide) (by decide +kernel) rfl (Nat.le_of_ble_eq_true rfl) ?_
  refine mv_aload_n dX2_init_0 rfl ?_
  refine mv_objInit dX2_init_1 (mv_t1 50 rfl rfl) (mv_t1 20 rfl rfl) (mv_t1 21 rfl rfl) (Nat.le_of_ble_eq_true rfl) ⟨by show 1 ≤ D; omega, by show 64 ≤ 64 * D; omega⟩ ?_
  refine mv_aload_n dX2_init_4 rfl ?_
  refine mv_bipush 6 dX2_init_5 (by decide) ?_
  refine mv_newa (N := 6) (o := 22) (sh' := sh_42) (c' := 1) (s' := 6) dX2_init_7 (mv_t1 44 rfl rfl) (by decide) (by decide) (by decide) (by decide +kernel) (by decide) (by decide +kernel) rfl rfl ⟨Nat.le_of_ble_eq_true rfl, Nat.le_of_ble_eq_true rfl⟩ ?_
  refine mv_nameH hs (fun h46 hs => ?_)
  refine mv_putr (fl := [none, some none, none]) (sh' := sh_43) dX2_init_9 kf_X2_9 (fun _ => ⟨rfl, by decide +kernel⟩) (by decide +kernel) (by decide) (Or.inr ⟨_, rfl⟩) rfl ?_
  refine mv_aload_n dX2_init_12 rfl ?_
  refine mv_iload_n dX2_init_13 rfl ?_
  refine mv_puti dX2_init_14 kf_X2_13 (fun _ => ⟨rfl, by decide +kernel⟩) (show mv_gf sh_43 21 2 0 none from ⟨_, rfl, rfl⟩) ?_
  refine mv_nameH hs (fun h47 hs => ?_)
  exact mv_vret dX2_init_17 rfl ⟨_, rfl, rfl, rfl, mv_sat_some hs⟩
noncomputable def fX1_init_at12 (h : mv_H) : Option (mv_H) := mv_let (mv_z h 13) fun h29 : mv_H => (fX7_init_at13 (3 : Int32) h29).bind fun r32 => mv_let (mv_z r32 15) fun h33 : mv_H => (fX7_init_at15 (3 : Int32) h33).bind fun r36 => mv_let (mv_z r36 17) fun h37 : mv_H => (fX7_init_at17 (2 : Int32) h37).bind fun r40 => mv_let (mv_z r40 19) fun h41 : mv_H => (fX2_init_at19 (150 : Int32) h41).bind fun r44 => mv_let (mv_z r44 21) fun h45 : mv_H => (fX2_init_at21 (90 : Int32) h45).bind fun r48 => mv_let (mv_u r48 12 5 1) fun h49 : mv_H => mv_let (mv_u h49 12 6 0) fun h50 : mv_H => mv_let (mv_u h50 12 7 1) fun h51 : mv_H => mv_let (mv_u h51 12 8 10) fun h52 : mv_H => some h52
set_option maxRecDepth 100000 in
set_option maxHeartbeats 4000000 in
theorem TX1_init_at12 (G : mv_G) (d : Nat) (P : mv_H → Prop) (h : mv_H) (hs : mv_sat (fX1_init_at12 h) P) : mv_met G (d + 2) mX1_init [.ref 12] sh_24 h (mv_qv sh_44 P) := by
  unfold fX1_init_at12 at hs
  obtain ⟨D, hDe⟩ : ∃ D, D = d + 2 := ⟨_, rfl⟩
  rw [← hDe]
  have hD : d + 2 ≤ D := by omega
  refine mv_enter (lv := [.ref 12]) 0 (by decide) (by decide +kernel) rfl (Nat.le_of_ble_eq_true rfl) ?_
  refine mv_aload_n dX1_init_0 rfl ?_
  refine mv_objInit dX1_init_1 (mv_t1 27 rfl rfl) (mv_t1 20 rfl rfl) (mv_t1 21 rfl rfl) (Nat.le_of_ble_eq_true rfl) ⟨by show 1 ≤ D; omega, by show 64 ≤ 64 * D; omega⟩ ?_
  refine mv_aload_n dX1_init_4 rfl ?_
  refine mv_new (o := 13) (sh' := sh_25) (c' := 1) (s' := 3) dX1_init_5 kc_7 (mv_t1 28 rfl rfl) (mv_t1 29 rfl rfl) (mv_t1 3 rfl rfl) (by decide) (by decide +kernel) (by decide) (by decide +kernel) rfl rfl ⟨Nat.le_of_ble_eq_true rfl, Nat.le_of_ble_eq_true rfl⟩ ?_
  refine mv_nameH hs (fun h29 hs => ?_)
  refine mv_dup dX1_init_8 rfl ?_
  refine mv_iconst 3 dX1_init_9 (by decide) ?_
  refine mv_cI' (st := [.ref 13, .ref 12]) (c' := 2) (s' := 21) dX1_init_10 kk_X1_11 rfl (TX7_init_at13 G d _ _ _ (mv_sat_bind hs)) rfl rfl (Nat.le_of_ble_eq_true rfl) (by omega) rfl rfl ⟨Nat.le_of_ble_eq_true rfl, Nat.le_of_ble_eq_true rfl⟩ (mv_kv fun r32 hs => ?_)
  refine mv_putr (fl := [some none, some none, some none, some none, some none, none, none, none, none]) (sh' := sh_28) dX1_init_13 kf_X1_14 (fun _ => ⟨rfl, by decide +kernel⟩) (by decide +kernel) (by decide) (Or.inl ⟨_, rfl⟩) rfl ?_
  refine mv_aload_n dX1_init_16 rfl ?_
  refine mv_new (o := 15) (sh' := sh_29) (c' := 3) (s' := 24) dX1_init_17 kc_7 (mv_t1 28 rfl rfl) (mv_t1 29 rfl rfl) (mv_t1 3 rfl rfl) (by decide) (by decide +kernel) (by decide) (by decide +kernel) rfl rfl ⟨Nat.le_of_ble_eq_true rfl, Nat.le_of_ble_eq_true rfl⟩ ?_
  refine mv_nameH hs (fun h33 hs => ?_)
  refine mv_dup dX1_init_20 rfl ?_
  refine mv_iconst 3 dX1_init_21 (by decide) ?_
  refine mv_cI' (st := [.ref 15, .ref 12]) (c' := 4) (s' := 42) dX1_init_22 kk_X1_11 rfl (TX7_init_at15 G d _ _ _ (mv_sat_bind hs)) rfl rfl (Nat.le_of_ble_eq_true rfl) (by omega) rfl rfl ⟨Nat.le_of_ble_eq_true rfl, Nat.le_of_ble_eq_true rfl⟩ (mv_kv fun r36 hs => ?_)
  refine mv_putr (fl := [some (some 13), some none, some none, some none, some none, none, none, none, none]) (sh' := sh_32) dX1_init_25 kf_X1_20 (fun _ => ⟨rfl, by decide +kernel⟩) (by decide +kernel) (by decide) (Or.inl ⟨_, rfl⟩) rfl ?_
  refine mv_aload_n dX1_init_28 rfl ?_
  refine mv_new (o := 17) (sh' := sh_33) (c' := 5) (s' := 45) dX1_init_29 kc_7 (mv_t1 28 rfl rfl) (mv_t1 29 rfl rfl) (mv_t1 3 rfl rfl) (by decide) (by decide +kernel) (by decide) (by decide +kernel) rfl rfl ⟨Nat.le_of_ble_eq_true rfl, Nat.le_of_ble_eq_true rfl⟩ ?_
  refine mv_nameH hs (fun h37 hs => ?_)
  refine mv_dup dX1_init_32 rfl ?_
  refine mv_iconst 2 dX1_init_33 (by decide) ?_
  refine mv_cI' (st := [.ref 17, .ref 12]) (c' := 6) (s' := 63) dX1_init_34 kk_X1_11 rfl (TX7_init_at17 G d _ _ _ (mv_sat_bind hs)) rfl rfl (Nat.le_of_ble_eq_true rfl) (by omega) rfl rfl ⟨Nat.le_of_ble_eq_true rfl, Nat.le_of_ble_eq_true rfl⟩ (mv_kv fun r40 hs => ?_)
  refine mv_putr (fl := [some (some 13), some (some 15), some none, some none, some none, none, none, none, none]) (sh' := sh_36) dX1_init_37 kf_X1_23 (fun _ => ⟨rfl, by decide +kernel⟩) (by decide +kernel) (by decide) (Or.inl ⟨_, rfl⟩) rfl ?_
  refine mv_aload_n dX1_init_40 rfl ?_
  refine mv_new (o := 19) (sh' := sh_37) (c' := 7) (s' := 66) dX1_init_41 kc_2 (mv_t1 45 rfl rfl) (mv_t1 46 rfl rfl) (mv_t1 4 rfl rfl) (by decide) (by decide +kernel) (by decide) (by decide +kernel) rfl rfl ⟨Nat.le_of_ble_eq_true rfl, Nat.le_of_ble_eq_true rfl⟩ ?_
  refine mv_nameH hs (fun h41 hs => ?_)
  refine mv_dup dX1_init_44 rfl ?_
  refine mv_sipush 150 dX1_init_45 (by decide) ?_
  refine mv_cI' (st := [.ref 19, .ref 12]) (c' := 8) (s' := 72) dX1_init_48 kk_X1_28 rfl (TX2_init_at19 G d _ _ _ (mv_sat_bind hs)) rfl rfl (Nat.le_of_ble_eq_true rfl) (by omega) rfl rfl ⟨Nat.le_of_ble_eq_true rfl, Nat.le_of_ble_eq_true rfl⟩ (mv_kv fun r44 hs => ?_)
  refine mv_putr (fl := [some (some 13), some (some 15), some (some 17), some none, some none, none, none, none, none]) (sh' := sh_40) dX1_init_51 kf_X1_29 (fun _ => ⟨rfl, by decide +kernel⟩) (by decide +kernel) (by decide) (Or.inl ⟨_, rfl⟩) rfl ?_
  refine mv_aload_n dX1_init_54 rfl ?_
  refine mv_new (o := 21) (sh' := sh_41) (c' := 9) (s' := 75) dX1_init_55 kc_2 (mv_t1 45 rfl rfl) (mv_t1 46 rfl rfl) (mv_t1 4 rfl rfl) (by decide) (by decide +kernel) (by decide) (by decide +kernel) rfl rfl ⟨Nat.le_of_ble_eq_true rfl, Nat.le_of_ble_eq_true rfl⟩ ?_
  refine mv_nameH hs (fun h45 hs => ?_)
  refine mv_dup dX1_init_58 rfl ?_
  refine mv_bipush 90 dX1_init_59 (by decide) ?_
  refine mv_cI' (st := [.ref 21, .ref 12]) (c' := 10) (s' := 81) dX1_init_61 kk_X1_28 rfl (TX2_init_at21 G d _ _ _ (mv_sat_bind hs)) rfl rfl (Nat.le_of_ble_eq_true rfl) (by omega) rfl rfl ⟨Nat.le_of_ble_eq_true rfl, Nat.le_of_ble_eq_true rfl⟩ (mv_kv fun r48 hs => ?_)
  refine mv_putr (fl := [some (some 13), some (some 15), some (some 17), some (some 19), some none, none, none, none, none]) (sh' := sh_44) dX1_init_64 kf_X1_33 (fun _ => ⟨rfl, by decide +kernel⟩) (by decide +kernel) (by decide) (Or.inl ⟨_, rfl⟩) rfl ?_
  refine mv_aload_n dX1_init_67 rfl ?_
  refine mv_iconst 1 dX1_init_68 (by decide) ?_
  refine mv_puti dX1_init_69 kf_X1_36 (fun q => by cases q) (show mv_gf sh_44 12 1 5 none from ⟨_, rfl, rfl⟩) ?_
  refine mv_nameH hs (fun h49 hs => ?_)
  refine mv_aload_n dX1_init_72 rfl ?_
  refine mv_iconst 0 dX1_init_73 (by decide) ?_
  refine mv_puti dX1_init_74 kf_X1_40 (fun q => by cases q) (show mv_gf sh_44 12 1 6 none from ⟨_, rfl, rfl⟩) ?_
  refine mv_nameH hs (fun h50 hs => ?_)
  refine mv_aload_n dX1_init_77 rfl ?_
  refine mv_iconst 1 dX1_init_78 (by decide) ?_
  refine mv_puti dX1_init_79 kf_X1_43 (fun q => by cases q) (show mv_gf sh_44 12 1 7 none from ⟨_, rfl, rfl⟩) ?_
  refine mv_nameH hs (fun h51 hs => ?_)
  refine mv_aload_n dX1_init_82 rfl ?_
  refine mv_bipush 10 dX1_init_83 (by decide) ?_
  refine mv_puti dX1_init_85 kf_X1_46 (fun q => by cases q) (show mv_gf sh_44 12 1 8 none from ⟨_, rfl, rfl⟩) ?_
  refine mv_nameH hs (fun h52 hs => ?_)
  exact mv_vret dX1_init_88 rfl ⟨_, rfl, rfl, rfl, mv_sat_some hs⟩
noncomputable def fX7_init_at24 (p0 : Int32) (h : mv_H) : Option (mv_H) := mv_let (mv_z h 25) fun h56 : mv_H => mv_let (mv_u h56 24 0 p0) fun h57 : mv_H => some h57
set_option maxRecDepth 100000 in
set_option maxHeartbeats 4000000 in
theorem TX7_init_at24 (G : mv_G) (d : Nat) (P : mv_H → Prop) (p0 : Int32) (h : mv_H) (hs : mv_sat (fX7_init_at24 p0 h) P) : mv_met G (d + 1) mX7_init [.ref 24, .int p0] sh_47 h (mv_qv sh_49 P) := by
  unfold fX7_init_at24 at hs
  obtain ⟨D, hDe⟩ : ∃ D, D = d + 1 := ⟨_, rfl⟩
  rw [← hDe]
  have hD : d + 1 ≤ D := by omega
  refine mv_enter (lv := [.ref 24, .int p0]) 0 (by decide) (by decide +kernel) rfl (Nat.le_of_ble_eq_true rfl) ?_
  refine mv_aload_n dX7_init_0 rfl ?_
  refine mv_objInit dX7_init_1 (mv_t1 33 rfl rfl) (mv_t1 20 rfl rfl) (mv_t1 21 rfl rfl) (Nat.le_of_ble_eq_true rfl) ⟨by show 1 ≤ D; omega, by show 64 ≤ 64 * D; omega⟩ ?_
  refine mv_aload_n dX7_init_4 rfl ?_
  refine mv_bipush 18 dX7_init_5 (by decide) ?_
  refine mv_newa (N := 18) (o := 25) (sh' := sh_48) (c' := 1) (s' := 18) dX7_init_7 (mv_t1 44 rfl rfl) (by decide) (by decide) (by decide) (by decide +kernel) (by decide) (by decide +kernel) rfl rfl ⟨Nat.le_of_ble_eq_true rfl, Nat.le_of_ble_eq_true rfl⟩ ?_
  refine mv_nameH hs (fun h56 hs => ?_)
  refine mv_putr (fl := [none, some none, none]) (sh' := sh_49) dX7_init_9 kf_X7_9 (fun _ => ⟨rfl, by decide +kernel⟩) (by decide +kernel) (by decide) (Or.inr ⟨_, rfl⟩) rfl ?_
  refine mv_aload_n dX7_init_12 rfl ?_
  refine mv_iload_n dX7_init_13 rfl ?_
  refine mv_puti dX7_init_14 kf_X7_15 (fun _ => ⟨rfl, by decide +kernel⟩) (show mv_gf sh_49 24 7 0 none from ⟨_, rfl, rfl⟩) ?_
  refine mv_nameH hs (fun h57 hs => ?_)
  exact mv_vret dX7_init_17 rfl ⟨_, rfl, rfl, rfl, mv_sat_some hs⟩
noncomputable def fX7_init_at26 (p0 : Int32) (h : mv_H) : Option (mv_H) := mv_let (mv_z h 27) fun h60 : mv_H => mv_let (mv_u h60 26 0 p0) fun h61 : mv_H => some h61
set_option maxRecDepth 100000 in
set_option maxHeartbeats 4000000 in
theorem TX7_init_at26 (G : mv_G) (d : Nat) (P : mv_H → Prop) (p0 : Int32) (h : mv_H) (hs : mv_sat (fX7_init_at26 p0 h) P) : mv_met G (d + 1) mX7_init [.ref 26, .int p0] sh_51 h (mv_qv sh_53 P) := by
  unfold fX7_init_at26 at hs
  obtain ⟨D, hDe⟩ : ∃ D, D = d + 1 := ⟨_, rfl⟩
  rw [← hDe]
  have hD : d + 1 ≤ D := by omega
  refine mv_enter (lv := [.ref 26, .int p0]) 0 (by decide) (by decide +kernel) rfl (Nat.le_of_ble_eq_true rfl) ?_
  refine mv_aload_n dX7_init_0 rfl ?_
  refine mv_objInit dX7_init_1 (mv_t1 33 rfl rfl) (mv_t1 20 rfl rfl) (mv_t1 21 rfl rfl) (Nat.le_of_ble_eq_true rfl) ⟨by show 1 ≤ D; omega, by show 64 ≤ 64 * D; omega⟩ ?_
  refine mv_aload_n dX7_init_4 rfl ?_
  refine mv_bipush 18 dX7_init_5 (by decide) ?_
  refine mv_newa (N := 18) (o := 27) (sh' := sh_52) (c' := 1) (s' := 18) dX7_init_7 (mv_t1 44 rfl rfl) (by decide) (by decide) (by decide) (by decide +kernel) (by decide) (by decide +kernel) rfl rfl ⟨Nat.le_of_ble_eq_true rfl, Nat.le_of_ble_eq_true rfl⟩ ?_
  refine mv_nameH hs (fun h60 hs => ?_)
  refine mv_putr (fl := [none, some none, none]) (sh' := sh_53) dX7_init_9 kf_X7_9 (fun _ => ⟨rfl, by decide +kernel⟩) (by decide +kernel) (by decide) (Or.inr ⟨_, rfl⟩) rfl ?_
  refine mv_aload_n dX7_init_12 rfl ?_
  refine mv_iload_n dX7_init_13 rfl ?_
  refine mv_puti dX7_init_14 kf_X7_15 (fun _ => ⟨rfl, by decide +kernel⟩) (show mv_gf sh_53 26 7 0 none from ⟨_, rfl, rfl⟩) ?_
  refine mv_nameH hs (fun h61 hs => ?_)
  exact mv_vret dX7_init_17 rfl ⟨_, rfl, rfl, rfl, mv_sat_some hs⟩
noncomputable def fX7_init_at28 (p0 : Int32) (h : mv_H) : Option (mv_H) := mv_let (mv_z h 29) fun h64 : mv_H => mv_let (mv_u h64 28 0 p0) fun h65 : mv_H => some h65
set_option maxRecDepth 100000 in
set_option maxHeartbeats 4000000 in
theorem TX7_init_at28 (G : mv_G) (d : Nat) (P : mv_H → Prop) (p0 : Int32) (h : mv_H) (hs : mv_sat (fX7_init_at28 p0 h) P) : mv_met G (d + 1) mX7_init [.ref 28, .int p0] sh_55 h (mv_qv sh_57 P) := by
  unfold fX7_init_at28 at hs
  obtain ⟨D, hDe⟩ : ∃ D, D = d + 1 := ⟨_, rfl⟩
  rw [← hDe]
  have hD : d + 1 ≤ D := by omega
  refine mv_enter (lv := [.ref 28, .int p0]) 0 (by decide) (by decide +kernel) rfl (Nat.le_of_ble_eq_true rfl) ?_
  refine mv_aload_n dX7_init_0 rfl ?_
  refine mv_objInit dX7_init_1 (mv_t1 33 rfl rfl) (mv_t1 20 rfl rfl) (mv_t1 21 rfl rfl) (Nat.le_of_ble_eq_true rfl) ⟨by show 1 ≤ D; omega, by show 64 ≤ 64 * D; omega⟩ ?_
  refine mv_aload_n dX7_init_4 rfl ?_
  refine mv_bipush 18 dX7_init_5 (by decide) ?_
  refine mv_newa (N := 18) (o := 29) (sh' := sh_56) (c' := 1) (s' := 18) dX7_init_7 (mv_t1 44 rfl rfl) (by decide) (by decide) (by decide) (by decide +kernel) (by decide) (by decide +kernel) rfl rfl ⟨Nat.le_of_ble_eq_true rfl, Nat.le_of_ble_eq_true rfl⟩ ?_
  refine mv_nameH hs (fun h64 hs => ?_)
  refine mv_putr (fl := [none, some none, none]) (sh' := sh_57) dX7_init_9 kf_X7_9 (fun _ => ⟨rfl, by decide +kernel⟩) (by decide +kernel) (by decide) (Or.inr ⟨_, rfl⟩) rfl ?_
  refine mv_aload_n dX7_init_12 rfl ?_
  refine mv_iload_n dX7_init_13 rfl ?_
  refine mv_puti dX7_init_14 kf_X7_15 (fun _ => ⟨rfl, by decide +kernel⟩) (show mv_gf sh_57 28 7 0 none from ⟨_, rfl, rfl⟩) ?_
  refine mv_nameH hs (fun h65 hs => ?_)
  exact mv_vret dX7_init_17 rfl ⟨_, rfl, rfl, rfl, mv_sat_some hs⟩
noncomputable def fX2_init_at30 (p0 : Int32) (h : mv_H) : Option (mv_H) := mv_let (mv_z h 31) fun h68 : mv_H => mv_let (mv_u h68 30 0 p0) fun h69 : mv_H => some h69
set_option maxRecDepth 100000 in
set_option maxHeartbeats 4000000 in
theorem TX2_init_at30 (G : mv_G) (d : Nat) (P : mv_H → Prop) (p0 : Int32) (h : mv_H) (hs : mv_sat (fX2_init_at30 p0 h) P) : mv_met G (d + 1) mX2_init [.ref 30, .int p0] sh_59 h (mv_qv sh_61 P) := by
  unfold fX2_init_at30 at hs
  obtain ⟨D, hDe⟩ : ∃ D, D = d + 1 := ⟨_, rfl⟩
  rw [← hDe]
  have hD : d + 1 ≤ D := by omega
  refine mv_enter (lv := [.ref 30, .int p0]) 0 (by decide) (by decide +kernel) rfl (Nat.le_of_ble_eq_true rfl) ?_
  refine mv_aload_n dX2_init_0 rfl ?_
  refine mv_objInit dX2_init_1 (mv_t1 50 rfl rfl) (mv_t1 20 rfl rfl) (mv_t1 21 rfl rfl) (Nat.le_of_ble_eq_true rfl) ⟨by show 1 ≤ D; omega, by show 64 ≤ 64 * D; omega⟩ ?_
  refine mv_aload_n dX2_init_4 rfl ?_
  refine mv_bipush 6 dX2_init_5 (by decide) ?_
  refine mv_newa (N := 6) (o := 31) (sh' := sh_60) (c' := 1) (s' := 6) dX2_init_7 (mv_t1 44 rfl rfl) (by decide) (by decide) (by decide) (by decide +kernel) (by decide) (by decide +kernel) rfl rfl ⟨Nat.le_of_ble_eq_true rfl, Nat.le_of_ble_eq_true rfl⟩ ?_
  refine mv_nameH hs (fun h68 hs => ?_)
  refine mv_putr (fl := [none, some none, none]) (sh' := sh_61) dX2_init_9 kf_X2_9 (fun _ => ⟨rfl, by decide +kernel⟩) (by decide +kernel) (by decide) (Or.inr ⟨_, rfl⟩) rfl ?_
  refine mv_aload_n dX2_init_12 rfl ?_
  refine mv_iload_n dX2_init_13 rfl ?_
  refine mv_puti dX2_init_14 kf_X2_13 (fun _ => ⟨rfl, by decide +kernel⟩) (show mv_gf sh_61 30 2 0 none from ⟨_, rfl, rfl⟩) ?_
  refine mv_nameH hs (fun h69 hs => ?_)
  exact mv_vret dX2_init_17 rfl ⟨_, rfl, rfl, rfl, mv_sat_some hs⟩
noncomputable def fX2_init_at32 (p0 : Int32) (h : mv_H) : Option (mv_H) := mv_let (mv_z h 33) fun h72 : mv_H => mv_let (mv_u h72 32 0 p0) fun h73 : mv_H => some h73
set_option maxRecDepth 100000 in
set_option maxHeartbeats 4000000 in
theorem TX2_init_at32 (G : mv_G) (d : Nat) (P : mv_H → Prop) (p0 : Int32) (h : mv_H) (hs : mv_sat (fX2_init_at32 p0 h) P) : mv_met G (d + 1) mX2_init [.ref 32, .int p0] sh_63 h (mv_qv sh_65 P) := by
  unfold fX2_init_at32 at hs
  obtain ⟨D, hDe⟩ : ∃ D, D = d + 1 := ⟨_, rfl⟩
  rw [← hDe]
  have hD : d + 1 ≤ D := by omega
  refine mv_enter (lv := [.ref 32, .int p0]) 0 (by decide) (by decide +kernel) rfl (Nat.le_of_ble_eq_true rfl) ?_
  refine mv_aload_n dX2_init_0 rfl ?_
  refine mv_objInit dX2_init_1 (mv_t1 50 rfl rfl) (mv_t1 20 rfl rfl) (mv_t1 21 rfl rfl) (Nat.le_of_ble_eq_true rfl) ⟨by show 1 ≤ D; omega, by show 64 ≤ 64 * D; omega⟩ ?_
  refine mv_aload_n dX2_init_4 rfl ?_
  refine mv_bipush 6 dX2_init_5 (by decide) ?_
  refine mv_newa (N := 6) (o := 33) (sh' := sh_64) (c' := 1) (s' := 6) dX2_init_7 (mv_t1 44 rfl rfl) (by decide) (by decide) (by decide) (by decide +kernel) (by decide) (by decide +kernel) rfl rfl ⟨Nat.le_of_ble_eq_true rfl, Nat.le_of_ble_eq_true rfl⟩ ?_
  refine mv_nameH hs (fun h72 hs => ?_)
  refine mv_putr (fl := [none, some none, none]) (sh' := sh_65) dX2_init_9 kf_X2_9 (fun _ => ⟨rfl, by decide +kernel⟩) (by decide +kernel) (by decide) (Or.inr ⟨_, rfl⟩) rfl ?_
  refine mv_aload_n dX2_init_12 rfl ?_
  refine mv_iload_n dX2_init_13 rfl ?_
  refine mv_puti dX2_init_14 kf_X2_13 (fun _ => ⟨rfl, by decide +kernel⟩) (show mv_gf sh_65 32 2 0 none from ⟨_, rfl, rfl⟩) ?_
  refine mv_nameH hs (fun h73 hs => ?_)
  exact mv_vret dX2_init_17 rfl ⟨_, rfl, rfl, rfl, mv_sat_some hs⟩
noncomputable def fX1_init_at23 (h : mv_H) : Option (mv_H) := mv_let (mv_z h 24) fun h55 : mv_H => (fX7_init_at24 (3 : Int32) h55).bind fun r58 => mv_let (mv_z r58 26) fun h59 : mv_H => (fX7_init_at26 (3 : Int32) h59).bind fun r62 => mv_let (mv_z r62 28) fun h63 : mv_H => (fX7_init_at28 (2 : Int32) h63).bind fun r66 => mv_let (mv_z r66 30) fun h67 : mv_H => (fX2_init_at30 (150 : Int32) h67).bind fun r70 => mv_let (mv_z r70 32) fun h71 : mv_H => (fX2_init_at32 (90 : Int32) h71).bind fun r74 => mv_let (mv_u r74 23 5 1) fun h75 : mv_H => mv_let (mv_u h75 23 6 0) fun h76 : mv_H => mv_let (mv_u h76 23 7 1) fun h77 : mv_H => mv_let (mv_u h77 23 8 10) fun h78 : mv_H => some h78
set_option maxRecDepth 100000 in
set_option maxHeartbeats 4000000 in
theorem TX1_init_at23 (G : mv_G) (d : Nat) (P : mv_H → Prop) (h : mv_H) (hs : mv_sat (fX1_init_at23 h) P) : mv_met G (d + 2) mX1_init [.ref 23] sh_46 h (mv_qv sh_66 P) := by
  unfold fX1_init_at23 at hs
  obtain ⟨D, hDe⟩ : ∃ D, D = d + 2 := ⟨_, rfl⟩
  rw [← hDe]
  have hD : d + 2 ≤ D := by omega
  refine mv_enter (lv := [.ref 23]) 0 (by decide) (by decide +kernel) rfl (Nat.le_of_ble_eq_true rfl) ?_
  refine mv_aload_n dX1_init_0 rfl ?_
  refine mv_objInit dX1_init_1 (mv_t1 27 rfl rfl) (mv_t1 20 rfl rfl) (mv_t1 21 rfl rfl) (Nat.le_of_ble_eq_true rfl) ⟨by show 1 ≤ D; omega, by show 64 ≤ 64 * D; omega⟩ ?_
  refine mv_aload_n dX1_init_4 rfl ?_
  refine mv_new (o := 24) (sh' := sh_47) (c' := 1) (s' := 3) dX1_init_5 kc_7 (mv_t1 28 rfl rfl) (mv_t1 29 rfl rfl) (mv_t1 3 rfl rfl) (by decide) (by decide +kernel) (by decide) (by decide +kernel) rfl rfl ⟨Nat.le_of_ble_eq_true rfl, Nat.le_of_ble_eq_true rfl⟩ ?_
  refine mv_nameH hs (fun h55 hs => ?_)
  refine mv_dup dX1_init_8 rfl ?_
  refine mv_iconst 3 dX1_init_9 (by decide) ?_
  refine mv_cI' (st := [.ref 24, .ref 23]) (c' := 2) (s' := 21) dX1_init_10 kk_X1_11 rfl (TX7_init_at24 G d _ _ _ (mv_sat_bind hs)) rfl rfl (Nat.le_of_ble_eq_true rfl) (by omega) rfl rfl ⟨Nat.le_of_ble_eq_true rfl, Nat.le_of_ble_eq_true rfl⟩ (mv_kv fun r58 hs => ?_)
  refine mv_putr (fl := [some none, some none, some none, some none, some none, none, none, none, none]) (sh' := sh_50) dX1_init_13 kf_X1_14 (fun _ => ⟨rfl, by decide +kernel⟩) (by decide +kernel) (by decide) (Or.inl ⟨_, rfl⟩) rfl ?_
  refine mv_aload_n dX1_init_16 rfl ?_
  refine mv_new (o := 26) (sh' := sh_51) (c' := 3) (s' := 24) dX1_init_17 kc_7 (mv_t1 28 rfl rfl) (mv_t1 29 rfl rfl) (mv_t1 3 rfl rfl) (by decide) (by decide +kernel) (by decide) (by decide +kernel) rfl rfl ⟨Nat.le_of_ble_eq_true rfl, Nat.le_of_ble_eq_true rfl⟩ ?_
  refine mv_nameH hs (fun h59 hs => ?_)
  refine mv_dup dX1_init_20 rfl ?_
  refine mv_iconst 3 dX1_init_21 (by decide) ?_
  refine mv_cI' (st := [.ref 26, .ref 23]) (c' := 4) (s' := 42) dX1_init_22 kk_X1_11 rfl (TX7_init_at26 G d _ _ _ (mv_sat_bind hs)) rfl rfl (Nat.le_of_ble_eq_true rfl) (by omega) rfl rfl ⟨Nat.le_of_ble_eq_true rfl, Nat.le_of_ble_eq_true rfl⟩ (mv_kv fun r62 hs => ?_)
  refine mv_putr (fl := [some (some 24), some none, some none, some none, some none, none, none, none, none]) (sh' := sh_54) dX1_init_25 kf_X1_20 (fun _ => ⟨rfl, by decide +kernel⟩) (by decide +kernel) (by decide) (Or.inl ⟨_, rfl⟩) rfl ?_
  refine mv_aload_n dX1_init_28 rfl ?_
  refine mv_new (o := 28) (sh' := sh_55) (c' := 5) (s' := 45) dX1_init_29 kc_7 (mv_t1 28 rfl rfl) (mv_t1 29 rfl rfl) (mv_t1 3 rfl rfl) (by decide) (by decide +kernel) (by decide) (by decide +kernel) rfl rfl ⟨Nat.le_of_ble_eq_true rfl, Nat.le_of_ble_eq_true rfl⟩ ?_
  refine mv_nameH hs (fun h63 hs => ?_)
  refine mv_dup dX1_init_32 rfl ?_
  refine mv_iconst 2 dX1_init_33 (by decide) ?_
  refine mv_cI' (st := [.ref 28, .ref 23]) (c' := 6) (s' := 63) dX1_init_34 kk_X1_11 rfl (TX7_init_at28 G d _ _ _ (mv_sat_bind hs)) rfl rfl (Nat.le_of_ble_eq_true rfl) (by omega) rfl rfl ⟨Nat.le_of_ble_eq_true rfl, Nat.le_of_ble_eq_true rfl⟩ (mv_kv fun r66 hs => ?_)
  refine mv_putr (fl := [some (some 24), some (some 26), some none, some none, some none, none, none, none, none]) (sh' := sh_58) dX1_init_37 kf_X1_23 (fun _ => ⟨rfl, by decide +kernel⟩) (by decide +kernel) (by decide) (Or.inl ⟨_, rfl⟩) rfl ?_
  refine mv_aload_n dX1_init_40 rfl ?_
  refine mv_new (o := 30) (sh' := sh_59) (c' := 7) (s' := 66) dX1_init_41 kc_2 (mv_t1 45 rfl rfl) (mv_t1 46 rfl rfl) (mv_t1 4 rfl rfl) (by decide) (by decide +kernel) (by decide) (by decide +kernel) rfl rfl ⟨Nat.le_of_ble_eq_true rfl, Nat.le_of_ble_eq_true rfl⟩ ?_
  refine mv_nameH hs (fun h67 hs => ?_)
  refine mv_dup dX1_init_44 rfl ?_
  refine mv_sipush 150 dX1_init_45 (by decide) ?_
  refine mv_cI' (st := [.ref 30, .ref 23]) (c' := 8) (s' := 72) dX1_init_48 kk_X1_28 rfl (TX2_init_at30 G d _ _ _ (mv_sat_bind hs)) rfl rfl (Nat.le_of_ble_eq_true rfl) (by omega) rfl rfl ⟨Nat.le_of_ble_eq_true rfl, Nat.le_of_ble_eq_true rfl⟩ (mv_kv fun r70 hs => ?_)
  refine mv_putr (fl := [some (some 24), some (some 26), some (some 28), some none, some none, none, none, none, none]) (sh' := sh_62) dX1_init_51 kf_X1_29 (fun _ => ⟨rfl, by decide +kernel⟩) (by decide +kernel) (by decide) (Or.inl ⟨_, rfl⟩) rfl ?_
  refine mv_aload_n dX1_init_54 rfl ?_
  refine mv_new (o := 32) (sh' := sh_63) (c' := 9) (s' := 75) dX1_init_55 kc_2 (mv_t1 45 rfl rfl) (mv_t1 46 rfl rfl) (mv_t1 4 rfl rfl) (by decide) (by decide +kernel) (by decide) (by decide +kernel) rfl rfl ⟨Nat.le_of_ble_eq_true rfl, Nat.le_of_ble_eq_true rfl⟩ ?_
  refine mv_nameH hs (fun h71 hs => ?_)
  refine mv_dup dX1_init_58 rfl ?_
  refine mv_bipush 90 dX1_init_59 (by decide) ?_
  refine mv_cI' (st := [.ref 32, .ref 23]) (c' := 10) (s' := 81) dX1_init_61 kk_X1_28 rfl (TX2_init_at32 G d _ _ _ (mv_sat_bind hs)) rfl rfl (Nat.le_of_ble_eq_true rfl) (by omega) rfl rfl ⟨Nat.le_of_ble_eq_true rfl, Nat.le_of_ble_eq_true rfl⟩ (mv_kv fun r74 hs => ?_)
  refine mv_putr (fl := [some (some 24), some (some 26), some (some 28), some (some 30), some none, none, none, none, none]) (sh' := sh_66) dX1_init_64 kf_X1_33 (fun _ => ⟨rfl, by decide +kernel⟩) (by decide +kernel) (by decide) (Or.inl ⟨_, rfl⟩) rfl ?_
  refine mv_aload_n dX1_init_67 rfl ?_
  refine mv_iconst 1 dX1_init_68 (by decide) ?_
  refine mv_puti dX1_init_69 kf_X1_36 (fun q => by cases q) (show mv_gf sh_66 23 1 5 none from ⟨_, rfl, rfl⟩) ?_
  refine mv_nameH hs (fun h75 hs => ?_)
  refine mv_aload_n dX1_init_72 rfl ?_
  refine mv_iconst 0 dX1_init_73 (by decide) ?_
  refine mv_puti dX1_init_74 kf_X1_40 (fun q => by cases q) (show mv_gf sh_66 23 1 6 none from ⟨_, rfl, rfl⟩) ?_
  refine mv_nameH hs (fun h76 hs => ?_)
  refine mv_aload_n dX1_init_77 rfl ?_
  refine mv_iconst 1 dX1_init_78 (by decide) ?_
  refine mv_puti dX1_init_79 kf_X1_43 (fun q => by cases q) (show mv_gf sh_66 23 1 7 none from ⟨_, rfl, rfl⟩) ?_
  refine mv_nameH hs (fun h77 hs => ?_)
  refine mv_aload_n dX1_init_82 rfl ?_
  refine mv_bipush 10 dX1_init_83 (by decide) ?_
  refine mv_puti dX1_init_85 kf_X1_46 (fun q => by cases q) (show mv_gf sh_66 23 1 8 none from ⟨_, rfl, rfl⟩) ?_
  refine mv_nameH hs (fun h78 hs => ?_)
  exact mv_vret dX1_init_88 rfl ⟨_, rfl, rfl, rfl, mv_sat_some hs⟩
noncomputable def fX4_init_at34 (h : mv_H) : Option (mv_H) := mv_let (mv_z h 35) fun h81 : mv_H => mv_let (mv_u h81 34 2 (-1)) fun h82 : mv_H => mv_let (mv_z h82 36) fun h83 : mv_H => mv_let (mv_z h83 37) fun h84 : mv_H => some h84
set_option maxRecDepth 100000 in
set_option maxHeartbeats 4000000 in
theorem TX4_init_at34 (G : mv_G) (d : Nat) (P : mv_H → Prop) (h : mv_H) (hs : mv_sat (fX4_init_at34 h) P) : mv_met G (d + 1) mX4_init [.ref 34] sh_68 h (mv_qv sh_74 P) := by
  unfold fX4_init_at34 at hs
  obtain ⟨D, hDe⟩ : ∃ D, D = d + 1 := ⟨_, rfl⟩
  rw [← hDe]
  have hD : d + 1 ≤ D := by omega
  refine mv_enter (lv := [.ref 34]) 0 (by decide) (by decide +kernel) rfl (Nat.le_of_ble_eq_true rfl) ?_
  refine mv_aload_n dX4_init_0 rfl ?_
  refine mv_objInit dX4_init_1 (mv_t1 99 rfl rfl) (mv_t1 20 rfl rfl) (mv_t1 21 rfl rfl) (Nat.le_of_ble_eq_true rfl) ⟨by show 1 ≤ D; omega, by show 64 ≤ 64 * D; omega⟩ ?_
  refine mv_aload_n dX4_init_4 rfl ?_
  refine mv_bipush 60 dX4_init_5 (by decide) ?_
  refine mv_newa (N := 60) (o := 35) (sh' := sh_69) (c' := 1) (s' := 60) dX4_init_7 (mv_t1 44 rfl rfl) (by decide) (by decide) (by decide) (by decide +kernel) (by decide) (by decide +kernel) rfl rfl ⟨Nat.le_of_ble_eq_true rfl, Nat.le_of_ble_eq_true rfl⟩ ?_
  refine mv_nameH hs (fun h81 hs => ?_)
  refine mv_putr (fl := [some none, none, none, none, none, none, none, some none, some none]) (sh' := sh_70) dX4_init_9 kf_X4_11 (fun _ => ⟨rfl, by decide +kernel⟩) (by decide +kernel) (by decide) (Or.inr ⟨_, rfl⟩) rfl ?_
  refine mv_aload_n dX4_init_12 rfl ?_
  refine mv_iconst (-1) dX4_init_13 (by decide) ?_
  refine mv_puti dX4_init_14 kf_X4_15 (fun q => by cases q) (show mv_gf sh_70 34 4 2 none from ⟨_, rfl, rfl⟩) ?_
  refine mv_nameH hs (fun h82 hs => ?_)
  refine mv_aload_n dX4_init_17 rfl ?_
  refine mv_iconst 3 dX4_init_18 (by decide) ?_
  refine mv_newa (N := 3) (o := 36) (sh' := sh_71) (c' := 2) (s' := 63) dX4_init_19 (mv_t1 44 rfl rfl) (by decide) (by decide) (by decide) (by decide +kernel) (by decide) (by decide +kernel) rfl rfl ⟨Nat.le_of_ble_eq_true rfl, Nat.le_of_ble_eq_true rfl⟩ ?_
  refine mv_nameH hs (fun h83 hs => ?_)
  refine mv_putr (fl := [some (some 35), none, none, none, none, none, none, some none, some none]) (sh' := sh_72) dX4_init_21 kf_X4_19 (fun _ => ⟨rfl, by decide +kernel⟩) (by decide +kernel) (by decide) (Or.inr ⟨_, rfl⟩) rfl ?_
  refine mv_aload_n dX4_init_24 rfl ?_
  refine mv_iconst 3 dX4_init_25 (by decide) ?_
  refine mv_newa (N := 3) (o := 37) (sh' := sh_73) (c' := 3) (s' := 66) dX4_init_26 (mv_t1 44 rfl rfl) (by decide) (by decide) (by decide) (by decide +kernel) (by decide) (by decide +kernel) rfl rfl ⟨Nat.le_of_ble_eq_true rfl, Nat.le_of_ble_eq_true rfl⟩ ?_
  refine mv_nameH hs (fun h84 hs => ?_)
  refine mv_putr (fl := [some (some 35), none, none, none, none, none, none, some (some 36), some none]) (sh' := sh_74) dX4_init_28 kf_X4_22 (fun _ => ⟨rfl, by decide +kernel⟩) (by decide +kernel) (by decide) (Or.inr ⟨_, rfl⟩) rfl ?_
  exact mv_vret dX4_init_31 rfl ⟨_, rfl, rfl, rfl, mv_sat_some hs⟩
noncomputable def fX8_init_at38 (h : mv_H) : Option (mv_H) := some h
set_option maxRecDepth 100000 in
set_option maxHeartbeats 4000000 in
theorem TX8_init_at38 (G : mv_G) (d : Nat) (P : mv_H → Prop) (h : mv_H) (hs : mv_sat (fX8_init_at38 h) P) : mv_met G (d + 1) mX8_init [.ref 38] sh_76 h (mv_qv sh_76 P) := by
  unfold fX8_init_at38 at hs
  obtain ⟨D, hDe⟩ : ∃ D, D = d + 1 := ⟨_, rfl⟩
  rw [← hDe]
  have hD : d + 1 ≤ D := by omega
  refine mv_enter (lv := [.ref 38]) 0 (by decide) (by decide +kernel) rfl (Nat.le_of_ble_eq_true rfl) ?_
  refine mv_aload_n dX8_init_0 rfl ?_
  refine mv_objInit dX8_init_1 (mv_t1 133 rfl rfl) (mv_t1 20 rfl rfl) (mv_t1 21 rfl rfl) (Nat.le_of_ble_eq_true rfl) ⟨by show 1 ≤ D; omega, by show 64 ≤ 64 * D; omega⟩ ?_
  exact mv_vret dX8_init_4 rfl ⟨_, rfl, rfl, rfl, mv_sat_some hs⟩
noncomputable def fX6_init_at39 (h : mv_H) : Option (mv_H) := mv_let (mv_z h 40) fun h89 : mv_H => some h89
set_option maxRecDepth 100000 in
set_option maxHeartbeats 4000000 in
theorem TX6_init_at39 (G : mv_G) (d : Nat) (P : mv_H → Prop) (h : mv_H) (hs : mv_sat (fX6_init_at39 h) P) : mv_met G (d + 1) mX6_init [.ref 39] sh_78 h (mv_qv sh_80 P) := by
  unfold fX6_init_at39 at hs
  obtain ⟨D, hDe⟩ : ∃ D, D = d + 1 := ⟨_, rfl⟩
  rw [← hDe]
  have hD : d + 1 ≤ D := by omega
  refine mv_enter (lv := [.ref 39]) 0 (by decide) (by decide +kernel) rfl (Nat.le_of_ble_eq_true rfl) ?_
  refine mv_aload_n dX6_init_0 rfl ?_
  refine mv_objInit dX6_init_1 (mv_t1 155 rfl rfl) (mv_t1 20 rfl rfl) (mv_t1 21 rfl rfl) (Nat.le_of_ble_eq_true rfl) ⟨by show 1 ≤ D; omega, by show 64 ≤ 64 * D; omega⟩ ?_
  refine mv_aload_n dX6_init_4 rfl ?_
  refine mv_bipush 6 dX6_init_5 (by decide) ?_
  refine mv_newa (N := 6) (o := 40) (sh' := sh_79) (c' := 1) (s' := 6) dX6_init_7 (mv_t1 44 rfl rfl) (by decide) (by decide) (by decide) (by decide +kernel) (by decide) (by decide +kernel) rfl rfl ⟨Nat.le_of_ble_eq_true rfl, Nat.le_of_ble_eq_true rfl⟩ ?_
  refine mv_nameH hs (fun h89 hs => ?_)
  refine mv_putr (fl := [some none]) (sh' := sh_80) dX6_init_9 kf_X6_9 (fun _ => ⟨rfl, by decide +kernel⟩) (by decide +kernel) (by decide) (Or.inr ⟨_, rfl⟩) rfl ?_
  exact mv_vret dX6_init_12 rfl ⟨_, rfl, rfl, rfl, mv_sat_some hs⟩
noncomputable def fX0_init_at41 (h : mv_H) : Option (mv_H) := mv_let (mv_z h 42) fun h92 : mv_H => mv_let (mv_z h92 43) fun h93 : mv_H => mv_let (mv_z h93 44) fun h94 : mv_H => mv_let (mv_z h94 45) fun h95 : mv_H => some h95
set_option maxRecDepth 100000 in
set_option maxHeartbeats 4000000 in
theorem TX0_init_at41 (G : mv_G) (d : Nat) (P : mv_H → Prop) (h : mv_H) (hs : mv_sat (fX0_init_at41 h) P) : mv_met G (d + 1) mX0_init [.ref 41] sh_82 h (mv_qv sh_90 P) := by
  unfold fX0_init_at41 at hs
  obtain ⟨D, hDe⟩ : ∃ D, D = d + 1 := ⟨_, rfl⟩
  rw [← hDe]
  have hD : d + 1 ≤ D := by omega
  refine mv_enter (lv := [.ref 41]) 0 (by decide) (by decide +kernel) rfl (Nat.le_of_ble_eq_true rfl) ?_
  refine mv_aload_n dX0_init_0 rfl ?_
  refine mv_objInit dX0_init_1 (mv_t1 165 rfl rfl) (mv_t1 20 rfl rfl) (mv_t1 21 rfl rfl) (Nat.le_of_ble_eq_true rfl) ⟨by show 1 ≤ D; omega, by show 64 ≤ 64 * D; omega⟩ ?_
  refine mv_aload_n dX0_init_4 rfl ?_
  refine mv_bipush 6 dX0_init_5 (by decide) ?_
  refine mv_newa (N := 6) (o := 42) (sh' := sh_83) (c' := 1) (s' := 6) dX0_init_7 (mv_t1 44 rfl rfl) (by decide) (by decide) (by decide) (by decide +kernel) (by decide) (by decide +kernel) rfl rfl ⟨Nat.le_of_ble_eq_true rfl, Nat.le_of_ble_eq_true rfl⟩ ?_
  refine mv_nameH hs (fun h92 hs => ?_)
  refine mv_putr (fl := [some none, some none, some none, some none, none, none]) (sh' := sh_84) dX0_init_9 kf_X0_9 (fun _ => ⟨rfl, by decide +kernel⟩) (by decide +kernel) (by decide) (Or.inr ⟨_, rfl⟩) rfl ?_
  refine mv_aload_n dX0_init_12 rfl ?_
  refine mv_bipush 6 dX0_init_13 (by decide) ?_
  refine mv_newa (N := 6) (o := 43) (sh' := sh_85) (c' := 2) (s' := 12) dX0_init_15 (mv_t1 44 rfl rfl) (by decide) (by decide) (by decide) (by decide +kernel) (by decide) (by decide +kernel) rfl rfl ⟨Nat.le_of_ble_eq_true rfl, Nat.le_of_ble_eq_true rfl⟩ ?_
  refine mv_nameH hs (fun h93 hs => ?_)
  refine mv_putr (fl := [some (some 42), some none, some none, some none, none, none]) (sh' := sh_86) dX0_init_17 kf_X0_15 (fun _ => ⟨rfl, by decide +kernel⟩) (by decide +kernel) (by decide) (Or.inr ⟨_, rfl⟩) rfl ?_
  refine mv_aload_n dX0_init_20 rfl ?_
  refine mv_bipush 64 dX0_init_21 (by decide) ?_
  refine mv_newa (N := 64) (o := 44) (sh' := sh_87) (c' := 3) (s' := 76) dX0_init_23 (mv_t1 44 rfl rfl) (by decide) (by decide) (by decide) (by decide +kernel) (by decide) (by decide +kernel) rfl rfl ⟨Nat.le_of_ble_eq_true rfl, Nat.le_of_ble_eq_true rfl⟩ ?_
  refine mv_nameH hs (fun h94 hs => ?_)
  refine mv_putr (fl := [some (some 42), some (some 43), some none, some none, none, none]) (sh' := sh_88) dX0_init_25 kf_X0_18 (fun _ => ⟨rfl, by decide +kernel⟩) (by decide +kernel) (by decide) (Or.inr ⟨_, rfl⟩) rfl ?_
  refine mv_aload_n dX0_init_28 rfl ?_
  refine mv_bipush 64 dX0_init_29 (by decide) ?_
  refine mv_newa (N := 64) (o := 45) (sh' := sh_89) (c' := 4) (s' := 140) dX0_init_31 (mv_t1 44 rfl rfl) (by decide) (by decide) (by decide) (by decide +kernel) (by decide) (by decide +kernel) rfl rfl ⟨Nat.le_of_ble_eq_true rfl, Nat.le_of_ble_eq_true rfl⟩ ?_
  refine mv_nameH hs (fun h95 hs => ?_)
  refine mv_putr (fl := [some (some 42), some (some 43), some (some 44), some none, none, none]) (sh' := sh_90) dX0_init_33 kf_X0_21 (fun _ => ⟨rfl, by decide +kernel⟩) (by decide +kernel) (by decide) (Or.inr ⟨_, rfl⟩) rfl ?_
  exact mv_vret dX0_init_36 rfl ⟨_, rfl, rfl, rfl, mv_sat_some hs⟩
noncomputable def fX3_init_at46 (h : mv_H) : Option (mv_H) := mv_let (mv_z h 47) fun h98 : mv_H => mv_let (mv_z h98 48) fun h99 : mv_H => mv_let (mv_z h99 49) fun h100 : mv_H => some h100
set_option maxRecDepth 100000 in
set_option maxHeartbeats 4000000 in
theorem TX3_init_at46 (G : mv_G) (d : Nat) (P : mv_H → Prop) (h : mv_H) (hs : mv_sat (fX3_init_at46 h) P) : mv_met G (d + 1) mX3_init [.ref 46] sh_92 h (mv_qv sh_98 P) := by
  unfold fX3_init_at46 at hs
  obtain ⟨D, hDe⟩ : ∃ D, D = d + 1 := ⟨_, rfl⟩
  rw [← hDe]
  have hD : d + 1 ≤ D := by omega
  refine mv_enter (lv := [.ref 46]) 0 (by decide) (by decide +kernel) rfl (Nat.le_of_ble_eq_true rfl) ?_
  refine mv_aload_n dX3_init_0 rfl ?_
  refine mv_objInit dX3_init_1 (mv_t1 190 rfl rfl) (mv_t1 20 rfl rfl) (mv_t1 21 rfl rfl) (Nat.le_of_ble_eq_true rfl) ⟨by show 1 ≤ D; omega, by show 64 ≤ 64 * D; omega⟩ ?_
  refine mv_aload_n dX3_init_4 rfl ?_
  refine mv_bipush 6 dX3_init_5 (by decide) ?_
  refine mv_newa (N := 6) (o := 47) (sh' := sh_93) (c' := 1) (s' := 6) dX3_init_7 (mv_t1 44 rfl rfl) (by decide) (by decide) (by decide) (by decide +kernel) (by decide) (by decide +kernel) rfl rfl ⟨Nat.le_of_ble_eq_true rfl, Nat.le_of_ble_eq_true rfl⟩ ?_
  refine mv_nameH hs (fun h98 hs => ?_)
  refine mv_putr (fl := [some none, some none, some none, none, none]) (sh' := sh_94) dX3_init_9 kf_X3_9 (fun _ => ⟨rfl, by decide +kernel⟩) (by decide +kernel) (by decide) (Or.inr ⟨_, rfl⟩) rfl ?_
  refine mv_aload_n dX3_init_12 rfl ?_
  refine mv_bipush 6 dX3_init_13 (by decide) ?_
  refine mv_newa (N := 6) (o := 48) (sh' := sh_95) (c' := 2) (s' := 12) dX3_init_15 (mv_t1 44 rfl rfl) (by decide) (by decide) (by decide) (by decide +kernel) (by decide) (by decide +kernel) rfl rfl ⟨Nat.le_of_ble_eq_true rfl, Nat.le_of_ble_eq_true rfl⟩ ?_
  refine mv_nameH hs (fun h99 hs => ?_)
  refine mv_putr (fl := [some (some 47), some none, some none, none, none]) (sh' := sh_96) dX3_init_17 kf_X3_15 (fun _ => ⟨rfl, by decide +kernel⟩) (by decide +kernel) (by decide) (Or.inr ⟨_, rfl⟩) rfl ?_
  refine mv_aload_n dX3_init_20 rfl ?_
  refine mv_bipush 6 dX3_init_21 (by decide) ?_
  refine mv_newa (N := 6) (o := 49) (sh' := sh_97) (c' := 3) (s' := 18) dX3_init_23 (mv_t1 44 rfl rfl) (by decide) (by decide) (by decide) (by decide +kernel) (by decide) (by decide +kernel) rfl rfl ⟨Nat.le_of_ble_eq_true rfl, Nat.le_of_ble_eq_true rfl⟩ ?_
  refine mv_nameH hs (fun h100 hs => ?_)
  refine mv_putr (fl := [some (some 47), some (some 48), some none, none, none]) (sh' := sh_98) dX3_init_25 kf_X3_18 (fun _ => ⟨rfl, by decide +kernel⟩) (by decide +kernel) (by decide) (Or.inr ⟨_, rfl⟩) rfl ?_
  exact mv_vret dX3_init_28 rfl ⟨_, rfl, rfl, rfl, mv_sat_some hs⟩
noncomputable def fX5_init_at50 (h : mv_H) : Option (mv_H) := mv_let (mv_z h 51) fun h103 : mv_H => mv_let (mv_z h103 52) fun h104 : mv_H => mv_let (mv_z h104 53) fun h105 : mv_H => mv_let (mv_z h105 54) fun h106 : mv_H => some h106
set_option maxRecDepth 100000 in
set_option maxHeartbeats 4000000 in
theorem TX5_init_at50 (G : mv_G) (d : Nat) (P : mv_H → Prop) (h : mv_H) (hs : mv_sat (fX5_init_at50 h) P) : mv_met G (d + 1) mX5_init [.ref 50] sh_100 h (mv_qv sh_108 P) := by
  unfold fX5_init_at50 at hs
  obtain ⟨D, hDe⟩ : ∃ D, D = d + 1 := ⟨_, rfl⟩
  rw [← hDe]
  have hD : d + 1 ≤ D := by omega
  refine mv_enter (lv := [.ref 50]) 0 (by decide) (by decide +kernel) rfl (Nat.le_of_ble_eq_true rfl) ?_
  refine mv_aload_n dX5_init_0 rfl ?_
  refine mv_objInit dX5_init_1 (mv_t1 212 rfl rfl) (mv_t1 20 rfl rfl) (mv_t1 21 rfl rfl) (Nat.le_of_ble_eq_true rfl) ⟨by show 1 ≤ D; omega, by show 64 ≤ 64 * D; omega⟩ ?_
  refine mv_aload_n dX5_init_4 rfl ?_
  refine mv_bipush 6 dX5_init_5 (by decide) ?_
  refine mv_newa (N := 6) (o := 51) (sh' := sh_101) (c' := 1) (s' := 6) dX5_init_7 (mv_t1 44 rfl rfl) (by decide) (by decide) (by decide) (by decide +kernel) (by decide) (by decide +kernel) rfl rfl ⟨Nat.le_of_ble_eq_true rfl, Nat.le_of_ble_eq_true rfl⟩ ?_
  refine mv_nameH hs (fun h103 hs => ?_)
  refine mv_putr (fl := [some none, some none, some none, some none, none]) (sh' := sh_102) dX5_init_9 kf_X5_9 (fun _ => ⟨rfl, by decide +kernel⟩) (by decide +kernel) (by decide) (Or.inr ⟨_, rfl⟩) rfl ?_
  refine mv_aload_n dX5_init_12 rfl ?_
  refine mv_bipush 6 dX5_init_13 (by decide) ?_
  refine mv_newa (N := 6) (o := 52) (sh' := sh_103) (c' := 2) (s' := 12) dX5_init_15 (mv_t1 44 rfl rfl) (by decide) (by decide) (by decide) (by decide +kernel) (by decide) (by decide +kernel) rfl rfl ⟨Nat.le_of_ble_eq_true rfl, Nat.le_of_ble_eq_true rfl⟩ ?_
  refine mv_nameH hs (fun h104 hs => ?_)
  refine mv_putr (fl := [some (some 51), some none, some none, some none, none]) (sh' := sh_104) dX5_init_17 kf_X5_15 (fun _ => ⟨rfl, by decide +kernel⟩) (by decide +kernel) (by decide) (Or.inr ⟨_, rfl⟩) rfl ?_
  refine mv_aload_n dX5_init_20 rfl ?_
  refine mv_bipush 6 dX5_init_21 (by decide) ?_
  refine mv_newa (N := 6) (o := 53) (sh' := sh_105) (c' := 3) (s' := 18) dX5_init_23 (mv_t1 44 rfl rfl) (by decide) (by decide) (by decide) (by decide +kernel) (by decide) (by decide +kernel) rfl rfl ⟨Nat.le_of_ble_eq_true rfl, Nat.le_of_ble_eq_true rfl⟩ ?_
  refine mv_nameH hs (fun h105 hs => ?_)
  refine mv_putr (fl := [some (some 51), some (some 52), some none, some none, none]) (sh' := sh_106) dX5_init_25 kf_X5_18 (fun _ => ⟨rfl, by decide +kernel⟩) (by decide +kernel) (by decide) (Or.inr ⟨_, rfl⟩) rfl ?_
  refine mv_aload_n dX5_init_28 rfl ?_
  refine mv_bipush 6 dX5_init_29 (by decide) ?_
  refine mv_newa (N := 6) (o := 54) (sh' := sh_107) (c' := 4) (s' := 24) dX5_init_31 (mv_t1 44 rfl rfl) (by decide) (by decide) (by decide) (by decide +kernel) (by decide) (by decide +kernel) rfl rfl ⟨Nat.le_of_ble_eq_true rfl, Nat.le_of_ble_eq_true rfl⟩ ?_
  refine mv_nameH hs (fun h106 hs => ?_)
  refine mv_putr (fl := [some (some 51), some (some 52), some (some 53), some none, none]) (sh' := sh_108) dX5_init_33 kf_X5_21 (fun _ => ⟨rfl, by decide +kernel⟩) (by decide +kernel) (by decide) (Or.inr ⟨_, rfl⟩) rfl ?_
  exact mv_vret dX5_init_36 rfl ⟨_, rfl, rfl, rfl, mv_sat_some hs⟩
noncomputable def fX9_init_at0 (h : mv_H) : Option (mv_H) := mv_let (mv_z h 1) fun h2 : mv_H => (fX1_init_at1 h2).bind fun r27 => mv_let (mv_z r27 12) fun h28 : mv_H => (fX1_init_at12 h28).bind fun r53 => mv_let (mv_z r53 23) fun h54 : mv_H => (fX1_init_at23 h54).bind fun r79 => mv_let (mv_z r79 34) fun h80 : mv_H => (fX4_init_at34 h80).bind fun r85 => mv_let (mv_z r85 38) fun h86 : mv_H => (fX8_init_at38 h86).bind fun r87 => mv_let (mv_z r87 39) fun h88 : mv_H => (fX6_init_at39 h88).bind fun r90 => mv_let (mv_z r90 41) fun h91 : mv_H => (fX0_init_at41 h91).bind fun r96 => mv_let (mv_z r96 46) fun h97 : mv_H => (fX3_init_at46 h97).bind fun r101 => mv_let (mv_z r101 50) fun h102 : mv_H => (fX5_init_at50 h102).bind fun r107 => some r107
set_option maxRecDepth 100000 in
set_option maxHeartbeats 4000000 in
theorem TX9_init_at0 (G : mv_G) (d : Nat) (P : mv_H → Prop) (h : mv_H) (hs : mv_sat (fX9_init_at0 h) P) : mv_met G (d + 3) mX9_init [.ref 0] sh_1 h (mv_qv sh_109 P) := by
  unfold fX9_init_at0 at hs
  obtain ⟨D, hDe⟩ : ∃ D, D = d + 3 := ⟨_, rfl⟩
  rw [← hDe]
  have hD : d + 3 ≤ D := by omega
  refine mv_enter (lv := [.ref 0]) 0 (by decide) (by decide +kernel) rfl (Nat.le_of_ble_eq_true rfl) ?_
  refine mv_aload_n dX9_init_0 rfl ?_
  refine mv_objInit dX9_init_1 (mv_t1 19 rfl rfl) (mv_t1 20 rfl rfl) (mv_t1 21 rfl rfl) (Nat.le_of_ble_eq_true rfl) ⟨by show 1 ≤ D; omega, by show 64 ≤ 64 * D; omega⟩ ?_
  refine mv_aload_n dX9_init_4 rfl ?_
  refine mv_new (o := 1) (sh' := sh_2) (c' := 1) (s' := 9) dX9_init_5 kc_1 (mv_t1 22 rfl rfl) (mv_t1 23 rfl rfl) (mv_t1 2 rfl rfl) (by decide) (by decide +kernel) (by decide) (by decide +kernel) rfl rfl ⟨Nat.le_of_ble_eq_true rfl, Nat.le_of_ble_eq_true rfl⟩ ?_
  refine mv_nameH hs (fun h2 hs => ?_)
  refine mv_dup dX9_init_8 rfl ?_
  refine mv_cI' (st := [.ref 1, .ref 0]) (c' := 11) (s' := 90) dX9_init_9 kk_X9_9 rfl (TX1_init_at1 G d _ _ (mv_sat_bind hs)) rfl rfl (Nat.le_of_ble_eq_true rfl) (by omega) rfl rfl ⟨Nat.le_of_ble_eq_true rfl, Nat.le_of_ble_eq_true rfl⟩ (mv_kv fun r27 hs => ?_)
  refine mv_putr (fl := [some none, some none, some none, none, some none, some none, some none, some none, some none, some none]) (sh' := sh_23) dX9_init_12 kf_X9_10 (fun _ => ⟨rfl, by decide +kernel⟩) (by decide +kernel) (by decide) (Or.inl ⟨_, rfl⟩) rfl ?_
  refine mv_aload_n dX9_init_15 rfl ?_
  refine mv_new (o := 12) (sh' := sh_24) (c' := 12) (s' := 99) dX9_init_16 kc_1 (mv_t1 22 rfl rfl) (mv_t1 23 rfl rfl) (mv_t1 2 rfl rfl) (by decide) (by decide +kernel) (by decide) (by decide +kernel) rfl rfl ⟨Nat.le_of_ble_eq_true rfl, Nat.le_of_ble_eq_true rfl⟩ ?_
  refine mv_nameH hs (fun h28 hs => ?_)
  refine mv_dup dX9_init_19 rfl ?_
  refine mv_cI' (st := [.ref 12, .ref 0]) (c' := 22) (s' := 180) dX9_init_20 kk_X9_9 rfl (TX1_init_at12 G d _ _ (mv_sat_bind hs)) rfl rfl (Nat.le_of_ble_eq_true rfl) (by omega) rfl rfl ⟨Nat.le_of_ble_eq_true rfl, Nat.le_of_ble_eq_true rfl⟩ (mv_kv fun r53 hs => ?_)
  refine mv_putr (fl := [some (some 1), some none, some none, none, some none, some none, some none, some none, some none, some none]) (sh' := sh_45) dX9_init_23 kf_X9_16 (fun _ => ⟨rfl, by decide +kernel⟩) (by decide +kernel) (by decide) (Or.inl ⟨_, rfl⟩) rfl ?_
  refine mv_aload_n dX9_init_26 rfl ?_
  refine mv_new (o := 23) (sh' := sh_46) (c' := 23) (s' := 189) dX9_init_27 kc_1 (mv_t1 22 rfl rfl) (mv_t1 23 rfl rfl) (mv_t1 2 rfl rfl) (by decide) (by decide +kernel) (by decide) (by decide +kernel) rfl rfl ⟨Nat.le_of_ble_eq_true rfl, Nat.le_of_ble_eq_true rfl⟩ ?_
  refine mv_nameH hs (fun h54 hs => ?_)
  refine mv_dup dX9_init_30 rfl ?_
  refine mv_cI' (st := [.ref 23, .ref 0]) (c' := 33) (s' := 270) dX9_init_31 kk_X9_9 rfl (TX1_init_at23 G d _ _ (mv_sat_bind hs)) rfl rfl (Nat.le_of_ble_eq_true rfl) (by omega) rfl rfl ⟨Nat.le_of_ble_eq_true rfl, Nat.le_of_ble_eq_true rfl⟩ (mv_kv fun r79 hs => ?_)
  refine mv_putr (fl := [some (some 1), some (some 12), some none, none, some none, some none, some none, some none, some none, some none]) (sh' := sh_67) dX9_init_34 kf_X9_19 (fun _ => ⟨rfl, by decide +kernel⟩) (by decide +kernel) (by decide) (Or.inl ⟨_, rfl⟩) rfl ?_
  refine mv_aload_n dX9_init_37 rfl ?_
  refine mv_new (o := 34) (sh' := sh_68) (c' := 34) (s' := 279) dX9_init_38 kc_4 (mv_t1 94 rfl rfl) (mv_t1 95 rfl rfl) (mv_t1 5 rfl rfl) (by decide) (by decide +kernel) (by decide) (by decide +kernel) rfl rfl ⟨Nat.le_of_ble_eq_true rfl, Nat.le_of_ble_eq_true rfl⟩ ?_
  refine mv_nameH hs (fun h80 hs => ?_)
  refine mv_dup dX9_init_41 rfl ?_
  refine mv_cI' (st := [.ref 34, .ref 0]) (c' := 37) (s' := 345) dX9_init_42 kk_X9_24 rfl (TX4_init_at34 G d _ _ (mv_sat_bind hs)) rfl rfl (Nat.le_of_ble_eq_true rfl) (by omega) rfl rfl ⟨Nat.le_of_ble_eq_true rfl, Nat.le_of_ble_eq_true rfl⟩ (mv_kv fun r85 hs => ?_)
  refine mv_putr (fl := [some (some 1), some (some 12), some (some 23), none, some none, some none, some none, some none, some none, some none]) (sh' := sh_75) dX9_init_45 kf_X9_25 (fun _ => ⟨rfl, by decide +kernel⟩) (by decide +kernel) (by decide) (Or.inl ⟨_, rfl⟩) rfl ?_
  refine mv_aload_n dX9_init_48 rfl ?_
  refine mv_new (o := 38) (sh' := sh_76) (c' := 38) (s' := 350) dX9_init_49 kc_8 (mv_t1 128 rfl rfl) (mv_t1 129 rfl rfl) (mv_t1 6 rfl rfl) (by decide) (by decide +kernel) (by decide) (by decide +kernel) rfl rfl ⟨Nat.le_of_ble_eq_true rfl, Nat.le_of_ble_eq_true rfl⟩ ?_
  refine mv_nameH hs (fun h86 hs => ?_)
  refine mv_dup dX9_init_52 rfl ?_
  refine mv_cI' (st := [.ref 38, .ref 0]) (c' := 38) (s' := 350) dX9_init_53 kk_X9_31 rfl (TX8_init_at38 G d _ _ (mv_sat_bind hs)) rfl rfl (Nat.le_of_ble_eq_true rfl) (by omega) rfl rfl ⟨Nat.le_of_ble_eq_true rfl, Nat.le_of_ble_eq_true rfl⟩ (mv_kv fun r87 hs => ?_)
  refine mv_putr (fl := [some (some 1), some (some 12), some (some 23), none, some (some 34), some none, some none, some none, some none, some none]) (sh' := sh_77) dX9_init_56 kf_X9_32 (fun _ => ⟨rfl, by decide +kernel⟩) (by decide +kernel) (by decide) (Or.inl ⟨_, rfl⟩) rfl ?_
  refine mv_aload_n dX9_init_59 rfl ?_
  refine mv_new (o := 39) (sh' := sh_78) (c' := 39) (s' := 351) dX9_init_60 kc_6 (mv_t1 150 rfl rfl) (mv_t1 151 rfl rfl) (mv_t1 7 rfl rfl) (by decide) (by decide +kernel) (by decide) (by decide +kernel) rfl rfl ⟨Nat.le_of_ble_eq_true rfl, Nat.le_of_ble_eq_true rfl⟩ ?_
  refine mv_nameH hs (fun h88 hs => ?_)
  refine mv_dup dX9_init_63 rfl ?_
  refine mv_cI' (st := [.ref 39, .ref 0]) (c' := 40) (s' := 357) dX9_init_64 kk_X9_38 rfl (TX6_init_at39 G d _ _ (mv_sat_bind hs)) rfl rfl (Nat.le_of_ble_eq_true rfl) (by omega) rfl rfl ⟨Nat.le_of_ble_eq_true rfl, Nat.le_of_ble_eq_true rfl⟩ (mv_kv fun r90 hs => ?_)
  refine mv_putr (fl := [some (some 1), some (some 12), some (some 23), none, some (some 34), some (some 38), some none, some none, some none, some none]) (sh' := sh_81) dX9_init_67 kf_X9_39 (fun _ => ⟨rfl, by decide +kernel⟩) (by decide +kernel) (by decide) (Or.inl ⟨_, rfl⟩) rfl ?_
  refine mv_aload_n dX9_init_70 rfl ?_
  refine mv_new (o := 41) (sh' := sh_82) (c' := 41) (s' := 363) dX9_init_71 kc_0 (mv_t1 160 rfl rfl) (mv_t1 161 rfl rfl) (mv_t1 8 rfl rfl) (by decide) (by decide +kernel) (by decide) (by decide +kernel) rfl rfl ⟨Nat.le_of_ble_eq_true rfl, Nat.le_of_ble_eq_true rfl⟩ ?_
  refine mv_nameH hs (fun h91 hs => ?_)
  refine mv_dup dX9_init_74 rfl ?_
  refine mv_cI' (st := [.ref 41, .ref 0]) (c' := 45) (s' := 503) dX9_init_75 kk_X9_45 rfl (TX0_init_at41 G d _ _ (mv_sat_bind hs)) rfl rfl (Nat.le_of_ble_eq_true rfl) (by omega) rfl rfl ⟨Nat.le_of_ble_eq_true rfl, Nat.le_of_ble_eq_true rfl⟩ (mv_kv fun r96 hs => ?_)
  refine mv_putr (fl := [some (some 1), some (some 12), some (some 23), none, some (some 34), some (some 38), some (some 39), some none, some none, some none]) (sh' := sh_91) dX9_init_78 kf_X9_46 (fun _ => ⟨rfl, by decide +kernel⟩) (by decide +kernel) (by decide) (Or.inl ⟨_, rfl⟩) rfl ?_
  refine mv_aload_n dX9_init_81 rfl ?_
  refine mv_new (o := 46) (sh' := sh_92) (c' := 46) (s' := 508) dX9_init_82 kc_3 (mv_t1 185 rfl rfl) (mv_t1 186 rfl rfl) (mv_t1 9 rfl rfl) (by decide) (by decide +kernel) (by decide) (by decide +kernel) rfl rfl ⟨Nat.le_of_ble_eq_true rfl, Nat.le_of_ble_eq_true rfl⟩ ?_
  refine mv_nameH hs (fun h97 hs => ?_)
  refine mv_dup dX9_init_85 rfl ?_
  refine mv_cI' (st := [.ref 46, .ref 0]) (c' := 49) (s' := 526) dX9_init_86 kk_X9_52 rfl (TX3_init_at46 G d _ _ (mv_sat_bind hs)) rfl rfl (Nat.le_of_ble_eq_true rfl) (by omega) rfl rfl ⟨Nat.le_of_ble_eq_true rfl, Nat.le_of_ble_eq_true rfl⟩ (mv_kv fun r101 hs => ?_)
  refine mv_putr (fl := [some (some 1), some (some 12), some (some 23), none, some (some 34), some (some 38), some (some 39), some (some 41), some none, some none]) (sh' := sh_99) dX9_init_89 kf_X9_53 (fun _ => ⟨rfl, by decide +kernel⟩) (by decide +kernel) (by decide) (Or.inl ⟨_, rfl⟩) rfl ?_
  refine mv_aload_n dX9_init_92 rfl ?_
  refine mv_new (o := 50) (sh' := sh_100) (c' := 50) (s' := 531) dX9_init_93 kc_5 (mv_t1 207 rfl rfl) (mv_t1 208 rfl rfl) (mv_t1 10 rfl rfl) (by decide) (by decide +kernel) (by decide) (by decide +kernel) rfl rfl ⟨Nat.le_of_ble_eq_true rfl, Nat.le_of_ble_eq_true rfl⟩ ?_
  refine mv_nameH hs (fun h102 hs => ?_)
  refine mv_dup dX9_init_96 rfl ?_
  refine mv_cI' (st := [.ref 50, .ref 0]) (c' := 54) (s' := 555) dX9_init_97 kk_X9_59 rfl (TX5_init_at50 G d _ _ (mv_sat_bind hs)) rfl rfl (Nat.le_of_ble_eq_true rfl) (by omega) rfl rfl ⟨Nat.le_of_ble_eq_true rfl, Nat.le_of_ble_eq_true rfl⟩ (mv_kv fun r107 hs => ?_)
  refine mv_putr (fl := [some (some 1), some (some 12), some (some 23), none, some (some 34), some (some 38), some (some 39), some (some 41), some (some 46), some none]) (sh' := sh_109) dX9_init_100 kf_X9_60 (fun _ => ⟨rfl, by decide +kernel⟩) (by decide +kernel) (by decide) (Or.inl ⟨_, rfl⟩) rfl ?_
  exact mv_vret dX9_init_103 rfl ⟨_, rfl, rfl, rfl, mv_sat_some hs⟩
noncomputable def fX10_init_at55 (h : mv_H) : Option (mv_H) := mv_let (mv_z h 56) fun h110 : mv_H => mv_let (mv_z h110 57) fun h111 : mv_H => mv_let (mv_z h111 58) fun h112 : mv_H => mv_let (mv_z h112 59) fun h113 : mv_H => mv_let (mv_z h113 60) fun h114 : mv_H => mv_let (mv_z h114 61) fun h115 : mv_H => mv_let (mv_z h115 62) fun h116 : mv_H => mv_let (mv_z h116 63) fun h117 : mv_H => mv_let (mv_z h117 64) fun h118 : mv_H => mv_let (mv_z h118 65) fun h119 : mv_H => mv_let (mv_z h119 66) fun h120 : mv_H => mv_let (mv_z h120 67) fun h121 : mv_H => mv_let (mv_z h121 68) fun h122 : mv_H => mv_let (mv_z h122 69) fun h123 : mv_H => mv_let (mv_z h123 70) fun h124 : mv_H => mv_let (mv_z h124 71) fun h125 : mv_H => mv_let (mv_z h125 72) fun h126 : mv_H => mv_let (mv_z h126 73) fun h127 : mv_H => mv_let (mv_z h127 74) fun h128 : mv_H => mv_let (mv_z h128 75) fun h129 : mv_H => mv_let (mv_z h129 76) fun h130 : mv_H => mv_let (mv_z h130 77) fun h131 : mv_H => mv_let (mv_z h131 78) fun h132 : mv_H => mv_let (mv_z h132 79) fun h133 : mv_H => mv_let (mv_z h133 80) fun h134 : mv_H => mv_let (mv_z h134 81) fun h135 : mv_H => mv_let (mv_z h135 82) fun h136 : mv_H => mv_let (mv_u h136 55 7 1) fun h137 : mv_H => mv_let (mv_u h137 55 9 1) fun h138 : mv_H => mv_let (mv_u h138 55 10 10) fun h139 : mv_H => some h139
set_option maxRecDepth 100000 in
set_option maxHeartbeats 4000000 in
theorem TX10_init_at55 (G : mv_G) (d : Nat) (P : mv_H → Prop) (h : mv_H) (hs : mv_sat (fX10_init_at55 h) P) : mv_met G (d + 1) mX10_init [.ref 55] sh_110 h (mv_qv sh_164 P) := by
  unfold fX10_init_at55 at hs
  obtain ⟨D, hDe⟩ : ∃ D, D = d + 1 := ⟨_, rfl⟩
  rw [← hDe]
  have hD : d + 1 ≤ D := by omega
  refine mv_enter (lv := [.ref 55]) 0 (by decide) (by decide +kernel) rfl (Nat.le_of_ble_eq_true rfl) ?_
  refine mv_aload_n dX10_init_0 rfl ?_
  refine mv_objInit dX10_init_1 (mv_t4 187 rfl rfl) (mv_t1 20 rfl rfl) (mv_t1 21 rfl rfl) (Nat.le_of_ble_eq_true rfl) ⟨by show 1 ≤ D; omega, by show 64 ≤ 64 * D; omega⟩ ?_
  refine mv_aload_n dX10_init_4 rfl ?_
  refine mv_bipush 18 dX10_init_5 (by decide) ?_
  refine mv_newa (N := 18) (o := 56) (sh' := sh_111) (c' := 1) (s' := 18) dX10_init_7 (mv_t1 44 rfl rfl) (by decide) (by decide) (by decide) (by decide +kernel) (by decide) (by decide +kernel) rfl rfl ⟨Nat.le_of_ble_eq_true rfl, Nat.le_of_ble_eq_true rfl⟩ ?_
  refine mv_nameH hs (fun h110 hs => ?_)
  refine mv_putr (fl := [none, none, none, some none, some none, some none, some none, none, none, none, none, some none, none, some none, none, some none, none, some none, some none, none, none, none, none, some none, some none, some none, some none, some none, some none, some none, none, some none, some none, some none, some none, none, some none, none, some none, some none, some none, some none, some none, some none, none, none]) (sh' := sh_112) dX10_init_9 kf_X10_7 (fun _ => ⟨rfl, by decide +kernel⟩) (by decide +kernel) (by decide) (Or.inr ⟨_, rfl⟩) rfl ?_
  refine mv_aload_n dX10_init_12 rfl ?_
  refine mv_bipush 18 dX10_init_13 (by decide) ?_
  refine mv_newa (N := 18) (o := 57) (sh' := sh_113) (c' := 2) (s' := 36) dX10_init_15 (mv_t1 44 rfl rfl) (by decide) (by decide) (by decide) (by decide +kernel) (by decide) (by decide +kernel) rfl rfl ⟨Nat.le_of_ble_eq_true rfl, Nat.le_of_ble_eq_true rfl⟩ ?_
  refine mv_nameH hs (fun h111 hs => ?_)
  refine mv_putr (fl := [none, none, none, some (some 56), some none, some none, some none, none, none, none, none, some none, none, some none, none, some none, none, some none, some none, none, none, none, none, some none, some none, some none, some none, some none, some none, some none, none, some none, some none, some none, some none, none, some none, none, some none, some none, some none, some none, some none, some none, none, none]) (sh' := sh_114) dX10_init_17 kf_X10_13 (fun _ => ⟨rfl, by decide +kernel⟩) (by decide +kernel) (by decide) (Or.inr ⟨_, rfl⟩) rfl ?_
  refine mv_aload_n dX10_init_20 rfl ?_
  refine mv_bipush 6 dX10_init_21 (by decide) ?_
  refine mv_newa (N := 6) (o := 58) (sh' := sh_115) (c' := 3) (s' := 42) dX10_init_23 (mv_t1 44 rfl rfl) (by decide) (by decide) (by decide) (by decide +kernel) (by decide) (by decide +kernel) rfl rfl ⟨Nat.le_of_ble_eq_true rfl, Nat.le_of_ble_eq_true rfl⟩ ?_
  refine mv_nameH hs (fun h112 hs => ?_)
  refine mv_putr (fl := [none, none, none, some (some 56), some (some 57), some none, some none, none, none, none, none, some none, none, some none, none, some none, none, some none, some none, none, none, none, none, some none, some none, some none, some none, some none, some none, some none, none, some none, some none, some none, some none, none, some none, none, some none, some none, some none, some none, some none, some none, none, none]) (sh' := sh_116) dX10_init_25 kf_X10_16 (fun _ => ⟨rfl, by decide +kernel⟩) (by decide +kernel) (by decide) (Or.inr ⟨_, rfl⟩) rfl ?_
  refine mv_aload_n dX10_init_28 rfl ?_
  refine mv_bipush 6 dX10_init_29 (by decide) ?_
  refine mv_newa (N := 6) (o := 59) (sh' := sh_117) (c' := 4) (s' := 48) dX10_init_31 (mv_t1 44 rfl rfl) (by decide) (by decide) (by decide) (by decide +kernel) (by decide) (by decide +kernel) rfl rfl ⟨Nat.le_of_ble_eq_true rfl, Nat.le_of_ble_eq_true rfl⟩ ?_
  refine mv_nameH hs (fun h113 hs => ?_)
  refine mv_putr (fl := [none, none, none, some (some 56), some (some 57), some (some 58), some none, none, none, none, none, some none, none, some none, none, some none, none, some none, some none, none, none, none, none, some none, some none, some none, some none, some none, some none, some none, none, some none, some none, some none, some none, none, some none, none, some none, some none, some none, some none, some none, some none, none, none]) (sh' := sh_118) dX10_init_33 kf_X10_19 (fun _ => ⟨rfl, by decide +kernel⟩) (by decide +kernel) (by decide) (Or.inr ⟨_, rfl⟩) rfl ?_
  refine mv_aload_n dX10_init_36 rfl ?_
  refine mv_bipush 6 dX10_init_37 (by decide) ?_
  refine mv_newa (N := 6) (o := 60) (sh' := sh_119) (c' := 5) (s' := 54) dX10_init_39 (mv_t1 44 rfl rfl) (by decide) (by decide) (by decide) (by decide +kernel) (by decide) (by decide +kernel) rfl rfl ⟨Nat.le_of_ble_eq_true rfl, Nat.le_of_ble_eq_true rfl⟩ ?_
  refine mv_nameH hs (fun h114 hs => ?_)
  refine mv_putr (fl := [none, none, none, some (some 56), some (some 57), some (some 58), some (some 59), none, none, none, none, some none, none, some none, none, some none, none, some none, some none, none, none, none, none, some none, some none, some none, some none, some none, some none, some none, none, some none, some none, some none, some none, none, some none, none, some none, some none, some none, some none, some none, some none, none, none]) (sh' := sh_120) dX10_init_41 kf_X10_22 (fun _ => ⟨rfl, by decide +kernel⟩) (by decide +kernel) (by decide) (Or.inr ⟨_, rfl⟩) rfl ?_
  refine mv_aload_n dX10_init_44 rfl ?_
  refine mv_bipush 6 dX10_init_45 (by decide) ?_
  refine mv_newa (N := 6) (o := 61) (sh' := sh_121) (c' := 6) (s' := 60) dX10_init_47 (mv_t1 44 rfl rfl) (by decide) (by decide) (by decide) (by decide +kernel) (by decide) (by decide +kernel) rfl rfl ⟨Nat.le_of_ble_eq_true rfl, Nat.le_of_ble_eq_true rfl⟩ ?_
  refine mv_nameH hs (fun h115 hs => ?_)
  refine mv_putr (fl := [none, none, none, some (some 56), some (some 57), some (some 58), some (some 59), none, none, none, none, some (some 60), none, some none, none, some none, none, some none, some none, none, none, none, none, some none, some none, some none, some none, some none, some none, some none, none, some none, some none, some none, some none, none, some none, none, some none, some none, some none, some none, some none, some none, none, none]) (sh' := sh_122) dX10_init_49 kf_X10_25 (fun _ => ⟨rfl, by decide +kernel⟩) (by decide +kernel) (by decide) (Or.inr ⟨_, rfl⟩) rfl ?_
  refine mv_aload_n dX10_init_52 rfl ?_
  refine mv_bipush 60 dX10_init_53 (by decide) ?_
  refine mv_newa (N := 60) (o := 62) (sh' := sh_123) (c' := 7) (s' := 120) dX10_init_55 (mv_t1 44 rfl rfl) (by decide) (by decide) (by decide) (by decide +kernel) (by decide) (by decide +kernel) rfl rfl ⟨Nat.le_of_ble_eq_true rfl, Nat.le_of_ble_eq_true rfl⟩ ?_
  refine mv_nameH hs (fun h116 hs => ?_)
  refine mv_putr (fl := [none, none, none, some (some 56), some (some 57), some (some 58), some (some 59), none, none, none, none, some (some 60), none, some (some 61), none, some none, none, some none, some none, none, none, none, none, some none, some none, some none, some none, some none, some none, some none, none, some none, some none, some none, some none, none, some none, none, some none, some none, some none, some none, some none, some none, none, none]) (sh' := sh_124) dX10_init_57 kf_X10_28 (fun _ => ⟨rfl, by decide +kernel⟩) (by decide +kernel) (by decide) (Or.inr ⟨_, rfl⟩) rfl ?_
  refine mv_aload_n dX10_init_60 rfl ?_
  refine mv_bipush 60 dX10_init_61 (by decide) ?_
  refine mv_newa (N := 60) (o := 63) (sh' := sh_125) (c' := 8) (s' := 180) dX10_init_63 (mv_t1 44 rfl rfl) (by decide) (by decide) (by decide) (by decide +kernel) (by decide) (by decide +kernel) rfl rfl ⟨Nat.le_of_ble_eq_true rfl, Nat.le_of_ble_eq_true rfl⟩ ?_
  refine mv_nameH hs (fun h117 hs => ?_)
  refine mv_putr (fl := [none, none, none, some (some 56), some (some 57), some (some 58), some (some 59), none, none, none, none, some (some 60), none, some (some 61), none, some (some 62), none, some none, some none, none, none, none, none, some none, some none, some none, some none, some none, some none, some none, none, some none, some none, some none, some none, none, some none, none, some none, some none, some none, some none, some none, some none, none, none]) (sh' := sh_126) dX10_init_65 kf_X10_31 (fun _ => ⟨rfl, by decide +kernel⟩) (by decide +kernel) (by decide) (Or.inr ⟨_, rfl⟩) rfl ?_
  refine mv_aload_n dX10_init_68 rfl ?_
  refine mv_sipush 180 dX10_init_69 (by decide) ?_
  refine mv_newa (N := 180) (o := 64) (sh' := sh_127) (c' := 9) (s' := 360) dX10_init_72 (mv_t1 44 rfl rfl) (by decide) (by decide) (by decide) (by decide +kernel) (by decide) (by decide +kernel) rfl rfl ⟨Nat.le_of_ble_eq_true rfl, Nat.le_of_ble_eq_true rfl⟩ ?_
  refine mv_nameH hs (fun h118 hs => ?_)
  refine mv_putr (fl := [none, none, none, some (some 56), some (some 57), some (some 58), some (some 59), none, none, none, none, some (some 60), none, some (some 61), none, some (some 62), none, some (some 63), some none, none, none, none, none, some none, some none, some none, some none, some none, some none, some none, none, some none, some none, some none, some none, none, some none, none, some none, some none, some none, some none, some none, some none, none, none]) (sh' := sh_128) dX10_init_74 kf_X10_34 (fun _ => ⟨rfl, by decide +kernel⟩) (by decide +kernel) (by decide) (Or.inr ⟨_, rfl⟩) rfl ?_
  refine mv_aload_n dX10_init_77 rfl ?_
  refine mv_iconst 3 dX10_init_78 (by decide) ?_
  refine mv_newa (N := 3) (o := 65) (sh' := sh_129) (c' := 10) (s' := 363) dX10_init_79 (mv_t1 44 rfl rfl) (by decide) (by decide) (by decide) (by decide +kernel) (by decide) (by decide +kernel) rfl rfl ⟨Nat.le_of_ble_eq_true rfl, Nat.le_of_ble_eq_true rfl⟩ ?_
  refine mv_nameH hs (fun h119 hs => ?_)
  refine mv_putr (fl := [none, none, none, some (some 56), some (some 57), some (some 58), some (some 59), none, none, none, none, some (some 60), none, some (some 61), none, some (some 62), none, some (some 63), some (some 64), none, none, none, none, some none, some none, some none, some none, some none, some none, some none, none, some none, some none, some none, some none, none, some none, none, some none, some none, some none, some none, some none, some none, none, none]) (sh' := sh_130) dX10_init_81 kf_X10_37 (fun _ => ⟨rfl, by decide +kernel⟩) (by decide +kernel) (by decide) (Or.inr ⟨_, rfl⟩) rfl ?_
  refine mv_aload_n dX10_init_84 rfl ?_
  refine mv_iconst 3 dX10_init_85 (by decide) ?_
  refine mv_newa (N := 3) (o := 66) (sh' := sh_131) (c' := 11) (s' := 366) dX10_init_86 (mv_t1 44 rfl rfl) (by decide) (by decide) (by decide) (by decide +kernel) (by decide) (by decide +kernel) rfl rfl ⟨Nat.le_of_ble_eq_true rfl, Nat.le_of_ble_eq_true rfl⟩ ?_
  refine mv_nameH hs (fun h120 hs => ?_)
  refine mv_putr (fl := [none, none, none, some (some 56), some (some 57), some (some 58), some (some 59), none, none, none, none, some (some 60), none, some (some 61), none, some (some 62), none, some (some 63), some (some 64), none, none, none, none, some (some 65), some none, some none, some none, some none, some none, some none, none, some none, some none, some none, some none, none, some none, none, some none, some none, some none, some none, some none, some none, none, none]) (sh' := sh_132) dX10_init_88 kf_X10_40 (fun _ => ⟨rfl, by decide +kernel⟩) (by decide +kernel) (by decide) (Or.inr ⟨_, rfl⟩) rfl ?_
  refine mv_aload_n dX10_init_91 rfl ?_
  refine mv_iconst 3 dX10_init_92 (by decide) ?_
  refine mv_newa (N := 3) (o := 67) (sh' := sh_133) (c' := 12) (s' := 369) dX10_init_93 (mv_t1 44 rfl rfl) (by decide) (by decide) (by decide) (by decide +kernel) (by decide) (by decide +kernel) rfl rfl ⟨Nat.le_of_ble_eq_true rfl, Nat.le_of_ble_eq_true rfl⟩ ?_
  refine mv_nameH hs (fun h121 hs => ?_)
  refine mv_putr (fl := [none, none, none, some (some 56), some (some 57), some (some 58), some (some 59), none, none, none, none, some (some 60), none, some (some 61), none, some (some 62), none, some (some 63), some (some 64), none, none, none, none, some (some 65), some (some 66), some none, some none, some none, some none, some none, none, some none, some none, some none, some none, none, some none, none, some none, some none, some none, some none, some none, some none, none, none]) (sh' := sh_134) dX10_init_95 kf_X10_43 (fun _ => ⟨rfl, by decide +kernel⟩) (by decide +kernel) (by decide) (Or.inr ⟨_, rfl⟩) rfl ?_
  refine mv_aload_n dX10_init_98 rfl ?_
  refine mv_iconst 3 dX10_init_99 (by decide) ?_
  refine mv_newa (N := 3) (o := 68) (sh' := sh_135) (c' := 13) (s' := 372) dX10_init_100 (mv_t1 44 rfl rfl) (by decide) (by decide) (by decide) (by decide +kernel) (by decide) (by decide +kernel) rfl rfl ⟨Nat.le_of_ble_eq_true rfl, Nat.le_of_ble_eq_true rfl⟩ ?_
  refine mv_nameH hs (fun h122 hs => ?_)
  refine mv_putr (fl := [none, none, none, some (some 56), some (some 57), some (some 58), some (some 59), none, none, none, none, some (some 60), none, some (some 61), none, some (some 62), none, some (some 63), some (some 64), none, none, none, none, some (some 65), some (some 66), some (some 67), some none, some none, some none, some none, none, some none, some none, some none, some none, none, some none, none, some none, some none, some none, some none, some none, some none, none, none]) (sh' := sh_136) dX10_init_102 kf_X10_46 (fun _ => ⟨rfl, by decide +kernel⟩) (by decide +kernel) (by decide) (Or.inr ⟨_, rfl⟩) rfl ?_
  refine mv_aload_n dX10_init_105 rfl ?_
  refine mv_iconst 3 dX10_init_106 (by decide) ?_
  refine mv_newa (N := 3) (o := 69) (sh' := sh_137) (c' := 14) (s' := 375) dX10_init_107 (mv_t1 44 rfl rfl) (by decide) (by decide) (by decide) (by decide +kernel) (by decide) (by decide +kernel) rfl rfl ⟨Nat.le_of_ble_eq_true rfl, Nat.le_of_ble_eq_true rfl⟩ ?_
  refine mv_nameH hs (fun h123 hs => ?_)
  refine mv_putr (fl := [none, none, none, some (some 56), some (some 57), some (some 58), some (some 59), none, none, none, none, some (some 60), none, some (some 61), none, some (some 62), none, some (some 63), some (some 64), none, none, none, none, some (some 65), some (some 66), some (some 67), some (some 68), some none, some none, some none, none, some none, some none, some none, some none, none, some none, none, some none, some none, some none, some none, some none, some none, none, none]) (sh' := sh_138) dX10_init_109 kf_X10_49 (fun _ => ⟨rfl, by decide +kernel⟩) (by decide +kernel) (by decide) (Or.inr ⟨_, rfl⟩) rfl ?_
  refine mv_aload_n dX10_init_112 rfl ?_
  refine mv_iconst 4 dX10_init_113 (by decide) ?_
  refine mv_newa (N := 4) (o := 70) (sh' := sh_139) (c' := 15) (s' := 379) dX10_init_114 (mv_t1 44 rfl rfl) (by decide) (by decide) (by decide) (by decide +kernel) (by decide) (by decide +kernel) rfl rfl ⟨Nat.le_of_ble_eq_true rfl, Nat.le_of_ble_eq_true rfl⟩ ?_
  refine mv_nameH hs (fun h124 hs => ?_)
  refine mv_putr (fl := [none, none, none, some (some 56), some (some 57), some (some 58), some (some 59), none, none, none, none, some (some 60), none, some (some 61), none, some (some 62), none, some (some 63), some (some 64), none, none, none, none, some (some 65), some (some 66), some (some 67), some (some 68), some (some 69), some none, some none, none, some none, some none, some none, some none, none, some none, none, some none, some none, some none, some none, some none, some none, none, none]) (sh' := sh_140) dX10_init_116 kf_X10_52 (fun _ => ⟨rfl, by decide +kernel⟩) (by decide +kernel) (by decide) (Or.inr ⟨_, rfl⟩) rfl ?_
  refine mv_aload_n dX10_init_119 rfl ?_
  refine mv_iconst 4 dX10_init_120 (by decide) ?_
  refine mv_newa (N := 4) (o := 71) (sh' := sh_141) (c' := 16) (s' := 383) dX10_init_121 (mv_t1 44 rfl rfl) (by decide) (by decide) (by decide) (by decide +kernel) (by decide) (by decide +kernel) rfl rfl ⟨Nat.le_of_ble_eq_true rfl, Nat.le_of_ble_eq_true rfl⟩ ?_
  refine mv_nameH hs (fun h125 hs => ?_)
  refine mv_putr (fl := [none, none, none, some (some 56), some (some 57), some (some 58), some (some 59), none, none, none, none, some (some 60), none, some (some 61), none, some (some 62), none, some (some 63), some (some 64), none, none, none, none, some (some 65), some (some 66), some (some 67), some (some 68), some (some 69), some (some 70), some none, none, some none, some none, some none, some none, none, some none, none, some none, some none, some none, some none, some none, some none, none, none]) (sh' := sh_142) dX10_init_123 kf_X10_55 (fun _ => ⟨rfl, by decide +kernel⟩) (by decide +kernel) (by decide) (Or.inr ⟨_, rfl⟩) rfl ?_
  refine mv_aload_n dX10_init_126 rfl ?_
  refine mv_bipush 16 dX10_init_127 (by decide) ?_
  refine mv_newa (N := 16) (o := 72) (sh' := sh_143) (c' := 17) (s' := 399) dX10_init_129 (mv_t1 44 rfl rfl) (by decide) (by decide) (by decide) (by decide +kernel) (by decide) (by decide +kernel) rfl rfl ⟨Nat.le_of_ble_eq_true rfl, Nat.le_of_ble_eq_true rfl⟩ ?_
  refine mv_nameH hs (fun h126 hs => ?_)
  refine mv_putr (fl := [none, none, none, some (some 56), some (some 57), some (some 58), some (some 59), none, none, none, none, some (some 60), none, some (some 61), none, some (some 62), none, some (some 63), some (some 64), none, none, none, none, some (some 65), some (some 66), some (some 67), some (some 68), some (some 69), some (some 70), some (some 71), none, some none, some none, some none, some none, none, some none, none, some none, some none, some none, some none, some none, some none, none, none]) (sh' := sh_144) dX10_init_131 kf_X10_58 (fun _ => ⟨rfl, by decide +kernel⟩) (by decide +kernel) (by decide) (Or.inr ⟨_, rfl⟩) rfl ?_
  refine mv_aload_n dX10_init_134 rfl ?_
  refine mv_bipush 16 dX10_init_135 (by decide) ?_
  refine mv_newa (N := 16) (o := 73) (sh' := sh_145) (c' := 18) (s' := 415) dX10_init_137 (mv_t1 44 rfl rfl) (by decide) (by decide) (by decide) (by decide +kernel) (by decide) (by decide +kernel) rfl rfl ⟨Nat.le_of_ble_eq_true rfl, Nat.le_of_ble_eq_true rfl⟩ ?_
  refine mv_nameH hs (fun h127 hs => ?_)
  refine mv_putr (fl := [none, none, none, some (some 56), some (some 57), some (some 58), some (some 59), none, none, none, none, some (some 60), none, some (some 61), none, some (some 62), none, some (some 63), some (some 64), none, none, none, none, some (some 65), some (some 66), some (some 67), some (some 68), some (some 69), some (some 70), some (some 71), none, some (some 72), some none, some none, some none, none, some none, none, some none, some none, some none, some none, some none, some none, none, none]) (sh' := sh_146) dX10_init_139 kf_X10_61 (fun _ => ⟨rfl, by decide +kernel⟩) (by decide +kernel) (by decide) (Or.inr ⟨_, rfl⟩) rfl ?_
  refine mv_aload_n dX10_init_142 rfl ?_
  refine mv_sipush 4000 dX10_init_143 (by decide) ?_
  refine mv_newa (N := 4000) (o := 74) (sh' := sh_147) (c' := 19) (s' := 4415) dX10_init_146 (mv_t1 44 rfl rfl) (by decide) (by decide) (by decide) (by decide +kernel) (by decide) (by decide +kernel) rfl rfl ⟨Nat.le_of_ble_eq_true rfl, Nat.le_of_ble_eq_true rfl⟩ ?_
  refine mv_nameH hs (fun h128 hs => ?_)
  refine mv_putr (fl := [none, none, none, some (some 56), some (some 57), some (some 58), some (some 59), none, none, none, none, some (some 60), none, some (some 61), none, some (some 62), none, some (some 63), some (some 64), none, none, none, none, some (some 65), some (some 66), some (some 67), some (some 68), some (some 69), some (some 70), some (some 71), none, some (some 72), some (some 73), some none, some none, none, some none, none, some none, some none, some none, some none, some none, some none, none, none]) (sh' := sh_148) dX10_init_148 kf_X10_64 (fun _ => ⟨rfl, by decide +kernel⟩) (by decide +kernel) (by decide) (Or.inr ⟨_, rfl⟩) rfl ?_
  refine mv_aload_n dX10_init_151 rfl ?_
  refine mv_sipush 4000 dX10_init_152 (by decide) ?_
  refine mv_newa (N := 4000) (o := 75) (sh' := sh_149) (c' := 20) (s' := 8415) dX10_init_155 (mv_t1 44 rfl rfl) (by decide) (by decide) (by decide) (by decide +kernel) (by decide) (by decide +kernel) rfl rfl ⟨Nat.le_of_ble_eq_true rfl, Nat.le_of_ble_eq_true rfl⟩ ?_
  refine mv_nameH hs (fun h129 hs => ?_)
  refine mv_putr (fl := [none, none, none, some (some 56), some (some 57), some (some 58), some (some 59), none, none, none, none, some (some 60), none, some (some 61), none, some (some 62), none, some (some 63), some (some 64), none, none, none, none, some (some 65), some (some 66), some (some 67), some (some 68), some (some 69), some (some 70), some (some 71), none, some (some 72), some (some 73), some (some 74), some none, none, some none, none, some none, some none, some none, some none, some none, some none, none, none]) (sh' := sh_150) dX10_init_157 kf_X10_67 (fun _ => ⟨rfl, by decide +kernel⟩) (by decide +kernel) (by decide) (Or.inr ⟨_, rfl⟩) rfl ?_
  refine mv_aload_n dX10_init_160 rfl ?_
  refine mv_bipush 6 dX10_init_161 (by decide) ?_
  refine mv_newa (N := 6) (o := 76) (sh' := sh_151) (c' := 21) (s' := 8421) dX10_init_163 (mv_t1 44 rfl rfl) (by decide) (by decide) (by decide) (by decide +kernel) (by decide) (by decide +kernel) rfl rfl ⟨Nat.le_of_ble_eq_true rfl, Nat.le_of_ble_eq_true rfl⟩ ?_
  refine mv_nameH hs (fun h130 hs => ?_)
  refine mv_putr (fl := [none, none, none, some (some 56), some (some 57), some (some 58), some (some 59), none, none, none, none, some (some 60), none, some (some 61), none, some (some 62), none, some (some 63), some (some 64), none, none, none, none, some (some 65), some (some 66), some (some 67), some (some 68), some (some 69), some (some 70), some (some 71), none, some (some 72), some (some 73), some (some 74), some (some 75), none, some none, none, some none, some none, some none, some none, some none, some none, none, none]) (sh' := sh_152) dX10_init_165 kf_X10_70 (fun _ => ⟨rfl, by decide +kernel⟩) (by decide +kernel) (by decide) (Or.inr ⟨_, rfl⟩) rfl ?_
  refine mv_aload_n dX10_init_168 rfl ?_
  refine mv_bipush 6 dX10_init_169 (by decide) ?_
  refine mv_newa (N := 6) (o := 77) (sh' := sh_153) (c' := 22) (s' := 8427) dX10_init_171 (mv_t1 44 rfl rfl) (by decide) (by decide) (by decide) (by decide +kernel) (by decide) (by decide +kernel) rfl rfl ⟨Nat.le_of_ble_eq_true rfl, Nat.le_of_ble_eq_true rfl⟩ ?_
  refine mv_nameH hs (fun h131 hs => ?_)
  refine mv_putr (fl := [none, none, none, some (some 56), some (some 57), some (some 58), some (some 59), none, none, none, none, some (some 60), none, some (some 61), none, some (some 62), none, some (some 63), some (some 64), none, none, none, none, some (some 65), some (some 66), some (some 67), some (some 68), some (some 69), some (some 70), some (some 71), none, some (some 72), some (some 73), some (some 74), some (some 75), none, some (some 76), none, some none, some none, some none, some none, some none, some none, none, none]) (sh' := sh_154) dX10_init_173 kf_X10_73 (fun _ => ⟨rfl, by decide +kernel⟩) (by decide +kernel) (by decide) (Or.inr ⟨_, rfl⟩) rfl ?_
  refine mv_aload_n dX10_init_176 rfl ?_
  refine mv_bipush 6 dX10_init_177 (by decide) ?_
  refine mv_newa (N := 6) (o := 78) (sh' := sh_155) (c' := 23) (s' := 8433) dX10_init_179 (mv_t1 44 rfl rfl) (by decide) (by decide) (by decide) (by decide +kernel) (by decide) (by decide +kernel) rfl rfl ⟨Nat.le_of_ble_eq_true rfl, Nat.le_of_ble_eq_true rfl⟩ ?_
  refine mv_nameH hs (fun h132 hs => ?_)
  refine mv_putr (fl := [none, none, none, some (some 56), some (some 57), some (some 58), some (some 59), none, none, none, none, some (some 60), none, some (some 61), none, some (some 62), none, some (some 63), some (some 64), none, none, none, none, some (some 65), some (some 66), some (some 67), some (some 68), some (some 69), some (some 70), some (some 71), none, some (some 72), some (some 73), some (some 74), some (some 75), none, some (some 76), none, some (some 77), some none, some none, some none, some none, some none, none, none]) (sh' := sh_156) dX10_init_181 kf_X10_76 (fun _ => ⟨rfl, by decide +kernel⟩) (by decide +kernel) (by decide) (Or.inr ⟨_, rfl⟩) rfl ?_
  refine mv_aload_n dX10_init_184 rfl ?_
  refine mv_bipush 6 dX10_init_185 (by decide) ?_
  refine mv_newa (N := 6) (o := 79) (sh' := sh_157) (c' := 24) (s' := 8439) dX10_init_187 (mv_t1 44 rfl rfl) (by decide) (by decide) (by decide) (by decide +kernel) (by decide) (by decide +kernel) rfl rfl ⟨Nat.le_of_ble_eq_true rfl, Nat.le_of_ble_eq_true rfl⟩ ?_
  refine mv_nameH hs (fun h133 hs => ?_)
  refine mv_putr (fl := [none, none, none, some (some 56), some (some 57), some (some 58), some (some 59), none, none, none, none, some (some 60), none, some (some 61), none, some (some 62), none, some (some 63), some (some 64), none, none, none, none, some (some 65), some (some 66), some (some 67), some (some 68), some (some 69), some (some 70), some (some 71), none, some (some 72), some (some 73), some (some 74), some (some 75), none, some (some 76), none, some (some 77), some (some 78), some none, some none, some none, some none, none, none]) (sh' := sh_158) dX10_init_189 kf_X10_79 (fun _ => ⟨rfl, by decide +kernel⟩) (by decide +kernel) (by decide) (Or.inr ⟨_, rfl⟩) rfl ?_
  refine mv_aload_n dX10_init_192 rfl ?_
  refine mv_bipush 36 dX10_init_193 (by decide) ?_
  refine mv_newa (N := 36) (o := 80) (sh' := sh_159) (c' := 25) (s' := 8475) dX10_init_195 (mv_t1 44 rfl rfl) (by decide) (by decide) (by decide) (by decide +kernel) (by decide) (by decide +kernel) rfl rfl ⟨Nat.le_of_ble_eq_true rfl, Nat.le_of_ble_eq_true rfl⟩ ?_
  refine mv_nameH hs (fun h134 hs => ?_)
  refine mv_putr (fl := [none, none, none, some (some 56), some (some 57), some (some 58), some (some 59), none, none, none, none, some (some 60), none, some (some 61), none, some (some 62), none, some (some 63), some (some 64), none, none, none, none, some (some 65), some (some 66), some (some 67), some (some 68), some (some 69), some (some 70), some (some 71), none, some (some 72), some (some 73), some (some 74), some (some 75), none, some (some 76), none, some (some 77), some (some 78), some (some 79), some none, some none, some none, none, none]) (sh' := sh_160) dX10_init_197 kf_X10_82 (fun _ => ⟨rfl, by decide +kernel⟩) (by decide +kernel) (by decide) (Or.inr ⟨_, rfl⟩) rfl ?_
  refine mv_aload_n dX10_init_200 rfl ?_
  refine mv_sipush 200 dX10_init_201 (by decide) ?_
  refine mv_newa (N := 200) (o := 81) (sh' := sh_161) (c' := 26) (s' := 8675) dX10_init_204 (mv_t1 44 rfl rfl) (by decide) (by decide) (by decide) (by decide +kernel) (by decide) (by decide +kernel) rfl rfl ⟨Nat.le_of_ble_eq_true rfl, Nat.le_of_ble_eq_true rfl⟩ ?_
  refine mv_nameH hs (fun h135 hs => ?_)
  refine mv_putr (fl := [none, none, none, some (some 56), some (some 57), some (some 58), some (some 59), none, none, none, none, some (some 60), none, some (some 61), none, some (some 62), none, some (some 63), some (some 64), none, none, none, none, some (some 65), some (some 66), some (some 67), some (some 68), some (some 69), some (some 70), some (some 71), none, some (some 72), some (some 73), some (some 74), some (some 75), none, some (some 76), none, some (some 77), some (some 78), some (some 79), some (some 80), some none, some none, none, none]) (sh' := sh_162) dX10_init_206 kf_X10_85 (fun _ => ⟨rfl, by decide +kernel⟩) (by decide +kernel) (by decide) (Or.inr ⟨_, rfl⟩) rfl ?_
  refine mv_aload_n dX10_init_209 rfl ?_
  refine mv_iconst 2 dX10_init_210 (by decide) ?_
  refine mv_newz (N := 2) (o := 82) (sh' := sh_163) (c' := 27) (s' := 8677) dX10_init_211 (mv_t5 87 rfl rfl) (by decide) (by decide) (by decide) (by decide +kernel) (by decide) (by decide +kernel) rfl rfl ⟨Nat.le_of_ble_eq_true rfl, Nat.le_of_ble_eq_true rfl⟩ ?_
  refine mv_nameH hs (fun h136 hs => ?_)
  refine mv_putr (fl := [none, none, none, some (some 56), some (some 57), some (some 58), some (some 59), none, none, none, none, some (some 60), none, some (some 61), none, some (some 62), none, some (some 63), some (some 64), none, none, none, none, some (some 65), some (some 66), some (some 67), some (some 68), some (some 69), some (some 70), some (some 71), none, some (some 72), some (some 73), some (some 74), some (some 75), none, some (some 76), none, some (some 77), some (some 78), some (some 79), some (some 80), some (some 81), some none, none, none]) (sh' := sh_164) dX10_init_213 kf_X10_88 (fun _ => ⟨rfl, by decide +kernel⟩) (by decide +kernel) (by decide) (Or.inr ⟨_, rfl⟩) rfl ?_
  refine mv_aload_n dX10_init_216 rfl ?_
  refine mv_iconst 1 dX10_init_217 (by decide) ?_
  refine mv_puti dX10_init_218 kf_X10_92 (fun q => by cases q) (show mv_gf sh_164 55 10 7 none from ⟨_, rfl, rfl⟩) ?_
  refine mv_nameH hs (fun h137 hs => ?_)
  refine mv_aload_n dX10_init_221 rfl ?_
  refine mv_iconst 1 dX10_init_222 (by decide) ?_
  refine mv_puti dX10_init_223 kf_X10_96 (fun q => by cases q) (show mv_gf sh_164 55 10 9 none from ⟨_, rfl, rfl⟩) ?_
  refine mv_nameH hs (fun h138 hs => ?_)
  refine mv_aload_n dX10_init_226 rfl ?_
  refine mv_bipush 10 dX10_init_227 (by decide) ?_
  refine mv_puti dX10_init_229 kf_X10_99 (fun q => by cases q) (show mv_gf sh_164 55 10 10 none from ⟨_, rfl, rfl⟩) ?_
  refine mv_nameH hs (fun h139 hs => ?_)
  exact mv_vret dX10_init_232 rfl ⟨_, rfl, rfl, rfl, mv_sat_some hs⟩
noncomputable def fX9_isNumber (p0 : Int32) : Option (Int32) := if p0 < 0 then some 0 else if p0 < 6 then some 1 else some 0
set_option maxRecDepth 100000 in
set_option maxHeartbeats 4000000 in
theorem TX9_isNumber (G : mv_G) (d : Nat) (P : Int32 → Prop) (p0 : Int32) (h : mv_H) (hs : mv_sat (fX9_isNumber p0) P) : mv_met G (d + 0) mX9_isNumber [.int p0] mv_SH h (mv_qi mv_SH h P) := by
  unfold fX9_isNumber at hs
  obtain ⟨D, hDe⟩ : ∃ D, D = d + 0 := ⟨_, rfl⟩
  rw [← hDe]
  have hD : d + 0 ≤ D := by omega
  refine mv_enter (lv := [.int p0]) 0 (by decide) (by decide +kernel) rfl (Nat.le_of_ble_eq_true rfl) ?_
  refine mv_iload_n dX9_isNumber_0 rfl ?_
  refine mv_if_lt dX9_isNumber_1 hs (fun _ hs => ?_) (fun _ hs => ?_)
  · refine mv_iconst 0 dX9_isNumber_14 (by decide) ?_
    exact mv_zret dX9_isNumber_15 rfl (Or.inl rfl) ⟨_, rfl, rfl, rfl, mv_sat_some hs⟩
  · refine mv_iload_n dX9_isNumber_4 rfl ?_
    refine mv_bipush 6 dX9_isNumber_5 (by decide) ?_
    refine mv_icmp_ge dX9_isNumber_7 hs (fun _ hs => ?_) (fun _ hs => ?_)
    · refine mv_iconst 1 dX9_isNumber_10 (by decide) ?_
      refine mv_goto dX9_isNumber_11 ?_
      exact mv_zret dX9_isNumber_15 rfl (Or.inr rfl) ⟨_, rfl, rfl, rfl, mv_sat_some hs⟩
    · refine mv_iconst 0 dX9_isNumber_14 (by decide) ?_
      exact mv_zret dX9_isNumber_15 rfl (Or.inl rfl) ⟨_, rfl, rfl, rfl, mv_sat_some hs⟩
noncomputable def fX9_isWithin (p0 : Int32) (p1 : Int32) (p2 : Int32) : Option (Int32) := if p0 < p1 then some 0 else if p2 < p0 then some 0 else some 1
set_option maxRecDepth 100000 in
set_option maxHeartbeats 4000000 in
theorem TX9_isWithin (G : mv_G) (d : Nat) (P : Int32 → Prop) (p0 : Int32) (p1 : Int32) (p2 : Int32) (h : mv_H) (hs : mv_sat (fX9_isWithin p0 p1 p2) P) : mv_met G (d + 0) mX9_isWithin [.int p0, .int p1, .int p2] mv_SH h (mv_qi mv_SH h P) := by
  unfold fX9_isWithin at hs
  obtain ⟨D, hDe⟩ : ∃ D, D = d + 0 := ⟨_, rfl⟩
  rw [← hDe]
  have hD : d + 0 ≤ D := by omega
  refine mv_enter (lv := [.int p0, .int p1, .int p2]) 0 (by decide) (by decide +kernel) rfl (Nat.le_of_ble_eq_true rfl) ?_
  refine mv_iload_n dX9_isWithin_0 rfl ?_
  refine mv_iload_n dX9_isWithin_1 rfl ?_
  refine mv_icmp_lt dX9_isWithin_2 hs (fun _ hs => ?_) (fun _ hs => ?_)
  · refine mv_iconst 0 dX9_isWithin_14 (by decide) ?_
    exact mv_zret dX9_isWithin_15 rfl (Or.inl rfl) ⟨_, rfl, rfl, rfl, mv_sat_some hs⟩
  · refine mv_iload_n dX9_isWithin_5 rfl ?_
    refine mv_iload_n dX9_isWithin_6 rfl ?_
    refine mv_icmp_gt dX9_isWithin_7 hs (fun _ hs => ?_) (fun _ hs => ?_)
    · refine mv_iconst 0 dX9_isWithin_14 (by decide) ?_
      exact mv_zret dX9_isWithin_15 rfl (Or.inl rfl) ⟨_, rfl, rfl, rfl, mv_sat_some hs⟩
    · refine mv_iconst 1 dX9_isWithin_10 (by decide) ?_
      refine mv_goto dX9_isWithin_11 ?_
      exact mv_zret dX9_isWithin_15 rfl (Or.inr rfl) ⟨_, rfl, rfl, rfl, mv_sat_some hs⟩
noncomputable def fX9_isSide (p0 : Int32) : Option (Int32) := (fX9_isWithin p0 (1 : Int32) (20 : Int32)).bind fun r142 => if mv_01 r142 then some r142 else none
set_option maxRecDepth 100000 in
set_option maxHeartbeats 4000000 in
theorem TX9_isSide (G : mv_G) (d : Nat) (P : Int32 → Prop) (p0 : Int32) (h : mv_H) (hs : mv_sat (fX9_isSide p0) P) : mv_met G (d + 1) mX9_isSide [.int p0] mv_SH h (mv_qi mv_SH h P) := by
  unfold fX9_isSide at hs
  obtain ⟨D, hDe⟩ : ∃ D, D = d + 1 := ⟨_, rfl⟩
  rw [← hDe]
  have hD : d + 1 ≤ D := by omega
  refine mv_enter (lv := [.int p0]) 0 (by decide) (by decide +kernel) rfl (Nat.le_of_ble_eq_true rfl) ?_
  refine mv_iload_n dX9_isSide_0 rfl ?_
  refine mv_iconst 1 dX9_isSide_1 (by decide) ?_
  refine mv_bipush 20 dX9_isSide_2 (by decide) ?_
  refine mv_cS (st := []) dX9_isSide_4 kk_X9_79 (TX9_isWithin G d _ _ _ _ _ (mv_sat_bind hs)) rfl rfl (Nat.le_of_ble_eq_true rfl) (by omega) rfl ⟨Nat.zero_le _, Nat.zero_le _⟩ (mv_ki fun r142 hs => ?_)
  obtain ⟨h01, hs⟩ := mv_sat_g hs
  exact mv_zret dX9_isSide_7 rfl h01 ⟨_, rfl, rfl, rfl, mv_sat_some hs⟩
noncomputable def fX7_put_2 (p0 : Int32) (p1 : Int32) (p2 : Int32) (p3 : Int32) (h : mv_H) : Option (mv_H) := (fX9_isNumber p0).bind fun r146 => if r146 = 0 then some h else if mv_in (p0 * 3) 18 then mv_let (mv_u h 3 (p0 * 3).toNatClampNeg p1) fun h147 : mv_H => (if mv_in ((p0 * 3) + 1) 18 then mv_let (mv_u h147 3 ((p0 * 3) + 1).toNatClampNeg p2) fun h148 : mv_H => (if mv_in ((p0 * 3) + 2) 18 then mv_let (mv_u h148 3 ((p0 * 3) + 2).toNatClampNeg p3) fun h149 : mv_H => (mv_let (mv_u h149 2 2 ((h149 2 2) ||| (1 <<< (p0 &&& 31)))) fun h150 : mv_H => some h150) else none) else none) else none
set_option maxRecDepth 100000 in
set_option maxHeartbeats 4000000 in
theorem TX7_put_2 (G : mv_G) (d : Nat) (P : mv_H → Prop) (p0 : Int32) (p1 : Int32) (p2 : Int32) (p3 : Int32) (h : mv_H) (hs : mv_sat (fX7_put_2 p0 p1 p2 p3 h) P) : mv_met G (d + 1) mX7_put [.ref 2, .int p0, .int p1, .int p2, .int p3] mv_SH h (mv_qv mv_SH P) := by
  unfold fX7_put_2 at hs
  obtain ⟨D, hDe⟩ : ∃ D, D = d + 1 := ⟨_, rfl⟩
  rw [← hDe]
  have hD : d + 1 ≤ D := by omega
  refine mv_enter (lv := [.ref 2, .int p0, .int p1, .int p2, .int p3]) 0 (by decide) (by decide +kernel) rfl (Nat.le_of_ble_eq_true rfl) ?_
  refine mv_iload_n dX7_put_0 rfl ?_
  refine mv_cS (st := []) dX7_put_1 kk_X7_28 (TX9_isNumber G d _ _ _ (mv_sat_bind hs)) rfl rfl (Nat.le_of_ble_eq_true rfl) (by omega) rfl ⟨Nat.zero_le _, Nat.zero_le _⟩ (mv_ki fun r146 hs => ?_)
  refine mv_if_eq dX7_put_4 hs (fun _ hs => ?_) (fun _ hs => ?_)
  · exact mv_vret dX7_put_51 rfl ⟨_, rfl, rfl, rfl, mv_sat_some hs⟩
  · refine mv_aload_n dX7_put_7 rfl ?_
    refine mv_getr dX7_put_8 kf_X7_9 gf_2_1 ?_
    refine mv_iload_n dX7_put_11 rfl ?_
    refine mv_iconst 3 dX7_put_12 (by decide) ?_
    refine mv_imul dX7_put_13 ?_
    refine mv_iload_n dX7_put_14 rfl ?_
    refine mv_iastore dX7_put_15 so_3 hs (fun hs => ?_)
    refine mv_nameH hs (fun h147 hs => ?_)
    refine mv_aload_n dX7_put_16 rfl ?_
    refine mv_getr dX7_put_17 kf_X7_9 gf_2_1 ?_
    refine mv_iload_n dX7_put_20 rfl ?_
    refine mv_iconst 3 dX7_put_21 (by decide) ?_
    refine mv_imul dX7_put_22 ?_
    refine mv_iconst 1 dX7_put_23 (by decide) ?_
    refine mv_iadd dX7_put_24 ?_
    refine mv_iload_n dX7_put_25 rfl ?_
    refine mv_iastore dX7_put_26 so_3 hs (fun hs => ?_)
    refine mv_nameH hs (fun h148 hs => ?_)
    refine mv_aload_n dX7_put_27 rfl ?_
    refine mv_getr dX7_put_28 kf_X7_9 gf_2_1 ?_
    refine mv_iload_n dX7_put_31 rfl ?_
    refine mv_iconst 3 dX7_put_32 (by decide) ?_
    refine mv_imul dX7_put_33 ?_
    refine mv_iconst 2 dX7_put_34 (by decide) ?_
    refine mv_iadd dX7_put_35 ?_
    refine mv_iload dX7_put_36 rfl ?_
    refine mv_iastore dX7_put_38 so_3 hs (fun hs => ?_)
    refine mv_nameH hs (fun h149 hs => ?_)
    refine mv_aload_n dX7_put_39 rfl ?_
    refine mv_dup dX7_put_40 rfl ?_
    refine mv_geti dX7_put_41 kf_X7_19 gf_2_2 ?_
    refine mv_iconst 1 dX7_put_44 (by decide) ?_
    refine mv_iload_n dX7_put_45 rfl ?_
    refine mv_ishl dX7_put_46 ?_
    refine mv_ior dX7_put_47 ?_
    refine mv_puti dX7_put_48 kf_X7_19 (fun q => by cases q) gf_2_2 ?_
    refine mv_nameH hs (fun h150 hs => ?_)
    exact mv_vret dX7_put_51 rfl ⟨_, rfl, rfl, rfl, mv_sat_some hs⟩
noncomputable def fJ6_bitCount_0f7a4 (p0 : Int32) : Option (Int32) := mv_let (p0 - (((p0.toUInt32 >>> ((1 : Int32).toUInt32 &&& Int32.toUInt32 31)).toInt32) &&& 1431655765)) fun x152 : Int32 => mv_let ((x152 &&& 858993459) + (((x152.toUInt32 >>> ((2 : Int32).toUInt32 &&& Int32.toUInt32 31)).toInt32) &&& 858993459)) fun x153 : Int32 => mv_let ((x153 + ((x153.toUInt32 >>> ((4 : Int32).toUInt32 &&& Int32.toUInt32 31)).toInt32)) &&& 252645135) fun x154 : Int32 => mv_let (x154 + ((x154.toUInt32 >>> ((8 : Int32).toUInt32 &&& Int32.toUInt32 31)).toInt32)) fun x155 : Int32 => mv_let (x155 + ((x155.toUInt32 >>> ((16 : Int32).toUInt32 &&& Int32.toUInt32 31)).toInt32)) fun x156 : Int32 => some (x156 &&& 63)
set_option maxRecDepth 100000 in
set_option maxHeartbeats 4000000 in
theorem TJ6_bitCount_0f7a4 (G : mv_G) (d : Nat) (P : Int32 → Prop) (p0 : Int32) (h : mv_H) (hs : mv_sat (fJ6_bitCount_0f7a4 p0) P) : mv_met G (d + 0) mJ6_bitCount_0f7a4 [.int p0] mv_SH h (mv_qi mv_SH h P) := by
  unfold fJ6_bitCount_0f7a4 at hs
  obtain ⟨D, hDe⟩ : ∃ D, D = d + 0 := ⟨_, rfl⟩
  rw [← hDe]
  have hD : d + 0 ≤ D := by omega
  refine mv_enter (lv := [.int p0]) 0 (by decide) (by decide +kernel) rfl (Nat.le_of_ble_eq_true rfl) ?_
  refine mv_iload_n dJ6_bitCount_0f7a4_0 rfl ?_
  refine mv_iload_n dJ6_bitCount_0f7a4_1 rfl ?_
  refine mv_iconst 1 dJ6_bitCount_0f7a4_2 (by decide) ?_
  refine mv_iushr dJ6_bitCount_0f7a4_3 ?_
  refine mv_ldcw dJ6_bitCount_0f7a4_4 kn_J6_265 ?_
  refine mv_iand dJ6_bitCount_0f7a4_7 ?_
  refine mv_isub dJ6_bitCount_0f7a4_8 ?_
  refine mv_name hs (fun x152 hs => ?_)
  refine mv_istore_n (lv' := [.int x152]) dJ6_bitCount_0f7a4_9 (Nat.le_of_ble_eq_true rfl) rfl rfl ?_
  refine mv_iload_n dJ6_bitCount_0f7a4_10 rfl ?_
  refine mv_ldcw dJ6_bitCount_0f7a4_11 kn_J6_266 ?_
  refine mv_iand dJ6_bitCount_0f7a4_14 ?_
  refine mv_iload_n dJ6_bitCount_0f7a4_15 rfl ?_
  refine mv_iconst 2 dJ6_bitCount_0f7a4_16 (by decide) ?_
  refine mv_iushr dJ6_bitCount_0f7a4_17 ?_
  refine mv_ldcw dJ6_bitCount_0f7a4_18 kn_J6_266 ?_
  refine mv_iand dJ6_bitCount_0f7a4_21 ?_
  refine mv_iadd dJ6_bitCount_0f7a4_22 ?_
  refine mv_name hs (fun x153 hs => ?_)
  refine mv_istore_n (lv' := [.int x153]) dJ6_bitCount_0f7a4_23 (Nat.le_of_ble_eq_true rfl) rfl rfl ?_
  refine mv_iload_n dJ6_bitCount_0f7a4_24 rfl ?_
  refine mv_iload_n dJ6_bitCount_0f7a4_25 rfl ?_
  refine mv_iconst 4 dJ6_bitCount_0f7a4_26 (by decide) ?_
  refine mv_iushr dJ6_bitCount_0f7a4_27 ?_
  refine mv_iadd dJ6_bitCount_0f7a4_28 ?_
  refine mv_ldcw dJ6_bitCount_0f7a4_29 kn_J6_267 ?_
  refine mv_iand dJ6_bitCount_0f7a4_32 ?_
  refine mv_name hs (fun x154 hs => ?_)
  refine mv_istore_n (lv' := [.int x154]) dJ6_bitCount_0f7a4_33 (Nat.le_of_ble_eq_true rfl) rfl rfl ?_
  refine mv_iload_n dJ6_bitCount_0f7a4_34 rfl ?_
  refine mv_iload_n dJ6_bitCount_0f7a4_35 rfl ?_
  refine mv_bipush 8 dJ6_bitCount_0f7a4_36 (by decide) ?_
  refine mv_iushr dJ6_bitCount_0f7a4_38 ?_
  refine mv_iadd dJ6_bitCount_0f7a4_39 ?_
  refine mv_name hs (fun x155 hs => ?_)
  refine mv_istore_n (lv' := [.int x155]) dJ6_bitCount_0f7a4_40 (Nat.le_of_ble_eq_true rfl) rfl rfl ?_
  refine mv_iload_n dJ6_bitCount_0f7a4_41 rfl ?_
  refine mv_iload_n dJ6_bitCount_0f7a4_42 rfl ?_
  refine mv_bipush 16 dJ6_bitCount_0f7a4_43 (by decide) ?_
  refine mv_iushr dJ6_bitCount_0f7a4_45 ?_
  refine mv_iadd dJ6_bitCount_0f7a4_46 ?_
  refine mv_name hs (fun x156 hs => ?_)
  refine mv_istore_n (lv' := [.int x156]) dJ6_bitCount_0f7a4_47 (Nat.le_of_ble_eq_true rfl) rfl rfl ?_
  refine mv_iload_n dJ6_bitCount_0f7a4_48 rfl ?_
  refine mv_bipush 63 dJ6_bitCount_0f7a4_49 (by decide) ?_
  refine mv_iand dJ6_bitCount_0f7a4_51 ?_
  exact mv_iret dJ6_bitCount_0f7a4_52 rfl ⟨_, rfl, rfl, rfl, mv_sat_some hs⟩
noncomputable def fX7_count_2 (h : mv_H) : Option (Int32) := (fJ6_bitCount_0f7a4 (h 2 2)).bind fun r157 => some r157
set_option maxRecDepth 100000 in
set_option maxHeartbeats 4000000 in
theorem TX7_count_2 (G : mv_G) (d : Nat) (P : Int32 → Prop) (h : mv_H) (hs : mv_sat (fX7_count_2 h) P) : mv_met G (d + 1) mX7_count [.ref 2] mv_SH h (mv_qi mv_SH h P) := by
  unfold fX7_count_2 at hs
  obtain ⟨D, hDe⟩ : ∃ D, D = d + 1 := ⟨_, rfl⟩
  rw [← hDe]
  have hD : d + 1 ≤ D := by omega
  refine mv_enter (lv := [.ref 2]) 0 (by decide) (by decide +kernel) rfl (Nat.le_of_ble_eq_true rfl) ?_
  refine mv_aload_n dX7_count_0 rfl ?_
  refine mv_geti dX7_count_1 kf_X7_19 gf_2_2 ?_
  refine mv_cS (st := []) dX7_count_4 kk_X7_22 (TJ6_bitCount_0f7a4 G d _ _ _ (mv_sat_bind hs)) rfl rfl (Nat.le_of_ble_eq_true rfl) (by omega) rfl ⟨Nat.zero_le _, Nat.zero_le _⟩ (mv_ki fun r157 hs => ?_)
  exact mv_iret dX7_count_7 rfl ⟨_, rfl, rfl, rfl, mv_sat_some hs⟩
noncomputable def fX9_putSolid_0_2 (p0 : Int32) (p1 : Int32) (p2 : Int32) (p3 : Int32) (h : mv_H) : Option (Int32 × mv_H) := (fX9_isNumber p0).bind fun r141 => if r141 = 0 then some ((-1), h) else (fX9_isSide p1).bind fun r143 => if r143 = 0 then some ((-2), h) else (fX9_isSide p2).bind fun r144 => if r144 = 0 then some ((-2), h) else (fX9_isSide p3).bind fun r145 => if r145 = 0 then some ((-2), h) else (fX7_put_2 p0 p1 p2 p3 h).bind fun r151 => (fX7_count_2 r151).bind fun r158 => some (r158, r151)
set_option maxRecDepth 100000 in
set_option maxHeartbeats 4000000 in
theorem TX9_putSolid_0_2 (G : mv_G) (d : Nat) (P : Int32 × mv_H → Prop) (p0 : Int32) (p1 : Int32) (p2 : Int32) (p3 : Int32) (h : mv_H) (hs : mv_sat (fX9_putSolid_0_2 p0 p1 p2 p3 h) P) : mv_met G (d + 2) mX9_putSolid [.ref 0, .ref 2, .int p0, .int p1, .int p2, .int p3] mv_SH h (mv_qI mv_SH P) := by
  unfold fX9_putSolid_0_2 at hs
  obtain ⟨D, hDe⟩ : ∃ D, D = d + 2 := ⟨_, rfl⟩
  rw [← hDe]
  have hD : d + 2 ≤ D := by omega
  refine mv_enter (lv := [.ref 0, .ref 2, .int p0, .int p1, .int p2, .int p3]) 0 (by decide) (by decide +kernel) rfl (Nat.le_of_ble_eq_true rfl) ?_
  refine mv_iload_n dX9_putSolid_0 rfl ?_
  refine mv_cS (st := []) dX9_putSolid_1 kk_X9_75 (TX9_isNumber G d _ _ _ (mv_sat_bind hs)) rfl rfl (Nat.le_of_ble_eq_true rfl) (by omega) rfl ⟨Nat.zero_le _, Nat.zero_le _⟩ (mv_ki fun r141 hs => ?_)
  refine mv_if_ne dX9_putSolid_4 hs (fun _ hs => ?_) (fun _ hs => ?_)
  · refine mv_iconst (-1) dX9_putSolid_7 (by decide) ?_
    exact mv_iret dX9_putSolid_8 rfl ⟨((-1), h), rfl, rfl, rfl, mv_sat_some hs⟩
  · refine mv_iload_n dX9_putSolid_9 rfl ?_
    refine mv_cS (st := []) dX9_putSolid_10 kk_X9_348 (TX9_isSide G d _ _ _ (mv_sat_bind hs)) rfl rfl (Nat.le_of_ble_eq_true rfl) (by omega) rfl ⟨Nat.zero_le _, Nat.zero_le _⟩ (mv_ki fun r143 hs => ?_)
    refine mv_if_eq dX9_putSolid_13 hs (fun _ hs => ?_) (fun _ hs => ?_)
    · refine mv_bipush (-2) dX9_putSolid_32 (by decide) ?_
      exact mv_iret dX9_putSolid_34 rfl ⟨((-2), h), rfl, rfl, rfl, mv_sat_some hs⟩
    · refine mv_iload dX9_putSolid_16 rfl ?_
      refine mv_cS (st := []) dX9_putSolid_18 kk_X9_348 (TX9_isSide G d _ _ _ (mv_sat_bind hs)) rfl rfl (Nat.le_of_ble_eq_true rfl) (by omega) rfl ⟨Nat.zero_le _, Nat.zero_le _⟩ (mv_ki fun r144 hs => ?_)
      refine mv_if_eq dX9_putSolid_21 hs (fun _ hs => ?_) (fun _ hs => ?_)
      · refine mv_bipush (-2) dX9_putSolid_32 (by decide) ?_
        exact mv_iret dX9_putSolid_34 rfl ⟨((-2), h), rfl, rfl, rfl, mv_sat_some hs⟩
      · refine mv_iload dX9_putSolid_24 rfl ?_
        refine mv_cS (st := []) dX9_putSolid_26 kk_X9_348 (TX9_isSide G d _ _ _ (mv_sat_bind hs)) rfl rfl (Nat.le_of_ble_eq_true rfl) (by omega) rfl ⟨Nat.zero_le _, Nat.zero_le _⟩ (mv_ki fun r145 hs => ?_)
        refine mv_if_ne dX9_putSolid_29 hs (fun _ hs => ?_) (fun _ hs => ?_)
        · refine mv_bipush (-2) dX9_putSolid_32 (by decide) ?_
          exact mv_iret dX9_putSolid_34 rfl ⟨((-2), h), rfl, rfl, rfl, mv_sat_some hs⟩
        · refine mv_aload_n dX9_putSolid_35 rfl ?_
          refine mv_iload_n dX9_putSolid_36 rfl ?_
          refine mv_iload_n dX9_putSolid_37 rfl ?_
          refine mv_iload dX9_putSolid_38 rfl ?_
          refine mv_iload dX9_putSolid_40 rfl ?_
          refine mv_cV (st := []) dX9_putSolid_42 kk_X9_86 (TX7_put_2 G d _ _ _ _ _ _ (mv_sat_bind hs)) so_2 vc_7 rfl rfl (Nat.le_of_ble_eq_true rfl) (by omega) rfl ⟨Nat.zero_le _, Nat.zero_le _⟩ (mv_kv fun r151 hs => ?_)
          refine mv_aload_n dX9_putSolid_45 rfl ?_
          refine mv_cV (st := []) dX9_putSolid_46 kk_X9_92 (TX7_count_2 G d _ _ (mv_sat_bind hs)) so_2 vc_7 rfl rfl (Nat.le_of_ble_eq_true rfl) (by omega) rfl ⟨Nat.zero_le _, Nat.zero_le _⟩ (mv_ki fun r158 hs => ?_)
          exact mv_iret dX9_putSolid_49 rfl ⟨(r158, r151), rfl, rfl, rfl, mv_sat_some hs⟩
noncomputable def fX9_box_0 (p0 : Int32) (p1 : Int32) (p2 : Int32) (p3 : Int32) (h : mv_H) : Option (Int32 × mv_H) := (fX9_putSolid_0_2 p0 p1 p2 p3 h).bind fun r159 => some (r159.1, r159.2)
set_option maxRecDepth 100000 in
set_option maxHeartbeats 4000000 in
theorem TX9_box_0 (G : mv_G) (d : Nat) (P : Int32 × mv_H → Prop) (p0 : Int32) (p1 : Int32) (p2 : Int32) (p3 : Int32) (h : mv_H) (hs : mv_sat (fX9_box_0 p0 p1 p2 p3 h) P) : mv_met G (d + 3) mX9_box [.ref 0, .int p0, .int p1, .int p2, .int p3] mv_SH h (mv_qI mv_SH P) := by
  unfold fX9_box_0 at hs
  obtain ⟨D, hDe⟩ : ∃ D, D = d + 3 := ⟨_, rfl⟩
  rw [← hDe]
  have hD : d + 3 ≤ D := by omega
  refine mv_enter (lv := [.ref 0, .int p0, .int p1, .int p2, .int p3]) 0 (by decide) (by decide +kernel) rfl (Nat.le_of_ble_eq_true rfl) ?_
  refine mv_aload_n dX9_box_0 rfl ?_
  refine mv_aload_n dX9_box_1 rfl ?_
  refine mv_getr dX9_box_2 kf_X9_10 gf_0_0 ?_
  refine mv_getr dX9_box_5 kf_X9_64 gf_1_0 ?_
  refine mv_iload_n dX9_box_8 rfl ?_
  refine mv_iload_n dX9_box_9 rfl ?_
  refine mv_iload_n dX9_box_10 rfl ?_
  refine mv_iload dX9_box_11 rfl ?_
  refine mv_cV (st := []) dX9_box_13 kk_X9_68 (TX9_putSolid_0_2 G d _ _ _ _ _ _ (mv_sat_bind hs)) so_0 vc_9 rfl rfl (Nat.le_of_ble_eq_true rfl) (by omega) rfl ⟨Nat.zero_le _, Nat.zero_le _⟩ (mv_kI2 fun r159 hs => ?_)
  exact mv_iret dX9_box_16 rfl ⟨(r159.1, r159.2), rfl, rfl, rfl, mv_sat_some hs⟩
noncomputable def fX10_in (p0 : Int64) (p1 : Int64) (p2 : Int64) : Option (Int32) := if (lg_cmp p0 p1) < 0 then some 0 else if 0 < (lg_cmp p0 p2) then some 0 else some 1
set_option maxRecDepth 100000 in
set_option maxHeartbeats 4000000 in
theorem TX10_in (G : mv_G) (d : Nat) (P : Int32 → Prop) (p0 : Int64) (p1 : Int64) (p2 : Int64) (h : mv_H) (hs : mv_sat (fX10_in p0 p1 p2) P) : mv_met G (d + 0) mX10_in [.long p0, .long p1, .long p2] mv_SH h (mv_qi mv_SH h P) := by
  unfold fX10_in at hs
  obtain ⟨D, hDe⟩ : ∃ D, D = d + 0 := ⟨_, rfl⟩
  rw [← hDe]
  have hD : d + 0 ≤ D := by omega
  refine mv_enter (lv := [.long p0, .float 0, .long p1, .float 0, .long p2, .float 0]) 0 (by decide) (by decide +kernel) rfl (Nat.le_of_ble_eq_true rfl) ?_
  refine mv_lload_n dX10_in_0 rfl ?_
  refine mv_lload_n dX10_in_1 rfl ?_
  refine mv_lcmp dX10_in_2 ?_
  refine mv_if_lt dX10_in_3 hs (fun _ hs => ?_) (fun _ hs => ?_)
  · refine mv_iconst 0 dX10_in_17 (by decide) ?_
    exact mv_zret dX10_in_18 rfl (Or.inl rfl) ⟨_, rfl, rfl, rfl, mv_sat_some hs⟩
  · refine mv_lload_n dX10_in_6 rfl ?_
    refine mv_lload dX10_in_7 rfl ?_
    refine mv_lcmp dX10_in_9 ?_
    refine mv_if_gt dX10_in_10 hs (fun _ hs => ?_) (fun _ hs => ?_)
    · refine mv_iconst 0 dX10_in_17 (by decide) ?_
      exact mv_zret dX10_in_18 rfl (Or.inl rfl) ⟨_, rfl, rfl, rfl, mv_sat_some hs⟩
    · refine mv_iconst 1 dX10_in_13 (by decide) ?_
      refine mv_goto dX10_in_14 ?_
      exact mv_zret dX10_in_18 rfl (Or.inr rfl) ⟨_, rfl, rfl, rfl, mv_sat_some hs⟩
