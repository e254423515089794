/-! printed by program: what a method does, as a function, and that it does it -/
noncomputable def fX0_stripByWidth_41_b39 (v1 : Int32) (h : mv_H) : Option (Int32 × mv_H) := if mv_in v1 64 then (some (h 44 v1.toNatClampNeg, h)) else none
set_option maxRecDepth 100000 in
set_option maxHeartbeats 4000000 in
theorem BX0_stripByWidth_41_b39 (G : mv_G) (d D : Nat) (hD : d + 0 ≤ D) (P : Int32 × mv_H → Prop) (v1 : Int32) (h : mv_H) (hs : mv_sat (fX0_stripByWidth_41_b39 v1 h) P) : mv_MW G mX0_stripByWidth (mv_rm D mX0_stripByWidth) (mv_Zf G mX0_stripByWidth (mv_qI mv_SH P)) 0 0 39 [.ref 41, .int v1] [] mv_SH h := by
  unfold fX0_stripByWidth_41_b39 at hs
  refine mv_aload_n dX0_stripByWidth_39 rfl ?_
  refine mv_getr dX0_stripByWidth_40 kf_X0_18 gf_41_2 ?_
  refine mv_iload_n dX0_stripByWidth_43 rfl ?_
  refine mv_iaload dX0_stripByWidth_44 so_44 hs (fun hs => ?_)
  exact mv_iret dX0_stripByWidth_45 rfl ⟨(h 44 v1.toNatClampNeg, h), rfl, rfl, rfl, mv_sat_some hs⟩
noncomputable def fX0_stripByWidth_41 (p0 : Int32) (h : mv_H) : Option (Int32 × mv_H) := (fX9_isWithin p0 (0 : Int32) (63 : Int32)).bind fun r705 => if r705 = 0 then some (1000, h) else if mv_in p0 64 then (if (h 44 p0.toNatClampNeg) = (-1) then ((fX0_strip_41 mv_R p0 (h 41 4) h).bind fun r706 => if mv_in p0 64 then mv_let (mv_u h 44 p0.toNatClampNeg r706) fun h707 : mv_H => (fX0_stripByWidth_41_b39 p0 h707) else none) else fX0_stripByWidth_41_b39 p0 h) else none
set_option maxRecDepth 100000 in
set_option maxHeartbeats 4000000 in
theorem TX0_stripByWidth_41 (G : mv_G) (d : Nat) (P : Int32 × mv_H → Prop) (p0 : Int32) (h : mv_H) (hs : mv_sat (fX0_stripByWidth_41 p0 h) P) : mv_met G (d + 45) mX0_stripByWidth [.ref 41, .int p0] mv_SH h (mv_qI mv_SH P) := by
  unfold fX0_stripByWidth_41 at hs
  obtain ⟨D, hDe⟩ : ∃ D, D = d + 45 := ⟨_, rfl⟩
  rw [← hDe]
  have hD : d + 45 ≤ D := by omega
  refine mv_enter (lv := [.ref 41, .int p0]) 0 (by decide) (by decide +kernel) rfl (Nat.le_of_ble_eq_true rfl) ?_
  refine mv_iload_n dX0_stripByWidth_0 rfl ?_
  refine mv_iconst 0 dX0_stripByWidth_1 (by decide) ?_
  refine mv_bipush 63 dX0_stripByWidth_2 (by decide) ?_
  refine mv_cS (st := []) dX0_stripByWidth_4 kk_X0_60 (TX9_isWithin G d _ _ _ _ _ (mv_sat_bind hs)) rfl rfl (Nat.le_of_ble_eq_true rfl) (by omega) rfl ⟨Nat.zero_le _, Nat.zero_le _⟩ (mv_ki fun r705 hs => ?_)
  refine mv_if_ne dX0_stripByWidth_7 hs (fun _ hs => ?_) (fun _ hs => ?_)
  · refine mv_sipush 1000 dX0_stripByWidth_10 (by decide) ?_
    exact mv_iret dX0_stripByWidth_13 rfl ⟨(1000, h), rfl, rfl, rfl, mv_sat_some hs⟩
  · refine mv_aload_n dX0_stripByWidth_14 rfl ?_
    refine mv_getr dX0_stripByWidth_15 kf_X0_18 gf_41_2 ?_
    refine mv_iload_n dX0_stripByWidth_18 rfl ?_
    refine mv_iaload dX0_stripByWidth_19 so_44 hs (fun hs => ?_)
    refine mv_iconst (-1) dX0_stripByWidth_20 (by decide) ?_
    refine mv_icmp_ne dX0_stripByWidth_21 hs (fun _ hs => ?_) (fun _ hs => ?_)
    · refine mv_aload_n dX0_stripByWidth_24 rfl ?_
      refine mv_getr dX0_stripByWidth_25 kf_X0_18 gf_41_2 ?_
      refine mv_iload_n dX0_stripByWidth_28 rfl ?_
      refine mv_aload_n dX0_stripByWidth_29 rfl ?_
      refine mv_iload_n dX0_stripByWidth_30 rfl ?_
      refine mv_aload_n dX0_stripByWidth_31 rfl ?_
      refine mv_geti dX0_stripByWidth_32 kf_X0_24 gf_41_4 ?_
      refine mv_cV (st := [.int p0, .ref 44]) dX0_stripByWidth_35 kk_X0_64 (TX0_strip_41 G d mv_R _ _ _ _ (mv_sat_bind hs)) so_41 vc_0 rfl rfl (Nat.le_of_ble_eq_true rfl) (by have := mv_R_eq; omega) rfl ⟨Nat.zero_le _, Nat.zero_le _⟩ (mv_ki fun r706 hs => ?_)
      refine mv_iastore dX0_stripByWidth_38 so_44 hs (fun hs => ?_)
      refine mv_nameH hs (fun h707 hs => ?_)
      exact (BX0_stripByWidth_41_b39 G d D (by omega) P _ _ hs)
    · exact (BX0_stripByWidth_41_b39 G d D (by omega) P _ _ hs)
noncomputable def fX0_givesBoth_41_b43 (h : mv_H) : Option (Int32 × mv_H) := some (1, h)
set_option maxRecDepth 100000 in
set_option maxHeartbeats 4000000 in
theorem BX0_givesBoth_41_b43 (G : mv_G) (d D : Nat) (hD : d + 0 ≤ D) (P : Int32 × mv_H → Prop) (h : mv_H) (hs : mv_sat (fX0_givesBoth_41_b43 h) P) : mv_MW G mX0_givesBoth (mv_rm D mX0_givesBoth) (mv_Zf G mX0_givesBoth (mv_qI mv_SH P)) 0 0 43 [.float 0, .float 0, .float 0] [] mv_SH h := by
  unfold fX0_givesBoth_41_b43 at hs
  refine mv_iconst 1 dX0_givesBoth_43 (by decide) ?_
  refine mv_goto dX0_givesBoth_44 ?_
  exact mv_zret dX0_givesBoth_48 rfl (Or.inr rfl) ⟨(1, h), rfl, rfl, rfl, mv_sat_some hs⟩
noncomputable def fX0_givesBoth_41 (p0 : Int32) (p1 : Int32) (h : mv_H) : Option (Int32 × mv_H) := if p1 < p0 then some (0, h) else (fX0_stripByHeight_41 p0 h).bind fun r703 => (fX0_stripByHeight_41 p1 r703.2).bind fun r704 => if (r704.2 41 4) < (r703.1 + r704.1) then ((fX0_stripByWidth_41 p0 r704.2).bind fun r708 => (fX0_stripByWidth_41 p1 r708.2).bind fun r709 => if (r709.2 41 5) < (r708.1 + r709.1) then some (0, r709.2) else fX0_givesBoth_41_b43 r709.2) else fX0_givesBoth_41_b43 r704.2
set_option maxRecDepth 100000 in
set_option maxHeartbeats 4000000 in
theorem TX0_givesBoth_41 (G : mv_G) (d : Nat) (P : Int32 × mv_H → Prop) (p0 : Int32) (p1 : Int32) (h : mv_H) (hs : mv_sat (fX0_givesBoth_41 p0 p1 h) P) : mv_met G (d + 46) mX0_givesBoth [.ref 41, .int p0, .int p1] mv_SH h (mv_qI mv_SH P) := by
  unfold fX0_givesBoth_41 at hs
  obtain ⟨D, hDe⟩ : ∃ D, D = d + 46 := ⟨_, rfl⟩
  rw [← hDe]
  have hD : d + 46 ≤ D := by omega
  refine mv_enter (lv := [.ref 41, .int p0, .int p1]) 0 (by decide) (by decide +kernel) rfl (Nat.le_of_ble_eq_true rfl) ?_
  refine mv_iload_n dX0_givesBoth_0 rfl ?_
  refine mv_iload_n dX0_givesBoth_1 rfl ?_
  refine mv_icmp_le dX0_givesBoth_2 hs (fun _ hs => ?_) (fun _ hs => ?_)
  · refine mv_iconst 0 dX0_givesBoth_5 (by decide) ?_
    exact mv_zret dX0_givesBoth_6 rfl (Or.inl rfl) ⟨(0, h), rfl, rfl, rfl, mv_sat_some hs⟩
  · refine mv_aload_n dX0_givesBoth_7 rfl ?_
    refine mv_iload_n dX0_givesBoth_8 rfl ?_
    refine mv_cV (st := []) dX0_givesBoth_9 kk_X0_51 (TX0_stripByHeight_41 G d _ _ _ (mv_sat_bind hs)) so_41 vc_0 rfl rfl (Nat.le_of_ble_eq_true rfl) (by omega) rfl ⟨Nat.zero_le _, Nat.zero_le _⟩ (mv_kI2 fun r703 hs => ?_)
    refine mv_aload_n dX0_givesBoth_12 rfl ?_
    refine mv_iload_n dX0_givesBoth_13 rfl ?_
    refine mv_cV (st := [.int r703.1]) dX0_givesBoth_14 kk_X0_51 (TX0_stripByHeight_41 G d _ _ _ (mv_sat_bind hs)) so_41 vc_0 rfl rfl (Nat.le_of_ble_eq_true rfl) (by omega) rfl ⟨Nat.zero_le _, Nat.zero_le _⟩ (mv_kI2 fun r704 hs => ?_)
    refine mv_iadd dX0_givesBoth_17 ?_
    refine mv_aload_n dX0_givesBoth_18 rfl ?_
    refine mv_geti dX0_givesBoth_19 kf_X0_24 gf_41_4 ?_
    refine mv_icmp_le dX0_givesBoth_22 hs (fun _ hs => ?_) (fun _ hs => ?_)
    · refine mv_aload_n dX0_givesBoth_25 rfl ?_
      refine mv_iload_n dX0_givesBoth_26 rfl ?_
      refine mv_cV (st := []) dX0_givesBoth_27 kk_X0_57 (TX0_stripByWidth_41 G d _ _ _ (mv_sat_bind hs)) so_41 vc_0 rfl rfl (Nat.le_of_ble_eq_true rfl) (by omega) rfl ⟨Nat.zero_le _, Nat.zero_le _⟩ (mv_kI2 fun r708 hs => ?_)
      refine mv_aload_n dX0_givesBoth_30 rfl ?_
      refine mv_iload_n dX0_givesBoth_31 rfl ?_
      refine mv_cV (st := [.int r708.1]) dX0_givesBoth_32 kk_X0_57 (TX0_stripByWidth_41 G d _ _ _ (mv_sat_bind hs)) so_41 vc_0 rfl rfl (Nat.le_of_ble_eq_true rfl) (by omega) rfl ⟨Nat.zero_le _, Nat.zero_le _⟩ (mv_kI2 fun r709 hs => ?_)
      refine mv_iadd dX0_givesBoth_35 ?_
      refine mv_aload_n dX0_givesBoth_36 rfl ?_
      refine mv_geti dX0_givesBoth_37 kf_X0_28 gf_41_5 ?_
      refine mv_icmp_gt dX0_givesBoth_40 hs (fun _ hs => ?_) (fun _ hs => ?_)
      · refine mv_iconst 0 dX0_givesBoth_47 (by decide) ?_
        exact mv_zret dX0_givesBoth_48 rfl (Or.inl rfl) ⟨(0, r709.2), rfl, rfl, rfl, mv_sat_some hs⟩
      · exact mv_weak (lv' := [.float 0, .float 0, .float 0]) (mv_k (mv_k (mv_k mv_n))) (BX0_givesBoth_41_b43 G d D (by omega) P _ hs)
    · exact mv_weak (lv' := [.float 0, .float 0, .float 0]) (mv_k (mv_k (mv_k mv_n))) (BX0_givesBoth_41_b43 G d D (by omega) P _ hs)
noncomputable def fX0_gives_41_b81 (k47 : Int32 → Int32 → mv_H → Option (Int32 × mv_H)) (v1 : Int32) (v2 : Int32) (h : mv_H) : Option (Int32 × mv_H) := k47 v1 (v2 + 1) h
set_option maxRecDepth 100000 in
set_option maxHeartbeats 4000000 in
theorem BX0_gives_41_b81 (G : mv_G) (d D : Nat) (hD : d + 0 ≤ D) (P : Int32 × mv_H → Prop) (k47 : Int32 → Int32 → mv_H → Option (Int32 × mv_H)) (hk47 : ∀ (v1 : Int32) (v2 : Int32) (h : mv_H), mv_sat (k47 v1 v2 h) P → mv_MW G mX0_gives (mv_rm D mX0_gives) (mv_Zf G mX0_gives (mv_qI mv_SH P)) 0 0 47 [.ref 41, .int v1, .int v2] [] mv_SH h) (v1 : Int32) (v2 : Int32) (h : mv_H) (hs : mv_sat (fX0_gives_41_b81 k47 v1 v2 h) P) : mv_MW G mX0_gives (mv_rm D mX0_gives) (mv_Zf G mX0_gives (mv_qI mv_SH P)) 0 0 81 [.ref 41, .int v1, .int v2] [] mv_SH h := by
  unfold fX0_gives_41_b81 at hs
  refine mv_iinc (lv' := [.ref 41, .int v1, .int (v2 + 1)]) 1 dX0_gives_81 rfl (by decide) (Nat.le_of_ble_eq_true rfl) rfl rfl ?_
  refine mv_goto dX0_gives_84 ?_
  exact (hk47 _ _ _ hs)
noncomputable def fX0_gives_41_b47 : Nat → Int32 → Int32 → mv_H → Option (Int32 × mv_H)
  | 0, _, _, _ => none
  | n + 1, v1, v2, h => if v2 < v1 then (if v2 < 64 then (if (v2 &&& (v1 ^^^ (-1))) = 0 then ((fX0_givesBoth_41 v2 (v1 &&& (v2 ^^^ (-1))) h).bind fun r710 => if r710.1 = 0 then fX0_gives_41_b81 (fX0_gives_41_b47 n) v1 v2 r710.2 else some (1, r710.2)) else fX0_gives_41_b81 (fX0_gives_41_b47 n) v1 v2 h) else some (0, h)) else some (0, h)
set_option maxRecDepth 100000 in
set_option maxHeartbeats 4000000 in
theorem BX0_gives_41_b47 (G : mv_G) (d D : Nat) (hD : d + 47 ≤ D) (P : Int32 × mv_H → Prop) : ∀ (n : Nat) (v1 : Int32) (v2 : Int32) (h : mv_H), mv_sat (fX0_gives_41_b47 n v1 v2 h) P → mv_MW G mX0_gives (mv_rm D mX0_gives) (mv_Zf G mX0_gives (mv_qI mv_SH P)) 0 0 47 [.ref 41, .int v1, .int v2] [] mv_SH h := by
  intro n
  induction n with
  | zero =>
    intro v1 v2 h hs
    unfold fX0_gives_41_b47 at hs
    exact (mv_sat_none hs).elim
  | succ n ih =>
    intro v1 v2 h hs
    unfold fX0_gives_41_b47 at hs
    refine mv_iload_n dX0_gives_47 rfl ?_
    refine mv_iload_n dX0_gives_48 rfl ?_
    refine mv_icmp_ge dX0_gives_49 hs (fun _ hs => ?_) (fun _ hs => ?_)
    · refine mv_iload_n dX0_gives_52 rfl ?_
      refine mv_bipush 64 dX0_gives_53 (by decide) ?_
      refine mv_icmp_ge dX0_gives_55 hs (fun _ hs => ?_) (fun _ hs => ?_)
      · refine mv_iload_n dX0_gives_58 rfl ?_
        refine mv_iload_n dX0_gives_59 rfl ?_
        refine mv_iconst (-1) dX0_gives_60 (by decide) ?_
        refine mv_ixor dX0_gives_61 ?_
        refine mv_iand dX0_gives_62 ?_
        refine mv_if_ne dX0_gives_63 hs (fun _ hs => ?_) (fun _ hs => ?_)
        · refine mv_aload_n dX0_gives_66 rfl ?_
          refine mv_iload_n dX0_gives_67 rfl ?_
          refine mv_iload_n dX0_gives_68 rfl ?_
          refine mv_iload_n dX0_gives_69 rfl ?_
          refine mv_iconst (-1) dX0_gives_70 (by decide) ?_
          refine mv_ixor dX0_gives_71 ?_
          refine mv_iand dX0_gives_72 ?_
          refine mv_cV (st := []) dX0_gives_73 kk_X0_54 (TX0_givesBoth_41 G d _ _ _ _ (mv_sat_bind hs)) so_41 vc_0 rfl rfl (Nat.le_of_ble_eq_true rfl) (by omega) rfl ⟨Nat.zero_le _, Nat.zero_le _⟩ (mv_kI2 fun r710 hs => ?_)
          refine mv_if_eq dX0_gives_76 hs (fun _ hs => ?_) (fun _ hs => ?_)
          · exact (BX0_gives_41_b81 G d D (by omega) P _ ih _ _ _ hs)
          · refine mv_iconst 1 dX0_gives_79 (by decide) ?_
            exact mv_zret dX0_gives_80 rfl (Or.inr rfl) ⟨(1, r710.2), rfl, rfl, rfl, mv_sat_some hs⟩
        · exact (BX0_gives_41_b81 G d D (by omega) P _ ih _ _ _ hs)
      · refine mv_iconst 0 dX0_gives_87 (by decide) ?_
        exact mv_zret dX0_gives_88 rfl (Or.inl rfl) ⟨(0, h), rfl, rfl, rfl, mv_sat_some hs⟩
    · refine mv_iconst 0 dX0_gives_87 (by decide) ?_
      exact mv_zret dX0_gives_88 rfl (Or.inl rfl) ⟨(0, h), rfl, rfl, rfl, mv_sat_some hs⟩
noncomputable def fX0_gives_41 (p0 : Int32) (h : mv_H) : Option (Int32 × mv_H) := (fX0_paperOf_41 p0 h).bind fun r684 => if ((h 41 4) * (h 41 5)) < r684 then some (0, h) else (fJ6_bitCount_0f7a4 p0).bind fun r685 => if r685 < 4 then ((fX0_stripByHeight_41 p0 h).bind fun r702 => if (r702.2 41 4) < r702.1 then some (0, r702.2) else some (1, r702.2)) else fX0_gives_41_b47 mv_F p0 1 h
set_option maxRecDepth 100000 in
set_option maxHeartbeats 4000000 in
theorem TX0_gives_41 (G : mv_G) (d : Nat) (P : Int32 × mv_H → Prop) (p0 : Int32) (h : mv_H) (hs : mv_sat (fX0_gives_41 p0 h) P) : mv_met G (d + 47) mX0_gives [.ref 41, .int p0] mv_SH h (mv_qI mv_SH P) := by
  unfold fX0_gives_41 at hs
  obtain ⟨D, hDe⟩ : ∃ D, D = d + 47 := ⟨_, rfl⟩
  rw [← hDe]
  have hD : d + 47 ≤ D := by omega
  refine mv_enter (lv := [.ref 41, .int p0, .float 0]) 1 (by decide) (by decide +kernel) rfl (Nat.le_of_ble_eq_true rfl) ?_
  refine mv_aload_n dX0_gives_0 rfl ?_
  refine mv_iload_n dX0_gives_1 rfl ?_
  refine mv_cV (st := []) dX0_gives_2 kk_X0_48 (TX0_paperOf_41 G d _ _ _ (mv_sat_bind hs)) so_41 vc_0 rfl rfl (Nat.le_of_ble_eq_true rfl) (by omega) rfl ⟨Nat.zero_le _, Nat.zero_le _⟩ (mv_ki fun r684 hs => ?_)
  refine mv_aload_n dX0_gives_5 rfl ?_
  refine mv_geti dX0_gives_6 kf_X0_24 gf_41_4 ?_
  refine mv_aload_n dX0_gives_9 rfl ?_
  refine mv_geti dX0_gives_10 kf_X0_28 gf_41_5 ?_
  refine mv_imul dX0_gives_13 ?_
  refine mv_icmp_le dX0_gives_14 hs (fun _ hs => ?_) (fun _ hs => ?_)
  · refine mv_iconst 0 dX0_gives_17 (by decide) ?_
    exact mv_zret dX0_gives_18 rfl (Or.inl rfl) ⟨(0, h), rfl, rfl, rfl, mv_sat_some hs⟩
  · refine mv_iload_n dX0_gives_19 rfl ?_
    refine mv_cS (st := []) dX0_gives_20 kk_X0_39 (TJ6_bitCount_0f7a4 G d _ _ _ (mv_sat_bind hs)) rfl rfl (Nat.le_of_ble_eq_true rfl) (by omega) rfl ⟨Nat.zero_le _, Nat.zero_le _⟩ (mv_ki fun r685 hs => ?_)
    refine mv_iconst 4 dX0_gives_23 (by decide) ?_
    refine mv_icmp_ge dX0_gives_24 hs (fun _ hs => ?_) (fun _ hs => ?_)
    · refine mv_aload_n dX0_gives_27 rfl ?_
      refine mv_iload_n dX0_gives_28 rfl ?_
      refine mv_cV (st := []) dX0_gives_29 kk_X0_51 (TX0_stripByHeight_41 G d _ _ _ (mv_sat_bind hs)) so_41 vc_0 rfl rfl (Nat.le_of_ble_eq_true rfl) (by omega) rfl ⟨Nat.zero_le _, Nat.zero_le _⟩ (mv_kI2 fun r702 hs => ?_)
      refine mv_aload_n dX0_gives_32 rfl ?_
      refine mv_geti dX0_gives_33 kf_X0_24 gf_41_4 ?_
      refine mv_icmp_gt dX0_gives_36 hs (fun _ hs => ?_) (fun _ hs => ?_)
      · refine mv_iconst 0 dX0_gives_43 (by decide) ?_
        exact mv_zret dX0_gives_44 rfl (Or.inl rfl) ⟨(0, r702.2), rfl, rfl, rfl, mv_sat_some hs⟩
      · refine mv_iconst 1 dX0_gives_39 (by decide) ?_
        refine mv_goto dX0_gives_40 ?_
        exact mv_zret dX0_gives_44 rfl (Or.inr rfl) ⟨(1, r702.2), rfl, rfl, rfl, mv_sat_some hs⟩
    · refine mv_iconst 1 dX0_gives_45 (by decide) ?_
      refine mv_istore_n (lv' := [.ref 41, .int p0, .int 1]) dX0_gives_46 (Nat.le_of_ble_eq_true rfl) rfl rfl ?_
      exact (BX0_gives_41_b47 G d D (by omega) P _ _ _ _ hs)
noncomputable def fX9_cut_0 (p0 : Int32) (p1 : Int32) (h : mv_H) : Option (Int32 × mv_H) := (fX7_has_6 p1 h).bind fun r662 => if r662 = 0 then some ((-1), h) else (fX7_holdsAll_2 p0 h).bind fun r663 => if r663 = 0 then some ((-2), h) else (fJ6_bitCount_0f7a4 p0).bind fun r664 => if 4 < r664 then some ((-4), h) else (fX9_startCuts_0 p0 p1 h).bind fun r681 => (fX0_gives_41 p0 r681).bind fun r711 => if r711.1 = 0 then some (0, r711.2) else some (1, r711.2)
set_option maxRecDepth 100000 in
set_option maxHeartbeats 4000000 in
theorem TX9_cut_0 (G : mv_G) (d : Nat) (P : Int32 × mv_H → Prop) (p0 : Int32) (p1 : Int32) (h : mv_H) (hs : mv_sat (fX9_cut_0 p0 p1 h) P) : mv_met G (d + 48) mX9_cut [.ref 0, .int p0, .int p1] mv_SH h (mv_qI mv_SH P) := by
  unfold fX9_cut_0 at hs
  obtain ⟨D, hDe⟩ : ∃ D, D = d + 48 := ⟨_, rfl⟩
  rw [← hDe]
  have hD : d + 48 ≤ D := by omega
  refine mv_enter (lv := [.ref 0, .int p0, .int p1]) 0 (by decide) (by decide +kernel) rfl (Nat.le_of_ble_eq_true rfl) ?_
  refine mv_aload_n dX9_cut_0 rfl ?_
  refine mv_getr dX9_cut_1 kf_X9_10 gf_0_0 ?_
  refine mv_getr dX9_cut_4 kf_X9_83 gf_1_2 ?_
  refine mv_iload_n dX9_cut_7 rfl ?_
  refine mv_cV (st := []) dX9_cut_8 kk_X9_100 (TX7_has_6 G d _ _ _ (mv_sat_bind hs)) so_6 vc_7 rfl rfl (Nat.le_of_ble_eq_true rfl) (by omega) rfl ⟨Nat.zero_le _, Nat.zero_le _⟩ (mv_ki fun r662 hs => ?_)
  refine mv_if_ne dX9_cut_11 hs (fun _ hs => ?_) (fun _ hs => ?_)
  · refine mv_iconst (-1) dX9_cut_14 (by decide) ?_
    exact mv_iret dX9_cut_15 rfl ⟨((-1), h), rfl, rfl, rfl, mv_sat_some hs⟩
  · refine mv_aload_n dX9_cut_16 rfl ?_
    refine mv_getr dX9_cut_17 kf_X9_10 gf_0_0 ?_
    refine mv_getr dX9_cut_20 kf_X9_64 gf_1_0 ?_
    refine mv_iload_n dX9_cut_23 rfl ?_
    refine mv_cV (st := []) dX9_cut_24 kk_X9_232 (TX7_holdsAll_2 G d _ _ _ (mv_sat_bind hs)) so_2 vc_7 rfl rfl (Nat.le_of_ble_eq_true rfl) (by omega) rfl ⟨Nat.zero_le _, Nat.zero_le _⟩ (mv_ki fun r663 hs => ?_)
    refine mv_if_ne dX9_cut_27 hs (fun _ hs => ?_) (fun _ hs => ?_)
    · refine mv_bipush (-2) dX9_cut_30 (by decide) ?_
      exact mv_iret dX9_cut_32 rfl ⟨((-2), h), rfl, rfl, rfl, mv_sat_some hs⟩
    · refine mv_iload_n dX9_cut_33 rfl ?_
      refine mv_cS (st := []) dX9_cut_34 kk_X9_227 (TJ6_bitCount_0f7a4 G d _ _ _ (mv_sat_bind hs)) rfl rfl (Nat.le_of_ble_eq_true rfl) (by omega) rfl ⟨Nat.zero_le _, Nat.zero_le _⟩ (mv_ki fun r664 hs => ?_)
      refine mv_iconst 4 dX9_cut_37 (by decide) ?_
      refine mv_icmp_le dX9_cut_38 hs (fun _ hs => ?_) (fun _ hs => ?_)
      · refine mv_bipush (-4) dX9_cut_41 (by decide) ?_
        exact mv_iret dX9_cut_43 rfl ⟨((-4), h), rfl, rfl, rfl, mv_sat_some hs⟩
      · refine mv_aload_n dX9_cut_44 rfl ?_
        refine mv_iload_n dX9_cut_45 rfl ?_
        refine mv_iload_n dX9_cut_46 rfl ?_
        refine mv_cV (st := []) dX9_cut_47 kk_X9_235 (TX9_startCuts_0 G d _ _ _ _ (mv_sat_bind hs)) so_0 vc_9 rfl rfl (Nat.le_of_ble_eq_true rfl) (by omega) rfl ⟨Nat.zero_le _, Nat.zero_le _⟩ (mv_kv fun r681 hs => ?_)
        refine mv_aload_n dX9_cut_50 rfl ?_
        refine mv_getr dX9_cut_51 kf_X9_46 gf_0_7 ?_
        refine mv_iload_n dX9_cut_54 rfl ?_
        refine mv_cV (st := []) dX9_cut_55 kk_X9_238 (TX0_gives_41 G d _ _ _ (mv_sat_bind hs)) so_41 vc_0 rfl rfl (Nat.le_of_ble_eq_true rfl) (by omega) rfl ⟨Nat.zero_le _, Nat.zero_le _⟩ (mv_kI2 fun r711 hs => ?_)
        refine mv_if_eq dX9_cut_58 hs (fun _ hs => ?_) (fun _ hs => ?_)
        · refine mv_iconst 0 dX9_cut_65 (by decide) ?_
          exact mv_iret dX9_cut_66 rfl ⟨(0, r711.2), rfl, rfl, rfl, mv_sat_some hs⟩
        · refine mv_iconst 1 dX9_cut_61 (by decide) ?_
          refine mv_goto dX9_cut_62 ?_
          exact mv_iret dX9_cut_66 rfl ⟨(1, r711.2), rfl, rfl, rfl, mv_sat_some hs⟩
noncomputable def fX10_areBoxes_55 (p0 : Int32) (h : mv_H) : Option (Int32) := (fX10_in (Int32.toInt64 p0) (0 : Int64) (63 : Int64)).bind fun r714 => if r714 = 0 then some 0 else if (p0 &&& ((h 55 0) ^^^ (-1))) = 0 then some 1 else some 0
set_option maxRecDepth 100000 in
set_option maxHeartbeats 4000000 in
theorem TX10_areBoxes_55 (G : mv_G) (d : Nat) (P : Int32 → Prop) (p0 : Int32) (h : mv_H) (hs : mv_sat (fX10_areBoxes_55 p0 h) P) : mv_met G (d + 1) mX10_areBoxes [.ref 55, .int p0] mv_SH h (mv_qi mv_SH h P) := by
  unfold fX10_areBoxes_55 at hs
  obtain ⟨D, hDe⟩ : ∃ D, D = d + 1 := ⟨_, rfl⟩
  rw [← hDe]
  have hD : d + 1 ≤ D := by omega
  refine mv_enter (lv := [.ref 55, .int p0]) 0 (by decide) (by decide +kernel) rfl (Nat.le_of_ble_eq_true rfl) ?_
  refine mv_iload_n dX10_areBoxes_0 rfl ?_
  refine mv_i2l dX10_areBoxes_1 ?_
  refine mv_lconst 0 dX10_areBoxes_2 rfl ?_
  refine mv_ldc2 dX10_areBoxes_3 kn_X10_284 ?_
  refine mv_cS (st := []) dX10_areBoxes_6 kk_X10_104 (TX10_in G d _ _ _ _ _ (mv_sat_bind hs)) rfl rfl (Nat.le_of_ble_eq_true rfl) (by omega) rfl ⟨Nat.zero_le _, Nat.zero_le _⟩ (mv_ki fun r714 hs => ?_)
  refine mv_if_eq dX10_areBoxes_9 hs (fun _ hs => ?_) (fun _ hs => ?_)
  · refine mv_iconst 0 dX10_areBoxes_27 (by decide) ?_
    exact mv_zret dX10_areBoxes_28 rfl (Or.inl rfl) ⟨_, rfl, rfl, rfl, mv_sat_some hs⟩
  · refine mv_iload_n dX10_areBoxes_12 rfl ?_
    refine mv_aload_n dX10_areBoxes_13 rfl ?_
    refine mv_geti dX10_areBoxes_14 kf_X10_112 gf_55_0 ?_
    refine mv_iconst (-1) dX10_areBoxes_17 (by decide) ?_
    refine mv_ixor dX10_areBoxes_18 ?_
    refine mv_iand dX10_areBoxes_19 ?_
    refine mv_if_ne dX10_areBoxes_20 hs (fun _ hs => ?_) (fun _ hs => ?_)
    · refine mv_iconst 1 dX10_areBoxes_23 (by decide) ?_
      refine mv_goto dX10_areBoxes_24 ?_
      exact mv_zret dX10_areBoxes_28 rfl (Or.inr rfl) ⟨_, rfl, rfl, rfl, mv_sat_some hs⟩
    · refine mv_iconst 0 dX10_areBoxes_27 (by decide) ?_
      exact mv_zret dX10_areBoxes_28 rfl (Or.inl rfl) ⟨_, rfl, rfl, rfl, mv_sat_some hs⟩
noncomputable def fX10_layPieces_55_b72 (k7 : Int32 → Int32 → mv_H → Option (mv_H)) (v1 : Int32) (v2 : Int32) (h : mv_H) : Option (mv_H) := k7 v1 (v2 + 1) h
set_option maxRecDepth 100000 in
set_option maxHeartbeats 4000000 in
theorem BX10_layPieces_55_b72 (G : mv_G) (d D : Nat) (hD : d + 0 ≤ D) (P : mv_H → Prop) (k7 : Int32 → Int32 → mv_H → Option (mv_H)) (hk7 : ∀ (v1 : Int32) (v2 : Int32) (h : mv_H), mv_sat (k7 v1 v2 h) P → mv_MW G mX10_layPieces (mv_rm D mX10_layPieces) (mv_Zf G mX10_layPieces (mv_qv mv_SH P)) 0 0 7 [.ref 55, .int v1, .int v2, .float 0] [] mv_SH h) (v1 : Int32) (v2 : Int32) (h : mv_H) (hs : mv_sat (fX10_layPieces_55_b72 k7 v1 v2 h) P) : mv_MW G mX10_layPieces (mv_rm D mX10_layPieces) (mv_Zf G mX10_layPieces (mv_qv mv_SH P)) 0 0 72 [.ref 55, .int v1, .int v2, .float 0] [] mv_SH h := by
  unfold fX10_layPieces_55_b72 at hs
  refine mv_iinc (lv' := [.ref 55, .int v1, .int (v2 + 1), .float 0]) 1 dX10_layPieces_72 rfl (by decide) (Nat.le_of_ble_eq_true rfl) rfl rfl ?_
  refine mv_goto dX10_layPieces_75 ?_
  exact (hk7 _ _ _ hs)
noncomputable def fX10_layPieces_55_b7 : Nat → Int32 → Int32 → mv_H → Option (mv_H)
  | 0, _, _, _ => none
  | n + 1, v1, v2, h => if v2 < 6 then (if ((v1 >>> (v2 &&& 31)) &&& 1) = 1 then ((fX10_look_55 v2 h).bind fun r718 => (fX10_leastAxis_55 r718).bind fun r719 => if mv_in r719 3 then (if mv_in (r718 55 30) 4 then mv_let (mv_u r718 70 (r718 55 30).toNatClampNeg (r718 65 r719.toNatClampNeg)) fun h720 : mv_H => (if mv_in r719 3 then (if mv_in (h720 55 30) 4 then mv_let (mv_u h720 71 (h720 55 30).toNatClampNeg (h720 66 r719.toNatClampNeg)) fun h721 : mv_H => (mv_let (mv_u h721 55 30 ((h721 55 30) + 1)) fun h722 : mv_H => fX10_layPieces_55_b72 (fX10_layPieces_55_b7 n) v1 v2 h722) else none) else none) else none) else none) else fX10_layPieces_55_b72 (fX10_layPieces_55_b7 n) v1 v2 h) else some h
set_option maxRecDepth 100000 in
set_option maxHeartbeats 4000000 in
theorem BX10_layPieces_55_b7 (G : mv_G) (d D : Nat) (hD : d + 2 ≤ D) (P : mv_H → Prop) : ∀ (n : Nat) (v1 : Int32) (v2 : Int32) (h : mv_H), mv_sat (fX10_layPieces_55_b7 n v1 v2 h) P → mv_MW G mX10_layPieces (mv_rm D mX10_layPieces) (mv_Zf G mX10_layPieces (mv_qv mv_SH P)) 0 0 7 [.ref 55, .int v1, .int v2, .float 0] [] mv_SH h := by
  intro n
  induction n with
  | zero =>
    intro v1 v2 h hs
    unfold fX10_layPieces_55_b7 at hs
    exact (mv_sat_none hs).elim
  | succ n ih =>
    intro v1 v2 h hs
    unfold fX10_layPieces_55_b7 at hs
    refine mv_iload_n dX10_layPieces_7 rfl ?_
    refine mv_bipush 6 dX10_layPieces_8 (by decide) ?_
    refine mv_icmp_ge dX10_layPieces_10 hs (fun _ hs => ?_) (fun _ hs => ?_)
    · refine mv_iload_n dX10_layPieces_13 rfl ?_
      refine mv_iload_n dX10_layPieces_14 rfl ?_
      refine mv_ishr dX10_layPieces_15 ?_
      refine mv_iconst 1 dX10_layPieces_16 (by decide) ?_
      refine mv_iand dX10_layPieces_17 ?_
      refine mv_iconst 1 dX10_layPieces_18 (by decide) ?_
      refine mv_icmp_ne dX10_layPieces_19 hs (fun _ hs => ?_) (fun _ hs => ?_)
      · refine mv_aload_n dX10_layPieces_22 rfl ?_
        refine mv_iload_n dX10_layPieces_23 rfl ?_
        refine mv_cV (st := []) dX10_layPieces_24 kk_X10_209 (TX10_look_55 G d _ _ _ (mv_sat_bind hs)) so_55 vc_10 rfl rfl (Nat.le_of_ble_eq_true rfl) (by omega) rfl ⟨Nat.zero_le _, Nat.zero_le _⟩ (mv_kv fun r718 hs => ?_)
        refine mv_aload_n dX10_layPieces_27 rfl ?_
        refine mv_cV (st := []) dX10_layPieces_28 kk_X10_213 (TX10_leastAxis_55 G d _ _ (mv_sat_bind hs)) so_55 vc_10 rfl rfl (Nat.le_of_ble_eq_true rfl) (by omega) rfl ⟨Nat.zero_le _, Nat.zero_le _⟩ (mv_ki fun r719 hs => ?_)
        refine mv_istore_n (lv' := [.ref 55, .int v1, .int v2, .int r719]) dX10_layPieces_31 (Nat.le_of_ble_eq_true rfl) rfl rfl ?_
        refine mv_aload_n dX10_layPieces_32 rfl ?_
        refine mv_getr dX10_layPieces_33 kf_X10_52 gf_55_28 ?_
        refine mv_aload_n dX10_layPieces_36 rfl ?_
        refine mv_geti dX10_layPieces_37 kf_X10_272 gf_55_30 ?_
        refine mv_aload_n dX10_layPieces_40 rfl ?_
        refine mv_getr dX10_layPieces_41 kf_X10_37 gf_55_23 ?_
        refine mv_iload_n dX10_layPieces_44 rfl ?_
        refine mv_iaload dX10_layPieces_45 so_65 hs (fun hs => ?_)
        refine mv_iastore dX10_layPieces_46 so_70 hs (fun hs => ?_)
        refine mv_nameH hs (fun h720 hs => ?_)
        refine mv_aload_n dX10_layPieces_47 rfl ?_
        refine mv_getr dX10_layPieces_48 kf_X10_55 gf_55_29 ?_
        refine mv_aload_n dX10_layPieces_51 rfl ?_
        refine mv_geti dX10_layPieces_52 kf_X10_272 gf_55_30 ?_
        refine mv_aload_n dX10_layPieces_55 rfl ?_
        refine mv_getr dX10_layPieces_56 kf_X10_40 gf_55_24 ?_
        refine mv_iload_n dX10_layPieces_59 rfl ?_
        refine mv_iaload dX10_layPieces_60 so_66 hs (fun hs => ?_)
        refine mv_iastore dX10_layPieces_61 so_71 hs (fun hs => ?_)
        refine mv_nameH hs (fun h721 hs => ?_)
        refine mv_aload_n dX10_layPieces_62 rfl ?_
        refine mv_dup dX10_layPieces_63 rfl ?_
        refine mv_geti dX10_layPieces_64 kf_X10_272 gf_55_30 ?_
        refine mv_iconst 1 dX10_layPieces_67 (by decide) ?_
        refine mv_iadd dX10_layPieces_68 ?_
        refine mv_puti dX10_layPieces_69 kf_X10_272 (fun q => by cases q) gf_55_30 ?_
        refine mv_nameH hs (fun h722 hs => ?_)
        exact mv_weak (lv' := [.ref 55, .int v1, .int v2, .float 0]) (mv_s (mv_s (mv_s (mv_k mv_n)))) (BX10_layPieces_55_b72 G d D (by omega) P _ ih _ _ _ hs)
      · exact (BX10_layPieces_55_b72 G d D (by omega) P _ ih _ _ _ hs)
    · exact mv_vret dX10_layPieces_78 rfl ⟨_, rfl, rfl, rfl, mv_sat_some hs⟩
noncomputable def fX10_layPieces_55 (p0 : Int32) (h : mv_H) : Option (mv_H) := mv_let (mv_u h 55 30 0) fun h717 : mv_H => fX10_layPieces_55_b7 mv_F p0 0 h717
set_option maxRecDepth 100000 in
set_option maxHeartbeats 4000000 in
theorem TX10_layPieces_55 (G : mv_G) (d : Nat) (P : mv_H → Prop) (p0 : Int32) (h : mv_H) (hs : mv_sat (fX10_layPieces_55 p0 h) P) : mv_met G (d + 2) mX10_layPieces [.ref 55, .int p0] mv_SH h (mv_qv mv_SH P) := by
  unfold fX10_layPieces_55 at hs
  obtain ⟨D, hDe⟩ : ∃ D, D = d + 2 := ⟨_, rfl⟩
  rw [← hDe]
  have hD : d + 2 ≤ D := by omega
  refine mv_enter (lv := [.ref 55, .int p0, .float 0, .float 0]) 2 (by decide) (by decide +kernel) rfl (Nat.le_of_ble_eq_true rfl) ?_
  refine mv_aload_n dX10_layPieces_0 rfl ?_
  refine mv_iconst 0 dX10_layPieces_1 (by decide) ?_
  refine mv_puti dX10_layPieces_2 kf_X10_272 (fun q => by cases q) gf_55_30 ?_
  refine mv_nameH hs (fun h717 hs => ?_)
  refine mv_iconst 0 dX10_layPieces_5 (by decide) ?_
  refine mv_istore_n (lv' := [.ref 55, .int p0, .int 0, .float 0]) dX10_layPieces_6 (Nat.le_of_ble_eq_true rfl) rfl rfl ?_
  exact (BX10_layPieces_55_b7 G d D (by omega) P _ _ _ _ hs)
noncomputable def fX10_putShape_55 (p0 : Int32) (p1 : Int32) (p2 : Int32) (h : mv_H) : Option (mv_H) := if mv_in (h 55 35) 4000 then mv_let (mv_u h 74 (h 55 35).toNatClampNeg p1) fun h729 : mv_H => (if mv_in (h729 55 35) 4000 then mv_let (mv_u h729 75 (h729 55 35).toNatClampNeg p2) fun h730 : mv_H => (mv_let (mv_u h730 55 35 ((h730 55 35) + 1)) fun h731 : mv_H => if mv_in p0 16 then (if mv_in p0 16 then mv_let (mv_u h731 73 p0.toNatClampNeg ((h731 73 p0.toNatClampNeg) + 1)) fun h732 : mv_H => (some h732) else none) else none) else none) else none
set_option maxRecDepth 100000 in
set_option maxHeartbeats 4000000 in
theorem TX10_putShape_55 (G : mv_G) (d : Nat) (P : mv_H → Prop) (p0 : Int32) (p1 : Int32) (p2 : Int32) (h : mv_H) (hs : mv_sat (fX10_putShape_55 p0 p1 p2 h) P) : mv_met G (d + 0) mX10_putShape [.ref 55, .int p0, .int p1, .int p2] mv_SH h (mv_qv mv_SH P) := by
  unfold fX10_putShape_55 at hs
  obtain ⟨D, hDe⟩ : ∃ D, D = d + 0 := ⟨_, rfl⟩
  rw [← hDe]
  have hD : d + 0 ≤ D := by omega
  refine mv_enter (lv := [.ref 55, .int p0, .int p1, .int p2]) 0 (by decide) (by decide +kernel) rfl (Nat.le_of_ble_eq_true rfl) ?_
  refine mv_aload_n dX10_putShape_0 rfl ?_
  refine mv_getr dX10_putShape_1 kf_X10_64 gf_55_33 ?_
  refine mv_aload_n dX10_putShape_4 rfl ?_
  refine mv_geti dX10_putShape_5 kf_X10_263 gf_55_35 ?_
  refine mv_iload_n dX10_putShape_8 rfl ?_
  refine mv_iastore dX10_putShape_9 so_74 hs (fun hs => ?_)
  refine mv_nameH hs (fun h729 hs => ?_)
  refine mv_aload_n dX10_putShape_10 rfl ?_
  refine mv_getr dX10_putShape_11 kf_X10_67 gf_55_34 ?_
  refine mv_aload_n dX10_putShape_14 rfl ?_
  refine mv_geti dX10_putShape_15 kf_X10_263 gf_55_35 ?_
  refine mv_iload_n dX10_putShape_18 rfl ?_
  refine mv_iastore dX10_putShape_19 so_75 hs (fun hs => ?_)
  refine mv_nameH hs (fun h730 hs => ?_)
  refine mv_aload_n dX10_putShape_20 rfl ?_
  refine mv_dup dX10_putShape_21 rfl ?_
  refine mv_geti dX10_putShape_22 kf_X10_263 gf_55_35 ?_
  refine mv_iconst 1 dX10_putShape_25 (by decide) ?_
  refine mv_iadd dX10_putShape_26 ?_
  refine mv_puti dX10_putShape_27 kf_X10_263 (fun q => by cases q) gf_55_35 ?_
  refine mv_nameH hs (fun h731 hs => ?_)
  refine mv_aload_n dX10_putShape_30 rfl ?_
  refine mv_getr dX10_putShape_31 kf_X10_61 gf_55_32 ?_
  refine mv_iload_n dX10_putShape_34 rfl ?_
  refine mv_dup2 dX10_putShape_35 rfl rfl ?_
  refine mv_iaload dX10_putShape_36 so_73 hs (fun hs => ?_)
  refine mv_iconst 1 dX10_putShape_37 (by decide) ?_
  refine mv_iadd dX10_putShape_38 ?_
  refine mv_iastore dX10_putShape_39 so_73 hs (fun hs => ?_)
  refine mv_nameH hs (fun h732 hs => ?_)
  exact mv_vret dX10_putShape_40 rfl ⟨_, rfl, rfl, rfl, mv_sat_some hs⟩
noncomputable def fX10_findShapes_55_b117 (k7 : Int32 → mv_H → Option (mv_H)) (k89 : Int32 → Int32 → Int32 → mv_H → Option (mv_H)) (v1 : Int32) (v2 : Int32) (v3 : Int32) (h : mv_H) : Option (mv_H) := k89 v1 v2 (v3 + (-1)) h
set_option maxRecDepth 100000 in
set_option maxHeartbeats 4000000 in
theorem BX10_findShapes_55_b117 (G : mv_G) (d D : Nat) (hD : d + 0 ≤ D) (P : mv_H → Prop) (k7 : Int32 → mv_H → Option (mv_H)) (k89 : Int32 → Int32 → Int32 → mv_H → Option (mv_H)) (hk7 : ∀ (v1 : Int32) (h : mv_H), mv_sat (k7 v1 h) P → mv_MW G mX10_findShapes (mv_rm D mX10_findShapes) (mv_Zf G mX10_findShapes (mv_qv mv_SH P)) 0 0 7 [.ref 55, .int v1, .float 0, .float 0] [] mv_SH h) (hk89 : ∀ (v1 : Int32) (v2 : Int32) (v3 : Int32) (h : mv_H), mv_sat (k89 v1 v2 v3 h) P → mv_MW G mX10_findShapes (mv_rm D mX10_findShapes) (mv_Zf G mX10_findShapes (mv_qv mv_SH P)) 0 0 89 [.ref 55, .int v1, .int v2, .int v3] [] mv_SH h) (v1 : Int32) (v2 : Int32) (v3 : Int32) (h : mv_H) (hs : mv_sat (fX10_findShapes_55_b117 k7 k89 v1 v2 v3 h) P) : mv_MW G mX10_findShapes (mv_rm D mX10_findShapes) (mv_Zf G mX10_findShapes (mv_qv mv_SH P)) 0 0 117 [.ref 55, .int v1, .int v2, .int v3] [] mv_SH h := by
  unfold fX10_findShapes_55_b117 at hs
  refine mv_iinc (lv' := [.ref 55, .int v1, .int v2, .int (v3 + (-1))]) (-1) dX10_findShapes_117 rfl (by decide) (Nat.le_of_ble_eq_true rfl) rfl rfl ?_
  refine mv_goto dX10_findShapes_120 ?_
  exact (hk89 _ _ _ _ hs)
noncomputable def fX10_more (p0 : Int32) (p1 : Int32) : Option (Int32) := if p1 < p0 then some p0 else some p1
set_option maxRecDepth 100000 in
set_option maxHeartbeats 4000000 in
theorem TX10_more (G : mv_G) (d : Nat) (P : Int32 → Prop) (p0 : Int32) (p1 : Int32) (h : mv_H) (hs : mv_sat (fX10_more p0 p1) P) : mv_met G (d + 0) mX10_more [.int p0, .int p1] mv_SH h (mv_qi mv_SH h P) := by
  unfold fX10_more at hs
  obtain ⟨D, hDe⟩ : ∃ D, D = d + 0 := ⟨_, rfl⟩
  rw [← hDe]
  have hD : d + 0 ≤ D := by omega
  refine mv_enter (lv := [.int p0, .int p1]) 0 (by decide) (by decide +kernel) rfl (Nat.le_of_ble_eq_true rfl) ?_
  refine mv_iload_n dX10_more_0 rfl ?_
  refine mv_iload_n dX10_more_1 rfl ?_
  refine mv_icmp_le dX10_more_2 hs (fun _ hs => ?_) (fun _ hs => ?_)
  · refine mv_iload_n dX10_more_5 rfl ?_
    refine mv_goto dX10_more_6 ?_
    exact mv_iret dX10_more_10 rfl ⟨_, rfl, rfl, rfl, mv_sat_some hs⟩
  · refine mv_iload_n dX10_more_9 rfl ?_
    exact mv_iret dX10_more_10 rfl ⟨_, rfl, rfl, rfl, mv_sat_some hs⟩
noncomputable def fX10_joinShapes_55_b34 (k8 : Int32 → Int32 → Int32 → Int32 → mv_H → Option (mv_H)) : Nat → Int32 → Int32 → Int32 → Int32 → Int32 → mv_H → Option (mv_H)
  | 0, _, _, _, _, _, _ => none
  | n + 1, v1, v2, v3, v4, v5, h => if mv_in v3 16 then (if mv_in v3 16 then (if v5 < ((h 72 v3.toNatClampNeg) + (h 73 v3.toNatClampNeg)) then (if mv_in v4 4000 then (if mv_in v5 4000 then (if mv_in v4 4000 then (if mv_in v5 4000 then ((fX10_more (h 75 v4.toNatClampNeg) (h 75 v5.toNatClampNeg)).bind fun r738 => (fX10_putShape_55 v1 ((h 74 v4.toNatClampNeg) + (h 74 v5.toNatClampNeg)) r738 h).bind fun r739 => if mv_in v4 4000 then (if mv_in v5 4000 then ((fX10_more (r739 74 v4.toNatClampNeg) (r739 74 v5.toNatClampNeg)).bind fun r740 => if mv_in v4 4000 then (if mv_in v5 4000 then ((fX10_putShape_55 v1 r740 ((r739 75 v4.toNatClampNeg) + (r739 75 v5.toNatClampNeg)) r739).bind fun r741 => (fX10_joinShapes_55_b34 k8 n) v1 v2 v3 v4 (v5 + 1) r741) else none) else none) else none) else none) else none) else none) else none) else none) else k8 v1 v2 v3 (v4 + 1) h) else none) else none
set_option maxRecDepth 100000 in
set_option maxHeartbeats 4000000 in
theorem BX10_joinShapes_55_b34 (G : mv_G) (d D : Nat) (hD : d + 1 ≤ D) (P : mv_H → Prop) (k8 : Int32 → Int32 → Int32 → Int32 → mv_H → Option (mv_H)) (hk8 : ∀ (v1 : Int32) (v2 : Int32) (v3 : Int32) (v4 : Int32) (h : mv_H), mv_sat (k8 v1 v2 v3 v4 h) P → mv_MW G mX10_joinShapes (mv_rm D mX10_joinShapes) (mv_Zf G mX10_joinShapes (mv_qv mv_SH P)) 0 0 8 [.ref 55, .int v1, .int v2, .int v3, .int v4, .float 0] [] mv_SH h) : ∀ (n : Nat) (v1 : Int32) (v2 : Int32) (v3 : Int32) (v4 : Int32) (v5 : Int32) (h : mv_H), mv_sat (fX10_joinShapes_55_b34 k8 n v1 v2 v3 v4 v5 h) P → mv_MW G mX10_joinShapes (mv_rm D mX10_joinShapes) (mv_Zf G mX10_joinShapes (mv_qv mv_SH P)) 0 0 34 [.ref 55, .int v1, .int v2, .int v3, .int v4, .int v5] [] mv_SH h := by
  intro n
  induction n with
  | zero =>
    intro v1 v2 v3 v4 v5 h hs
    unfold fX10_joinShapes_55_b34 at hs
    exact (mv_sat_none hs).elim
  | succ n ih =>
    intro v1 v2 v3 v4 v5 h hs
    unfold fX10_joinShapes_55_b34 at hs
    refine mv_iload dX10_joinShapes_34 rfl ?_
    refine mv_aload_n dX10_joinShapes_36 rfl ?_
    refine mv_getr dX10_joinShapes_37 kf_X10_58 gf_55_31 ?_
    refine mv_iload_n dX10_joinShapes_40 rfl ?_
    refine mv_iaload dX10_joinShapes_41 so_72 hs (fun hs => ?_)
    refine mv_aload_n dX10_joinShapes_42 rfl ?_
    refine mv_getr dX10_joinShapes_43 kf_X10_61 gf_55_32 ?_
    refine mv_iload_n dX10_joinShapes_46 rfl ?_
    refine mv_iaload dX10_joinShapes_47 so_73 hs (fun hs => ?_)
    refine mv_iadd dX10_joinShapes_48 ?_
    refine mv_icmp_ge dX10_joinShapes_49 hs (fun _ hs => ?_) (fun _ hs => ?_)
    · refine mv_aload_n dX10_joinShapes_52 rfl ?_
      refine mv_iload_n dX10_joinShapes_53 rfl ?_
      refine mv_aload_n dX10_joinShapes_54 rfl ?_
      refine mv_getr dX10_joinShapes_55 kf_X10_64 gf_55_33 ?_
      refine mv_iload dX10_joinShapes_58 rfl ?_
      refine mv_iaload dX10_joinShapes_60 so_74 hs (fun hs => ?_)
      refine mv_aload_n dX10_joinShapes_61 rfl ?_
      refine mv_getr dX10_joinShapes_62 kf_X10_64 gf_55_33 ?_
      refine mv_iload dX10_joinShapes_65 rfl ?_
      refine mv_iaload dX10_joinShapes_67 so_74 hs (fun hs => ?_)
      refine mv_iadd dX10_joinShapes_68 ?_
      refine mv_aload_n dX10_joinShapes_69 rfl ?_
      refine mv_getr dX10_joinShapes_70 kf_X10_67 gf_55_34 ?_
      refine mv_iload dX10_joinShapes_73 rfl ?_
      refine mv_iaload dX10_joinShapes_75 so_75 hs (fun hs => ?_)
      refine mv_aload_n dX10_joinShapes_76 rfl ?_
      refine mv_getr dX10_joinShapes_77 kf_X10_67 gf_55_34 ?_
      refine mv_iload dX10_joinShapes_80 rfl ?_
      refine mv_iaload dX10_joinShapes_82 so_75 hs (fun hs => ?_)
      refine mv_cS (st := [.int ((h 74 v4.toNatClampNeg) + (h 74 v5.toNatClampNeg)), .int v1, .ref 55]) dX10_joinShapes_83 kk_X10_266 (TX10_more G d _ _ _ _ (mv_sat_bind hs)) rfl rfl (Nat.le_of_ble_eq_true rfl) (by omega) rfl ⟨Nat.zero_le _, Nat.zero_le _⟩ (mv_ki fun r738 hs => ?_)
      refine mv_cV (st := []) dX10_joinShapes_86 kk_X10_269 (TX10_putShape_55 G d _ _ _ _ _ (mv_sat_bind hs)) so_55 vc_10 rfl rfl (Nat.le_of_ble_eq_true rfl) (by omega) rfl ⟨Nat.zero_le _, Nat.zero_le _⟩ (mv_kv fun r739 hs => ?_)
      refine mv_aload_n dX10_joinShapes_89 rfl ?_
      refine mv_iload_n dX10_joinShapes_90 rfl ?_
      refine mv_aload_n dX10_joinShapes_91 rfl ?_
      refine mv_getr dX10_joinShapes_92 kf_X10_64 gf_55_33 ?_
      refine mv_iload dX10_joinShapes_95 rfl ?_
      refine mv_iaload dX10_joinShapes_97 so_74 hs (fun hs => ?_)
      refine mv_aload_n dX10_joinShapes_98 rfl ?_
      refine mv_getr dX10_joinShapes_99 kf_X10_64 gf_55_33 ?_
      refine mv_iload dX10_joinShapes_102 rfl ?_
      refine mv_iaload dX10_joinShapes_104 so_74 hs (fun hs => ?_)
      refine mv_cS (st := [.int v1, .ref 55]) dX10_joinShapes_105 kk_X10_266 (TX10_more G d _ _ _ _ (mv_sat_bind hs)) rfl rfl (Nat.le_of_ble_eq_true rfl) (by omega) rfl ⟨Nat.zero_le _, Nat.zero_le _⟩ (mv_ki fun r740 hs => ?_)
      refine mv_aload_n dX10_joinShapes_108 rfl ?_
      refine mv_getr dX10_joinShapes_109 kf_X10_67 gf_55_34 ?_
      refine mv_iload dX10_joinShapes_112 rfl ?_
      refine mv_iaload dX10_joinShapes_114 so_75 hs (fun hs => ?_)
      refine mv_aload_n dX10_joinShapes_115 rfl ?_
      refine mv_getr dX10_joinShapes_116 kf_X10_67 gf_55_34 ?_
      refine mv_iload dX10_joinShapes_119 rfl ?_
      refine mv_iaload dX10_joinShapes_121 so_75 hs (fun hs => ?_)
      refine mv_iadd dX10_joinShapes_122 ?_
      refine mv_cV (st := []) dX10_joinShapes_123 kk_X10_269 (TX10_putShape_55 G d _ _ _ _ _ (mv_sat_bind hs)) so_55 vc_10 rfl rfl (Nat.le_of_ble_eq_true rfl) (by omega) rfl ⟨Nat.zero_le _, Nat.zero_le _⟩ (mv_kv fun r741 hs => ?_)
      refine mv_iinc (lv' := [.ref 55, .int v1, .int v2, .int v3, .int v4, .int (v5 + 1)]) 1 dX10_joinShapes_126 rfl (by decide) (Nat.le_of_ble_eq_true rfl) rfl rfl ?_
      refine mv_goto dX10_joinShapes_129 ?_
      exact (ih _ _ _ _ _ _ hs)
    · refine mv_iinc (lv' := [.ref 55, .int v1, .int v2, .int v3, .int (v4 + 1), .int v5]) 1 dX10_joinShapes_132 rfl (by decide) (Nat.le_of_ble_eq_true rfl) rfl rfl ?_
      refine mv_goto dX10_joinShapes_135 ?_
      exact mv_weak (lv' := [.ref 55, .int v1, .int v2, .int v3, .int (v4 + 1), .float 0]) (mv_s (mv_s (mv_s (mv_s (mv_s (mv_k mv_n)))))) (hk8 _ _ _ _ _ hs)
noncomputable def fX10_joinShapes_55_b8 : Nat → Int32 → Int32 → Int32 → Int32 → mv_H → Option (mv_H)
  | 0, _, _, _, _, _ => none
  | n + 1, v1, v2, v3, v4, h => if mv_in v2 16 then (if mv_in v2 16 then (if v4 < ((h 72 v2.toNatClampNeg) + (h 73 v2.toNatClampNeg)) then (if mv_in v3 16 then (mv_let (h 72 v3.toNatClampNeg) fun x737 : Int32 => fX10_joinShapes_55_b34 (fX10_joinShapes_55_b8 n) mv_F v1 v2 v3 v4 x737 h) else none) else some h) else none) else none
set_option maxRecDepth 100000 in
set_option maxHeartbeats 4000000 in
theorem BX10_joinShapes_55_b8 (G : mv_G) (d D : Nat) (hD : d + 1 ≤ D) (P : mv_H → Prop) : ∀ (n : Nat) (v1 : Int32) (v2 : Int32) (v3 : Int32) (v4 : Int32) (h : mv_H), mv_sat (fX10_joinShapes_55_b8 n v1 v2 v3 v4 h) P → mv_MW G mX10_joinShapes (mv_rm D mX10_joinShapes) (mv_Zf G mX10_joinShapes (mv_qv mv_SH P)) 0 0 8 [.ref 55, .int v1, .int v2, .int v3, .int v4, .float 0] [] mv_SH h := by
  intro n
  induction n with
  | zero =>
    intro v1 v2 v3 v4 h hs
    unfold fX10_joinShapes_55_b8 at hs
    exact (mv_sat_none hs).elim
  | succ n ih =>
    intro v1 v2 v3 v4 h hs
    unfold fX10_joinShapes_55_b8 at hs
    refine mv_iload dX10_joinShapes_8 rfl ?_
    refine mv_aload_n dX10_joinShapes_10 rfl ?_
    refine mv_getr dX10_joinShapes_11 kf_X10_58 gf_55_31 ?_
    refine mv_iload_n dX10_joinShapes_14 rfl ?_
    refine mv_iaload dX10_joinShapes_15 so_72 hs (fun hs => ?_)
    refine mv_aload_n dX10_joinShapes_16 rfl ?_
    refine mv_getr dX10_joinShapes_17 kf_X10_61 gf_55_32 ?_
    refine mv_iload_n dX10_joinShapes_20 rfl ?_
    refine mv_iaload dX10_joinShapes_21 so_73 hs (fun hs => ?_)
    refine mv_iadd dX10_joinShapes_22 ?_
    refine mv_icmp_ge dX10_joinShapes_23 hs (fun _ hs => ?_) (fun _ hs => ?_)
    · refine mv_aload_n dX10_joinShapes_26 rfl ?_
      refine mv_getr dX10_joinShapes_27 kf_X10_58 gf_55_31 ?_
      refine mv_iload_n dX10_joinShapes_30 rfl ?_
      refine mv_iaload dX10_joinShapes_31 so_72 hs (fun hs => ?_)
      refine mv_name hs (fun x737 hs => ?_)
      refine mv_istore (lv' := [.ref 55, .int v1, .int v2, .int v3, .int v4, .int x737]) dX10_joinShapes_32 (Nat.le_of_ble_eq_true rfl) rfl rfl ?_
      exact (BX10_joinShapes_55_b34 G d D (by omega) P _ ih _ _ _ _ _ _ _ hs)
    · exact mv_vret dX10_joinShapes_138 rfl ⟨_, rfl, rfl, rfl, mv_sat_some hs⟩
noncomputable def fX10_joinShapes_55 (p0 : Int32) (p1 : Int32) (p2 : Int32) (h : mv_H) : Option (mv_H) := if mv_in p1 16 then (mv_let (h 72 p1.toNatClampNeg) fun x736 : Int32 => fX10_joinShapes_55_b8 mv_F p0 p1 p2 x736 h) else none
set_option maxRecDepth 100000 in
set_option maxHeartbeats 4000000 in
theorem TX10_joinShapes_55 (G : mv_G) (d : Nat) (P : mv_H → Prop) (p0 : Int32) (p1 : Int32) (p2 : Int32) (h : mv_H) (hs : mv_sat (fX10_joinShapes_55 p0 p1 p2 h) P) : mv_met G (d + 1) mX10_joinShapes [.ref 55, .int p0, .int p1, .int p2] mv_SH h (mv_qv mv_SH P) := by
  unfold fX10_joinShapes_55 at hs
  obtain ⟨D, hDe⟩ : ∃ D, D = d + 1 := ⟨_, rfl⟩
  rw [← hDe]
  have hD : d + 1 ≤ D := by omega
  refine mv_enter (lv := [.ref 55, .int p0, .int p1, .int p2, .float 0, .float 0]) 2 (by decide) (by decide +kernel) rfl (Nat.le_of_ble_eq_true rfl) ?_
  refine mv_aload_n dX10_joinShapes_0 rfl ?_
  refine mv_getr dX10_joinShapes_1 kf_X10_58 gf_55_31 ?_
  refine mv_iload_n dX10_joinShapes_4 rfl ?_
  refine mv_iaload dX10_joinShapes_5 so_72 hs (fun hs => ?_)
  refine mv_name hs (fun x736 hs => ?_)
  refine mv_istore (lv' := [.ref 55, .int p0, .int p1, .int p2, .int x736, .float 0]) dX10_joinShapes_6 (Nat.le_of_ble_eq_true rfl) rfl rfl ?_
  exact (BX10_joinShapes_55_b8 G d D (by omega) P _ _ _ _ _ _ hs)
noncomputable def fX10_findShapes_55_b89 (k7 : Int32 → mv_H → Option (mv_H)) : Nat → Int32 → Int32 → Int32 → mv_H → Option (mv_H)
  | 0, _, _, _, _ => none
  | n + 1, v1, v2, v3, h => if 0 < v3 then (if (v3 &&& v1) = v3 then (if (v3 &&& v2) = 0 then fX10_findShapes_55_b117 k7 (fX10_findShapes_55_b89 k7 n) v1 v2 v3 h else (fX10_joinShapes_55 v1 v3 (v1 &&& (v3 ^^^ (-1))) h).bind fun r742 => fX10_findShapes_55_b117 k7 (fX10_findShapes_55_b89 k7 n) v1 v2 v3 r742) else fX10_findShapes_55_b117 k7 (fX10_findShapes_55_b89 k7 n) v1 v2 v3 h) else k7 (v1 + 1) h
set_option maxRecDepth 100000 in
set_option maxHeartbeats 4000000 in
theorem BX10_findShapes_55_b89 (G : mv_G) (d D : Nat) (hD : d + 2 ≤ D) (P : mv_H → Prop) (k7 : Int32 → mv_H → Option (mv_H)) (hk7 : ∀ (v1 : Int32) (h : mv_H), mv_sat (k7 v1 h) P → mv_MW G mX10_findShapes (mv_rm D mX10_findShapes) (mv_Zf G mX10_findShapes (mv_qv mv_SH P)) 0 0 7 [.ref 55, .int v1, .float 0, .float 0] [] mv_SH h) : ∀ (n : Nat) (v1 : Int32) (v2 : Int32) (v3 : Int32) (h : mv_H), mv_sat (fX10_findShapes_55_b89 k7 n v1 v2 v3 h) P → mv_MW G mX10_findShapes (mv_rm D mX10_findShapes) (mv_Zf G mX10_findShapes (mv_qv mv_SH P)) 0 0 89 [.ref 55, .int v1, .int v2, .int v3] [] mv_SH h := by
  intro n
  induction n with
  | zero =>
    intro v1 v2 v3 h hs
    unfold fX10_findShapes_55_b89 at hs
    exact (mv_sat_none hs).elim
  | succ n ih =>
    intro v1 v2 v3 h hs
    unfold fX10_findShapes_55_b89 at hs
    refine mv_iload_n dX10_findShapes_89 rfl ?_
    refine mv_if_le dX10_findShapes_90 hs (fun _ hs => ?_) (fun _ hs => ?_)
    · refine mv_iload_n dX10_findShapes_93 rfl ?_
      refine mv_iload_n dX10_findShapes_94 rfl ?_
      refine mv_iand dX10_findShapes_95 ?_
      refine mv_iload_n dX10_findShapes_96 rfl ?_
      refine mv_icmp_ne dX10_findShapes_97 hs (fun _ hs => ?_) (fun _ hs => ?_)
      · refine mv_iload_n dX10_findShapes_100 rfl ?_
        refine mv_iload_n dX10_findShapes_101 rfl ?_
        refine mv_iand dX10_findShapes_102 ?_
        refine mv_if_eq dX10_findShapes_103 hs (fun _ hs => ?_) (fun _ hs => ?_)
        · exact (BX10_findShapes_55_b117 G d D (by omega) P _ _ hk7 ih _ _ _ _ hs)
        · refine mv_aload_n dX10_findShapes_106 rfl ?_
          refine mv_iload_n dX10_findShapes_107 rfl ?_
          refine mv_iload_n dX10_findShapes_108 rfl ?_
          refine mv_iload_n dX10_findShapes_109 rfl ?_
          refine mv_iload_n dX10_findShapes_110 rfl ?_
          refine mv_iconst (-1) dX10_findShapes_111 (by decide) ?_
          refine mv_ixor dX10_findShapes_112 ?_
          refine mv_iand dX10_findShapes_113 ?_
          refine mv_cV (st := []) dX10_findShapes_114 kk_X10_275 (TX10_joinShapes_55 G d _ _ _ _ _ (mv_sat_bind hs)) so_55 vc_10 rfl rfl (Nat.le_of_ble_eq_true rfl) (by omega) rfl ⟨Nat.zero_le _, Nat.zero_le _⟩ (mv_kv fun r742 hs => ?_)
          exact (BX10_findShapes_55_b117 G d D (by omega) P _ _ hk7 ih _ _ _ _ hs)
      · exact (BX10_findShapes_55_b117 G d D (by omega) P _ _ hk7 ih _ _ _ _ hs)
    · refine mv_iinc (lv' := [.ref 55, .int (v1 + 1), .int v2, .int v3]) 1 dX10_findShapes_123 rfl (by decide) (Nat.le_of_ble_eq_true rfl) rfl rfl ?_
      refine mv_goto dX10_findShapes_126 ?_
      exact mv_weak (lv' := [.ref 55, .int (v1 + 1), .float 0, .float 0]) (mv_s (mv_s (mv_k (mv_k mv_n)))) (hk7 _ _ hs)
noncomputable def fX10_findShapes_55_b85 (k7 : Int32 → mv_H → Option (mv_H)) (v1 : Int32) (v2 : Int32) (h : mv_H) : Option (mv_H) := mv_let (v1 - 1) fun x735 : Int32 => fX10_findShapes_55_b89 k7 mv_F v1 v2 x735 h
set_option maxRecDepth 100000 in
set_option maxHeartbeats 4000000 in
theorem BX10_findShapes_55_b85 (G : mv_G) (d D : Nat) (hD : d + 2 ≤ D) (P : mv_H → Prop) (k7 : Int32 → mv_H → Option (mv_H)) (hk7 : ∀ (v1 : Int32) (h : mv_H), mv_sat (k7 v1 h) P → mv_MW G mX10_findShapes (mv_rm D mX10_findShapes) (mv_Zf G mX10_findShapes (mv_qv mv_SH P)) 0 0 7 [.ref 55, .int v1, .float 0, .float 0] [] mv_SH h) (v1 : Int32) (v2 : Int32) (h : mv_H) (hs : mv_sat (fX10_findShapes_55_b85 k7 v1 v2 h) P) : mv_MW G mX10_findShapes (mv_rm D mX10_findShapes) (mv_Zf G mX10_findShapes (mv_qv mv_SH P)) 0 0 85 [.ref 55, .int v1, .int v2, .float 0] [] mv_SH h := by
  unfold fX10_findShapes_55_b85 at hs
  refine mv_iload_n dX10_findShapes_85 rfl ?_
  refine mv_iconst 1 dX10_findShapes_86 (by decide) ?_
  refine mv_isub dX10_findShapes_87 ?_
  refine mv_name hs (fun x735 hs => ?_)
  refine mv_istore_n (lv' := [.ref 55, .int v1, .int v2, .int x735]) dX10_findShapes_88 (Nat.le_of_ble_eq_true rfl) rfl rfl ?_
  exact (BX10_findShapes_55_b89 G d D (by omega) P _ hk7 _ _ _ _ _ hs)
noncomputable def fX10_findShapes_55_b7 : Nat → Int32 → mv_H → Option (mv_H)
  | 0, _, _ => none
  | n + 1, v1, h => if v1 < (1 <<< ((h 55 30) &&& 31)) then (if mv_in v1 16 then mv_let (mv_u h 72 v1.toNatClampNeg (h 55 35)) fun h725 : mv_H => (if mv_in v1 16 then mv_let (mv_u h725 73 v1.toNatClampNeg 0) fun h726 : mv_H => (mv_let (v1 &&& (-v1)) fun x727 : Int32 => if v1 = x727 then ((fX10_ones (v1 - 1)).bind fun r728 => if mv_in r728 4 then (if mv_in r728 4 then ((fX10_putShape_55 v1 (h726 70 r728.toNatClampNeg) (h726 71 r728.toNatClampNeg) h726).bind fun r733 => if mv_in r728 4 then (if mv_in r728 4 then ((fX10_putShape_55 v1 (r733 71 r728.toNatClampNeg) (r733 70 r728.toNatClampNeg) r733).bind fun r734 => fX10_findShapes_55_b85 (fX10_findShapes_55_b7 n) v1 x727 r734) else none) else none) else none) else none) else fX10_findShapes_55_b85 (fX10_findShapes_55_b7 n) v1 x727 h726) else none) else none) else some h
set_option maxRecDepth 100000 in
set_option maxHeartbeats 4000000 in
theorem BX10_findShapes_55_b7 (G : mv_G) (d D : Nat) (hD : d + 2 ≤ D) (P : mv_H → Prop) : ∀ (n : Nat) (v1 : Int32) (h : mv_H), mv_sat (fX10_findShapes_55_b7 n v1 h) P → mv_MW G mX10_findShapes (mv_rm D mX10_findShapes) (mv_Zf G mX10_findShapes (mv_qv mv_SH P)) 0 0 7 [.ref 55, .int v1, .float 0, .float 0] [] mv_SH h := by
  intro n
  induction n with
  | zero =>
    intro v1 h hs
    unfold fX10_findShapes_55_b7 at hs
    exact (mv_sat_none hs).elim
  | succ n ih =>
    intro v1 h hs
    unfold fX10_findShapes_55_b7 at hs
    refine mv_iload_n dX10_findShapes_7 rfl ?_
    refine mv_iconst 1 dX10_findShapes_8 (by decide) ?_
    refine mv_aload_n dX10_findShapes_9 rfl ?_
    refine mv_geti dX10_findShapes_10 kf_X10_272 gf_55_30 ?_
    refine mv_ishl dX10_findShapes_13 ?_
    refine mv_icmp_ge dX10_findShapes_14 hs (fun _ hs => ?_) (fun _ hs => ?_)
    · refine mv_aload_n dX10_findShapes_17 rfl ?_
      refine mv_getr dX10_findShapes_18 kf_X10_58 gf_55_31 ?_
      refine mv_iload_n dX10_findShapes_21 rfl ?_
      refine mv_aload_n dX10_findShapes_22 rfl ?_
      refine mv_geti dX10_findShapes_23 kf_X10_263 gf_55_35 ?_
      refine mv_iastore dX10_findShapes_26 so_72 hs (fun hs => ?_)
      refine mv_nameH hs (fun h725 hs => ?_)
      refine mv_aload_n dX10_findShapes_27 rfl ?_
      refine mv_getr dX10_findShapes_28 kf_X10_61 gf_55_32 ?_
      refine mv_iload_n dX10_findShapes_31 rfl ?_
      refine mv_iconst 0 dX10_findShapes_32 (by decide) ?_
      refine mv_iastore dX10_findShapes_33 so_73 hs (fun hs => ?_)
      refine mv_nameH hs (fun h726 hs => ?_)
      refine mv_iload_n dX10_findShapes_34 rfl ?_
      refine mv_iload_n dX10_findShapes_35 rfl ?_
      refine mv_ineg dX10_findShapes_36 ?_
      refine mv_iand dX10_findShapes_37 ?_
      refine mv_name hs (fun x727 hs => ?_)
      refine mv_istore_n (lv' := [.ref 55, .int v1, .int x727, .float 0]) dX10_findShapes_38 (Nat.le_of_ble_eq_true rfl) rfl rfl ?_
      refine mv_iload_n dX10_findShapes_39 rfl ?_
      refine mv_iload_n dX10_findShapes_40 rfl ?_
      refine mv_icmp_ne dX10_findShapes_41 hs (fun _ hs => ?_) (fun _ hs => ?_)
      · refine mv_iload_n dX10_findShapes_44 rfl ?_
        refine mv_iconst 1 dX10_findShapes_45 (by decide) ?_
        refine mv_isub dX10_findShapes_46 ?_
        refine mv_cS (st := []) dX10_findShapes_47 kk_X10_131 (TX10_ones G d _ _ _ (mv_sat_bind hs)) rfl rfl (Nat.le_of_ble_eq_true rfl) (by omega) rfl ⟨Nat.zero_le _, Nat.zero_le _⟩ (mv_ki fun r728 hs => ?_)
        refine mv_istore_n (lv' := [.ref 55, .int v1, .int x727, .int r728]) dX10_findShapes_50 (Nat.le_of_ble_eq_true rfl) rfl rfl ?_
        refine mv_aload_n dX10_findShapes_51 rfl ?_
        refine mv_iload_n dX10_findShapes_52 rfl ?_
        refine mv_aload_n dX10_findShapes_53 rfl ?_
        refine mv_getr dX10_findShapes_54 kf_X10_52 gf_55_28 ?_
        refine mv_iload_n dX10_findShapes_57 rfl ?_
        refine mv_iaload dX10_findShapes_58 so_70 hs (fun hs => ?_)
        refine mv_aload_n dX10_findShapes_59 rfl ?_
        refine mv_getr dX10_findShapes_60 kf_X10_55 gf_55_29 ?_
        refine mv_iload_n dX10_findShapes_63 rfl ?_
        refine mv_iaload dX10_findShapes_64 so_71 hs (fun hs => ?_)
        refine mv_cV (st := []) dX10_findShapes_65 kk_X10_269 (TX10_putShape_55 G d _ _ _ _ _ (mv_sat_bind hs)) so_55 vc_10 rfl rfl (Nat.le_of_ble_eq_true rfl) (by omega) rfl ⟨Nat.zero_le _, Nat.zero_le _⟩ (mv_kv fun r733 hs => ?_)
        refine mv_aload_n dX10_findShapes_68 rfl ?_
        refine mv_iload_n dX10_findShapes_69 rfl ?_
        refine mv_aload_n dX10_findShapes_70 rfl ?_
        refine mv_getr dX10_findShapes_71 kf_X10_55 gf_55_29 ?_
        refine mv_iload_n dX10_findShapes_74 rfl ?_
        refine mv_iaload dX10_findShapes_75 so_71 hs (fun hs => ?_)
        refine mv_aload_n dX10_findShapes_76 rfl ?_
        refine mv_getr dX10_findShapes_77 kf_X10_52 gf_55_28 ?_
        refine mv_iload_n dX10_findShapes_80 rfl ?_
        refine mv_iaload dX10_findShapes_81 so_70 hs (fun hs => ?_)
        refine mv_cV (st := []) dX10_findShapes_82 kk_X10_269 (TX10_putShape_55 G d _ _ _ _ _ (mv_sat_bind hs)) so_55 vc_10 rfl rfl (Nat.le_of_ble_eq_true rfl) (by omega) rfl ⟨Nat.zero_le _, Nat.zero_le _⟩ (mv_kv fun r734 hs => ?_)
        exact mv_weak (lv' := [.ref 55, .int v1, .int x727, .float 0]) (mv_s (mv_s (mv_s (mv_k mv_n)))) (BX10_findShapes_55_b85 G d D (by omega) P _ ih _ _ _ hs)
      · exact (BX10_findShapes_55_b85 G d D (by omega) P _ ih _ _ _ hs)
    · exact mv_vret dX10_findShapes_129 rfl ⟨_, rfl, rfl, rfl, mv_sat_some hs⟩
noncomputable def fX10_findShapes_55 (h : mv_H) : Option (mv_H) := mv_let (mv_u h 55 35 0) fun h724 : mv_H => fX10_findShapes_55_b7 mv_F 1 h724
set_option maxRecDepth 100000 in
set_option maxHeartbeats 4000000 in
theorem TX10_findShapes_55 (G : mv_G) (d : Nat) (P : mv_H → Prop) (h : mv_H) (hs : mv_sat (fX10_findShapes_55 h) P) : mv_met G (d + 2) mX10_findShapes [.ref 55] mv_SH h (mv_qv mv_SH P) := by
  unfold fX10_findShapes_55 at hs
  obtain ⟨D, hDe⟩ : ∃ D, D = d + 2 := ⟨_, rfl⟩
  rw [← hDe]
  have hD : d + 2 ≤ D := by omega
  refine mv_enter (lv := [.ref 55, .float 0, .float 0, .float 0]) 3 (by decide) (by decide +kernel) rfl (Nat.le_of_ble_eq_true rfl) ?_
  refine mv_aload_n dX10_findShapes_0 rfl ?_
  refine mv_iconst 0 dX10_findShapes_1 (by decide) ?_
  refine mv_puti dX10_findShapes_2 kf_X10_263 (fun q => by cases q) gf_55_35 ?_
  refine mv_nameH hs (fun h724 hs => ?_)
  refine mv_iconst 1 dX10_findShapes_5 (by decide) ?_
  refine mv_istore_n (lv' := [.ref 55, .int 1, .float 0, .float 0]) dX10_findShapes_6 (Nat.le_of_ble_eq_true rfl) rfl rfl ?_
  exact (BX10_findShapes_55_b7 G d D (by omega) P _ _ _ hs)
noncomputable def fX10_canCut_55_b86 (k35 : Int32 → Int32 → Int32 → mv_H → Option (Int32 × mv_H)) (v2 : Int32) (v5 : Int32) (s0 : Int32) (h : mv_H) : Option (Int32 × mv_H) := k35 v2 s0 (v5 + 1) h
set_option maxRecDepth 100000 in
set_option maxHeartbeats 4000000 in
theorem BX10_canCut_55_b86 (G : mv_G) (d D : Nat) (hD : d + 0 ≤ D) (P : Int32 × mv_H → Prop) (k35 : Int32 → Int32 → Int32 → mv_H → Option (Int32 × mv_H)) (hk35 : ∀ (v2 : Int32) (v4 : Int32) (v5 : Int32) (h : mv_H), mv_sat (k35 v2 v4 v5 h) P → mv_MW G mX10_canCut (mv_rm D mX10_canCut) (mv_Zf G mX10_canCut (mv_qI mv_SH P)) 0 0 35 [.ref 55, .float 0, .int v2, .float 0, .int v4, .int v5] [] mv_SH h) (v2 : Int32) (v5 : Int32) (s0 : Int32) (h : mv_H) (hs : mv_sat (fX10_canCut_55_b86 k35 v2 v5 s0 h) P) : mv_MW G mX10_canCut (mv_rm D mX10_canCut) (mv_Zf G mX10_canCut (mv_qI mv_SH P)) 0 0 86 [.ref 55, .float 0, .int v2, .float 0, .float 0, .int v5] [.int s0] mv_SH h := by
  unfold fX10_canCut_55_b86 at hs
  refine mv_istore (lv' := [.ref 55, .float 0, .int v2, .float 0, .int s0, .int v5]) dX10_canCut_86 (Nat.le_of_ble_eq_true rfl) rfl rfl ?_
  refine mv_iinc (lv' := [.ref 55, .float 0, .int v2, .float 0, .int s0, .int (v5 + 1)]) 1 dX10_canCut_88 rfl (by decide) (Nat.le_of_ble_eq_true rfl) rfl rfl ?_
  refine mv_goto dX10_canCut_91 ?_
  exact (hk35 _ _ _ _ hs)
noncomputable def fX10_canCut_55_b85 (k35 : Int32 → Int32 → Int32 → mv_H → Option (Int32 × mv_H)) (v2 : Int32) (v5 : Int32) (h : mv_H) : Option (Int32 × mv_H) := fX10_canCut_55_b86 k35 v2 v5 0 h
set_option maxRecDepth 100000 in
set_option maxHeartbeats 4000000 in
theorem BX10_canCut_55_b85 (G : mv_G) (d D : Nat) (hD : d + 0 ≤ D) (P : Int32 × mv_H → Prop) (k35 : Int32 → Int32 → Int32 → mv_H → Option (Int32 × mv_H)) (hk35 : ∀ (v2 : Int32) (v4 : Int32) (v5 : Int32) (h : mv_H), mv_sat (k35 v2 v4 v5 h) P → mv_MW G mX10_canCut (mv_rm D mX10_canCut) (mv_Zf G mX10_canCut (mv_qI mv_SH P)) 0 0 35 [.ref 55, .float 0, .int v2, .float 0, .int v4, .int v5] [] mv_SH h) (v2 : Int32) (v5 : Int32) (h : mv_H) (hs : mv_sat (fX10_canCut_55_b85 k35 v2 v5 h) P) : mv_MW G mX10_canCut (mv_rm D mX10_canCut) (mv_Zf G mX10_canCut (mv_qI mv_SH P)) 0 0 85 [.ref 55, .float 0, .int v2, .float 0, .float 0, .int v5] [] mv_SH h := by
  unfold fX10_canCut_55_b85 at hs
  refine mv_iconst 0 dX10_canCut_85 (by decide) ?_
  exact (BX10_canCut_55_b86 G d D (by omega) P _ hk35 _ _ _ _ hs)
noncomputable def fX10_canCut_55_b81 (k35 : Int32 → Int32 → Int32 → mv_H → Option (Int32 × mv_H)) (v2 : Int32) (v5 : Int32) (h : mv_H) : Option (Int32 × mv_H) := fX10_canCut_55_b86 k35 v2 v5 1 h
set_option maxRecDepth 100000 in
set_option maxHeartbeats 4000000 in
theorem BX10_canCut_55_b81 (G : mv_G) (d D : Nat) (hD : d + 0 ≤ D) (P : Int32 × mv_H → Prop) (k35 : Int32 → Int32 → Int32 → mv_H → Option (Int32 × mv_H)) (hk35 : ∀ (v2 : Int32) (v4 : Int32) (v5 : Int32) (h : mv_H), mv_sat (k35 v2 v4 v5 h) P → mv_MW G mX10_canCut (mv_rm D mX10_canCut) (mv_Zf G mX10_canCut (mv_qI mv_SH P)) 0 0 35 [.ref 55, .float 0, .int v2, .float 0, .int v4, .int v5] [] mv_SH h) (v2 : Int32) (v5 : Int32) (h : mv_H) (hs : mv_sat (fX10_canCut_55_b81 k35 v2 v5 h) P) : mv_MW G mX10_canCut (mv_rm D mX10_canCut) (mv_Zf G mX10_canCut (mv_qI mv_SH P)) 0 0 81 [.ref 55, .float 0, .int v2, .float 0, .float 0, .int v5] [] mv_SH h := by
  unfold fX10_canCut_55_b81 at hs
  refine mv_iconst 1 dX10_canCut_81 (by decide) ?_
  refine mv_goto dX10_canCut_82 ?_
  exact (BX10_canCut_55_b86 G d D (by omega) P _ hk35 _ _ _ _ hs)
noncomputable def fX10_canCut_55_b35 : Nat → Int32 → Int32 → Int32 → mv_H → Option (Int32 × mv_H)
  | 0, _, _, _, _ => none
  | n + 1, v2, v4, v5, h => if v5 < (h 55 35) then (if v4 = 0 then (if mv_in v5 4000 then (if mv_in v2 6 then (if (h 58 v2.toNatClampNeg) < (h 74 v5.toNatClampNeg) then fX10_canCut_55_b85 (fX10_canCut_55_b35 n) v2 v5 h else if mv_in v5 4000 then (if mv_in v2 6 then (if (h 59 v2.toNatClampNeg) < (h 75 v5.toNatClampNeg) then fX10_canCut_55_b85 (fX10_canCut_55_b35 n) v2 v5 h else fX10_canCut_55_b81 (fX10_canCut_55_b35 n) v2 v5 h) else none) else none) else none) else none) else fX10_canCut_55_b81 (fX10_canCut_55_b35 n) v2 v5 h) else if mv_01 v4 then some (v4, h) else none
set_option maxRecDepth 100000 in
set_option maxHeartbeats 4000000 in
theorem BX10_canCut_55_b35 (G : mv_G) (d D : Nat) (hD : d + 0 ≤ D) (P : Int32 × mv_H → Prop) : ∀ (n : Nat) (v2 : Int32) (v4 : Int32) (v5 : Int32) (h : mv_H), mv_sat (fX10_canCut_55_b35 n v2 v4 v5 h) P → mv_MW G mX10_canCut (mv_rm D mX10_canCut) (mv_Zf G mX10_canCut (mv_qI mv_SH P)) 0 0 35 [.ref 55, .float 0, .int v2, .float 0, .int v4, .int v5] [] mv_SH h := by
  intro n
  induction n with
  | zero =>
    intro v2 v4 v5 h hs
    unfold fX10_canCut_55_b35 at hs
    exact (mv_sat_none hs).elim
  | succ n ih =>
    intro v2 v4 v5 h hs
    unfold fX10_canCut_55_b35 at hs
    refine mv_iload dX10_canCut_35 rfl ?_
    refine mv_aload_n dX10_canCut_37 rfl ?_
    refine mv_geti dX10_canCut_38 kf_X10_263 gf_55_35 ?_
    refine mv_icmp_ge dX10_canCut_41 hs (fun _ hs => ?_) (fun _ hs => ?_)
    · refine mv_iload dX10_canCut_44 rfl ?_
      refine mv_if_ne dX10_canCut_46 hs (fun _ hs => ?_) (fun _ hs => ?_)
      · refine mv_aload_n dX10_canCut_49 rfl ?_
        refine mv_getr dX10_canCut_50 kf_X10_64 gf_55_33 ?_
        refine mv_iload dX10_canCut_53 rfl ?_
        refine mv_iaload dX10_canCut_55 so_74 hs (fun hs => ?_)
        refine mv_aload_n dX10_canCut_56 rfl ?_
        refine mv_getr dX10_canCut_57 kf_X10_16 gf_55_5 ?_
        refine mv_iload_n dX10_canCut_60 rfl ?_
        refine mv_iaload dX10_canCut_61 so_58 hs (fun hs => ?_)
        refine mv_icmp_gt dX10_canCut_62 hs (fun _ hs => ?_) (fun _ hs => ?_)
        · exact mv_weak (lv' := [.ref 55, .float 0, .int v2, .float 0, .float 0, .int v5]) (mv_s (mv_s (mv_s (mv_s (mv_k (mv_s mv_n)))))) (BX10_canCut_55_b85 G d D (by omega) P _ ih _ _ _ hs)
        · refine mv_aload_n dX10_canCut_65 rfl ?_
          refine mv_getr dX10_canCut_66 kf_X10_67 gf_55_34 ?_
          refine mv_iload dX10_canCut_69 rfl ?_
          refine mv_iaload dX10_canCut_71 so_75 hs (fun hs => ?_)
          refine mv_aload_n dX10_canCut_72 rfl ?_
          refine mv_getr dX10_canCut_73 kf_X10_19 gf_55_6 ?_
          refine mv_iload_n dX10_canCut_76 rfl ?_
          refine mv_iaload dX10_canCut_77 so_59 hs (fun hs => ?_)
          refine mv_icmp_gt dX10_canCut_78 hs (fun _ hs => ?_) (fun _ hs => ?_)
          · exact mv_weak (lv' := [.ref 55, .float 0, .int v2, .float 0, .float 0, .int v5]) (mv_s (mv_s (mv_s (mv_s (mv_k (mv_s mv_n)))))) (BX10_canCut_55_b85 G d D (by omega) P _ ih _ _ _ hs)
          · exact mv_weak (lv' := [.ref 55, .float 0, .int v2, .float 0, .float 0, .int v5]) (mv_s (mv_s (mv_s (mv_s (mv_k (mv_s mv_n)))))) (BX10_canCut_55_b81 G d D (by omega) P _ ih _ _ _ hs)
      · exact mv_weak (lv' := [.ref 55, .float 0, .int v2, .float 0, .float 0, .int v5]) (mv_s (mv_s (mv_s (mv_s (mv_k (mv_s mv_n)))))) (BX10_canCut_55_b81 G d D (by omega) P _ ih _ _ _ hs)
    · refine mv_iload dX10_canCut_94 rfl ?_
      obtain ⟨h01, hs⟩ := mv_sat_g hs
      exact mv_zret dX10_canCut_96 rfl h01 ⟨(v4, h), rfl, rfl, rfl, mv_sat_some hs⟩
noncomputable def fX10_canCut_55 (p0 : Int32) (p1 : Int32) (h : mv_H) : Option (Int32 × mv_H) := if p0 = 0 then some (1, h) else (fX10_layPieces_55 p0 h).bind fun r723 => (fX10_findShapes_55 r723).bind fun r743 => mv_let ((1 <<< ((r743 55 30) &&& 31)) - 1) fun x744 : Int32 => if mv_in x744 16 then (mv_let (r743 72 x744.toNatClampNeg) fun x745 : Int32 => fX10_canCut_55_b35 mv_F p1 0 x745 r743) else none
set_option maxRecDepth 100000 in
set_option maxHeartbeats 4000000 in
theorem TX10_canCut_55 (G : mv_G) (d : Nat) (P : Int32 × mv_H → Prop) (p0 : Int32) (p1 : Int32) (h : mv_H) (hs : mv_sat (fX10_canCut_55 p0 p1 h) P) : mv_met G (d + 3) mX10_canCut [.ref 55, .int p0, .int p1] mv_SH h (mv_qI mv_SH P) := by
  unfold fX10_canCut_55 at hs
  obtain ⟨D, hDe⟩ : ∃ D, D = d + 3 := ⟨_, rfl⟩
  rw [← hDe]
  have hD : d + 3 ≤ D := by omega
  refine mv_enter (lv := [.ref 55, .int p0, .int p1, .float 0, .float 0, .float 0]) 3 (by decide) (by decide +kernel) rfl (Nat.le_of_ble_eq_true rfl) ?_
  refine mv_iload_n dX10_canCut_0 rfl ?_
  refine mv_if_ne dX10_canCut_1 hs (fun _ hs => ?_) (fun _ hs => ?_)
  · refine mv_iconst 1 dX10_canCut_4 (by decide) ?_
    exact mv_zret dX10_canCut_5 rfl (Or.inr rfl) ⟨(1, h), rfl, rfl, rfl, mv_sat_some hs⟩
  · refine mv_aload_n dX10_canCut_6 rfl ?_
    refine mv_iload_n dX10_canCut_7 rfl ?_
    refine mv_cV (st := []) dX10_canCut_8 kk_X10_278 (TX10_layPieces_55 G d _ _ _ (mv_sat_bind hs)) so_55 vc_10 rfl rfl (Nat.le_of_ble_eq_true rfl) (by omega) rfl ⟨Nat.zero_le _, Nat.zero_le _⟩ (mv_kv fun r723 hs => ?_)
    refine mv_aload_n dX10_canCut_11 rfl ?_
    refine mv_cV (st := []) dX10_canCut_12 kk_X10_281 (TX10_findShapes_55 G d _ _ (mv_sat_bind hs)) so_55 vc_10 rfl rfl (Nat.le_of_ble_eq_true rfl) (by omega) rfl ⟨Nat.zero_le _, Nat.zero_le _⟩ (mv_kv fun r743 hs => ?_)
    refine mv_iconst 1 dX10_canCut_15 (by decide) ?_
    refine mv_aload_n dX10_canCut_16 rfl ?_
    refine mv_geti dX10_canCut_17 kf_X10_272 gf_55_30 ?_
    refine mv_ishl dX10_canCut_20 ?_
    refine mv_iconst 1 dX10_canCut_21 (by decide) ?_
    refine mv_isub dX10_canCut_22 ?_
    refine mv_name hs (fun x744 hs => ?_)
    refine mv_istore_n (lv' := [.ref 55, .int p0, .int p1, .int x744, .float 0, .float 0]) dX10_canCut_23 (Nat.le_of_ble_eq_true rfl) rfl rfl ?_
    refine mv_iconst 0 dX10_canCut_24 (by decide) ?_
    refine mv_istore (lv' := [.ref 55, .int p0, .int p1, .int x744, .int 0, .float 0]) dX10_canCut_25 (Nat.le_of_ble_eq_true rfl) rfl rfl ?_
    refine mv_aload_n dX10_canCut_27 rfl ?_
    refine mv_getr dX10_canCut_28 kf_X10_58 gf_55_31 ?_
    refine mv_iload_n dX10_canCut_31 rfl ?_
    refine mv_iaload dX10_canCut_32 so_72 hs (fun hs => ?_)
    refine mv_name hs (fun x745 hs => ?_)
    refine mv_istore (lv' := [.ref 55, .int p0, .int p1, .int x744, .int 0, .int x745]) dX10_canCut_33 (Nat.le_of_ble_eq_true rfl) rfl rfl ?_
    exact mv_weak (lv' := [.ref 55, .float 0, .int p1, .float 0, .int 0, .int x745]) (mv_s (mv_k (mv_s (mv_k (mv_s (mv_s mv_n)))))) (BX10_canCut_55_b35 G d D (by omega) P _ _ _ _ _ hs)
noncomputable def fX10_cut_55 (p0 : Int32) (p1 : Int32) (h : mv_H) : Option (Int32 × mv_H) := (fX10_isSheet_55 p1 h).bind fun r713 => if r713 = 0 then some ((-1), h) else (fX10_areBoxes_55 p0 h).bind fun r715 => if r715 = 0 then some ((-2), h) else (fX10_ones p0).bind fun r716 => if 4 < r716 then some ((-4), h) else (fX10_canCut_55 p0 p1 h).bind fun r746 => if r746.1 = 0 then some (0, r746.2) else some (1, r746.2)
set_option maxRecDepth 100000 in
set_option maxHeartbeats 4000000 in
theorem TX10_cut_55 (G : mv_G) (d : Nat) (P : Int32 × mv_H → Prop) (p0 : Int32) (p1 : Int32) (h : mv_H) (hs : mv_sat (fX10_cut_55 p0 p1 h) P) : mv_met G (d + 4) mX10_cut [.ref 55, .int p0, .int p1] mv_SH h (mv_qI mv_SH P) := by
  unfold fX10_cut_55 at hs
  obtain ⟨D, hDe⟩ : ∃ D, D = d + 4 := ⟨_, rfl⟩
  rw [← hDe]
  have hD : d + 4 ≤ D := by omega
  refine mv_enter (lv := [.ref 55, .int p0, .int p1]) 0 (by decide) (by decide +kernel) rfl (Nat.le_of_ble_eq_true rfl) ?_
  refine mv_aload_n dX10_cut_0 rfl ?_
  refine mv_iload_n dX10_cut_1 rfl ?_
  refine mv_cV (st := []) dX10_cut_2 kk_X10_152 (TX10_isSheet_55 G d _ _ _ (mv_sat_bind hs)) so_55 vc_10 rfl rfl (Nat.le_of_ble_eq_true rfl) (by omega) rfl ⟨Nat.zero_le _, Nat.zero_le _⟩ (mv_ki fun r713 hs => ?_)
  refine mv_if_ne dX10_cut_5 hs (fun _ hs => ?_) (fun _ hs => ?_)
  · refine mv_iconst (-1) dX10_cut_8 (by decide) ?_
    exact mv_iret dX10_cut_9 rfl ⟨((-1), h), rfl, rfl, rfl, mv_sat_some hs⟩
  · refine mv_aload_n dX10_cut_10 rfl ?_
    refine mv_iload_n dX10_cut_11 rfl ?_
    refine mv_cV (st := []) dX10_cut_12 kk_X10_286 (TX10_areBoxes_55 G d _ _ _ (mv_sat_bind hs)) so_55 vc_10 rfl rfl (Nat.le_of_ble_eq_true rfl) (by omega) rfl ⟨Nat.zero_le _, Nat.zero_le _⟩ (mv_ki fun r715 hs => ?_)
    refine mv_if_ne dX10_cut_15 hs (fun _ hs => ?_) (fun _ hs => ?_)
    · refine mv_bipush (-2) dX10_cut_18 (by decide) ?_
      exact mv_iret dX10_cut_20 rfl ⟨((-2), h), rfl, rfl, rfl, mv_sat_some hs⟩
    · refine mv_iload_n dX10_cut_21 rfl ?_
      refine mv_cS (st := []) dX10_cut_22 kk_X10_131 (TX10_ones G d _ _ _ (mv_sat_bind hs)) rfl rfl (Nat.le_of_ble_eq_true rfl) (by omega) rfl ⟨Nat.zero_le _, Nat.zero_le _⟩ (mv_ki fun r716 hs => ?_)
      refine mv_iconst 4 dX10_cut_25 (by decide) ?_
      refine mv_icmp_le dX10_cut_26 hs (fun _ hs => ?_) (fun _ hs => ?_)
      · refine mv_bipush (-4) dX10_cut_29 (by decide) ?_
        exact mv_iret dX10_cut_31 rfl ⟨((-4), h), rfl, rfl, rfl, mv_sat_some hs⟩
      · refine mv_aload_n dX10_cut_32 rfl ?_
        refine mv_iload_n dX10_cut_33 rfl ?_
        refine mv_iload_n dX10_cut_34 rfl ?_
        refine mv_cV (st := []) dX10_cut_35 kk_X10_289 (TX10_canCut_55 G d _ _ _ _ (mv_sat_bind hs)) so_55 vc_10 rfl rfl (Nat.le_of_ble_eq_true rfl) (by omega) rfl ⟨Nat.zero_le _, Nat.zero_le _⟩ (mv_kI2 fun r746 hs => ?_)
        refine mv_if_eq dX10_cut_38 hs (fun _ hs => ?_) (fun _ hs => ?_)
        · refine mv_iconst 0 dX10_cut_45 (by decide) ?_
          exact mv_iret dX10_cut_46 rfl ⟨(0, r746.2), rfl, rfl, rfl, mv_sat_some hs⟩
        · refine mv_iconst 1 dX10_cut_41 (by decide) ?_
          refine mv_goto dX10_cut_42 ?_
          exact mv_iret dX10_cut_46 rfl ⟨(1, r746.2), rfl, rfl, rfl, mv_sat_some hs⟩
noncomputable def fX7_bits_2 (h : mv_H) : Option (Int32) := some (h 2 2)
set_option maxRecDepth 100000 in
set_option maxHeartbeats 4000000 in
theorem TX7_bits_2 (G : mv_G) (d : Nat) (P : Int32 → Prop) (h : mv_H) (hs : mv_sat (fX7_bits_2 h) P) : mv_met G (d + 0) mX7_bits [.ref 2] mv_SH h (mv_qi mv_SH h P) := by
  unfold fX7_bits_2 at hs
  obtain ⟨D, hDe⟩ : ∃ D, D = d + 0 := ⟨_, rfl⟩
  rw [← hDe]
  have hD : d + 0 ≤ D := by omega
  refine mv_enter (lv := [.ref 2]) 0 (by decide) (by decide +kernel) rfl (Nat.le_of_ble_eq_true rfl) ?_
  refine mv_aload_n dX7_bits_0 rfl ?_
  refine mv_geti dX7_bits_1 kf_X7_19 gf_2_2 ?_
  exact mv_iret dX7_bits_4 rfl ⟨_, rfl, rfl, rfl, mv_sat_some hs⟩
noncomputable def fX0_greatestOf_41_b40 (k2 : Int32 → Int32 → mv_H → Option (Int32 × mv_H)) (k8 : Int32 → Int32 → Int32 → mv_H → Option (Int32 × mv_H)) (v1 : Int32) (v2 : Int32) (v3 : Int32) (h : mv_H) : Option (Int32 × mv_H) := k8 v1 v2 (v3 + 1) h
set_option maxRecDepth 100000 in
set_option maxHeartbeats 4000000 in
theorem BX0_greatestOf_41_b40 (G : mv_G) (d D : Nat) (hD : d + 0 ≤ D) (P : Int32 × mv_H → Prop) (k2 : Int32 → Int32 → mv_H → Option (Int32 × mv_H)) (k8 : Int32 → Int32 → Int32 → mv_H → Option (Int32 × mv_H)) (hk2 : ∀ (v1 : Int32) (v2 : Int32) (h : mv_H), mv_sat (k2 v1 v2 h) P → mv_MW G mX0_greatestOf (mv_rm D mX0_greatestOf) (mv_Zf G mX0_greatestOf (mv_qI mv_SH P)) 0 0 2 [.ref 41, .int v1, .int v2, .float 0] [] mv_SH h) (hk8 : ∀ (v1 : Int32) (v2 : Int32) (v3 : Int32) (h : mv_H), mv_sat (k8 v1 v2 v3 h) P → mv_MW G mX0_greatestOf (mv_rm D mX0_greatestOf) (mv_Zf G mX0_greatestOf (mv_qI mv_SH P)) 0 0 8 [.ref 41, .int v1, .int v2, .int v3] [] mv_SH h) (v1 : Int32) (v2 : Int32) (v3 : Int32) (h : mv_H) (hs : mv_sat (fX0_greatestOf_41_b40 k2 k8 v1 v2 v3 h) P) : mv_MW G mX0_greatestOf (mv_rm D mX0_greatestOf) (mv_Zf G mX0_greatestOf (mv_qI mv_SH P)) 0 0 40 [.ref 41, .int v1, .int v2, .int v3] [] mv_SH h := by
  unfold fX0_greatestOf_41_b40 at hs
  refine mv_iinc (lv' := [.ref 41, .int v1, .int v2, .int (v3 + 1)]) 1 dX0_greatestOf_40 rfl (by decide) (Nat.le_of_ble_eq_true rfl) rfl rfl ?_
  refine mv_goto dX0_greatestOf_43 ?_
  exact (hk8 _ _ _ _ hs)
noncomputable def fX0_greatestOf_41_b8 (k2 : Int32 → Int32 → mv_H → Option (Int32 × mv_H)) : Nat → Int32 → Int32 → Int32 → mv_H → Option (Int32 × mv_H)
  | 0, _, _, _, _ => none
  | n + 1, v1, v2, v3, h => if v3 < 64 then (if (v3 &&& (v1 ^^^ (-1))) = 0 then ((fJ6_bitCount_0f7a4 v3).bind fun r752 => if r752 = v2 then ((fX0_gives_41 v3 h).bind fun r753 => if r753.1 = 0 then fX0_greatestOf_41_b40 k2 (fX0_greatestOf_41_b8 k2 n) v1 v2 v3 r753.2 else some (v3, r753.2)) else fX0_greatestOf_41_b40 k2 (fX0_greatestOf_41_b8 k2 n) v1 v2 v3 h) else fX0_greatestOf_41_b40 k2 (fX0_greatestOf_41_b8 k2 n) v1 v2 v3 h) else k2 v1 (v2 + (-1)) h
set_option maxRecDepth 100000 in
set_option maxHeartbeats 4000000 in
theorem BX0_greatestOf_41_b8 (G : mv_G) (d D : Nat) (hD : d + 48 ≤ D) (P : Int32 × mv_H → Prop) (k2 : Int32 → Int32 → mv_H → Option (Int32 × mv_H)) (hk2 : ∀ (v1 : Int32) (v2 : Int32) (h : mv_H), mv_sat (k2 v1 v2 h) P → mv_MW G mX0_greatestOf (mv_rm D mX0_greatestOf) (mv_Zf G mX0_greatestOf (mv_qI mv_SH P)) 0 0 2 [.ref 41, .int v1, .int v2, .float 0] [] mv_SH h) : ∀ (n : Nat) (v1 : Int32) (v2 : Int32) (v3 : Int32) (h : mv_H), mv_sat (fX0_greatestOf_41_b8 k2 n v1 v2 v3 h) P → mv_MW G mX0_greatestOf (mv_rm D mX0_greatestOf) (mv_Zf G mX0_greatestOf (mv_qI mv_SH P)) 0 0 8 [.ref 41, .int v1, .int v2, .int v3] [] mv_SH h := by
  intro n
  induction n with
  | zero =>
    intro v1 v2 v3 h hs
    unfold fX0_greatestOf_41_b8 at hs
    exact (mv_sat_none hs).elim
  | succ n ih =>
    intro v1 v2 v3 h hs
    unfold fX0_greatestOf_41_b8 at hs
    refine mv_iload_n dX0_greatestOf_8 rfl ?_
    refine mv_bipush 64 dX0_greatestOf_9 (by decide) ?_
    refine mv_icmp_ge dX0_greatestOf_11 hs (fun _ hs => ?_) (fun _ hs => ?_)
    · refine mv_iload_n dX0_greatestOf_14 rfl ?_
      refine mv_iload_n dX0_greatestOf_15 rfl ?_
      refine mv_iconst (-1) dX0_greatestOf_16 (by decide) ?_
      refine mv_ixor dX0_greatestOf_17 ?_
      refine mv_iand dX0_greatestOf_18 ?_
      refine mv_if_ne dX0_greatestOf_19 hs (fun _ hs => ?_) (fun _ hs => ?_)
      · refine mv_iload_n dX0_greatestOf_22 rfl ?_
        refine mv_cS (st := []) dX0_greatestOf_23 kk_X0_39 (TJ6_bitCount_0f7a4 G d _ _ _ (mv_sat_bind hs)) rfl rfl (Nat.le_of_ble_eq_true rfl) (by omega) rfl ⟨Nat.zero_le _, Nat.zero_le _⟩ (mv_ki fun r752 hs => ?_)
        refine mv_iload_n dX0_greatestOf_26 rfl ?_
        refine mv_icmp_ne dX0_greatestOf_27 hs (fun _ hs => ?_) (fun _ hs => ?_)
        · refine mv_aload_n dX0_greatestOf_30 rfl ?_
          refine mv_iload_n dX0_greatestOf_31 rfl ?_
          refine mv_cV (st := []) dX0_greatestOf_32 kk_X0_45 (TX0_gives_41 G d _ _ _ (mv_sat_bind hs)) so_41 vc_0 rfl rfl (Nat.le_of_ble_eq_true rfl) (by omega) rfl ⟨Nat.zero_le _, Nat.zero_le _⟩ (mv_kI2 fun r753 hs => ?_)
          refine mv_if_eq dX0_greatestOf_35 hs (fun _ hs => ?_) (fun _ hs => ?_)
          · exact (BX0_greatestOf_41_b40 G d D (by omega) P _ _ hk2 ih _ _ _ _ hs)
          · refine mv_iload_n dX0_greatestOf_38 rfl ?_
            exact mv_iret dX0_greatestOf_39 rfl ⟨(v3, r753.2), rfl, rfl, rfl, mv_sat_some hs⟩
        · exact (BX0_greatestOf_41_b40 G d D (by omega) P _ _ hk2 ih _ _ _ _ hs)
      · exact (BX0_greatestOf_41_b40 G d D (by omega) P _ _ hk2 ih _ _ _ _ hs)
    · refine mv_iinc (lv' := [.ref 41, .int v1, .int (v2 + (-1)), .int v3]) (-1) dX0_greatestOf_46 rfl (by decide) (Nat.le_of_ble_eq_true rfl) rfl rfl ?_
      refine mv_goto dX0_greatestOf_49 ?_
      exact mv_weak (lv' := [.ref 41, .int v1, .int (v2 + (-1)), .float 0]) (mv_s (mv_s (mv_s (mv_k mv_n)))) (hk2 _ _ _ hs)
noncomputable def fX0_greatestOf_41_b2 : Nat → Int32 → Int32 → mv_H → Option (Int32 × mv_H)
  | 0, _, _, _ => none
  | n + 1, v1, v2, h => if 0 < v2 then fX0_greatestOf_41_b8 (fX0_greatestOf_41_b2 n) mv_F v1 v2 1 h else some (0, h)
set_option maxRecDepth 100000 in
set_option maxHeartbeats 4000000 in
theorem BX0_greatestOf_41_b2 (G : mv_G) (d D : Nat) (hD : d + 48 ≤ D) (P : Int32 × mv_H → Prop) : ∀ (n : Nat) (v1 : Int32) (v2 : Int32) (h : mv_H), mv_sat (fX0_greatestOf_41_b2 n v1 v2 h) P → mv_MW G mX0_greatestOf (mv_rm D mX0_greatestOf) (mv_Zf G mX0_greatestOf (mv_qI mv_SH P)) 0 0 2 [.ref 41, .int v1, .int v2, .float 0] [] mv_SH h := by
  intro n
  induction n with
  | zero =>
    intro v1 v2 h hs
    unfold fX0_greatestOf_41_b2 at hs
    exact (mv_sat_none hs).elim
  | succ n ih =>
    intro v1 v2 h hs
    unfold fX0_greatestOf_41_b2 at hs
    refine mv_iload_n dX0_greatestOf_2 rfl ?_
    refine mv_if_le dX0_greatestOf_3 hs (fun _ hs => ?_) (fun _ hs => ?_)
    · refine mv_iconst 1 dX0_greatestOf_6 (by decide) ?_
      refine mv_istore_n (lv' := [.ref 41, .int v1, .int v2, .int 1]) dX0_greatestOf_7 (Nat.le_of_ble_eq_true rfl) rfl rfl ?_
      exact (BX0_greatestOf_41_b8 G d D (by omega) P _ ih _ _ _ _ _ hs)
    · refine mv_iconst 0 dX0_greatestOf_52 (by decide) ?_
      exact mv_iret dX0_greatestOf_53 rfl ⟨(0, h), rfl, rfl, rfl, mv_sat_some hs⟩
noncomputable def fX0_greatestOf_41 (p0 : Int32) (h : mv_H) : Option (Int32 × mv_H) := fX0_greatestOf_41_b2 mv_F p0 4 h
set_option maxRecDepth 100000 in
set_option maxHeartbeats 4000000 in
theorem TX0_greatestOf_41 (G : mv_G) (d : Nat) (P : Int32 × mv_H → Prop) (p0 : Int32) (h : mv_H) (hs : mv_sat (fX0_greatestOf_41 p0 h) P) : mv_met G (d + 48) mX0_greatestOf [.ref 41, .int p0] mv_SH h (mv_qI mv_SH P) := by
  unfold fX0_greatestOf_41 at hs
  obtain ⟨D, hDe⟩ : ∃ D, D = d + 48 := ⟨_, rfl⟩
  rw [← hDe]
  have hD : d + 48 ≤ D := by omega
  refine mv_enter (lv := [.ref 41, .int p0, .float 0, .float 0]) 2 (by decide) (by decide +kernel) rfl (Nat.le_of_ble_eq_true rfl) ?_
  refine mv_iconst 4 dX0_greatestOf_0 (by decide) ?_
  refine mv_istore_n (lv' := [.ref 41, .int p0, .int 4, .float 0]) dX0_greatestOf_1 (Nat.le_of_ble_eq_true rfl) rfl rfl ?_
  exact (BX0_greatestOf_41_b2 G d D (by omega) P _ _ _ _ hs)
noncomputable def fX9_most_0 (p0 : Int32) (p1 : Int32) (h : mv_H) : Option (Int32 × mv_H) := (fX7_has_6 p0 h).bind fun r748 => if r748 = 0 then some ((-1), h) else (fX9_isWithin p1 (0 : Int32) (2 : Int32)).bind fun r749 => if r749 = 0 then some ((-2), h) else (fX7_bits_2 h).bind fun r750 => (fX9_startCuts_0 r750 p0 h).bind fun r751 => (fX0_greatestOf_41 r750 r751).bind fun r754 => if p1 = 0 then ((fJ6_bitCount_0f7a4 r754.1).bind fun r755 => some (r755, r754.2)) else if p1 = 1 then some (r754.1, r754.2) else (fX7_area_6 p0 r754.2).bind fun r756 => (fX0_paperOf_41 r754.1 r754.2).bind fun r757 => some (r756 - r757, r754.2)
set_option maxRecDepth 100000 in
set_option maxHeartbeats 4000000 in
theorem TX9_most_0 (G : mv_G) (d : Nat) (P : Int32 × mv_H → Prop) (p0 : Int32) (p1 : Int32) (h : mv_H) (hs : mv_sat (fX9_most_0 p0 p1 h) P) : mv_met G (d + 49) mX9_most [.ref 0, .int p0, .int p1] mv_SH h (mv_qI mv_SH P) := by
  unfold fX9_most_0 at hs
  obtain ⟨D, hDe⟩ : ∃ D, D = d + 49 := ⟨_, rfl⟩
  rw [← hDe]
  have hD : d + 49 ≤ D := by omega
  refine mv_enter (lv := [.ref 0, .int p0, .int p1, .float 0, .float 0]) 2 (by decide) (by decide +kernel) rfl (Nat.le_of_ble_eq_true rfl) ?_
  refine mv_aload_n dX9_most_0 rfl ?_
  refine mv_getr dX9_most_1 kf_X9_10 gf_0_0 ?_
  refine mv_getr dX9_most_4 kf_X9_83 gf_1_2 ?_
  refine mv_iload_n dX9_most_7 rfl ?_
  refine mv_cV (st := []) dX9_most_8 kk_X9_100 (TX7_has_6 G d _ _ _ (mv_sat_bind hs)) so_6 vc_7 rfl rfl (Nat.le_of_ble_eq_true rfl) (by omega) rfl ⟨Nat.zero_le _, Nat.zero_le _⟩ (mv_ki fun r748 hs => ?_)
  refine mv_if_ne dX9_most_11 hs (fun _ hs => ?_) (fun _ hs => ?_)
  · refine mv_iconst (-1) dX9_most_14 (by decide) ?_
    exact mv_iret dX9_most_15 rfl ⟨((-1), h), rfl, rfl, rfl, mv_sat_some hs⟩
  · refine mv_iload_n dX9_most_16 rfl ?_
    refine mv_iconst 0 dX9_most_17 (by decide) ?_
    refine mv_iconst 2 dX9_most_18 (by decide) ?_
    refine mv_cS (st := []) dX9_most_19 kk_X9_79 (TX9_isWithin G d _ _ _ _ _ (mv_sat_bind hs)) rfl rfl (Nat.le_of_ble_eq_true rfl) (by omega) rfl ⟨Nat.zero_le _, Nat.zero_le _⟩ (mv_ki fun r749 hs => ?_)
    refine mv_if_ne dX9_most_22 hs (fun _ hs => ?_) (fun _ hs => ?_)
    · refine mv_bipush (-2) dX9_most_25 (by decide) ?_
      exact mv_iret dX9_most_27 rfl ⟨((-2), h), rfl, rfl, rfl, mv_sat_some hs⟩
    · refine mv_aload_n dX9_most_28 rfl ?_
      refine mv_getr dX9_most_29 kf_X9_10 gf_0_0 ?_
      refine mv_getr dX9_most_32 kf_X9_64 gf_1_0 ?_
      refine mv_cV (st := []) dX9_most_35 kk_X9_241 (TX7_bits_2 G d _ _ (mv_sat_bind hs)) so_2 vc_7 rfl rfl (Nat.le_of_ble_eq_true rfl) (by omega) rfl ⟨Nat.zero_le _, Nat.zero_le _⟩ (mv_ki fun r750 hs => ?_)
      refine mv_istore_n (lv' := [.ref 0, .int p0, .int p1, .int r750, .float 0]) dX9_most_38 (Nat.le_of_ble_eq_true rfl) rfl rfl ?_
      refine mv_aload_n dX9_most_39 rfl ?_
      refine mv_iload_n dX9_most_40 rfl ?_
      refine mv_iload_n dX9_most_41 rfl ?_
      refine mv_cV (st := []) dX9_most_42 kk_X9_235 (TX9_startCuts_0 G d _ _ _ _ (mv_sat_bind hs)) so_0 vc_9 rfl rfl (Nat.le_of_ble_eq_true rfl) (by omega) rfl ⟨Nat.zero_le _, Nat.zero_le _⟩ (mv_kv fun r751 hs => ?_)
      refine mv_aload_n dX9_most_45 rfl ?_
      refine mv_getr dX9_most_46 kf_X9_46 gf_0_7 ?_
      refine mv_iload_n dX9_most_49 rfl ?_
      refine mv_cV (st := []) dX9_most_50 kk_X9_244 (TX0_greatestOf_41 G d _ _ _ (mv_sat_bind hs)) so_41 vc_0 rfl rfl (Nat.le_of_ble_eq_true rfl) (by omega) rfl ⟨Nat.zero_le _, Nat.zero_le _⟩ (mv_kI2 fun r754 hs => ?_)
      refine mv_istore (lv' := [.ref 0, .int p0, .int p1, .int r750, .int r754.1]) dX9_most_53 (Nat.le_of_ble_eq_true rfl) rfl rfl ?_
      refine mv_iload_n dX9_most_55 rfl ?_
      refine mv_if_ne dX9_most_56 hs (fun _ hs => ?_) (fun _ hs => ?_)
      · refine mv_iload dX9_most_59 rfl ?_
        refine mv_cS (st := []) dX9_most_61 kk_X9_227 (TJ6_bitCount_0f7a4 G d _ _ _ (mv_sat_bind hs)) rfl rfl (Nat.le_of_ble_eq_true rfl) (by omega) rfl ⟨Nat.zero_le _, Nat.zero_le _⟩ (mv_ki fun r755 hs => ?_)
        exact mv_iret dX9_most_64 rfl ⟨(r755, r754.2), rfl, rfl, rfl, mv_sat_some hs⟩
      · refine mv_iload_n dX9_most_65 rfl ?_
        refine mv_iconst 1 dX9_most_66 (by decide) ?_
        refine mv_icmp_ne dX9_most_67 hs (fun _ hs => ?_) (fun _ hs => ?_)
        · refine mv_iload dX9_most_70 rfl ?_
          refine mv_goto dX9_most_72 ?_
          exact mv_iret dX9_most_96 rfl ⟨(r754.1, r754.2), rfl, rfl, rfl, mv_sat_some hs⟩
        · refine mv_aload_n dX9_most_75 rfl ?_
          refine mv_getr dX9_most_76 kf_X9_10 gf_0_0 ?_
          refine mv_getr dX9_most_79 kf_X9_83 gf_1_2 ?_
          refine mv_iload_n dX9_most_82 rfl ?_
          refine mv_cV (st := []) dX9_most_83 kk_X9_176 (TX7_area_6 G d _ _ _ (mv_sat_bind hs)) so_6 vc_7 rfl rfl (Nat.le_of_ble_eq_true rfl) (by omega) rfl ⟨Nat.zero_le _, Nat.zero_le _⟩ (mv_ki fun r756 hs => ?_)
          refine mv_aload_n dX9_most_86 rfl ?_
          refine mv_getr dX9_most_87 kf_X9_46 gf_0_7 ?_
          refine mv_iload dX9_most_90 rfl ?_
          refine mv_cV (st := [.int r756]) dX9_most_92 kk_X9_247 (TX0_paperOf_41 G d _ _ _ (mv_sat_bind hs)) so_41 vc_0 rfl rfl (Nat.le_of_ble_eq_true rfl) (by omega) rfl ⟨Nat.zero_le _, Nat.zero_le _⟩ (mv_ki fun r757 hs => ?_)
          refine mv_isub dX9_most_95 ?_
          exact mv_iret dX9_most_96 rfl ⟨(r756 - r757, r754.2), rfl, rfl, rfl, mv_sat_some hs⟩
noncomputable def fX10_most_55_b95 (k30 : Int32 → Int32 → Int32 → Int32 → mv_H → Option (Int32 × mv_H)) (v1 : Int32) (v2 : Int32) (v4 : Int32) (s0 : Int32) (h : mv_H) : Option (Int32 × mv_H) := k30 v1 v2 s0 (v4 + 1) h
set_option maxRecDepth 100000 in
set_option maxHeartbeats 4000000 in
theorem BX10_most_55_b95 (G : mv_G) (d D : Nat) (hD : d + 0 ≤ D) (P : Int32 × mv_H → Prop) (k30 : Int32 → Int32 → Int32 → Int32 → mv_H → Option (Int32 × mv_H)) (hk30 : ∀ (v1 : Int32) (v2 : Int32) (v3 : Int32) (v4 : Int32) (h : mv_H), mv_sat (k30 v1 v2 v3 v4 h) P → mv_MW G mX10_most (mv_rm D mX10_most) (mv_Zf G mX10_most (mv_qI mv_SH P)) 0 0 30 [.ref 55, .int v1, .int v2, .int v3, .int v4, .float 0] [] mv_SH h) (v1 : Int32) (v2 : Int32) (v4 : Int32) (s0 : Int32) (h : mv_H) (hs : mv_sat (fX10_most_55_b95 k30 v1 v2 v4 s0 h) P) : mv_MW G mX10_most (mv_rm D mX10_most) (mv_Zf G mX10_most (mv_qI mv_SH P)) 0 0 95 [.ref 55, .int v1, .int v2, .float 0, .int v4, .float 0] [.int s0] mv_SH h := by
  unfold fX10_most_55_b95 at hs
  refine mv_istore_n (lv' := [.ref 55, .int v1, .int v2, .int s0, .int v4, .float 0]) dX10_most_95 (Nat.le_of_ble_eq_true rfl) rfl rfl ?_
  refine mv_iinc (lv' := [.ref 55, .int v1, .int v2, .int s0, .int (v4 + 1), .float 0]) 1 dX10_most_96 rfl (by decide) (Nat.le_of_ble_eq_true rfl) rfl rfl ?_
  refine mv_goto dX10_most_99 ?_
  exact (hk30 _ _ _ _ _ hs)
noncomputable def fX10_most_55_b94 (k30 : Int32 → Int32 → Int32 → Int32 → mv_H → Option (Int32 × mv_H)) (v1 : Int32) (v2 : Int32) (v3 : Int32) (v4 : Int32) (h : mv_H) : Option (Int32 × mv_H) := fX10_most_55_b95 k30 v1 v2 v4 v3 h
set_option maxRecDepth 100000 in
set_option maxHeartbeats 4000000 in
theorem BX10_most_55_b94 (G : mv_G) (d D : Nat) (hD : d + 0 ≤ D) (P : Int32 × mv_H → Prop) (k30 : Int32 → Int32 → Int32 → Int32 → mv_H → Option (Int32 × mv_H)) (hk30 : ∀ (v1 : Int32) (v2 : Int32) (v3 : Int32) (v4 : Int32) (h : mv_H), mv_sat (k30 v1 v2 v3 v4 h) P → mv_MW G mX10_most (mv_rm D mX10_most) (mv_Zf G mX10_most (mv_qI mv_SH P)) 0 0 30 [.ref 55, .int v1, .int v2, .int v3, .int v4, .float 0] [] mv_SH h) (v1 : Int32) (v2 : Int32) (v3 : Int32) (v4 : Int32) (h : mv_H) (hs : mv_sat (fX10_most_55_b94 k30 v1 v2 v3 v4 h) P) : mv_MW G mX10_most (mv_rm D mX10_most) (mv_Zf G mX10_most (mv_qI mv_SH P)) 0 0 94 [.ref 55, .int v1, .int v2, .int v3, .int v4, .float 0] [] mv_SH h := by
  unfold fX10_most_55_b94 at hs
  refine mv_iload_n dX10_most_94 rfl ?_
  exact mv_weak (lv' := [.ref 55, .int v1, .int v2, .float 0, .int v4, .float 0]) (mv_s (mv_s (mv_s (mv_k (mv_s (mv_s mv_n)))))) (BX10_most_55_b95 G d D (by omega) P _ hk30 _ _ _ _ _ hs)
noncomputable def fX10_most_55_b72 (k30 : Int32 → Int32 → Int32 → Int32 → mv_H → Option (Int32 × mv_H)) (v1 : Int32) (v2 : Int32) (v3 : Int32) (v4 : Int32) (s0 : Int32) (h : mv_H) : Option (Int32 × mv_H) := if s0 = 0 then fX10_most_55_b94 k30 v1 v2 v3 v4 h else (fX10_canCut_55 v4 v1 h).bind fun r762 => if r762.1 = 0 then fX10_most_55_b94 k30 v1 v2 v3 v4 r762.2 else fX10_most_55_b95 k30 v1 v2 v4 v4 r762.2
set_option maxRecDepth 100000 in
set_option maxHeartbeats 4000000 in
theorem BX10_most_55_b72 (G : mv_G) (d D : Nat) (hD : d + 4 ≤ D) (P : Int32 × mv_H → Prop) (k30 : Int32 → Int32 → Int32 → Int32 → mv_H → Option (Int32 × mv_H)) (hk30 : ∀ (v1 : Int32) (v2 : Int32) (v3 : Int32) (v4 : Int32) (h : mv_H), mv_sat (k30 v1 v2 v3 v4 h) P → mv_MW G mX10_most (mv_rm D mX10_most) (mv_Zf G mX10_most (mv_qI mv_SH P)) 0 0 30 [.ref 55, .int v1, .int v2, .int v3, .int v4, .float 0] [] mv_SH h) (v1 : Int32) (v2 : Int32) (v3 : Int32) (v4 : Int32) (s0 : Int32) (h : mv_H) (hs : mv_sat (fX10_most_55_b72 k30 v1 v2 v3 v4 s0 h) P) : mv_MW G mX10_most (mv_rm D mX10_most) (mv_Zf G mX10_most (mv_qI mv_SH P)) 0 0 72 [.ref 55, .int v1, .int v2, .int v3, .int v4, .float 0] [.int s0] mv_SH h := by
  unfold fX10_most_55_b72 at hs
  refine mv_istore (lv' := [.ref 55, .int v1, .int v2, .int v3, .int v4, .int s0]) dX10_most_72 (Nat.le_of_ble_eq_true rfl) rfl rfl ?_
  refine mv_iload dX10_most_74 rfl ?_
  refine mv_if_eq dX10_most_76 hs (fun _ hs => ?_) (fun _ hs => ?_)
  · exact mv_weak (lv' := [.ref 55, .int v1, .int v2, .int v3, .int v4, .float 0]) (mv_s (mv_s (mv_s (mv_s (mv_s (mv_k mv_n)))))) (BX10_most_55_b94 G d D (by omega) P _ hk30 _ _ _ _ _ hs)
  · refine mv_aload_n dX10_most_79 rfl ?_
    refine mv_iload dX10_most_80 rfl ?_
    refine mv_iload_n dX10_most_82 rfl ?_
    refine mv_cV (st := []) dX10_most_83 kk_X10_289 (TX10_canCut_55 G d _ _ _ _ (mv_sat_bind hs)) so_55 vc_10 rfl rfl (Nat.le_of_ble_eq_true rfl) (by omega) rfl ⟨Nat.zero_le _, Nat.zero_le _⟩ (mv_kI2 fun r762 hs => ?_)
    refine mv_if_eq dX10_most_86 hs (fun _ hs => ?_) (fun _ hs => ?_)
    · exact mv_weak (lv' := [.ref 55, .int v1, .int v2, .int v3, .int v4, .float 0]) (mv_s (mv_s (mv_s (mv_s (mv_s (mv_k mv_n)))))) (BX10_most_55_b94 G d D (by omega) P _ hk30 _ _ _ _ _ hs)
    · refine mv_iload dX10_most_89 rfl ?_
      refine mv_goto dX10_most_91 ?_
      exact mv_weak (lv' := [.ref 55, .int v1, .int v2, .float 0, .int v4, .float 0]) (mv_s (mv_s (mv_s (mv_k (mv_s (mv_k mv_n)))))) (BX10_most_55_b95 G d D (by omega) P _ hk30 _ _ _ _ _ hs)
noncomputable def fX10_most_55_b71 (k30 : Int32 → Int32 → Int32 → Int32 → mv_H → Option (Int32 × mv_H)) (v1 : Int32) (v2 : Int32) (v3 : Int32) (v4 : Int32) (h : mv_H) : Option (Int32 × mv_H) := fX10_most_55_b72 k30 v1 v2 v3 v4 0 h
set_option maxRecDepth 100000 in
set_option maxHeartbeats 4000000 in
theorem BX10_most_55_b71 (G : mv_G) (d D : Nat) (hD : d + 4 ≤ D) (P : Int32 × mv_H → Prop) (k30 : Int32 → Int32 → Int32 → Int32 → mv_H → Option (Int32 × mv_H)) (hk30 : ∀ (v1 : Int32) (v2 : Int32) (v3 : Int32) (v4 : Int32) (h : mv_H), mv_sat (k30 v1 v2 v3 v4 h) P → mv_MW G mX10_most (mv_rm D mX10_most) (mv_Zf G mX10_most (mv_qI mv_SH P)) 0 0 30 [.ref 55, .int v1, .int v2, .int v3, .int v4, .float 0] [] mv_SH h) (v1 : Int32) (v2 : Int32) (v3 : Int32) (v4 : Int32) (h : mv_H) (hs : mv_sat (fX10_most_55_b71 k30 v1 v2 v3 v4 h) P) : mv_MW G mX10_most (mv_rm D mX10_most) (mv_Zf G mX10_most (mv_qI mv_SH P)) 0 0 71 [.ref 55, .int v1, .int v2, .int v3, .int v4, .float 0] [] mv_SH h := by
  unfold fX10_most_55_b71 at hs
  refine mv_iconst 0 dX10_most_71 (by decide) ?_
  exact (BX10_most_55_b72 G d D (by omega) P _ hk30 _ _ _ _ _ _ hs)
noncomputable def fX10_paperOf_55_b35 (k4 : Int32 → Int32 → Int32 → mv_H → Option (Int32 × mv_H)) (v1 : Int32) (v2 : Int32) (v3 : Int32) (h : mv_H) : Option (Int32 × mv_H) := k4 v1 v2 (v3 + 1) h
set_option maxRecDepth 100000 in
set_option maxHeartbeats 4000000 in
theorem BX10_paperOf_55_b35 (G : mv_G) (d D : Nat) (hD : d + 0 ≤ D) (P : Int32 × mv_H → Prop) (k4 : Int32 → Int32 → Int32 → mv_H → Option (Int32 × mv_H)) (hk4 : ∀ (v1 : Int32) (v2 : Int32) (v3 : Int32) (h : mv_H), mv_sat (k4 v1 v2 v3 h) P → mv_MW G mX10_paperOf (mv_rm D mX10_paperOf) (mv_Zf G mX10_paperOf (mv_qI mv_SH P)) 0 0 4 [.ref 55, .int v1, .int v2, .int v3] [] mv_SH h) (v1 : Int32) (v2 : Int32) (v3 : Int32) (h : mv_H) (hs : mv_sat (fX10_paperOf_55_b35 k4 v1 v2 v3 h) P) : mv_MW G mX10_paperOf (mv_rm D mX10_paperOf) (mv_Zf G mX10_paperOf (mv_qI mv_SH P)) 0 0 35 [.ref 55, .int v1, .int v2, .int v3] [] mv_SH h := by
  unfold fX10_paperOf_55_b35 at hs
  refine mv_iinc (lv' := [.ref 55, .int v1, .int v2, .int (v3 + 1)]) 1 dX10_paperOf_35 rfl (by decide) (Nat.le_of_ble_eq_true rfl) rfl rfl ?_
  refine mv_goto dX10_paperOf_38 ?_
  exact (hk4 _ _ _ _ hs)
noncomputable def fX10_paperOf_55_b4 : Nat → Int32 → Int32 → Int32 → mv_H → Option (Int32 × mv_H)
  | 0, _, _, _, _ => none
  | n + 1, v1, v2, v3, h => if v3 < 6 then (if ((v1 >>> (v3 &&& 31)) &&& 1) = 1 then ((fX10_look_55 v3 h).bind fun r768 => (fX10_leastAxis_55 r768).bind fun r769 => (fX10_paper_55 r769 r768).bind fun r770 => mv_let (v2 + r770) fun x771 : Int32 => fX10_paperOf_55_b35 (fX10_paperOf_55_b4 n) v1 x771 v3 r768) else fX10_paperOf_55_b35 (fX10_paperOf_55_b4 n) v1 v2 v3 h) else some (v2, h)
set_option maxRecDepth 100000 in
set_option maxHeartbeats 4000000 in
theorem BX10_paperOf_55_b4 (G : mv_G) (d D : Nat) (hD : d + 2 ≤ D) (P : Int32 × mv_H → Prop) : ∀ (n : Nat) (v1 : Int32) (v2 : Int32) (v3 : Int32) (h : mv_H), mv_sat (fX10_paperOf_55_b4 n v1 v2 v3 h) P → mv_MW G mX10_paperOf (mv_rm D mX10_paperOf) (mv_Zf G mX10_paperOf (mv_qI mv_SH P)) 0 0 4 [.ref 55, .int v1, .int v2, .int v3] [] mv_SH h := by
  intro n
  induction n with
  | zero =>
    intro v1 v2 v3 h hs
    unfold fX10_paperOf_55_b4 at hs
    exact (mv_sat_none hs).elim
  | succ n ih =>
    intro v1 v2 v3 h hs
    unfold fX10_paperOf_55_b4 at hs
    refine mv_iload_n dX10_paperOf_4 rfl ?_
    refine mv_bipush 6 dX10_paperOf_5 (by decide) ?_
    refine mv_icmp_ge dX10_paperOf_7 hs (fun _ hs => ?_) (fun _ hs => ?_)
    · refine mv_iload_n dX10_paperOf_10 rfl ?_
      refine mv_iload_n dX10_paperOf_11 rfl ?_
      refine mv_ishr dX10_paperOf_12 ?_
      refine mv_iconst 1 dX10_paperOf_13 (by decide) ?_
      refine mv_iand dX10_paperOf_14 ?_
      refine mv_iconst 1 dX10_paperOf_15 (by decide) ?_
      refine mv_icmp_ne dX10_paperOf_16 hs (fun _ hs => ?_) (fun _ hs => ?_)
      · refine mv_aload_n dX10_paperOf_19 rfl ?_
        refine mv_iload_n dX10_paperOf_20 rfl ?_
        refine mv_cV (st := []) dX10_paperOf_21 kk_X10_209 (TX10_look_55 G d _ _ _ (mv_sat_bind hs)) so_55 vc_10 rfl rfl (Nat.le_of_ble_eq_true rfl) (by omega) rfl ⟨Nat.zero_le _, Nat.zero_le _⟩ (mv_kv fun r768 hs => ?_)
        refine mv_iload_n dX10_paperOf_24 rfl ?_
        refine mv_aload_n dX10_paperOf_25 rfl ?_
        refine mv_aload_n dX10_paperOf_26 rfl ?_
        refine mv_cV (st := [.ref 55, .int v2]) dX10_paperOf_27 kk_X10_213 (TX10_leastAxis_55 G d _ _ (mv_sat_bind hs)) so_55 vc_10 rfl rfl (Nat.le_of_ble_eq_true rfl) (by omega) rfl ⟨Nat.zero_le _, Nat.zero_le _⟩ (mv_ki fun r769 hs => ?_)
        refine mv_cV (st := [.int v2]) dX10_paperOf_30 kk_X10_203 (TX10_paper_55 G d _ _ _ (mv_sat_bind hs)) so_55 vc_10 rfl rfl (Nat.le_of_ble_eq_true rfl) (by omega) rfl ⟨Nat.zero_le _, Nat.zero_le _⟩ (mv_ki fun r770 hs => ?_)
        refine mv_iadd dX10_paperOf_33 ?_
        refine mv_name hs (fun x771 hs => ?_)
        refine mv_istore_n (lv' := [.ref 55, .int v1, .int x771, .int v3]) dX10_paperOf_34 (Nat.le_of_ble_eq_true rfl) rfl rfl ?_
        exact (BX10_paperOf_55_b35 G d D (by omega) P _ ih _ _ _ _ hs)
      · exact (BX10_paperOf_55_b35 G d D (by omega) P _ ih _ _ _ _ hs)
    · refine mv_iload_n dX10_paperOf_41 rfl ?_
      exact mv_iret dX10_paperOf_42 rfl ⟨(v2, h), rfl, rfl, rfl, mv_sat_some hs⟩
noncomputable def fX10_paperOf_55 (p0 : Int32) (h : mv_H) : Option (Int32 × mv_H) := fX10_paperOf_55_b4 mv_F p0 0 0 h
set_option maxRecDepth 100000 in
set_option maxHeartbeats 4000000 in
theorem TX10_paperOf_55 (G : mv_G) (d : Nat) (P : Int32 × mv_H → Prop) (p0 : Int32) (h : mv_H) (hs : mv_sat (fX10_paperOf_55 p0 h) P) : mv_met G (d + 2) mX10_paperOf [.ref 55, .int p0] mv_SH h (mv_qI mv_SH P) := by
  unfold fX10_paperOf_55 at hs
  obtain ⟨D, hDe⟩ : ∃ D, D = d + 2 := ⟨_, rfl⟩
  rw [← hDe]
  have hD : d + 2 ≤ D := by omega
  refine mv_enter (lv := [.ref 55, .int p0, .float 0, .float 0]) 2 (by decide) (by decide +kernel) rfl (Nat.le_of_ble_eq_true rfl) ?_
  refine mv_iconst 0 dX10_paperOf_0 (by decide) ?_
  refine mv_istore_n (lv' := [.ref 55, .int p0, .int 0, .float 0]) dX10_paperOf_1 (Nat.le_of_ble_eq_true rfl) rfl rfl ?_
  refine mv_iconst 0 dX10_paperOf_2 (by decide) ?_
  refine mv_istore_n (lv' := [.ref 55, .int p0, .int 0, .int 0]) dX10_paperOf_3 (Nat.le_of_ble_eq_true rfl) rfl rfl ?_
  exact (BX10_paperOf_55_b4 G d D (by omega) P _ _ _ _ _ hs)
noncomputable def fX10_most_55_b30 : Nat → Int32 → Int32 → Int32 → Int32 → mv_H → Option (Int32 × mv_H)
  | 0, _, _, _, _, _ => none
  | n + 1, v1, v2, v3, v4, h => if v4 < 64 then ((fX10_areBoxes_55 v4 h).bind fun r761 => if r761 = 0 then fX10_most_55_b71 (fX10_most_55_b30 n) v1 v2 v3 v4 h else (fX10_ones v4).bind fun r763 => if 4 < r763 then fX10_most_55_b71 (fX10_most_55_b30 n) v1 v2 v3 v4 h else (fX10_ones v4).bind fun r764 => (fX10_ones v3).bind fun r765 => if r765 < r764 then fX10_most_55_b72 (fX10_most_55_b30 n) v1 v2 v3 v4 1 h else fX10_most_55_b71 (fX10_most_55_b30 n) v1 v2 v3 v4 h) else if v2 = 0 then ((fX10_ones v3).bind fun r766 => some (r766, h)) else if v2 = 1 then some (v3, h) else (fX10_areaOf_55 v1 h).bind fun r767 => (fX10_paperOf_55 v3 h).bind fun r772 => some (r767 - r772.1, r772.2)
set_option maxRecDepth 100000 in
set_option maxHeartbeats 4000000 in
theorem BX10_most_55_b30 (G : mv_G) (d D : Nat) (hD : d + 4 ≤ D) (P : Int32 × mv_H → Prop) : ∀ (n : Nat) (v1 : Int32) (v2 : Int32) (v3 : Int32) (v4 : Int32) (h : mv_H), mv_sat (fX10_most_55_b30 n v1 v2 v3 v4 h) P → mv_MW G mX10_most (mv_rm D mX10_most) (mv_Zf G mX10_most (mv_qI mv_SH P)) 0 0 30 [.ref 55, .int v1, .int v2, .int v3, .int v4, .float 0] [] mv_SH h := by
  intro n
  induction n with
  | zero =>
    intro v1 v2 v3 v4 h hs
    unfold fX10_most_55_b30 at hs
    exact (mv_sat_none hs).elim
  | succ n ih =>
    intro v1 v2 v3 v4 h hs
    unfold fX10_most_55_b30 at hs
    refine mv_iload dX10_most_30 rfl ?_
    refine mv_bipush 64 dX10_most_32 (by decide) ?_
    refine mv_icmp_ge dX10_most_34 hs (fun _ hs => ?_) (fun _ hs => ?_)
    · refine mv_aload_n dX10_most_37 rfl ?_
      refine mv_iload dX10_most_38 rfl ?_
      refine mv_cV (st := []) dX10_most_40 kk_X10_286 (TX10_areBoxes_55 G d _ _ _ (mv_sat_bind hs)) so_55 vc_10 rfl rfl (Nat.le_of_ble_eq_true rfl) (by omega) rfl ⟨Nat.zero_le _, Nat.zero_le _⟩ (mv_ki fun r761 hs => ?_)
      refine mv_if_eq dX10_most_43 hs (fun _ hs => ?_) (fun _ hs => ?_)
      · exact (BX10_most_55_b71 G d D (by omega) P _ ih _ _ _ _ _ hs)
      · refine mv_iload dX10_most_46 rfl ?_
        refine mv_cS (st := []) dX10_most_48 kk_X10_131 (TX10_ones G d _ _ _ (mv_sat_bind hs)) rfl rfl (Nat.le_of_ble_eq_true rfl) (by omega) rfl ⟨Nat.zero_le _, Nat.zero_le _⟩ (mv_ki fun r763 hs => ?_)
        refine mv_iconst 4 dX10_most_51 (by decide) ?_
        refine mv_icmp_gt dX10_most_52 hs (fun _ hs => ?_) (fun _ hs => ?_)
        · exact (BX10_most_55_b71 G d D (by omega) P _ ih _ _ _ _ _ hs)
        · refine mv_iload dX10_most_55 rfl ?_
          refine mv_cS (st := []) dX10_most_57 kk_X10_131 (TX10_ones G d _ _ _ (mv_sat_bind hs)) rfl rfl (Nat.le_of_ble_eq_true rfl) (by omega) rfl ⟨Nat.zero_le _, Nat.zero_le _⟩ (mv_ki fun r764 hs => ?_)
          refine mv_iload_n dX10_most_60 rfl ?_
          refine mv_cS (st := [.int r764]) dX10_most_61 kk_X10_131 (TX10_ones G d _ _ _ (mv_sat_bind hs)) rfl rfl (Nat.le_of_ble_eq_true rfl) (by omega) rfl ⟨Nat.zero_le _, Nat.zero_le _⟩ (mv_ki fun r765 hs => ?_)
          refine mv_icmp_le dX10_most_64 hs (fun _ hs => ?_) (fun _ hs => ?_)
          · refine mv_iconst 1 dX10_most_67 (by decide) ?_
            refine mv_goto dX10_most_68 ?_
            exact (BX10_most_55_b72 G d D (by omega) P _ ih _ _ _ _ _ _ hs)
          · exact (BX10_most_55_b71 G d D (by omega) P _ ih _ _ _ _ _ hs)
    · refine mv_iload_n dX10_most_102 rfl ?_
      refine mv_if_ne dX10_most_103 hs (fun _ hs => ?_) (fun _ hs => ?_)
      · refine mv_iload_n dX10_most_106 rfl ?_
        refine mv_cS (st := []) dX10_most_107 kk_X10_131 (TX10_ones G d _ _ _ (mv_sat_bind hs)) rfl rfl (Nat.le_of_ble_eq_true rfl) (by omega) rfl ⟨Nat.zero_le _, Nat.zero_le _⟩ (mv_ki fun r766 hs => ?_)
        refine mv_goto dX10_most_110 ?_
        exact mv_iret dX10_most_133 rfl ⟨(r766, h), rfl, rfl, rfl, mv_sat_some hs⟩
      · refine mv_iload_n dX10_most_113 rfl ?_
        refine mv_iconst 1 dX10_most_114 (by decide) ?_
        refine mv_icmp_ne dX10_most_115 hs (fun _ hs => ?_) (fun _ hs => ?_)
        · refine mv_iload_n dX10_most_118 rfl ?_
          refine mv_goto dX10_most_119 ?_
          exact mv_iret dX10_most_133 rfl ⟨(v3, h), rfl, rfl, rfl, mv_sat_some hs⟩
        · refine mv_aload_n dX10_most_122 rfl ?_
          refine mv_iload_n dX10_most_123 rfl ?_
          refine mv_cV (st := []) dX10_most_124 kk_X10_219 (TX10_areaOf_55 G d _ _ _ (mv_sat_bind hs)) so_55 vc_10 rfl rfl (Nat.le_of_ble_eq_true rfl) (by omega) rfl ⟨Nat.zero_le _, Nat.zero_le _⟩ (mv_ki fun r767 hs => ?_)
          refine mv_aload_n dX10_most_127 rfl ?_
          refine mv_iload_n dX10_most_128 rfl ?_
          refine mv_cV (st := [.int r767]) dX10_most_129 kk_X10_292 (TX10_paperOf_55 G d _ _ _ (mv_sat_bind hs)) so_55 vc_10 rfl rfl (Nat.le_of_ble_eq_true rfl) (by omega) rfl ⟨Nat.zero_le _, Nat.zero_le _⟩ (mv_kI2 fun r772 hs => ?_)
          refine mv_isub dX10_most_132 ?_
          exact mv_iret dX10_most_133 rfl ⟨(r767 - r772.1, r772.2), rfl, rfl, rfl, mv_sat_some hs⟩
noncomputable def fX10_most_55 (p0 : Int32) (p1 : Int32) (h : mv_H) : Option (Int32 × mv_H) := (fX10_isSheet_55 p0 h).bind fun r759 => if r759 = 0 then some ((-1), h) else (fX10_in (Int32.toInt64 p1) (0 : Int64) (2 : Int64)).bind fun r760 => if r760 = 0 then some ((-2), h) else fX10_most_55_b30 mv_F p0 p1 0 1 h
set_option maxRecDepth 100000 in
set_option maxHeartbeats 4000000 in
theorem TX10_most_55 (G : mv_G) (d : Nat) (P : Int32 × mv_H → Prop) (p0 : Int32) (p1 : Int32) (h : mv_H) (hs : mv_sat (fX10_most_55 p0 p1 h) P) : mv_met G (d + 4) mX10_most [.ref 55, .int p0, .int p1] mv_SH h (mv_qI mv_SH P) := by
  unfold fX10_most_55 at hs
  obtain ⟨D, hDe⟩ : ∃ D, D = d + 4 := ⟨_, rfl⟩
  rw [← hDe]
  have hD : d + 4 ≤ D := by omega
  refine mv_enter (lv := [.ref 55, .int p0, .int p1, .float 0, .float 0, .float 0]) 3 (by decide) (by decide +kernel) rfl (Nat.le_of_ble_eq_true rfl) ?_
  refine mv_aload_n dX10_most_0 rfl ?_
  refine mv_iload_n dX10_most_1 rfl ?_
  refine mv_cV (st := []) dX10_most_2 kk_X10_152 (TX10_isSheet_55 G d _ _ _ (mv_sat_bind hs)) so_55 vc_10 rfl rfl (Nat.le_of_ble_eq_true rfl) (by omega) rfl ⟨Nat.zero_le _, Nat.zero_le _⟩ (mv_ki fun r759 hs => ?_)
  refine mv_if_ne dX10_most_5 hs (fun _ hs => ?_) (fun _ hs => ?_)
  · refine mv_iconst (-1) dX10_most_8 (by decide) ?_
    exact mv_iret dX10_most_9 rfl ⟨((-1), h), rfl, rfl, rfl, mv_sat_some hs⟩
  · refine mv_iload_n dX10_most_10 rfl ?_
    refine mv_i2l dX10_most_11 ?_
    refine mv_lconst 0 dX10_most_12 rfl ?_
    refine mv_ldc2 dX10_most_13 kn_X10_144 ?_
    refine mv_cS (st := []) dX10_most_16 kk_X10_104 (TX10_in G d _ _ _ _ _ (mv_sat_bind hs)) rfl rfl (Nat.le_of_ble_eq_true rfl) (by omega) rfl ⟨Nat.zero_le _, Nat.zero_le _⟩ (mv_ki fun r760 hs => ?_)
    refine mv_if_ne dX10_most_19 hs (fun _ hs => ?_) (fun _ hs => ?_)
    · refine mv_bipush (-2) dX10_most_22 (by decide) ?_
      exact mv_iret dX10_most_24 rfl ⟨((-2), h), rfl, rfl, rfl, mv_sat_some hs⟩
    · refine mv_iconst 0 dX10_most_25 (by decide) ?_
      refine mv_istore_n (lv' := [.ref 55, .int p0, .int p1, .int 0, .float 0, .float 0]) dX10_most_26 (Nat.le_of_ble_eq_true rfl) rfl rfl ?_
      refine mv_iconst 1 dX10_most_27 (by decide) ?_
      refine mv_istore (lv' := [.ref 55, .int p0, .int p1, .int 0, .int 1, .float 0]) dX10_most_28 (Nat.le_of_ble_eq_true rfl) rfl rfl ?_
      exact (BX10_most_55_b30 G d D (by omega) P _ _ _ _ _ _ hs)
noncomputable def fX3_suit_46 (p0 : Int32) (p1 : Int32) (h : mv_H) : Option (mv_H) := (fX9_isNumber p0).bind fun r776 => if r776 = 0 then some h else if mv_in p0 6 then mv_let (mv_u h 47 p0.toNatClampNeg p1) fun h777 : mv_H => (some h777) else none
set_option maxRecDepth 100000 in
set_option maxHeartbeats 4000000 in
theorem TX3_suit_46 (G : mv_G) (d : Nat) (P : mv_H → Prop) (p0 : Int32) (p1 : Int32) (h : mv_H) (hs : mv_sat (fX3_suit_46 p0 p1 h) P) : mv_met G (d + 1) mX3_suit [.ref 46, .int p0, .int p1] mv_SH h (mv_qv mv_SH P) := by
  unfold fX3_suit_46 at hs
  obtain ⟨D, hDe⟩ : ∃ D, D = d + 1 := ⟨_, rfl⟩
  rw [← hDe]
  have hD : d + 1 ≤ D := by omega
  refine mv_enter (lv := [.ref 46, .int p0, .int p1]) 0 (by decide) (by decide +kernel) rfl (Nat.le_of_ble_eq_true rfl) ?_
  refine mv_iload_n dX3_suit_0 rfl ?_
  refine mv_cS (st := []) dX3_suit_1 kk_X3_21 (TX9_isNumber G d _ _ _ (mv_sat_bind hs)) rfl rfl (Nat.le_of_ble_eq_true rfl) (by omega) rfl ⟨Nat.zero_le _, Nat.zero_le _⟩ (mv_ki fun r776 hs => ?_)
  refine mv_if_eq dX3_suit_4 hs (fun _ hs => ?_) (fun _ hs => ?_)
  · exact mv_vret dX3_suit_14 rfl ⟨_, rfl, rfl, rfl, mv_sat_some hs⟩
  · refine mv_aload_n dX3_suit_7 rfl ?_
    refine mv_getr dX3_suit_8 kf_X3_9 gf_46_0 ?_
    refine mv_iload_n dX3_suit_11 rfl ?_
    refine mv_iload_n dX3_suit_12 rfl ?_
    refine mv_iastore dX3_suit_13 so_47 hs (fun hs => ?_)
    refine mv_nameH hs (fun h777 hs => ?_)
    exact mv_vret dX3_suit_14 rfl ⟨_, rfl, rfl, rfl, mv_sat_some hs⟩
noncomputable def fX9_usedUp_0_b47 (k19 : Int32 → Int32 → Int32 → mv_H → Option (Int32 × mv_H)) (v1 : Int32) (v2 : Int32) (v3 : Int32) (s0 : Int32) (s1 : Int32) (h : mv_H) : Option (Int32 × mv_H) := (fX3_suit_46 s1 s0 h).bind fun r778 => k19 v1 v2 (v3 + 1) r778
set_option maxRecDepth 100000 in
set_option maxHeartbeats 4000000 in
theorem BX9_usedUp_0_b47 (G : mv_G) (d D : Nat) (hD : d + 2 ≤ D) (P : Int32 × mv_H → Prop) (k19 : Int32 → Int32 → Int32 → mv_H → Option (Int32 × mv_H)) (hk19 : ∀ (v1 : Int32) (v2 : Int32) (v3 : Int32) (h : mv_H), mv_sat (k19 v1 v2 v3 h) P → mv_MW G mX9_usedUp (mv_rm D mX9_usedUp) (mv_Zf G mX9_usedUp (mv_qI mv_SH P)) 0 0 19 [.ref 0, .int v1, .int v2, .int v3] [] mv_SH h) (v1 : Int32) (v2 : Int32) (v3 : Int32) (s0 : Int32) (s1 : Int32) (h : mv_H) (hs : mv_sat (fX9_usedUp_0_b47 k19 v1 v2 v3 s0 s1 h) P) : mv_MW G mX9_usedUp (mv_rm D mX9_usedUp) (mv_Zf G mX9_usedUp (mv_qI mv_SH P)) 0 0 47 [.ref 0, .int v1, .int v2, .int v3] [.int s0, .int s1, .ref 46] mv_SH h := by
  unfold fX9_usedUp_0_b47 at hs
  refine mv_cV (st := []) dX9_usedUp_47 kk_X9_253 (TX3_suit_46 G d _ _ _ _ (mv_sat_bind hs)) so_46 vc_3 rfl rfl (Nat.le_of_ble_eq_true rfl) (by omega) rfl ⟨Nat.zero_le _, Nat.zero_le _⟩ (mv_kv fun r778 hs => ?_)
  refine mv_iinc (lv' := [.ref 0, .int v1, .int v2, .int (v3 + 1)]) 1 dX9_usedUp_50 rfl (by decide) (Nat.le_of_ble_eq_true rfl) rfl rfl ?_
  refine mv_goto dX9_usedUp_53 ?_
  exact (hk19 _ _ _ _ hs)
noncomputable def fX7_bits_6 (h : mv_H) : Option (Int32) := some (h 6 2)
set_option maxRecDepth 100000 in
set_option maxHeartbeats 4000000 in
theorem TX7_bits_6 (G : mv_G) (d : Nat) (P : Int32 → Prop) (h : mv_H) (hs : mv_sat (fX7_bits_6 h) P) : mv_met G (d + 0) mX7_bits [.ref 6] mv_SH h (mv_qi mv_SH h P) := by
  unfold fX7_bits_6 at hs
  obtain ⟨D, hDe⟩ : ∃ D, D = d + 0 := ⟨_, rfl⟩
  rw [← hDe]
  have hD : d + 0 ≤ D := by omega
  refine mv_enter (lv := [.ref 6]) 0 (by decide) (by decide +kernel) rfl (Nat.le_of_ble_eq_true rfl) ?_
  refine mv_aload_n dX7_bits_0 rfl ?_
  refine mv_geti dX7_bits_1 kf_X7_19 gf_6_2 ?_
  exact mv_iret dX7_bits_4 rfl ⟨_, rfl, rfl, rfl, mv_sat_some hs⟩
noncomputable def fX3_keep_46_b7 : Nat → Int32 → mv_H → Option (mv_H)
  | 0, _, _ => none
  | n + 1, v2, h => if v2 < 6 then (if mv_in v2 6 then (if mv_in v2 6 then mv_let (mv_u h 49 v2.toNatClampNeg (h 48 v2.toNatClampNeg)) fun h788 : mv_H => ((fX3_keep_46_b7 n) (v2 + 1) h788) else none) else none) else some h
set_option maxRecDepth 100000 in
set_option maxHeartbeats 4000000 in
theorem BX3_keep_46_b7 (G : mv_G) (d D : Nat) (hD : d + 0 ≤ D) (P : mv_H → Prop) : ∀ (n : Nat) (v2 : Int32) (h : mv_H), mv_sat (fX3_keep_46_b7 n v2 h) P → mv_MW G mX3_keep (mv_rm D mX3_keep) (mv_Zf G mX3_keep (mv_qv mv_SH P)) 0 0 7 [.ref 46, .float 0, .int v2] [] mv_SH h := by
  intro n
  induction n with
  | zero =>
    intro v2 h hs
    unfold fX3_keep_46_b7 at hs
    exact (mv_sat_none hs).elim
  | succ n ih =>
    intro v2 h hs
    unfold fX3_keep_46_b7 at hs
    refine mv_iload_n dX3_keep_7 rfl ?_
    refine mv_bipush 6 dX3_keep_8 (by decide) ?_
    refine mv_icmp_ge dX3_keep_10 hs (fun _ hs => ?_) (fun _ hs => ?_)
    · refine mv_aload_n dX3_keep_13 rfl ?_
      refine mv_getr dX3_keep_14 kf_X3_18 gf_46_2 ?_
      refine mv_iload_n dX3_keep_17 rfl ?_
      refine mv_aload_n dX3_keep_18 rfl ?_
      refine mv_getr dX3_keep_19 kf_X3_15 gf_46_1 ?_
      refine mv_iload_n dX3_keep_22 rfl ?_
      refine mv_iaload dX3_keep_23 so_48 hs (fun hs => ?_)
      refine mv_iastore dX3_keep_24 so_49 hs (fun hs => ?_)
      refine mv_nameH hs (fun h788 hs => ?_)
      refine mv_iinc (lv' := [.ref 46, .float 0, .int (v2 + 1)]) 1 dX3_keep_25 rfl (by decide) (Nat.le_of_ble_eq_true rfl) rfl rfl ?_
      refine mv_goto dX3_keep_28 ?_
      exact (ih _ _ hs)
    · exact mv_vret dX3_keep_31 rfl ⟨_, rfl, rfl, rfl, mv_sat_some hs⟩
noncomputable def fX3_keep_46 (p0 : Int32) (h : mv_H) : Option (mv_H) := mv_let (mv_u h 46 4 p0) fun h787 : mv_H => fX3_keep_46_b7 mv_F 0 h787
set_option maxRecDepth 100000 in
set_option maxHeartbeats 4000000 in
theorem TX3_keep_46 (G : mv_G) (d : Nat) (P : mv_H → Prop) (p0 : Int32) (h : mv_H) (hs : mv_sat (fX3_keep_46 p0 h) P) : mv_met G (d + 0) mX3_keep [.ref 46, .int p0] mv_SH h (mv_qv mv_SH P) := by
  unfold fX3_keep_46 at hs
  obtain ⟨D, hDe⟩ : ∃ D, D = d + 0 := ⟨_, rfl⟩
  rw [← hDe]
  have hD : d + 0 ≤ D := by omega
  refine mv_enter (lv := [.ref 46, .int p0, .float 0]) 1 (by decide) (by decide +kernel) rfl (Nat.le_of_ble_eq_true rfl) ?_
  refine mv_aload_n dX3_keep_0 rfl ?_
  refine mv_iload_n dX3_keep_1 rfl ?_
  refine mv_puti dX3_keep_2 kf_X3_35 (fun q => by cases q) gf_46_4 ?_
  refine mv_nameH hs (fun h787 hs => ?_)
  refine mv_iconst 0 dX3_keep_5 (by decide) ?_
  refine mv_istore_n (lv' := [.ref 46, .int p0, .int 0]) dX3_keep_6 (Nat.le_of_ble_eq_true rfl) rfl rfl ?_
  exact mv_weak (lv' := [.ref 46, .float 0, .int 0]) (mv_s (mv_k (mv_s mv_n))) (BX3_keep_46_b7 G d D (by omega) P _ _ _ hs)
noncomputable def fX3_extend_46_6_b38 (rc : Int32 → Int32 → Int32 → Int32 → mv_H → Option (mv_H)) (v5 : Int32) (h : mv_H) : Option (mv_H) := (fX3_keep_46 v5 h).bind fun r789 => some r789
set_option maxRecDepth 100000 in
set_option maxHeartbeats 4000000 in
theorem BX3_extend_46_6_b38 (G : mv_G) (d D : Nat) (hD : d + 1 ≤ D) (rc : Int32 → Int32 → Int32 → Int32 → mv_H → Option (mv_H)) (Dr : Nat) (hDr : Dr + 1 ≤ D) (hq : d + 20 ≤ Dr) (hrc : ∀ (a0 : Int32) (a1 : Int32) (a2 : Int32) (a3 : Int32) (h : mv_H) (Q : mv_H → Prop), mv_sat (rc a0 a1 a2 a3 h) Q → mv_met G Dr mX3_extend [.ref 46, .ref 6, .int a0, .int a1, .int a2, .int a3] mv_SH h (mv_qv mv_SH Q)) (P : mv_H → Prop) (v5 : Int32) (h : mv_H) (hs : mv_sat (fX3_extend_46_6_b38 rc v5 h) P) : mv_MW G mX3_extend (mv_rm D mX3_extend) (mv_Zf G mX3_extend (mv_qv mv_SH P)) 0 0 38 [.ref 46, .float 0, .float 0, .float 0, .float 0, .int v5, .float 0, .float 0, .float 0, .float 0] [] mv_SH h := by
  unfold fX3_extend_46_6_b38 at hs
  refine mv_aload_n dX3_extend_38 rfl ?_
  refine mv_iload dX3_extend_39 rfl ?_
  refine mv_cV (st := []) dX3_extend_41 kk_X3_54 (TX3_keep_46 G d _ _ _ (mv_sat_bind hs)) so_46 vc_3 rfl rfl (Nat.le_of_ble_eq_true rfl) (by omega) rfl ⟨Nat.zero_le _, Nat.zero_le _⟩ (mv_kv fun r789 hs => ?_)
  exact mv_vret dX3_extend_44 rfl ⟨_, rfl, rfl, rfl, mv_sat_some hs⟩
noncomputable def fX3_extend_46_6_b145 (rc : Int32 → Int32 → Int32 → Int32 → mv_H → Option (mv_H)) (k48 : Int32 → Int32 → Int32 → Int32 → Int32 → mv_H → Option (mv_H)) (v2 : Int32) (v3 : Int32) (v4 : Int32) (v5 : Int32) (v7 : Int32) (h : mv_H) : Option (mv_H) := k48 v2 v3 v4 v5 (v7 + 1) h
set_option maxRecDepth 100000 in
set_option maxHeartbeats 4000000 in
theorem BX3_extend_46_6_b145 (G : mv_G) (d D : Nat) (hD : d + 0 ≤ D) (rc : Int32 → Int32 → Int32 → Int32 → mv_H → Option (mv_H)) (Dr : Nat) (hDr : Dr + 1 ≤ D) (hq : d + 20 ≤ Dr) (hrc : ∀ (a0 : Int32) (a1 : Int32) (a2 : Int32) (a3 : Int32) (h : mv_H) (Q : mv_H → Prop), mv_sat (rc a0 a1 a2 a3 h) Q → mv_met G Dr mX3_extend [.ref 46, .ref 6, .int a0, .int a1, .int a2, .int a3] mv_SH h (mv_qv mv_SH Q)) (P : mv_H → Prop) (k48 : Int32 → Int32 → Int32 → Int32 → Int32 → mv_H → Option (mv_H)) (hk48 : ∀ (v2 : Int32) (v3 : Int32) (v4 : Int32) (v5 : Int32) (v7 : Int32) (h : mv_H), mv_sat (k48 v2 v3 v4 v5 v7 h) P → mv_MW G mX3_extend (mv_rm D mX3_extend) (mv_Zf G mX3_extend (mv_qv mv_SH P)) 0 0 48 [.ref 46, .ref 6, .int v2, .int v3, .int v4, .int v5, .float 0, .int v7, .float 0, .float 0] [] mv_SH h) (v2 : Int32) (v3 : Int32) (v4 : Int32) (v5 : Int32) (v7 : Int32) (h : mv_H) (hs : mv_sat (fX3_extend_46_6_b145 rc k48 v2 v3 v4 v5 v7 h) P) : mv_MW G mX3_extend (mv_rm D mX3_extend) (mv_Zf G mX3_extend (mv_qv mv_SH P)) 0 0 145 [.ref 46, .ref 6, .int v2, .int v3, .int v4, .int v5, .float 0, .int v7, .float 0, .float 0] [] mv_SH h := by
  unfold fX3_extend_46_6_b145 at hs
  refine mv_iinc (lv' := [.ref 46, .ref 6, .int v2, .int v3, .int v4, .int v5, .float 0, .int (v7 + 1), .float 0, .float 0]) 1 dX3_extend_145 rfl (by decide) (Nat.le_of_ble_eq_true rfl) rfl rfl ?_
  refine mv_goto dX3_extend_148 ?_
  exact (hk48 _ _ _ _ _ _ hs)
noncomputable def fX3_extend_46_6_b48 (rc : Int32 → Int32 → Int32 → Int32 → mv_H → Option (mv_H)) : Nat → Int32 → Int32 → Int32 → Int32 → Int32 → mv_H → Option (mv_H)
  | 0, _, _, _, _, _, _ => none
  | n + 1, v2, v3, v4, v5, v7, h => if v7 < 6 then ((fX9_isIn v3 v7).bind fun r791 => if r791 = 0 then fX3_extend_46_6_b145 rc (fX3_extend_46_6_b48 rc n) v2 v3 v4 v5 v7 h else if mv_in v2 6 then mv_let (mv_u h 48 v2.toNatClampNeg v7) fun h792 : mv_H => (if mv_in v7 6 then ((fX7_leastAreaOf_6 ((h792 47 v7.toNatClampNeg) &&& v4) h792).bind fun r793 => mv_let (v3 &&& ((1 <<< (v7 &&& 31)) ^^^ (-1))) fun x794 : Int32 => if r793 = (-6) then ((rc (v2 + 1) x794 v4 v5 h792).bind fun r795 => fX3_extend_46_6_b145 rc (fX3_extend_46_6_b48 rc n) v2 v3 v4 v5 v7 r795) else (rc (v2 + 1) x794 (v4 &&& ((1 <<< (r793 &&& 31)) ^^^ (-1))) (v5 + 1) h792).bind fun r796 => fX3_extend_46_6_b145 rc (fX3_extend_46_6_b48 rc n) v2 v3 v4 v5 v7 r796) else none) else none) else some h
set_option maxRecDepth 100000 in
set_option maxHeartbeats 4000000 in
theorem BX3_extend_46_6_b48 (G : mv_G) (d D : Nat) (hD : d + 3 ≤ D) (rc : Int32 → Int32 → Int32 → Int32 → mv_H → Option (mv_H)) (Dr : Nat) (hDr : Dr + 1 ≤ D) (hq : d + 20 ≤ Dr) (hrc : ∀ (a0 : Int32) (a1 : Int32) (a2 : Int32) (a3 : Int32) (h : mv_H) (Q : mv_H → Prop), mv_sat (rc a0 a1 a2 a3 h) Q → mv_met G Dr mX3_extend [.ref 46, .ref 6, .int a0, .int a1, .int a2, .int a3] mv_SH h (mv_qv mv_SH Q)) (P : mv_H → Prop) : ∀ (n : Nat) (v2 : Int32) (v3 : Int32) (v4 : Int32) (v5 : Int32) (v7 : Int32) (h : mv_H), mv_sat (fX3_extend_46_6_b48 rc n v2 v3 v4 v5 v7 h) P → mv_MW G mX3_extend (mv_rm D mX3_extend) (mv_Zf G mX3_extend (mv_qv mv_SH P)) 0 0 48 [.ref 46, .ref 6, .int v2, .int v3, .int v4, .int v5, .float 0, .int v7, .float 0, .float 0] [] mv_SH h := by
  intro n
  induction n with
  | zero =>
    intro v2 v3 v4 v5 v7 h hs
    unfold fX3_extend_46_6_b48 at hs
    exact (mv_sat_none hs).elim
  | succ n ih =>
    intro v2 v3 v4 v5 v7 h hs
    unfold fX3_extend_46_6_b48 at hs
    refine mv_iload dX3_extend_48 rfl ?_
    refine mv_bipush 6 dX3_extend_50 (by decide) ?_
    refine mv_icmp_ge dX3_extend_52 hs (fun _ hs => ?_) (fun _ hs => ?_)
    · refine mv_iload_n dX3_extend_55 rfl ?_
      refine mv_iload dX3_extend_56 rfl ?_
      refine mv_cS (st := []) dX3_extend_58 kk_X3_58 (TX9_isIn G d _ _ _ _ (mv_sat_bind hs)) rfl rfl (Nat.le_of_ble_eq_true rfl) (by omega) rfl ⟨Nat.zero_le _, Nat.zero_le _⟩ (mv_ki fun r791 hs => ?_)
      refine mv_if_eq dX3_extend_61 hs (fun _ hs => ?_) (fun _ hs => ?_)
      · exact (BX3_extend_46_6_b145 G d D (by omega) _ Dr hDr hq hrc P _ ih _ _ _ _ _ _ hs)
      · refine mv_aload_n dX3_extend_64 rfl ?_
        refine mv_getr dX3_extend_65 kf_X3_15 gf_46_1 ?_
        refine mv_iload_n dX3_extend_68 rfl ?_
        refine mv_iload dX3_extend_69 rfl ?_
        refine mv_iastore dX3_extend_71 so_48 hs (fun hs => ?_)
        refine mv_nameH hs (fun h792 hs => ?_)
        refine mv_aload_n dX3_extend_72 rfl ?_
        refine mv_aload_n dX3_extend_73 rfl ?_
        refine mv_getr dX3_extend_74 kf_X3_9 gf_46_0 ?_
        refine mv_iload dX3_extend_77 rfl ?_
        refine mv_iaload dX3_extend_79 so_47 hs (fun hs => ?_)
        refine mv_iload dX3_extend_80 rfl ?_
        refine mv_iand dX3_extend_82 ?_
        refine mv_cV (st := []) dX3_extend_83 kk_X3_62 (TX7_leastAreaOf_6 G d _ _ _ (mv_sat_bind hs)) so_6 vc_7 rfl rfl (Nat.le_of_ble_eq_true rfl) (by omega) rfl ⟨Nat.zero_le _, Nat.zero_le _⟩ (mv_ki fun r793 hs => ?_)
        refine mv_istore (lv' := [.ref 46, .ref 6, .int v2, .int v3, .int v4, .int v5, .float 0, .int v7, .int r793, .float 0]) dX3_extend_86 (Nat.le_of_ble_eq_true rfl) rfl rfl ?_
        refine mv_iload_n dX3_extend_88 rfl ?_
        refine mv_iconst 1 dX3_extend_89 (by decide) ?_
        refine mv_iload dX3_extend_90 rfl ?_
        refine mv_ishl dX3_extend_92 ?_
        refine mv_iconst (-1) dX3_extend_93 (by decide) ?_
        refine mv_ixor dX3_extend_94 ?_
        refine mv_iand dX3_extend_95 ?_
        refine mv_name hs (fun x794 hs => ?_)
        refine mv_istore (lv' := [.ref 46, .ref 6, .int v2, .int v3, .int v4, .int v5, .float 0, .int v7, .int r793, .int x794]) dX3_extend_96 (Nat.le_of_ble_eq_true rfl) rfl rfl ?_
        refine mv_iload dX3_extend_98 rfl ?_
        refine mv_bipush (-6) dX3_extend_100 (by decide) ?_
        refine mv_icmp_ne dX3_extend_102 hs (fun _ hs => ?_) (fun _ hs => ?_)
        · refine mv_aload_n dX3_extend_105 rfl ?_
          refine mv_aload_n dX3_extend_106 rfl ?_
          refine mv_iload_n dX3_extend_107 rfl ?_
          refine mv_iconst 1 dX3_extend_108 (by decide) ?_
          refine mv_iadd dX3_extend_109 ?_
          refine mv_iload dX3_extend_110 rfl ?_
          refine mv_iload dX3_extend_112 rfl ?_
          refine mv_iload dX3_extend_114 rfl ?_
          refine mv_cV (st := []) dX3_extend_116 kk_X3_44 (hrc _ _ _ _ _ _ (mv_sat_bind hs)) so_46 vc_3 rfl rfl (Nat.le_of_ble_eq_true rfl) (by omega) rfl ⟨Nat.zero_le _, Nat.zero_le _⟩ (mv_kv fun r795 hs => ?_)
          refine mv_goto dX3_extend_119 ?_
          exact mv_weak (lv' := [.ref 46, .ref 6, .int v2, .int v3, .int v4, .int v5, .float 0, .int v7, .float 0, .float 0]) (mv_s (mv_s (mv_s (mv_s (mv_s (mv_s (mv_s (mv_s (mv_k (mv_k mv_n)))))))))) (BX3_extend_46_6_b145 G d D (by omega) _ Dr hDr hq hrc P _ ih _ _ _ _ _ _ hs)
        · refine mv_aload_n dX3_extend_122 rfl ?_
          refine mv_aload_n dX3_extend_123 rfl ?_
          refine mv_iload_n dX3_extend_124 rfl ?_
          refine mv_iconst 1 dX3_extend_125 (by decide) ?_
          refine mv_iadd dX3_extend_126 ?_
          refine mv_iload dX3_extend_127 rfl ?_
          refine mv_iload dX3_extend_129 rfl ?_
          refine mv_iconst 1 dX3_extend_131 (by decide) ?_
          refine mv_iload dX3_extend_132 rfl ?_
          refine mv_ishl dX3_extend_134 ?_
          refine mv_iconst (-1) dX3_extend_135 (by decide) ?_
          refine mv_ixor dX3_extend_136 ?_
          refine mv_iand dX3_extend_137 ?_
          refine mv_iload dX3_extend_138 rfl ?_
          refine mv_iconst 1 dX3_extend_140 (by decide) ?_
          refine mv_iadd dX3_extend_141 ?_
          refine mv_cV (st := []) dX3_extend_142 kk_X3_44 (hrc _ _ _ _ _ _ (mv_sat_bind hs)) so_46 vc_3 rfl rfl (Nat.le_of_ble_eq_true rfl) (by omega) rfl ⟨Nat.zero_le _, Nat.zero_le _⟩ (mv_kv fun r796 hs => ?_)
          exact mv_weak (lv' := [.ref 46, .ref 6, .int v2, .int v3, .int v4, .int v5, .float 0, .int v7, .float 0, .float 0]) (mv_s (mv_s (mv_s (mv_s (mv_s (mv_s (mv_s (mv_s (mv_k (mv_k mv_n)))))))))) (BX3_extend_46_6_b145 G d D (by omega) _ Dr hDr hq hrc P _ ih _ _ _ _ _ _ hs)
    · exact mv_vret dX3_extend_151 rfl ⟨_, rfl, rfl, rfl, mv_sat_some hs⟩
noncomputable def fX3_extend_46_6 : Nat → Int32 → Int32 → Int32 → Int32 → mv_H → Option (mv_H)
  | 0, _, _, _, _, _ => none
  | n + 1, p0, p1, p2, p3, h => (fJ6_bitCount_0f7a4 p1).bind fun r784 => (fJ6_bitCount_0f7a4 p2).bind fun r785 => mv_let (mv_min r784 r785) fun x786 : Int32 => if (h 46 4) < (p3 + x786) then (if p1 = 0 then fX3_extend_46_6_b38 (fX3_extend_46_6 n) p3 h else (fX9_isNumber p0).bind fun r790 => if r790 = 0 then fX3_extend_46_6_b38 (fX3_extend_46_6 n) p3 h else fX3_extend_46_6_b48 (fX3_extend_46_6 n) mv_F p0 p1 p2 p3 0 h) else some h
set_option maxRecDepth 100000 in
set_option maxHeartbeats 4000000 in
theorem TX3_extend_46_6 (G : mv_G) (d : Nat) : ∀ (n : Nat) (p0 : Int32) (p1 : Int32) (p2 : Int32) (p3 : Int32) (h : mv_H) (P : mv_H → Prop), mv_sat (fX3_extend_46_6 n p0 p1 p2 p3 h) P → mv_met G (d + 24 + 1 * n) mX3_extend [.ref 46, .ref 6, .int p0, .int p1, .int p2, .int p3] mv_SH h (mv_qv mv_SH P) := by
  intro n
  induction n with
  | zero =>
    intro p0 p1 p2 p3 h P hs
    unfold fX3_extend_46_6 at hs
    exact (mv_sat_none hs).elim
  | succ n ih =>
    intro p0 p1 p2 p3 h P hs
    unfold fX3_extend_46_6 at hs
    obtain ⟨D, hDe⟩ : ∃ D, D = d + 24 + 1 * (n + 1) := ⟨_, rfl⟩
    rw [← hDe]
    obtain ⟨Dr, hDre⟩ : ∃ Dr, Dr = d + 24 + 1 * n := ⟨_, rfl⟩
    rw [← hDre] at ih
    have hD : d + 3 ≤ D := by omega
    have hDr : Dr + 1 ≤ D := by omega
    have hq : d + 20 ≤ Dr := by omega
    refine mv_enter (lv := [.ref 46, .ref 6, .int p0, .int p1, .int p2, .int p3, .float 0, .float 0, .float 0, .float 0]) 4 (by decide) (by decide +kernel) rfl (Nat.le_of_ble_eq_true rfl) ?_
    refine mv_iload_n dX3_extend_0 rfl ?_
    refine mv_cS (st := []) dX3_extend_1 kk_X3_25 (TJ6_bitCount_0f7a4 G d _ _ _ (mv_sat_bind hs)) rfl rfl (Nat.le_of_ble_eq_true rfl) (by omega) rfl ⟨Nat.zero_le _, Nat.zero_le _⟩ (mv_ki fun r784 hs => ?_)
    refine mv_iload dX3_extend_4 rfl ?_
    refine mv_cS (st := [.int r784]) dX3_extend_6 kk_X3_25 (TJ6_bitCount_0f7a4 G d _ _ _ (mv_sat_bind hs)) rfl rfl (Nat.le_of_ble_eq_true rfl) (by omega) rfl ⟨Nat.zero_le _, Nat.zero_le _⟩ (mv_ki fun r785 hs => ?_)
    refine mv_mmin dX3_extend_9 kx_X3_48 kx_min_s kx_math kx_min_c (Nat.le_of_ble_eq_true rfl) (by omega) ⟨Nat.zero_le _, Nat.zero_le _⟩ ?_
    refine mv_name hs (fun x786 hs => ?_)
    refine mv_istore (lv' := [.ref 46, .ref 6, .int p0, .int p1, .int p2, .int p3, .int x786, .float 0, .float 0, .float 0]) dX3_extend_12 (Nat.le_of_ble_eq_true rfl) rfl rfl ?_
    refine mv_iload dX3_extend_14 rfl ?_
    refine mv_iload dX3_extend_16 rfl ?_
    refine mv_iadd dX3_extend_18 ?_
    refine mv_aload_n dX3_extend_19 rfl ?_
    refine mv_geti dX3_extend_20 kf_X3_35 gf_46_4 ?_
    refine mv_icmp_gt dX3_extend_23 hs (fun _ hs => ?_) (fun _ hs => ?_)
    · refine mv_iload_n dX3_extend_27 rfl ?_
      refine mv_if_eq dX3_extend_28 hs (fun _ hs => ?_) (fun _ hs => ?_)
      · exact mv_weak (lv' := [.ref 46, .float 0, .float 0, .float 0, .float 0, .int p3, .float 0, .float 0, .float 0, .float 0]) (mv_s (mv_k (mv_k (mv_k (mv_k (mv_s (mv_k (mv_s (mv_s (mv_s mv_n)))))))))) (BX3_extend_46_6_b38 G d D (by omega) _ Dr hDr hq ih P _ _ hs)
      · refine mv_iload_n dX3_extend_31 rfl ?_
        refine mv_cS (st := []) dX3_extend_32 kk_X3_21 (TX9_isNumber G d _ _ _ (mv_sat_bind hs)) rfl rfl (Nat.le_of_ble_eq_true rfl) (by omega) rfl ⟨Nat.zero_le _, Nat.zero_le _⟩ (mv_ki fun r790 hs => ?_)
        refine mv_if_ne dX3_extend_35 hs (fun _ hs => ?_) (fun _ hs => ?_)
        · exact mv_weak (lv' := [.ref 46, .float 0, .float 0, .float 0, .float 0, .int p3, .float 0, .float 0, .float 0, .float 0]) (mv_s (mv_k (mv_k (mv_k (mv_k (mv_s (mv_k (mv_s (mv_s (mv_s mv_n)))))))))) (BX3_extend_46_6_b38 G d D (by omega) _ Dr hDr hq ih P _ _ hs)
        · refine mv_iconst 0 dX3_extend_45 (by decide) ?_
          refine mv_istore (lv' := [.ref 46, .ref 6, .int p0, .int p1, .int p2, .int p3, .int x786, .int 0, .float 0, .float 0]) dX3_extend_46 (Nat.le_of_ble_eq_true rfl) rfl rfl ?_
          exact mv_weak (lv' := [.ref 46, .ref 6, .int p0, .int p1, .int p2, .int p3, .float 0, .int 0, .float 0, .float 0]) (mv_s (mv_s (mv_s (mv_s (mv_s (mv_s (mv_k (mv_s (mv_s (mv_s mv_n)))))))))) (BX3_extend_46_6_b48 G d D (by omega) _ Dr hDr hq ih P _ _ _ _ _ _ _ hs)
    · exact mv_vret dX3_extend_26 rfl ⟨_, rfl, rfl, rfl, mv_sat_some hs⟩
