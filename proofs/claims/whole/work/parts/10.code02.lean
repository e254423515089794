/-! printed by program: what a method does, as a function, and that it does it -/
noncomputable def fX4_accepts_34_b72 (s0 : Int32) (s1 : Int32) (h : mv_H) : Option (Int32 × mv_H) := if s1 = s0 then ((fX4_keepNumber_34 h).bind fun r305 => some (1, r305)) else some (0, h)
set_option maxRecDepth 100000 in
set_option maxHeartbeats 4000000 in
theorem BX4_accepts_34_b72 (G : mv_G) (d D : Nat) (hD : d + 2 ≤ D) (P : Int32 × mv_H → Prop) (s0 : Int32) (s1 : Int32) (h : mv_H) (hs : mv_sat (fX4_accepts_34_b72 s0 s1 h) P) : mv_MW G mX4_accepts (mv_rm D mX4_accepts) (mv_Zf G mX4_accepts (mv_qI mv_SH P)) 0 0 72 [.ref 34, .float 0, .float 0] [.int s0, .int s1] mv_SH h := by
  unfold fX4_accepts_34_b72 at hs
  refine mv_icmp_eq dX4_accepts_72 hs (fun _ hs => ?_) (fun _ hs => ?_)
  · refine mv_aload_n dX4_accepts_77 rfl ?_
    refine mv_cV (st := []) dX4_accepts_78 kk_X4_69 (TX4_keepNumber_34 G d _ _ (mv_sat_bind hs)) so_34 vc_4 rfl rfl (Nat.le_of_ble_eq_true rfl) (by omega) rfl ⟨Nat.zero_le _, Nat.zero_le _⟩ (mv_kv fun r305 hs => ?_)
    refine mv_iconst 1 dX4_accepts_81 (by decide) ?_
    exact mv_zret dX4_accepts_82 rfl (Or.inr rfl) ⟨(1, r305), rfl, rfl, rfl, mv_sat_some hs⟩
  · refine mv_iconst 0 dX4_accepts_75 (by decide) ?_
    exact mv_zret dX4_accepts_76 rfl (Or.inl rfl) ⟨(0, h), rfl, rfl, rfl, mv_sat_some hs⟩
noncomputable def fX4_accepts_34_b52 (v1 : Int32) (s0 : Int32) (h : mv_H) : Option (Int32 × mv_H) := if (h 34 6) = 0 then some (0, h) else if s0 = 0 then fX4_accepts_34_b72 120 v1 h else fX4_accepts_34_b72 59 v1 h
set_option maxRecDepth 100000 in
set_option maxHeartbeats 4000000 in
theorem BX4_accepts_34_b52 (G : mv_G) (d D : Nat) (hD : d + 2 ≤ D) (P : Int32 × mv_H → Prop) (v1 : Int32) (s0 : Int32) (h : mv_H) (hs : mv_sat (fX4_accepts_34_b52 v1 s0 h) P) : mv_MW G mX4_accepts (mv_rm D mX4_accepts) (mv_Zf G mX4_accepts (mv_qI mv_SH P)) 0 0 52 [.ref 34, .int v1, .float 0] [.int s0] mv_SH h := by
  unfold fX4_accepts_34_b52 at hs
  refine mv_istore_n (lv' := [.ref 34, .int v1, .int s0]) dX4_accepts_52 (Nat.le_of_ble_eq_true rfl) rfl rfl ?_
  refine mv_aload_n dX4_accepts_53 rfl ?_
  refine mv_geti dX4_accepts_54 kf_X4_66 gf_34_6 ?_
  refine mv_if_eq dX4_accepts_57 hs (fun _ hs => ?_) (fun _ hs => ?_)
  · refine mv_iconst 0 dX4_accepts_75 (by decide) ?_
    exact mv_zret dX4_accepts_76 rfl (Or.inl rfl) ⟨(0, h), rfl, rfl, rfl, mv_sat_some hs⟩
  · refine mv_iload_n dX4_accepts_60 rfl ?_
    refine mv_iload_n dX4_accepts_61 rfl ?_
    refine mv_if_eq dX4_accepts_62 hs (fun _ hs => ?_) (fun _ hs => ?_)
    · refine mv_bipush 120 dX4_accepts_70 (by decide) ?_
      exact mv_weak (lv' := [.ref 34, .float 0, .float 0]) (mv_s (mv_k (mv_k mv_n))) (BX4_accepts_34_b72 G d D (by omega) P _ _ _ hs)
    · refine mv_bipush 59 dX4_accepts_65 (by decide) ?_
      refine mv_goto dX4_accepts_67 ?_
      exact mv_weak (lv' := [.ref 34, .float 0, .float 0]) (mv_s (mv_k (mv_k mv_n))) (BX4_accepts_34_b72 G d D (by omega) P _ _ _ hs)
noncomputable def fX4_acceptsDigit_34 (p0 : Int32) (h : mv_H) : Option (Int32 × mv_H) := mv_let ((10 * (h 34 6)) + p0) fun x306 : Int32 => if x306 = 0 then some (0, h) else if (h 34 4) < x306 then some (0, h) else mv_let (mv_u h 34 6 x306) fun h307 : mv_H => some (1, h307)
set_option maxRecDepth 100000 in
set_option maxHeartbeats 4000000 in
theorem TX4_acceptsDigit_34 (G : mv_G) (d : Nat) (P : Int32 × mv_H → Prop) (p0 : Int32) (h : mv_H) (hs : mv_sat (fX4_acceptsDigit_34 p0 h) P) : mv_met G (d + 0) mX4_acceptsDigit [.ref 34, .int p0] mv_SH h (mv_qI mv_SH P) := by
  unfold fX4_acceptsDigit_34 at hs
  obtain ⟨D, hDe⟩ : ∃ D, D = d + 0 := ⟨_, rfl⟩
  rw [← hDe]
  have hD : d + 0 ≤ D := by omega
  refine mv_enter (lv := [.ref 34, .int p0, .float 0]) 1 (by decide) (by decide +kernel) rfl (Nat.le_of_ble_eq_true rfl) ?_
  refine mv_bipush 10 dX4_acceptsDigit_0 (by decide) ?_
  refine mv_aload_n dX4_acceptsDigit_2 rfl ?_
  refine mv_geti dX4_acceptsDigit_3 kf_X4_66 gf_34_6 ?_
  refine mv_imul dX4_acceptsDigit_6 ?_
  refine mv_iload_n dX4_acceptsDigit_7 rfl ?_
  refine mv_iadd dX4_acceptsDigit_8 ?_
  refine mv_name hs (fun x306 hs => ?_)
  refine mv_istore_n (lv' := [.ref 34, .int p0, .int x306]) dX4_acceptsDigit_9 (Nat.le_of_ble_eq_true rfl) rfl rfl ?_
  refine mv_iload_n dX4_acceptsDigit_10 rfl ?_
  refine mv_if_eq dX4_acceptsDigit_11 hs (fun _ hs => ?_) (fun _ hs => ?_)
  · refine mv_iconst 0 dX4_acceptsDigit_22 (by decide) ?_
    exact mv_zret dX4_acceptsDigit_23 rfl (Or.inl rfl) ⟨(0, h), rfl, rfl, rfl, mv_sat_some hs⟩
  · refine mv_iload_n dX4_acceptsDigit_14 rfl ?_
    refine mv_aload_n dX4_acceptsDigit_15 rfl ?_
    refine mv_geti dX4_acceptsDigit_16 kf_X4_76 gf_34_4 ?_
    refine mv_icmp_le dX4_acceptsDigit_19 hs (fun _ hs => ?_) (fun _ hs => ?_)
    · refine mv_iconst 0 dX4_acceptsDigit_22 (by decide) ?_
      exact mv_zret dX4_acceptsDigit_23 rfl (Or.inl rfl) ⟨(0, h), rfl, rfl, rfl, mv_sat_some hs⟩
    · refine mv_aload_n dX4_acceptsDigit_24 rfl ?_
      refine mv_iload_n dX4_acceptsDigit_25 rfl ?_
      refine mv_puti dX4_acceptsDigit_26 kf_X4_66 (fun q => by cases q) gf_34_6 ?_
      refine mv_nameH hs (fun h307 hs => ?_)
      refine mv_iconst 1 dX4_acceptsDigit_29 (by decide) ?_
      exact mv_zret dX4_acceptsDigit_30 rfl (Or.inr rfl) ⟨(1, h307), rfl, rfl, rfl, mv_sat_some hs⟩
noncomputable def fX4_accepts_34 (p0 : Int32) (h : mv_H) : Option (Int32 × mv_H) := if (h 34 2) = (-1) then ((fX4_acceptsLetter_34 p0 h).bind fun r299 => if mv_01 r299.1 then some (r299.1, r299.2) else none) else (fX9_isWithin p0 (48 : Int32) (57 : Int32)).bind fun r300 => if r300 = 0 then (if (h 34 5) = ((h 34 3) - 1) then fX4_accepts_34_b52 p0 1 h else fX4_accepts_34_b52 p0 0 h) else (fX4_acceptsDigit_34 (p0 - 48) h).bind fun r308 => if mv_01 r308.1 then some (r308.1, r308.2) else none
set_option maxRecDepth 100000 in
set_option maxHeartbeats 4000000 in
theorem TX4_accepts_34 (G : mv_G) (d : Nat) (P : Int32 × mv_H → Prop) (p0 : Int32) (h : mv_H) (hs : mv_sat (fX4_accepts_34 p0 h) P) : mv_met G (d + 2) mX4_accepts [.ref 34, .int p0] mv_SH h (mv_qI mv_SH P) := by
  unfold fX4_accepts_34 at hs
  obtain ⟨D, hDe⟩ : ∃ D, D = d + 2 := ⟨_, rfl⟩
  rw [← hDe]
  have hD : d + 2 ≤ D := by omega
  refine mv_enter (lv := [.ref 34, .int p0, .float 0]) 1 (by decide) (by decide +kernel) rfl (Nat.le_of_ble_eq_true rfl) ?_
  refine mv_aload_n dX4_accepts_0 rfl ?_
  refine mv_geti dX4_accepts_1 kf_X4_15 gf_34_2 ?_
  refine mv_iconst (-1) dX4_accepts_4 (by decide) ?_
  refine mv_icmp_ne dX4_accepts_5 hs (fun _ hs => ?_) (fun _ hs => ?_)
  · refine mv_aload_n dX4_accepts_8 rfl ?_
    refine mv_iload_n dX4_accepts_9 rfl ?_
    refine mv_cV (st := []) dX4_accepts_10 kk_X4_50 (TX4_acceptsLetter_34 G d _ _ _ (mv_sat_bind hs)) so_34 vc_4 rfl rfl (Nat.le_of_ble_eq_true rfl) (by omega) rfl ⟨Nat.zero_le _, Nat.zero_le _⟩ (mv_kI2 fun r299 hs => ?_)
    obtain ⟨h01, hs⟩ := mv_sat_g hs
    exact mv_zret dX4_accepts_13 rfl h01 ⟨(r299.1, r299.2), rfl, rfl, rfl, mv_sat_some hs⟩
  · refine mv_iload_n dX4_accepts_14 rfl ?_
    refine mv_bipush 48 dX4_accepts_15 (by decide) ?_
    refine mv_bipush 57 dX4_accepts_17 (by decide) ?_
    refine mv_cS (st := []) dX4_accepts_19 kk_X4_53 (TX9_isWithin G d _ _ _ _ _ (mv_sat_bind hs)) rfl rfl (Nat.le_of_ble_eq_true rfl) (by omega) rfl ⟨Nat.zero_le _, Nat.zero_le _⟩ (mv_ki fun r300 hs => ?_)
    refine mv_if_eq dX4_accepts_22 hs (fun _ hs => ?_) (fun _ hs => ?_)
    · refine mv_aload_n dX4_accepts_34 rfl ?_
      refine mv_geti dX4_accepts_35 kf_X4_60 gf_34_5 ?_
      refine mv_aload_n dX4_accepts_38 rfl ?_
      refine mv_geti dX4_accepts_39 kf_X4_63 gf_34_3 ?_
      refine mv_iconst 1 dX4_accepts_42 (by decide) ?_
      refine mv_isub dX4_accepts_43 ?_
      refine mv_icmp_ne dX4_accepts_44 hs (fun _ hs => ?_) (fun _ hs => ?_)
      · refine mv_iconst 1 dX4_accepts_47 (by decide) ?_
        refine mv_goto dX4_accepts_48 ?_
        exact (BX4_accepts_34_b52 G d D (by omega) P _ _ _ hs)
      · refine mv_iconst 0 dX4_accepts_51 (by decide) ?_
        exact (BX4_accepts_34_b52 G d D (by omega) P _ _ _ hs)
    · refine mv_aload_n dX4_accepts_25 rfl ?_
      refine mv_iload_n dX4_accepts_26 rfl ?_
      refine mv_bipush 48 dX4_accepts_27 (by decide) ?_
      refine mv_isub dX4_accepts_29 ?_
      refine mv_cV (st := []) dX4_accepts_30 kk_X4_57 (TX4_acceptsDigit_34 G d _ _ _ (mv_sat_bind hs)) so_34 vc_4 rfl rfl (Nat.le_of_ble_eq_true rfl) (by omega) rfl ⟨Nat.zero_le _, Nat.zero_le _⟩ (mv_kI2 fun r308 hs => ?_)
      obtain ⟨h01, hs⟩ := mv_sat_g hs
      exact mv_zret dX4_accepts_33 rfl h01 ⟨(r308.1, r308.2), rfl, rfl, rfl, mv_sat_some hs⟩
noncomputable def fX4_endPart_34_N_b70 (h : mv_H) : Option (mv_H) := mv_let (mv_u h 34 2 (-1)) fun h311 : mv_H => some h311
set_option maxRecDepth 100000 in
set_option maxHeartbeats 4000000 in
theorem BX4_endPart_34_N_b70 (G : mv_G) (d D : Nat) (hD : d + 0 ≤ D) (P : mv_H → Prop) (h : mv_H) (hs : mv_sat (fX4_endPart_34_N_b70 h) P) : mv_MW G mX4_endPart (mv_rm D mX4_endPart) (mv_Zf G mX4_endPart (mv_qv mv_SH P)) 0 0 70 [.ref 34, .float 0] [] mv_SH h := by
  unfold fX4_endPart_34_N_b70 at hs
  refine mv_aload_n dX4_endPart_70 rfl ?_
  refine mv_iconst (-1) dX4_endPart_71 (by decide) ?_
  refine mv_puti dX4_endPart_72 kf_X4_15 (fun q => by cases q) gf_34_2 ?_
  refine mv_nameH hs (fun h311 hs => ?_)
  exact mv_vret dX4_endPart_75 rfl ⟨_, rfl, rfl, rfl, mv_sat_some hs⟩
noncomputable def fX4_endPart_34_N (h : mv_H) : Option (mv_H) := (fX9_isWithin (h 34 2) (0 : Int32) (2 : Int32)).bind fun r310 => if r310 = 0 then fX4_endPart_34_N_b70 h else if mv_in (h 34 2) 3 then (if mv_in (h 34 2) 3 then mv_let (mv_u h 37 (h 34 2).toNatClampNeg ((h 37 (h 34 2).toNatClampNeg) + 1)) fun h312 : mv_H => (fX4_endPart_34_N_b70 h312) else none) else none
set_option maxRecDepth 100000 in
set_option maxHeartbeats 4000000 in
theorem TX4_endPart_34_N (G : mv_G) (d : Nat) (P : mv_H → Prop) (h : mv_H) (hs : mv_sat (fX4_endPart_34_N h) P) : mv_met G (d + 1) mX4_endPart [.ref 34, .null] mv_SH h (mv_qv mv_SH P) := by
  unfold fX4_endPart_34_N at hs
  obtain ⟨D, hDe⟩ : ∃ D, D = d + 1 := ⟨_, rfl⟩
  rw [← hDe]
  have hD : d + 1 ≤ D := by omega
  refine mv_enter (lv := [.ref 34, .null]) 0 (by decide) (by decide +kernel) rfl (Nat.le_of_ble_eq_true rfl) ?_
  refine mv_aload_n dX4_endPart_0 rfl ?_
  refine mv_geti dX4_endPart_1 kf_X4_15 gf_34_2 ?_
  refine mv_iconst 0 dX4_endPart_4 (by decide) ?_
  refine mv_iconst 2 dX4_endPart_5 (by decide) ?_
  refine mv_cS (st := []) dX4_endPart_6 kk_X4_53 (TX9_isWithin G d _ _ _ _ _ (mv_sat_bind hs)) rfl rfl (Nat.le_of_ble_eq_true rfl) (by omega) rfl ⟨Nat.zero_le _, Nat.zero_le _⟩ (mv_ki fun r310 hs => ?_)
  refine mv_if_eq dX4_endPart_9 hs (fun _ hs => ?_) (fun _ hs => ?_)
  · exact mv_weak (lv' := [.ref 34, .float 0]) (mv_s (mv_k mv_n)) (BX4_endPart_34_N_b70 G d D (by omega) P _ hs)
  · refine mv_aload_n dX4_endPart_12 rfl ?_
    refine mv_getr dX4_endPart_13 kf_X4_22 gf_34_8 ?_
    refine mv_aload_n dX4_endPart_16 rfl ?_
    refine mv_geti dX4_endPart_17 kf_X4_15 gf_34_2 ?_
    refine mv_dup2 dX4_endPart_20 rfl rfl ?_
    refine mv_iaload dX4_endPart_21 so_37 hs (fun hs => ?_)
    refine mv_iconst 1 dX4_endPart_22 (by decide) ?_
    refine mv_iadd dX4_endPart_23 ?_
    refine mv_iastore dX4_endPart_24 so_37 hs (fun hs => ?_)
    refine mv_nameH hs (fun h312 hs => ?_)
    refine mv_aload_nN dX4_endPart_25 rfl ?_
    refine mv_ifnullN dX4_endPart_26 ?_
    exact mv_weak (lv' := [.ref 34, .float 0]) (mv_s (mv_k mv_n)) (BX4_endPart_34_N_b70 G d D (by omega) P _ hs)
noncomputable def fX4_scan_34_N_b51 (k6 : Int32 → mv_H → Option (Int32 × mv_H)) (v2 : Int32) (h : mv_H) : Option (Int32 × mv_H) := k6 (v2 + 1) h
set_option maxRecDepth 100000 in
set_option maxHeartbeats 4000000 in
theorem BX4_scan_34_N_b51 (G : mv_G) (d D : Nat) (hD : d + 0 ≤ D) (P : Int32 × mv_H → Prop) (k6 : Int32 → mv_H → Option (Int32 × mv_H)) (hk6 : ∀ (v2 : Int32) (h : mv_H), mv_sat (k6 v2 h) P → mv_MW G mX4_scan (mv_rm D mX4_scan) (mv_Zf G mX4_scan (mv_qI mv_SH P)) 0 0 6 [.ref 34, .null, .int v2] [] mv_SH h) (v2 : Int32) (h : mv_H) (hs : mv_sat (fX4_scan_34_N_b51 k6 v2 h) P) : mv_MW G mX4_scan (mv_rm D mX4_scan) (mv_Zf G mX4_scan (mv_qI mv_SH P)) 0 0 51 [.ref 34, .null, .int v2] [] mv_SH h := by
  unfold fX4_scan_34_N_b51 at hs
  refine mv_iinc (lv' := [.ref 34, .null, .int (v2 + 1)]) 1 dX4_scan_51 rfl (by decide) (Nat.le_of_ble_eq_true rfl) rfl rfl ?_
  refine mv_goto dX4_scan_54 ?_
  exact (hk6 _ _ hs)
noncomputable def fX4_scan_34_N_b57 (h : mv_H) : Option (Int32 × mv_H) := if (h 34 2) = (-1) then some ((-6), h) else some (h 34 1, h)
set_option maxRecDepth 100000 in
set_option maxHeartbeats 4000000 in
theorem BX4_scan_34_N_b57 (G : mv_G) (d D : Nat) (hD : d + 0 ≤ D) (P : Int32 × mv_H → Prop) (h : mv_H) (hs : mv_sat (fX4_scan_34_N_b57 h) P) : mv_MW G mX4_scan (mv_rm D mX4_scan) (mv_Zf G mX4_scan (mv_qI mv_SH P)) 0 0 57 [.ref 34, .float 0, .float 0] [] mv_SH h := by
  unfold fX4_scan_34_N_b57 at hs
  refine mv_aload_n dX4_scan_57 rfl ?_
  refine mv_geti dX4_scan_58 kf_X4_15 gf_34_2 ?_
  refine mv_iconst (-1) dX4_scan_61 (by decide) ?_
  refine mv_icmp_ne dX4_scan_62 hs (fun _ hs => ?_) (fun _ hs => ?_)
  · refine mv_bipush (-6) dX4_scan_65 (by decide) ?_
    refine mv_goto dX4_scan_67 ?_
    exact mv_iret dX4_scan_74 rfl ⟨((-6), h), rfl, rfl, rfl, mv_sat_some hs⟩
  · refine mv_aload_n dX4_scan_70 rfl ?_
    refine mv_geti dX4_scan_71 kf_X4_25 gf_34_1 ?_
    exact mv_iret dX4_scan_74 rfl ⟨(h 34 1, h), rfl, rfl, rfl, mv_sat_some hs⟩
noncomputable def fX4_scan_34_N_b6 : Nat → Int32 → mv_H → Option (Int32 × mv_H)
  | 0, _, _ => none
  | n + 1, v2, h => if v2 < (h 34 1) then (if v2 < 60 then (if mv_in v2 60 then ((fX4_accepts_34 (h 35 v2.toNatClampNeg) h).bind fun r309 => if r309.1 = 0 then some (v2, r309.2) else if mv_in v2 60 then (if (r309.2 35 v2.toNatClampNeg) = 59 then ((fX4_endPart_34_N r309.2).bind fun r313 => fX4_scan_34_N_b51 (fX4_scan_34_N_b6 n) v2 r313) else fX4_scan_34_N_b51 (fX4_scan_34_N_b6 n) v2 r309.2) else none) else none) else fX4_scan_34_N_b57 h) else fX4_scan_34_N_b57 h
set_option maxRecDepth 100000 in
set_option maxHeartbeats 4000000 in
theorem BX4_scan_34_N_b6 (G : mv_G) (d D : Nat) (hD : d + 3 ≤ D) (P : Int32 × mv_H → Prop) : ∀ (n : Nat) (v2 : Int32) (h : mv_H), mv_sat (fX4_scan_34_N_b6 n v2 h) P → mv_MW G mX4_scan (mv_rm D mX4_scan) (mv_Zf G mX4_scan (mv_qI mv_SH P)) 0 0 6 [.ref 34, .null, .int v2] [] mv_SH h := by
  intro n
  induction n with
  | zero =>
    intro v2 h hs
    unfold fX4_scan_34_N_b6 at hs
    exact (mv_sat_none hs).elim
  | succ n ih =>
    intro v2 h hs
    unfold fX4_scan_34_N_b6 at hs
    refine mv_iload_n dX4_scan_6 rfl ?_
    refine mv_aload_n dX4_scan_7 rfl ?_
    refine mv_geti dX4_scan_8 kf_X4_25 gf_34_1 ?_
    refine mv_icmp_ge dX4_scan_11 hs (fun _ hs => ?_) (fun _ hs => ?_)
    · refine mv_iload_n dX4_scan_14 rfl ?_
      refine mv_bipush 60 dX4_scan_15 (by decide) ?_
      refine mv_icmp_ge dX4_scan_17 hs (fun _ hs => ?_) (fun _ hs => ?_)
      · refine mv_aload_n dX4_scan_20 rfl ?_
        refine mv_aload_n dX4_scan_21 rfl ?_
        refine mv_getr dX4_scan_22 kf_X4_11 gf_34_0 ?_
        refine mv_iload_n dX4_scan_25 rfl ?_
        refine mv_iaload dX4_scan_26 so_35 hs (fun hs => ?_)
        refine mv_cV (st := []) dX4_scan_27 kk_X4_42 (TX4_accepts_34 G d _ _ _ (mv_sat_bind hs)) so_34 vc_4 rfl rfl (Nat.le_of_ble_eq_true rfl) (by omega) rfl ⟨Nat.zero_le _, Nat.zero_le _⟩ (mv_kI2 fun r309 hs => ?_)
        refine mv_if_ne dX4_scan_30 hs (fun _ hs => ?_) (fun _ hs => ?_)
        · refine mv_iload_n dX4_scan_33 rfl ?_
          exact mv_iret dX4_scan_34 rfl ⟨(v2, r309.2), rfl, rfl, rfl, mv_sat_some hs⟩
        · refine mv_aload_n dX4_scan_35 rfl ?_
          refine mv_getr dX4_scan_36 kf_X4_11 gf_34_0 ?_
          refine mv_iload_n dX4_scan_39 rfl ?_
          refine mv_iaload dX4_scan_40 so_35 hs (fun hs => ?_)
          refine mv_bipush 59 dX4_scan_41 (by decide) ?_
          refine mv_icmp_ne dX4_scan_43 hs (fun _ hs => ?_) (fun _ hs => ?_)
          · refine mv_aload_n dX4_scan_46 rfl ?_
            refine mv_aload_nN dX4_scan_47 rfl ?_
            refine mv_cV (st := []) dX4_scan_48 kk_X4_46 (TX4_endPart_34_N G d _ _ (mv_sat_bind hs)) so_34 vc_4 rfl rfl (Nat.le_of_ble_eq_true rfl) (by omega) rfl ⟨Nat.zero_le _, Nat.zero_le _⟩ (mv_kv fun r313 hs => ?_)
            exact (BX4_scan_34_N_b51 G d D (by omega) P _ ih _ _ hs)
          · exact (BX4_scan_34_N_b51 G d D (by omega) P _ ih _ _ hs)
      · exact mv_weak (lv' := [.ref 34, .float 0, .float 0]) (mv_s (mv_k (mv_k mv_n))) (BX4_scan_34_N_b57 G d D (by omega) P _ hs)
    · exact mv_weak (lv' := [.ref 34, .float 0, .float 0]) (mv_s (mv_k (mv_k mv_n))) (BX4_scan_34_N_b57 G d D (by omega) P _ hs)
noncomputable def fX4_scan_34_N (h : mv_H) : Option (Int32 × mv_H) := (fX4_startList_34 h).bind fun r290 => fX4_scan_34_N_b6 mv_F 0 r290
set_option maxRecDepth 100000 in
set_option maxHeartbeats 4000000 in
theorem TX4_scan_34_N (G : mv_G) (d : Nat) (P : Int32 × mv_H → Prop) (h : mv_H) (hs : mv_sat (fX4_scan_34_N h) P) : mv_met G (d + 3) mX4_scan [.ref 34, .null] mv_SH h (mv_qI mv_SH P) := by
  unfold fX4_scan_34_N at hs
  obtain ⟨D, hDe⟩ : ∃ D, D = d + 3 := ⟨_, rfl⟩
  rw [← hDe]
  have hD : d + 3 ≤ D := by omega
  refine mv_enter (lv := [.ref 34, .null, .float 0]) 1 (by decide) (by decide +kernel) rfl (Nat.le_of_ble_eq_true rfl) ?_
  refine mv_aload_n dX4_scan_0 rfl ?_
  refine mv_cV (st := []) dX4_scan_1 kk_X4_39 (TX4_startList_34 G d _ _ (mv_sat_bind hs)) so_34 vc_4 rfl rfl (Nat.le_of_ble_eq_true rfl) (by omega) rfl ⟨Nat.zero_le _, Nat.zero_le _⟩ (mv_kv fun r290 hs => ?_)
  refine mv_iconst 0 dX4_scan_4 (by decide) ?_
  refine mv_istore_n (lv' := [.ref 34, .null, .int 0]) dX4_scan_5 (Nat.le_of_ble_eq_true rfl) rfl rfl ?_
  exact (BX4_scan_34_N_b6 G d D (by omega) P _ _ _ hs)
noncomputable def fX9_fault_0 (h : mv_H) : Option (Int32 × mv_H) := (fX4_scan_34_N h).bind fun r314 => some (r314.1, r314.2)
set_option maxRecDepth 100000 in
set_option maxHeartbeats 4000000 in
theorem TX9_fault_0 (G : mv_G) (d : Nat) (P : Int32 × mv_H → Prop) (h : mv_H) (hs : mv_sat (fX9_fault_0 h) P) : mv_met G (d + 4) mX9_fault [.ref 0] mv_SH h (mv_qI mv_SH P) := by
  unfold fX9_fault_0 at hs
  obtain ⟨D, hDe⟩ : ∃ D, D = d + 4 := ⟨_, rfl⟩
  rw [← hDe]
  have hD : d + 4 ≤ D := by omega
  refine mv_enter (lv := [.ref 0]) 0 (by decide) (by decide +kernel) rfl (Nat.le_of_ble_eq_true rfl) ?_
  refine mv_aload_n dX9_fault_0 rfl ?_
  refine mv_getr dX9_fault_1 kf_X9_25 gf_0_4 ?_
  refine mv_null dX9_fault_4 ?_
  refine mv_cV (st := []) dX9_fault_5 kk_X9_129 (TX4_scan_34_N G d _ _ (mv_sat_bind hs)) so_34 vc_4 rfl rfl (Nat.le_of_ble_eq_true rfl) (by omega) rfl ⟨Nat.zero_le _, Nat.zero_le _⟩ (mv_kI2 fun r314 hs => ?_)
  exact mv_iret dX9_fault_8 rfl ⟨(r314.1, r314.2), rfl, rfl, rfl, mv_sat_some hs⟩
noncomputable def fX10_readSort_55_b63 (h : mv_H) : Option (Int32 × mv_H) := some (1, h)
set_option maxRecDepth 100000 in
set_option maxHeartbeats 4000000 in
theorem BX10_readSort_55_b63 (G : mv_G) (d D : Nat) (hD : d + 0 ≤ D) (P : Int32 × mv_H → Prop) (h : mv_H) (hs : mv_sat (fX10_readSort_55_b63 h) P) : mv_MW G mX10_readSort (mv_rm D mX10_readSort) (mv_Zf G mX10_readSort (mv_qI mv_SH P)) 0 0 63 [.float 0, .float 0] [] mv_SH h := by
  unfold fX10_readSort_55_b63 at hs
  refine mv_iconst 1 dX10_readSort_63 (by decide) ?_
  refine mv_goto dX10_readSort_64 ?_
  exact mv_zret dX10_readSort_68 rfl (Or.inr rfl) ⟨(1, h), rfl, rfl, rfl, mv_sat_some hs⟩
noncomputable def fX10_readSort_55_b29 (v1 : Int32) (s0 : Int32) (s1 : Int32) (h : mv_H) : Option (Int32 × mv_H) := if mv_in s1 60 then mv_let (mv_u h 63 s1.toNatClampNeg s0) fun h318 : mv_H => (mv_let (mv_u h318 55 20 0) fun h319 : mv_H => mv_let (mv_u h319 55 22 0) fun h320 : mv_H => mv_let (mv_u h320 55 21 1) fun h321 : mv_H => if v1 = 66 then fX10_readSort_55_b63 h321 else if v1 = 84 then fX10_readSort_55_b63 h321 else if v1 = 83 then fX10_readSort_55_b63 h321 else some (0, h321)) else none
set_option maxRecDepth 100000 in
set_option maxHeartbeats 4000000 in
theorem BX10_readSort_55_b29 (G : mv_G) (d D : Nat) (hD : d + 0 ≤ D) (P : Int32 × mv_H → Prop) (v1 : Int32) (s0 : Int32) (s1 : Int32) (h : mv_H) (hs : mv_sat (fX10_readSort_55_b29 v1 s0 s1 h) P) : mv_MW G mX10_readSort (mv_rm D mX10_readSort) (mv_Zf G mX10_readSort (mv_qI mv_SH P)) 0 0 29 [.ref 55, .int v1] [.int s0, .int s1, .ref 63] mv_SH h := by
  unfold fX10_readSort_55_b29 at hs
  refine mv_iastore dX10_readSort_29 so_63 hs (fun hs => ?_)
  refine mv_nameH hs (fun h318 hs => ?_)
  refine mv_aload_n dX10_readSort_30 rfl ?_
  refine mv_iconst 0 dX10_readSort_31 (by decide) ?_
  refine mv_puti dX10_readSort_32 kf_X10_170 (fun q => by cases q) gf_55_20 ?_
  refine mv_nameH hs (fun h319 hs => ?_)
  refine mv_aload_n dX10_readSort_35 rfl ?_
  refine mv_iconst 0 dX10_readSort_36 (by decide) ?_
  refine mv_puti dX10_readSort_37 kf_X10_173 (fun q => by cases q) gf_55_22 ?_
  refine mv_nameH hs (fun h320 hs => ?_)
  refine mv_aload_n dX10_readSort_40 rfl ?_
  refine mv_iconst 1 dX10_readSort_41 (by decide) ?_
  refine mv_putz dX10_readSort_42 kf_X10_176 (fun q => by cases q) gf_55_21 (Or.inr rfl) ?_
  refine mv_nameH hs (fun h321 hs => ?_)
  refine mv_iload_n dX10_readSort_45 rfl ?_
  refine mv_bipush 66 dX10_readSort_46 (by decide) ?_
  refine mv_icmp_eq dX10_readSort_48 hs (fun _ hs => ?_) (fun _ hs => ?_)
  · exact mv_weak (lv' := [.float 0, .float 0]) (mv_k (mv_k mv_n)) (BX10_readSort_55_b63 G d D (by omega) P _ hs)
  · refine mv_iload_n dX10_readSort_51 rfl ?_
    refine mv_bipush 84 dX10_readSort_52 (by decide) ?_
    refine mv_icmp_eq dX10_readSort_54 hs (fun _ hs => ?_) (fun _ hs => ?_)
    · exact mv_weak (lv' := [.float 0, .float 0]) (mv_k (mv_k mv_n)) (BX10_readSort_55_b63 G d D (by omega) P _ hs)
    · refine mv_iload_n dX10_readSort_57 rfl ?_
      refine mv_bipush 83 dX10_readSort_58 (by decide) ?_
      refine mv_icmp_ne dX10_readSort_60 hs (fun _ hs => ?_) (fun _ hs => ?_)
      · exact mv_weak (lv' := [.float 0, .float 0]) (mv_k (mv_k mv_n)) (BX10_readSort_55_b63 G d D (by omega) P _ hs)
      · refine mv_iconst 0 dX10_readSort_67 (by decide) ?_
        exact mv_zret dX10_readSort_68 rfl (Or.inl rfl) ⟨(0, h321), rfl, rfl, rfl, mv_sat_some hs⟩
noncomputable def fX10_readSort_55 (p0 : Int32) (h : mv_H) : Option (Int32 × mv_H) := if p0 = 66 then fX10_readSort_55_b29 p0 0 (h 55 19) h else if p0 = 84 then fX10_readSort_55_b29 p0 1 (h 55 19) h else fX10_readSort_55_b29 p0 2 (h 55 19) h
set_option maxRecDepth 100000 in
set_option maxHeartbeats 4000000 in
theorem TX10_readSort_55 (G : mv_G) (d : Nat) (P : Int32 × mv_H → Prop) (p0 : Int32) (h : mv_H) (hs : mv_sat (fX10_readSort_55 p0 h) P) : mv_met G (d + 0) mX10_readSort [.ref 55, .int p0] mv_SH h (mv_qI mv_SH P) := by
  unfold fX10_readSort_55 at hs
  obtain ⟨D, hDe⟩ : ∃ D, D = d + 0 := ⟨_, rfl⟩
  rw [← hDe]
  have hD : d + 0 ≤ D := by omega
  refine mv_enter (lv := [.ref 55, .int p0]) 0 (by decide) (by decide +kernel) rfl (Nat.le_of_ble_eq_true rfl) ?_
  refine mv_aload_n dX10_readSort_0 rfl ?_
  refine mv_getr dX10_readSort_1 kf_X10_31 gf_55_17 ?_
  refine mv_aload_n dX10_readSort_4 rfl ?_
  refine mv_geti dX10_readSort_5 kf_X10_167 gf_55_19 ?_
  refine mv_iload_n dX10_readSort_8 rfl ?_
  refine mv_bipush 66 dX10_readSort_9 (by decide) ?_
  refine mv_icmp_ne dX10_readSort_11 hs (fun _ hs => ?_) (fun _ hs => ?_)
  · refine mv_iconst 0 dX10_readSort_14 (by decide) ?_
    refine mv_goto dX10_readSort_15 ?_
    exact (BX10_readSort_55_b29 G d D (by omega) P _ _ _ _ hs)
  · refine mv_iload_n dX10_readSort_18 rfl ?_
    refine mv_bipush 84 dX10_readSort_19 (by decide) ?_
    refine mv_icmp_ne dX10_readSort_21 hs (fun _ hs => ?_) (fun _ hs => ?_)
    · refine mv_iconst 1 dX10_readSort_24 (by decide) ?_
      refine mv_goto dX10_readSort_25 ?_
      exact (BX10_readSort_55_b29 G d D (by omega) P _ _ _ _ hs)
    · refine mv_iconst 2 dX10_readSort_28 (by decide) ?_
      exact (BX10_readSort_55_b29 G d D (by omega) P _ _ _ _ hs)
noncomputable def fX10_fault_55_b50 (k12 : Int32 → mv_H → Option (Int32 × mv_H)) (v1 : Int32) (s0 : Int32) (h : mv_H) : Option (Int32 × mv_H) := if s0 = 0 then some (v1, h) else k12 (v1 + 1) h
set_option maxRecDepth 100000 in
set_option maxHeartbeats 4000000 in
theorem BX10_fault_55_b50 (G : mv_G) (d D : Nat) (hD : d + 0 ≤ D) (P : Int32 × mv_H → Prop) (k12 : Int32 → mv_H → Option (Int32 × mv_H)) (hk12 : ∀ (v1 : Int32) (h : mv_H), mv_sat (k12 v1 h) P → mv_MW G mX10_fault (mv_rm D mX10_fault) (mv_Zf G mX10_fault (mv_qI mv_SH P)) 0 0 12 [.ref 55, .int v1, .float 0] [] mv_SH h) (v1 : Int32) (s0 : Int32) (h : mv_H) (hs : mv_sat (fX10_fault_55_b50 k12 v1 s0 h) P) : mv_MW G mX10_fault (mv_rm D mX10_fault) (mv_Zf G mX10_fault (mv_qI mv_SH P)) 0 0 50 [.ref 55, .int v1, .float 0] [.int s0] mv_SH h := by
  unfold fX10_fault_55_b50 at hs
  refine mv_istore_n (lv' := [.ref 55, .int v1, .int s0]) dX10_fault_50 (Nat.le_of_ble_eq_true rfl) rfl rfl ?_
  refine mv_iload_n dX10_fault_51 rfl ?_
  refine mv_if_ne dX10_fault_52 hs (fun _ hs => ?_) (fun _ hs => ?_)
  · refine mv_iload_n dX10_fault_55 rfl ?_
    exact mv_iret dX10_fault_56 rfl ⟨(v1, h), rfl, rfl, rfl, mv_sat_some hs⟩
  · refine mv_iinc (lv' := [.ref 55, .int (v1 + 1), .int s0]) 1 dX10_fault_57 rfl (by decide) (Nat.le_of_ble_eq_true rfl) rfl rfl ?_
    refine mv_goto dX10_fault_60 ?_
    exact mv_weak (lv' := [.ref 55, .int (v1 + 1), .float 0]) (mv_s (mv_s (mv_k mv_n))) (hk12 _ _ hs)
noncomputable def fX10_readMore_55_b114 (v1 : Int32) (s0 : Int32) (h : mv_H) : Option (Int32 × mv_H) := if mv_in ((3 * (h 55 19)) + (h 55 20)) 180 then mv_let (mv_u h 64 ((3 * (h 55 19)) + (h 55 20)).toNatClampNeg (h 55 22)) fun h324 : mv_H => (mv_let (mv_u h324 55 20 ((h324 55 20) + 1)) fun h325 : mv_H => mv_let (mv_u h325 55 22 0) fun h326 : mv_H => if v1 = 59 then (mv_let (mv_u h326 55 19 ((h326 55 19) + 1)) fun h327 : mv_H => mv_let (mv_u h327 55 21 0) fun h328 : mv_H => if mv_01 s0 then some (s0, h328) else none) else if mv_01 s0 then some (s0, h326) else none) else none
set_option maxRecDepth 100000 in
set_option maxHeartbeats 4000000 in
theorem BX10_readMore_55_b114 (G : mv_G) (d D : Nat) (hD : d + 0 ≤ D) (P : Int32 × mv_H → Prop) (v1 : Int32) (s0 : Int32) (h : mv_H) (hs : mv_sat (fX10_readMore_55_b114 v1 s0 h) P) : mv_MW G mX10_readMore (mv_rm D mX10_readMore) (mv_Zf G mX10_readMore (mv_qI mv_SH P)) 0 0 114 [.ref 55, .int v1, .float 0, .float 0] [.int s0] mv_SH h := by
  unfold fX10_readMore_55_b114 at hs
  refine mv_istore_n (lv' := [.ref 55, .int v1, .float 0, .int s0]) dX10_readMore_114 (Nat.le_of_ble_eq_true rfl) rfl rfl ?_
  refine mv_aload_n dX10_readMore_115 rfl ?_
  refine mv_getr dX10_readMore_116 kf_X10_34 gf_55_18 ?_
  refine mv_iconst 3 dX10_readMore_119 (by decide) ?_
  refine mv_aload_n dX10_readMore_120 rfl ?_
  refine mv_geti dX10_readMore_121 kf_X10_167 gf_55_19 ?_
  refine mv_imul dX10_readMore_124 ?_
  refine mv_aload_n dX10_readMore_125 rfl ?_
  refine mv_geti dX10_readMore_126 kf_X10_170 gf_55_20 ?_
  refine mv_iadd dX10_readMore_129 ?_
  refine mv_aload_n dX10_readMore_130 rfl ?_
  refine mv_geti dX10_readMore_131 kf_X10_173 gf_55_22 ?_
  refine mv_iastore dX10_readMore_134 so_64 hs (fun hs => ?_)
  refine mv_nameH hs (fun h324 hs => ?_)
  refine mv_aload_n dX10_readMore_135 rfl ?_
  refine mv_dup dX10_readMore_136 rfl ?_
  refine mv_geti dX10_readMore_137 kf_X10_170 gf_55_20 ?_
  refine mv_iconst 1 dX10_readMore_140 (by decide) ?_
  refine mv_iadd dX10_readMore_141 ?_
  refine mv_puti dX10_readMore_142 kf_X10_170 (fun q => by cases q) gf_55_20 ?_
  refine mv_nameH hs (fun h325 hs => ?_)
  refine mv_aload_n dX10_readMore_145 rfl ?_
  refine mv_iconst 0 dX10_readMore_146 (by decide) ?_
  refine mv_puti dX10_readMore_147 kf_X10_173 (fun q => by cases q) gf_55_22 ?_
  refine mv_nameH hs (fun h326 hs => ?_)
  refine mv_iload_n dX10_readMore_150 rfl ?_
  refine mv_bipush 59 dX10_readMore_151 (by decide) ?_
  refine mv_icmp_ne dX10_readMore_153 hs (fun _ hs => ?_) (fun _ hs => ?_)
  · refine mv_aload_n dX10_readMore_156 rfl ?_
    refine mv_dup dX10_readMore_157 rfl ?_
    refine mv_geti dX10_readMore_158 kf_X10_167 gf_55_19 ?_
    refine mv_iconst 1 dX10_readMore_161 (by decide) ?_
    refine mv_iadd dX10_readMore_162 ?_
    refine mv_puti dX10_readMore_163 kf_X10_167 (fun q => by cases q) gf_55_19 ?_
    refine mv_nameH hs (fun h327 hs => ?_)
    refine mv_aload_n dX10_readMore_166 rfl ?_
    refine mv_iconst 0 dX10_readMore_167 (by decide) ?_
    refine mv_putz dX10_readMore_168 kf_X10_176 (fun q => by cases q) gf_55_21 (Or.inl rfl) ?_
    refine mv_nameH hs (fun h328 hs => ?_)
    refine mv_iload_n dX10_readMore_171 rfl ?_
    obtain ⟨h01, hs⟩ := mv_sat_g hs
    exact mv_zret dX10_readMore_172 rfl h01 ⟨(s0, h328), rfl, rfl, rfl, mv_sat_some hs⟩
  · refine mv_iload_n dX10_readMore_171 rfl ?_
    obtain ⟨h01, hs⟩ := mv_sat_g hs
    exact mv_zret dX10_readMore_172 rfl h01 ⟨(s0, h326), rfl, rfl, rfl, mv_sat_some hs⟩
noncomputable def fX10_readMore_55_b113 (v1 : Int32) (h : mv_H) : Option (Int32 × mv_H) := fX10_readMore_55_b114 v1 0 h
set_option maxRecDepth 100000 in
set_option maxHeartbeats 4000000 in
theorem BX10_readMore_55_b113 (G : mv_G) (d D : Nat) (hD : d + 0 ≤ D) (P : Int32 × mv_H → Prop) (v1 : Int32) (h : mv_H) (hs : mv_sat (fX10_readMore_55_b113 v1 h) P) : mv_MW G mX10_readMore (mv_rm D mX10_readMore) (mv_Zf G mX10_readMore (mv_qI mv_SH P)) 0 0 113 [.ref 55, .int v1, .float 0, .float 0] [] mv_SH h := by
  unfold fX10_readMore_55_b113 at hs
  refine mv_iconst 0 dX10_readMore_113 (by decide) ?_
  exact (BX10_readMore_55_b114 G d D (by omega) P _ _ _ hs)
noncomputable def fX10_readMore_55_b106 (v1 : Int32) (s0 : Int32) (s1 : Int32) (h : mv_H) : Option (Int32 × mv_H) := if s1 = s0 then fX10_readMore_55_b114 v1 1 h else fX10_readMore_55_b113 v1 h
set_option maxRecDepth 100000 in
set_option maxHeartbeats 4000000 in
theorem BX10_readMore_55_b106 (G : mv_G) (d D : Nat) (hD : d + 0 ≤ D) (P : Int32 × mv_H → Prop) (v1 : Int32) (s0 : Int32) (s1 : Int32) (h : mv_H) (hs : mv_sat (fX10_readMore_55_b106 v1 s0 s1 h) P) : mv_MW G mX10_readMore (mv_rm D mX10_readMore) (mv_Zf G mX10_readMore (mv_qI mv_SH P)) 0 0 106 [.ref 55, .int v1, .float 0, .float 0] [.int s0, .int s1] mv_SH h := by
  unfold fX10_readMore_55_b106 at hs
  refine mv_icmp_ne dX10_readMore_106 hs (fun _ hs => ?_) (fun _ hs => ?_)
  · refine mv_iconst 1 dX10_readMore_109 (by decide) ?_
    refine mv_goto dX10_readMore_110 ?_
    exact (BX10_readMore_55_b114 G d D (by omega) P _ _ _ hs)
  · exact (BX10_readMore_55_b113 G d D (by omega) P _ _ hs)
noncomputable def fX10_readMore_55_b77 (s0 : Int64) (s1 : Int64) (s2 : Int64) (h : mv_H) : Option (Int32 × mv_H) := (fX10_in s2 s1 s0).bind fun r330 => if mv_01 r330 then some (r330, h) else none
set_option maxRecDepth 100000 in
set_option maxHeartbeats 4000000 in
theorem BX10_readMore_55_b77 (G : mv_G) (d D : Nat) (hD : d + 1 ≤ D) (P : Int32 × mv_H → Prop) (s0 : Int64) (s1 : Int64) (s2 : Int64) (h : mv_H) (hs : mv_sat (fX10_readMore_55_b77 s0 s1 s2 h) P) : mv_MW G mX10_readMore (mv_rm D mX10_readMore) (mv_Zf G mX10_readMore (mv_qI mv_SH P)) 0 0 77 [.float 0, .float 0, .float 0, .float 0] [.long s0, .long s1, .long s2] mv_SH h := by
  unfold fX10_readMore_55_b77 at hs
  refine mv_cS (st := []) dX10_readMore_77 kk_X10_104 (TX10_in G d _ _ _ _ _ (mv_sat_bind hs)) rfl rfl (Nat.le_of_ble_eq_true rfl) (by omega) rfl ⟨Nat.zero_le _, Nat.zero_le _⟩ (mv_ki fun r330 hs => ?_)
  obtain ⟨h01, hs⟩ := mv_sat_g hs
  exact mv_zret dX10_readMore_80 rfl h01 ⟨(r330, h), rfl, rfl, rfl, mv_sat_some hs⟩
noncomputable def fX10_readMore_55_b18 (v1 : Int32) (s0 : Int32) (h : mv_H) : Option (Int32 × mv_H) := (fX10_in (Int32.toInt64 v1) (48 : Int64) (57 : Int64)).bind fun r323 => if r323 = 0 then (if 0 < (h 55 22) then (if ((h 55 20) + 1) = s0 then fX10_readMore_55_b106 v1 59 v1 h else fX10_readMore_55_b106 v1 120 v1 h) else fX10_readMore_55_b113 v1 h) else mv_let (mv_u h 55 22 (((10 * (h 55 22)) + v1) - 48)) fun h329 : mv_H => if mv_in (h329 55 19) 60 then (if (h329 63 (h329 55 19).toNatClampNeg) = 2 then fX10_readMore_55_b77 150 1 (Int32.toInt64 (h329 55 22)) h329 else fX10_readMore_55_b77 20 1 (Int32.toInt64 (h329 55 22)) h329) else none
set_option maxRecDepth 100000 in
set_option maxHeartbeats 4000000 in
theorem BX10_readMore_55_b18 (G : mv_G) (d D : Nat) (hD : d + 1 ≤ D) (P : Int32 × mv_H → Prop) (v1 : Int32) (s0 : Int32) (h : mv_H) (hs : mv_sat (fX10_readMore_55_b18 v1 s0 h) P) : mv_MW G mX10_readMore (mv_rm D mX10_readMore) (mv_Zf G mX10_readMore (mv_qI mv_SH P)) 0 0 18 [.ref 55, .int v1, .float 0, .float 0] [.int s0] mv_SH h := by
  unfold fX10_readMore_55_b18 at hs
  refine mv_istore_n (lv' := [.ref 55, .int v1, .int s0, .float 0]) dX10_readMore_18 (Nat.le_of_ble_eq_true rfl) rfl rfl ?_
  refine mv_iload_n dX10_readMore_19 rfl ?_
  refine mv_i2l dX10_readMore_20 ?_
  refine mv_ldc2 dX10_readMore_21 kn_X10_180 ?_
  refine mv_ldc2 dX10_readMore_24 kn_X10_182 ?_
  refine mv_cS (st := []) dX10_readMore_27 kk_X10_104 (TX10_in G d _ _ _ _ _ (mv_sat_bind hs)) rfl rfl (Nat.le_of_ble_eq_true rfl) (by omega) rfl ⟨Nat.zero_le _, Nat.zero_le _⟩ (mv_ki fun r323 hs => ?_)
  refine mv_if_eq dX10_readMore_30 hs (fun _ hs => ?_) (fun _ hs => ?_)
  · refine mv_aload_n dX10_readMore_81 rfl ?_
    refine mv_geti dX10_readMore_82 kf_X10_173 gf_55_22 ?_
    refine mv_if_le dX10_readMore_85 hs (fun _ hs => ?_) (fun _ hs => ?_)
    · refine mv_iload_n dX10_readMore_88 rfl ?_
      refine mv_aload_n dX10_readMore_89 rfl ?_
      refine mv_geti dX10_readMore_90 kf_X10_170 gf_55_20 ?_
      refine mv_iconst 1 dX10_readMore_93 (by decide) ?_
      refine mv_iadd dX10_readMore_94 ?_
      refine mv_iload_n dX10_readMore_95 rfl ?_
      refine mv_icmp_ne dX10_readMore_96 hs (fun _ hs => ?_) (fun _ hs => ?_)
      · refine mv_bipush 59 dX10_readMore_99 (by decide) ?_
        refine mv_goto dX10_readMore_101 ?_
        exact mv_weak (lv' := [.ref 55, .int v1, .float 0, .float 0]) (mv_s (mv_s (mv_k (mv_s mv_n)))) (BX10_readMore_55_b106 G d D (by omega) P _ _ _ _ hs)
      · refine mv_bipush 120 dX10_readMore_104 (by decide) ?_
        exact mv_weak (lv' := [.ref 55, .int v1, .float 0, .float 0]) (mv_s (mv_s (mv_k (mv_s mv_n)))) (BX10_readMore_55_b106 G d D (by omega) P _ _ _ _ hs)
    · exact mv_weak (lv' := [.ref 55, .int v1, .float 0, .float 0]) (mv_s (mv_s (mv_k (mv_s mv_n)))) (BX10_readMore_55_b113 G d D (by omega) P _ _ hs)
  · refine mv_aload_n dX10_readMore_33 rfl ?_
    refine mv_bipush 10 dX10_readMore_34 (by decide) ?_
    refine mv_aload_n dX10_readMore_36 rfl ?_
    refine mv_geti dX10_readMore_37 kf_X10_173 gf_55_22 ?_
    refine mv_imul dX10_readMore_40 ?_
    refine mv_iload_n dX10_readMore_41 rfl ?_
    refine mv_iadd dX10_readMore_42 ?_
    refine mv_bipush 48 dX10_readMore_43 (by decide) ?_
    refine mv_isub dX10_readMore_45 ?_
    refine mv_puti dX10_readMore_46 kf_X10_173 (fun q => by cases q) gf_55_22 ?_
    refine mv_nameH hs (fun h329 hs => ?_)
    refine mv_aload_n dX10_readMore_49 rfl ?_
    refine mv_geti dX10_readMore_50 kf_X10_173 gf_55_22 ?_
    refine mv_i2l dX10_readMore_53 ?_
    refine mv_lconst 1 dX10_readMore_54 rfl ?_
    refine mv_aload_n dX10_readMore_55 rfl ?_
    refine mv_getr dX10_readMore_56 kf_X10_31 gf_55_17 ?_
    refine mv_aload_n dX10_readMore_59 rfl ?_
    refine mv_geti dX10_readMore_60 kf_X10_167 gf_55_19 ?_
    refine mv_iaload dX10_readMore_63 so_63 hs (fun hs => ?_)
    refine mv_iconst 2 dX10_readMore_64 (by decide) ?_
    refine mv_icmp_ne dX10_readMore_65 hs (fun _ hs => ?_) (fun _ hs => ?_)
    · refine mv_ldc2 dX10_readMore_68 kn_X10_138 ?_
      refine mv_goto dX10_readMore_71 ?_
      exact mv_weak (lv' := [.float 0, .float 0, .float 0, .float 0]) (mv_k (mv_k (mv_k (mv_s mv_n)))) (BX10_readMore_55_b77 G d D (by omega) P _ _ _ _ hs)
    · refine mv_ldc2 dX10_readMore_74 kn_X10_121 ?_
      exact mv_weak (lv' := [.float 0, .float 0, .float 0, .float 0]) (mv_k (mv_k (mv_k (mv_s mv_n)))) (BX10_readMore_55_b77 G d D (by omega) P _ _ _ _ hs)
noncomputable def fX10_readMore_55 (p0 : Int32) (h : mv_H) : Option (Int32 × mv_H) := if mv_in (h 55 19) 60 then (if (h 63 (h 55 19).toNatClampNeg) = 2 then fX10_readMore_55_b18 p0 2 h else fX10_readMore_55_b18 p0 3 h) else none
set_option maxRecDepth 100000 in
set_option maxHeartbeats 4000000 in
theorem TX10_readMore_55 (G : mv_G) (d : Nat) (P : Int32 × mv_H → Prop) (p0 : Int32) (h : mv_H) (hs : mv_sat (fX10_readMore_55 p0 h) P) : mv_met G (d + 1) mX10_readMore [.ref 55, .int p0] mv_SH h (mv_qI mv_SH P) := by
  unfold fX10_readMore_55 at hs
  obtain ⟨D, hDe⟩ : ∃ D, D = d + 1 := ⟨_, rfl⟩
  rw [← hDe]
  have hD : d + 1 ≤ D := by omega
  refine mv_enter (lv := [.ref 55, .int p0, .float 0, .float 0]) 2 (by decide) (by decide +kernel) rfl (Nat.le_of_ble_eq_true rfl) ?_
  refine mv_aload_n dX10_readMore_0 rfl ?_
  refine mv_getr dX10_readMore_1 kf_X10_31 gf_55_17 ?_
  refine mv_aload_n dX10_readMore_4 rfl ?_
  refine mv_geti dX10_readMore_5 kf_X10_167 gf_55_19 ?_
  refine mv_iaload dX10_readMore_8 so_63 hs (fun hs => ?_)
  refine mv_iconst 2 dX10_readMore_9 (by decide) ?_
  refine mv_icmp_ne dX10_readMore_10 hs (fun _ hs => ?_) (fun _ hs => ?_)
  · refine mv_iconst 2 dX10_readMore_13 (by decide) ?_
    refine mv_goto dX10_readMore_14 ?_
    exact (BX10_readMore_55_b18 G d D (by omega) P _ _ _ hs)
  · refine mv_iconst 3 dX10_readMore_17 (by decide) ?_
    exact (BX10_readMore_55_b18 G d D (by omega) P _ _ _ hs)
noncomputable def fX10_fault_55_b12 : Nat → Int32 → mv_H → Option (Int32 × mv_H)
  | 0, _, _ => none
  | n + 1, v1, h => if v1 < (h 55 16) then (if (h 55 21) = 0 then (if mv_in v1 60 then ((fX10_readSort_55 (h 62 v1.toNatClampNeg) h).bind fun r322 => fX10_fault_55_b50 (fX10_fault_55_b12 n) v1 r322.1 r322.2) else none) else if mv_in v1 60 then ((fX10_readMore_55 (h 62 v1.toNatClampNeg) h).bind fun r331 => fX10_fault_55_b50 (fX10_fault_55_b12 n) v1 r331.1 r331.2) else none) else if (h 55 21) = 0 then some ((-6), h) else some (h 55 16, h)
set_option maxRecDepth 100000 in
set_option maxHeartbeats 4000000 in
theorem BX10_fault_55_b12 (G : mv_G) (d D : Nat) (hD : d + 2 ≤ D) (P : Int32 × mv_H → Prop) : ∀ (n : Nat) (v1 : Int32) (h : mv_H), mv_sat (fX10_fault_55_b12 n v1 h) P → mv_MW G mX10_fault (mv_rm D mX10_fault) (mv_Zf G mX10_fault (mv_qI mv_SH P)) 0 0 12 [.ref 55, .int v1, .float 0] [] mv_SH h := by
  intro n
  induction n with
  | zero =>
    intro v1 h hs
    unfold fX10_fault_55_b12 at hs
    exact (mv_sat_none hs).elim
  | succ n ih =>
    intro v1 h hs
    unfold fX10_fault_55_b12 at hs
    refine mv_iload_n dX10_fault_12 rfl ?_
    refine mv_aload_n dX10_fault_13 rfl ?_
    refine mv_geti dX10_fault_14 kf_X10_164 gf_55_16 ?_
    refine mv_icmp_ge dX10_fault_17 hs (fun _ hs => ?_) (fun _ hs => ?_)
    · refine mv_aload_n dX10_fault_20 rfl ?_
      refine mv_geti dX10_fault_21 kf_X10_176 gf_55_21 ?_
      refine mv_if_eq dX10_fault_24 hs (fun _ hs => ?_) (fun _ hs => ?_)
      · refine mv_aload_n dX10_fault_40 rfl ?_
        refine mv_aload_n dX10_fault_41 rfl ?_
        refine mv_getr dX10_fault_42 kf_X10_28 gf_55_15 ?_
        refine mv_iload_n dX10_fault_45 rfl ?_
        refine mv_iaload dX10_fault_46 so_62 hs (fun hs => ?_)
        refine mv_cV (st := []) dX10_fault_47 kk_X10_187 (TX10_readSort_55 G d _ _ _ (mv_sat_bind hs)) so_55 vc_10 rfl rfl (Nat.le_of_ble_eq_true rfl) (by omega) rfl ⟨Nat.zero_le _, Nat.zero_le _⟩ (mv_kI2 fun r322 hs => ?_)
        exact (BX10_fault_55_b50 G d D (by omega) P _ ih _ _ _ hs)
      · refine mv_aload_n dX10_fault_27 rfl ?_
        refine mv_aload_n dX10_fault_28 rfl ?_
        refine mv_getr dX10_fault_29 kf_X10_28 gf_55_15 ?_
        refine mv_iload_n dX10_fault_32 rfl ?_
        refine mv_iaload dX10_fault_33 so_62 hs (fun hs => ?_)
        refine mv_cV (st := []) dX10_fault_34 kk_X10_184 (TX10_readMore_55 G d _ _ _ (mv_sat_bind hs)) so_55 vc_10 rfl rfl (Nat.le_of_ble_eq_true rfl) (by omega) rfl ⟨Nat.zero_le _, Nat.zero_le _⟩ (mv_kI2 fun r331 hs => ?_)
        refine mv_goto dX10_fault_37 ?_
        exact (BX10_fault_55_b50 G d D (by omega) P _ ih _ _ _ hs)
    · refine mv_aload_n dX10_fault_63 rfl ?_
      refine mv_geti dX10_fault_64 kf_X10_176 gf_55_21 ?_
      refine mv_if_eq dX10_fault_67 hs (fun _ hs => ?_) (fun _ hs => ?_)
      · refine mv_bipush (-6) dX10_fault_77 (by decide) ?_
        exact mv_iret dX10_fault_79 rfl ⟨((-6), h), rfl, rfl, rfl, mv_sat_some hs⟩
      · refine mv_aload_n dX10_fault_70 rfl ?_
        refine mv_geti dX10_fault_71 kf_X10_164 gf_55_16 ?_
        refine mv_goto dX10_fault_74 ?_
        exact mv_iret dX10_fault_79 rfl ⟨(h 55 16, h), rfl, rfl, rfl, mv_sat_some hs⟩
noncomputable def fX10_fault_55 (h : mv_H) : Option (Int32 × mv_H) := mv_let (mv_u h 55 19 0) fun h316 : mv_H => mv_let (mv_u h316 55 21 0) fun h317 : mv_H => fX10_fault_55_b12 mv_F 0 h317
set_option maxRecDepth 100000 in
set_option maxHeartbeats 4000000 in
theorem TX10_fault_55 (G : mv_G) (d : Nat) (P : Int32 × mv_H → Prop) (h : mv_H) (hs : mv_sat (fX10_fault_55 h) P) : mv_met G (d + 2) mX10_fault [.ref 55] mv_SH h (mv_qI mv_SH P) := by
  unfold fX10_fault_55 at hs
  obtain ⟨D, hDe⟩ : ∃ D, D = d + 2 := ⟨_, rfl⟩
  rw [← hDe]
  have hD : d + 2 ≤ D := by omega
  refine mv_enter (lv := [.ref 55, .float 0, .float 0]) 2 (by decide) (by decide +kernel) rfl (Nat.le_of_ble_eq_true rfl) ?_
  refine mv_aload_n dX10_fault_0 rfl ?_
  refine mv_iconst 0 dX10_fault_1 (by decide) ?_
  refine mv_puti dX10_fault_2 kf_X10_167 (fun q => by cases q) gf_55_19 ?_
  refine mv_nameH hs (fun h316 hs => ?_)
  refine mv_aload_n dX10_fault_5 rfl ?_
  refine mv_iconst 0 dX10_fault_6 (by decide) ?_
  refine mv_putz dX10_fault_7 kf_X10_176 (fun q => by cases q) gf_55_21 (Or.inl rfl) ?_
  refine mv_nameH hs (fun h317 hs => ?_)
  refine mv_iconst 0 dX10_fault_10 (by decide) ?_
  refine mv_istore_n (lv' := [.ref 55, .int 0, .float 0]) dX10_fault_11 (Nat.le_of_ble_eq_true rfl) rfl rfl ?_
  exact (BX10_fault_55_b12 G d D (by omega) P _ _ _ hs)
noncomputable def fX4_hasPlaceIn_34_1_b2 : Nat → Int32 → mv_H → Option (Int32)
  | 0, _, _ => none
  | n + 1, v2, h => if v2 < 3 then (if mv_in v2 3 then ((fX1_shelf_1 v2 h).bind fun r334 => if r334 = 2 then ((fX7_count_2 h).bind fun r335 => if 6 < ((h 37 v2.toNatClampNeg) + r335) then some 0 else (fX4_hasPlaceIn_34_1_b2 n) (v2 + 1) h) else if r334 = 4 then ((fX7_count_4 h).bind fun r336 => if 6 < ((h 37 v2.toNatClampNeg) + r336) then some 0 else (fX4_hasPlaceIn_34_1_b2 n) (v2 + 1) h) else if r334 = 6 then ((fX7_count_6 h).bind fun r337 => if 6 < ((h 37 v2.toNatClampNeg) + r337) then some 0 else (fX4_hasPlaceIn_34_1_b2 n) (v2 + 1) h) else none) else none) else some 1
set_option maxRecDepth 100000 in
set_option maxHeartbeats 4000000 in
theorem BX4_hasPlaceIn_34_1_b2 (G : mv_G) (d D : Nat) (hD : d + 2 ≤ D) (P : Int32 → Prop) (h : mv_H) : ∀ (n : Nat) (v2 : Int32), mv_sat (fX4_hasPlaceIn_34_1_b2 n v2 h) P → mv_MW G mX4_hasPlaceIn (mv_rm D mX4_hasPlaceIn) (mv_Zf G mX4_hasPlaceIn (mv_qi mv_SH h P)) 0 0 2 [.ref 34, .ref 1, .int v2] [] mv_SH h := by
  intro n
  induction n with
  | zero =>
    intro v2 hs
    unfold fX4_hasPlaceIn_34_1_b2 at hs
    exact (mv_sat_none hs).elim
  | succ n ih =>
    intro v2 hs
    unfold fX4_hasPlaceIn_34_1_b2 at hs
    refine mv_iload_n dX4_hasPlaceIn_2 rfl ?_
    refine mv_iconst 3 dX4_hasPlaceIn_3 (by decide) ?_
    refine mv_icmp_ge dX4_hasPlaceIn_4 hs (fun _ hs => ?_) (fun _ hs => ?_)
    · refine mv_aload_n dX4_hasPlaceIn_7 rfl ?_
      refine mv_getr dX4_hasPlaceIn_8 kf_X4_22 gf_34_8 ?_
      refine mv_iload_n dX4_hasPlaceIn_11 rfl ?_
      refine mv_iaload dX4_hasPlaceIn_12 so_37 hs (fun hs => ?_)
      refine mv_aload_n dX4_hasPlaceIn_13 rfl ?_
      refine mv_iload_n dX4_hasPlaceIn_14 rfl ?_
      refine mv_cV (st := [.int (h 37 v2.toNatClampNeg)]) dX4_hasPlaceIn_15 kk_X4_28 (TX1_shelf_1 G d _ _ _ (mv_sat_bind hs)) so_1 vc_1 rfl rfl (Nat.le_of_ble_eq_true rfl) (by omega) rfl ⟨Nat.zero_le _, Nat.zero_le _⟩ (mv_kr fun r334 hs => ?_)
      refine mv_case hs (fun e hsn => ?_) (fun _ hs => ?_)
      · subst e
        have hs := hsn
        refine mv_cV (st := [.int (h 37 v2.toNatClampNeg)]) dX4_hasPlaceIn_18 kk_X4_34 (TX7_count_2 G d _ _ (mv_sat_bind hs)) so_2 vc_7 rfl rfl (Nat.le_of_ble_eq_true rfl) (by omega) rfl ⟨Nat.zero_le _, Nat.zero_le _⟩ (mv_ki fun r335 hs => ?_)
        refine mv_iadd dX4_hasPlaceIn_21 ?_
        refine mv_bipush 6 dX4_hasPlaceIn_22 (by decide) ?_
        refine mv_icmp_le dX4_hasPlaceIn_24 hs (fun _ hs => ?_) (fun _ hs => ?_)
        · refine mv_iconst 0 dX4_hasPlaceIn_27 (by decide) ?_
          exact mv_zret dX4_hasPlaceIn_28 rfl (Or.inl rfl) ⟨_, rfl, rfl, rfl, mv_sat_some hs⟩
        · refine mv_iinc (lv' := [.ref 34, .ref 1, .int (v2 + 1)]) 1 dX4_hasPlaceIn_29 rfl (by decide) (Nat.le_of_ble_eq_true rfl) rfl rfl ?_
          refine mv_goto dX4_hasPlaceIn_32 ?_
          exact (ih _ hs)
      refine mv_case hs (fun e hsn => ?_) (fun _ hs => ?_)
      · subst e
        have hs := hsn
        refine mv_cV (st := [.int (h 37 v2.toNatClampNeg)]) dX4_hasPlaceIn_18 kk_X4_34 (TX7_count_4 G d _ _ (mv_sat_bind hs)) so_4 vc_7 rfl rfl (Nat.le_of_ble_eq_true rfl) (by omega) rfl ⟨Nat.zero_le _, Nat.zero_le _⟩ (mv_ki fun r336 hs => ?_)
        refine mv_iadd dX4_hasPlaceIn_21 ?_
        refine mv_bipush 6 dX4_hasPlaceIn_22 (by decide) ?_
        refine mv_icmp_le dX4_hasPlaceIn_24 hs (fun _ hs => ?_) (fun _ hs => ?_)
        · refine mv_iconst 0 dX4_hasPlaceIn_27 (by decide) ?_
          exact mv_zret dX4_hasPlaceIn_28 rfl (Or.inl rfl) ⟨_, rfl, rfl, rfl, mv_sat_some hs⟩
        · refine mv_iinc (lv' := [.ref 34, .ref 1, .int (v2 + 1)]) 1 dX4_hasPlaceIn_29 rfl (by decide) (Nat.le_of_ble_eq_true rfl) rfl rfl ?_
          refine mv_goto dX4_hasPlaceIn_32 ?_
          exact (ih _ hs)
      refine mv_case hs (fun e hsn => ?_) (fun _ hs => ?_)
      · subst e
        have hs := hsn
        refine mv_cV (st := [.int (h 37 v2.toNatClampNeg)]) dX4_hasPlaceIn_18 kk_X4_34 (TX7_count_6 G d _ _ (mv_sat_bind hs)) so_6 vc_7 rfl rfl (Nat.le_of_ble_eq_true rfl) (by omega) rfl ⟨Nat.zero_le _, Nat.zero_le _⟩ (mv_ki fun r337 hs => ?_)
        refine mv_iadd dX4_hasPlaceIn_21 ?_
        refine mv_bipush 6 dX4_hasPlaceIn_22 (by decide) ?_
        refine mv_icmp_le dX4_hasPlaceIn_24 hs (fun _ hs => ?_) (fun _ hs => ?_)
        · refine mv_iconst 0 dX4_hasPlaceIn_27 (by decide) ?_
          exact mv_zret dX4_hasPlaceIn_28 rfl (Or.inl rfl) ⟨_, rfl, rfl, rfl, mv_sat_some hs⟩
        · refine mv_iinc (lv' := [.ref 34, .ref 1, .int (v2 + 1)]) 1 dX4_hasPlaceIn_29 rfl (by decide) (Nat.le_of_ble_eq_true rfl) rfl rfl ?_
          refine mv_goto dX4_hasPlaceIn_32 ?_
          exact (ih _ hs)
      exact (mv_sat_none hs).elim
    · refine mv_iconst 1 dX4_hasPlaceIn_35 (by decide) ?_
      exact mv_zret dX4_hasPlaceIn_36 rfl (Or.inr rfl) ⟨_, rfl, rfl, rfl, mv_sat_some hs⟩
noncomputable def fX4_hasPlaceIn_34_1 (h : mv_H) : Option (Int32) := fX4_hasPlaceIn_34_1_b2 mv_F 0 h
set_option maxRecDepth 100000 in
set_option maxHeartbeats 4000000 in
theorem TX4_hasPlaceIn_34_1 (G : mv_G) (d : Nat) (P : Int32 → Prop) (h : mv_H) (hs : mv_sat (fX4_hasPlaceIn_34_1 h) P) : mv_met G (d + 2) mX4_hasPlaceIn [.ref 34, .ref 1] mv_SH h (mv_qi mv_SH h P) := by
  unfold fX4_hasPlaceIn_34_1 at hs
  obtain ⟨D, hDe⟩ : ∃ D, D = d + 2 := ⟨_, rfl⟩
  rw [← hDe]
  have hD : d + 2 ≤ D := by omega
  refine mv_enter (lv := [.ref 34, .ref 1, .float 0]) 1 (by decide) (by decide +kernel) rfl (Nat.le_of_ble_eq_true rfl) ?_
  refine mv_iconst 0 dX4_hasPlaceIn_0 (by decide) ?_
  refine mv_istore_n (lv' := [.ref 34, .ref 1, .int 0]) dX4_hasPlaceIn_1 (Nat.le_of_ble_eq_true rfl) rfl rfl ?_
  exact (BX4_hasPlaceIn_34_1_b2 G d D (by omega) P _ _ _ hs)
noncomputable def fX4_endPart_34_1_b70 (h : mv_H) : Option (mv_H) := mv_let (mv_u h 34 2 (-1)) fun h342 : mv_H => some h342
set_option maxRecDepth 100000 in
set_option maxHeartbeats 4000000 in
theorem BX4_endPart_34_1_b70 (G : mv_G) (d D : Nat) (hD : d + 0 ≤ D) (P : mv_H → Prop) (h : mv_H) (hs : mv_sat (fX4_endPart_34_1_b70 h) P) : mv_MW G mX4_endPart (mv_rm D mX4_endPart) (mv_Zf G mX4_endPart (mv_qv mv_SH P)) 0 0 70 [.ref 34, .float 0] [] mv_SH h := by
  unfold fX4_endPart_34_1_b70 at hs
  refine mv_aload_n dX4_endPart_70 rfl ?_
  refine mv_iconst (-1) dX4_endPart_71 (by decide) ?_
  refine mv_puti dX4_endPart_72 kf_X4_15 (fun q => by cases q) gf_34_2 ?_
  refine mv_nameH hs (fun h342 hs => ?_)
  exact mv_vret dX4_endPart_75 rfl ⟨_, rfl, rfl, rfl, mv_sat_some hs⟩
noncomputable def fX7_putAtFirstFree_2_b3 : Nat → Int32 → Int32 → Int32 → Int32 → mv_H → Option (mv_H)
  | 0, _, _, _, _, _ => none
  | n + 1, v1, v2, v3, v4, h => if v4 < 6 then ((fX7_has_2 v4 h).bind fun r345 => if r345 = 0 then ((fX7_put_2 v4 v1 v2 v3 h).bind fun r346 => some r346) else (fX7_putAtFirstFree_2_b3 n) v1 v2 v3 (v4 + 1) h) else some h
set_option maxRecDepth 100000 in
set_option maxHeartbeats 4000000 in
theorem BX7_putAtFirstFree_2_b3 (G : mv_G) (d D : Nat) (hD : d + 2 ≤ D) (P : mv_H → Prop) : ∀ (n : Nat) (v1 : Int32) (v2 : Int32) (v3 : Int32) (v4 : Int32) (h : mv_H), mv_sat (fX7_putAtFirstFree_2_b3 n v1 v2 v3 v4 h) P → mv_MW G mX7_putAtFirstFree (mv_rm D mX7_putAtFirstFree) (mv_Zf G mX7_putAtFirstFree (mv_qv mv_SH P)) 0 0 3 [.ref 2, .int v1, .int v2, .int v3, .int v4] [] mv_SH h := by
  intro n
  induction n with
  | zero =>
    intro v1 v2 v3 v4 h hs
    unfold fX7_putAtFirstFree_2_b3 at hs
    exact (mv_sat_none hs).elim
  | succ n ih =>
    intro v1 v2 v3 v4 h hs
    unfold fX7_putAtFirstFree_2_b3 at hs
    refine mv_iload dX7_putAtFirstFree_3 rfl ?_
    refine mv_bipush 6 dX7_putAtFirstFree_5 (by decide) ?_
    refine mv_icmp_ge dX7_putAtFirstFree_7 hs (fun _ hs => ?_) (fun _ hs => ?_)
    · refine mv_aload_n dX7_putAtFirstFree_10 rfl ?_
      refine mv_iload dX7_putAtFirstFree_11 rfl ?_
      refine mv_cV (st := []) dX7_putAtFirstFree_13 kk_X7_36 (TX7_has_2 G d _ _ _ (mv_sat_bind hs)) so_2 vc_7 rfl rfl (Nat.le_of_ble_eq_true rfl) (by omega) rfl ⟨Nat.zero_le _, Nat.zero_le _⟩ (mv_ki fun r345 hs => ?_)
      refine mv_if_ne dX7_putAtFirstFree_16 hs (fun _ hs => ?_) (fun _ hs => ?_)
      · refine mv_aload_n dX7_putAtFirstFree_19 rfl ?_
        refine mv_iload dX7_putAtFirstFree_20 rfl ?_
        refine mv_iload_n dX7_putAtFirstFree_22 rfl ?_
        refine mv_iload_n dX7_putAtFirstFree_23 rfl ?_
        refine mv_iload_n dX7_putAtFirstFree_24 rfl ?_
        refine mv_cV (st := []) dX7_putAtFirstFree_25 kk_X7_39 (TX7_put_2 G d _ _ _ _ _ _ (mv_sat_bind hs)) so_2 vc_7 rfl rfl (Nat.le_of_ble_eq_true rfl) (by omega) rfl ⟨Nat.zero_le _, Nat.zero_le _⟩ (mv_kv fun r346 hs => ?_)
        exact mv_vret dX7_putAtFirstFree_28 rfl ⟨_, rfl, rfl, rfl, mv_sat_some hs⟩
      · refine mv_iinc (lv' := [.ref 2, .int v1, .int v2, .int v3, .int (v4 + 1)]) 1 dX7_putAtFirstFree_29 rfl (by decide) (Nat.le_of_ble_eq_true rfl) rfl rfl ?_
        refine mv_goto dX7_putAtFirstFree_32 ?_
        exact (ih _ _ _ _ _ hs)
    · exact mv_vret dX7_putAtFirstFree_35 rfl ⟨_, rfl, rfl, rfl, mv_sat_some hs⟩
noncomputable def fX7_putAtFirstFree_2 (p0 : Int32) (p1 : Int32) (p2 : Int32) (h : mv_H) : Option (mv_H) := fX7_putAtFirstFree_2_b3 mv_F p0 p1 p2 0 h
set_option maxRecDepth 100000 in
set_option maxHeartbeats 4000000 in
theorem TX7_putAtFirstFree_2 (G : mv_G) (d : Nat) (P : mv_H → Prop) (p0 : Int32) (p1 : Int32) (p2 : Int32) (h : mv_H) (hs : mv_sat (fX7_putAtFirstFree_2 p0 p1 p2 h) P) : mv_met G (d + 2) mX7_putAtFirstFree [.ref 2, .int p0, .int p1, .int p2] mv_SH h (mv_qv mv_SH P) := by
  unfold fX7_putAtFirstFree_2 at hs
  obtain ⟨D, hDe⟩ : ∃ D, D = d + 2 := ⟨_, rfl⟩
  rw [← hDe]
  have hD : d + 2 ≤ D := by omega
  refine mv_enter (lv := [.ref 2, .int p0, .int p1, .int p2, .float 0]) 1 (by decide) (by decide +kernel) rfl (Nat.le_of_ble_eq_true rfl) ?_
  refine mv_iconst 0 dX7_putAtFirstFree_0 (by decide) ?_
  refine mv_istore (lv' := [.ref 2, .int p0, .int p1, .int p2, .int 0]) dX7_putAtFirstFree_1 (Nat.le_of_ble_eq_true rfl) rfl rfl ?_
  exact (BX7_putAtFirstFree_2_b3 G d D (by omega) P _ _ _ _ _ _ hs)
noncomputable def fX4_endPart_34_1_b67 (s0 : Int32) (s1 : Int32) (s2 : Int32) (h : mv_H) : Option (mv_H) := (fX7_putAtFirstFree_2 s2 s1 s0 h).bind fun r347 => fX4_endPart_34_1_b70 r347
set_option maxRecDepth 100000 in
set_option maxHeartbeats 4000000 in
theorem BX4_endPart_34_1_b67 (G : mv_G) (d D : Nat) (hD : d + 3 ≤ D) (P : mv_H → Prop) (s0 : Int32) (s1 : Int32) (s2 : Int32) (h : mv_H) (hs : mv_sat (fX4_endPart_34_1_b67 s0 s1 s2 h) P) : mv_MW G mX4_endPart (mv_rm D mX4_endPart) (mv_Zf G mX4_endPart (mv_qv mv_SH P)) 0 0 67 [.ref 34, .float 0] [.int s0, .int s1, .int s2, .ref 2] mv_SH h := by
  unfold fX4_endPart_34_1_b67 at hs
  refine mv_cV (st := []) dX4_endPart_67 kk_X4_79 (TX7_putAtFirstFree_2 G d _ _ _ _ _ (mv_sat_bind hs)) so_2 vc_7 rfl rfl (Nat.le_of_ble_eq_true rfl) (by omega) rfl ⟨Nat.zero_le _, Nat.zero_le _⟩ (mv_kv fun r347 hs => ?_)
  exact (BX4_endPart_34_1_b70 G d D (by omega) P _ hs)
noncomputable def fX7_putAtFirstFree_4_b3 : Nat → Int32 → Int32 → Int32 → Int32 → mv_H → Option (mv_H)
  | 0, _, _, _, _, _ => none
  | n + 1, v1, v2, v3, v4, h => if v4 < 6 then ((fX7_has_4 v4 h).bind fun r348 => if r348 = 0 then ((fX7_put_4 v4 v1 v2 v3 h).bind fun r349 => some r349) else (fX7_putAtFirstFree_4_b3 n) v1 v2 v3 (v4 + 1) h) else some h
set_option maxRecDepth 100000 in
set_option maxHeartbeats 4000000 in
theorem BX7_putAtFirstFree_4_b3 (G : mv_G) (d D : Nat) (hD : d + 2 ≤ D) (P : mv_H → Prop) : ∀ (n : Nat) (v1 : Int32) (v2 : Int32) (v3 : Int32) (v4 : Int32) (h : mv_H), mv_sat (fX7_putAtFirstFree_4_b3 n v1 v2 v3 v4 h) P → mv_MW G mX7_putAtFirstFree (mv_rm D mX7_putAtFirstFree) (mv_Zf G mX7_putAtFirstFree (mv_qv mv_SH P)) 0 0 3 [.ref 4, .int v1, .int v2, .int v3, .int v4] [] mv_SH h := by
  intro n
  induction n with
  | zero =>
    intro v1 v2 v3 v4 h hs
    unfold fX7_putAtFirstFree_4_b3 at hs
    exact (mv_sat_none hs).elim
  | succ n ih =>
    intro v1 v2 v3 v4 h hs
    unfold fX7_putAtFirstFree_4_b3 at hs
    refine mv_iload dX7_putAtFirstFree_3 rfl ?_
    refine mv_bipush 6 dX7_putAtFirstFree_5 (by decide) ?_
    refine mv_icmp_ge dX7_putAtFirstFree_7 hs (fun _ hs => ?_) (fun _ hs => ?_)
    · refine mv_aload_n dX7_putAtFirstFree_10 rfl ?_
      refine mv_iload dX7_putAtFirstFree_11 rfl ?_
      refine mv_cV (st := []) dX7_putAtFirstFree_13 kk_X7_36 (TX7_has_4 G d _ _ _ (mv_sat_bind hs)) so_4 vc_7 rfl rfl (Nat.le_of_ble_eq_true rfl) (by omega) rfl ⟨Nat.zero_le _, Nat.zero_le _⟩ (mv_ki fun r348 hs => ?_)
      refine mv_if_ne dX7_putAtFirstFree_16 hs (fun _ hs => ?_) (fun _ hs => ?_)
      · refine mv_aload_n dX7_putAtFirstFree_19 rfl ?_
        refine mv_iload dX7_putAtFirstFree_20 rfl ?_
        refine mv_iload_n dX7_putAtFirstFree_22 rfl ?_
        refine mv_iload_n dX7_putAtFirstFree_23 rfl ?_
        refine mv_iload_n dX7_putAtFirstFree_24 rfl ?_
        refine mv_cV (st := []) dX7_putAtFirstFree_25 kk_X7_39 (TX7_put_4 G d _ _ _ _ _ _ (mv_sat_bind hs)) so_4 vc_7 rfl rfl (Nat.le_of_ble_eq_true rfl) (by omega) rfl ⟨Nat.zero_le _, Nat.zero_le _⟩ (mv_kv fun r349 hs => ?_)
        exact mv_vret dX7_putAtFirstFree_28 rfl ⟨_, rfl, rfl, rfl, mv_sat_some hs⟩
      · refine mv_iinc (lv' := [.ref 4, .int v1, .int v2, .int v3, .int (v4 + 1)]) 1 dX7_putAtFirstFree_29 rfl (by decide) (Nat.le_of_ble_eq_true rfl) rfl rfl ?_
        refine mv_goto dX7_putAtFirstFree_32 ?_
        exact (ih _ _ _ _ _ hs)
    · exact mv_vret dX7_putAtFirstFree_35 rfl ⟨_, rfl, rfl, rfl, mv_sat_some hs⟩
noncomputable def fX7_putAtFirstFree_4 (p0 : Int32) (p1 : Int32) (p2 : Int32) (h : mv_H) : Option (mv_H) := fX7_putAtFirstFree_4_b3 mv_F p0 p1 p2 0 h
set_option maxRecDepth 100000 in
set_option maxHeartbeats 4000000 in
theorem TX7_putAtFirstFree_4 (G : mv_G) (d : Nat) (P : mv_H → Prop) (p0 : Int32) (p1 : Int32) (p2 : Int32) (h : mv_H) (hs : mv_sat (fX7_putAtFirstFree_4 p0 p1 p2 h) P) : mv_met G (d + 2) mX7_putAtFirstFree [.ref 4, .int p0, .int p1, .int p2] mv_SH h (mv_qv mv_SH P) := by
  unfold fX7_putAtFirstFree_4 at hs
  obtain ⟨D, hDe⟩ : ∃ D, D = d + 2 := ⟨_, rfl⟩
  rw [← hDe]
  have hD : d + 2 ≤ D := by omega
  refine mv_enter (lv := [.ref 4, .int p0, .int p1, .int p2, .float 0]) 1 (by decide) (by decide +kernel) rfl (Nat.le_of_ble_eq_true rfl) ?_
  refine mv_iconst 0 dX7_putAtFirstFree_0 (by decide) ?_
  refine mv_istore (lv' := [.ref 4, .int p0, .int p1, .int p2, .int 0]) dX7_putAtFirstFree_1 (Nat.le_of_ble_eq_true rfl) rfl rfl ?_
  exact (BX7_putAtFirstFree_4_b3 G d D (by omega) P _ _ _ _ _ _ hs)
noncomputable def fX4_endPart_34_1_b67_2 (s0 : Int32) (s1 : Int32) (s2 : Int32) (h : mv_H) : Option (mv_H) := (fX7_putAtFirstFree_4 s2 s1 s0 h).bind fun r350 => fX4_endPart_34_1_b70 r350
set_option maxRecDepth 100000 in
set_option maxHeartbeats 4000000 in
theorem BX4_endPart_34_1_b67_2 (G : mv_G) (d D : Nat) (hD : d + 3 ≤ D) (P : mv_H → Prop) (s0 : Int32) (s1 : Int32) (s2 : Int32) (h : mv_H) (hs : mv_sat (fX4_endPart_34_1_b67_2 s0 s1 s2 h) P) : mv_MW G mX4_endPart (mv_rm D mX4_endPart) (mv_Zf G mX4_endPart (mv_qv mv_SH P)) 0 0 67 [.ref 34, .float 0] [.int s0, .int s1, .int s2, .ref 4] mv_SH h := by
  unfold fX4_endPart_34_1_b67_2 at hs
  refine mv_cV (st := []) dX4_endPart_67 kk_X4_79 (TX7_putAtFirstFree_4 G d _ _ _ _ _ (mv_sat_bind hs)) so_4 vc_7 rfl rfl (Nat.le_of_ble_eq_true rfl) (by omega) rfl ⟨Nat.zero_le _, Nat.zero_le _⟩ (mv_kv fun r350 hs => ?_)
  exact (BX4_endPart_34_1_b70 G d D (by omega) P _ hs)
noncomputable def fX7_putAtFirstFree_6_b3 : Nat → Int32 → Int32 → Int32 → Int32 → mv_H → Option (mv_H)
  | 0, _, _, _, _, _ => none
  | n + 1, v1, v2, v3, v4, h => if v4 < 6 then ((fX7_has_6 v4 h).bind fun r351 => if r351 = 0 then ((fX7_put_6 v4 v1 v2 v3 h).bind fun r352 => some r352) else (fX7_putAtFirstFree_6_b3 n) v1 v2 v3 (v4 + 1) h) else some h
set_option maxRecDepth 100000 in
set_option maxHeartbeats 4000000 in
theorem BX7_putAtFirstFree_6_b3 (G : mv_G) (d D : Nat) (hD : d + 2 ≤ D) (P : mv_H → Prop) : ∀ (n : Nat) (v1 : Int32) (v2 : Int32) (v3 : Int32) (v4 : Int32) (h : mv_H), mv_sat (fX7_putAtFirstFree_6_b3 n v1 v2 v3 v4 h) P → mv_MW G mX7_putAtFirstFree (mv_rm D mX7_putAtFirstFree) (mv_Zf G mX7_putAtFirstFree (mv_qv mv_SH P)) 0 0 3 [.ref 6, .int v1, .int v2, .int v3, .int v4] [] mv_SH h := by
  intro n
  induction n with
  | zero =>
    intro v1 v2 v3 v4 h hs
    unfold fX7_putAtFirstFree_6_b3 at hs
    exact (mv_sat_none hs).elim
  | succ n ih =>
    intro v1 v2 v3 v4 h hs
    unfold fX7_putAtFirstFree_6_b3 at hs
    refine mv_iload dX7_putAtFirstFree_3 rfl ?_
    refine mv_bipush 6 dX7_putAtFirstFree_5 (by decide) ?_
    refine mv_icmp_ge dX7_putAtFirstFree_7 hs (fun _ hs => ?_) (fun _ hs => ?_)
    · refine mv_aload_n dX7_putAtFirstFree_10 rfl ?_
      refine mv_iload dX7_putAtFirstFree_11 rfl ?_
      refine mv_cV (st := []) dX7_putAtFirstFree_13 kk_X7_36 (TX7_has_6 G d _ _ _ (mv_sat_bind hs)) so_6 vc_7 rfl rfl (Nat.le_of_ble_eq_true rfl) (by omega) rfl ⟨Nat.zero_le _, Nat.zero_le _⟩ (mv_ki fun r351 hs => ?_)
      refine mv_if_ne dX7_putAtFirstFree_16 hs (fun _ hs => ?_) (fun _ hs => ?_)
      · refine mv_aload_n dX7_putAtFirstFree_19 rfl ?_
        refine mv_iload dX7_putAtFirstFree_20 rfl ?_
        refine mv_iload_n dX7_putAtFirstFree_22 rfl ?_
        refine mv_iload_n dX7_putAtFirstFree_23 rfl ?_
        refine mv_iload_n dX7_putAtFirstFree_24 rfl ?_
        refine mv_cV (st := []) dX7_putAtFirstFree_25 kk_X7_39 (TX7_put_6 G d _ _ _ _ _ _ (mv_sat_bind hs)) so_6 vc_7 rfl rfl (Nat.le_of_ble_eq_true rfl) (by omega) rfl ⟨Nat.zero_le _, Nat.zero_le _⟩ (mv_kv fun r352 hs => ?_)
        exact mv_vret dX7_putAtFirstFree_28 rfl ⟨_, rfl, rfl, rfl, mv_sat_some hs⟩
      · refine mv_iinc (lv' := [.ref 6, .int v1, .int v2, .int v3, .int (v4 + 1)]) 1 dX7_putAtFirstFree_29 rfl (by decide) (Nat.le_of_ble_eq_true rfl) rfl rfl ?_
        refine mv_goto dX7_putAtFirstFree_32 ?_
        exact (ih _ _ _ _ _ hs)
    · exact mv_vret dX7_putAtFirstFree_35 rfl ⟨_, rfl, rfl, rfl, mv_sat_some hs⟩
noncomputable def fX7_putAtFirstFree_6 (p0 : Int32) (p1 : Int32) (p2 : Int32) (h : mv_H) : Option (mv_H) := fX7_putAtFirstFree_6_b3 mv_F p0 p1 p2 0 h
set_option maxRecDepth 100000 in
set_option maxHeartbeats 4000000 in
theorem TX7_putAtFirstFree_6 (G : mv_G) (d : Nat) (P : mv_H → Prop) (p0 : Int32) (p1 : Int32) (p2 : Int32) (h : mv_H) (hs : mv_sat (fX7_putAtFirstFree_6 p0 p1 p2 h) P) : mv_met G (d + 2) mX7_putAtFirstFree [.ref 6, .int p0, .int p1, .int p2] mv_SH h (mv_qv mv_SH P) := by
  unfold fX7_putAtFirstFree_6 at hs
  obtain ⟨D, hDe⟩ : ∃ D, D = d + 2 := ⟨_, rfl⟩
  rw [← hDe]
  have hD : d + 2 ≤ D := by omega
  refine mv_enter (lv := [.ref 6, .int p0, .int p1, .int p2, .float 0]) 1 (by decide) (by decide +kernel) rfl (Nat.le_of_ble_eq_true rfl) ?_
  refine mv_iconst 0 dX7_putAtFirstFree_0 (by decide) ?_
  refine mv_istore (lv' := [.ref 6, .int p0, .int p1, .int p2, .int 0]) dX7_putAtFirstFree_1 (Nat.le_of_ble_eq_true rfl) rfl rfl ?_
  exact (BX7_putAtFirstFree_6_b3 G d D (by omega) P _ _ _ _ _ _ hs)
noncomputable def fX4_endPart_34_1_b67_3 (s0 : Int32) (s1 : Int32) (s2 : Int32) (h : mv_H) : Option (mv_H) := (fX7_putAtFirstFree_6 s2 s1 s0 h).bind fun r353 => fX4_endPart_34_1_b70 r353
set_option maxRecDepth 100000 in
set_option maxHeartbeats 4000000 in
theorem BX4_endPart_34_1_b67_3 (G : mv_G) (d D : Nat) (hD : d + 3 ≤ D) (P : mv_H → Prop) (s0 : Int32) (s1 : Int32) (s2 : Int32) (h : mv_H) (hs : mv_sat (fX4_endPart_34_1_b67_3 s0 s1 s2 h) P) : mv_MW G mX4_endPart (mv_rm D mX4_endPart) (mv_Zf G mX4_endPart (mv_qv mv_SH P)) 0 0 67 [.ref 34, .float 0] [.int s0, .int s1, .int s2, .ref 6] mv_SH h := by
  unfold fX4_endPart_34_1_b67_3 at hs
  refine mv_cV (st := []) dX4_endPart_67 kk_X4_79 (TX7_putAtFirstFree_6 G d _ _ _ _ _ (mv_sat_bind hs)) so_6 vc_7 rfl rfl (Nat.le_of_ble_eq_true rfl) (by omega) rfl ⟨Nat.zero_le _, Nat.zero_le _⟩ (mv_kv fun r353 hs => ?_)
  exact (BX4_endPart_34_1_b70 G d D (by omega) P _ hs)
noncomputable def fX4_endPart_34_1 (h : mv_H) : Option (mv_H) := (fX9_isWithin (h 34 2) (0 : Int32) (2 : Int32)).bind fun r341 => if r341 = 0 then fX4_endPart_34_1_b70 h else if mv_in (h 34 2) 3 then (if mv_in (h 34 2) 3 then mv_let (mv_u h 37 (h 34 2).toNatClampNeg ((h 37 (h 34 2).toNatClampNeg) + 1)) fun h343 : mv_H => ((fX1_shelf_1 (h343 34 2) h343).bind fun r344 => if r344 = 2 then (if mv_in 0 3 then (if mv_in 1 3 then (if (h343 34 2) = 2 then fX4_endPart_34_1_b67 0 (h343 36 (1 : Int32).toNatClampNeg) (h343 36 (0 : Int32).toNatClampNeg) h343 else if mv_in 2 3 then (fX4_endPart_34_1_b67 (h343 36 (2 : Int32).toNatClampNeg) (h343 36 (1 : Int32).toNatClampNeg) (h343 36 (0 : Int32).toNatClampNeg) h343) else none) else none) else none) else if r344 = 4 then (if mv_in 0 3 then (if mv_in 1 3 then (if (h343 34 2) = 2 then fX4_endPart_34_1_b67_2 0 (h343 36 (1 : Int32).toNatClampNeg) (h343 36 (0 : Int32).toNatClampNeg) h343 else if mv_in 2 3 then (fX4_endPart_34_1_b67_2 (h343 36 (2 : Int32).toNatClampNeg) (h343 36 (1 : Int32).toNatClampNeg) (h343 36 (0 : Int32).toNatClampNeg) h343) else none) else none) else none) else if r344 = 6 then (if mv_in 0 3 then (if mv_in 1 3 then (if (h343 34 2) = 2 then fX4_endPart_34_1_b67_3 0 (h343 36 (1 : Int32).toNatClampNeg) (h343 36 (0 : Int32).toNatClampNeg) h343 else if mv_in 2 3 then (fX4_endPart_34_1_b67_3 (h343 36 (2 : Int32).toNatClampNeg) (h343 36 (1 : Int32).toNatClampNeg) (h343 36 (0 : Int32).toNatClampNeg) h343) else none) else none) else none) else none) else none) else none
set_option maxRecDepth 100000 in
set_option maxHeartbeats 4000000 in
theorem TX4_endPart_34_1 (G : mv_G) (d : Nat) (P : mv_H → Prop) (h : mv_H) (hs : mv_sat (fX4_endPart_34_1 h) P) : mv_met G (d + 3) mX4_endPart [.ref 34, .ref 1] mv_SH h (mv_qv mv_SH P) := by
  unfold fX4_endPart_34_1 at hs
  obtain ⟨D, hDe⟩ : ∃ D, D = d + 3 := ⟨_, rfl⟩
  rw [← hDe]
  have hD : d + 3 ≤ D := by omega
  refine mv_enter (lv := [.ref 34, .ref 1]) 0 (by decide) (by decide +kernel) rfl (Nat.le_of_ble_eq_true rfl) ?_
  refine mv_aload_n dX4_endPart_0 rfl ?_
  refine mv_geti dX4_endPart_1 kf_X4_15 gf_34_2 ?_
  refine mv_iconst 0 dX4_endPart_4 (by decide) ?_
  refine mv_iconst 2 dX4_endPart_5 (by decide) ?_
  refine mv_cS (st := []) dX4_endPart_6 kk_X4_53 (TX9_isWithin G d _ _ _ _ _ (mv_sat_bind hs)) rfl rfl (Nat.le_of_ble_eq_true rfl) (by omega) rfl ⟨Nat.zero_le _, Nat.zero_le _⟩ (mv_ki fun r341 hs => ?_)
  refine mv_if_eq dX4_endPart_9 hs (fun _ hs => ?_) (fun _ hs => ?_)
  · exact mv_weak (lv' := [.ref 34, .float 0]) (mv_s (mv_k mv_n)) (BX4_endPart_34_1_b70 G d D (by omega) P _ hs)
  · refine mv_aload_n dX4_endPart_12 rfl ?_
    refine mv_getr dX4_endPart_13 kf_X4_22 gf_34_8 ?_
    refine mv_aload_n dX4_endPart_16 rfl ?_
    refine mv_geti dX4_endPart_17 kf_X4_15 gf_34_2 ?_
    refine mv_dup2 dX4_endPart_20 rfl rfl ?_
    refine mv_iaload dX4_endPart_21 so_37 hs (fun hs => ?_)
    refine mv_iconst 1 dX4_endPart_22 (by decide) ?_
    refine mv_iadd dX4_endPart_23 ?_
    refine mv_iastore dX4_endPart_24 so_37 hs (fun hs => ?_)
    refine mv_nameH hs (fun h343 hs => ?_)
    refine mv_aload_n dX4_endPart_25 rfl ?_
    refine mv_ifnullR dX4_endPart_26 ?_
    refine mv_aload_n dX4_endPart_29 rfl ?_
    refine mv_aload_n dX4_endPart_30 rfl ?_
    refine mv_geti dX4_endPart_31 kf_X4_15 gf_34_2 ?_
    refine mv_cV (st := []) dX4_endPart_34 kk_X4_28 (TX1_shelf_1 G d _ _ _ (mv_sat_bind hs)) so_1 vc_1 rfl rfl (Nat.le_of_ble_eq_true rfl) (by omega) rfl ⟨Nat.zero_le _, Nat.zero_le _⟩ (mv_kr fun r344 hs => ?_)
    refine mv_case hs (fun e hsn => ?_) (fun _ hs => ?_)
    · subst e
      have hs := hsn
      refine mv_aload_n dX4_endPart_37 rfl ?_
      refine mv_getr dX4_endPart_38 kf_X4_19 gf_34_7 ?_
      refine mv_iconst 0 dX4_endPart_41 (by decide) ?_
      refine mv_iaload dX4_endPart_42 so_36 hs (fun hs => ?_)
      refine mv_aload_n dX4_endPart_43 rfl ?_
      refine mv_getr dX4_endPart_44 kf_X4_19 gf_34_7 ?_
      refine mv_iconst 1 dX4_endPart_47 (by decide) ?_
      refine mv_iaload dX4_endPart_48 so_36 hs (fun hs => ?_)
      refine mv_aload_n dX4_endPart_49 rfl ?_
      refine mv_geti dX4_endPart_50 kf_X4_15 gf_34_2 ?_
      refine mv_iconst 2 dX4_endPart_53 (by decide) ?_
      refine mv_icmp_ne dX4_endPart_54 hs (fun _ hs => ?_) (fun _ hs => ?_)
      · refine mv_iconst 0 dX4_endPart_57 (by decide) ?_
        refine mv_goto dX4_endPart_58 ?_
        exact mv_weak (lv' := [.ref 34, .float 0]) (mv_s (mv_k mv_n)) (BX4_endPart_34_1_b67 G d D (by omega) P _ _ _ _ hs)
      · refine mv_aload_n dX4_endPart_61 rfl ?_
        refine mv_getr dX4_endPart_62 kf_X4_19 gf_34_7 ?_
        refine mv_iconst 2 dX4_endPart_65 (by decide) ?_
        refine mv_iaload dX4_endPart_66 so_36 hs (fun hs => ?_)
        exact mv_weak (lv' := [.ref 34, .float 0]) (mv_s (mv_k mv_n)) (BX4_endPart_34_1_b67 G d D (by omega) P _ _ _ _ hs)
    refine mv_case hs (fun e hsn => ?_) (fun _ hs => ?_)
    · subst e
      have hs := hsn
      refine mv_aload_n dX4_endPart_37 rfl ?_
      refine mv_getr dX4_endPart_38 kf_X4_19 gf_34_7 ?_
      refine mv_iconst 0 dX4_endPart_41 (by decide) ?_
      refine mv_iaload dX4_endPart_42 so_36 hs (fun hs => ?_)
      refine mv_aload_n dX4_endPart_43 rfl ?_
      refine mv_getr dX4_endPart_44 kf_X4_19 gf_34_7 ?_
      refine mv_iconst 1 dX4_endPart_47 (by decide) ?_
      refine mv_iaload dX4_endPart_48 so_36 hs (fun hs => ?_)
      refine mv_aload_n dX4_endPart_49 rfl ?_
      refine mv_geti dX4_endPart_50 kf_X4_15 gf_34_2 ?_
      refine mv_iconst 2 dX4_endPart_53 (by decide) ?_
      refine mv_icmp_ne dX4_endPart_54 hs (fun _ hs => ?_) (fun _ hs => ?_)
      · refine mv_iconst 0 dX4_endPart_57 (by decide) ?_
        refine mv_goto dX4_endPart_58 ?_
        exact mv_weak (lv' := [.ref 34, .float 0]) (mv_s (mv_k mv_n)) (BX4_endPart_34_1_b67_2 G d D (by omega) P _ _ _ _ hs)
      · refine mv_aload_n dX4_endPart_61 rfl ?_
        refine mv_getr dX4_endPart_62 kf_X4_19 gf_34_7 ?_
        refine mv_iconst 2 dX4_endPart_65 (by decide) ?_
        refine mv_iaload dX4_endPart_66 so_36 hs (fun hs => ?_)
        exact mv_weak (lv' := [.ref 34, .float 0]) (mv_s (mv_k mv_n)) (BX4_endPart_34_1_b67_2 G d D (by omega) P _ _ _ _ hs)
    refine mv_case hs (fun e hsn => ?_) (fun _ hs => ?_)
    · subst e
      have hs := hsn
      refine mv_aload_n dX4_endPart_37 rfl ?_
      refine mv_getr dX4_endPart_38 kf_X4_19 gf_34_7 ?_
      refine mv_iconst 0 dX4_endPart_41 (by decide) ?_
      refine mv_iaload dX4_endPart_42 so_36 hs (fun hs => ?_)
      refine mv_aload_n dX4_endPart_43 rfl ?_
      refine mv_getr dX4_endPart_44 kf_X4_19 gf_34_7 ?_
      refine mv_iconst 1 dX4_endPart_47 (by decide) ?_
      refine mv_iaload dX4_endPart_48 so_36 hs (fun hs => ?_)
      refine mv_aload_n dX4_endPart_49 rfl ?_
      refine mv_geti dX4_endPart_50 kf_X4_15 gf_34_2 ?_
      refine mv_iconst 2 dX4_endPart_53 (by decide) ?_
      refine mv_icmp_ne dX4_endPart_54 hs (fun _ hs => ?_) (fun _ hs => ?_)
      · refine mv_iconst 0 dX4_endPart_57 (by decide) ?_
        refine mv_goto dX4_endPart_58 ?_
        exact mv_weak (lv' := [.ref 34, .float 0]) (mv_s (mv_k mv_n)) (BX4_endPart_34_1_b67_3 G d D (by omega) P _ _ _ _ hs)
      · refine mv_aload_n dX4_endPart_61 rfl ?_
        refine mv_getr dX4_endPart_62 kf_X4_19 gf_34_7 ?_
        refine mv_iconst 2 dX4_endPart_65 (by decide) ?_
        refine mv_iaload dX4_endPart_66 so_36 hs (fun hs => ?_)
        exact mv_weak (lv' := [.ref 34, .float 0]) (mv_s (mv_k mv_n)) (BX4_endPart_34_1_b67_3 G d D (by omega) P _ _ _ _ hs)
    exact (mv_sat_none hs).elim
noncomputable def fX4_scan_34_1_b51 (k6 : Int32 → mv_H → Option (Int32 × mv_H)) (v2 : Int32) (h : mv_H) : Option (Int32 × mv_H) := k6 (v2 + 1) h
set_option maxRecDepth 100000 in
set_option maxHeartbeats 4000000 in
theorem BX4_scan_34_1_b51 (G : mv_G) (d D : Nat) (hD : d + 0 ≤ D) (P : Int32 × mv_H → Prop) (k6 : Int32 → mv_H → Option (Int32 × mv_H)) (hk6 : ∀ (v2 : Int32) (h : mv_H), mv_sat (k6 v2 h) P → mv_MW G mX4_scan (mv_rm D mX4_scan) (mv_Zf G mX4_scan (mv_qI mv_SH P)) 0 0 6 [.ref 34, .ref 1, .int v2] [] mv_SH h) (v2 : Int32) (h : mv_H) (hs : mv_sat (fX4_scan_34_1_b51 k6 v2 h) P) : mv_MW G mX4_scan (mv_rm D mX4_scan) (mv_Zf G mX4_scan (mv_qI mv_SH P)) 0 0 51 [.ref 34, .ref 1, .int v2] [] mv_SH h := by
  unfold fX4_scan_34_1_b51 at hs
  refine mv_iinc (lv' := [.ref 34, .ref 1, .int (v2 + 1)]) 1 dX4_scan_51 rfl (by decide) (Nat.le_of_ble_eq_true rfl) rfl rfl ?_
  refine mv_goto dX4_scan_54 ?_
  exact (hk6 _ _ hs)
noncomputable def fX4_scan_34_1_b57 (h : mv_H) : Option (Int32 × mv_H) := if (h 34 2) = (-1) then some ((-6), h) else some (h 34 1, h)
set_option maxRecDepth 100000 in
set_option maxHeartbeats 4000000 in
theorem BX4_scan_34_1_b57 (G : mv_G) (d D : Nat) (hD : d + 0 ≤ D) (P : Int32 × mv_H → Prop) (h : mv_H) (hs : mv_sat (fX4_scan_34_1_b57 h) P) : mv_MW G mX4_scan (mv_rm D mX4_scan) (mv_Zf G mX4_scan (mv_qI mv_SH P)) 0 0 57 [.ref 34, .float 0, .float 0] [] mv_SH h := by
  unfold fX4_scan_34_1_b57 at hs
  refine mv_aload_n dX4_scan_57 rfl ?_
  refine mv_geti dX4_scan_58 kf_X4_15 gf_34_2 ?_
  refine mv_iconst (-1) dX4_scan_61 (by decide) ?_
  refine mv_icmp_ne dX4_scan_62 hs (fun _ hs => ?_) (fun _ hs => ?_)
  · refine mv_bipush (-6) dX4_scan_65 (by decide) ?_
    refine mv_goto dX4_scan_67 ?_
    exact mv_iret dX4_scan_74 rfl ⟨((-6), h), rfl, rfl, rfl, mv_sat_some hs⟩
  · refine mv_aload_n dX4_scan_70 rfl ?_
    refine mv_geti dX4_scan_71 kf_X4_25 gf_34_1 ?_
    exact mv_iret dX4_scan_74 rfl ⟨(h 34 1, h), rfl, rfl, rfl, mv_sat_some hs⟩
noncomputable def fX4_scan_34_1_b6 : Nat → Int32 → mv_H → Option (Int32 × mv_H)
  | 0, _, _ => none
  | n + 1, v2, h => if v2 < (h 34 1) then (if v2 < 60 then (if mv_in v2 60 then ((fX4_accepts_34 (h 35 v2.toNatClampNeg) h).bind fun r340 => if r340.1 = 0 then some (v2, r340.2) else if mv_in v2 60 then (if (r340.2 35 v2.toNatClampNeg) = 59 then ((fX4_endPart_34_1 r340.2).bind fun r354 => fX4_scan_34_1_b51 (fX4_scan_34_1_b6 n) v2 r354) else fX4_scan_34_1_b51 (fX4_scan_34_1_b6 n) v2 r340.2) else none) else none) else fX4_scan_34_1_b57 h) else fX4_scan_34_1_b57 h
set_option maxRecDepth 100000 in
set_option maxHeartbeats 4000000 in
theorem BX4_scan_34_1_b6 (G : mv_G) (d D : Nat) (hD : d + 4 ≤ D) (P : Int32 × mv_H → Prop) : ∀ (n : Nat) (v2 : Int32) (h : mv_H), mv_sat (fX4_scan_34_1_b6 n v2 h) P → mv_MW G mX4_scan (mv_rm D mX4_scan) (mv_Zf G mX4_scan (mv_qI mv_SH P)) 0 0 6 [.ref 34, .ref 1, .int v2] [] mv_SH h := by
  intro n
  induction n with
  | zero =>
    intro v2 h hs
    unfold fX4_scan_34_1_b6 at hs
    exact (mv_sat_none hs).elim
  | succ n ih =>
    intro v2 h hs
    unfold fX4_scan_34_1_b6 at hs
    refine mv_iload_n dX4_scan_6 rfl ?_
    refine mv_aload_n dX4_scan_7 rfl ?_
    refine mv_geti dX4_scan_8 kf_X4_25 gf_34_1 ?_
    refine mv_icmp_ge dX4_scan_11 hs (fun _ hs => ?_) (fun _ hs => ?_)
    · refine mv_iload_n dX4_scan_14 rfl ?_
      refine mv_bipush 60 dX4_scan_15 (by decide) ?_
      refine mv_icmp_ge dX4_scan_17 hs (fun _ hs => ?_) (fun _ hs => ?_)
      · refine mv_aload_n dX4_scan_20 rfl ?_
        refine mv_aload_n dX4_scan_21 rfl ?_
        refine mv_getr dX4_scan_22 kf_X4_11 gf_34_0 ?_
        refine mv_iload_n dX4_scan_25 rfl ?_
        refine mv_iaload dX4_scan_26 so_35 hs (fun hs => ?_)
        refine mv_cV (st := []) dX4_scan_27 kk_X4_42 (TX4_accepts_34 G d _ _ _ (mv_sat_bind hs)) so_34 vc_4 rfl rfl (Nat.le_of_ble_eq_true rfl) (by omega) rfl ⟨Nat.zero_le _, Nat.zero_le _⟩ (mv_kI2 fun r340 hs => ?_)
        refine mv_if_ne dX4_scan_30 hs (fun _ hs => ?_) (fun _ hs => ?_)
        · refine mv_iload_n dX4_scan_33 rfl ?_
          exact mv_iret dX4_scan_34 rfl ⟨(v2, r340.2), rfl, rfl, rfl, mv_sat_some hs⟩
        · refine mv_aload_n dX4_scan_35 rfl ?_
          refine mv_getr dX4_scan_36 kf_X4_11 gf_34_0 ?_
          refine mv_iload_n dX4_scan_39 rfl ?_
          refine mv_iaload dX4_scan_40 so_35 hs (fun hs => ?_)
          refine mv_bipush 59 dX4_scan_41 (by decide) ?_
          refine mv_icmp_ne dX4_scan_43 hs (fun _ hs => ?_) (fun _ hs => ?_)
          · refine mv_aload_n dX4_scan_46 rfl ?_
            refine mv_aload_n dX4_scan_47 rfl ?_
            refine mv_cV (st := []) dX4_scan_48 kk_X4_46 (TX4_endPart_34_1 G d _ _ (mv_sat_bind hs)) so_34 vc_4 rfl rfl (Nat.le_of_ble_eq_true rfl) (by omega) rfl ⟨Nat.zero_le _, Nat.zero_le _⟩ (mv_kv fun r354 hs => ?_)
            exact (BX4_scan_34_1_b51 G d D (by omega) P _ ih _ _ hs)
          · exact (BX4_scan_34_1_b51 G d D (by omega) P _ ih _ _ hs)
      · exact mv_weak (lv' := [.ref 34, .float 0, .float 0]) (mv_s (mv_k (mv_k mv_n))) (BX4_scan_34_1_b57 G d D (by omega) P _ hs)
    · exact mv_weak (lv' := [.ref 34, .float 0, .float 0]) (mv_s (mv_k (mv_k mv_n))) (BX4_scan_34_1_b57 G d D (by omega) P _ hs)
noncomputable def fX4_scan_34_1 (h : mv_H) : Option (Int32 × mv_H) := (fX4_startList_34 h).bind fun r339 => fX4_scan_34_1_b6 mv_F 0 r339
set_option maxRecDepth 100000 in
set_option maxHeartbeats 4000000 in
theorem TX4_scan_34_1 (G : mv_G) (d : Nat) (P : Int32 × mv_H → Prop) (h : mv_H) (hs : mv_sat (fX4_scan_34_1 h) P) : mv_met G (d + 4) mX4_scan [.ref 34, .ref 1] mv_SH h (mv_qI mv_SH P) := by
  unfold fX4_scan_34_1 at hs
  obtain ⟨D, hDe⟩ : ∃ D, D = d + 4 := ⟨_, rfl⟩
  rw [← hDe]
  have hD : d + 4 ≤ D := by omega
  refine mv_enter (lv := [.ref 34, .ref 1, .float 0]) 1 (by decide) (by decide +kernel) rfl (Nat.le_of_ble_eq_true rfl) ?_
  refine mv_aload_n dX4_scan_0 rfl ?_
  refine mv_cV (st := []) dX4_scan_1 kk_X4_39 (TX4_startList_34 G d _ _ (mv_sat_bind hs)) so_34 vc_4 rfl rfl (Nat.le_of_ble_eq_true rfl) (by omega) rfl ⟨Nat.zero_le _, Nat.zero_le _⟩ (mv_kv fun r339 hs => ?_)
  refine mv_iconst 0 dX4_scan_4 (by decide) ?_
  refine mv_istore_n (lv' := [.ref 34, .ref 1, .int 0]) dX4_scan_5 (Nat.le_of_ble_eq_true rfl) rfl rfl ?_
  exact (BX4_scan_34_1_b6 G d D (by omega) P _ _ _ hs)
noncomputable def fX4_parts_34 (h : mv_H) : Option (Int32) := if mv_in 0 3 then (if mv_in 1 3 then (if mv_in 2 3 then (some (((h 37 (0 : Int32).toNatClampNeg) + (h 37 (1 : Int32).toNatClampNeg)) + (h 37 (2 : Int32).toNatClampNeg))) else none) else none) else none
set_option maxRecDepth 100000 in
set_option maxHeartbeats 4000000 in
theorem TX4_parts_34 (G : mv_G) (d : Nat) (P : Int32 → Prop) (h : mv_H) (hs : mv_sat (fX4_parts_34 h) P) : mv_met G (d + 0) mX4_parts [.ref 34] mv_SH h (mv_qi mv_SH h P) := by
  unfold fX4_parts_34 at hs
  obtain ⟨D, hDe⟩ : ∃ D, D = d + 0 := ⟨_, rfl⟩
  rw [← hDe]
  have hD : d + 0 ≤ D := by omega
  refine mv_enter (lv := [.ref 34]) 0 (by decide) (by decide +kernel) rfl (Nat.le_of_ble_eq_true rfl) ?_
  refine mv_aload_n dX4_parts_0 rfl ?_
  refine mv_getr dX4_parts_1 kf_X4_22 gf_34_8 ?_
  refine mv_iconst 0 dX4_parts_4 (by decide) ?_
  refine mv_iaload dX4_parts_5 so_37 hs (fun hs => ?_)
  refine mv_aload_n dX4_parts_6 rfl ?_
  refine mv_getr dX4_parts_7 kf_X4_22 gf_34_8 ?_
  refine mv_iconst 1 dX4_parts_10 (by decide) ?_
  refine mv_iaload dX4_parts_11 so_37 hs (fun hs => ?_)
  refine mv_iadd dX4_parts_12 ?_
  refine mv_aload_n dX4_parts_13 rfl ?_
  refine mv_getr dX4_parts_14 kf_X4_22 gf_34_8 ?_
  refine mv_iconst 2 dX4_parts_17 (by decide) ?_
  refine mv_iaload dX4_parts_18 so_37 hs (fun hs => ?_)
  refine mv_iadd dX4_parts_19 ?_
  exact mv_iret dX4_parts_20 rfl ⟨_, rfl, rfl, rfl, mv_sat_some hs⟩
noncomputable def fX9_lay_0 (h : mv_H) : Option (Int32 × mv_H) := (fX4_scan_34_N h).bind fun r333 => if r333.1 = (-6) then ((fX4_hasPlaceIn_34_1 r333.2).bind fun r338 => if r338 = 0 then some ((-4), r333.2) else (fX4_scan_34_1 r333.2).bind fun r355 => (fX4_parts_34 r355.2).bind fun r356 => (fX4_clear_34 r355.2).bind fun r357 => some (r356, r357)) else some ((-5), r333.2)
set_option maxRecDepth 100000 in
set_option maxHeartbeats 4000000 in
theorem TX9_lay_0 (G : mv_G) (d : Nat) (P : Int32 × mv_H → Prop) (h : mv_H) (hs : mv_sat (fX9_lay_0 h) P) : mv_met G (d + 5) mX9_lay [.ref 0] mv_SH h (mv_qI mv_SH P) := by
  unfold fX9_lay_0 at hs
  obtain ⟨D, hDe⟩ : ∃ D, D = d + 5 := ⟨_, rfl⟩
  rw [← hDe]
  have hD : d + 5 ≤ D := by omega
  refine mv_enter (lv := [.ref 0, .float 0]) 1 (by decide) (by decide +kernel) rfl (Nat.le_of_ble_eq_true rfl) ?_
  refine mv_aload_n dX9_lay_0 rfl ?_
  refine mv_getr dX9_lay_1 kf_X9_25 gf_0_4 ?_
  refine mv_null dX9_lay_4 ?_
  refine mv_cV (st := []) dX9_lay_5 kk_X9_129 (TX4_scan_34_N G d _ _ (mv_sat_bind hs)) so_34 vc_4 rfl rfl (Nat.le_of_ble_eq_true rfl) (by omega) rfl ⟨Nat.zero_le _, Nat.zero_le _⟩ (mv_kI2 fun r333 hs => ?_)
  refine mv_bipush (-6) dX9_lay_8 (by decide) ?_
  refine mv_icmp_eq dX9_lay_10 hs (fun _ hs => ?_) (fun _ hs => ?_)
  · refine mv_aload_n dX9_lay_16 rfl ?_
    refine mv_getr dX9_lay_17 kf_X9_25 gf_0_4 ?_
    refine mv_aload_n dX9_lay_20 rfl ?_
    refine mv_getr dX9_lay_21 kf_X9_10 gf_0_0 ?_
    refine mv_cV (st := []) dX9_lay_24 kk_X9_133 (TX4_hasPlaceIn_34_1 G d _ _ (mv_sat_bind hs)) so_34 vc_4 rfl rfl (Nat.le_of_ble_eq_true rfl) (by omega) rfl ⟨Nat.zero_le _, Nat.zero_le _⟩ (mv_ki fun r338 hs => ?_)
    refine mv_if_ne dX9_lay_27 hs (fun _ hs => ?_) (fun _ hs => ?_)
    · refine mv_bipush (-4) dX9_lay_30 (by decide) ?_
      exact mv_iret dX9_lay_32 rfl ⟨((-4), r333.2), rfl, rfl, rfl, mv_sat_some hs⟩
    · refine mv_aload_n dX9_lay_33 rfl ?_
      refine mv_getr dX9_lay_34 kf_X9_25 gf_0_4 ?_
      refine mv_aload_n dX9_lay_37 rfl ?_
      refine mv_getr dX9_lay_38 kf_X9_10 gf_0_0 ?_
      refine mv_cV (st := []) dX9_lay_41 kk_X9_129 (TX4_scan_34_1 G d _ _ (mv_sat_bind hs)) so_34 vc_4 rfl rfl (Nat.le_of_ble_eq_true rfl) (by omega) rfl ⟨Nat.zero_le _, Nat.zero_le _⟩ (mv_kI2 fun r355 hs => ?_)
      refine mv_pop dX9_lay_44 rfl ?_
      refine mv_aload_n dX9_lay_45 rfl ?_
      refine mv_getr dX9_lay_46 kf_X9_25 gf_0_4 ?_
      refine mv_cV (st := []) dX9_lay_49 kk_X9_137 (TX4_parts_34 G d _ _ (mv_sat_bind hs)) so_34 vc_4 rfl rfl (Nat.le_of_ble_eq_true rfl) (by omega) rfl ⟨Nat.zero_le _, Nat.zero_le _⟩ (mv_ki fun r356 hs => ?_)
      refine mv_istore_n (lv' := [.ref 0, .int r356]) dX9_lay_52 (Nat.le_of_ble_eq_true rfl) rfl rfl ?_
      refine mv_aload_n dX9_lay_53 rfl ?_
      refine mv_getr dX9_lay_54 kf_X9_25 gf_0_4 ?_
      refine mv_cV (st := []) dX9_lay_57 kk_X9_126 (TX4_clear_34 G d _ _ (mv_sat_bind hs)) so_34 vc_4 rfl rfl (Nat.le_of_ble_eq_true rfl) (by omega) rfl ⟨Nat.zero_le _, Nat.zero_le _⟩ (mv_kv fun r357 hs => ?_)
      refine mv_iload_n dX9_lay_60 rfl ?_
      exact mv_iret dX9_lay_61 rfl ⟨(r356, r357), rfl, rfl, rfl, mv_sat_some hs⟩
  · refine mv_bipush (-5) dX9_lay_13 (by decide) ?_
    exact mv_iret dX9_lay_15 rfl ⟨((-5), r333.2), rfl, rfl, rfl, mv_sat_some hs⟩
noncomputable def fX10_countOf_55_b28 (k4 : Int32 → Int32 → Int32 → mv_H → Option (Int32)) (v1 : Int32) (v3 : Int32) (s0 : Int32) (s1 : Int32) (h : mv_H) : Option (Int32) := mv_let (s1 + s0) fun x360 : Int32 => k4 v1 x360 (v3 + 1) h
set_option maxRecDepth 100000 in
set_option maxHeartbeats 4000000 in
theorem BX10_countOf_55_b28 (G : mv_G) (d D : Nat) (hD : d + 0 ≤ D) (P : Int32 → Prop) (k4 : Int32 → Int32 → Int32 → mv_H → Option (Int32)) (h : mv_H) (hk4 : ∀ (v1 : Int32) (v2 : Int32) (v3 : Int32), mv_sat (k4 v1 v2 v3 h) P → mv_MW G mX10_countOf (mv_rm D mX10_countOf) (mv_Zf G mX10_countOf (mv_qi mv_SH h P)) 0 0 4 [.ref 55, .int v1, .int v2, .int v3] [] mv_SH h) (v1 : Int32) (v3 : Int32) (s0 : Int32) (s1 : Int32) (hs : mv_sat (fX10_countOf_55_b28 k4 v1 v3 s0 s1 h) P) : mv_MW G mX10_countOf (mv_rm D mX10_countOf) (mv_Zf G mX10_countOf (mv_qi mv_SH h P)) 0 0 28 [.ref 55, .int v1, .float 0, .int v3] [.int s0, .int s1] mv_SH h := by
  unfold fX10_countOf_55_b28 at hs
  refine mv_iadd dX10_countOf_28 ?_
  refine mv_name hs (fun x360 hs => ?_)
  refine mv_istore_n (lv' := [.ref 55, .int v1, .int x360, .int v3]) dX10_countOf_29 (Nat.le_of_ble_eq_true rfl) rfl rfl ?_
  refine mv_iinc (lv' := [.ref 55, .int v1, .int x360, .int (v3 + 1)]) 1 dX10_countOf_30 rfl (by decide) (Nat.le_of_ble_eq_true rfl) rfl rfl ?_
  refine mv_goto dX10_countOf_33 ?_
  exact (hk4 _ _ _ hs)
noncomputable def fX10_countOf_55_b4 : Nat → Int32 → Int32 → Int32 → mv_H → Option (Int32)
  | 0, _, _, _, _ => none
  | n + 1, v1, v2, v3, h => if v3 < (h 55 19) then (if mv_in v3 60 then (if (h 63 v3.toNatClampNeg) = v1 then fX10_countOf_55_b28 (fX10_countOf_55_b4 n) v1 v3 1 v2 h else fX10_countOf_55_b28 (fX10_countOf_55_b4 n) v1 v3 0 v2 h) else none) else some v2
set_option maxRecDepth 100000 in
set_option maxHeartbeats 4000000 in
theorem BX10_countOf_55_b4 (G : mv_G) (d D : Nat) (hD : d + 0 ≤ D) (P : Int32 → Prop) (h : mv_H) : ∀ (n : Nat) (v1 : Int32) (v2 : Int32) (v3 : Int32), mv_sat (fX10_countOf_55_b4 n v1 v2 v3 h) P → mv_MW G mX10_countOf (mv_rm D mX10_countOf) (mv_Zf G mX10_countOf (mv_qi mv_SH h P)) 0 0 4 [.ref 55, .int v1, .int v2, .int v3] [] mv_SH h := by
  intro n
  induction n with
  | zero =>
    intro v1 v2 v3 hs
    unfold fX10_countOf_55_b4 at hs
    exact (mv_sat_none hs).elim
  | succ n ih =>
    intro v1 v2 v3 hs
    unfold fX10_countOf_55_b4 at hs
    refine mv_iload_n dX10_countOf_4 rfl ?_
    refine mv_aload_n dX10_countOf_5 rfl ?_
    refine mv_geti dX10_countOf_6 kf_X10_167 gf_55_19 ?_
    refine mv_icmp_ge dX10_countOf_9 hs (fun _ hs => ?_) (fun _ hs => ?_)
    · refine mv_iload_n dX10_countOf_12 rfl ?_
      refine mv_aload_n dX10_countOf_13 rfl ?_
      refine mv_getr dX10_countOf_14 kf_X10_31 gf_55_17 ?_
      refine mv_iload_n dX10_countOf_17 rfl ?_
      refine mv_iaload dX10_countOf_18 so_63 hs (fun hs => ?_)
      refine mv_iload_n dX10_countOf_19 rfl ?_
      refine mv_icmp_ne dX10_countOf_20 hs (fun _ hs => ?_) (fun _ hs => ?_)
      · refine mv_iconst 1 dX10_countOf_23 (by decide) ?_
        refine mv_goto dX10_countOf_24 ?_
        exact mv_weak (lv' := [.ref 55, .int v1, .float 0, .int v3]) (mv_s (mv_s (mv_k (mv_s mv_n)))) (BX10_countOf_55_b28 G d D (by omega) P _ _ ih _ _ _ _ hs)
      · refine mv_iconst 0 dX10_countOf_27 (by decide) ?_
        exact mv_weak (lv' := [.ref 55, .int v1, .float 0, .int v3]) (mv_s (mv_s (mv_k (mv_s mv_n)))) (BX10_countOf_55_b28 G d D (by omega) P _ _ ih _ _ _ _ hs)
    · refine mv_iload_n dX10_countOf_36 rfl ?_
      exact mv_iret dX10_countOf_37 rfl ⟨_, rfl, rfl, rfl, mv_sat_some hs⟩
noncomputable def fX10_countOf_55 (p0 : Int32) (h : mv_H) : Option (Int32) := fX10_countOf_55_b4 mv_F p0 0 0 h
set_option maxRecDepth 100000 in
set_option maxHeartbeats 4000000 in
theorem TX10_countOf_55 (G : mv_G) (d : Nat) (P : Int32 → Prop) (p0 : Int32) (h : mv_H) (hs : mv_sat (fX10_countOf_55 p0 h) P) : mv_met G (d + 0) mX10_countOf [.ref 55, .int p0] mv_SH h (mv_qi mv_SH h P) := by
  unfold fX10_countOf_55 at hs
  obtain ⟨D, hDe⟩ : ∃ D, D = d + 0 := ⟨_, rfl⟩
  rw [← hDe]
  have hD : d + 0 ≤ D := by omega
  refine mv_enter (lv := [.ref 55, .int p0, .float 0, .float 0]) 2 (by decide) (by decide +kernel) rfl (Nat.le_of_ble_eq_true rfl) ?_
  refine mv_iconst 0 dX10_countOf_0 (by decide) ?_
  refine mv_istore_n (lv' := [.ref 55, .int p0, .int 0, .float 0]) dX10_countOf_1 (Nat.le_of_ble_eq_true rfl) rfl rfl ?_
  refine mv_iconst 0 dX10_countOf_2 (by decide) ?_
  refine mv_istore_n (lv' := [.ref 55, .int p0, .int 0, .int 0]) dX10_countOf_3 (Nat.le_of_ble_eq_true rfl) rfl rfl ?_
  exact (BX10_countOf_55_b4 G d D (by omega) P _ _ _ _ _ hs)
noncomputable def fX10_freeOf_b2 : Nat → Int32 → Int32 → Option (Int32)
  | 0, _, _ => none
  | n + 1, v0, v1 => if ((v0 >>> (v1 &&& 31)) &&& 1) = 1 then (fX10_freeOf_b2 n) v0 (v1 + 1) else some v1
set_option maxRecDepth 100000 in
set_option maxHeartbeats 4000000 in
theorem BX10_freeOf_b2 (G : mv_G) (d D : Nat) (hD : d + 0 ≤ D) (P : Int32 → Prop) (h : mv_H) : ∀ (n : Nat) (v0 : Int32) (v1 : Int32), mv_sat (fX10_freeOf_b2 n v0 v1) P → mv_MW G mX10_freeOf (mv_rm D mX10_freeOf) (mv_Zf G mX10_freeOf (mv_qi mv_SH h P)) 0 0 2 [.int v0, .int v1] [] mv_SH h := by
  intro n
  induction n with
  | zero =>
    intro v0 v1 hs
    unfold fX10_freeOf_b2 at hs
    exact (mv_sat_none hs).elim
  | succ n ih =>
    intro v0 v1 hs
    unfold fX10_freeOf_b2 at hs
    refine mv_iload_n dX10_freeOf_2 rfl ?_
    refine mv_iload_n dX10_freeOf_3 rfl ?_
    refine mv_ishr dX10_freeOf_4 ?_
    refine mv_iconst 1 dX10_freeOf_5 (by decide) ?_
    refine mv_iand dX10_freeOf_6 ?_
    refine mv_iconst 1 dX10_freeOf_7 (by decide) ?_
    refine mv_icmp_ne dX10_freeOf_8 hs (fun _ hs => ?_) (fun _ hs => ?_)
    · refine mv_iinc (lv' := [.int v0, .int (v1 + 1)]) 1 dX10_freeOf_11 rfl (by decide) (Nat.le_of_ble_eq_true rfl) rfl rfl ?_
      refine mv_goto dX10_freeOf_14 ?_
      exact (ih _ _ hs)
    · refine mv_iload_n dX10_freeOf_17 rfl ?_
      exact mv_iret dX10_freeOf_18 rfl ⟨_, rfl, rfl, rfl, mv_sat_some hs⟩
noncomputable def fX10_freeOf (p0 : Int32) : Option (Int32) := fX10_freeOf_b2 mv_F p0 0
set_option maxRecDepth 100000 in
set_option maxHeartbeats 4000000 in
theorem TX10_freeOf (G : mv_G) (d : Nat) (P : Int32 → Prop) (p0 : Int32) (h : mv_H) (hs : mv_sat (fX10_freeOf p0) P) : mv_met G (d + 0) mX10_freeOf [.int p0] mv_SH h (mv_qi mv_SH h P) := by
  unfold fX10_freeOf at hs
  obtain ⟨D, hDe⟩ : ∃ D, D = d + 0 := ⟨_, rfl⟩
  rw [← hDe]
  have hD : d + 0 ≤ D := by omega
  refine mv_enter (lv := [.int p0, .float 0]) 1 (by decide) (by decide +kernel) rfl (Nat.le_of_ble_eq_true rfl) ?_
  refine mv_iconst 0 dX10_freeOf_0 (by decide) ?_
  refine mv_istore_n (lv' := [.int p0, .int 0]) dX10_freeOf_1 (Nat.le_of_ble_eq_true rfl) rfl rfl ?_
  exact (BX10_freeOf_b2 G d D (by omega) P _ _ _ _ hs)
noncomputable def fX10_lay_55_b177 (k69 : Int32 → mv_H → Option (Int32 × mv_H)) (v1 : Int32) (h : mv_H) : Option (Int32 × mv_H) := k69 (v1 + 1) h
set_option maxRecDepth 100000 in
set_option maxHeartbeats 4000000 in
theorem BX10_lay_55_b177 (G : mv_G) (d D : Nat) (hD : d + 0 ≤ D) (P : Int32 × mv_H → Prop) (k69 : Int32 → mv_H → Option (Int32 × mv_H)) (hk69 : ∀ (v1 : Int32) (h : mv_H), mv_sat (k69 v1 h) P → mv_MW G mX10_lay (mv_rm D mX10_lay) (mv_Zf G mX10_lay (mv_qI mv_SH P)) 0 0 69 [.ref 55, .int v1, .float 0, .float 0, .float 0] [] mv_SH h) (v1 : Int32) (h : mv_H) (hs : mv_sat (fX10_lay_55_b177 k69 v1 h) P) : mv_MW G mX10_lay (mv_rm D mX10_lay) (mv_Zf G mX10_lay (mv_qI mv_SH P)) 0 0 177 [.ref 55, .int v1, .float 0, .float 0, .float 0] [] mv_SH h := by
  unfold fX10_lay_55_b177 at hs
  refine mv_iinc (lv' := [.ref 55, .int (v1 + 1), .float 0, .float 0, .float 0]) 1 dX10_lay_177 rfl (by decide) (Nat.le_of_ble_eq_true rfl) rfl rfl ?_
  refine mv_goto dX10_lay_180 ?_
  exact (hk69 _ _ hs)
noncomputable def fX10_lay_55_b69 : Nat → Int32 → mv_H → Option (Int32 × mv_H)
  | 0, _, _ => none
  | n + 1, v1, h => if v1 < (h 55 19) then (if mv_in (3 * v1) 180 then (mv_let (h 64 (3 * v1).toNatClampNeg) fun x367 : Int32 => if mv_in ((3 * v1) + 1) 180 then (mv_let (h 64 ((3 * v1) + 1).toNatClampNeg) fun x368 : Int32 => if mv_in ((3 * v1) + 2) 180 then (mv_let (h 64 ((3 * v1) + 2).toNatClampNeg) fun x369 : Int32 => if mv_in v1 60 then (if (h 63 v1.toNatClampNeg) = 0 then ((fX10_freeOf (h 55 0)).bind fun r370 => (fX10_putBox_55 r370 x367 x368 x369 h).bind fun r371 => fX10_lay_55_b177 (fX10_lay_55_b69 n) v1 r371) else if mv_in v1 60 then (if (h 63 v1.toNatClampNeg) = 1 then ((fX10_freeOf (h 55 1)).bind fun r372 => (fX10_putThing_55 r372 x367 x368 x369 h).bind fun r373 => fX10_lay_55_b177 (fX10_lay_55_b69 n) v1 r373) else (fX10_freeOf (h 55 2)).bind fun r374 => (fX10_putSheet_55 r374 x367 x368 h).bind fun r375 => fX10_lay_55_b177 (fX10_lay_55_b69 n) v1 r375) else none) else none) else none) else none) else none) else mv_let (mv_u h 55 16 0) fun h376 : mv_H => some (h376 55 19, h376)
set_option maxRecDepth 100000 in
set_option maxHeartbeats 4000000 in
theorem BX10_lay_55_b69 (G : mv_G) (d D : Nat) (hD : d + 1 ≤ D) (P : Int32 × mv_H → Prop) : ∀ (n : Nat) (v1 : Int32) (h : mv_H), mv_sat (fX10_lay_55_b69 n v1 h) P → mv_MW G mX10_lay (mv_rm D mX10_lay) (mv_Zf G mX10_lay (mv_qI mv_SH P)) 0 0 69 [.ref 55, .int v1, .float 0, .float 0, .float 0] [] mv_SH h := by
  intro n
  induction n with
  | zero =>
    intro v1 h hs
    unfold fX10_lay_55_b69 at hs
    exact (mv_sat_none hs).elim
  | succ n ih =>
    intro v1 h hs
    unfold fX10_lay_55_b69 at hs
    refine mv_iload_n dX10_lay_69 rfl ?_
    refine mv_aload_n dX10_lay_70 rfl ?_
    refine mv_geti dX10_lay_71 kf_X10_167 gf_55_19 ?_
    refine mv_icmp_ge dX10_lay_74 hs (fun _ hs => ?_) (fun _ hs => ?_)
    · refine mv_aload_n dX10_lay_77 rfl ?_
      refine mv_getr dX10_lay_78 kf_X10_34 gf_55_18 ?_
      refine mv_iconst 3 dX10_lay_81 (by decide) ?_
      refine mv_iload_n dX10_lay_82 rfl ?_
      refine mv_imul dX10_lay_83 ?_
      refine mv_iaload dX10_lay_84 so_64 hs (fun hs => ?_)
      refine mv_name hs (fun x367 hs => ?_)
      refine mv_istore_n (lv' := [.ref 55, .int v1, .int x367, .float 0, .float 0]) dX10_lay_85 (Nat.le_of_ble_eq_true rfl) rfl rfl ?_
      refine mv_aload_n dX10_lay_86 rfl ?_
      refine mv_getr dX10_lay_87 kf_X10_34 gf_55_18 ?_
      refine mv_iconst 3 dX10_lay_90 (by decide) ?_
      refine mv_iload_n dX10_lay_91 rfl ?_
      refine mv_imul dX10_lay_92 ?_
      refine mv_iconst 1 dX10_lay_93 (by decide) ?_
      refine mv_iadd dX10_lay_94 ?_
      refine mv_iaload dX10_lay_95 so_64 hs (fun hs => ?_)
      refine mv_name hs (fun x368 hs => ?_)
      refine mv_istore_n (lv' := [.ref 55, .int v1, .int x367, .int x368, .float 0]) dX10_lay_96 (Nat.le_of_ble_eq_true rfl) rfl rfl ?_
      refine mv_aload_n dX10_lay_97 rfl ?_
      refine mv_getr dX10_lay_98 kf_X10_34 gf_55_18 ?_
      refine mv_iconst 3 dX10_lay_101 (by decide) ?_
      refine mv_iload_n dX10_lay_102 rfl ?_
      refine mv_imul dX10_lay_103 ?_
      refine mv_iconst 2 dX10_lay_104 (by decide) ?_
      refine mv_iadd dX10_lay_105 ?_
      refine mv_iaload dX10_lay_106 so_64 hs (fun hs => ?_)
      refine mv_name hs (fun x369 hs => ?_)
      refine mv_istore (lv' := [.ref 55, .int v1, .int x367, .int x368, .int x369]) dX10_lay_107 (Nat.le_of_ble_eq_true rfl) rfl rfl ?_
      refine mv_aload_n dX10_lay_109 rfl ?_
      refine mv_getr dX10_lay_110 kf_X10_31 gf_55_17 ?_
      refine mv_iload_n dX10_lay_113 rfl ?_
      refine mv_iaload dX10_lay_114 so_63 hs (fun hs => ?_)
      refine mv_if_ne dX10_lay_115 hs (fun _ hs => ?_) (fun _ hs => ?_)
      · refine mv_aload_n dX10_lay_118 rfl ?_
        refine mv_aload_n dX10_lay_119 rfl ?_
        refine mv_geti dX10_lay_120 kf_X10_112 gf_55_0 ?_
        refine mv_cS (st := [.ref 55]) dX10_lay_123 kk_X10_197 (TX10_freeOf G d _ _ _ (mv_sat_bind hs)) rfl rfl (Nat.le_of_ble_eq_true rfl) (by omega) rfl ⟨Nat.zero_le _, Nat.zero_le _⟩ (mv_ki fun r370 hs => ?_)
        refine mv_iload_n dX10_lay_126 rfl ?_
        refine mv_iload_n dX10_lay_127 rfl ?_
        refine mv_iload dX10_lay_128 rfl ?_
        refine mv_cV (st := []) dX10_lay_130 kk_X10_127 (TX10_putBox_55 G d _ _ _ _ _ _ (mv_sat_bind hs)) so_55 vc_10 rfl rfl (Nat.le_of_ble_eq_true rfl) (by omega) rfl ⟨Nat.zero_le _, Nat.zero_le _⟩ (mv_kv fun r371 hs => ?_)
        refine mv_goto dX10_lay_133 ?_
        exact mv_weak (lv' := [.ref 55, .int v1, .float 0, .float 0, .float 0]) (mv_s (mv_s (mv_k (mv_k (mv_k mv_n))))) (BX10_lay_55_b177 G d D (by omega) P _ ih _ _ hs)
      · refine mv_aload_n dX10_lay_136 rfl ?_
        refine mv_getr dX10_lay_137 kf_X10_31 gf_55_17 ?_
        refine mv_iload_n dX10_lay_140 rfl ?_
        refine mv_iaload dX10_lay_141 so_63 hs (fun hs => ?_)
        refine mv_iconst 1 dX10_lay_142 (by decide) ?_
        refine mv_icmp_ne dX10_lay_143 hs (fun _ hs => ?_) (fun _ hs => ?_)
        · refine mv_aload_n dX10_lay_146 rfl ?_
          refine mv_aload_n dX10_lay_147 rfl ?_
          refine mv_geti dX10_lay_148 kf_X10_115 gf_55_1 ?_
          refine mv_cS (st := [.ref 55]) dX10_lay_151 kk_X10_197 (TX10_freeOf G d _ _ _ (mv_sat_bind hs)) rfl rfl (Nat.le_of_ble_eq_true rfl) (by omega) rfl ⟨Nat.zero_le _, Nat.zero_le _⟩ (mv_ki fun r372 hs => ?_)
          refine mv_iload_n dX10_lay_154 rfl ?_
          refine mv_iload_n dX10_lay_155 rfl ?_
          refine mv_iload dX10_lay_156 rfl ?_
          refine mv_cV (st := []) dX10_lay_158 kk_X10_135 (TX10_putThing_55 G d _ _ _ _ _ _ (mv_sat_bind hs)) so_55 vc_10 rfl rfl (Nat.le_of_ble_eq_true rfl) (by omega) rfl ⟨Nat.zero_le _, Nat.zero_le _⟩ (mv_kv fun r373 hs => ?_)
          refine mv_goto dX10_lay_161 ?_
          exact mv_weak (lv' := [.ref 55, .int v1, .float 0, .float 0, .float 0]) (mv_s (mv_s (mv_k (mv_k (mv_k mv_n))))) (BX10_lay_55_b177 G d D (by omega) P _ ih _ _ hs)
        · refine mv_aload_n dX10_lay_164 rfl ?_
          refine mv_aload_n dX10_lay_165 rfl ?_
          refine mv_geti dX10_lay_166 kf_X10_118 gf_55_2 ?_
          refine mv_cS (st := [.ref 55]) dX10_lay_169 kk_X10_197 (TX10_freeOf G d _ _ _ (mv_sat_bind hs)) rfl rfl (Nat.le_of_ble_eq_true rfl) (by omega) rfl ⟨Nat.zero_le _, Nat.zero_le _⟩ (mv_ki fun r374 hs => ?_)
          refine mv_iload_n dX10_lay_172 rfl ?_
          refine mv_iload_n dX10_lay_173 rfl ?_
          refine mv_cV (st := []) dX10_lay_174 kk_X10_140 (TX10_putSheet_55 G d _ _ _ _ _ (mv_sat_bind hs)) so_55 vc_10 rfl rfl (Nat.le_of_ble_eq_true rfl) (by omega) rfl ⟨Nat.zero_le _, Nat.zero_le _⟩ (mv_kv fun r375 hs => ?_)
          exact mv_weak (lv' := [.ref 55, .int v1, .float 0, .float 0, .float 0]) (mv_s (mv_s (mv_k (mv_k (mv_k mv_n))))) (BX10_lay_55_b177 G d D (by omega) P _ ih _ _ hs)
    · refine mv_aload_n dX10_lay_183 rfl ?_
      refine mv_iconst 0 dX10_lay_184 (by decide) ?_
      refine mv_puti dX10_lay_185 kf_X10_164 (fun q => by cases q) gf_55_16 ?_
      refine mv_nameH hs (fun h376 hs => ?_)
      refine mv_aload_n dX10_lay_188 rfl ?_
      refine mv_geti dX10_lay_189 kf_X10_167 gf_55_19 ?_
      exact mv_iret dX10_lay_192 rfl ⟨(h376 55 19, h376), rfl, rfl, rfl, mv_sat_some hs⟩
noncomputable def fX10_lay_55 (h : mv_H) : Option (Int32 × mv_H) := (fX10_fault_55 h).bind fun r359 => if r359.1 < 0 then ((fX10_countOf_55 (0 : Int32) r359.2).bind fun r361 => (fX10_ones (r359.2 55 0)).bind fun r362 => if 6 < (r361 + r362) then some ((-4), r359.2) else (fX10_countOf_55 (1 : Int32) r359.2).bind fun r363 => (fX10_ones (r359.2 55 1)).bind fun r364 => if 6 < (r363 + r364) then some ((-4), r359.2) else (fX10_countOf_55 (2 : Int32) r359.2).bind fun r365 => (fX10_ones (r359.2 55 2)).bind fun r366 => if 6 < (r365 + r366) then some ((-4), r359.2) else fX10_lay_55_b69 mv_F 0 r359.2) else some ((-5), r359.2)
set_option maxRecDepth 100000 in
set_option maxHeartbeats 4000000 in
theorem TX10_lay_55 (G : mv_G) (d : Nat) (P : Int32 × mv_H → Prop) (h : mv_H) (hs : mv_sat (fX10_lay_55 h) P) : mv_met G (d + 3) mX10_lay [.ref 55] mv_SH h (mv_qI mv_SH P) := by
  unfold fX10_lay_55 at hs
  obtain ⟨D, hDe⟩ : ∃ D, D = d + 3 := ⟨_, rfl⟩
  rw [← hDe]
  have hD : d + 3 ≤ D := by omega
  refine mv_enter (lv := [.ref 55, .float 0, .float 0, .float 0, .float 0]) 4 (by decide) (by decide +kernel) rfl (Nat.le_of_ble_eq_true rfl) ?_
  refine mv_aload_n dX10_lay_0 rfl ?_
  refine mv_cV (st := []) dX10_lay_1 kk_X10_190 (TX10_fault_55 G d _ _ (mv_sat_bind hs)) so_55 vc_10 rfl rfl (Nat.le_of_ble_eq_true rfl) (by omega) rfl ⟨Nat.zero_le _, Nat.zero_le _⟩ (mv_kI2 fun r359 hs => ?_)
  refine mv_if_lt dX10_lay_4 hs (fun _ hs => ?_) (fun _ hs => ?_)
  · refine mv_aload_n dX10_lay_10 rfl ?_
    refine mv_iconst 0 dX10_lay_11 (by decide) ?_
    refine mv_cV (st := []) dX10_lay_12 kk_X10_194 (TX10_countOf_55 G d _ _ _ (mv_sat_bind hs)) so_55 vc_10 rfl rfl (Nat.le_of_ble_eq_true rfl) (by omega) rfl ⟨Nat.zero_le _, Nat.zero_le _⟩ (mv_ki fun r361 hs => ?_)
    refine mv_aload_n dX10_lay_15 rfl ?_
    refine mv_geti dX10_lay_16 kf_X10_112 gf_55_0 ?_
    refine mv_cS (st := [.int r361]) dX10_lay_19 kk_X10_131 (TX10_ones G d _ _ _ (mv_sat_bind hs)) rfl rfl (Nat.le_of_ble_eq_true rfl) (by omega) rfl ⟨Nat.zero_le _, Nat.zero_le _⟩ (mv_ki fun r362 hs => ?_)
    refine mv_iadd dX10_lay_22 ?_
    refine mv_bipush 6 dX10_lay_23 (by decide) ?_
    refine mv_icmp_gt dX10_lay_25 hs (fun _ hs => ?_) (fun _ hs => ?_)
    · refine mv_bipush (-4) dX10_lay_64 (by decide) ?_
      exact mv_iret dX10_lay_66 rfl ⟨((-4), r359.2), rfl, rfl, rfl, mv_sat_some hs⟩
    · refine mv_aload_n dX10_lay_28 rfl ?_
      refine mv_iconst 1 dX10_lay_29 (by decide) ?_
      refine mv_cV (st := []) dX10_lay_30 kk_X10_194 (TX10_countOf_55 G d _ _ _ (mv_sat_bind hs)) so_55 vc_10 rfl rfl (Nat.le_of_ble_eq_true rfl) (by omega) rfl ⟨Nat.zero_le _, Nat.zero_le _⟩ (mv_ki fun r363 hs => ?_)
      refine mv_aload_n dX10_lay_33 rfl ?_
      refine mv_geti dX10_lay_34 kf_X10_115 gf_55_1 ?_
      refine mv_cS (st := [.int r363]) dX10_lay_37 kk_X10_131 (TX10_ones G d _ _ _ (mv_sat_bind hs)) rfl rfl (Nat.le_of_ble_eq_true rfl) (by omega) rfl ⟨Nat.zero_le _, Nat.zero_le _⟩ (mv_ki fun r364 hs => ?_)
      refine mv_iadd dX10_lay_40 ?_
      refine mv_bipush 6 dX10_lay_41 (by decide) ?_
      refine mv_icmp_gt dX10_lay_43 hs (fun _ hs => ?_) (fun _ hs => ?_)
      · refine mv_bipush (-4) dX10_lay_64 (by decide) ?_
        exact mv_iret dX10_lay_66 rfl ⟨((-4), r359.2), rfl, rfl, rfl, mv_sat_some hs⟩
      · refine mv_aload_n dX10_lay_46 rfl ?_
        refine mv_iconst 2 dX10_lay_47 (by decide) ?_
        refine mv_cV (st := []) dX10_lay_48 kk_X10_194 (TX10_countOf_55 G d _ _ _ (mv_sat_bind hs)) so_55 vc_10 rfl rfl (Nat.le_of_ble_eq_true rfl) (by omega) rfl ⟨Nat.zero_le _, Nat.zero_le _⟩ (mv_ki fun r365 hs => ?_)
        refine mv_aload_n dX10_lay_51 rfl ?_
        refine mv_geti dX10_lay_52 kf_X10_118 gf_55_2 ?_
        refine mv_cS (st := [.int r365]) dX10_lay_55 kk_X10_131 (TX10_ones G d _ _ _ (mv_sat_bind hs)) rfl rfl (Nat.le_of_ble_eq_true rfl) (by omega) rfl ⟨Nat.zero_le _, Nat.zero_le _⟩ (mv_ki fun r366 hs => ?_)
        refine mv_iadd dX10_lay_58 ?_
        refine mv_bipush 6 dX10_lay_59 (by decide) ?_
        refine mv_icmp_le dX10_lay_61 hs (fun _ hs => ?_) (fun _ hs => ?_)
        · refine mv_bipush (-4) dX10_lay_64 (by decide) ?_
          exact mv_iret dX10_lay_66 rfl ⟨((-4), r359.2), rfl, rfl, rfl, mv_sat_some hs⟩
        · refine mv_iconst 0 dX10_lay_67 (by decide) ?_
          refine mv_istore_n (lv' := [.ref 55, .int 0, .float 0, .float 0, .float 0]) dX10_lay_68 (Nat.le_of_ble_eq_true rfl) rfl rfl ?_
          exact (BX10_lay_55_b69 G d D (by omega) P _ _ _ hs)
  · refine mv_bipush (-5) dX10_lay_7 (by decide) ?_
    exact mv_iret dX10_lay_9 rfl ⟨((-5), r359.2), rfl, rfl, rfl, mv_sat_some hs⟩
noncomputable def fX9_isBoxByAxis_0 (p0 : Int32) (p1 : Int32) (h : mv_H) : Option (Int32) := (fX7_has_2 p0 h).bind fun r378 => if r378 = 0 then some 0 else (fX9_isWithin p1 (0 : Int32) (2 : Int32)).bind fun r379 => if r379 = 0 then some 0 else some 1
set_option maxRecDepth 100000 in
set_option maxHeartbeats 4000000 in
theorem TX9_isBoxByAxis_0 (G : mv_G) (d : Nat) (P : Int32 → Prop) (p0 : Int32) (p1 : Int32) (h : mv_H) (hs : mv_sat (fX9_isBoxByAxis_0 p0 p1 h) P) : mv_met G (d + 2) mX9_isBoxByAxis [.ref 0, .int p0, .int p1] mv_SH h (mv_qi mv_SH h P) := by
  unfold fX9_isBoxByAxis_0 at hs
  obtain ⟨D, hDe⟩ : ∃ D, D = d + 2 := ⟨_, rfl⟩
  rw [← hDe]
  have hD : d + 2 ≤ D := by omega
  refine mv_enter (lv := [.ref 0, .int p0, .int p1]) 0 (by decide) (by decide +kernel) rfl (Nat.le_of_ble_eq_true rfl) ?_
  refine mv_aload_n dX9_isBoxByAxis_0 rfl ?_
  refine mv_getr dX9_isBoxByAxis_1 kf_X9_10 gf_0_0 ?_
  refine mv_getr dX9_isBoxByAxis_4 kf_X9_64 gf_1_0 ?_
  refine mv_iload_n dX9_isBoxByAxis_7 rfl ?_
  refine mv_cV (st := []) dX9_isBoxByAxis_8 kk_X9_100 (TX7_has_2 G d _ _ _ (mv_sat_bind hs)) so_2 vc_7 rfl rfl (Nat.le_of_ble_eq_true rfl) (by omega) rfl ⟨Nat.zero_le _, Nat.zero_le _⟩ (mv_ki fun r378 hs => ?_)
  refine mv_if_eq dX9_isBoxByAxis_11 hs (fun _ hs => ?_) (fun _ hs => ?_)
  · refine mv_iconst 0 dX9_isBoxByAxis_27 (by decide) ?_
    exact mv_zret dX9_isBoxByAxis_28 rfl (Or.inl rfl) ⟨_, rfl, rfl, rfl, mv_sat_some hs⟩
  · refine mv_iload_n dX9_isBoxByAxis_14 rfl ?_
    refine mv_iconst 0 dX9_isBoxByAxis_15 (by decide) ?_
    refine mv_iconst 2 dX9_isBoxByAxis_16 (by decide) ?_
    refine mv_cS (st := []) dX9_isBoxByAxis_17 kk_X9_79 (TX9_isWithin G d _ _ _ _ _ (mv_sat_bind hs)) rfl rfl (Nat.le_of_ble_eq_true rfl) (by omega) rfl ⟨Nat.zero_le _, Nat.zero_le _⟩ (mv_ki fun r379 hs => ?_)
    refine mv_if_eq dX9_isBoxByAxis_20 hs (fun _ hs => ?_) (fun _ hs => ?_)
    · refine mv_iconst 0 dX9_isBoxByAxis_27 (by decide) ?_
      exact mv_zret dX9_isBoxByAxis_28 rfl (Or.inl rfl) ⟨_, rfl, rfl, rfl, mv_sat_some hs⟩
    · refine mv_iconst 1 dX9_isBoxByAxis_23 (by decide) ?_
      refine mv_goto dX9_isBoxByAxis_24 ?_
      exact mv_zret dX9_isBoxByAxis_28 rfl (Or.inr rfl) ⟨_, rfl, rfl, rfl, mv_sat_some hs⟩
noncomputable def fX7_side_2 (p0 : Int32) (p1 : Int32) (h : mv_H) : Option (Int32) := if p0 < 0 then some 0 else if p0 < 6 then (if p1 < 0 then some 0 else if p1 < 3 then (if mv_in ((p0 * 3) + p1) 18 then (some (h 3 ((p0 * 3) + p1).toNatClampNeg)) else none) else some 0) else some 0
set_option maxRecDepth 100000 in
set_option maxHeartbeats 4000000 in
theorem TX7_side_2 (G : mv_G) (d : Nat) (P : Int32 → Prop) (p0 : Int32) (p1 : Int32) (h : mv_H) (hs : mv_sat (fX7_side_2 p0 p1 h) P) : mv_met G (d + 0) mX7_side [.ref 2, .int p0, .int p1] mv_SH h (mv_qi mv_SH h P) := by
  unfold fX7_side_2 at hs
  obtain ⟨D, hDe⟩ : ∃ D, D = d + 0 := ⟨_, rfl⟩
  rw [← hDe]
  have hD : d + 0 ≤ D := by omega
  refine mv_enter (lv := [.ref 2, .int p0, .int p1]) 0 (by decide) (by decide +kernel) rfl (Nat.le_of_ble_eq_true rfl) ?_
  refine mv_iload_n dX7_side_0 rfl ?_
  refine mv_if_lt dX7_side_1 hs (fun _ hs => ?_) (fun _ hs => ?_)
  · refine mv_iconst 0 dX7_side_19 (by decide) ?_
    exact mv_iret dX7_side_20 rfl ⟨_, rfl, rfl, rfl, mv_sat_some hs⟩
  · refine mv_iload_n dX7_side_4 rfl ?_
    refine mv_bipush 6 dX7_side_5 (by decide) ?_
    refine mv_icmp_ge dX7_side_7 hs (fun _ hs => ?_) (fun _ hs => ?_)
    · refine mv_iload_n dX7_side_10 rfl ?_
      refine mv_if_lt dX7_side_11 hs (fun _ hs => ?_) (fun _ hs => ?_)
      · refine mv_iconst 0 dX7_side_19 (by decide) ?_
        exact mv_iret dX7_side_20 rfl ⟨_, rfl, rfl, rfl, mv_sat_some hs⟩
      · refine mv_iload_n dX7_side_14 rfl ?_
        refine mv_iconst 3 dX7_side_15 (by decide) ?_
        refine mv_icmp_lt dX7_side_16 hs (fun _ hs => ?_) (fun _ hs => ?_)
        · refine mv_aload_n dX7_side_21 rfl ?_
          refine mv_getr dX7_side_22 kf_X7_9 gf_2_1 ?_
          refine mv_iload_n dX7_side_25 rfl ?_
          refine mv_iconst 3 dX7_side_26 (by decide) ?_
          refine mv_imul dX7_side_27 ?_
          refine mv_iload_n dX7_side_28 rfl ?_
          refine mv_iadd dX7_side_29 ?_
          refine mv_iaload dX7_side_30 so_3 hs (fun hs => ?_)
          exact mv_iret dX7_side_31 rfl ⟨_, rfl, rfl, rfl, mv_sat_some hs⟩
        · refine mv_iconst 0 dX7_side_19 (by decide) ?_
          exact mv_iret dX7_side_20 rfl ⟨_, rfl, rfl, rfl, mv_sat_some hs⟩
    · refine mv_iconst 0 dX7_side_19 (by decide) ?_
      exact mv_iret dX7_side_20 rfl ⟨_, rfl, rfl, rfl, mv_sat_some hs⟩
noncomputable def fX8_measure_38 (p0 : Int32) (p1 : Int32) (p2 : Int32) (p3 : Int32) (p4 : Int32) (h : mv_H) : Option (mv_H) := mv_let (mv_u h 38 0 p0) fun h387 : mv_H => mv_let (mv_u h387 38 1 p1) fun h388 : mv_H => mv_let (mv_u h388 38 2 p2) fun h389 : mv_H => mv_let (mv_u h389 38 3 p3) fun h390 : mv_H => mv_let (mv_u h390 38 4 p4) fun h391 : mv_H => some h391
set_option maxRecDepth 100000 in
set_option maxHeartbeats 4000000 in
theorem TX8_measure_38 (G : mv_G) (d : Nat) (P : mv_H → Prop) (p0 : Int32) (p1 : Int32) (p2 : Int32) (p3 : Int32) (p4 : Int32) (h : mv_H) (hs : mv_sat (fX8_measure_38 p0 p1 p2 p3 p4 h) P) : mv_met G (d + 0) mX8_measure [.ref 38, .int p0, .int p1, .int p2, .int p3, .int p4] mv_SH h (mv_qv mv_SH P) := by
  unfold fX8_measure_38 at hs
  obtain ⟨D, hDe⟩ : ∃ D, D = d + 0 := ⟨_, rfl⟩
  rw [← hDe]
  have hD : d + 0 ≤ D := by omega
  refine mv_enter (lv := [.ref 38, .int p0, .int p1, .int p2, .int p3, .int p4]) 0 (by decide) (by decide +kernel) rfl (Nat.le_of_ble_eq_true rfl) ?_
  refine mv_aload_n dX8_measure_0 rfl ?_
  refine mv_iload_n dX8_measure_1 rfl ?_
  refine mv_puti dX8_measure_2 kf_X8_9 (fun q => by cases q) gf_38_0 ?_
  refine mv_nameH hs (fun h387 hs => ?_)
  refine mv_aload_n dX8_measure_5 rfl ?_
  refine mv_iload_n dX8_measure_6 rfl ?_
  refine mv_puti dX8_measure_7 kf_X8_15 (fun q => by cases q) gf_38_1 ?_
  refine mv_nameH hs (fun h388 hs => ?_)
  refine mv_aload_n dX8_measure_10 rfl ?_
  refine mv_iload_n dX8_measure_11 rfl ?_
  refine mv_puti dX8_measure_12 kf_X8_18 (fun q => by cases q) gf_38_2 ?_
  refine mv_nameH hs (fun h389 hs => ?_)
  refine mv_aload_n dX8_measure_15 rfl ?_
  refine mv_iload dX8_measure_16 rfl ?_
  refine mv_puti dX8_measure_18 kf_X8_21 (fun q => by cases q) gf_38_3 ?_
  refine mv_nameH hs (fun h390 hs => ?_)
  refine mv_aload_n dX8_measure_21 rfl ?_
  refine mv_iload dX8_measure_22 rfl ?_
  refine mv_puti dX8_measure_24 kf_X8_24 (fun q => by cases q) gf_38_4 ?_
  refine mv_nameH hs (fun h391 hs => ?_)
  exact mv_vret dX8_measure_27 rfl ⟨_, rfl, rfl, rfl, mv_sat_some hs⟩
noncomputable def fX9_measure_0 (p0 : Int32) (p1 : Int32) (p2 : Int32) (h : mv_H) : Option (mv_H) := (fX1_setting_1 (0 : Int32) h).bind fun r385 => (fX1_setting_1 (1 : Int32) h).bind fun r386 => (fX8_measure_38 p0 p1 p2 r385 r386 h).bind fun r392 => some r392
set_option maxRecDepth 100000 in
set_option maxHeartbeats 4000000 in
theorem TX9_measure_0 (G : mv_G) (d : Nat) (P : mv_H → Prop) (p0 : Int32) (p1 : Int32) (p2 : Int32) (h : mv_H) (hs : mv_sat (fX9_measure_0 p0 p1 p2 h) P) : mv_met G (d + 1) mX9_measure [.ref 0, .int p0, .int p1, .int p2] mv_SH h (mv_qv mv_SH P) := by
  unfold fX9_measure_0 at hs
  obtain ⟨D, hDe⟩ : ∃ D, D = d + 1 := ⟨_, rfl⟩
  rw [← hDe]
  have hD : d + 1 ≤ D := by omega
  refine mv_enter (lv := [.ref 0, .int p0, .int p1, .int p2]) 0 (by decide) (by decide +kernel) rfl (Nat.le_of_ble_eq_true rfl) ?_
  refine mv_aload_n dX9_measure_0 rfl ?_
  refine mv_getr dX9_measure_1 kf_X9_32 gf_0_5 ?_
  refine mv_iload_n dX9_measure_4 rfl ?_
  refine mv_iload_n dX9_measure_5 rfl ?_
  refine mv_iload_n dX9_measure_6 rfl ?_
  refine mv_aload_n dX9_measure_7 rfl ?_
  refine mv_getr dX9_measure_8 kf_X9_10 gf_0_0 ?_
  refine mv_iconst 0 dX9_measure_11 (by decide) ?_
  refine mv_cV (st := [.int p2, .int p1, .int p0, .ref 38]) dX9_measure_12 kk_X9_114 (TX1_setting_1 G d _ _ _ (mv_sat_bind hs)) so_1 vc_1 rfl rfl (Nat.le_of_ble_eq_true rfl) (by omega) rfl ⟨Nat.zero_le _, Nat.zero_le _⟩ (mv_ki fun r385 hs => ?_)
  refine mv_aload_n dX9_measure_15 rfl ?_
  refine mv_getr dX9_measure_16 kf_X9_10 gf_0_0 ?_
  refine mv_iconst 1 dX9_measure_19 (by decide) ?_
  refine mv_cV (st := [.int r385, .int p2, .int p1, .int p0, .ref 38]) dX9_measure_20 kk_X9_114 (TX1_setting_1 G d _ _ _ (mv_sat_bind hs)) so_1 vc_1 rfl rfl (Nat.le_of_ble_eq_true rfl) (by omega) rfl ⟨Nat.zero_le _, Nat.zero_le _⟩ (mv_ki fun r386 hs => ?_)
  refine mv_cV (st := []) dX9_measure_23 kk_X9_351 (TX8_measure_38 G d _ _ _ _ _ _ _ (mv_sat_bind hs)) so_38 vc_8 rfl rfl (Nat.le_of_ble_eq_true rfl) (by omega) rfl ⟨Nat.zero_le _, Nat.zero_le _⟩ (mv_kv fun r392 hs => ?_)
  exact mv_vret dX9_measure_26 rfl ⟨_, rfl, rfl, rfl, mv_sat_some hs⟩
noncomputable def fX9_wrapOf_0 (p0 : Int32) (h : mv_H) : Option (mv_H) := (fX7_side_2 p0 (0 : Int32) h).bind fun r382 => (fX7_side_2 p0 (1 : Int32) h).bind fun r383 => (fX7_side_2 p0 (2 : Int32) h).bind fun r384 => (fX9_measure_0 r382 r383 r384 h).bind fun r393 => some r393
set_option maxRecDepth 100000 in
set_option maxHeartbeats 4000000 in
theorem TX9_wrapOf_0 (G : mv_G) (d : Nat) (P : mv_H → Prop) (p0 : Int32) (h : mv_H) (hs : mv_sat (fX9_wrapOf_0 p0 h) P) : mv_met G (d + 2) mX9_wrapOf [.ref 0, .int p0] mv_SH h (mv_qc mv_SH 38 P) := by
  unfold fX9_wrapOf_0 at hs
  obtain ⟨D, hDe⟩ : ∃ D, D = d + 2 := ⟨_, rfl⟩
  rw [← hDe]
  have hD : d + 2 ≤ D := by omega
  refine mv_enter (lv := [.ref 0, .int p0]) 0 (by decide) (by decide +kernel) rfl (Nat.le_of_ble_eq_true rfl) ?_
  refine mv_aload_n dX9_wrapOf_0 rfl ?_
  refine mv_aload_n dX9_wrapOf_1 rfl ?_
  refine mv_getr dX9_wrapOf_2 kf_X9_10 gf_0_0 ?_
  refine mv_getr dX9_wrapOf_5 kf_X9_64 gf_1_0 ?_
  refine mv_iload_n dX9_wrapOf_8 rfl ?_
  refine mv_iconst 0 dX9_wrapOf_9 (by decide) ?_
  refine mv_cV (st := [.ref 0]) dX9_wrapOf_10 kk_X9_163 (TX7_side_2 G d _ _ _ _ (mv_sat_bind hs)) so_2 vc_7 rfl rfl (Nat.le_of_ble_eq_true rfl) (by omega) rfl ⟨Nat.zero_le _, Nat.zero_le _⟩ (mv_ki fun r382 hs => ?_)
  refine mv_aload_n dX9_wrapOf_13 rfl ?_
  refine mv_getr dX9_wrapOf_14 kf_X9_10 gf_0_0 ?_
  refine mv_getr dX9_wrapOf_17 kf_X9_64 gf_1_0 ?_
  refine mv_iload_n dX9_wrapOf_20 rfl ?_
  refine mv_iconst 1 dX9_wrapOf_21 (by decide) ?_
  refine mv_cV (st := [.int r382, .ref 0]) dX9_wrapOf_22 kk_X9_163 (TX7_side_2 G d _ _ _ _ (mv_sat_bind hs)) so_2 vc_7 rfl rfl (Nat.le_of_ble_eq_true rfl) (by omega) rfl ⟨Nat.zero_le _, Nat.zero_le _⟩ (mv_ki fun r383 hs => ?_)
  refine mv_aload_n dX9_wrapOf_25 rfl ?_
  refine mv_getr dX9_wrapOf_26 kf_X9_10 gf_0_0 ?_
  refine mv_getr dX9_wrapOf_29 kf_X9_64 gf_1_0 ?_
  refine mv_iload_n dX9_wrapOf_32 rfl ?_
  refine mv_iconst 2 dX9_wrapOf_33 (by decide) ?_
  refine mv_cV (st := [.int r383, .int r382, .ref 0]) dX9_wrapOf_34 kk_X9_163 (TX7_side_2 G d _ _ _ _ (mv_sat_bind hs)) so_2 vc_7 rfl rfl (Nat.le_of_ble_eq_true rfl) (by omega) rfl ⟨Nat.zero_le _, Nat.zero_le _⟩ (mv_ki fun r384 hs => ?_)
  refine mv_cV (st := []) dX9_wrapOf_37 kk_X9_326 (TX9_measure_0 G d _ _ _ _ _ (mv_sat_bind hs)) so_0 vc_9 rfl rfl (Nat.le_of_ble_eq_true rfl) (by omega) rfl ⟨Nat.zero_le _, Nat.zero_le _⟩ (mv_kv fun r393 hs => ?_)
  refine mv_aload_n dX9_wrapOf_40 rfl ?_
  refine mv_getr dX9_wrapOf_41 kf_X9_32 gf_0_5 ?_
  exact mv_aret dX9_wrapOf_44 rfl ⟨_, rfl, rfl, rfl, mv_sat_some hs⟩
noncomputable def fX8_u_38 (p0 : Int32) (h : mv_H) : Option (Int32) := if p0 = 0 then some (h 38 1) else some (h 38 0)
set_option maxRecDepth 100000 in
set_option maxHeartbeats 4000000 in
theorem TX8_u_38 (G : mv_G) (d : Nat) (P : Int32 → Prop) (p0 : Int32) (h : mv_H) (hs : mv_sat (fX8_u_38 p0 h) P) : mv_met G (d + 0) mX8_u [.ref 38, .int p0] mv_SH h (mv_qi mv_SH h P) := by
  unfold fX8_u_38 at hs
  obtain ⟨D, hDe⟩ : ∃ D, D = d + 0 := ⟨_, rfl⟩
  rw [← hDe]
  have hD : d + 0 ≤ D := by omega
  refine mv_enter (lv := [.ref 38, .int p0]) 0 (by decide) (by decide +kernel) rfl (Nat.le_of_ble_eq_true rfl) ?_
  refine mv_iload_n dX8_u_0 rfl ?_
  refine mv_if_ne dX8_u_1 hs (fun _ hs => ?_) (fun _ hs => ?_)
  · refine mv_aload_n dX8_u_4 rfl ?_
    refine mv_geti dX8_u_5 kf_X8_15 gf_38_1 ?_
    refine mv_goto dX8_u_8 ?_
    exact mv_iret dX8_u_15 rfl ⟨_, rfl, rfl, rfl, mv_sat_some hs⟩
  · refine mv_aload_n dX8_u_11 rfl ?_
    refine mv_geti dX8_u_12 kf_X8_9 gf_38_0 ?_
    exact mv_iret dX8_u_15 rfl ⟨_, rfl, rfl, rfl, mv_sat_some hs⟩
noncomputable def fX8_v_38 (p0 : Int32) (h : mv_H) : Option (Int32) := if p0 = 2 then some (h 38 1) else some (h 38 2)
set_option maxRecDepth 100000 in
set_option maxHeartbeats 4000000 in
theorem TX8_v_38 (G : mv_G) (d : Nat) (P : Int32 → Prop) (p0 : Int32) (h : mv_H) (hs : mv_sat (fX8_v_38 p0 h) P) : mv_met G (d + 0) mX8_v [.ref 38, .int p0] mv_SH h (mv_qi mv_SH h P) := by
  unfold fX8_v_38 at hs
  obtain ⟨D, hDe⟩ : ∃ D, D = d + 0 := ⟨_, rfl⟩
  rw [← hDe]
  have hD : d + 0 ≤ D := by omega
  refine mv_enter (lv := [.ref 38, .int p0]) 0 (by decide) (by decide +kernel) rfl (Nat.le_of_ble_eq_true rfl) ?_
  refine mv_iload_n dX8_v_0 rfl ?_
  refine mv_iconst 2 dX8_v_1 (by decide) ?_
  refine mv_icmp_ne dX8_v_2 hs (fun _ hs => ?_) (fun _ hs => ?_)
  · refine mv_aload_n dX8_v_5 rfl ?_
    refine mv_geti dX8_v_6 kf_X8_15 gf_38_1 ?_
    refine mv_goto dX8_v_9 ?_
    exact mv_iret dX8_v_16 rfl ⟨_, rfl, rfl, rfl, mv_sat_some hs⟩
  · refine mv_aload_n dX8_v_12 rfl ?_
    refine mv_geti dX8_v_13 kf_X8_18 gf_38_2 ?_
    exact mv_iret dX8_v_16 rfl ⟨_, rfl, rfl, rfl, mv_sat_some hs⟩
noncomputable def fX8_round_38 (p0 : Int32) (h : mv_H) : Option (Int32) := (fX8_u_38 p0 h).bind fun r395 => (fX8_v_38 p0 h).bind fun r396 => some ((2 * (r395 + r396)) + (h 38 3))
set_option maxRecDepth 100000 in
set_option maxHeartbeats 4000000 in
theorem TX8_round_38 (G : mv_G) (d : Nat) (P : Int32 → Prop) (p0 : Int32) (h : mv_H) (hs : mv_sat (fX8_round_38 p0 h) P) : mv_met G (d + 1) mX8_round [.ref 38, .int p0] mv_SH h (mv_qi mv_SH h P) := by
  unfold fX8_round_38 at hs
  obtain ⟨D, hDe⟩ : ∃ D, D = d + 1 := ⟨_, rfl⟩
  rw [← hDe]
  have hD : d + 1 ≤ D := by omega
  refine mv_enter (lv := [.ref 38, .int p0]) 0 (by decide) (by decide +kernel) rfl (Nat.le_of_ble_eq_true rfl) ?_
  refine mv_iconst 2 dX8_round_0 (by decide) ?_
  refine mv_aload_n dX8_round_1 rfl ?_
  refine mv_iload_n dX8_round_2 rfl ?_
  refine mv_cV (st := [.int 2]) dX8_round_3 kk_X8_27 (TX8_u_38 G d _ _ _ (mv_sat_bind hs)) so_38 vc_8 rfl rfl (Nat.le_of_ble_eq_true rfl) (by omega) rfl ⟨Nat.zero_le _, Nat.zero_le _⟩ (mv_ki fun r395 hs => ?_)
  refine mv_aload_n dX8_round_6 rfl ?_
  refine mv_iload_n dX8_round_7 rfl ?_
  refine mv_cV (st := [.int r395, .int 2]) dX8_round_8 kk_X8_31 (TX8_v_38 G d _ _ _ (mv_sat_bind hs)) so_38 vc_8 rfl rfl (Nat.le_of_ble_eq_true rfl) (by omega) rfl ⟨Nat.zero_le _, Nat.zero_le _⟩ (mv_ki fun r396 hs => ?_)
  refine mv_iadd dX8_round_11 ?_
  refine mv_imul dX8_round_12 ?_
  refine mv_aload_n dX8_round_13 rfl ?_
  refine mv_geti dX8_round_14 kf_X8_21 gf_38_3 ?_
  refine mv_iadd dX8_round_17 ?_
  exact mv_iret dX8_round_18 rfl ⟨_, rfl, rfl, rfl, mv_sat_some hs⟩
noncomputable def fX8_along_38 (p0 : Int32) (h : mv_H) : Option (Int32) := if p0 = 0 then some (h 38 0) else if p0 = 1 then some (h 38 1) else some (h 38 2)
set_option maxRecDepth 100000 in
set_option maxHeartbeats 4000000 in
theorem TX8_along_38 (G : mv_G) (d : Nat) (P : Int32 → Prop) (p0 : Int32) (h : mv_H) (hs : mv_sat (fX8_along_38 p0 h) P) : mv_met G (d + 0) mX8_along [.ref 38, .int p0] mv_SH h (mv_qi mv_SH h P) := by
  unfold fX8_along_38 at hs
  obtain ⟨D, hDe⟩ : ∃ D, D = d + 0 := ⟨_, rfl⟩
  rw [← hDe]
  have hD : d + 0 ≤ D := by omega
  refine mv_enter (lv := [.ref 38, .int p0]) 0 (by decide) (by decide +kernel) rfl (Nat.le_of_ble_eq_true rfl) ?_
  refine mv_iload_n dX8_along_0 rfl ?_
  refine mv_if_ne dX8_along_1 hs (fun _ hs => ?_) (fun _ hs => ?_)
  · refine mv_aload_n dX8_along_4 rfl ?_
    refine mv_geti dX8_along_5 kf_X8_9 gf_38_0 ?_
    exact mv_iret dX8_along_8 rfl ⟨_, rfl, rfl, rfl, mv_sat_some hs⟩
  · refine mv_iload_n dX8_along_9 rfl ?_
    refine mv_iconst 1 dX8_along_10 (by decide) ?_
    refine mv_icmp_ne dX8_along_11 hs (fun _ hs => ?_) (fun _ hs => ?_)
    · refine mv_aload_n dX8_along_14 rfl ?_
      refine mv_geti dX8_along_15 kf_X8_15 gf_38_1 ?_
      refine mv_goto dX8_along_18 ?_
      exact mv_iret dX8_along_25 rfl ⟨_, rfl, rfl, rfl, mv_sat_some hs⟩
    · refine mv_aload_n dX8_along_21 rfl ?_
      refine mv_geti dX8_along_22 kf_X8_18 gf_38_2 ?_
      exact mv_iret dX8_along_25 rfl ⟨_, rfl, rfl, rfl, mv_sat_some hs⟩
noncomputable def fX8_reach_38 (p0 : Int32) (h : mv_H) : Option (Int32) := (fX8_along_38 p0 h).bind fun r398 => (fX8_u_38 p0 h).bind fun r399 => (fX8_v_38 p0 h).bind fun r400 => some ((r398 + (mv_min r399 r400)) + (2 * (h 38 4)))
set_option maxRecDepth 100000 in
set_option maxHeartbeats 4000000 in
theorem TX8_reach_38 (G : mv_G) (d : Nat) (P : Int32 → Prop) (p0 : Int32) (h : mv_H) (hs : mv_sat (fX8_reach_38 p0 h) P) : mv_met G (d + 1) mX8_reach [.ref 38, .int p0] mv_SH h (mv_qi mv_SH h P) := by
  unfold fX8_reach_38 at hs
  obtain ⟨D, hDe⟩ : ∃ D, D = d + 1 := ⟨_, rfl⟩
  rw [← hDe]
  have hD : d + 1 ≤ D := by omega
  refine mv_enter (lv := [.ref 38, .int p0]) 0 (by decide) (by decide +kernel) rfl (Nat.le_of_ble_eq_true rfl) ?_
  refine mv_aload_n dX8_reach_0 rfl ?_
  refine mv_iload_n dX8_reach_1 rfl ?_
  refine mv_cV (st := []) dX8_reach_2 kk_X8_34 (TX8_along_38 G d _ _ _ (mv_sat_bind hs)) so_38 vc_8 rfl rfl (Nat.le_of_ble_eq_true rfl) (by omega) rfl ⟨Nat.zero_le _, Nat.zero_le _⟩ (mv_ki fun r398 hs => ?_)
  refine mv_aload_n dX8_reach_5 rfl ?_
  refine mv_iload_n dX8_reach_6 rfl ?_
  refine mv_cV (st := [.int r398]) dX8_reach_7 kk_X8_27 (TX8_u_38 G d _ _ _ (mv_sat_bind hs)) so_38 vc_8 rfl rfl (Nat.le_of_ble_eq_true rfl) (by omega) rfl ⟨Nat.zero_le _, Nat.zero_le _⟩ (mv_ki fun r399 hs => ?_)
  refine mv_aload_n dX8_reach_10 rfl ?_
  refine mv_iload_n dX8_reach_11 rfl ?_
  refine mv_cV (st := [.int r399, .int r398]) dX8_reach_12 kk_X8_31 (TX8_v_38 G d _ _ _ (mv_sat_bind hs)) so_38 vc_8 rfl rfl (Nat.le_of_ble_eq_true rfl) (by omega) rfl ⟨Nat.zero_le _, Nat.zero_le _⟩ (mv_ki fun r400 hs => ?_)
  refine mv_mmin dX8_reach_15 kx_X8_37 kx_min_s kx_math kx_min_c (Nat.le_of_ble_eq_true rfl) (by omega) ⟨Nat.zero_le _, Nat.zero_le _⟩ ?_
  refine mv_iadd dX8_reach_18 ?_
  refine mv_iconst 2 dX8_reach_19 (by decide) ?_
  refine mv_aload_n dX8_reach_20 rfl ?_
  refine mv_geti dX8_reach_21 kf_X8_24 gf_38_4 ?_
  refine mv_imul dX8_reach_24 ?_
  refine mv_iadd dX8_reach_25 ?_
  exact mv_iret dX8_reach_26 rfl ⟨_, rfl, rfl, rfl, mv_sat_some hs⟩
noncomputable def fX8_paper_38 (p0 : Int32) (h : mv_H) : Option (Int32) := (fX8_round_38 p0 h).bind fun r402 => (fX8_reach_38 p0 h).bind fun r403 => some (r402 * r403)
set_option maxRecDepth 100000 in
set_option maxHeartbeats 4000000 in
theorem TX8_paper_38 (G : mv_G) (d : Nat) (P : Int32 → Prop) (p0 : Int32) (h : mv_H) (hs : mv_sat (fX8_paper_38 p0 h) P) : mv_met G (d + 2) mX8_paper [.ref 38, .int p0] mv_SH h (mv_qi mv_SH h P) := by
  unfold fX8_paper_38 at hs
  obtain ⟨D, hDe⟩ : ∃ D, D = d + 2 := ⟨_, rfl⟩
  rw [← hDe]
  have hD : d + 2 ≤ D := by omega
  refine mv_enter (lv := [.ref 38, .int p0]) 0 (by decide) (by decide +kernel) rfl (Nat.le_of_ble_eq_true rfl) ?_
  refine mv_aload_n dX8_paper_0 rfl ?_
  refine mv_iload_n dX8_paper_1 rfl ?_
  refine mv_cV (st := []) dX8_paper_2 kk_X8_43 (TX8_round_38 G d _ _ _ (mv_sat_bind hs)) so_38 vc_8 rfl rfl (Nat.le_of_ble_eq_true rfl) (by omega) rfl ⟨Nat.zero_le _, Nat.zero_le _⟩ (mv_ki fun r402 hs => ?_)
  refine mv_aload_n dX8_paper_5 rfl ?_
  refine mv_iload_n dX8_paper_6 rfl ?_
  refine mv_cV (st := [.int r402]) dX8_paper_7 kk_X8_46 (TX8_reach_38 G d _ _ _ (mv_sat_bind hs)) so_38 vc_8 rfl rfl (Nat.le_of_ble_eq_true rfl) (by omega) rfl ⟨Nat.zero_le _, Nat.zero_le _⟩ (mv_ki fun r403 hs => ?_)
  refine mv_imul dX8_paper_10 ?_
  exact mv_iret dX8_paper_11 rfl ⟨_, rfl, rfl, rfl, mv_sat_some hs⟩
noncomputable def fX9_need_0 (p0 : Int32) (p1 : Int32) (p2 : Int32) (h : mv_H) : Option (Int32 × mv_H) := (fX9_isBoxByAxis_0 p0 p1 h).bind fun r380 => if r380 = 0 then some ((-1), h) else (fX9_isWithin p2 (0 : Int32) (2 : Int32)).bind fun r381 => if r381 = 0 then some ((-2), h) else (fX9_wrapOf_0 p0 h).bind fun r394 => if p2 = 0 then ((fX8_round_38 p1 r394).bind fun r397 => some (r397, r394)) else if p2 = 1 then ((fX8_reach_38 p1 r394).bind fun r401 => some (r401, r394)) else (fX8_paper_38 p1 r394).bind fun r404 => some (r404, r394)
set_option maxRecDepth 100000 in
set_option maxHeartbeats 4000000 in
theorem TX9_need_0 (G : mv_G) (d : Nat) (P : Int32 × mv_H → Prop) (p0 : Int32) (p1 : Int32) (p2 : Int32) (h : mv_H) (hs : mv_sat (fX9_need_0 p0 p1 p2 h) P) : mv_met G (d + 3) mX9_need [.ref 0, .int p0, .int p1, .int p2] mv_SH h (mv_qI mv_SH P) := by
  unfold fX9_need_0 at hs
  obtain ⟨D, hDe⟩ : ∃ D, D = d + 3 := ⟨_, rfl⟩
  rw [← hDe]
  have hD : d + 3 ≤ D := by omega
  refine mv_enter (lv := [.ref 0, .int p0, .int p1, .int p2, .float 0]) 1 (by decide) (by decide +kernel) rfl (Nat.le_of_ble_eq_true rfl) ?_
  refine mv_aload_n dX9_need_0 rfl ?_
  refine mv_iload_n dX9_need_1 rfl ?_
  refine mv_iload_n dX9_need_2 rfl ?_
  refine mv_cV (st := []) dX9_need_3 kk_X9_140 (TX9_isBoxByAxis_0 G d _ _ _ _ (mv_sat_bind hs)) so_0 vc_9 rfl rfl (Nat.le_of_ble_eq_true rfl) (by omega) rfl ⟨Nat.zero_le _, Nat.zero_le _⟩ (mv_ki fun r380 hs => ?_)
  refine mv_if_ne dX9_need_6 hs (fun _ hs => ?_) (fun _ hs => ?_)
  · refine mv_iconst (-1) dX9_need_9 (by decide) ?_
    exact mv_iret dX9_need_10 rfl ⟨((-1), h), rfl, rfl, rfl, mv_sat_some hs⟩
  · refine mv_iload_n dX9_need_11 rfl ?_
    refine mv_iconst 0 dX9_need_12 (by decide) ?_
    refine mv_iconst 2 dX9_need_13 (by decide) ?_
    refine mv_cS (st := []) dX9_need_14 kk_X9_79 (TX9_isWithin G d _ _ _ _ _ (mv_sat_bind hs)) rfl rfl (Nat.le_of_ble_eq_true rfl) (by omega) rfl ⟨Nat.zero_le _, Nat.zero_le _⟩ (mv_ki fun r381 hs => ?_)
    refine mv_if_ne dX9_need_17 hs (fun _ hs => ?_) (fun _ hs => ?_)
    · refine mv_bipush (-2) dX9_need_20 (by decide) ?_
      exact mv_iret dX9_need_22 rfl ⟨((-2), h), rfl, rfl, rfl, mv_sat_some hs⟩
    · refine mv_aload_n dX9_need_23 rfl ?_
      refine mv_iload_n dX9_need_24 rfl ?_
      refine mv_cV (st := []) dX9_need_25 kk_X9_144 (TX9_wrapOf_0 G d _ _ _ (mv_sat_bind hs)) so_0 vc_9 rfl rfl (Nat.le_of_ble_eq_true rfl) (by omega) rfl ⟨Nat.zero_le _, Nat.zero_le _⟩ (mv_kc fun r394 hs => ?_)
      refine mv_astore (lv' := [.ref 0, .int p0, .int p1, .int p2, .ref 38]) dX9_need_28 (Nat.le_of_ble_eq_true rfl) rfl rfl ?_
      refine mv_iload_n dX9_need_30 rfl ?_
      refine mv_if_ne dX9_need_31 hs (fun _ hs => ?_) (fun _ hs => ?_)
      · refine mv_aload dX9_need_34 rfl ?_
        refine mv_iload_n dX9_need_36 rfl ?_
        refine mv_cV (st := []) dX9_need_37 kk_X9_148 (TX8_round_38 G d _ _ _ (mv_sat_bind hs)) so_38 vc_8 rfl rfl (Nat.le_of_ble_eq_true rfl) (by omega) rfl ⟨Nat.zero_le _, Nat.zero_le _⟩ (mv_ki fun r397 hs => ?_)
        exact mv_iret dX9_need_40 rfl ⟨(r397, r394), rfl, rfl, rfl, mv_sat_some hs⟩
      · refine mv_iload_n dX9_need_41 rfl ?_
        refine mv_iconst 1 dX9_need_42 (by decide) ?_
        refine mv_icmp_ne dX9_need_43 hs (fun _ hs => ?_) (fun _ hs => ?_)
        · refine mv_aload dX9_need_46 rfl ?_
          refine mv_iload_n dX9_need_48 rfl ?_
          refine mv_cV (st := []) dX9_need_49 kk_X9_151 (TX8_reach_38 G d _ _ _ (mv_sat_bind hs)) so_38 vc_8 rfl rfl (Nat.le_of_ble_eq_true rfl) (by omega) rfl ⟨Nat.zero_le _, Nat.zero_le _⟩ (mv_ki fun r401 hs => ?_)
          refine mv_goto dX9_need_52 ?_
          exact mv_iret dX9_need_61 rfl ⟨(r401, r394), rfl, rfl, rfl, mv_sat_some hs⟩
        · refine mv_aload dX9_need_55 rfl ?_
          refine mv_iload_n dX9_need_57 rfl ?_
          refine mv_cV (st := []) dX9_need_58 kk_X9_154 (TX8_paper_38 G d _ _ _ (mv_sat_bind hs)) so_38 vc_8 rfl rfl (Nat.le_of_ble_eq_true rfl) (by omega) rfl ⟨Nat.zero_le _, Nat.zero_le _⟩ (mv_ki fun r404 hs => ?_)
          exact mv_iret dX9_need_61 rfl ⟨(r404, r394), rfl, rfl, rfl, mv_sat_some hs⟩
