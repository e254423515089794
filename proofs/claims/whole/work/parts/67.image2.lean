/-! image, restore -/
theorem pz_100 : (100 : Int32) * 0 = nI (0 + 0) ∧ (100 : Int32) * 1 = nI (100 + 0) := by decide
theorem pz_im : ∀ b0 b1 : Bool, (nI (b0.toNat + 2 * b1.toNat) ||| 1 <<< ((0 : Int32) &&& 31) = nI (true.toNat + 2 * b1.toNat)) ∧ (nI (b0.toNat + 2 * b1.toNat) ||| 1 <<< ((1 : Int32) &&& 31) = nI (b0.toNat + 2 * true.toNat)) := by decide +kernel
theorem pz_ik : ∀ b0 b1 : Bool, (((nI (b0.toNat + 2 * b1.toNat) >>> ((0 : Int32) &&& 31)) &&& 1 = 1) ↔ b0 = true) ∧ (((nI (b0.toNat + 2 * b1.toNat) >>> ((1 : Int32) &&& 31)) &&& 1 = 1) ↔ b1 = true) := by decide +kernel
theorem im_0 {h : mv_H} (H : Inv h) : ∃ h1 h2, fX9_image_0 0 h = some (1, h1) ∧ fX10_image_55 0 h1 = some (1, h2) ∧ Inv h2 := by
  obtain ⟨⟨N, hG, hM, hN⟩, hc, hp, b0, b1, i1, i2, i3, i4, i5⟩ := H
  obtain ⟨h1, eh1⟩ : ∃ h1, h1 = mv_u (cpG h 12 1) 0 3 (cpG h 12 1 0 3 ||| (1 <<< ((0 : Int32) &&& 31))) := ⟨_, rfl⟩
  have k1 : ∀ o k, ¬ (12 ≤ o ∧ o ≤ 22) → o ≠ 0 → h1 o k = h o k := fun o k q1 q2 => by rw [eh1, mv_u_at, if_neg (fun z => q2 z.1), co_12_1 h q1]
  have k2 : h1 0 3 = nI (true.toNat + 2 * b1.toNat) := by
    rw [eh1, mv_u_at, if_pos ⟨rfl, rfl⟩, co_12_1 h (by omega), i1]; exact (pz_im b0 b1).1
  have r12 : rdG h1 12 N := rdG_cong (fun o k q1 q2 => by rw [eh1, mv_u_at, if_neg (by omega)]) (cr_12_1 hG)
  obtain ⟨g0, eg0⟩ : ∃ g0, g0 = mv_u (mv_u h1 55 44 (100 * 0)) 55 45 1 := ⟨_, rfl⟩
  have k3 : ∀ o k, ¬ (o = 55 ∧ (k = 44 ∨ k = 45)) → g0 o k = h1 o k := fun o k q => by rw [eg0, mv_u_at, if_neg (by omega), mv_u_at, if_neg (by omega)]
  have M0 : rdM g0 N := rdM_cong (fun o k q1 q2 q3 => by rw [k3 o k q3, k1 o k (by omega) (by omega)]) hM
  have P0 : Ps true 0 N g0 g0 0 := ⟨by rw [eg0, mv_u_at, if_neg (by omega), mv_u_at, if_pos ⟨rfl, rfl⟩]; exact pz_100.1, by rw [eg0, mv_u_at, if_pos ⟨rfl, rfl⟩]; rfl, fun i hi _ => rdM_i M0 i hi, fun i hi q => absurd q (by simp), fun o k _ => rfl⟩
  obtain ⟨g, e, P⟩ := pe_pa (by decide) P0
  have k4 : ∀ o k, ¬ tch 0 o k → ¬ (o = 55 ∧ (k = 44 ∨ k = 45)) → mv_u g 82 0 1 o k = if o = 82 ∧ k = 0 then 1 else h1 o k := fun o k q1 q2 => by rw [mv_u_at, P.2.2.2.2 o k q1, k3 o k q2]
  have k5 : ∀ o k, o < 55 → o ≠ 0 → ¬ (12 ≤ o ∧ o ≤ 22) → mv_u g 82 0 1 o k = h o k := fun o k q1 q2 q3 => by rw [k4 o k (nt_o (by omega)) (by omega), if_neg (by omega), k1 o k q3 q2]
  refine ⟨h1, mv_u g 82 0 1, ?_, ?_, ⟨N, ?_, ?_, hN⟩, ?_, ?_, true, b1, ?_, ?_, ?_, ?_, ?_⟩
  · simp [fX9_image_0, pe_isWithin, pz_32, fX9_imageOf_0, cg_12_1, mv_let, eh1]
  · simp only [fX10_image_55, pe_in, Int32.toInt_toInt64, pz_64, pz_32, Option.bind_some, mv_let, ← eg0, e]
    simp [mv_in]
  · exact rdG_cong (fun o k q1 q2 => k5 o k (by omega) (by omega) (by omega)) hG
  · exact rdM_cong (fun o k q1 q2 q3 => by rw [mv_u_at, if_neg (by omega)]) P.rdM
  · obtain ⟨c1, c2, c3, c4, c5⟩ := hc
    exact ⟨(k5 2 0 (by decide) (by decide) (by omega)).trans c1, (k5 4 0 (by decide) (by decide) (by omega)).trans c2, (k5 6 0 (by decide) (by decide) (by omega)).trans c3, (k5 8 0 (by decide) (by decide) (by omega)).trans c4, (k5 10 0 (by decide) (by decide) (by omega)).trans c5⟩
  · obtain ⟨m, f, p1, p2, p3, p4⟩ := hp
    refine ⟨m, f, p1, (k5 34 1 (by decide) (by decide) (by omega)).trans p2, ?_, fun i hi => ⟨(k5 35 i (by decide) (by decide) (by omega)).trans (p4 i hi).1, ?_, (p4 i hi).2.2⟩⟩
    · rw [k4 55 16 (nt_o (by omega)) (by omega), if_neg (by omega), k1 55 16 (by omega) (by omega)]; exact p3
    · rw [k4 62 i (nt_o (by omega)) (by omega), if_neg (by omega), k1 62 i (by omega) (by omega)]; exact (p4 i hi).2.1
  · rw [k4 0 3 (nt_o (by omega)) (by omega), if_neg (by omega)]; exact k2
  · rw [k4 82 0 (nt_o (by omega)) (by omega)]; rw [if_pos ⟨rfl, rfl⟩]; rfl
  · rw [k4 82 1 (nt_o (by omega)) (by omega)]; rw [if_neg (by omega), k1 82 1 (by omega) (by omega)]; exact i3
  · intro _
    refine ⟨N, rdG_cong (fun o k q1 q2 => by rw [k4 o k (nt_o (by omega)) (by omega), if_neg (by omega)]) r12, rdK_v (fun i hi => ?_), hN⟩
    rw [mv_u_at, if_neg (by omega)]
    exact P.2.2.2.1 i hi (Or.inr (by omega))
  · intro q
    obtain ⟨N', a, b, c⟩ := i5 q
    refine ⟨N', rdG_cong (fun o k q1 q2 => k5 o k (by omega) (by omega) (by omega)) a, rdK_cong (fun i hi => ?_) b, c⟩
    rw [k4 81 _ (fun z => by
      rcases z with ⟨z1, z2⟩ | ⟨z1, z2⟩ | ⟨j, hj, z1, z2⟩
      · omega
      · omega
      · have := lo_a j hj; omega) (by omega), if_neg (by omega), k1 81 _ (by omega) (by omega)]
theorem re_0 {h : mv_H} (H : Inv h) : ∃ r h1 h2, fX9_restore_0 0 h = some (r, h1) ∧ fX10_restore_55 0 h1 = some (r, h2) ∧ Inv h2 := by
  have H' := H
  obtain ⟨⟨N, hG, hM, hN⟩, hc, hp, b0, b1, i1, i2, i3, i4, i5⟩ := H
  by_cases hb : b0 = true
  · obtain ⟨N', ra, rb, rc⟩ := i4 hb
    obtain ⟨h1, eh1⟩ : ∃ h1, h1 = cpG h 1 12 := ⟨_, rfl⟩
    have k1 : ∀ o k, ¬ (1 ≤ o ∧ o ≤ 11) → h1 o k = h o k := fun o k q1 => by rw [eh1, co_1_12 h q1]
    have r1 : rdG h1 1 N' := eh1 ▸ cr_1_12 ra
    have c1 : pv_c h1 := eh1 ▸ cc_12 hc
    obtain ⟨g0, eg0⟩ : ∃ g0, g0 = mv_u (mv_u h1 55 44 (100 * 0)) 55 45 0 := ⟨_, rfl⟩
    have k3 : ∀ o k, ¬ (o = 55 ∧ (k = 44 ∨ k = 45)) → g0 o k = h1 o k := fun o k q => by rw [eg0, mv_u_at, if_neg (by omega), mv_u_at, if_neg (by omega)]
    have P0 : Ps false 0 N' g0 g0 0 := ⟨by rw [eg0, mv_u_at, if_neg (by omega), mv_u_at, if_pos ⟨rfl, rfl⟩]; exact pz_100.1, by rw [eg0, mv_u_at, if_pos ⟨rfl, rfl⟩]; rfl, fun i hi q => absurd q (by simp), fun i hi _ => by rw [k3 81 _ (by omega), k1 81 _ (by omega)]; exact rdK_i rb i hi, fun o k _ => rfl⟩
    obtain ⟨g, e, P⟩ := pe_pa (by decide) P0
    have k4 : ∀ o k, ¬ tch 0 o k → ¬ (o = 55 ∧ (k = 44 ∨ k = 45)) → g o k = h1 o k := fun o k q1 q2 => by rw [P.2.2.2.2 o k q1, k3 o k q2]
    have k5 : ∀ o k, o < 55 → g o k = h1 o k := fun o k q1 => k4 o k (nt_o (by omega)) (by omega)
    refine ⟨1, h1, g, ?_, ?_, ⟨N', ?_, P.rdM, rc⟩, ?_, ?_, b0, b1, ?_, ?_, ?_, ?_, ?_⟩
    · have eI : fX9_isIn (h 0 3) 0 = some 1 := by rw [pe_isIn, i1, if_pos ((pz_ik b0 b1).1.mpr hb)]
      simp only [fX9_restore_0, pe_isWithin, pz_32, eI, Option.bind_some, fX9_imageOf_0, cg_1_12]
      simp [eh1]
    · have e82 : h1 82 0 = 1 := by rw [k1 82 0 (by omega), i2, hb]; rfl
      have z82 : h1 82 ((0 : Int32).toNatClampNeg) = 1 := e82
      simp only [fX10_restore_55, pe_in, Int32.toInt_toInt64, pz_64, pz_32, Option.bind_some, mv_let, z82, ← eg0, e]
      simp [mv_in]
      try decide
    · exact rdG_cong (fun o k q1 q2 => k5 o k (by omega)) r1
    · obtain ⟨c1, c2, c3, c4, c5⟩ := c1
      exact ⟨(k5 2 0 (by decide)).trans c1, (k5 4 0 (by decide)).trans c2, (k5 6 0 (by decide)).trans c3, (k5 8 0 (by decide)).trans c4, (k5 10 0 (by decide)).trans c5⟩
    · obtain ⟨m, f, p1, p2, p3, p4⟩ := hp
      refine ⟨m, f, p1, ?_, ?_, fun i hi => ⟨?_, ?_, (p4 i hi).2.2⟩⟩
      · rw [k5 34 1 (by decide), k1 34 1 (by omega)]; exact p2
      · rw [k4 55 16 (nt_o (by omega)) (by omega), k1 55 16 (by omega)]; exact p3
      · rw [k5 35 i (by decide), k1 35 i (by omega)]; exact (p4 i hi).1
      · rw [k4 62 i (nt_o (by omega)) (by omega), k1 62 i (by omega)]; exact (p4 i hi).2.1
    · rw [k5 0 3 (by decide), k1 0 3 (by omega)]; exact i1
    · rw [k4 82 0 (nt_o (by omega)) (by omega), k1 82 0 (by omega)]; exact i2
    · rw [k4 82 1 (nt_o (by omega)) (by omega), k1 82 1 (by omega)]; exact i3
    · intro _
      exact ⟨N', rdG_cong (fun o k q1 q2 => by rw [k5 o k (by omega), k1 o k (by omega)]) ra, rdK_v (fun i hi => P.2.2.2.1 i hi (Or.inl rfl)), rc⟩
    · intro q
      obtain ⟨N2, a, b, c⟩ := i5 q
      refine ⟨N2, rdG_cong (fun o k q1 q2 => by rw [k5 o k (by omega), k1 o k (by omega)]) a, rdK_cong (fun i hi => ?_) b, c⟩
      rw [k4 81 _ (fun z => by
        rcases z with ⟨z1, z2⟩ | ⟨z1, z2⟩ | ⟨j, hj, z1, z2⟩
        · omega
        · omega
        · have := lo_a j hj; omega) (by omega), k1 81 _ (by omega)]
  · have hf : b0 = false := by simpa using hb
    refine ⟨-3, h, h, ?_, ?_, H'⟩
    · have eI : fX9_isIn (h 0 3) 0 = some 0 := by rw [pe_isIn, i1, if_neg (fun z => hb ((pz_ik b0 b1).1.mp z))]
      simp only [fX9_restore_0, pe_isWithin, pz_32, eI, Option.bind_some]
      simp
    · have z82 : h 82 ((0 : Int32).toNatClampNeg) = 0 := by
        show h 82 0 = 0
        rw [i2, hf]; rfl
      simp only [fX10_restore_55, pe_in, Int32.toInt_toInt64, pz_64, pz_32, Option.bind_some, z82]
      simp [mv_in]
      try decide
theorem im_1 {h : mv_H} (H : Inv h) : ∃ h1 h2, fX9_image_0 1 h = some (1, h1) ∧ fX10_image_55 1 h1 = some (1, h2) ∧ Inv h2 := by
  obtain ⟨⟨N, hG, hM, hN⟩, hc, hp, b0, b1, i1, i2, i3, i4, i5⟩ := H
  obtain ⟨h1, eh1⟩ : ∃ h1, h1 = mv_u (cpG h 23 1) 0 3 (cpG h 23 1 0 3 ||| (1 <<< ((1 : Int32) &&& 31))) := ⟨_, rfl⟩
  have k1 : ∀ o k, ¬ (23 ≤ o ∧ o ≤ 33) → o ≠ 0 → h1 o k = h o k := fun o k q1 q2 => by rw [eh1, mv_u_at, if_neg (fun z => q2 z.1), co_23_1 h q1]
  have k2 : h1 0 3 = nI (b0.toNat + 2 * true.toNat) := by
    rw [eh1, mv_u_at, if_pos ⟨rfl, rfl⟩, co_23_1 h (by omega), i1]; exact (pz_im b0 b1).2
  have r23 : rdG h1 23 N := rdG_cong (fun o k q1 q2 => by rw [eh1, mv_u_at, if_neg (by omega)]) (cr_23_1 hG)
  obtain ⟨g0, eg0⟩ : ∃ g0, g0 = mv_u (mv_u h1 55 44 (100 * 1)) 55 45 1 := ⟨_, rfl⟩
  have k3 : ∀ o k, ¬ (o = 55 ∧ (k = 44 ∨ k = 45)) → g0 o k = h1 o k := fun o k q => by rw [eg0, mv_u_at, if_neg (by omega), mv_u_at, if_neg (by omega)]
  have M0 : rdM g0 N := rdM_cong (fun o k q1 q2 q3 => by rw [k3 o k q3, k1 o k (by omega) (by omega)]) hM
  have P0 : Ps true 100 N g0 g0 0 := ⟨by rw [eg0, mv_u_at, if_neg (by omega), mv_u_at, if_pos ⟨rfl, rfl⟩]; exact pz_100.2, by rw [eg0, mv_u_at, if_pos ⟨rfl, rfl⟩]; rfl, fun i hi _ => rdM_i M0 i hi, fun i hi q => absurd q (by simp), fun o k _ => rfl⟩
  obtain ⟨g, e, P⟩ := pe_pa (by decide) P0
  have k4 : ∀ o k, ¬ tch 100 o k → ¬ (o = 55 ∧ (k = 44 ∨ k = 45)) → mv_u g 82 1 1 o k = if o = 82 ∧ k = 1 then 1 else h1 o k := fun o k q1 q2 => by rw [mv_u_at, P.2.2.2.2 o k q1, k3 o k q2]
  have k5 : ∀ o k, o < 55 → o ≠ 0 → ¬ (23 ≤ o ∧ o ≤ 33) → mv_u g 82 1 1 o k = h o k := fun o k q1 q2 q3 => by rw [k4 o k (nt_o (by omega)) (by omega), if_neg (by omega), k1 o k q3 q2]
  refine ⟨h1, mv_u g 82 1 1, ?_, ?_, ⟨N, ?_, ?_, hN⟩, ?_, ?_, b0, true, ?_, ?_, ?_, ?_, ?_⟩
  · simp [fX9_image_0, pe_isWithin, pz_32, fX9_imageOf_0, cg_23_1, mv_let, eh1]
  · simp only [fX10_image_55, pe_in, Int32.toInt_toInt64, pz_64, pz_32, Option.bind_some, mv_let, ← eg0, e]
    simp [mv_in]
  · exact rdG_cong (fun o k q1 q2 => k5 o k (by omega) (by omega) (by omega)) hG
  · exact rdM_cong (fun o k q1 q2 q3 => by rw [mv_u_at, if_neg (by omega)]) P.rdM
  · obtain ⟨c1, c2, c3, c4, c5⟩ := hc
    exact ⟨(k5 2 0 (by decide) (by decide) (by omega)).trans c1, (k5 4 0 (by decide) (by decide) (by omega)).trans c2, (k5 6 0 (by decide) (by decide) (by omega)).trans c3, (k5 8 0 (by decide) (by decide) (by omega)).trans c4, (k5 10 0 (by decide) (by decide) (by omega)).trans c5⟩
  · obtain ⟨m, f, p1, p2, p3, p4⟩ := hp
    refine ⟨m, f, p1, (k5 34 1 (by decide) (by decide) (by omega)).trans p2, ?_, fun i hi => ⟨(k5 35 i (by decide) (by decide) (by omega)).trans (p4 i hi).1, ?_, (p4 i hi).2.2⟩⟩
    · rw [k4 55 16 (nt_o (by omega)) (by omega), if_neg (by omega), k1 55 16 (by omega) (by omega)]; exact p3
    · rw [k4 62 i (nt_o (by omega)) (by omega), if_neg (by omega), k1 62 i (by omega) (by omega)]; exact (p4 i hi).2.1
  · rw [k4 0 3 (nt_o (by omega)) (by omega), if_neg (by omega)]; exact k2
  · rw [k4 82 0 (nt_o (by omega)) (by omega)]; rw [if_neg (by omega), k1 82 0 (by omega) (by omega)]; exact i2
  · rw [k4 82 1 (nt_o (by omega)) (by omega)]; rw [if_pos ⟨rfl, rfl⟩]; rfl
  · intro q
    obtain ⟨N', a, b, c⟩ := i4 q
    refine ⟨N', rdG_cong (fun o k q1 q2 => k5 o k (by omega) (by omega) (by omega)) a, rdK_cong (fun i hi => ?_) b, c⟩
    rw [k4 81 _ (fun z => by
      rcases z with ⟨z1, z2⟩ | ⟨z1, z2⟩ | ⟨j, hj, z1, z2⟩
      · omega
      · omega
      · have := lo_a j hj; omega) (by omega), if_neg (by omega), k1 81 _ (by omega) (by omega)]
  · intro _
    refine ⟨N, rdG_cong (fun o k q1 q2 => by rw [k4 o k (nt_o (by omega)) (by omega), if_neg (by omega)]) r23, rdK_v (fun i hi => ?_), hN⟩
    rw [mv_u_at, if_neg (by omega)]
    exact P.2.2.2.1 i hi (Or.inr (by omega))
theorem re_1 {h : mv_H} (H : Inv h) : ∃ r h1 h2, fX9_restore_0 1 h = some (r, h1) ∧ fX10_restore_55 1 h1 = some (r, h2) ∧ Inv h2 := by
  have H' := H
  obtain ⟨⟨N, hG, hM, hN⟩, hc, hp, b0, b1, i1, i2, i3, i4, i5⟩ := H
  by_cases hb : b1 = true
  · obtain ⟨N', ra, rb, rc⟩ := i5 hb
    obtain ⟨h1, eh1⟩ : ∃ h1, h1 = cpG h 1 23 := ⟨_, rfl⟩
    have k1 : ∀ o k, ¬ (1 ≤ o ∧ o ≤ 11) → h1 o k = h o k := fun o k q1 => by rw [eh1, co_1_23 h q1]
    have r1 : rdG h1 1 N' := eh1 ▸ cr_1_23 ra
    have c1 : pv_c h1 := eh1 ▸ cc_23 hc
    obtain ⟨g0, eg0⟩ : ∃ g0, g0 = mv_u (mv_u h1 55 44 (100 * 1)) 55 45 0 := ⟨_, rfl⟩
    have k3 : ∀ o k, ¬ (o = 55 ∧ (k = 44 ∨ k = 45)) → g0 o k = h1 o k := fun o k q => by rw [eg0, mv_u_at, if_neg (by omega), mv_u_at, if_neg (by omega)]
    have P0 : Ps false 100 N' g0 g0 0 := ⟨by rw [eg0, mv_u_at, if_neg (by omega), mv_u_at, if_pos ⟨rfl, rfl⟩]; exact pz_100.2, by rw [eg0, mv_u_at, if_pos ⟨rfl, rfl⟩]; rfl, fun i hi q => absurd q (by simp), fun i hi _ => by rw [k3 81 _ (by omega), k1 81 _ (by omega)]; exact rdK_i rb i hi, fun o k _ => rfl⟩
    obtain ⟨g, e, P⟩ := pe_pa (by decide) P0
    have k4 : ∀ o k, ¬ tch 100 o k → ¬ (o = 55 ∧ (k = 44 ∨ k = 45)) → g o k = h1 o k := fun o k q1 q2 => by rw [P.2.2.2.2 o k q1, k3 o k q2]
    have k5 : ∀ o k, o < 55 → g o k = h1 o k := fun o k q1 => k4 o k (nt_o (by omega)) (by omega)
    refine ⟨1, h1, g, ?_, ?_, ⟨N', ?_, P.rdM, rc⟩, ?_, ?_, b0, b1, ?_, ?_, ?_, ?_, ?_⟩
    · have eI : fX9_isIn (h 0 3) 1 = some 1 := by rw [pe_isIn, i1, if_pos ((pz_ik b0 b1).2.mpr hb)]
      simp only [fX9_restore_0, pe_isWithin, pz_32, eI, Option.bind_some, fX9_imageOf_0, cg_1_23]
      simp [eh1]
    · have e82 : h1 82 1 = 1 := by rw [k1 82 1 (by omega), i3, hb]; rfl
      have z82 : h1 82 ((1 : Int32).toNatClampNeg) = 1 := e82
      simp only [fX10_restore_55, pe_in, Int32.toInt_toInt64, pz_64, pz_32, Option.bind_some, mv_let, z82, ← eg0, e]
      simp [mv_in]
      try decide
    · exact rdG_cong (fun o k q1 q2 => k5 o k (by omega)) r1
    · obtain ⟨c1, c2, c3, c4, c5⟩ := c1
      exact ⟨(k5 2 0 (by decide)).trans c1, (k5 4 0 (by decide)).trans c2, (k5 6 0 (by decide)).trans c3, (k5 8 0 (by decide)).trans c4, (k5 10 0 (by decide)).trans c5⟩
    · obtain ⟨m, f, p1, p2, p3, p4⟩ := hp
      refine ⟨m, f, p1, ?_, ?_, fun i hi => ⟨?_, ?_, (p4 i hi).2.2⟩⟩
      · rw [k5 34 1 (by decide), k1 34 1 (by omega)]; exact p2
      · rw [k4 55 16 (nt_o (by omega)) (by omega), k1 55 16 (by omega)]; exact p3
      · rw [k5 35 i (by decide), k1 35 i (by omega)]; exact (p4 i hi).1
      · rw [k4 62 i (nt_o (by omega)) (by omega), k1 62 i (by omega)]; exact (p4 i hi).2.1
    · rw [k5 0 3 (by decide), k1 0 3 (by omega)]; exact i1
    · rw [k4 82 0 (nt_o (by omega)) (by omega), k1 82 0 (by omega)]; exact i2
    · rw [k4 82 1 (nt_o (by omega)) (by omega), k1 82 1 (by omega)]; exact i3
    · intro q
      obtain ⟨N2, a, b, c⟩ := i4 q
      refine ⟨N2, rdG_cong (fun o k q1 q2 => by rw [k5 o k (by omega), k1 o k (by omega)]) a, rdK_cong (fun i hi => ?_) b, c⟩
      rw [k4 81 _ (fun z => by
        rcases z with ⟨z1, z2⟩ | ⟨z1, z2⟩ | ⟨j, hj, z1, z2⟩
        · omega
        · omega
        · have := lo_a j hj; omega) (by omega), k1 81 _ (by omega)]
    · intro _
      exact ⟨N', rdG_cong (fun o k q1 q2 => by rw [k5 o k (by omega), k1 o k (by omega)]) ra, rdK_v (fun i hi => P.2.2.2.1 i hi (Or.inl rfl)), rc⟩
  · have hf : b1 = false := by simpa using hb
    refine ⟨-3, h, h, ?_, ?_, H'⟩
    · have eI : fX9_isIn (h 0 3) 1 = some 0 := by rw [pe_isIn, i1, if_neg (fun z => hb ((pz_ik b0 b1).2.mp z))]
      simp only [fX9_restore_0, pe_isWithin, pz_32, eI, Option.bind_some]
      simp
    · have z82 : h 82 ((1 : Int32).toNatClampNeg) = 0 := by
        show h 82 1 = 0
        rw [i3, hf]; rfl
      simp only [fX10_restore_55, pe_in, Int32.toInt_toInt64, pz_64, pz_32, Option.bind_some, z82]
      simp [mv_in]
      try decide
theorem st_image (p0 : Int32) : Sim (fX9_image_0 p0) (fX10_image_55 p0) := by
  intro h H
  by_cases h0 : 0 ≤ p0.toInt ∧ p0.toInt ≤ 1
  · rcases pz_two h0 with rfl | rfl
    · obtain ⟨h1, h2, a, b, c⟩ := im_0 H
      exact ⟨1, h1, h2, a, b, c⟩
    · obtain ⟨h1, h2, a, b, c⟩ := im_1 H
      exact ⟨1, h1, h2, a, b, c⟩
  · refine ⟨-2, h, h, ?_, ?_, H⟩
    · simp [fX9_image_0, pe_isWithin, pz_32, h0]
    · simp [fX10_image_55, pe_in, pz_64, h0]
theorem st_restore (p0 : Int32) : Sim (fX9_restore_0 p0) (fX10_restore_55 p0) := by
  intro h H
  by_cases h0 : 0 ≤ p0.toInt ∧ p0.toInt ≤ 1
  · rcases pz_two h0 with rfl | rfl
    · exact re_0 H
    · exact re_1 H
  · refine ⟨-2, h, h, ?_, ?_, H⟩
    · simp [fX9_restore_0, pe_isWithin, pz_32, h0]
    · simp [fX10_restore_55, pe_in, pz_64, h0]
