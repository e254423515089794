/-! the law's loop, call by call -/
theorem pz_i7 (i : Nat) : nI i + 7 = nI (i + 7) := nI_add i 7
theorem pz_iw {i n : Nat} : ∀ (j : Nat), n ≤ 448 → i + 7 ≤ n → j < 7 → mv_in (nI i + nI j) n := fun j hn hi hj => by
  rw [nI_add]
  exact (pz_in (by omega) (by omega)).1
theorem lb_204 {G : mv_G} {K : Int32 → mv_H → Option Unit} {i : Nat} {h : mv_H} (hn : (mv_x G 0).2.1 ≤ 448) (hi : i + 7 ≤ (mv_x G 0).2.1) (H : Inv h) (hK : ∀ h', Inv h' → mv_sat (K (nI (i + 7)) h') (fun _ => True)) : mv_sat (fL_law_900_b204 G K (nI i) h) (fun _ => True) := by
  obtain ⟨r, h1, h2, e1, e2, I⟩ := st_box ((mv_x G 0).2.2 (nI i + 1).toNatClampNeg) ((mv_x G 0).2.2 (nI i + 2).toNatClampNeg) ((mv_x G 0).2.2 (nI i + 3).toNatClampNeg) ((mv_x G 0).2.2 (nI i + 4).toNatClampNeg) h H
  unfold fL_law_900_b204 fL_law_900_b1543
  simp only [if_pos (show mv_in (nI i + 1) (mv_x G 0).2.1 from pz_iw 1 hn hi (by decide)), if_pos (show mv_in (nI i + 2) (mv_x G 0).2.1 from pz_iw 2 hn hi (by decide)), if_pos (show mv_in (nI i + 3) (mv_x G 0).2.1 from pz_iw 3 hn hi (by decide)), if_pos (show mv_in (nI i + 4) (mv_x G 0).2.1 from pz_iw 4 hn hi (by decide)), e1, e2, Option.bind_some, if_true, pz_i7]
  exact hK h2 I
theorem lb_257 {G : mv_G} {K : Int32 → mv_H → Option Unit} {i : Nat} {h : mv_H} (hn : (mv_x G 0).2.1 ≤ 448) (hi : i + 7 ≤ (mv_x G 0).2.1) (H : Inv h) (hK : ∀ h', Inv h' → mv_sat (K (nI (i + 7)) h') (fun _ => True)) : mv_sat (fL_law_900_b257 G K (nI i) h) (fun _ => True) := by
  obtain ⟨r, h1, h2, e1, e2, I⟩ := st_thing ((mv_x G 0).2.2 (nI i + 1).toNatClampNeg) ((mv_x G 0).2.2 (nI i + 2).toNatClampNeg) ((mv_x G 0).2.2 (nI i + 3).toNatClampNeg) ((mv_x G 0).2.2 (nI i + 4).toNatClampNeg) h H
  unfold fL_law_900_b257 fL_law_900_b1543
  simp only [if_pos (show mv_in (nI i + 1) (mv_x G 0).2.1 from pz_iw 1 hn hi (by decide)), if_pos (show mv_in (nI i + 2) (mv_x G 0).2.1 from pz_iw 2 hn hi (by decide)), if_pos (show mv_in (nI i + 3) (mv_x G 0).2.1 from pz_iw 3 hn hi (by decide)), if_pos (show mv_in (nI i + 4) (mv_x G 0).2.1 from pz_iw 4 hn hi (by decide)), e1, e2, Option.bind_some, if_true, pz_i7]
  exact hK h2 I
theorem lb_310 {G : mv_G} {K : Int32 → mv_H → Option Unit} {i : Nat} {h : mv_H} (hn : (mv_x G 0).2.1 ≤ 448) (hi : i + 7 ≤ (mv_x G 0).2.1) (H : Inv h) (hK : ∀ h', Inv h' → mv_sat (K (nI (i + 7)) h') (fun _ => True)) : mv_sat (fL_law_900_b310 G K (nI i) h) (fun _ => True) := by
  obtain ⟨r, h1, h2, e1, e2, I⟩ := st_sheet ((mv_x G 0).2.2 (nI i + 1).toNatClampNeg) ((mv_x G 0).2.2 (nI i + 2).toNatClampNeg) ((mv_x G 0).2.2 (nI i + 3).toNatClampNeg) h H
  unfold fL_law_900_b310 fL_law_900_b1543
  simp only [if_pos (show mv_in (nI i + 1) (mv_x G 0).2.1 from pz_iw 1 hn hi (by decide)), if_pos (show mv_in (nI i + 2) (mv_x G 0).2.1 from pz_iw 2 hn hi (by decide)), if_pos (show mv_in (nI i + 3) (mv_x G 0).2.1 from pz_iw 3 hn hi (by decide)), e1, e2, Option.bind_some, if_true, pz_i7]
  exact hK h2 I
theorem lb_353 {G : mv_G} {K : Int32 → mv_H → Option Unit} {i : Nat} {h : mv_H} (hn : (mv_x G 0).2.1 ≤ 448) (hi : i + 7 ≤ (mv_x G 0).2.1) (H : Inv h) (hK : ∀ h', Inv h' → mv_sat (K (nI (i + 7)) h') (fun _ => True)) : mv_sat (fL_law_900_b353 G K (nI i) h) (fun _ => True) := by
  obtain ⟨r, h1, h2, e1, e2, I⟩ := st_drop ((mv_x G 0).2.2 (nI i + 1).toNatClampNeg) ((mv_x G 0).2.2 (nI i + 2).toNatClampNeg) h H
  unfold fL_law_900_b353 fL_law_900_b1543
  simp only [if_pos (show mv_in (nI i + 1) (mv_x G 0).2.1 from pz_iw 1 hn hi (by decide)), if_pos (show mv_in (nI i + 2) (mv_x G 0).2.1 from pz_iw 2 hn hi (by decide)), e1, e2, Option.bind_some, if_true, pz_i7]
  exact hK h2 I
theorem lb_386 {G : mv_G} {K : Int32 → mv_H → Option Unit} {i : Nat} {h : mv_H} (hn : (mv_x G 0).2.1 ≤ 448) (hi : i + 7 ≤ (mv_x G 0).2.1) (H : Inv h) (hK : ∀ h', Inv h' → mv_sat (K (nI (i + 7)) h') (fun _ => True)) : mv_sat (fL_law_900_b386 G K (nI i) h) (fun _ => True) := by
  obtain ⟨r, h1, h2, e1, e2, I⟩ := st_set ((mv_x G 0).2.2 (nI i + 1).toNatClampNeg) ((mv_x G 0).2.2 (nI i + 2).toNatClampNeg) h H
  unfold fL_law_900_b386 fL_law_900_b1543
  simp only [if_pos (show mv_in (nI i + 1) (mv_x G 0).2.1 from pz_iw 1 hn hi (by decide)), if_pos (show mv_in (nI i + 2) (mv_x G 0).2.1 from pz_iw 2 hn hi (by decide)), e1, e2, Option.bind_some, if_true, pz_i7]
  exact hK h2 I
theorem lb_419 {G : mv_G} {K : Int32 → mv_H → Option Unit} {i : Nat} {h : mv_H} (hn : (mv_x G 0).2.1 ≤ 448) (hi : i + 7 ≤ (mv_x G 0).2.1) (H : Inv h) (hK : ∀ h', Inv h' → mv_sat (K (nI (i + 7)) h') (fun _ => True)) : mv_sat (fL_law_900_b419 G K (nI i) h) (fun _ => True) := by
  obtain ⟨r, h1, h2, e1, e2, I⟩ := st_say ((mv_x G 0).2.2 (nI i + 1).toNatClampNeg) h H
  unfold fL_law_900_b419 fL_law_900_b1543
  simp only [if_pos (show mv_in (nI i + 1) (mv_x G 0).2.1 from pz_iw 1 hn hi (by decide)), e1, e2, Option.bind_some, if_true, pz_i7]
  exact hK h2 I
theorem lb_442 {G : mv_G} {K : Int32 → mv_H → Option Unit} {i : Nat} {h : mv_H} (hn : (mv_x G 0).2.1 ≤ 448) (hi : i + 7 ≤ (mv_x G 0).2.1) (H : Inv h) (hK : ∀ h', Inv h' → mv_sat (K (nI (i + 7)) h') (fun _ => True)) : mv_sat (fL_law_900_b442 G K (nI i) h) (fun _ => True) := by
  obtain ⟨r, h1, h2, e1, e2, I⟩ := st_wipe  h H
  unfold fL_law_900_b442 fL_law_900_b1543
  simp only [e1, e2, Option.bind_some, if_true, pz_i7]
  exact hK h2 I
theorem lb_455 {G : mv_G} {K : Int32 → mv_H → Option Unit} {i : Nat} {h : mv_H} (hn : (mv_x G 0).2.1 ≤ 448) (hi : i + 7 ≤ (mv_x G 0).2.1) (H : Inv h) (hK : ∀ h', Inv h' → mv_sat (K (nI (i + 7)) h') (fun _ => True)) : mv_sat (fL_law_900_b455 G K (nI i) h) (fun _ => True) := by
  obtain ⟨r, h1, h2, e1, e2, I⟩ := st_fault  h H
  unfold fL_law_900_b455 fL_law_900_b1543
  simp only [e1, e2, Option.bind_some, if_true, pz_i7]
  exact hK h2 I
theorem lb_468 {G : mv_G} {K : Int32 → mv_H → Option Unit} {i : Nat} {h : mv_H} (hn : (mv_x G 0).2.1 ≤ 448) (hi : i + 7 ≤ (mv_x G 0).2.1) (H : Inv h) (hK : ∀ h', Inv h' → mv_sat (K (nI (i + 7)) h') (fun _ => True)) : mv_sat (fL_law_900_b468 G K (nI i) h) (fun _ => True) := by
  obtain ⟨r, h1, h2, e1, e2, I⟩ := st_lay  h H
  unfold fL_law_900_b468 fL_law_900_b1543
  simp only [e1, e2, Option.bind_some, if_true, pz_i7]
  exact hK h2 I
theorem lb_481 {G : mv_G} {K : Int32 → mv_H → Option Unit} {i : Nat} {h : mv_H} (hn : (mv_x G 0).2.1 ≤ 448) (hi : i + 7 ≤ (mv_x G 0).2.1) (H : Inv h) (hK : ∀ h', Inv h' → mv_sat (K (nI (i + 7)) h') (fun _ => True)) : mv_sat (fL_law_900_b481 G K (nI i) h) (fun _ => True) := by
  obtain ⟨r, h1, h2, e1, e2, I⟩ := st_need ((mv_x G 0).2.2 (nI i + 1).toNatClampNeg) ((mv_x G 0).2.2 (nI i + 2).toNatClampNeg) ((mv_x G 0).2.2 (nI i + 3).toNatClampNeg) h H
  unfold fL_law_900_b481 fL_law_900_b1543
  simp only [if_pos (show mv_in (nI i + 1) (mv_x G 0).2.1 from pz_iw 1 hn hi (by decide)), if_pos (show mv_in (nI i + 2) (mv_x G 0).2.1 from pz_iw 2 hn hi (by decide)), if_pos (show mv_in (nI i + 3) (mv_x G 0).2.1 from pz_iw 3 hn hi (by decide)), e1, e2, Option.bind_some, if_true, pz_i7]
  exact hK h2 I
theorem lb_524 {G : mv_G} {K : Int32 → mv_H → Option Unit} {i : Nat} {h : mv_H} (hn : (mv_x G 0).2.1 ≤ 448) (hi : i + 7 ≤ (mv_x G 0).2.1) (H : Inv h) (hK : ∀ h', Inv h' → mv_sat (K (nI (i + 7)) h') (fun _ => True)) : mv_sat (fL_law_900_b524 G K (nI i) h) (fun _ => True) := by
  obtain ⟨r, h1, h2, e1, e2, I⟩ := st_least ((mv_x G 0).2.2 (nI i + 1).toNatClampNeg) ((mv_x G 0).2.2 (nI i + 2).toNatClampNeg) h H
  unfold fL_law_900_b524 fL_law_900_b1543
  simp only [if_pos (show mv_in (nI i + 1) (mv_x G 0).2.1 from pz_iw 1 hn hi (by decide)), if_pos (show mv_in (nI i + 2) (mv_x G 0).2.1 from pz_iw 2 hn hi (by decide)), e1, e2, Option.bind_some, if_true, pz_i7]
  exact hK h2 I
theorem lb_557 {G : mv_G} {K : Int32 → mv_H → Option Unit} {i : Nat} {h : mv_H} (hn : (mv_x G 0).2.1 ≤ 448) (hi : i + 7 ≤ (mv_x G 0).2.1) (H : Inv h) (hK : ∀ h', Inv h' → mv_sat (K (nI (i + 7)) h') (fun _ => True)) : mv_sat (fL_law_900_b557 G K (nI i) h) (fun _ => True) := by
  obtain ⟨r, h1, h2, e1, e2, I⟩ := st_does ((mv_x G 0).2.2 (nI i + 1).toNatClampNeg) ((mv_x G 0).2.2 (nI i + 2).toNatClampNeg) ((mv_x G 0).2.2 (nI i + 3).toNatClampNeg) h H
  unfold fL_law_900_b557 fL_law_900_b1543
  simp only [if_pos (show mv_in (nI i + 1) (mv_x G 0).2.1 from pz_iw 1 hn hi (by decide)), if_pos (show mv_in (nI i + 2) (mv_x G 0).2.1 from pz_iw 2 hn hi (by decide)), if_pos (show mv_in (nI i + 3) (mv_x G 0).2.1 from pz_iw 3 hn hi (by decide)), e1, e2, Option.bind_some, if_true, pz_i7]
  exact hK h2 I
theorem lb_600 {G : mv_G} {K : Int32 → mv_H → Option Unit} {i : Nat} {h : mv_H} (hn : (mv_x G 0).2.1 ≤ 448) (hi : i + 7 ≤ (mv_x G 0).2.1) (H : Inv h) (hK : ∀ h', Inv h' → mv_sat (K (nI (i + 7)) h') (fun _ => True)) : mv_sat (fL_law_900_b600 G K (nI i) h) (fun _ => True) := by
  obtain ⟨r, h1, h2, e1, e2, I⟩ := st_taken ((mv_x G 0).2.2 (nI i + 1).toNatClampNeg) h H
  unfold fL_law_900_b600 fL_law_900_b1543
  simp only [if_pos (show mv_in (nI i + 1) (mv_x G 0).2.1 from pz_iw 1 hn hi (by decide)), e1, e2, Option.bind_some, if_true, pz_i7]
  exact hK h2 I
theorem lb_623 {G : mv_G} {K : Int32 → mv_H → Option Unit} {i : Nat} {h : mv_H} (hn : (mv_x G 0).2.1 ≤ 448) (hi : i + 7 ≤ (mv_x G 0).2.1) (H : Inv h) (hK : ∀ h', Inv h' → mv_sat (K (nI (i + 7)) h') (fun _ => True)) : mv_sat (fL_law_900_b623 G K (nI i) h) (fun _ => True) := by
  obtain ⟨r, h1, h2, e1, e2, I⟩ := st_shortBy ((mv_x G 0).2.2 (nI i + 1).toNatClampNeg) ((mv_x G 0).2.2 (nI i + 2).toNatClampNeg) ((mv_x G 0).2.2 (nI i + 3).toNatClampNeg) ((mv_x G 0).2.2 (nI i + 4).toNatClampNeg) h H
  unfold fL_law_900_b623 fL_law_900_b1543
  simp only [if_pos (show mv_in (nI i + 1) (mv_x G 0).2.1 from pz_iw 1 hn hi (by decide)), if_pos (show mv_in (nI i + 2) (mv_x G 0).2.1 from pz_iw 2 hn hi (by decide)), if_pos (show mv_in (nI i + 3) (mv_x G 0).2.1 from pz_iw 3 hn hi (by decide)), if_pos (show mv_in (nI i + 4) (mv_x G 0).2.1 from pz_iw 4 hn hi (by decide)), e1, e2, Option.bind_some, if_true, pz_i7]
  exact hK h2 I
theorem lb_676 {G : mv_G} {K : Int32 → mv_H → Option Unit} {i : Nat} {h : mv_H} (hn : (mv_x G 0).2.1 ≤ 448) (hi : i + 7 ≤ (mv_x G 0).2.1) (H : Inv h) (hK : ∀ h', Inv h' → mv_sat (K (nI (i + 7)) h') (fun _ => True)) : mv_sat (fL_law_900_b676 G K (nI i) h) (fun _ => True) := by
  obtain ⟨r, h1, h2, e1, e2, I⟩ := st_slant ((mv_x G 0).2.2 (nI i + 1).toNatClampNeg) ((mv_x G 0).2.2 (nI i + 2).toNatClampNeg) h H
  unfold fL_law_900_b676 fL_law_900_b1543
  simp only [if_pos (show mv_in (nI i + 1) (mv_x G 0).2.1 from pz_iw 1 hn hi (by decide)), if_pos (show mv_in (nI i + 2) (mv_x G 0).2.1 from pz_iw 2 hn hi (by decide)), e1, e2, Option.bind_some, if_true, pz_i7]
  exact hK h2 I
theorem lb_709 {G : mv_G} {K : Int32 → mv_H → Option Unit} {i : Nat} {h : mv_H} (hn : (mv_x G 0).2.1 ≤ 448) (hi : i + 7 ≤ (mv_x G 0).2.1) (H : Inv h) (hK : ∀ h', Inv h' → mv_sat (K (nI (i + 7)) h') (fun _ => True)) : mv_sat (fL_law_900_b709 G K (nI i) h) (fun _ => True) := by
  obtain ⟨r, h1, h2, e1, e2, I⟩ := st_slants ((mv_x G 0).2.2 (nI i + 1).toNatClampNeg) ((mv_x G 0).2.2 (nI i + 2).toNatClampNeg) h H
  unfold fL_law_900_b709 fL_law_900_b1543
  simp only [if_pos (show mv_in (nI i + 1) (mv_x G 0).2.1 from pz_iw 1 hn hi (by decide)), if_pos (show mv_in (nI i + 2) (mv_x G 0).2.1 from pz_iw 2 hn hi (by decide)), e1, e2, Option.bind_some, if_true, pz_i7]
  exact hK h2 I
theorem lb_742 {G : mv_G} {K : Int32 → mv_H → Option Unit} {i : Nat} {h : mv_H} (hn : (mv_x G 0).2.1 ≤ 448) (hi : i + 7 ≤ (mv_x G 0).2.1) (H : Inv h) (hK : ∀ h', Inv h' → mv_sat (K (nI (i + 7)) h') (fun _ => True)) : mv_sat (fL_law_900_b742 G K (nI i) h) (fun _ => True) := by
  obtain ⟨r, h1, h2, e1, e2, I⟩ := st_saved ((mv_x G 0).2.2 (nI i + 1).toNatClampNeg) h H
  unfold fL_law_900_b742 fL_law_900_b1543
  simp only [if_pos (show mv_in (nI i + 1) (mv_x G 0).2.1 from pz_iw 1 hn hi (by decide)), e1, e2, Option.bind_some, if_true, pz_i7]
  exact hK h2 I
theorem lb_765 {G : mv_G} {K : Int32 → mv_H → Option Unit} {i : Nat} {h : mv_H} (hn : (mv_x G 0).2.1 ≤ 448) (hi : i + 7 ≤ (mv_x G 0).2.1) (H : Inv h) (hK : ∀ h', Inv h' → mv_sat (K (nI (i + 7)) h') (fun _ => True)) : mv_sat (fL_law_900_b765 G K (nI i) h) (fun _ => True) := by
  obtain ⟨r, h1, h2, e1, e2, I⟩ := st_roll ((mv_x G 0).2.2 (nI i + 1).toNatClampNeg) ((mv_x G 0).2.2 (nI i + 2).toNatClampNeg) ((mv_x G 0).2.2 (nI i + 3).toNatClampNeg) h H
  unfold fL_law_900_b765 fL_law_900_b1543
  simp only [if_pos (show mv_in (nI i + 1) (mv_x G 0).2.1 from pz_iw 1 hn hi (by decide)), if_pos (show mv_in (nI i + 2) (mv_x G 0).2.1 from pz_iw 2 hn hi (by decide)), if_pos (show mv_in (nI i + 3) (mv_x G 0).2.1 from pz_iw 3 hn hi (by decide)), e1, e2, Option.bind_some, if_true, pz_i7]
  exact hK h2 I
theorem lb_808 {G : mv_G} {K : Int32 → mv_H → Option Unit} {i : Nat} {h : mv_H} (hn : (mv_x G 0).2.1 ≤ 448) (hi : i + 7 ≤ (mv_x G 0).2.1) (H : Inv h) (hK : ∀ h', Inv h' → mv_sat (K (nI (i + 7)) h') (fun _ => True)) : mv_sat (fL_law_900_b808 G K (nI i) h) (fun _ => True) := by
  obtain ⟨r, h1, h2, e1, e2, I⟩ := st_cheaper ((mv_x G 0).2.2 (nI i + 1).toNatClampNeg) ((mv_x G 0).2.2 (nI i + 2).toNatClampNeg) ((mv_x G 0).2.2 (nI i + 3).toNatClampNeg) ((mv_x G 0).2.2 (nI i + 4).toNatClampNeg) ((mv_x G 0).2.2 (nI i + 5).toNatClampNeg) ((mv_x G 0).2.2 (nI i + 6).toNatClampNeg) h H
  unfold fL_law_900_b808 fL_law_900_b1543
  simp only [if_pos (show mv_in (nI i + 1) (mv_x G 0).2.1 from pz_iw 1 hn hi (by decide)), if_pos (show mv_in (nI i + 2) (mv_x G 0).2.1 from pz_iw 2 hn hi (by decide)), if_pos (show mv_in (nI i + 3) (mv_x G 0).2.1 from pz_iw 3 hn hi (by decide)), if_pos (show mv_in (nI i + 4) (mv_x G 0).2.1 from pz_iw 4 hn hi (by decide)), if_pos (show mv_in (nI i + 5) (mv_x G 0).2.1 from pz_iw 5 hn hi (by decide)), if_pos (show mv_in (nI i + 6) (mv_x G 0).2.1 from pz_iw 6 hn hi (by decide)), e1, e2, Option.bind_some, if_true, pz_i7]
  exact hK h2 I
theorem lb_883 {G : mv_G} {K : Int32 → mv_H → Option Unit} {i : Nat} {h : mv_H} (hn : (mv_x G 0).2.1 ≤ 448) (hi : i + 7 ≤ (mv_x G 0).2.1) (H : Inv h) (hK : ∀ h', Inv h' → mv_sat (K (nI (i + 7)) h') (fun _ => True)) : mv_sat (fL_law_900_b883 G K (nI i) h) (fun _ => True) := by
  obtain ⟨r, h1, h2, e1, e2, I⟩ := st_narrow ((mv_x G 0).2.2 (nI i + 1).toNatClampNeg) ((mv_x G 0).2.2 (nI i + 2).toNatClampNeg) h H
  unfold fL_law_900_b883 fL_law_900_b1543
  simp only [if_pos (show mv_in (nI i + 1) (mv_x G 0).2.1 from pz_iw 1 hn hi (by decide)), if_pos (show mv_in (nI i + 2) (mv_x G 0).2.1 from pz_iw 2 hn hi (by decide)), e1, e2, Option.bind_some, if_true, pz_i7]
  exact hK h2 I
theorem lb_916 {G : mv_G} {K : Int32 → mv_H → Option Unit} {i : Nat} {h : mv_H} (hn : (mv_x G 0).2.1 ≤ 448) (hi : i + 7 ≤ (mv_x G 0).2.1) (H : Inv h) (hK : ∀ h', Inv h' → mv_sat (K (nI (i + 7)) h') (fun _ => True)) : mv_sat (fL_law_900_b916 G K (nI i) h) (fun _ => True) := by
  obtain ⟨r, h1, h2, e1, e2, I⟩ := st_pieces ((mv_x G 0).2.2 (nI i + 1).toNatClampNeg) ((mv_x G 0).2.2 (nI i + 2).toNatClampNeg) ((mv_x G 0).2.2 (nI i + 3).toNatClampNeg) h H
  unfold fL_law_900_b916 fL_law_900_b1543
  simp only [if_pos (show mv_in (nI i + 1) (mv_x G 0).2.1 from pz_iw 1 hn hi (by decide)), if_pos (show mv_in (nI i + 2) (mv_x G 0).2.1 from pz_iw 2 hn hi (by decide)), if_pos (show mv_in (nI i + 3) (mv_x G 0).2.1 from pz_iw 3 hn hi (by decide)), e1, e2, Option.bind_some, if_true, pz_i7]
  exact hK h2 I
theorem lb_959 {G : mv_G} {K : Int32 → mv_H → Option Unit} {i : Nat} {h : mv_H} (hn : (mv_x G 0).2.1 ≤ 448) (hi : i + 7 ≤ (mv_x G 0).2.1) (H : Inv h) (hK : ∀ h', Inv h' → mv_sat (K (nI (i + 7)) h') (fun _ => True)) : mv_sat (fL_law_900_b959 G K (nI i) h) (fun _ => True) := by
  obtain ⟨r, h1, h2, e1, e2, I⟩ := st_cut ((mv_x G 0).2.2 (nI i + 1).toNatClampNeg) ((mv_x G 0).2.2 (nI i + 2).toNatClampNeg) h H
  unfold fL_law_900_b959 fL_law_900_b1543
  simp only [if_pos (show mv_in (nI i + 1) (mv_x G 0).2.1 from pz_iw 1 hn hi (by decide)), if_pos (show mv_in (nI i + 2) (mv_x G 0).2.1 from pz_iw 2 hn hi (by decide)), e1, e2, Option.bind_some, if_true, pz_i7]
  exact hK h2 I
theorem lb_992 {G : mv_G} {K : Int32 → mv_H → Option Unit} {i : Nat} {h : mv_H} (hn : (mv_x G 0).2.1 ≤ 448) (hi : i + 7 ≤ (mv_x G 0).2.1) (H : Inv h) (hK : ∀ h', Inv h' → mv_sat (K (nI (i + 7)) h') (fun _ => True)) : mv_sat (fL_law_900_b992 G K (nI i) h) (fun _ => True) := by
  obtain ⟨r, h1, h2, e1, e2, I⟩ := st_most ((mv_x G 0).2.2 (nI i + 1).toNatClampNeg) ((mv_x G 0).2.2 (nI i + 2).toNatClampNeg) h H
  unfold fL_law_900_b992 fL_law_900_b1543
  simp only [if_pos (show mv_in (nI i + 1) (mv_x G 0).2.1 from pz_iw 1 hn hi (by decide)), if_pos (show mv_in (nI i + 2) (mv_x G 0).2.1 from pz_iw 2 hn hi (by decide)), e1, e2, Option.bind_some, if_true, pz_i7]
  exact hK h2 I
theorem lb_1025 {G : mv_G} {K : Int32 → mv_H → Option Unit} {i : Nat} {h : mv_H} (hn : (mv_x G 0).2.1 ≤ 448) (hi : i + 7 ≤ (mv_x G 0).2.1) (H : Inv h) (hK : ∀ h', Inv h' → mv_sat (K (nI (i + 7)) h') (fun _ => True)) : mv_sat (fL_law_900_b1025 G K (nI i) h) (fun _ => True) := by
  obtain ⟨r, h1, h2, e1, e2, I⟩ := st_usedUp ((mv_x G 0).2.2 (nI i + 1).toNatClampNeg) ((mv_x G 0).2.2 (nI i + 2).toNatClampNeg) h H
  unfold fL_law_900_b1025 fL_law_900_b1543
  simp only [if_pos (show mv_in (nI i + 1) (mv_x G 0).2.1 from pz_iw 1 hn hi (by decide)), if_pos (show mv_in (nI i + 2) (mv_x G 0).2.1 from pz_iw 2 hn hi (by decide)), e1, e2, Option.bind_some, if_true, pz_i7]
  exact hK h2 I
theorem lb_1058 {G : mv_G} {K : Int32 → mv_H → Option Unit} {i : Nat} {h : mv_H} (hn : (mv_x G 0).2.1 ≤ 448) (hi : i + 7 ≤ (mv_x G 0).2.1) (H : Inv h) (hK : ∀ h', Inv h' → mv_sat (K (nI (i + 7)) h') (fun _ => True)) : mv_sat (fL_law_900_b1058 G K (nI i) h) (fun _ => True) := by
  obtain ⟨r, h1, h2, e1, e2, I⟩ := st_pleat ((mv_x G 0).2.2 (nI i + 1).toNatClampNeg) ((mv_x G 0).2.2 (nI i + 2).toNatClampNeg) h H
  unfold fL_law_900_b1058 fL_law_900_b1543
  simp only [if_pos (show mv_in (nI i + 1) (mv_x G 0).2.1 from pz_iw 1 hn hi (by decide)), if_pos (show mv_in (nI i + 2) (mv_x G 0).2.1 from pz_iw 2 hn hi (by decide)), e1, e2, Option.bind_some, if_true, pz_i7]
  exact hK h2 I
theorem lb_1091 {G : mv_G} {K : Int32 → mv_H → Option Unit} {i : Nat} {h : mv_H} (hn : (mv_x G 0).2.1 ≤ 448) (hi : i + 7 ≤ (mv_x G 0).2.1) (H : Inv h) (hK : ∀ h', Inv h' → mv_sat (K (nI (i + 7)) h') (fun _ => True)) : mv_sat (fL_law_900_b1091 G K (nI i) h) (fun _ => True) := by
  obtain ⟨r, h1, h2, e1, e2, I⟩ := st_match ((mv_x G 0).2.2 (nI i + 1).toNatClampNeg) h H
  unfold fL_law_900_b1091 fL_law_900_b1543
  simp only [if_pos (show mv_in (nI i + 1) (mv_x G 0).2.1 from pz_iw 1 hn hi (by decide)), e1, e2, Option.bind_some, if_true, pz_i7]
  exact hK h2 I
theorem lb_1114 {G : mv_G} {K : Int32 → mv_H → Option Unit} {i : Nat} {h : mv_H} (hn : (mv_x G 0).2.1 ≤ 448) (hi : i + 7 ≤ (mv_x G 0).2.1) (H : Inv h) (hK : ∀ h', Inv h' → mv_sat (K (nI (i + 7)) h') (fun _ => True)) : mv_sat (fL_law_900_b1114 G K (nI i) h) (fun _ => True) := by
  obtain ⟨r, h1, h2, e1, e2, I⟩ := st_ribbon ((mv_x G 0).2.2 (nI i + 1).toNatClampNeg) ((mv_x G 0).2.2 (nI i + 2).toNatClampNeg) h H
  unfold fL_law_900_b1114 fL_law_900_b1543
  simp only [if_pos (show mv_in (nI i + 1) (mv_x G 0).2.1 from pz_iw 1 hn hi (by decide)), if_pos (show mv_in (nI i + 2) (mv_x G 0).2.1 from pz_iw 2 hn hi (by decide)), e1, e2, Option.bind_some, if_true, pz_i7]
  exact hK h2 I
theorem lb_1147 {G : mv_G} {K : Int32 → mv_H → Option Unit} {i : Nat} {h : mv_H} (hn : (mv_x G 0).2.1 ≤ 448) (hi : i + 7 ≤ (mv_x G 0).2.1) (H : Inv h) (hK : ∀ h', Inv h' → mv_sat (K (nI (i + 7)) h') (fun _ => True)) : mv_sat (fL_law_900_b1147 G K (nI i) h) (fun _ => True) := by
  obtain ⟨r, h1, h2, e1, e2, I⟩ := st_corners ((mv_x G 0).2.2 (nI i + 1).toNatClampNeg) ((mv_x G 0).2.2 (nI i + 2).toNatClampNeg) ((mv_x G 0).2.2 (nI i + 3).toNatClampNeg) h H
  unfold fL_law_900_b1147 fL_law_900_b1543
  simp only [if_pos (show mv_in (nI i + 1) (mv_x G 0).2.1 from pz_iw 1 hn hi (by decide)), if_pos (show mv_in (nI i + 2) (mv_x G 0).2.1 from pz_iw 2 hn hi (by decide)), if_pos (show mv_in (nI i + 3) (mv_x G 0).2.1 from pz_iw 3 hn hi (by decide)), e1, e2, Option.bind_some, if_true, pz_i7]
  exact hK h2 I
theorem lb_1190 {G : mv_G} {K : Int32 → mv_H → Option Unit} {i : Nat} {h : mv_H} (hn : (mv_x G 0).2.1 ≤ 448) (hi : i + 7 ≤ (mv_x G 0).2.1) (H : Inv h) (hK : ∀ h', Inv h' → mv_sat (K (nI (i + 7)) h') (fun _ => True)) : mv_sat (fL_law_900_b1190 G K (nI i) h) (fun _ => True) := by
  obtain ⟨r, h2, e1, e2, I⟩ := st_fits ((mv_x G 0).2.2 (nI i + 1).toNatClampNeg) ((mv_x G 0).2.2 (nI i + 2).toNatClampNeg) h H
  unfold fL_law_900_b1190 fL_law_900_b1543
  simp only [if_pos (show mv_in (nI i + 1) (mv_x G 0).2.1 from pz_iw 1 hn hi (by decide)), if_pos (show mv_in (nI i + 2) (mv_x G 0).2.1 from pz_iw 2 hn hi (by decide)), e1, e2, Option.bind_some, if_true, pz_i7]
  exact hK h2 I
theorem lb_1223 {G : mv_G} {K : Int32 → mv_H → Option Unit} {i : Nat} {h : mv_H} (hn : (mv_x G 0).2.1 ≤ 448) (hi : i + 7 ≤ (mv_x G 0).2.1) (H : Inv h) (hK : ∀ h', Inv h' → mv_sat (K (nI (i + 7)) h') (fun _ => True)) : mv_sat (fL_law_900_b1223 G K (nI i) h) (fun _ => True) := by
  obtain ⟨r, h1, h2, e1, e2, I⟩ := st_tight ((mv_x G 0).2.2 (nI i + 1).toNatClampNeg) h H
  unfold fL_law_900_b1223 fL_law_900_b1543
  simp only [if_pos (show mv_in (nI i + 1) (mv_x G 0).2.1 from pz_iw 1 hn hi (by decide)), e1, e2, Option.bind_some, if_true, pz_i7]
  exact hK h2 I
theorem lb_1246 {G : mv_G} {K : Int32 → mv_H → Option Unit} {i : Nat} {h : mv_H} (hn : (mv_x G 0).2.1 ≤ 448) (hi : i + 7 ≤ (mv_x G 0).2.1) (H : Inv h) (hK : ∀ h', Inv h' → mv_sat (K (nI (i + 7)) h') (fun _ => True)) : mv_sat (fL_law_900_b1246 G K (nI i) h) (fun _ => True) := by
  obtain ⟨r, h1, h2, e1, e2, I⟩ := st_paired ((mv_x G 0).2.2 (nI i + 1).toNatClampNeg) ((mv_x G 0).2.2 (nI i + 2).toNatClampNeg) h H
  unfold fL_law_900_b1246 fL_law_900_b1543
  simp only [if_pos (show mv_in (nI i + 1) (mv_x G 0).2.1 from pz_iw 1 hn hi (by decide)), if_pos (show mv_in (nI i + 2) (mv_x G 0).2.1 from pz_iw 2 hn hi (by decide)), e1, e2, Option.bind_some, if_true, pz_i7]
  exact hK h2 I
theorem lb_1279 {G : mv_G} {K : Int32 → mv_H → Option Unit} {i : Nat} {h : mv_H} (hn : (mv_x G 0).2.1 ≤ 448) (hi : i + 7 ≤ (mv_x G 0).2.1) (H : Inv h) (hK : ∀ h', Inv h' → mv_sat (K (nI (i + 7)) h') (fun _ => True)) : mv_sat (fL_law_900_b1279 G K (nI i) h) (fun _ => True) := by
  obtain ⟨r, h1, h2, e1, e2, I⟩ := st_mark ((mv_x G 0).2.2 (nI i + 1).toNatClampNeg) ((mv_x G 0).2.2 (nI i + 2).toNatClampNeg) h H
  unfold fL_law_900_b1279 fL_law_900_b1543
  simp only [if_pos (show mv_in (nI i + 1) (mv_x G 0).2.1 from pz_iw 1 hn hi (by decide)), if_pos (show mv_in (nI i + 2) (mv_x G 0).2.1 from pz_iw 2 hn hi (by decide)), e1, e2, Option.bind_some, if_true, pz_i7]
  exact hK h2 I
theorem lb_1312 {G : mv_G} {K : Int32 → mv_H → Option Unit} {i : Nat} {h : mv_H} (hn : (mv_x G 0).2.1 ≤ 448) (hi : i + 7 ≤ (mv_x G 0).2.1) (H : Inv h) (hK : ∀ h', Inv h' → mv_sat (K (nI (i + 7)) h') (fun _ => True)) : mv_sat (fL_law_900_b1312 G K (nI i) h) (fun _ => True) := by
  obtain ⟨r, h1, h2, e1, e2, I⟩ := st_iron ((mv_x G 0).2.2 (nI i + 1).toNatClampNeg) h H
  unfold fL_law_900_b1312 fL_law_900_b1543
  simp only [if_pos (show mv_in (nI i + 1) (mv_x G 0).2.1 from pz_iw 1 hn hi (by decide)), e1, e2, Option.bind_some, if_true, pz_i7]
  exact hK h2 I
theorem lb_1335 {G : mv_G} {K : Int32 → mv_H → Option Unit} {i : Nat} {h : mv_H} (hn : (mv_x G 0).2.1 ≤ 448) (hi : i + 7 ≤ (mv_x G 0).2.1) (H : Inv h) (hK : ∀ h', Inv h' → mv_sat (K (nI (i + 7)) h') (fun _ => True)) : mv_sat (fL_law_900_b1335 G K (nI i) h) (fun _ => True) := by
  obtain ⟨r, h1, h2, e1, e2, I⟩ := st_hidden ((mv_x G 0).2.2 (nI i + 1).toNatClampNeg) ((mv_x G 0).2.2 (nI i + 2).toNatClampNeg) ((mv_x G 0).2.2 (nI i + 3).toNatClampNeg) ((mv_x G 0).2.2 (nI i + 4).toNatClampNeg) h H
  unfold fL_law_900_b1335 fL_law_900_b1543
  simp only [if_pos (show mv_in (nI i + 1) (mv_x G 0).2.1 from pz_iw 1 hn hi (by decide)), if_pos (show mv_in (nI i + 2) (mv_x G 0).2.1 from pz_iw 2 hn hi (by decide)), if_pos (show mv_in (nI i + 3) (mv_x G 0).2.1 from pz_iw 3 hn hi (by decide)), if_pos (show mv_in (nI i + 4) (mv_x G 0).2.1 from pz_iw 4 hn hi (by decide)), e1, e2, Option.bind_some, if_true, pz_i7]
  exact hK h2 I
theorem lb_1388 {G : mv_G} {K : Int32 → mv_H → Option Unit} {i : Nat} {h : mv_H} (hn : (mv_x G 0).2.1 ≤ 448) (hi : i + 7 ≤ (mv_x G 0).2.1) (H : Inv h) (hK : ∀ h', Inv h' → mv_sat (K (nI (i + 7)) h') (fun _ => True)) : mv_sat (fL_law_900_b1388 G K (nI i) h) (fun _ => True) := by
  obtain ⟨r, e1, e2⟩ := st_undone ((mv_x G 0).2.2 (nI i + 1).toNatClampNeg) ((mv_x G 0).2.2 (nI i + 2).toNatClampNeg) h H
  unfold fL_law_900_b1388 fL_law_900_b1543
  simp only [if_pos (show mv_in (nI i + 1) (mv_x G 0).2.1 from pz_iw 1 hn hi (by decide)), if_pos (show mv_in (nI i + 2) (mv_x G 0).2.1 from pz_iw 2 hn hi (by decide)), e1, e2, Option.bind_some, if_true, pz_i7]
  exact hK h H
theorem lb_1421 {G : mv_G} {K : Int32 → mv_H → Option Unit} {i : Nat} {h : mv_H} (hn : (mv_x G 0).2.1 ≤ 448) (hi : i + 7 ≤ (mv_x G 0).2.1) (H : Inv h) (hK : ∀ h', Inv h' → mv_sat (K (nI (i + 7)) h') (fun _ => True)) : mv_sat (fL_law_900_b1421 G K (nI i) h) (fun _ => True) := by
  obtain ⟨r, h1, h2, e1, e2, I⟩ := st_year ((mv_x G 0).2.2 (nI i + 1).toNatClampNeg) ((mv_x G 0).2.2 (nI i + 2).toNatClampNeg) ((mv_x G 0).2.2 (nI i + 3).toNatClampNeg) ((mv_x G 0).2.2 (nI i + 4).toNatClampNeg) h H
  unfold fL_law_900_b1421 fL_law_900_b1543
  simp only [if_pos (show mv_in (nI i + 1) (mv_x G 0).2.1 from pz_iw 1 hn hi (by decide)), if_pos (show mv_in (nI i + 2) (mv_x G 0).2.1 from pz_iw 2 hn hi (by decide)), if_pos (show mv_in (nI i + 3) (mv_x G 0).2.1 from pz_iw 3 hn hi (by decide)), if_pos (show mv_in (nI i + 4) (mv_x G 0).2.1 from pz_iw 4 hn hi (by decide)), e1, e2, Option.bind_some, if_true, pz_i7]
  exact hK h2 I
theorem lb_1474 {G : mv_G} {K : Int32 → mv_H → Option Unit} {i : Nat} {h : mv_H} (hn : (mv_x G 0).2.1 ≤ 448) (hi : i + 7 ≤ (mv_x G 0).2.1) (H : Inv h) (hK : ∀ h', Inv h' → mv_sat (K (nI (i + 7)) h') (fun _ => True)) : mv_sat (fL_law_900_b1474 G K (nI i) h) (fun _ => True) := by
  obtain ⟨r, h1, h2, e1, e2, I⟩ := st_image ((mv_x G 0).2.2 (nI i + 1).toNatClampNeg) h H
  unfold fL_law_900_b1474 fL_law_900_b1543
  simp only [if_pos (show mv_in (nI i + 1) (mv_x G 0).2.1 from pz_iw 1 hn hi (by decide)), e1, e2, Option.bind_some, if_true, pz_i7]
  exact hK h2 I
theorem lb_1497 {G : mv_G} {K : Int32 → mv_H → Option Unit} {i : Nat} {h : mv_H} (hn : (mv_x G 0).2.1 ≤ 448) (hi : i + 7 ≤ (mv_x G 0).2.1) (H : Inv h) (hK : ∀ h', Inv h' → mv_sat (K (nI (i + 7)) h') (fun _ => True)) : mv_sat (fL_law_900_b1497 G K (nI i) h) (fun _ => True) := by
  obtain ⟨r, h1, h2, e1, e2, I⟩ := st_restore ((mv_x G 0).2.2 (nI i + 1).toNatClampNeg) h H
  unfold fL_law_900_b1497 fL_law_900_b1543
  simp only [if_pos (show mv_in (nI i + 1) (mv_x G 0).2.1 from pz_iw 1 hn hi (by decide)), e1, e2, Option.bind_some, if_true, pz_i7]
  exact hK h2 I
theorem lb_1520 {G : mv_G} {K : Int32 → mv_H → Option Unit} {i : Nat} {h : mv_H} (hn : (mv_x G 0).2.1 ≤ 448) (hi : i + 7 ≤ (mv_x G 0).2.1) (H : Inv h) (hK : ∀ h', Inv h' → mv_sat (K (nI (i + 7)) h') (fun _ => True)) : mv_sat (fL_law_900_b1520 G K (nI i) h) (fun _ => True) := by
  obtain ⟨r, e1, e2⟩ := st_told ((mv_x G 0).2.2 (nI i + 1).toNatClampNeg) h H
  unfold fL_law_900_b1520 fL_law_900_b1543
  simp only [if_pos (show mv_in (nI i + 1) (mv_x G 0).2.1 from pz_iw 1 hn hi (by decide)), e1, e2, Option.bind_some, if_true, pz_i7]
  exact hK h H
theorem pz_and63 (x : Int32) : True := trivial
set_option maxRecDepth 20000 in
theorem lp_18 {G : mv_G} (hn : (mv_x G 0).2.1 ≤ 448) : ∀ (n i m : Nat) (h : mv_H), n * 7 + i ≥ (mv_x G 0).2.1 → i ≤ 500 → n < m → Inv h → mv_sat (fL_law_900_b18 G m (nI i) h) (fun _ => True)
  | n, i, 0, h, _, _, hm, _ => absurd hm (by omega)
  | n, i, m + 1, h, hni, hi5, hm, H => by
    have ec : (Int32.ofNat (mv_x G 0).2.1 - 7 < nI i) = ((mv_x G 0).2.1 < i + 7) := pz_last (r := 7) (by omega) (by omega) (by omega)
    rw [fL_law_900_b18]
    simp only [ec]
    by_cases q : (mv_x G 0).2.1 < i + 7
    · rw [if_pos q]; exact ⟨(), rfl, trivial⟩
    · rw [if_neg q]
      have hi : i + 7 ≤ (mv_x G 0).2.1 := by omega
      have hK : ∀ h', Inv h' → mv_sat (fL_law_900_b18 G m (nI (i + 7)) h') (fun _ => True) := fun h' H' => by
        cases n with
        | zero => omega
        | succ n => exact lp_18 hn n (i + 7) m h' (by omega) (by omega) (by omega) H'
      rw [if_pos (show mv_in (nI i) (mv_x G 0).2.1 from (pz_in (by omega) (by omega)).1)]
      obtain ⟨c, ec⟩ : ∃ c, c = ((mv_x G 0).2.2 (nI i).toNatClampNeg) &&& 63 := ⟨_, rfl⟩
      rw [← ec]
      by_cases q0 : c = 0
      · rw [if_pos q0]; exact lb_204 hn hi H hK
      rw [if_neg q0]
      by_cases q1 : c = 1
      · rw [if_pos q1]; exact lb_257 hn hi H hK
      rw [if_neg q1]
      by_cases q2 : c = 2
      · rw [if_pos q2]; exact lb_310 hn hi H hK
      rw [if_neg q2]
      by_cases q3 : c = 3
      · rw [if_pos q3]; exact lb_353 hn hi H hK
      rw [if_neg q3]
      by_cases q4 : c = 4
      · rw [if_pos q4]; exact lb_386 hn hi H hK
      rw [if_neg q4]
      by_cases q5 : c = 5
      · rw [if_pos q5]; exact lb_419 hn hi H hK
      rw [if_neg q5]
      by_cases q6 : c = 6
      · rw [if_pos q6]; exact lb_442 hn hi H hK
      rw [if_neg q6]
      by_cases q7 : c = 7
      · rw [if_pos q7]; exact lb_455 hn hi H hK
      rw [if_neg q7]
      by_cases q8 : c = 8
      · rw [if_pos q8]; exact lb_468 hn hi H hK
      rw [if_neg q8]
      by_cases q9 : c = 9
      · rw [if_pos q9]; exact lb_481 hn hi H hK
      rw [if_neg q9]
      by_cases q10 : c = 10
      · rw [if_pos q10]; exact lb_524 hn hi H hK
      rw [if_neg q10]
      by_cases q11 : c = 11
      · rw [if_pos q11]; exact lb_557 hn hi H hK
      rw [if_neg q11]
      by_cases q12 : c = 12
      · rw [if_pos q12]; exact lb_600 hn hi H hK
      rw [if_neg q12]
      by_cases q13 : c = 13
      · rw [if_pos q13]; exact lb_623 hn hi H hK
      rw [if_neg q13]
      by_cases q14 : c = 14
      · rw [if_pos q14]; exact lb_676 hn hi H hK
      rw [if_neg q14]
      by_cases q15 : c = 15
      · rw [if_pos q15]; exact lb_709 hn hi H hK
      rw [if_neg q15]
      by_cases q16 : c = 16
      · rw [if_pos q16]; exact lb_742 hn hi H hK
      rw [if_neg q16]
      by_cases q17 : c = 17
      · rw [if_pos q17]; exact lb_765 hn hi H hK
      rw [if_neg q17]
      by_cases q18 : c = 18
      · rw [if_pos q18]; exact lb_808 hn hi H hK
      rw [if_neg q18]
      by_cases q19 : c = 19
      · rw [if_pos q19]; exact lb_883 hn hi H hK
      rw [if_neg q19]
      by_cases q20 : c = 20
      · rw [if_pos q20]; exact lb_916 hn hi H hK
      rw [if_neg q20]
      by_cases q21 : c = 21
      · rw [if_pos q21]; exact lb_959 hn hi H hK
      rw [if_neg q21]
      by_cases q22 : c = 22
      · rw [if_pos q22]; exact lb_992 hn hi H hK
      rw [if_neg q22]
      by_cases q23 : c = 23
      · rw [if_pos q23]; exact lb_1025 hn hi H hK
      rw [if_neg q23]
      by_cases q24 : c = 24
      · rw [if_pos q24]; exact lb_1058 hn hi H hK
      rw [if_neg q24]
      by_cases q25 : c = 25
      · rw [if_pos q25]; exact lb_1091 hn hi H hK
      rw [if_neg q25]
      by_cases q26 : c = 26
      · rw [if_pos q26]; exact lb_1114 hn hi H hK
      rw [if_neg q26]
      by_cases q27 : c = 27
      · rw [if_pos q27]; exact lb_1147 hn hi H hK
      rw [if_neg q27]
      by_cases q28 : c = 28
      · rw [if_pos q28]; exact lb_1190 hn hi H hK
      rw [if_neg q28]
      by_cases q29 : c = 29
      · rw [if_pos q29]; exact lb_1223 hn hi H hK
      rw [if_neg q29]
      by_cases q30 : c = 30
      · rw [if_pos q30]; exact lb_1246 hn hi H hK
      rw [if_neg q30]
      by_cases q31 : c = 31
      · rw [if_pos q31]; exact lb_1279 hn hi H hK
      rw [if_neg q31]
      by_cases q32 : c = 32
      · rw [if_pos q32]; exact lb_1312 hn hi H hK
      rw [if_neg q32]
      by_cases q33 : c = 33
      · rw [if_pos q33]; exact lb_1335 hn hi H hK
      rw [if_neg q33]
      by_cases q34 : c = 34
      · rw [if_pos q34]; exact lb_1388 hn hi H hK
      rw [if_neg q34]
      by_cases q35 : c = 35
      · rw [if_pos q35]; exact lb_1421 hn hi H hK
      rw [if_neg q35]
      by_cases q36 : c = 36
      · rw [if_pos q36]; exact lb_1474 hn hi H hK
      rw [if_neg q36]
      by_cases q37 : c = 37
      · rw [if_pos q37]; exact lb_1497 hn hi H hK
      rw [if_neg q37]
      by_cases q38 : c = 38
      · rw [if_pos q38]; exact lb_1520 hn hi H hK
      rw [if_neg q38]
      unfold fL_law_900_b1543
      rw [pz_i7]; exact hK h H
theorem pu_law (G : mv_G) (hL : (mv_x G 0).2.1 ≤ 448) : mv_sat (fL_law_900 G (fun _ _ => 0)) (fun _ => True) := by
  obtain ⟨h1, h2, e1, e2, I⟩ := in_0
  have := lp_18 hL 100 0 mv_F h2 (by omega) (by omega) (by rw [mv_F_eq]; decide) I
  unfold fL_law_900
  simp only [mv_let]
  rw [e1, Option.bind_some, e2, Option.bind_some]
  exact this
