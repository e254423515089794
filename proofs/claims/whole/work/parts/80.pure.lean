theorem pu_law (G : mv_G) (hL : (mv_x G 0).2.1 ≤ 448) : mv_sat (fL_law_900 G (fun _ _ => 0)) (fun _ => True) := sorry
