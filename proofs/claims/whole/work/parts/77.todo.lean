theorem st_cut (p0 p1 : Int32) : Sim (fX9_cut_0 p0 p1) (fX10_cut_55 p0 p1) := sorry
theorem st_most (p0 p1 : Int32) : Sim (fX9_most_0 p0 p1) (fX10_most_55 p0 p1) := sorry
