theorem st_most (p0 p1 : Int32) : Sim (fX9_most_0 p0 p1) (fX10_most_55 p0 p1) := sorry
