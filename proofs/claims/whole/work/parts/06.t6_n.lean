theorem t6_x : True := trivial
