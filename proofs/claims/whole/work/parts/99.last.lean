theorem j_last : True := trivial
