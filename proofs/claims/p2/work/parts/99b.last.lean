theorem bc_last : True := trivial
