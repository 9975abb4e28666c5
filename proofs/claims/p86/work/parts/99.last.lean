theorem z_last : True := trivial
