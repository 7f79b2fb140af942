theorem zz_44 : True := trivial
