theorem zz_95 : True := trivial
