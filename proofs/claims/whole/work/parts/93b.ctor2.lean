theorem zz_93b : True := trivial
