theorem zz_93a : True := trivial
