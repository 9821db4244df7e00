theorem zz_97 : True := trivial
