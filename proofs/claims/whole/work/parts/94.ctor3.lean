theorem zz_94 : True := trivial
