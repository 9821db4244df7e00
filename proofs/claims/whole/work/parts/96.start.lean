theorem zz_96 : True := trivial
