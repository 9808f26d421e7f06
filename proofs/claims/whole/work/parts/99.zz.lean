theorem zz_one : True := trivial
