theorem mt_dummy : True := trivial
