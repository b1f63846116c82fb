theorem ww_look : True := trivial
