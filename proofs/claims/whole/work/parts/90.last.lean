theorem gb_end : True := trivial
