theorem sm_end : True := trivial
