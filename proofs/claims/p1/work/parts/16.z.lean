theorem zx_last : True := trivial
