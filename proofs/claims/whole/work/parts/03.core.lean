theorem sx_t : True := trivial
