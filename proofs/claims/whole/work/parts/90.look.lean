theorem tq_look : True := trivial
