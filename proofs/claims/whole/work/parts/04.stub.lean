theorem gl_stub : True := trivial
