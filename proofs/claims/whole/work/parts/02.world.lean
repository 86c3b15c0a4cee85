theorem fm_triv : True := trivial
