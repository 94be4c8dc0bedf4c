theorem pm_zz : True := trivial
