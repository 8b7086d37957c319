theorem zz_dummy : True := trivial
theorem zz_d2 (f : hPl) : hup f 0 (oC 0 []) 0 = some (oC 0 []) := hup_s
