section VDEF
def aC (c : ClassId) (a n : Nat) (g : Int → Int) : Nat × va_E := (a, .inl (c, n, .inl (aI g)))
def aL (c : ClassId) (a n : Nat) (g : Int → Int) : Nat × va_E := (a, .inl (c, n, .inr (.inl (bI g))))
def oL (a : Nat) (wide : Int) (high : Int) (border : Int) (pattern : Int) : Nat × va_E := (a, .inr (3, [.int (iI wide), .int (iI high), .int (iI border), .int (iI pattern)]))
def oB (a : Nat → Nat) (door : Int) : Nat × va_E := (a 0, .inr (0, [.ref (a 1), .ref (a 2), .int (iI door)]))
def oC (a : Nat → Nat) (nt : Int) (rc : Int) : Nat × va_E := (a 0, .inr (1, [.int (iI nt), .ref (a 1), .int (iI rc), .ref (a 2), .ref (a 3), .ref (a 4)]))
def oF (a : Nat) (fl : Int) (fr : Int) (ft : Int) (fb : Int) : Nat × va_E := (a, .inr (2, [.int (iI fl), .int (iI fr), .int (iI ft), .int (iI fb)]))
def oP (a : Nat → Nat) (cnt : Int) : Nat × va_E := (a 0, .inr (4, [.int (iI cnt), .ref (a 1), .ref (a 2), .ref (a 3), .ref (a 4), .ref (a 5), .ref (a 6), .ref (a 7), .ref (a 8)]))
def oK (a : Nat → Nat) (kc : Int) (km : Int) : Nat × va_E := (a 0, .inr (5, [.int (iI kc), .int (iI km), .ref (a 1), .ref (a 2)]))
def oW (a : Nat → Nat) (hour : Int) (grt : Int) (beg : Int) : Nat × va_E := (a 0, .inr (6, [.int (iI hour), .int (iI grt), .int (iI beg), .ref (a 1), .ref (a 2)]))
def oG (a : Nat) (xl : Nat) (xb : Nat) (xp : Nat) (xc : Nat) (xk : Nat) (xw : Nat) (xf : Nat) : Nat × va_E := (a, .inr (7, [.ref xl, .ref xb, .ref xp, .ref xc, .ref xk, .ref xw, .ref xf]))
def oM (a : Nat → Nat) (mwide : Int) (mhigh : Int) (mborder : Int) (mpattern : Int) (mdoor : Int) (mpieces : Int) (mtiles : Int) (mrests : Int) (mcrates : Int) (mmoves : Int) (manyLaid : Int) (mgrout : Int) (mhour : Int) (mthrown : Int) : Nat × va_E := (a 0, .inr (8, [.int (iI mwide), .int (iI mhigh), .int (iI mborder), .int (iI mpattern), .int (iI mdoor), .ref (a 1), .ref (a 2), .ref (a 3), .ref (a 4), .ref (a 5), .ref (a 6), .ref (a 7), .ref (a 8), .ref (a 9), .ref (a 10), .ref (a 11), .int (iI mpieces), .int (iI mtiles), .ref (a 12), .ref (a 13), .ref (a 14), .int (iI mrests), .ref (a 15), .ref (a 16), .int (iI mcrates), .int (iI mmoves), .ref (a 17), .int (iI manyLaid), .int (iI mgrout), .int (iI mhour), .int (iI mthrown)]))
end VDEF
