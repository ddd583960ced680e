/-! ranks: the reference -/
section QK3
variable {P : qP} {hs : List qP} {sv : qP} {σ : qS}
abbrev sA (P : qP) (t : Nat) : Int := (pL P t).toInt - (pE P t).toInt
abbrev sB (P : qP) (t : Nat) : Int := (pf P 0 t).toInt
abbrev vA (P : qP) (t : Nat) : Int := (pV P t : Int)
abbrev vB (P : qP) (t : Nat) : Int := (pf P 2 t).toInt

end QK3

