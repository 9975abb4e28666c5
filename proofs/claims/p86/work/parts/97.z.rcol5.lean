/-- how the reference calls the way w -/
def howW (w : Int) : Int := if w = 0 then 3 else w - 1
end Rcol5
