theorem tstA (a b c : Int32) : a - b - c = a - c - b := by grind
theorem tstB (a b c d : Int32) : (a - b) * c + d = d + a * c - b * c := by grind
