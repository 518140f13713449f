/-! TYPES: both sides, what stands between words -/
def trI (id : Int) : Int := 1000 * (id / 200) + id % 200
