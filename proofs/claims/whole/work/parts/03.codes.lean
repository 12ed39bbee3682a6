-- PART: the codes are what the bytes decode to; method names, bytes; printed by gen/gendata.py.
def kd_ok (b : ByteArray) (c : KC) : Bool := c.all (fun q => match decode b q.1 with | .ok r => decide (r = q.2) | .error _ => false)
