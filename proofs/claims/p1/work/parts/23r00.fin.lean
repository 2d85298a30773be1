/-! THE RUNS OF THE LAW, BY THE KERNEL -/
def s_fin (z : sZ) : Bool := Nat.beq z.1 1 && (Nat.beq z.2.1.1 0 && (s_ile 1 z.2.1.2.1 && (s_ile z.2.1.2.1 1 && Nat.beq z.2.1.2.2 0)))
