/-! what the methods of the class compute, laid by program out of the bytecode -/
def fX0_become (q0 : Nat) (q1 : Nat) (σ : kS) : Option kS :=
  if kcpy (0 : Int32) (0 : Int32) (6 : Int32) 6 6 then
  if kcpy (0 : Int32) (0 : Int32) (6 : Int32) 6 6 then
  if kcpy (0 : Int32) (0 : Int32) (6 : Int32) 6 6 then
  if kcpy (0 : Int32) (0 : Int32) (6 : Int32) 6 6 then
  some (krow (krow (krow (krow (kup (kup (kup σ q0 0 (σ q1 0)) q0 1 ((kup σ q0 0 (σ q1 0)) q1 1)) q0 2 ((kup (kup σ q0 0 (σ q1 0)) q0 1 ((kup σ q0 0 (σ q1 0)) q1 1)) q1 2)) (q0 + 1) (va_cpy ((kup (kup (kup σ q0 0 (σ q1 0)) q0 1 ((kup σ q0 0 (σ q1 0)) q1 1)) q0 2 ((kup (kup σ q0 0 (σ q1 0)) q0 1 ((kup σ q0 0 (σ q1 0)) q1 1)) q1 2)) (q1 + 1)) ((kup (kup (kup σ q0 0 (σ q1 0)) q0 1 ((kup σ q0 0 (σ q1 0)) q1 1)) q0 2 ((kup (kup σ q0 0 (σ q1 0)) q0 1 ((kup σ q0 0 (σ q1 0)) q1 1)) q1 2)) (q0 + 1)) (Int32.toNatClampNeg (0 : Int32)) (Int32.toNatClampNeg (0 : Int32)) (Int32.toNatClampNeg (6 : Int32)))) (q0 + 2) (va_cpy ((krow (kup (kup (kup σ q0 0 (σ q1 0)) q0 1 ((kup σ q0 0 (σ q1 0)) q1 1)) q0 2 ((kup (kup σ q0 0 (σ q1 0)) q0 1 ((kup σ q0 0 (σ q1 0)) q1 1)) q1 2)) (q0 + 1) (va_cpy ((kup (kup (kup σ q0 0 (σ q1 0)) q0 1 ((kup σ q0 0 (σ q1 0)) q1 1)) q0 2 ((kup (kup σ q0 0 (σ q1 0)) q0 1 ((kup σ q0 0 (σ q1 0)) q1 1)) q1 2)) (q1 + 1)) ((kup (kup (kup σ q0 0 (σ q1 0)) q0 1 ((kup σ q0 0 (σ q1 0)) q1 1)) q0 2 ((kup (kup σ q0 0 (σ q1 0)) q0 1 ((kup σ q0 0 (σ q1 0)) q1 1)) q1 2)) (q0 + 1)) (Int32.toNatClampNeg (0 : Int32)) (Int32.toNatClampNeg (0 : Int32)) (Int32.toNatClampNeg (6 : Int32)))) (q1 + 2)) ((krow (kup (kup (kup σ q0 0 (σ q1 0)) q0 1 ((kup σ q0 0 (σ q1 0)) q1 1)) q0 2 ((kup (kup σ q0 0 (σ q1 0)) q0 1 ((kup σ q0 0 (σ q1 0)) q1 1)) q1 2)) (q0 + 1) (va_cpy ((kup (kup (kup σ q0 0 (σ q1 0)) q0 1 ((kup σ q0 0 (σ q1 0)) q1 1)) q0 2 ((kup (kup σ q0 0 (σ q1 0)) q0 1 ((kup σ q0 0 (σ q1 0)) q1 1)) q1 2)) (q1 + 1)) ((kup (kup (kup σ q0 0 (σ q1 0)) q0 1 ((kup σ q0 0 (σ q1 0)) q1 1)) q0 2 ((kup (kup σ q0 0 (σ q1 0)) q0 1 ((kup σ q0 0 (σ q1 0)) q1 1)) q1 2)) (q0 + 1)) (Int32.toNatClampNeg (0 : Int32)) (Int32.toNatClampNeg (0 : Int32)) (Int32.toNatClampNeg (6 : Int32)))) (q0 + 2)) (Int32.toNatClampNeg (0 : Int32)) (Int32.toNatClampNeg (0 : Int32)) (Int32.toNatClampNeg (6 : Int32)))) (q0 + 3) (va_cpy ((krow (krow (kup (kup (kup σ q0 0 (σ q1 0)) q0 1 ((kup σ q0 0 (σ q1 0)) q1 1)) q0 2 ((kup (kup σ q0 0 (σ q1 0)) q0 1 ((kup σ q0 0 (σ q1 0)) q1 1)) q1 2)) (q0 + 1) (va_cpy ((kup (kup (kup σ q0 0 (σ q1 0)) q0 1 ((kup σ q0 0 (σ q1 0)) q1 1)) q0 2 ((kup (kup σ q0 0 (σ q1 0)) q0 1 ((kup σ q0 0 (σ q1 0)) q1 1)) q1 2)) (q1 + 1)) ((kup (kup (kup σ q0 0 (σ q1 0)) q0 1 ((kup σ q0 0 (σ q1 0)) q1 1)) q0 2 ((kup (kup σ q0 0 (σ q1 0)) q0 1 ((kup σ q0 0 (σ q1 0)) q1 1)) q1 2)) (q0 + 1)) (Int32.toNatClampNeg (0 : Int32)) (Int32.toNatClampNeg (0 : Int32)) (Int32.toNatClampNeg (6 : Int32)))) (q0 + 2) (va_cpy ((krow (kup (kup (kup σ q0 0 (σ q1 0)) q0 1 ((kup σ q0 0 (σ q1 0)) q1 1)) q0 2 ((kup (kup σ q0 0 (σ q1 0)) q0 1 ((kup σ q0 0 (σ q1 0)) q1 1)) q1 2)) (q0 + 1) (va_cpy ((kup (kup (kup σ q0 0 (σ q1 0)) q0 1 ((kup σ q0 0 (σ q1 0)) q1 1)) q0 2 ((kup (kup σ q0 0 (σ q1 0)) q0 1 ((kup σ q0 0 (σ q1 0)) q1 1)) q1 2)) (q1 + 1)) ((kup (kup (kup σ q0 0 (σ q1 0)) q0 1 ((kup σ q0 0 (σ q1 0)) q1 1)) q0 2 ((kup (kup σ q0 0 (σ q1 0)) q0 1 ((kup σ q0 0 (σ q1 0)) q1 1)) q1 2)) (q0 + 1)) (Int32.toNatClampNeg (0 : Int32)) (Int32.toNatClampNeg (0 : Int32)) (Int32.toNatClampNeg (6 : Int32)))) (q1 + 2)) ((krow (kup (kup (kup σ q0 0 (σ q1 0)) q0 1 ((kup σ q0 0 (σ q1 0)) q1 1)) q0 2 ((kup (kup σ q0 0 (σ q1 0)) q0 1 ((kup σ q0 0 (σ q1 0)) q1 1)) q1 2)) (q0 + 1) (va_cpy ((kup (kup (kup σ q0 0 (σ q1 0)) q0 1 ((kup σ q0 0 (σ q1 0)) q1 1)) q0 2 ((kup (kup σ q0 0 (σ q1 0)) q0 1 ((kup σ q0 0 (σ q1 0)) q1 1)) q1 2)) (q1 + 1)) ((kup (kup (kup σ q0 0 (σ q1 0)) q0 1 ((kup σ q0 0 (σ q1 0)) q1 1)) q0 2 ((kup (kup σ q0 0 (σ q1 0)) q0 1 ((kup σ q0 0 (σ q1 0)) q1 1)) q1 2)) (q0 + 1)) (Int32.toNatClampNeg (0 : Int32)) (Int32.toNatClampNeg (0 : Int32)) (Int32.toNatClampNeg (6 : Int32)))) (q0 + 2)) (Int32.toNatClampNeg (0 : Int32)) (Int32.toNatClampNeg (0 : Int32)) (Int32.toNatClampNeg (6 : Int32)))) (q1 + 3)) ((krow (krow (kup (kup (kup σ q0 0 (σ q1 0)) q0 1 ((kup σ q0 0 (σ q1 0)) q1 1)) q0 2 ((kup (kup σ q0 0 (σ q1 0)) q0 1 ((kup σ q0 0 (σ q1 0)) q1 1)) q1 2)) (q0 + 1) (va_cpy ((kup (kup (kup σ q0 0 (σ q1 0)) q0 1 ((kup σ q0 0 (σ q1 0)) q1 1)) q0 2 ((kup (kup σ q0 0 (σ q1 0)) q0 1 ((kup σ q0 0 (σ q1 0)) q1 1)) q1 2)) (q1 + 1)) ((kup (kup (kup σ q0 0 (σ q1 0)) q0 1 ((kup σ q0 0 (σ q1 0)) q1 1)) q0 2 ((kup (kup σ q0 0 (σ q1 0)) q0 1 ((kup σ q0 0 (σ q1 0)) q1 1)) q1 2)) (q0 + 1)) (Int32.toNatClampNeg (0 : Int32)) (Int32.toNatClampNeg (0 : Int32)) (Int32.toNatClampNeg (6 : Int32)))) (q0 + 2) (va_cpy ((krow (kup (kup (kup σ q0 0 (σ q1 0)) q0 1 ((kup σ q0 0 (σ q1 0)) q1 1)) q0 2 ((kup (kup σ q0 0 (σ q1 0)) q0 1 ((kup σ q0 0 (σ q1 0)) q1 1)) q1 2)) (q0 + 1) (va_cpy ((kup (kup (kup σ q0 0 (σ q1 0)) q0 1 ((kup σ q0 0 (σ q1 0)) q1 1)) q0 2 ((kup (kup σ q0 0 (σ q1 0)) q0 1 ((kup σ q0 0 (σ q1 0)) q1 1)) q1 2)) (q1 + 1)) ((kup (kup (kup σ q0 0 (σ q1 0)) q0 1 ((kup σ q0 0 (σ q1 0)) q1 1)) q0 2 ((kup (kup σ q0 0 (σ q1 0)) q0 1 ((kup σ q0 0 (σ q1 0)) q1 1)) q1 2)) (q0 + 1)) (Int32.toNatClampNeg (0 : Int32)) (Int32.toNatClampNeg (0 : Int32)) (Int32.toNatClampNeg (6 : Int32)))) (q1 + 2)) ((krow (kup (kup (kup σ q0 0 (σ q1 0)) q0 1 ((kup σ q0 0 (σ q1 0)) q1 1)) q0 2 ((kup (kup σ q0 0 (σ q1 0)) q0 1 ((kup σ q0 0 (σ q1 0)) q1 1)) q1 2)) (q0 + 1) (va_cpy ((kup (kup (kup σ q0 0 (σ q1 0)) q0 1 ((kup σ q0 0 (σ q1 0)) q1 1)) q0 2 ((kup (kup σ q0 0 (σ q1 0)) q0 1 ((kup σ q0 0 (σ q1 0)) q1 1)) q1 2)) (q1 + 1)) ((kup (kup (kup σ q0 0 (σ q1 0)) q0 1 ((kup σ q0 0 (σ q1 0)) q1 1)) q0 2 ((kup (kup σ q0 0 (σ q1 0)) q0 1 ((kup σ q0 0 (σ q1 0)) q1 1)) q1 2)) (q0 + 1)) (Int32.toNatClampNeg (0 : Int32)) (Int32.toNatClampNeg (0 : Int32)) (Int32.toNatClampNeg (6 : Int32)))) (q0 + 2)) (Int32.toNatClampNeg (0 : Int32)) (Int32.toNatClampNeg (0 : Int32)) (Int32.toNatClampNeg (6 : Int32)))) (q0 + 3)) (Int32.toNatClampNeg (0 : Int32)) (Int32.toNatClampNeg (0 : Int32)) (Int32.toNatClampNeg (6 : Int32)))) (q0 + 4) (va_cpy ((krow (krow (krow (kup (kup (kup σ q0 0 (σ q1 0)) q0 1 ((kup σ q0 0 (σ q1 0)) q1 1)) q0 2 ((kup (kup σ q0 0 (σ q1 0)) q0 1 ((kup σ q0 0 (σ q1 0)) q1 1)) q1 2)) (q0 + 1) (va_cpy ((kup (kup (kup σ q0 0 (σ q1 0)) q0 1 ((kup σ q0 0 (σ q1 0)) q1 1)) q0 2 ((kup (kup σ q0 0 (σ q1 0)) q0 1 ((kup σ q0 0 (σ q1 0)) q1 1)) q1 2)) (q1 + 1)) ((kup (kup (kup σ q0 0 (σ q1 0)) q0 1 ((kup σ q0 0 (σ q1 0)) q1 1)) q0 2 ((kup (kup σ q0 0 (σ q1 0)) q0 1 ((kup σ q0 0 (σ q1 0)) q1 1)) q1 2)) (q0 + 1)) (Int32.toNatClampNeg (0 : Int32)) (Int32.toNatClampNeg (0 : Int32)) (Int32.toNatClampNeg (6 : Int32)))) (q0 + 2) (va_cpy ((krow (kup (kup (kup σ q0 0 (σ q1 0)) q0 1 ((kup σ q0 0 (σ q1 0)) q1 1)) q0 2 ((kup (kup σ q0 0 (σ q1 0)) q0 1 ((kup σ q0 0 (σ q1 0)) q1 1)) q1 2)) (q0 + 1) (va_cpy ((kup (kup (kup σ q0 0 (σ q1 0)) q0 1 ((kup σ q0 0 (σ q1 0)) q1 1)) q0 2 ((kup (kup σ q0 0 (σ q1 0)) q0 1 ((kup σ q0 0 (σ q1 0)) q1 1)) q1 2)) (q1 + 1)) ((kup (kup (kup σ q0 0 (σ q1 0)) q0 1 ((kup σ q0 0 (σ q1 0)) q1 1)) q0 2 ((kup (kup σ q0 0 (σ q1 0)) q0 1 ((kup σ q0 0 (σ q1 0)) q1 1)) q1 2)) (q0 + 1)) (Int32.toNatClampNeg (0 : Int32)) (Int32.toNatClampNeg (0 : Int32)) (Int32.toNatClampNeg (6 : Int32)))) (q1 + 2)) ((krow (kup (kup (kup σ q0 0 (σ q1 0)) q0 1 ((kup σ q0 0 (σ q1 0)) q1 1)) q0 2 ((kup (kup σ q0 0 (σ q1 0)) q0 1 ((kup σ q0 0 (σ q1 0)) q1 1)) q1 2)) (q0 + 1) (va_cpy ((kup (kup (kup σ q0 0 (σ q1 0)) q0 1 ((kup σ q0 0 (σ q1 0)) q1 1)) q0 2 ((kup (kup σ q0 0 (σ q1 0)) q0 1 ((kup σ q0 0 (σ q1 0)) q1 1)) q1 2)) (q1 + 1)) ((kup (kup (kup σ q0 0 (σ q1 0)) q0 1 ((kup σ q0 0 (σ q1 0)) q1 1)) q0 2 ((kup (kup σ q0 0 (σ q1 0)) q0 1 ((kup σ q0 0 (σ q1 0)) q1 1)) q1 2)) (q0 + 1)) (Int32.toNatClampNeg (0 : Int32)) (Int32.toNatClampNeg (0 : Int32)) (Int32.toNatClampNeg (6 : Int32)))) (q0 + 2)) (Int32.toNatClampNeg (0 : Int32)) (Int32.toNatClampNeg (0 : Int32)) (Int32.toNatClampNeg (6 : Int32)))) (q0 + 3) (va_cpy ((krow (krow (kup (kup (kup σ q0 0 (σ q1 0)) q0 1 ((kup σ q0 0 (σ q1 0)) q1 1)) q0 2 ((kup (kup σ q0 0 (σ q1 0)) q0 1 ((kup σ q0 0 (σ q1 0)) q1 1)) q1 2)) (q0 + 1) (va_cpy ((kup (kup (kup σ q0 0 (σ q1 0)) q0 1 ((kup σ q0 0 (σ q1 0)) q1 1)) q0 2 ((kup (kup σ q0 0 (σ q1 0)) q0 1 ((kup σ q0 0 (σ q1 0)) q1 1)) q1 2)) (q1 + 1)) ((kup (kup (kup σ q0 0 (σ q1 0)) q0 1 ((kup σ q0 0 (σ q1 0)) q1 1)) q0 2 ((kup (kup σ q0 0 (σ q1 0)) q0 1 ((kup σ q0 0 (σ q1 0)) q1 1)) q1 2)) (q0 + 1)) (Int32.toNatClampNeg (0 : Int32)) (Int32.toNatClampNeg (0 : Int32)) (Int32.toNatClampNeg (6 : Int32)))) (q0 + 2) (va_cpy ((krow (kup (kup (kup σ q0 0 (σ q1 0)) q0 1 ((kup σ q0 0 (σ q1 0)) q1 1)) q0 2 ((kup (kup σ q0 0 (σ q1 0)) q0 1 ((kup σ q0 0 (σ q1 0)) q1 1)) q1 2)) (q0 + 1) (va_cpy ((kup (kup (kup σ q0 0 (σ q1 0)) q0 1 ((kup σ q0 0 (σ q1 0)) q1 1)) q0 2 ((kup (kup σ q0 0 (σ q1 0)) q0 1 ((kup σ q0 0 (σ q1 0)) q1 1)) q1 2)) (q1 + 1)) ((kup (kup (kup σ q0 0 (σ q1 0)) q0 1 ((kup σ q0 0 (σ q1 0)) q1 1)) q0 2 ((kup (kup σ q0 0 (σ q1 0)) q0 1 ((kup σ q0 0 (σ q1 0)) q1 1)) q1 2)) (q0 + 1)) (Int32.toNatClampNeg (0 : Int32)) (Int32.toNatClampNeg (0 : Int32)) (Int32.toNatClampNeg (6 : Int32)))) (q1 + 2)) ((krow (kup (kup (kup σ q0 0 (σ q1 0)) q0 1 ((kup σ q0 0 (σ q1 0)) q1 1)) q0 2 ((kup (kup σ q0 0 (σ q1 0)) q0 1 ((kup σ q0 0 (σ q1 0)) q1 1)) q1 2)) (q0 + 1) (va_cpy ((kup (kup (kup σ q0 0 (σ q1 0)) q0 1 ((kup σ q0 0 (σ q1 0)) q1 1)) q0 2 ((kup (kup σ q0 0 (σ q1 0)) q0 1 ((kup σ q0 0 (σ q1 0)) q1 1)) q1 2)) (q1 + 1)) ((kup (kup (kup σ q0 0 (σ q1 0)) q0 1 ((kup σ q0 0 (σ q1 0)) q1 1)) q0 2 ((kup (kup σ q0 0 (σ q1 0)) q0 1 ((kup σ q0 0 (σ q1 0)) q1 1)) q1 2)) (q0 + 1)) (Int32.toNatClampNeg (0 : Int32)) (Int32.toNatClampNeg (0 : Int32)) (Int32.toNatClampNeg (6 : Int32)))) (q0 + 2)) (Int32.toNatClampNeg (0 : Int32)) (Int32.toNatClampNeg (0 : Int32)) (Int32.toNatClampNeg (6 : Int32)))) (q1 + 3)) ((krow (krow (kup (kup (kup σ q0 0 (σ q1 0)) q0 1 ((kup σ q0 0 (σ q1 0)) q1 1)) q0 2 ((kup (kup σ q0 0 (σ q1 0)) q0 1 ((kup σ q0 0 (σ q1 0)) q1 1)) q1 2)) (q0 + 1) (va_cpy ((kup (kup (kup σ q0 0 (σ q1 0)) q0 1 ((kup σ q0 0 (σ q1 0)) q1 1)) q0 2 ((kup (kup σ q0 0 (σ q1 0)) q0 1 ((kup σ q0 0 (σ q1 0)) q1 1)) q1 2)) (q1 + 1)) ((kup (kup (kup σ q0 0 (σ q1 0)) q0 1 ((kup σ q0 0 (σ q1 0)) q1 1)) q0 2 ((kup (kup σ q0 0 (σ q1 0)) q0 1 ((kup σ q0 0 (σ q1 0)) q1 1)) q1 2)) (q0 + 1)) (Int32.toNatClampNeg (0 : Int32)) (Int32.toNatClampNeg (0 : Int32)) (Int32.toNatClampNeg (6 : Int32)))) (q0 + 2) (va_cpy ((krow (kup (kup (kup σ q0 0 (σ q1 0)) q0 1 ((kup σ q0 0 (σ q1 0)) q1 1)) q0 2 ((kup (kup σ q0 0 (σ q1 0)) q0 1 ((kup σ q0 0 (σ q1 0)) q1 1)) q1 2)) (q0 + 1) (va_cpy ((kup (kup (kup σ q0 0 (σ q1 0)) q0 1 ((kup σ q0 0 (σ q1 0)) q1 1)) q0 2 ((kup (kup σ q0 0 (σ q1 0)) q0 1 ((kup σ q0 0 (σ q1 0)) q1 1)) q1 2)) (q1 + 1)) ((kup (kup (kup σ q0 0 (σ q1 0)) q0 1 ((kup σ q0 0 (σ q1 0)) q1 1)) q0 2 ((kup (kup σ q0 0 (σ q1 0)) q0 1 ((kup σ q0 0 (σ q1 0)) q1 1)) q1 2)) (q0 + 1)) (Int32.toNatClampNeg (0 : Int32)) (Int32.toNatClampNeg (0 : Int32)) (Int32.toNatClampNeg (6 : Int32)))) (q1 + 2)) ((krow (kup (kup (kup σ q0 0 (σ q1 0)) q0 1 ((kup σ q0 0 (σ q1 0)) q1 1)) q0 2 ((kup (kup σ q0 0 (σ q1 0)) q0 1 ((kup σ q0 0 (σ q1 0)) q1 1)) q1 2)) (q0 + 1) (va_cpy ((kup (kup (kup σ q0 0 (σ q1 0)) q0 1 ((kup σ q0 0 (σ q1 0)) q1 1)) q0 2 ((kup (kup σ q0 0 (σ q1 0)) q0 1 ((kup σ q0 0 (σ q1 0)) q1 1)) q1 2)) (q1 + 1)) ((kup (kup (kup σ q0 0 (σ q1 0)) q0 1 ((kup σ q0 0 (σ q1 0)) q1 1)) q0 2 ((kup (kup σ q0 0 (σ q1 0)) q0 1 ((kup σ q0 0 (σ q1 0)) q1 1)) q1 2)) (q0 + 1)) (Int32.toNatClampNeg (0 : Int32)) (Int32.toNatClampNeg (0 : Int32)) (Int32.toNatClampNeg (6 : Int32)))) (q0 + 2)) (Int32.toNatClampNeg (0 : Int32)) (Int32.toNatClampNeg (0 : Int32)) (Int32.toNatClampNeg (6 : Int32)))) (q0 + 3)) (Int32.toNatClampNeg (0 : Int32)) (Int32.toNatClampNeg (0 : Int32)) (Int32.toNatClampNeg (6 : Int32)))) (q1 + 4)) ((krow (krow (krow (kup (kup (kup σ q0 0 (σ q1 0)) q0 1 ((kup σ q0 0 (σ q1 0)) q1 1)) q0 2 ((kup (kup σ q0 0 (σ q1 0)) q0 1 ((kup σ q0 0 (σ q1 0)) q1 1)) q1 2)) (q0 + 1) (va_cpy ((kup (kup (kup σ q0 0 (σ q1 0)) q0 1 ((kup σ q0 0 (σ q1 0)) q1 1)) q0 2 ((kup (kup σ q0 0 (σ q1 0)) q0 1 ((kup σ q0 0 (σ q1 0)) q1 1)) q1 2)) (q1 + 1)) ((kup (kup (kup σ q0 0 (σ q1 0)) q0 1 ((kup σ q0 0 (σ q1 0)) q1 1)) q0 2 ((kup (kup σ q0 0 (σ q1 0)) q0 1 ((kup σ q0 0 (σ q1 0)) q1 1)) q1 2)) (q0 + 1)) (Int32.toNatClampNeg (0 : Int32)) (Int32.toNatClampNeg (0 : Int32)) (Int32.toNatClampNeg (6 : Int32)))) (q0 + 2) (va_cpy ((krow (kup (kup (kup σ q0 0 (σ q1 0)) q0 1 ((kup σ q0 0 (σ q1 0)) q1 1)) q0 2 ((kup (kup σ q0 0 (σ q1 0)) q0 1 ((kup σ q0 0 (σ q1 0)) q1 1)) q1 2)) (q0 + 1) (va_cpy ((kup (kup (kup σ q0 0 (σ q1 0)) q0 1 ((kup σ q0 0 (σ q1 0)) q1 1)) q0 2 ((kup (kup σ q0 0 (σ q1 0)) q0 1 ((kup σ q0 0 (σ q1 0)) q1 1)) q1 2)) (q1 + 1)) ((kup (kup (kup σ q0 0 (σ q1 0)) q0 1 ((kup σ q0 0 (σ q1 0)) q1 1)) q0 2 ((kup (kup σ q0 0 (σ q1 0)) q0 1 ((kup σ q0 0 (σ q1 0)) q1 1)) q1 2)) (q0 + 1)) (Int32.toNatClampNeg (0 : Int32)) (Int32.toNatClampNeg (0 : Int32)) (Int32.toNatClampNeg (6 : Int32)))) (q1 + 2)) ((krow (kup (kup (kup σ q0 0 (σ q1 0)) q0 1 ((kup σ q0 0 (σ q1 0)) q1 1)) q0 2 ((kup (kup σ q0 0 (σ q1 0)) q0 1 ((kup σ q0 0 (σ q1 0)) q1 1)) q1 2)) (q0 + 1) (va_cpy ((kup (kup (kup σ q0 0 (σ q1 0)) q0 1 ((kup σ q0 0 (σ q1 0)) q1 1)) q0 2 ((kup (kup σ q0 0 (σ q1 0)) q0 1 ((kup σ q0 0 (σ q1 0)) q1 1)) q1 2)) (q1 + 1)) ((kup (kup (kup σ q0 0 (σ q1 0)) q0 1 ((kup σ q0 0 (σ q1 0)) q1 1)) q0 2 ((kup (kup σ q0 0 (σ q1 0)) q0 1 ((kup σ q0 0 (σ q1 0)) q1 1)) q1 2)) (q0 + 1)) (Int32.toNatClampNeg (0 : Int32)) (Int32.toNatClampNeg (0 : Int32)) (Int32.toNatClampNeg (6 : Int32)))) (q0 + 2)) (Int32.toNatClampNeg (0 : Int32)) (Int32.toNatClampNeg (0 : Int32)) (Int32.toNatClampNeg (6 : Int32)))) (q0 + 3) (va_cpy ((krow (krow (kup (kup (kup σ q0 0 (σ q1 0)) q0 1 ((kup σ q0 0 (σ q1 0)) q1 1)) q0 2 ((kup (kup σ q0 0 (σ q1 0)) q0 1 ((kup σ q0 0 (σ q1 0)) q1 1)) q1 2)) (q0 + 1) (va_cpy ((kup (kup (kup σ q0 0 (σ q1 0)) q0 1 ((kup σ q0 0 (σ q1 0)) q1 1)) q0 2 ((kup (kup σ q0 0 (σ q1 0)) q0 1 ((kup σ q0 0 (σ q1 0)) q1 1)) q1 2)) (q1 + 1)) ((kup (kup (kup σ q0 0 (σ q1 0)) q0 1 ((kup σ q0 0 (σ q1 0)) q1 1)) q0 2 ((kup (kup σ q0 0 (σ q1 0)) q0 1 ((kup σ q0 0 (σ q1 0)) q1 1)) q1 2)) (q0 + 1)) (Int32.toNatClampNeg (0 : Int32)) (Int32.toNatClampNeg (0 : Int32)) (Int32.toNatClampNeg (6 : Int32)))) (q0 + 2) (va_cpy ((krow (kup (kup (kup σ q0 0 (σ q1 0)) q0 1 ((kup σ q0 0 (σ q1 0)) q1 1)) q0 2 ((kup (kup σ q0 0 (σ q1 0)) q0 1 ((kup σ q0 0 (σ q1 0)) q1 1)) q1 2)) (q0 + 1) (va_cpy ((kup (kup (kup σ q0 0 (σ q1 0)) q0 1 ((kup σ q0 0 (σ q1 0)) q1 1)) q0 2 ((kup (kup σ q0 0 (σ q1 0)) q0 1 ((kup σ q0 0 (σ q1 0)) q1 1)) q1 2)) (q1 + 1)) ((kup (kup (kup σ q0 0 (σ q1 0)) q0 1 ((kup σ q0 0 (σ q1 0)) q1 1)) q0 2 ((kup (kup σ q0 0 (σ q1 0)) q0 1 ((kup σ q0 0 (σ q1 0)) q1 1)) q1 2)) (q0 + 1)) (Int32.toNatClampNeg (0 : Int32)) (Int32.toNatClampNeg (0 : Int32)) (Int32.toNatClampNeg (6 : Int32)))) (q1 + 2)) ((krow (kup (kup (kup σ q0 0 (σ q1 0)) q0 1 ((kup σ q0 0 (σ q1 0)) q1 1)) q0 2 ((kup (kup σ q0 0 (σ q1 0)) q0 1 ((kup σ q0 0 (σ q1 0)) q1 1)) q1 2)) (q0 + 1) (va_cpy ((kup (kup (kup σ q0 0 (σ q1 0)) q0 1 ((kup σ q0 0 (σ q1 0)) q1 1)) q0 2 ((kup (kup σ q0 0 (σ q1 0)) q0 1 ((kup σ q0 0 (σ q1 0)) q1 1)) q1 2)) (q1 + 1)) ((kup (kup (kup σ q0 0 (σ q1 0)) q0 1 ((kup σ q0 0 (σ q1 0)) q1 1)) q0 2 ((kup (kup σ q0 0 (σ q1 0)) q0 1 ((kup σ q0 0 (σ q1 0)) q1 1)) q1 2)) (q0 + 1)) (Int32.toNatClampNeg (0 : Int32)) (Int32.toNatClampNeg (0 : Int32)) (Int32.toNatClampNeg (6 : Int32)))) (q0 + 2)) (Int32.toNatClampNeg (0 : Int32)) (Int32.toNatClampNeg (0 : Int32)) (Int32.toNatClampNeg (6 : Int32)))) (q1 + 3)) ((krow (krow (kup (kup (kup σ q0 0 (σ q1 0)) q0 1 ((kup σ q0 0 (σ q1 0)) q1 1)) q0 2 ((kup (kup σ q0 0 (σ q1 0)) q0 1 ((kup σ q0 0 (σ q1 0)) q1 1)) q1 2)) (q0 + 1) (va_cpy ((kup (kup (kup σ q0 0 (σ q1 0)) q0 1 ((kup σ q0 0 (σ q1 0)) q1 1)) q0 2 ((kup (kup σ q0 0 (σ q1 0)) q0 1 ((kup σ q0 0 (σ q1 0)) q1 1)) q1 2)) (q1 + 1)) ((kup (kup (kup σ q0 0 (σ q1 0)) q0 1 ((kup σ q0 0 (σ q1 0)) q1 1)) q0 2 ((kup (kup σ q0 0 (σ q1 0)) q0 1 ((kup σ q0 0 (σ q1 0)) q1 1)) q1 2)) (q0 + 1)) (Int32.toNatClampNeg (0 : Int32)) (Int32.toNatClampNeg (0 : Int32)) (Int32.toNatClampNeg (6 : Int32)))) (q0 + 2) (va_cpy ((krow (kup (kup (kup σ q0 0 (σ q1 0)) q0 1 ((kup σ q0 0 (σ q1 0)) q1 1)) q0 2 ((kup (kup σ q0 0 (σ q1 0)) q0 1 ((kup σ q0 0 (σ q1 0)) q1 1)) q1 2)) (q0 + 1) (va_cpy ((kup (kup (kup σ q0 0 (σ q1 0)) q0 1 ((kup σ q0 0 (σ q1 0)) q1 1)) q0 2 ((kup (kup σ q0 0 (σ q1 0)) q0 1 ((kup σ q0 0 (σ q1 0)) q1 1)) q1 2)) (q1 + 1)) ((kup (kup (kup σ q0 0 (σ q1 0)) q0 1 ((kup σ q0 0 (σ q1 0)) q1 1)) q0 2 ((kup (kup σ q0 0 (σ q1 0)) q0 1 ((kup σ q0 0 (σ q1 0)) q1 1)) q1 2)) (q0 + 1)) (Int32.toNatClampNeg (0 : Int32)) (Int32.toNatClampNeg (0 : Int32)) (Int32.toNatClampNeg (6 : Int32)))) (q1 + 2)) ((krow (kup (kup (kup σ q0 0 (σ q1 0)) q0 1 ((kup σ q0 0 (σ q1 0)) q1 1)) q0 2 ((kup (kup σ q0 0 (σ q1 0)) q0 1 ((kup σ q0 0 (σ q1 0)) q1 1)) q1 2)) (q0 + 1) (va_cpy ((kup (kup (kup σ q0 0 (σ q1 0)) q0 1 ((kup σ q0 0 (σ q1 0)) q1 1)) q0 2 ((kup (kup σ q0 0 (σ q1 0)) q0 1 ((kup σ q0 0 (σ q1 0)) q1 1)) q1 2)) (q1 + 1)) ((kup (kup (kup σ q0 0 (σ q1 0)) q0 1 ((kup σ q0 0 (σ q1 0)) q1 1)) q0 2 ((kup (kup σ q0 0 (σ q1 0)) q0 1 ((kup σ q0 0 (σ q1 0)) q1 1)) q1 2)) (q0 + 1)) (Int32.toNatClampNeg (0 : Int32)) (Int32.toNatClampNeg (0 : Int32)) (Int32.toNatClampNeg (6 : Int32)))) (q0 + 2)) (Int32.toNatClampNeg (0 : Int32)) (Int32.toNatClampNeg (0 : Int32)) (Int32.toNatClampNeg (6 : Int32)))) (q0 + 3)) (Int32.toNatClampNeg (0 : Int32)) (Int32.toNatClampNeg (0 : Int32)) (Int32.toNatClampNeg (6 : Int32)))) (q0 + 4)) (Int32.toNatClampNeg (0 : Int32)) (Int32.toNatClampNeg (0 : Int32)) (Int32.toNatClampNeg (6 : Int32))))
  else none
  else none
  else none
  else none
def fJ6_bitCount_0f7a4 (a0 : Int32) (σ : kS) : Option (Int32 × kS) :=
  klet (a0 - (((Int32.toUInt32 a0 >>> (Int32.toUInt32 (1 : Int32) &&& Int32.toUInt32 31)).toInt32) &&& 1431655765)) fun v1 =>
  klet ((v1 &&& 858993459) + (((Int32.toUInt32 v1 >>> (Int32.toUInt32 (2 : Int32) &&& Int32.toUInt32 31)).toInt32) &&& 858993459)) fun v2 =>
  klet ((v2 + ((Int32.toUInt32 v2 >>> (Int32.toUInt32 (4 : Int32) &&& Int32.toUInt32 31)).toInt32)) &&& 252645135) fun v3 =>
  klet (v3 + ((Int32.toUInt32 v3 >>> (Int32.toUInt32 (8 : Int32) &&& Int32.toUInt32 31)).toInt32)) fun v4 =>
  klet (v4 + ((Int32.toUInt32 v4 >>> (Int32.toUInt32 (16 : Int32) &&& Int32.toUInt32 31)).toInt32)) fun v5 =>
  some (v5 &&& 63, σ)
def fX0_scentOf (q0 : Nat) (a1 : Int32) (σ : kS) : Option (Int32 × kS) :=
  if inb a1 6 then
  kbi (fJ6_bitCount_0f7a4 (σ (q0 + 2) (Int32.toNatClampNeg a1)) σ) fun r4 σ3 =>
  if inb a1 6 then
  if (σ3 (q0 + 1) (Int32.toNatClampNeg a1)) = 1 then
    some (r4 + 1, σ3)
  else
    if (σ3 (q0 + 1) (Int32.toNatClampNeg a1)) = 2 then
      some (2 * (r4 + 1), σ3)
    else
      some (r4, σ3)
  else none
  else none
def fX0_distanceOf (q0 : Nat) (a1 : Int32) (σ : kS) : Option (Int32 × kS) :=
  if inb a1 6 then
  some ((if 0 ≤ ((σ (q0 + 4) (Int32.toNatClampNeg a1)) - (σ q0 0)) then ((σ (q0 + 4) (Int32.toNatClampNeg a1)) - (σ q0 0)) else 0 - ((σ (q0 + 4) (Int32.toNatClampNeg a1)) - (σ q0 0))), σ)
  else none
def fX0_isSmelt (q0 : Nat) (a1 : Int32) (σ : kS) : Option (Int32 × kS) :=
  kbi (fX0_distanceOf q0 a1 σ) fun r3 σ2 =>
  kbi (fX0_scentOf q0 a1 σ2) fun r6 σ5 =>
  if r6 < r3 then
    some (0, σ5)
  else
    some (1, σ5)
def fX0_goesTo_L11  : Nat → Nat → Int32 → Int32 → Int32 → Int32 → Int32 → kS → Option (Int32 × kS)
  | 0, _, _, _, _, _, _, _ => none
  | n + 1, q0, a1, a2, a3, a4, a5, σ =>
    if (σ q0 2) ≤ a5 then
      some (a2, σ)
    else
      if inb a5 6 then
      if inb a1 6 then
      kbi (fJ6_bitCount_0f7a4 ((σ (q0 + 2) (Int32.toNatClampNeg a5)) ^^^ (σ (q0 + 3) (Int32.toNatClampNeg a1))) σ) fun r6 σ5 =>
      kbi (fX0_distanceOf q0 a5 σ5) fun r9 σ8 =>
      if (σ8 q0 1) < r6 then
        klet (a5 + 1) fun v11 =>
        fX0_goesTo_L11 n q0 a1 a2 a3 a4 v11 σ8
      else
        kbi (fX0_scentOf q0 a5 σ8) fun r14 σ13 =>
        if r9 ≤ r14 then
          if a2 = (-9) then
            klet (a5 + 1) fun v17 =>
            fX0_goesTo_L11 n q0 a1 a5 r6 r9 v17 σ13
          else
            if r6 < a3 then
              klet (a5 + 1) fun v19 =>
              fX0_goesTo_L11 n q0 a1 a5 r6 r9 v19 σ13
            else
              if r6 = a3 then
                if a4 ≤ r9 then
                  klet (a5 + 1) fun v23 =>
                  fX0_goesTo_L11 n q0 a1 a2 a3 a4 v23 σ13
                else
                  klet (a5 + 1) fun v24 =>
                  fX0_goesTo_L11 n q0 a1 a5 r6 r9 v24 σ13
              else
                klet (a5 + 1) fun v21 =>
                fX0_goesTo_L11 n q0 a1 a2 a3 a4 v21 σ13
        else
          klet (a5 + 1) fun v25 =>
          fX0_goesTo_L11 n q0 a1 a2 a3 a4 v25 σ13
      else none
      else none
def fX0_goesTo (q0 : Nat) (a1 : Int32) (σ : kS) : Option (Int32 × kS) :=
  fX0_goesTo_L11 1000 q0 a1 (-9) 0 0 0 σ
def fX0_deliver (q0 : Nat) (a1 : Int32) (σ : kS) : Option (Int32 × kS) :=
  kbi (fX0_goesTo q0 a1 σ) fun r3 σ2 =>
  if r3 = (-9) then
    some (r3, σ2)
  else
    if inb r3 6 then
    if inb r3 6 then
    some (r3, kup σ2 (q0 + 3) (Int32.toNatClampNeg r3) (σ2 (q0 + 2) (Int32.toNatClampNeg r3)))
    else none
    else none
def fX0_whoseCome_L4  : Nat → Nat → Int32 → Int32 → kS → Option (Int32 × kS)
  | 0, _, _, _, _ => none
  | n + 1, q0, a1, a2, σ =>
    if (σ q0 2) ≤ a2 then
      some (a1, σ)
    else
      kbi (fX0_goesTo q0 a2 σ) fun r4 σ3 =>
      if r4 = a2 then
        klet (a1 ||| ((1 : Int32) <<< (a2 &&& 31))) fun v7 =>
        klet (a2 + 1) fun v8 =>
        fX0_whoseCome_L4 n q0 v7 v8 σ3
      else
        klet (a2 + 1) fun v6 =>
        fX0_whoseCome_L4 n q0 a1 v6 σ3
def fX0_whoseCome (q0 : Nat) (σ : kS) : Option (Int32 × kS) :=
  fX0_whoseCome_L4 1000 q0 0 0 σ
def fX4_withOne (a0 : Int32) (a1 : Int32) (σ : kS) : Option (Int32 × kS) :=
  if a1 = (-9) then
    some (a0, σ)
  else
    some (a0 ||| ((1 : Int32) <<< (a1 &&& 31)), σ)
def fX0_whoGetOne_L4  : Nat → Nat → Int32 → Int32 → kS → Option (Int32 × kS)
  | 0, _, _, _, _ => none
  | n + 1, q0, a1, a2, σ =>
    if (σ q0 2) ≤ a2 then
      some (a1, σ)
    else
      kbi (fX0_goesTo q0 a2 σ) fun r4 σ3 =>
      kbi (fX4_withOne a1 r4 σ3) fun r7 σ6 =>
      klet (a2 + 1) fun v8 =>
      fX0_whoGetOne_L4 n q0 r7 v8 σ6
def fX0_whoGetOne (q0 : Nat) (σ : kS) : Option (Int32 × kS) :=
  fX0_whoGetOne_L4 1000 q0 0 0 σ
def fX1_begin_L17  : Nat → Nat → Int32 → kS → Option kS
  | 0, _, _, _ => none
  | n + 1, q0, a3, σ =>
    if 60 ≤ a3 then
      some σ
    else
      if inb a3 60 then
      klet (a3 + 1) fun v3 =>
      fX1_begin_L17 n q0 v3 (kup σ (q0 + 4) (Int32.toNatClampNeg a3) 0)
      else none
def fX1_begin (q0 : Nat) (a1 : Int32) (a2 : Int32) (σ : kS) : Option kS :=
  fX1_begin_L17 1000 q0 0 (kup (kup (kup σ q0 0 1) q0 1 a1) q0 2 a2)
def fX1_faultAs (q0 : Nat) (a1 : Int32) (σ : kS) : Option (Int32 × kS) :=
  if (σ q0 0) = 0 then
    some (1, σ)
  else
    if (σ q0 1) = a1 then
      some (0, σ)
    else
      some (2, σ)
def fX1_hasCell (q0 : Nat) (a1 : Int32) (σ : kS) : Option (Int32 × kS) :=
  if a1 < 0 then
    some (0, σ)
  else
    if (σ q0 2) ≤ a1 then
      some (0, σ)
    else
      some (1, σ)
def fX1_spans (q0 : Nat) (a1 : Int32) (a2 : Int32) (σ : kS) : Option (Int32 × kS) :=
  if a1 < 0 then
    some (0, σ)
  else
    if (σ q0 2) < a1 then
      some (0, σ)
    else
      if a2 < 0 then
        some (0, σ)
      else
        if ((σ q0 2) - a1) < a2 then
          some (0, σ)
        else
          some (1, σ)
def fX1_write (q0 : Nat) (a1 : Int32) (a2 : Int32) (σ : kS) : Option kS :=
  if (σ q0 1) = 0 then
    if inb a1 60 then
    some (kup σ (q0 + 4) (Int32.toNatClampNeg a1) ((Int32.toInt8 a2).toInt32))
    else none
  else
    if (σ q0 1) = 1 then
      if inb a1 60 then
      some (kup σ (q0 + 4) (Int32.toNatClampNeg a1) ((Int32.toInt16 a2).toInt32))
      else none
    else
      if inb a1 60 then
      some (kup σ (q0 + 4) (Int32.toNatClampNeg a1) a2)
      else none
def fX2_clear  (σ : kS) : Option kS :=
  some (kup (kup (kup (kup σ 20 0 0) 20 1 (-9)) 20 2 0) 20 3 0)
def fX2_add_J32  (a3 : Int32) (σ : kS) : Option kS :=
    if a3 = (-9) then
      kbi (fX4_withOne ((kup σ 20 3 ((σ 20 3) + 1)) 20 2) a3 (kup σ 20 3 ((σ 20 3) + 1))) fun r9 σ8 =>
      some (kup σ8 20 2 r9)
    else
      kbi (fX4_withOne (σ 20 2) a3 σ) fun r6 σ5 =>
      some (kup σ5 20 2 r6)
def fX2_add (a1 : Int32) (a2 : Int32) (a3 : Int32) (σ : kS) : Option kS :=
  if a3 = a2 then
    fX2_add_J32 a3 (kup σ 20 0 ((σ 20 0) + 1))
  else
    if (σ 20 1) = (-9) then
      fX2_add_J32 a3 (kup σ 20 1 a1)
    else
      fX2_add_J32 a3 σ
def fX4_isBelow (a0 : Int32) (a1 : Int32) (σ : kS) : Option (Int32 × kS) :=
  if a0 < 0 then
    some (0, σ)
  else
    if a1 ≤ a0 then
      some (0, σ)
    else
      some (1, σ)
def fX3_isDigitBelow (a0 : Int32) (a1 : Int32) (σ : kS) : Option (Int32 × kS) :=
  kbi (fX4_isBelow (a0 - 48) a1 σ) fun r3 σ2 =>
  some (r3, σ2)
def fX3_goesOnWith (a0 : Int32) (a1 : Int32) (σ : kS) : Option (Int32 × kS) :=
  if a0 < 33 then
    if 3 ≤ a0 then
      if ((a0 - 3) - (a0 - 3) / 5 * 5) = 0 then
        if a1 = 59 then
          some (1, σ)
        else
          some (0, σ)
      else
        if ((a0 - 3) - (a0 - 3) / 5 * 5) = 1 then
          if a1 = 112 then
            some (1, σ)
          else
            if a1 = 114 then
              some (1, σ)
            else
              if a1 = 107 then
                some (1, σ)
              else
                some (0, σ)
        else
          if ((a0 - 3) - (a0 - 3) / 5 * 5) = 2 then
            kbi (fX3_isDigitBelow a1 (8 : Int32) σ) fun r12 σ11 =>
            some (r12, σ11)
          else
            if ((a0 - 3) - (a0 - 3) / 5 * 5) = 3 then
              kbi (fX3_isDigitBelow a1 (8 : Int32) σ) fun r17 σ16 =>
              some (r17, σ16)
            else
              if ((a0 - 3) - (a0 - 3) / 5 * 5) = 4 then
                kbi (fX3_isDigitBelow a1 (10 : Int32) σ) fun r22 σ21 =>
                some (r22, σ21)
              else
                kbi (fX3_isDigitBelow a1 (8 : Int32) σ) fun r26 σ25 =>
                some (r26, σ25)
    else
      if a0 = 0 then
        if a1 = 100 then
          some (1, σ)
        else
          some (0, σ)
      else
        if a0 = 1 then
          kbi (fX3_isDigitBelow a1 (10 : Int32) σ) fun r36 σ35 =>
          some (r36, σ35)
        else
          kbi (fX3_isDigitBelow a1 (4 : Int32) σ) fun r32 σ31 =>
          some (r32, σ31)
  else
    some (0, σ)
def fX3_firstFault_L2  : Nat → Nat → Int32 → Int32 → Int32 → kS → Option (Int32 × kS)
  | 0, _, _, _, _, _ => none
  | n + 1, q0, a1, a2, a3, σ =>
    if a2 ≤ a3 then
      if a2 < 13 then
        some (a2, σ)
      else
        if ((a2 - 3) - (a2 - 3) / 5 * 5) = 0 then
          some ((-9), σ)
        else
          some (a2, σ)
    else
      if inb (a1 + a3) 60 then
      kbi (fX3_goesOnWith a3 (σ q0 (Int32.toNatClampNeg (a1 + a3))) σ) fun r7 σ6 =>
      if r7 = 0 then
        some (a3, σ6)
      else
        klet (a3 + 1) fun v10 =>
        fX3_firstFault_L2 n q0 a1 a2 v10 σ6
      else none
def fX3_firstFault (q0 : Nat) (a1 : Int32) (a2 : Int32) (σ : kS) : Option (Int32 × kS) :=
  fX3_firstFault_L2 1000 q0 a1 a2 0 σ
def fX3_kindOf (a0 : Int32) (σ : kS) : Option (Int32 × kS) :=
  if a0 = 107 then
    some (2, σ)
  else
    if a0 = 114 then
      some (1, σ)
    else
      some (0, σ)
def fX3_fill_L36  : Nat → Nat → Nat → Int32 → Int32 → kS → Option kS
  | 0, _, _, _, _, _ => none
  | n + 1, q0, q1, a2, a4, σ =>
    if (σ q0 2) ≤ a4 then
      some σ
    else
      klet ((a2 + 3) + (5 * a4)) fun v4 =>
      if inb (v4 + 1) 60 then
      kbi (fX3_kindOf (σ q1 (Int32.toNatClampNeg (v4 + 1))) σ) fun r8 σ7 =>
      if inb a4 6 then
      if inb (v4 + 2) 60 then
      if inb a4 6 then
      if inb (v4 + 3) 60 then
      if inb a4 6 then
      if inb (v4 + 4) 60 then
      if inb a4 6 then
      klet (a4 + 1) fun v16 =>
      fX3_fill_L36 n q0 q1 a2 v16 (kup (kup (kup (kup σ7 (q0 + 1) (Int32.toNatClampNeg a4) r8) (q0 + 2) (Int32.toNatClampNeg a4) (((kup σ7 (q0 + 1) (Int32.toNatClampNeg a4) r8) q1 (Int32.toNatClampNeg (v4 + 2))) - 48)) (q0 + 3) (Int32.toNatClampNeg a4) (((kup (kup σ7 (q0 + 1) (Int32.toNatClampNeg a4) r8) (q0 + 2) (Int32.toNatClampNeg a4) (((kup σ7 (q0 + 1) (Int32.toNatClampNeg a4) r8) q1 (Int32.toNatClampNeg (v4 + 2))) - 48)) q1 (Int32.toNatClampNeg (v4 + 3))) - 48)) (q0 + 4) (Int32.toNatClampNeg a4) (((kup (kup (kup σ7 (q0 + 1) (Int32.toNatClampNeg a4) r8) (q0 + 2) (Int32.toNatClampNeg a4) (((kup σ7 (q0 + 1) (Int32.toNatClampNeg a4) r8) q1 (Int32.toNatClampNeg (v4 + 2))) - 48)) (q0 + 3) (Int32.toNatClampNeg a4) (((kup (kup σ7 (q0 + 1) (Int32.toNatClampNeg a4) r8) (q0 + 2) (Int32.toNatClampNeg a4) (((kup σ7 (q0 + 1) (Int32.toNatClampNeg a4) r8) q1 (Int32.toNatClampNeg (v4 + 2))) - 48)) q1 (Int32.toNatClampNeg (v4 + 3))) - 48)) q1 (Int32.toNatClampNeg (v4 + 4))) - 48))
      else none
      else none
      else none
      else none
      else none
      else none
      else none
      else none
def fX3_fill (q0 : Nat) (q1 : Nat) (a2 : Int32) (a3 : Int32) (σ : kS) : Option kS :=
  if inb (a2 + 1) 60 then
  if inb (a2 + 2) 60 then
  fX3_fill_L36 1000 q0 q1 a2 0 (kup (kup (kup σ q0 0 ((σ q1 (Int32.toNatClampNeg (a2 + 1))) - 48)) q0 1 (((kup σ q0 0 ((σ q1 (Int32.toNatClampNeg (a2 + 1))) - 48)) q1 (Int32.toNatClampNeg (a2 + 2))) - 48)) q0 2 ((a3 - 3) / 5))
  else none
  else none
def fX4_isSheet (a0 : Int32) (σ : kS) : Option (Int32 × kS) :=
  kbi (fX4_isBelow a0 (4 : Int32) σ) fun r3 σ2 =>
  some (r3, σ2)
def fX4_faulted (a1 : Int32) (σ : kS) : Option (Int32 × kS) :=
  some ((-10) - a1, kup σ 0 12 a1)
def fX4_moor_J73  (a3 : Int32) (a4 : Int32) (q5 : Nat) (a6 : Int32) (σ : kS) : Option (Int32 × kS) :=
    if a6 = 0 then
      kbi (fX3_firstFault (q5 + 4) a3 a4 σ) fun r39 σ38 =>
      if r39 = (-9) then
        kbv (fX3_fill 1 (q5 + 4) a3 a4 σ38) fun σ42 =>
        some ((kup (kup σ42 0 9 0) 0 10 0) 1 2, kup (kup σ42 0 9 0) 0 10 0)
      else
        some ((-100) - r39, σ38)
    else
      kbi (fX4_faulted a6 σ) fun r45 σ44 =>
      some (r45, σ44)
def fX4_moor (a1 : Int32) (a2 : Int32) (a3 : Int32) (a4 : Int32) (σ : kS) : Option (Int32 × kS) :=
  kbi (fX4_isSheet a1 (kup σ 0 12 0)) fun r3 σ2 =>
  if r3 = 0 then
    some ((-1), σ2)
  else
    kbi (fX4_isBelow a2 (3 : Int32) σ2) fun r8 σ7 =>
    if r8 = 0 then
      some ((-2), σ7)
    else
      if inb a1 4 then
      kbi (fX1_faultAs (12 + Int32.toNatClampNeg a1) a2 σ7) fun r15 σ14 =>
      if r15 = 0 then
        if 0 ≤ a4 then
          if r15 = 0 then
            kbi (fX1_spans (12 + Int32.toNatClampNeg a1) a3 a4 σ14) fun r27 σ26 =>
            if r27 = 0 then
              fX4_moor_J73 a3 a4 (12 + Int32.toNatClampNeg a1) 3 σ26
            else
              fX4_moor_J73 a3 a4 (12 + Int32.toNatClampNeg a1) r15 σ26
          else
            fX4_moor_J73 a3 a4 (12 + Int32.toNatClampNeg a1) r15 σ14
        else
          if (4 : Int32) = 0 then
            kbi (fX1_spans (12 + Int32.toNatClampNeg a1) a3 a4 σ14) fun r33 σ32 =>
            if r33 = 0 then
              fX4_moor_J73 a3 a4 (12 + Int32.toNatClampNeg a1) 3 σ32
            else
              fX4_moor_J73 a3 a4 (12 + Int32.toNatClampNeg a1) 4 σ32
          else
            fX4_moor_J73 a3 a4 (12 + Int32.toNatClampNeg a1) 4 σ14
      else
        if r15 = 0 then
          kbi (fX1_spans (12 + Int32.toNatClampNeg a1) a3 a4 σ14) fun r20 σ19 =>
          if r20 = 0 then
            fX4_moor_J73 a3 a4 (12 + Int32.toNatClampNeg a1) 3 σ19
          else
            fX4_moor_J73 a3 a4 (12 + Int32.toNatClampNeg a1) r15 σ19
        else
          fX4_moor_J73 a3 a4 (12 + Int32.toNatClampNeg a1) r15 σ14
      else none
def fX4_isPerson (a1 : Int32) (σ : kS) : Option (Int32 × kS) :=
  kbi (fX4_isBelow a1 (σ 1 2) σ) fun r3 σ2 =>
  some (r3, σ2)
def fX4_ofPerson (a1 : Int32) (a2 : Int32) (σ : kS) : Option (Int32 × kS) :=
  kbi (fX4_isPerson a1 σ) fun r3 σ2 =>
  if r3 = 0 then
    some ((-1), σ2)
  else
    if a2 = 0 then
      if inb a1 6 then
      some (σ2 2 (Int32.toNatClampNeg a1), σ2)
      else none
    else
      if a2 = 1 then
        if inb a1 6 then
        some (σ2 3 (Int32.toNatClampNeg a1), σ2)
        else none
      else
        if a2 = 2 then
          if inb a1 6 then
          some (σ2 4 (Int32.toNatClampNeg a1), σ2)
          else none
        else
          if a2 = 3 then
            if inb a1 6 then
            some (σ2 5 (Int32.toNatClampNeg a1), σ2)
            else none
          else
            if a2 = 4 then
              kbi (fX0_scentOf 1 a1 σ2) fun r17 σ16 =>
              some (r17, σ16)
            else
              if a2 = 5 then
                kbi (fX0_isSmelt 1 a1 σ2) fun r21 σ20 =>
                if r21 = 0 then
                  some (0, σ20)
                else
                  some (1, σ20)
              else
                if a2 = 6 then
                  kbi (fX0_goesTo 1 a1 σ2) fun r27 σ26 =>
                  some (r27, σ26)
                else
                  some ((-2), σ2)
def fX4_hasNoMoor  (σ : kS) : Option (Int32 × kS) :=
  if (σ 1 2) = 0 then
    some (1, σ)
  else
    some (0, σ)
def fX4_post (a1 : Int32) (σ : kS) : Option (Int32 × kS) :=
  kbi (fX4_hasNoMoor σ) fun r3 σ2 =>
  if r3 = 0 then
    kbi (fX4_isBelow a1 (10 : Int32) σ2) fun r8 σ7 =>
    if r8 = 0 then
      some ((-2), σ7)
    else
      klet (σ7 1 0) fun v11 =>
      some (v11, kup σ7 1 0 a1)
  else
    some ((-3), σ2)
def fX4_lax (a1 : Int32) (σ : kS) : Option (Int32 × kS) :=
  kbi (fX4_hasNoMoor σ) fun r3 σ2 =>
  if r3 = 0 then
    kbi (fX4_isBelow a1 (4 : Int32) σ2) fun r8 σ7 =>
    if r8 = 0 then
      some ((-2), σ7)
    else
      klet (σ7 1 1) fun v11 =>
      some (v11, kup σ7 1 1 a1)
  else
    some ((-3), σ2)
def fX4_becomes (q1 : Nat) (a2 : Int32) (a3 : Int32) (a4 : Int32) (σ : kS) : Option (Int32 × kS) :=
  kbi (fX4_isPerson a2 σ) fun r3 σ2 =>
  if r3 = 0 then
    some ((-1), σ2)
  else
    kbi (fX4_isBelow a3 a4 σ2) fun r8 σ7 =>
    if r8 = 0 then
      some ((-2), σ7)
    else
      if inb a2 6 then
      klet (σ7 q1 (Int32.toNatClampNeg a2)) fun v12 =>
      if inb a2 6 then
      some (v12, kup σ7 q1 (Int32.toNatClampNeg a2) a3)
      else none
      else none
def fX4_bathe (a1 : Int32) (a2 : Int32) (σ : kS) : Option (Int32 × kS) :=
  kbi (fX4_becomes 3 a1 a2 (8 : Int32) σ) fun r3 σ2 =>
  some (r3, σ2)
def fX4_moves (a1 : Int32) (a2 : Int32) (σ : kS) : Option (Int32 × kS) :=
  kbi (fX4_becomes 5 a1 a2 (10 : Int32) σ) fun r3 σ2 =>
  some (r3, σ2)
def fX4_send (a1 : Int32) (σ : kS) : Option (Int32 × kS) :=
  kbi (fX4_isPerson a1 σ) fun r3 σ2 =>
  if r3 = 0 then
    some ((-1), σ2)
  else
    kbi (fX0_deliver 1 a1 (kup σ2 0 10 ((σ2 0 10) + 1))) fun r8 σ7 =>
    some (r8, σ7)
def fX4_comes (a1 : Int32) (σ : kS) : Option (Int32 × kS) :=
  kbi (fX4_hasNoMoor σ) fun r3 σ2 =>
  if r3 = 0 then
    if a1 = 0 then
      kbi (fX0_whoseCome 1 σ2) fun r9 σ8 =>
      some (r9, σ8)
    else
      if a1 = 1 then
        kbi (fX0_whoGetOne 1 σ2) fun r13 σ12 =>
        some (r13, σ12)
      else
        some ((-2), σ2)
  else
    some ((-3), σ2)
def fX4_isOfRound (a0 : Int32) (σ : kS) : Option (Int32 × kS) :=
  kbi (fX4_isBelow a0 (4 : Int32) σ) fun r3 σ2 =>
  if r3 = 0 then
    kbi (fX4_isBelow (a0 - 10) (6 : Int32) σ2) fun r8 σ7 =>
    if r8 = 0 then
      some (0, σ7)
    else
      some (1, σ7)
  else
    some (1, σ2)
def fX4_refusalOfPairs_J47 (k3 : Nat → Int32 → Int32 → Int32 → kS → Option (Int32 × kS)) (q1 : Nat) (a2 : Int32) (a3 : Int32) (a4 : Int32) (σ : kS) : Option (Int32 × kS) :=
    if inb (a2 + (2 * a4)) 60 then
    kbi (fX4_isPerson (σ q1 (Int32.toNatClampNeg (a2 + (2 * a4)))) σ) fun r17 σ16 =>
    if r17 = 0 then
      some ((-1), σ16)
    else
      klet (a4 + 1) fun v20 =>
      k3 q1 a2 a3 v20 σ16
    else none
def fX4_refusalOfPairs_L3  : Nat → Nat → Int32 → Int32 → Int32 → kS → Option (Int32 × kS)
  | 0, _, _, _, _, _ => none
  | n + 1, q1, a2, a3, a4, σ =>
    if a3 ≤ a4 then
      some (0, σ)
    else
      if inb ((a2 + (2 * a4)) + 1) 60 then
      klet (σ q1 (Int32.toNatClampNeg ((a2 + (2 * a4)) + 1))) fun v3 =>
      kbi (fX4_isBelow v3 (9 : Int32) σ) fun r6 σ5 =>
      if r6 = 0 then
        kbi (fX4_isBelow (v3 - 10) (10 : Int32) σ5) fun r11 σ10 =>
        if r11 = 0 then
          some ((-2), σ10)
        else
          fX4_refusalOfPairs_J47 (fX4_refusalOfPairs_L3 n) q1 a2 a3 a4 σ10
      else
        fX4_refusalOfPairs_J47 (fX4_refusalOfPairs_L3 n) q1 a2 a3 a4 σ5
      else none
def fX4_refusalOfPairs (q1 : Nat) (a2 : Int32) (a3 : Int32) (σ : kS) : Option (Int32 × kS) :=
  fX4_refusalOfPairs_L3 1000 q1 a2 a3 0 σ
def fX4_play_L21  : Nat → Nat → Int32 → Int32 → Int32 → kS → Option kS
  | 0, _, _, _, _, _ => none
  | n + 1, q1, a2, a3, a4, σ =>
    if a3 ≤ a4 then
      some σ
    else
      if inb (a2 + (2 * a4)) 60 then
      klet (σ q1 (Int32.toNatClampNeg (a2 + (2 * a4)))) fun v7 =>
      if inb ((a2 + (2 * a4)) + 1) 60 then
      klet (σ q1 (Int32.toNatClampNeg ((a2 + (2 * a4)) + 1))) fun v9 =>
      if 8 ≤ v9 then
        if v9 = 8 then
          kbi (fX0_deliver 6 v7 σ) fun r16 σ15 =>
          kbv (fX2_add a4 v7 r16 σ15) fun σ18 =>
          klet (a4 + 1) fun v19 =>
          fX4_play_L21 n q1 a2 a3 v19 σ18
        else
          if inb v7 6 then
          klet (a4 + 1) fun v13 =>
          fX4_play_L21 n q1 a2 a3 v13 (kup σ 10 (Int32.toNatClampNeg v7) (v9 - 10))
          else none
      else
        if inb v7 6 then
        klet (a4 + 1) fun v21 =>
        fX4_play_L21 n q1 a2 a3 v21 (kup σ 8 (Int32.toNatClampNeg v7) v9)
        else none
      else none
      else none
def fX4_play (q1 : Nat) (a2 : Int32) (a3 : Int32) (σ : kS) : Option kS :=
  kbv (fX0_become 6 1 σ) fun σ2 =>
  kbv (fX2_clear σ2) fun σ4 =>
  fX4_play_L21 1000 q1 a2 a3 0 σ4
def fX4_ofRound (a1 : Int32) (σ : kS) : Option (Int32 × kS) :=
  if a1 = 0 then
    some (σ 20 0, σ)
  else
    if a1 = 1 then
      some (σ 20 1, σ)
    else
      if a1 = 2 then
        some (σ 20 2, σ)
      else
        if a1 = 3 then
          some (σ 20 3, σ)
        else
          kbi (fX4_isPerson (a1 - 10) σ) fun r7 σ6 =>
          if r7 = 0 then
            some ((-9), σ6)
          else
            if inb (a1 - 10) 6 then
            some (σ6 9 (Int32.toNatClampNeg (a1 - 10)), σ6)
            else none
def fX4_round_J90  (a3 : Int32) (a4 : Int32) (a5 : Int32) (q6 : Nat) (a7 : Int32) (σ : kS) : Option (Int32 × kS) :=
    if a7 = 0 then
      kbi (fX4_refusalOfPairs (q6 + 4) a3 a4 σ) fun r40 σ39 =>
      if r40 = 0 then
        kbv (fX4_play (q6 + 4) a3 a4 σ39) fun σ43 =>
        kbi (fX4_ofRound a5 σ43) fun r46 σ45 =>
        some (r46, σ45)
      else
        some (r40, σ39)
    else
      kbi (fX4_faulted a7 σ) fun r49 σ48 =>
      some (r49, σ48)
def fX4_round (a1 : Int32) (a2 : Int32) (a3 : Int32) (a4 : Int32) (a5 : Int32) (σ : kS) : Option (Int32 × kS) :=
  kbi (fX4_isSheet a1 (kup σ 0 12 0)) fun r3 σ2 =>
  if r3 = 0 then
    some ((-1), σ2)
  else
    kbi (fX4_isBelow a2 (3 : Int32) σ2) fun r8 σ7 =>
    if r8 = 0 then
      some ((-2), σ7)
    else
      kbi (fX4_isBelow a4 (21 : Int32) σ7) fun r13 σ12 =>
      if r13 = 0 then
        some ((-2), σ12)
      else
        kbi (fX4_isOfRound a5 σ12) fun r18 σ17 =>
        if r18 = 0 then
          some ((-2), σ17)
        else
          kbi (fX4_hasNoMoor σ17) fun r23 σ22 =>
          if r23 = 0 then
            if inb a1 4 then
            kbi (fX1_faultAs (12 + Int32.toNatClampNeg a1) a2 σ22) fun r30 σ29 =>
            if r30 = 0 then
              kbi (fX1_spans (12 + Int32.toNatClampNeg a1) a3 (2 * a4) σ29) fun r34 σ33 =>
              if r34 = 0 then
                fX4_round_J90 a3 a4 a5 (12 + Int32.toNatClampNeg a1) 3 σ33
              else
                fX4_round_J90 a3 a4 a5 (12 + Int32.toNatClampNeg a1) r30 σ33
            else
              fX4_round_J90 a3 a4 a5 (12 + Int32.toNatClampNeg a1) r30 σ29
            else none
          else
            some ((-3), σ22)
def fX4_strict_L23  : Nat → Int32 → Int32 → kS → Option (Int32 × kS)
  | 0, _, _, _ => none
  | n + 1, a1, a2, σ =>
    if 4 ≤ a2 then
      some ((-9), σ)
    else
      kbi (fX0_goesTo 6 a1 (kup σ 6 1 a2)) fun r11 σ10 =>
      if r11 = a1 then
        some (a2, σ10)
      else
        klet (a2 + 1) fun v13 =>
        fX4_strict_L23 n a1 v13 σ10
def fX4_strict (a1 : Int32) (σ : kS) : Option (Int32 × kS) :=
  kbi (fX4_isPerson a1 σ) fun r3 σ2 =>
  if r3 = 0 then
    some ((-1), σ2)
  else
    kbv (fX0_become 6 1 σ2) fun σ7 =>
    fX4_strict_L23 1000 a1 0 σ7
def fX4_site_L39  : Nat → Int32 → Int32 → Int32 → Int32 → kS → Option (Int32 × kS)
  | 0, _, _, _, _, _ => none
  | n + 1, a1, a2, a3, a4, σ =>
    if 10 ≤ a4 then
      if a1 = 0 then
        some (a2, σ)
      else
        some (a3, σ)
    else
      kbi (fX0_whoseCome 6 (kup σ 6 0 a4)) fun r17 σ16 =>
      kbi (fJ6_bitCount_0f7a4 r17 σ16) fun r20 σ19 =>
      if r20 ≤ a3 then
        klet (a4 + 1) fun v22 =>
        fX4_site_L39 n a1 a2 a3 v22 σ19
      else
        klet (a4 + 1) fun v23 =>
        fX4_site_L39 n a1 a4 r20 v23 σ19
def fX4_site (a1 : Int32) (σ : kS) : Option (Int32 × kS) :=
  kbi (fX4_hasNoMoor σ) fun r3 σ2 =>
  if r3 = 0 then
    kbi (fX4_isBelow a1 (2 : Int32) σ2) fun r8 σ7 =>
    if r8 = 0 then
      some ((-2), σ7)
    else
      kbv (fX0_become 6 1 σ7) fun σ12 =>
      fX4_site_L39 1000 a1 0 (-1) 0 σ12
  else
    some ((-3), σ2)
def fX4_contains (a0 : Int32) (a1 : Int32) (σ : kS) : Option (Int32 × kS) :=
  if ((a0 >>> (a1 &&& 31)) &&& 1) = 0 then
    some (0, σ)
  else
    some (1, σ)
def fX4_comingInTriedOrder_J46 (k6 : Int32 → Int32 → Int32 → kS → Option (Int32 × kS)) (a1 : Int32) (a2 : Int32) (a3 : Int32) (a4 : Int32) (as0 : Int32) (σ : kS) : Option (Int32 × kS) :=
    if as0 = a4 then
      klet (a2 + 1) fun v15 =>
      kbi (fX4_withOne a1 as0 σ) fun r18 σ17 =>
      klet (a3 + 1) fun v19 =>
      k6 r18 v15 v19 σ17
    else
      kbi (fX4_withOne a1 as0 σ) fun r13 σ12 =>
      klet (a3 + 1) fun v14 =>
      k6 r13 a2 v14 σ12
def fX4_comingInTriedOrder_L6  : Nat → Int32 → Int32 → Int32 → kS → Option (Int32 × kS)
  | 0, _, _, _, _ => none
  | n + 1, a1, a2, a3, σ =>
    if (σ 1 2) ≤ a3 then
      some (a2, σ)
    else
      if inb a3 6 then
      klet (σ 24 (Int32.toNatClampNeg a3)) fun v3 =>
      kbi (fX4_contains a1 v3 σ) fun r6 σ5 =>
      if r6 = 0 then
        if inb v3 6 then
        fX4_comingInTriedOrder_J46 (fX4_comingInTriedOrder_L6 n) a1 a2 a3 v3 (σ5 23 (Int32.toNatClampNeg v3)) σ5
        else none
      else
        fX4_comingInTriedOrder_J46 (fX4_comingInTriedOrder_L6 n) a1 a2 a3 v3 v3 σ5
      else none
def fX4_comingInTriedOrder  (σ : kS) : Option (Int32 × kS) :=
  fX4_comingInTriedOrder_L6 1000 0 0 0 σ
def fX4_swap (q0 : Nat) (a1 : Int32) (a2 : Int32) (σ : kS) : Option kS :=
  if inb a1 6 then
  klet (σ q0 (Int32.toNatClampNeg a1)) fun v2 =>
  if inb a2 6 then
  if inb a1 6 then
  if inb a2 6 then
  some (kup (kup σ q0 (Int32.toNatClampNeg a1) (σ q0 (Int32.toNatClampNeg a2))) q0 (Int32.toNatClampNeg a2) v2)
  else none
  else none
  else none
  else none
def fX4_stepToNextRow_L73  : Nat → Nat → Int32 → Int32 → kS → Option (Int32 × kS)
  | 0, _, _, _, _ => none
  | n + 1, q0, a4, a5, σ =>
    if a5 ≤ a4 then
      some (1, σ)
    else
      kbv (fX4_swap q0 a4 a5 σ) fun σ26 =>
      klet (a4 + 1) fun v27 =>
      klet (a5 + (-1)) fun v28 =>
      fX4_stepToNextRow_L73 n q0 v27 v28 σ26
def fX4_stepToNextRow_L35  : Nat → Nat → Int32 → Int32 → Int32 → kS → Option (Int32 × kS)
  | 0, _, _, _, _, _ => none
  | n + 1, q0, a1, a2, a3, σ =>
    if a3 ≤ (a2 + 1) then
      kbv (fX4_swap q0 a2 a3 σ) fun σ13 =>
      klet (a2 + 1) fun v14 =>
      klet (a1 - 1) fun v15 =>
      fX4_stepToNextRow_L73 1000 q0 v14 v15 σ13
    else
      if inb a3 6 then
      if inb a2 6 then
      if (σ q0 (Int32.toNatClampNeg a2)) ≤ (σ q0 (Int32.toNatClampNeg a3)) then
        kbv (fX4_swap q0 a2 a3 σ) fun σ20 =>
        klet (a2 + 1) fun v21 =>
        klet (a1 - 1) fun v22 =>
        fX4_stepToNextRow_L73 1000 q0 v21 v22 σ20
      else
        klet (a3 + (-1)) fun v23 =>
        fX4_stepToNextRow_L35 n q0 a1 a2 v23 σ
      else none
      else none
def fX4_stepToNextRow_L4  : Nat → Nat → Int32 → Int32 → kS → Option (Int32 × kS)
  | 0, _, _, _, _ => none
  | n + 1, q0, a1, a2, σ =>
    if a2 < 0 then
      if 0 ≤ a2 then
        klet (a1 - 1) fun v4 =>
        fX4_stepToNextRow_L35 1000 q0 a1 a2 v4 σ
      else
        some (0, σ)
    else
      if inb a2 6 then
      if inb (a2 + 1) 6 then
      if (σ q0 (Int32.toNatClampNeg a2)) ≤ (σ q0 (Int32.toNatClampNeg (a2 + 1))) then
        if 0 ≤ a2 then
          klet (a1 - 1) fun v9 =>
          fX4_stepToNextRow_L35 1000 q0 a1 a2 v9 σ
        else
          some (0, σ)
      else
        klet (a2 + (-1)) fun v10 =>
        fX4_stepToNextRow_L4 n q0 a1 v10 σ
      else none
      else none
def fX4_stepToNextRow (q0 : Nat) (a1 : Int32) (σ : kS) : Option (Int32 × kS) :=
  klet (a1 - 2) fun v1 =>
  fX4_stepToNextRow_L4 1000 q0 a1 v1 σ
def fX4_findBestOrder_L44  : Nat → Int32 → Int32 → kS → Option (Int32 × kS)
  | 0, _, _, _ => none
  | n + 1, a1, a2, σ =>
    if 720 ≤ a2 then
      some (a1, σ)
    else
      if (σ 1 2) ≤ a1 then
        some (a1, σ)
      else
        kbi (fX4_comingInTriedOrder σ) fun r12 σ11 =>
        if r12 ≤ a1 then
          kbi (fX4_stepToNextRow 24 (σ11 1 2) σ11) fun r16 σ15 =>
          if r16 = 0 then
            some (a1, σ15)
          else
            klet (a2 + 1) fun v19 =>
            fX4_findBestOrder_L44 n a1 v19 σ15
        else
          if kcpy (0 : Int32) (0 : Int32) (6 : Int32) 6 6 then
          kbi (fX4_stepToNextRow 24 ((krow σ11 25 (va_cpy (σ11 24) (σ11 25) (Int32.toNatClampNeg (0 : Int32)) (Int32.toNatClampNeg (0 : Int32)) (Int32.toNatClampNeg (6 : Int32)))) 1 2) (krow σ11 25 (va_cpy (σ11 24) (σ11 25) (Int32.toNatClampNeg (0 : Int32)) (Int32.toNatClampNeg (0 : Int32)) (Int32.toNatClampNeg (6 : Int32))))) fun r23 σ22 =>
          if r23 = 0 then
            some (r12, σ22)
          else
            klet (a2 + 1) fun v26 =>
            fX4_findBestOrder_L44 n r12 v26 σ22
          else none
def fX4_findBestOrder_L2  : Nat → Int32 → kS → Option (Int32 × kS)
  | 0, _, _ => none
  | n + 1, a1, σ =>
    if (σ 1 2) ≤ a1 then
      fX4_findBestOrder_L44 1000 (-1) 0 σ
    else
      if inb a1 6 then
      kbi (fX0_goesTo 1 a1 (kup σ 24 (Int32.toNatClampNeg a1) a1)) fun r5 σ4 =>
      if inb a1 6 then
      klet (a1 + 1) fun v7 =>
      fX4_findBestOrder_L2 n v7 (kup σ4 23 (Int32.toNatClampNeg a1) r5)
      else none
      else none
def fX4_findBestOrder  (σ : kS) : Option (Int32 × kS) :=
  fX4_findBestOrder_L2 1000 0 σ
def fX4_order (a1 : Int32) (σ : kS) : Option (Int32 × kS) :=
  kbi (fX4_hasNoMoor σ) fun r3 σ2 =>
  if r3 = 0 then
    if a1 < (-1) then
      some ((-2), σ2)
    else
      if a1 < 6 then
        if a1 < (σ2 1 2) then
          kbi (fX4_findBestOrder σ2) fun r11 σ10 =>
          if 0 ≤ a1 then
            if inb a1 6 then
            some (σ10 25 (Int32.toNatClampNeg a1), σ10)
            else none
          else
            some (r11, σ10)
        else
          some ((-9), σ2)
      else
        some ((-2), σ2)
  else
    some ((-3), σ2)
def fX4_ahead (a1 : Int32) (σ : kS) : Option (Int32 × kS) :=
  kbi (fX4_isPerson a1 σ) fun r3 σ2 =>
  if r3 = 0 then
    some ((-1), σ2)
  else
    kbi (fX0_goesTo 1 a1 σ2) fun r8 σ7 =>
    if r8 = a1 then
      some (0, σ7)
    else
      kbi (fX0_whoGetOne 1 σ7) fun r12 σ11 =>
      kbi (fX4_contains r12 a1 σ11) fun r15 σ14 =>
      if r15 = 0 then
        some ((-9), σ14)
      else
        some (1, σ14)
def fX4_reading_J26  (a1 : Int32) (a2 : Int32) (σ : kS) : Option (Int32 × kS) :=
    if (σ 0 9) < 8 then
      if inb (σ 0 9) 8 then
      if inb ((kup σ 21 (Int32.toNatClampNeg (σ 0 9)) a1) 0 9) 8 then
      some (((kup (kup (kup σ 21 (Int32.toNatClampNeg (σ 0 9)) a1) 22 (Int32.toNatClampNeg ((kup σ 21 (Int32.toNatClampNeg (σ 0 9)) a1) 0 9)) a2) 0 9 (((kup (kup σ 21 (Int32.toNatClampNeg (σ 0 9)) a1) 22 (Int32.toNatClampNeg ((kup σ 21 (Int32.toNatClampNeg (σ 0 9)) a1) 0 9)) a2) 0 9) + 1)) 0 9) - 1, kup (kup (kup σ 21 (Int32.toNatClampNeg (σ 0 9)) a1) 22 (Int32.toNatClampNeg ((kup σ 21 (Int32.toNatClampNeg (σ 0 9)) a1) 0 9)) a2) 0 9 (((kup (kup σ 21 (Int32.toNatClampNeg (σ 0 9)) a1) 22 (Int32.toNatClampNeg ((kup σ 21 (Int32.toNatClampNeg (σ 0 9)) a1) 0 9)) a2) 0 9) + 1))
      else none
      else none
    else
      some ((-4), σ)
def fX4_reading (a1 : Int32) (a2 : Int32) (σ : kS) : Option (Int32 × kS) :=
  kbi (fX4_isPerson a1 σ) fun r3 σ2 =>
  if r3 = 0 then
    some ((-1), σ2)
  else
    kbi (fX4_isPerson a2 σ2) fun r8 σ7 =>
    if r8 = 0 then
      if a2 = (-9) then
        fX4_reading_J26 a1 a2 σ7
      else
        some ((-1), σ7)
    else
      fX4_reading_J26 a1 a2 σ7
def fX4_back (a1 : Int32) (σ : kS) : Option (Int32 × kS) :=
  if a1 < 0 then
    some ((-2), σ)
  else
    if a1 ≤ (σ 0 9) then
      some ((kup σ 0 9 ((σ 0 9) - a1)) 0 9, kup σ 0 9 ((σ 0 9) - a1))
    else
      some ((-2), σ)
def fX4_readingsHoldInDraft_L2  : Nat → Int32 → kS → Option (Int32 × kS)
  | 0, _, _ => none
  | n + 1, a1, σ =>
    if (σ 0 9) ≤ a1 then
      some (1, σ)
    else
      if inb a1 8 then
      kbi (fX0_goesTo 6 (σ 21 (Int32.toNatClampNeg a1)) σ) fun r5 σ4 =>
      if inb a1 8 then
      if r5 = (σ4 22 (Int32.toNatClampNeg a1)) then
        klet (a1 + 1) fun v8 =>
        fX4_readingsHoldInDraft_L2 n v8 σ4
      else
        some (0, σ4)
      else none
      else none
def fX4_readingsHoldInDraft  (σ : kS) : Option (Int32 × kS) :=
  fX4_readingsHoldInDraft_L2 1000 0 σ
def fX4_bySuchReadings_L27  : Nat → Nat → Int32 → Int32 → Int32 → Int32 → kS → Option (Int32 × kS)
  | 0, _, _, _, _, _, _ => none
  | n + 1, q1, a2, a3, a4, a5, σ =>
    if a3 ≤ a5 then
      some (a4, σ)
    else
      if inb a2 6 then
      kbi (fX4_readingsHoldInDraft (kup σ q1 (Int32.toNatClampNeg a2) a5)) fun r12 σ11 =>
      if r12 = 0 then
        klet (a5 + 1) fun v15 =>
        fX4_bySuchReadings_L27 n q1 a2 a3 a4 v15 σ11
      else
        klet (a4 ||| ((1 : Int32) <<< (a5 &&& 31))) fun v16 =>
        klet (a5 + 1) fun v17 =>
        fX4_bySuchReadings_L27 n q1 a2 a3 v16 v17 σ11
      else none
def fX4_bySuchReadings (q1 : Nat) (a2 : Int32) (a3 : Int32) (σ : kS) : Option (Int32 × kS) :=
  kbi (fX4_isPerson a2 σ) fun r3 σ2 =>
  if r3 = 0 then
    some ((-1), σ2)
  else
    kbv (fX0_become 6 1 σ2) fun σ7 =>
    fX4_bySuchReadings_L27 1000 q1 a2 a3 0 0 σ7
def fX4_smells (a1 : Int32) (σ : kS) : Option (Int32 × kS) :=
  kbi (fX4_bySuchReadings 8 a1 (8 : Int32) σ) fun r3 σ2 =>
  some (r3, σ2)
def fX4_pasts (a1 : Int32) (σ : kS) : Option (Int32 × kS) :=
  kbi (fX4_bySuchReadings 9 a1 (8 : Int32) σ) fun r3 σ2 =>
  some (r3, σ2)
def fX4_kinds (a1 : Int32) (σ : kS) : Option (Int32 × kS) :=
  kbi (fX4_bySuchReadings 7 a1 (3 : Int32) σ) fun r3 σ2 =>
  some (r3, σ2)
def fX4_smellsByWhichItComes_L15  : Nat → Int32 → Int32 → Int32 → kS → Option (Int32 × kS)
  | 0, _, _, _, _ => none
  | n + 1, a1, a2, a3, σ =>
    if 8 ≤ a3 then
      some (a2, σ)
    else
      if inb a1 6 then
      kbi (fX0_goesTo 6 a1 (kup σ 8 (Int32.toNatClampNeg a1) a3)) fun r7 σ6 =>
      if r7 = a1 then
        klet (a2 + 1) fun v10 =>
        klet (a3 + 1) fun v11 =>
        fX4_smellsByWhichItComes_L15 n a1 v10 v11 σ6
      else
        klet (a3 + 1) fun v9 =>
        fX4_smellsByWhichItComes_L15 n a1 a2 v9 σ6
      else none
def fX4_smellsByWhichItComes (a1 : Int32) (σ : kS) : Option (Int32 × kS) :=
  kbv (fX0_become 6 1 σ) fun σ2 =>
  fX4_smellsByWhichItComes_L15 1000 a1 0 0 σ2
def fX4_odds_L30  : Nat → Int32 → Int32 → Int32 → kS → Option (Int64 × kS)
  | 0, _, _, _, _ => none
  | n + 1, a2, a3, a4, σ =>
    if a4 ≤ 1 then
      if a2 = 0 then
        some (Int32.toInt64 a3, σ)
      else
        some (Int32.toInt64 a4, σ)
    else
      if (a3 - a3 / 2 * 2) = 0 then
        klet (a3 / 2) fun v18 =>
        klet (a4 / 2) fun v19 =>
        fX4_odds_L30 n a2 v18 v19 σ
      else
        if a2 = 0 then
          some (Int32.toInt64 a3, σ)
        else
          some (Int32.toInt64 a4, σ)
def fX4_odds (a1 : Int32) (a2 : Int32) (σ : kS) : Option (Int64 × kS) :=
  kbi (fX4_isPerson a1 σ) fun r3 σ2 =>
  if r3 = 0 then
    some ((-9223372036854775808), σ2)
  else
    kbi (fX4_isBelow a2 (2 : Int32) σ2) fun r8 σ7 =>
    if r8 = 0 then
      some ((-9223372036854775808), σ7)
    else
      kbi (fX4_smellsByWhichItComes a1 σ7) fun r13 σ12 =>
      fX4_odds_L30 1000 a2 r13 8 σ12
def fX4_sheet (a1 : Int32) (a2 : Int32) (a3 : Int32) (σ : kS) : Option (Int32 × kS) :=
  kbi (fX4_isSheet a1 (kup σ 0 12 0)) fun r3 σ2 =>
  if r3 = 0 then
    some ((-1), σ2)
  else
    kbi (fX4_isBelow a2 (3 : Int32) σ2) fun r8 σ7 =>
    if r8 = 0 then
      some ((-2), σ7)
    else
      if a3 ≤ 60 then
        if 0 ≤ a3 then
          if inb a1 4 then
          kbv (fX1_begin (12 + Int32.toNatClampNeg a1) a2 a3 σ7) fun σ16 =>
          some (1, σ16)
          else none
        else
          kbi (fX4_faulted (4 : Int32) σ7) fun r19 σ18 =>
          some (r19, σ18)
      else
        some ((-2), σ7)
def fX4_lose (a1 : Int32) (σ : kS) : Option (Int32 × kS) :=
  kbi (fX4_isSheet a1 σ) fun r3 σ2 =>
  if r3 = 0 then
    some ((-1), σ2)
  else
    if inb a1 4 then
    klet (σ2 (12 + Int32.toNatClampNeg a1) 0) fun v8 =>
    if inb a1 4 then
    if v8 = 0 then
      some (0, kup σ2 (12 + Int32.toNatClampNeg a1) 0 0)
    else
      some (1, kup σ2 (12 + Int32.toNatClampNeg a1) 0 0)
    else none
    else none
def fX4_put (a1 : Int32) (a2 : Int32) (a3 : Int32) (σ : kS) : Option (Int32 × kS) :=
  kbi (fX4_isSheet a1 (kup σ 0 12 0)) fun r3 σ2 =>
  if r3 = 0 then
    some ((-1), σ2)
  else
    if inb a1 4 then
    if (σ2 (12 + Int32.toNatClampNeg a1) 0) = 0 then
      kbi (fX4_faulted (1 : Int32) σ2) fun r21 σ20 =>
      some (r21, σ20)
    else
      kbi (fX1_hasCell (12 + Int32.toNatClampNeg a1) a2 σ2) fun r11 σ10 =>
      if r11 = 0 then
        kbi (fX4_faulted (3 : Int32) σ10) fun r18 σ17 =>
        some (r18, σ17)
      else
        kbv (fX1_write (12 + Int32.toNatClampNeg a1) a2 a3 σ10) fun σ15 =>
        some (1, σ15)
    else none
def fX4_cell (a1 : Int32) (a2 : Int32) (a3 : Int32) (σ : kS) : Option (Int64 × kS) :=
  kbi (fX4_isSheet a1 (kup σ 0 12 0)) fun r3 σ2 =>
  if r3 = 0 then
    some ((-9223372036854775808), σ2)
  else
    kbi (fX4_isBelow a3 (3 : Int32) σ2) fun r8 σ7 =>
    if r8 = 0 then
      some ((-9223372036854775808), σ7)
    else
      if inb a1 4 then
      kbi (fX1_faultAs (12 + Int32.toNatClampNeg a1) a3 σ7) fun r15 σ14 =>
      if ((kup σ14 0 12 r15) 0 12) = 0 then
        kbi (fX1_hasCell (12 + Int32.toNatClampNeg a1) a2 (kup σ14 0 12 r15)) fun r21 σ20 =>
        if r21 = 0 then
          if ((kup σ20 0 12 3) 0 12) = 0 then
            if inb a2 60 then
            some (Int32.toInt64 ((kup σ20 0 12 3) (12 + Int32.toNatClampNeg a1 + 4) (Int32.toNatClampNeg a2)), kup σ20 0 12 3)
            else none
          else
            some ((-9223372036854775808), kup σ20 0 12 3)
        else
          if (σ20 0 12) = 0 then
            if inb a2 60 then
            some (Int32.toInt64 (σ20 (12 + Int32.toNatClampNeg a1 + 4) (Int32.toNatClampNeg a2)), σ20)
            else none
          else
            some ((-9223372036854775808), σ20)
      else
        if ((kup σ14 0 12 r15) 0 12) = 0 then
          if inb a2 60 then
          some (Int32.toInt64 ((kup σ14 0 12 r15) (12 + Int32.toNatClampNeg a1 + 4) (Int32.toNatClampNeg a2)), kup σ14 0 12 r15)
          else none
        else
          some ((-9223372036854775808), kup σ14 0 12 r15)
      else none
def fX4_copy (a1 : Int32) (a2 : Int32) (a3 : Int32) (a4 : Int32) (a5 : Int32) (σ : kS) : Option (Int32 × kS) :=
  kbi (fX4_isSheet a1 (kup σ 0 12 0)) fun r3 σ2 =>
  if r3 = 0 then
    some ((-1), σ2)
  else
    kbi (fX4_isSheet a3 σ2) fun r8 σ7 =>
    if r8 = 0 then
      some ((-1), σ7)
    else
      if inb a1 4 then
      if inb a3 4 then
      if (σ7 (12 + Int32.toNatClampNeg a1) 0) = 0 then
        kbi (fX4_faulted (1 : Int32) σ7) fun r18 σ17 =>
        some (r18, σ17)
      else
        if (σ7 (12 + Int32.toNatClampNeg a3) 0) = 0 then
          kbi (fX4_faulted (1 : Int32) σ7) fun r43 σ42 =>
          some (r43, σ42)
        else
          if (σ7 (12 + Int32.toNatClampNeg a1) 1) = (σ7 (12 + Int32.toNatClampNeg a3) 1) then
            kbi (fX1_spans (12 + Int32.toNatClampNeg a1) a2 a5 σ7) fun r23 σ22 =>
            if r23 = 0 then
              kbi (fX4_faulted (3 : Int32) σ22) fun r28 σ27 =>
              some (r28, σ27)
            else
              kbi (fX1_spans (12 + Int32.toNatClampNeg a3) a4 a5 σ22) fun r31 σ30 =>
              if r31 = 0 then
                kbi (fX4_faulted (3 : Int32) σ30) fun r37 σ36 =>
                some (r37, σ36)
              else
                if kcpy a2 a4 a5 60 60 then
                some (a5, krow σ30 (12 + Int32.toNatClampNeg a3 + 4) (va_cpy (σ30 (12 + Int32.toNatClampNeg a1 + 4)) (σ30 (12 + Int32.toNatClampNeg a3 + 4)) (Int32.toNatClampNeg a2) (Int32.toNatClampNeg a4) (Int32.toNatClampNeg a5)))
                else none
          else
            kbi (fX4_faulted (2 : Int32) σ7) fun r40 σ39 =>
            some (r40, σ39)
      else none
      else none
def fX4_begins (a1 : Int32) (σ : kS) : Option kS :=
  some (kup σ 0 11 ((31 * (σ 0 11)) + a1))
def fX4_toldByPlain (a1 : Int32) (σ : kS) : Option (Int32 × kS) :=
  kbv (fX4_begins (1 : Int32) σ) fun σ2 =>
  if inb a1 6 then
  some (σ2 3 (Int32.toNatClampNeg a1), σ2)
  else none
def fX4_toldByRank (a1 : Int32) (σ : kS) : Option (Int32 × kS) :=
  kbv (fX4_begins (2 : Int32) σ) fun σ2 =>
  kbi (fX4_toldByPlain a1 σ2) fun r5 σ4 =>
  some (r5 + 100, σ4)
def fX4_toldByReeking (a1 : Int32) (σ : kS) : Option (Int32 × kS) :=
  kbv (fX4_begins (3 : Int32) σ) fun σ2 =>
  kbi (fX4_toldByRank a1 σ2) fun r5 σ4 =>
  kbi (fX4_toldByPlain a1 σ4) fun r8 σ7 =>
  some (r5 + r8, σ7)
def fX4_tell (a1 : Int32) (σ : kS) : Option (Int32 × kS) :=
  kbi (fX4_isPerson a1 σ) fun r3 σ2 =>
  if r3 = 0 then
    some ((-1), σ2)
  else
    if inb a1 6 then
    if (σ2 2 (Int32.toNatClampNeg a1)) = 1 then
      kbi (fX4_toldByRank a1 σ2) fun r10 σ9 =>
      some (r10, σ9)
    else
      if (σ2 2 (Int32.toNatClampNeg a1)) = 2 then
        kbi (fX4_toldByReeking a1 σ2) fun r14 σ13 =>
        some (r14, σ13)
      else
        kbi (fX4_toldByPlain a1 σ2) fun r17 σ16 =>
        some (r17, σ16)
    else none
def fX4_whistle (a1 : Int32) (σ : kS) : Option (Int32 × kS) :=
  kbi (fX4_isPerson a1 σ) fun r3 σ2 =>
  if r3 = 0 then
    some ((-1), σ2)
  else
    if inb a1 6 then
    if (σ2 2 (Int32.toNatClampNeg a1)) = 2 then
      kbv (fX4_begins (5 : Int32) σ2) fun σ11 =>
      some (70, σ11)
    else
      kbv (fX4_begins (4 : Int32) σ2) fun σ9 =>
      some (a1, σ9)
    else none
def fX4_as (a1 : Int32) (a2 : Int32) (σ : kS) : Option (Int32 × kS) :=
  kbi (fX4_isPerson a1 (kup σ 0 12 0)) fun r3 σ2 =>
  if r3 = 0 then
    some ((-1), σ2)
  else
    kbi (fX4_isBelow a2 (3 : Int32) σ2) fun r8 σ7 =>
    if r8 = 0 then
      some ((-2), σ7)
    else
      if inb a1 6 then
      if (σ7 2 (Int32.toNatClampNeg a1)) < a2 then
        kbi (fX4_faulted (2 : Int32) σ7) fun r15 σ14 =>
        some (r15, σ14)
      else
        some (1, σ7)
      else none
def fX4_trace  (σ : kS) : Option (Int32 × kS) :=
  some (σ 0 11, σ)
def fX4_fault  (σ : kS) : Option (Int32 × kS) :=
  some (σ 0 12, σ)
def fX4_many (a1 : Int32) (σ : kS) : Option (Int32 × kS) :=
  if a1 = 0 then
    some (σ 1 2, σ)
  else
    if a1 = 1 then
      some (σ 1 0, σ)
    else
      if a1 = 2 then
        some (σ 1 1, σ)
      else
        if a1 = 3 then
          some (σ 0 10, σ)
        else
          if a1 = 4 then
            some (σ 0 9, σ)
          else
            some ((-2), σ)
