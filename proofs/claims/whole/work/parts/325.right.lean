/-! all right: seven in the head and on six benches -/
/-- a ring from a place on: what is met, how many -/
def zCy (f : Nat → Nat) : Nat → Nat → Nat → Nat → Nat × Nat
  | 0, met, _, k => (met, k)
  | c + 1, met, at_, k => if met.testBit at_ = true then (met, k) else zCy f c (met ||| 1 <<< at_) (f at_) (k + 1)
def zCe (f : Nat → Nat) : Nat → Nat → Nat → Bool
  | 0, met, at_ => met.testBit at_
  | c + 1, met, at_ => if met.testBit at_ = true then true else zCe f c (met ||| 1 <<< at_) (f at_)
def zOu (f : Nat → Nat) : Nat → Nat → Nat → Nat → Nat
  | 0, _, _, left => left
  | j + 1, i, met, left => zOu f j (i + 1) (zCy f 7 met i 0).1 (left + if (zCy f 7 met i 0).2 ≤ 1 then 0 else if i = 0 then (zCy f 7 met i 0).2 - 1 else (zCy f 7 met i 0).2 + 1)
def zOk (f : Nat → Nat) : Nat → Nat → Nat → Bool
  | 0, _, _ => true
  | j + 1, i, met => zCe f 7 met i && zOk f j (i + 1) (zCy f 7 met i 0).1
def zLf (l : List Nat) : Nat → Nat := fun i => l.getD i 0
def zSn (f : Nat → Nat) : Nat := zOu f 7 0 0 0
def zSw (f : Nat → Nat) (b : Nat) : Nat → Nat := fun i => if i = 0 then f b else if i = b then f 0 else f i
/-- all rows that go on from one, of n digits more -/
def zPx : Nat → List Nat → List (List Nat)
  | 0, l => [l]
  | n + 1, l => ((List.range 7).filter fun d => !l.contains d).flatMap fun d => zPx n (l ++ [d])
/-- a list of what its function says -/
def zTb (f : Nat → Nat) : List Nat := [f 0, f 1, f 2, f 3, f 4, f 5, f 6]
def zPq (l : List Nat) : Bool := zOk (zLf l) 7 0 0 && (List.range 6).all fun b => zOk (zLf (zTb (zSw (zLf l) (b + 1)))) 7 0 0 && Nat.ble (zSn (zLf l)) (zSn (zLf (zTb (zSw (zLf l) (b + 1)))) + 1)
