/-! ORDER: rows as lists, their count, the best -/
def lf (l : List Nat) : Nat → Nat := fun k => l.getD k 0
def nxL (P : Nat) (l : List Nat) : Option (List Nat) := (nx P (lf l)).map (fun r => (List.range P).map r)
def okl (P : Nat) (l : List Nat) : Bool := l.length == P && l.all (fun x => decide (x < P))
def gd (P : Nat) : Nat → List Nat → Bool
  | 0, l => okl P l && (nxL P l).isNone
  | n + 1, l => okl P l && (match nxL P l with | none => true | some l' => gd P n l')
set_option maxRecDepth 100000 in
theorem gd_1 : gd 1 719 (List.range 1) = true := by decide +kernel
set_option maxRecDepth 100000 in
theorem gd_2 : gd 2 719 (List.range 2) = true := by decide +kernel
set_option maxRecDepth 100000 in
theorem gd_3 : gd 3 719 (List.range 3) = true := by decide +kernel
set_option maxRecDepth 100000 in
theorem gd_4 : gd 4 719 (List.range 4) = true := by decide +kernel
set_option maxRecDepth 100000 in
theorem gd_5 : gd 5 719 (List.range 5) = true := by decide +kernel
set_option maxRecDepth 100000 in
theorem gd_6 : gd 6 719 (List.range 6) = true := by decide +kernel
