def f_J9_floorDiv_f86c9 (x0 : Int64) (x2 : Int64) : Option Int64 :=
  nzL x2 (if 0 ≤ (x0 ^^^ x2) then some ((x0 / x2))
  else if ((x0 / x2) * x2) = x0 then some ((x0 / x2))
    else some (((x0 / x2) - 1)))
def f_J9_max_7cf53 (x0 : Int32) (x1 : Int32) : Option Int32 :=
  if x0 < x1 then some x1
  else some x0
def f_J9_max_f86c9 (x0 : Int64) (x2 : Int64) : Option Int64 :=
  if x0 < x2 then some x2
  else some x0
def f_J9_min_7cf53 (x0 : Int32) (x1 : Int32) : Option Int32 :=
  if x1 < x0 then some x1
  else some x0
def f_J9_min_f86c9 (x0 : Int64) (x2 : Int64) : Option Int64 :=
  if x2 < x0 then some x2
  else some x0
