def pw (k : Nat) : Int64 := (1 : Int64) <<< ((nI k).toInt64 &&& 63)
