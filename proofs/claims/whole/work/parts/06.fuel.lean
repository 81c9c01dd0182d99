def kfu : Nat := 2000
