theorem za : Nat.ble 0 (Nat.rec (fun T => T.1) (fun _ ih T => sy_setk T 700 sxk18 ih) 1000 sxTC : Nat) = true := by decide +kernel
