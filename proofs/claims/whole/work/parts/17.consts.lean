-- constants of the instructions
theorem bp6 : (Int8.ofInt 6).toInt32 = 6 := by decide
theorem bp7 : (Int8.ofInt 7).toInt32 = 7 := by decide
theorem bp8 : (Int8.ofInt 8).toInt32 = 8 := by decide
theorem bp9 : (Int8.ofInt 9).toInt32 = 9 := by decide
theorem bp10 : (Int8.ofInt 10).toInt32 = 10 := by decide
theorem bp12 : (Int8.ofInt 12).toInt32 = 12 := by decide
theorem bp15 : (Int8.ofInt 15).toInt32 = 15 := by decide
theorem bp16 : (Int8.ofInt 16).toInt32 = 16 := by decide
theorem bp20 : (Int8.ofInt 20).toInt32 = 20 := by decide
theorem bp30 : (Int8.ofInt 30).toInt32 = 30 := by decide
theorem bp32 : (Int8.ofInt 32).toInt32 = 32 := by decide
theorem bp39 : (Int8.ofInt 39).toInt32 = 39 := by decide
theorem bp40 : (Int8.ofInt 40).toInt32 = 40 := by decide
theorem bp48 : (Int8.ofInt 48).toInt32 = 48 := by decide
theorem bp50 : (Int8.ofInt 50).toInt32 = 50 := by decide
theorem bp57 : (Int8.ofInt 57).toInt32 = 57 := by decide
theorem bp59 : (Int8.ofInt 59).toInt32 = 59 := by decide
theorem bp60 : (Int8.ofInt 60).toInt32 = 60 := by decide
theorem bp63 : (Int8.ofInt 63).toInt32 = 63 := by decide
theorem bp64 : (Int8.ofInt 64).toInt32 = 64 := by decide
theorem bp78 : (Int8.ofInt 78).toInt32 = 78 := by decide
theorem bp96 : (Int8.ofInt 96).toInt32 = 96 := by decide
theorem bp97 : (Int8.ofInt 97).toInt32 = 97 := by decide
theorem bp99 : (Int8.ofInt 99).toInt32 = 99 := by decide
theorem bp100 : (Int8.ofInt 100).toInt32 = 100 := by decide
theorem bp120 : (Int8.ofInt 120).toInt32 = 120 := by decide
theorem bp122 : (Int8.ofInt 122).toInt32 = 122 := by decide
theorem icm1 : Int32.ofInt (-1) = (-1) := by decide
theorem ic0 : Int32.ofInt 0 = 0 := by decide
theorem ic1 : Int32.ofInt 1 = 1 := by decide
theorem ic2 : Int32.ofInt 2 = 2 := by decide
theorem ic3 : Int32.ofInt 3 = 3 := by decide
theorem ic4 : Int32.ofInt 4 = 4 := by decide
theorem ic5 : Int32.ofInt 5 = 5 := by decide
theorem ic8 : Int32.ofInt 8 = 8 := by decide
theorem ic16 : Int32.ofInt 16 = 16 := by decide
theorem sp138 : (Int16.ofInt 138).toInt32 = 138 := by decide
theorem sp150 : (Int16.ofInt 150).toInt32 = 150 := by decide
theorem sp255 : (Int16.ofInt 255).toInt32 = 255 := by decide
theorem sp256 : (Int16.ofInt 256).toInt32 = 256 := by decide
theorem sp600 : (Int16.ofInt 600).toInt32 = 600 := by decide
theorem sp720 : (Int16.ofInt 720).toInt32 = 720 := by decide
theorem sp999 : (Int16.ofInt 999).toInt32 = 999 := by decide
theorem sp1000 : (Int16.ofInt 1000).toInt32 = 1000 := by decide
theorem nz0 : narrow .boolean (.int 0) = .int 0 := by decide
theorem nz1 : narrow .boolean (.int 1) = .int 1 := by decide
theorem fz0 : fits .boolean (.int 0) = true := by decide
theorem fz1 : fits .boolean (.int 1) = true := by decide
