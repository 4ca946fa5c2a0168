-- the order
theorem tst54 : 1 + 1 = 2 := rfl
