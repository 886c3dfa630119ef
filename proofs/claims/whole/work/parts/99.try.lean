theorem tr_1 : vwCl.length = 10 := rfl
