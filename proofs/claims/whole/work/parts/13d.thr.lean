def aThr (_mi _pc : Nat) : Option String := none
