theorem op_chapel {A : St} (ho : ok A) (x : Int32) : opx 249 155 [.int x] A 2 := sorry
