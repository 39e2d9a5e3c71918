/-! a name of the whole library, ahead of all: the round is read over the whole of it from the start (the steps of rows of rows need it) -/
theorem wide_on : True := (fun _ => trivial) (@Jvm.Stand.multianewarray2F)
