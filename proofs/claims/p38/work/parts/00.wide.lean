/-! FIRST: a name of the rest of the library (21 stands on it), so that a round is read over the whole of it from its first part on -/
theorem wide_1 : True := (fun _ => trivial) @Jvm.Free.Multi.outerC
