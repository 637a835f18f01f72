def pb_o (c : ClassId) (N h0 i : Nat) : Cell := Jvm.Free.Multi.outerC c N h0 i
